section
-- ===== PART A: goes FIRST, ahead of the names: the tables' words, and 'selects' of the private methods out of them =====
/-- a private method of a class that the tables say can be made, by its rows of tables_1 -/
def lw_okq (q : MethodName × Nat) : Prop := (q.1.cls ≠ "java/lang/invoke/MethodHandle" ∧ q.1.cls ≠ "java/lang/invoke/VarHandle") ∧ Cond.instantiable q.1.cls q.2 ∈ tables_1 ∧ Cond.privateMethod q.1 ∈ tables_1 ∧ Cond.instanceMethod q.1 ∈ tables_1
theorem lw_p0 : lw_okq (⟨"MayNotPause", "scriptOf", "(I)LMayNotPause$Script;"⟩, 12) := ⟨⟨by decide +kernel, by decide +kernel⟩, List.mem_of_getElem? (i := 14) (by decide +kernel), List.mem_of_getElem? (i := 292) (by decide +kernel), List.mem_of_getElem? (i := 293) (by decide +kernel)⟩
theorem lw_p1 : lw_okq (⟨"MayNotPause$Script", "settle", "()V"⟩, 4) := ⟨⟨by decide +kernel, by decide +kernel⟩, List.mem_of_getElem? (i := 22) (by decide +kernel), List.mem_of_getElem? (i := 305) (by decide +kernel), List.mem_of_getElem? (i := 306) (by decide +kernel)⟩
theorem lw_p2 : lw_okq (⟨"MayNotPause$Script", "firstFlaw", "()I"⟩, 4) := ⟨⟨by decide +kernel, by decide +kernel⟩, List.mem_of_getElem? (i := 22) (by decide +kernel), List.mem_of_getElem? (i := 309) (by decide +kernel), List.mem_of_getElem? (i := 310) (by decide +kernel)⟩
theorem lw_p3 : lw_okq (⟨"MayNotPause", "tellAnew", "()V"⟩, 12) := ⟨⟨by decide +kernel, by decide +kernel⟩, List.mem_of_getElem? (i := 14) (by decide +kernel), List.mem_of_getElem? (i := 319) (by decide +kernel), List.mem_of_getElem? (i := 320) (by decide +kernel)⟩
theorem lw_p4 : lw_okq (⟨"MayNotPause$Turn", "comeToNothing", "()V"⟩, 15) := ⟨⟨by decide +kernel, by decide +kernel⟩, List.mem_of_getElem? (i := 54) (by decide +kernel), List.mem_of_getElem? (i := 331) (by decide +kernel), List.mem_of_getElem? (i := 332) (by decide +kernel)⟩
theorem lw_p5 : lw_okq (⟨"MayNotPause$Telling", "howManyOf", "(I)I"⟩, 4) := ⟨⟨by decide +kernel, by decide +kernel⟩, List.mem_of_getElem? (i := 48) (by decide +kernel), List.mem_of_getElem? (i := 351) (by decide +kernel), List.mem_of_getElem? (i := 352) (by decide +kernel)⟩
theorem lw_p6 : lw_okq (⟨"MayNotPause", "isVerse", "(I)Z"⟩, 12) := ⟨⟨by decide +kernel, by decide +kernel⟩, List.mem_of_getElem? (i := 14) (by decide +kernel), List.mem_of_getElem? (i := 412) (by decide +kernel), List.mem_of_getElem? (i := 413) (by decide +kernel)⟩
theorem lw_p7 : lw_okq (⟨"MayNotPause$PutSearch", "attempt", "(IIIII)V"⟩, 5) := ⟨⟨by decide +kernel, by decide +kernel⟩, List.mem_of_getElem? (i := 146) (by decide +kernel), List.mem_of_getElem? (i := 471) (by decide +kernel), List.mem_of_getElem? (i := 472) (by decide +kernel)⟩
theorem lw_p8 : lw_okq (⟨"MayNotPause$PutSearch", "seekOne", "()V"⟩, 5) := ⟨⟨by decide +kernel, by decide +kernel⟩, List.mem_of_getElem? (i := 146) (by decide +kernel), List.mem_of_getElem? (i := 482) (by decide +kernel), List.mem_of_getElem? (i := 483) (by decide +kernel)⟩
theorem lw_p9 : lw_okq (⟨"MayNotPause$PutSearch", "seekTwo", "()V"⟩, 5) := ⟨⟨by decide +kernel, by decide +kernel⟩, List.mem_of_getElem? (i := 146) (by decide +kernel), List.mem_of_getElem? (i := 486) (by decide +kernel), List.mem_of_getElem? (i := 487) (by decide +kernel)⟩
theorem lw_p10 : lw_okq (⟨"MayNotPause$OrderSearch", "keep", "()V"⟩, 9) := ⟨⟨by decide +kernel, by decide +kernel⟩, List.mem_of_getElem? (i := 169) (by decide +kernel), List.mem_of_getElem? (i := 510) (by decide +kernel), List.mem_of_getElem? (i := 511) (by decide +kernel)⟩
theorem lw_p11 : lw_okq (⟨"MayNotPause$OrderSearch", "mayBeBest", "()Z"⟩, 9) := ⟨⟨by decide +kernel, by decide +kernel⟩, List.mem_of_getElem? (i := 169) (by decide +kernel), List.mem_of_getElem? (i := 516) (by decide +kernel), List.mem_of_getElem? (i := 517) (by decide +kernel)⟩
theorem lw_p12 : lw_okq (⟨"MayNotPause", "sixteenths", "(I)I"⟩, 12) := ⟨⟨by decide +kernel, by decide +kernel⟩, List.mem_of_getElem? (i := 14) (by decide +kernel), List.mem_of_getElem? (i := 538) (by decide +kernel), List.mem_of_getElem? (i := 539) (by decide +kernel)⟩
theorem lw_p13 : lw_okq (⟨"MayNotPause", "errorsBy", "(II)I"⟩, 12) := ⟨⟨by decide +kernel, by decide +kernel⟩, List.mem_of_getElem? (i := 14) (by decide +kernel), List.mem_of_getElem? (i := 554) (by decide +kernel), List.mem_of_getElem? (i := 555) (by decide +kernel)⟩
theorem lw_p14 : lw_okq (⟨"MayNotPause", "bestLine", "()I"⟩, 12) := ⟨⟨by decide +kernel, by decide +kernel⟩, List.mem_of_getElem? (i := 14) (by decide +kernel), List.mem_of_getElem? (i := 558) (by decide +kernel), List.mem_of_getElem? (i := 559) (by decide +kernel)⟩
theorem lw_p15 : lw_okq (⟨"MayNotPause", "found", "(I)I"⟩, 12) := ⟨⟨by decide +kernel, by decide +kernel⟩, List.mem_of_getElem? (i := 14) (by decide +kernel), List.mem_of_getElem? (i := 598) (by decide +kernel), List.mem_of_getElem? (i := 599) (by decide +kernel)⟩
def lw_privs_1 : List (MethodName × Nat) := [(⟨"MayNotPause", "scriptOf", "(I)LMayNotPause$Script;"⟩, 12), (⟨"MayNotPause$Script", "settle", "()V"⟩, 4), (⟨"MayNotPause$Script", "firstFlaw", "()I"⟩, 4), (⟨"MayNotPause", "tellAnew", "()V"⟩, 12), (⟨"MayNotPause$Turn", "comeToNothing", "()V"⟩, 15), (⟨"MayNotPause$Telling", "howManyOf", "(I)I"⟩, 4), (⟨"MayNotPause", "isVerse", "(I)Z"⟩, 12), (⟨"MayNotPause$PutSearch", "attempt", "(IIIII)V"⟩, 5), (⟨"MayNotPause$PutSearch", "seekOne", "()V"⟩, 5), (⟨"MayNotPause$PutSearch", "seekTwo", "()V"⟩, 5), (⟨"MayNotPause$OrderSearch", "keep", "()V"⟩, 9), (⟨"MayNotPause$OrderSearch", "mayBeBest", "()Z"⟩, 9), (⟨"MayNotPause", "sixteenths", "(I)I"⟩, 12), (⟨"MayNotPause", "errorsBy", "(II)I"⟩, 12), (⟨"MayNotPause", "bestLine", "()I"⟩, 12), (⟨"MayNotPause", "found", "(I)I"⟩, 12)]
theorem lw_r1 : ∀ q ∈ lw_privs_1, lw_okq q := List.forall_mem_cons.mpr ⟨lw_p0, List.forall_mem_cons.mpr ⟨lw_p1, List.forall_mem_cons.mpr ⟨lw_p2, List.forall_mem_cons.mpr ⟨lw_p3, List.forall_mem_cons.mpr ⟨lw_p4, List.forall_mem_cons.mpr ⟨lw_p5, List.forall_mem_cons.mpr ⟨lw_p6, List.forall_mem_cons.mpr ⟨lw_p7, List.forall_mem_cons.mpr ⟨lw_p8, List.forall_mem_cons.mpr ⟨lw_p9, List.forall_mem_cons.mpr ⟨lw_p10, List.forall_mem_cons.mpr ⟨lw_p11, List.forall_mem_cons.mpr ⟨lw_p12, List.forall_mem_cons.mpr ⟨lw_p13, List.forall_mem_cons.mpr ⟨lw_p14, List.forall_mem_cons.mpr ⟨lw_p15, fun _ h => absurd h List.not_mem_nil⟩⟩⟩⟩⟩⟩⟩⟩⟩⟩⟩⟩⟩⟩⟩⟩
theorem lw_p16 : lw_okq (⟨"MayNotPause", "digestOfVerse", "(JI)J"⟩, 12) := ⟨⟨by decide +kernel, by decide +kernel⟩, List.mem_of_getElem? (i := 14) (by decide +kernel), List.mem_of_getElem? (i := 676) (by decide +kernel), List.mem_of_getElem? (i := 677) (by decide +kernel)⟩
theorem lw_p17 : lw_okq (⟨"MayNotPause", "digestOfBreaths", "(J)J"⟩, 12) := ⟨⟨by decide +kernel, by decide +kernel⟩, List.mem_of_getElem? (i := 14) (by decide +kernel), List.mem_of_getElem? (i := 683) (by decide +kernel), List.mem_of_getElem? (i := 684) (by decide +kernel)⟩
theorem lw_p18 : lw_okq (⟨"MayNotPauseModel", "met", "(I)I"⟩, 30) := ⟨⟨by decide +kernel, by decide +kernel⟩, List.mem_of_getElem? (i := 697) (by decide +kernel), List.mem_of_getElem? (i := 806) (by decide +kernel), List.mem_of_getElem? (i := 807) (by decide +kernel)⟩
theorem lw_p19 : lw_okq (⟨"MayNotPauseModel", "lacks", "(III)I"⟩, 30) := ⟨⟨by decide +kernel, by decide +kernel⟩, List.mem_of_getElem? (i := 697) (by decide +kernel), List.mem_of_getElem? (i := 818) (by decide +kernel), List.mem_of_getElem? (i := 819) (by decide +kernel)⟩
theorem lw_p20 : lw_okq (⟨"MayNotPauseModel", "readsText", "(I)I"⟩, 30) := ⟨⟨by decide +kernel, by decide +kernel⟩, List.mem_of_getElem? (i := 697) (by decide +kernel), List.mem_of_getElem? (i := 850) (by decide +kernel), List.mem_of_getElem? (i := 851) (by decide +kernel)⟩
theorem lw_p21 : lw_okq (⟨"MayNotPauseModel", "readsVerse", "(I)Z"⟩, 30) := ⟨⟨by decide +kernel, by decide +kernel⟩, List.mem_of_getElem? (i := 697) (by decide +kernel), List.mem_of_getElem? (i := 854) (by decide +kernel), List.mem_of_getElem? (i := 855) (by decide +kernel)⟩
theorem lw_p22 : lw_okq (⟨"MayNotPauseModel", "here", "(I)I"⟩, 30) := ⟨⟨by decide +kernel, by decide +kernel⟩, List.mem_of_getElem? (i := 697) (by decide +kernel), List.mem_of_getElem? (i := 858) (by decide +kernel), List.mem_of_getElem? (i := 859) (by decide +kernel)⟩
theorem lw_p23 : lw_okq (⟨"MayNotPauseModel", "find", "()V"⟩, 30) := ⟨⟨by decide +kernel, by decide +kernel⟩, List.mem_of_getElem? (i := 697) (by decide +kernel), List.mem_of_getElem? (i := 882) (by decide +kernel), List.mem_of_getElem? (i := 883) (by decide +kernel)⟩
theorem lw_p24 : lw_okq (⟨"MayNotPauseModel", "plain", "()V"⟩, 30) := ⟨⟨by decide +kernel, by decide +kernel⟩, List.mem_of_getElem? (i := 697) (by decide +kernel), List.mem_of_getElem? (i := 886) (by decide +kernel), List.mem_of_getElem? (i := 887) (by decide +kernel)⟩
theorem lw_p25 : lw_okq (⟨"MayNotPauseModel", "says", "(III)V"⟩, 30) := ⟨⟨by decide +kernel, by decide +kernel⟩, List.mem_of_getElem? (i := 697) (by decide +kernel), List.mem_of_getElem? (i := 890) (by decide +kernel), List.mem_of_getElem? (i := 891) (by decide +kernel)⟩
theorem lw_p26 : lw_okq (⟨"MayNotPauseModel", "counts", "()V"⟩, 30) := ⟨⟨by decide +kernel, by decide +kernel⟩, List.mem_of_getElem? (i := 697) (by decide +kernel), List.mem_of_getElem? (i := 894) (by decide +kernel), List.mem_of_getElem? (i := 895) (by decide +kernel)⟩
theorem lw_p27 : lw_okq (⟨"MayNotPauseModel", "kindAt", "(I)I"⟩, 30) := ⟨⟨by decide +kernel, by decide +kernel⟩, List.mem_of_getElem? (i := 697) (by decide +kernel), List.mem_of_getElem? (i := 898) (by decide +kernel), List.mem_of_getElem? (i := 899) (by decide +kernel)⟩
theorem lw_p28 : lw_okq (⟨"MayNotPauseModel", "sayAt", "(I)I"⟩, 30) := ⟨⟨by decide +kernel, by decide +kernel⟩, List.mem_of_getElem? (i := 697) (by decide +kernel), List.mem_of_getElem? (i := 905) (by decide +kernel), List.mem_of_getElem? (i := 906) (by decide +kernel)⟩
theorem lw_p29 : lw_okq (⟨"MayNotPauseModel", "isVerse", "(I)Z"⟩, 30) := ⟨⟨by decide +kernel, by decide +kernel⟩, List.mem_of_getElem? (i := 697) (by decide +kernel), List.mem_of_getElem? (i := 909) (by decide +kernel), List.mem_of_getElem? (i := 910) (by decide +kernel)⟩
theorem lw_p30 : lw_okq (⟨"MayNotPauseModel", "verseOf", "(II)I"⟩, 30) := ⟨⟨by decide +kernel, by decide +kernel⟩, List.mem_of_getElem? (i := 697) (by decide +kernel), List.mem_of_getElem? (i := 913) (by decide +kernel), List.mem_of_getElem? (i := 914) (by decide +kernel)⟩
theorem lw_p31 : lw_okq (⟨"MayNotPauseModel", "whenOf", "(II)I"⟩, 30) := ⟨⟨by decide +kernel, by decide +kernel⟩, List.mem_of_getElem? (i := 697) (by decide +kernel), List.mem_of_getElem? (i := 922) (by decide +kernel), List.mem_of_getElem? (i := 923) (by decide +kernel)⟩
def lw_privs_2 : List (MethodName × Nat) := [(⟨"MayNotPause", "digestOfVerse", "(JI)J"⟩, 12), (⟨"MayNotPause", "digestOfBreaths", "(J)J"⟩, 12), (⟨"MayNotPauseModel", "met", "(I)I"⟩, 30), (⟨"MayNotPauseModel", "lacks", "(III)I"⟩, 30), (⟨"MayNotPauseModel", "readsText", "(I)I"⟩, 30), (⟨"MayNotPauseModel", "readsVerse", "(I)Z"⟩, 30), (⟨"MayNotPauseModel", "here", "(I)I"⟩, 30), (⟨"MayNotPauseModel", "find", "()V"⟩, 30), (⟨"MayNotPauseModel", "plain", "()V"⟩, 30), (⟨"MayNotPauseModel", "says", "(III)V"⟩, 30), (⟨"MayNotPauseModel", "counts", "()V"⟩, 30), (⟨"MayNotPauseModel", "kindAt", "(I)I"⟩, 30), (⟨"MayNotPauseModel", "sayAt", "(I)I"⟩, 30), (⟨"MayNotPauseModel", "isVerse", "(I)Z"⟩, 30), (⟨"MayNotPauseModel", "verseOf", "(II)I"⟩, 30), (⟨"MayNotPauseModel", "whenOf", "(II)I"⟩, 30)]
theorem lw_r2 : ∀ q ∈ lw_privs_2, lw_okq q := List.forall_mem_cons.mpr ⟨lw_p16, List.forall_mem_cons.mpr ⟨lw_p17, List.forall_mem_cons.mpr ⟨lw_p18, List.forall_mem_cons.mpr ⟨lw_p19, List.forall_mem_cons.mpr ⟨lw_p20, List.forall_mem_cons.mpr ⟨lw_p21, List.forall_mem_cons.mpr ⟨lw_p22, List.forall_mem_cons.mpr ⟨lw_p23, List.forall_mem_cons.mpr ⟨lw_p24, List.forall_mem_cons.mpr ⟨lw_p25, List.forall_mem_cons.mpr ⟨lw_p26, List.forall_mem_cons.mpr ⟨lw_p27, List.forall_mem_cons.mpr ⟨lw_p28, List.forall_mem_cons.mpr ⟨lw_p29, List.forall_mem_cons.mpr ⟨lw_p30, List.forall_mem_cons.mpr ⟨lw_p31, fun _ h => absurd h List.not_mem_nil⟩⟩⟩⟩⟩⟩⟩⟩⟩⟩⟩⟩⟩⟩⟩⟩
theorem lw_p32 : lw_okq (⟨"MayNotPauseModel", "poemOf", "(I)I"⟩, 30) := ⟨⟨by decide +kernel, by decide +kernel⟩, List.mem_of_getElem? (i := 697) (by decide +kernel), List.mem_of_getElem? (i := 930) (by decide +kernel), List.mem_of_getElem? (i := 931) (by decide +kernel)⟩
theorem lw_p33 : lw_okq (⟨"MayNotPauseModel", "judgedNow", "()I"⟩, 30) := ⟨⟨by decide +kernel, by decide +kernel⟩, List.mem_of_getElem? (i := 697) (by decide +kernel), List.mem_of_getElem? (i := 938) (by decide +kernel), List.mem_of_getElem? (i := 939) (by decide +kernel)⟩
theorem lw_p34 : lw_okq (⟨"MayNotPauseModel", "restOf", "(I)I"⟩, 30) := ⟨⟨by decide +kernel, by decide +kernel⟩, List.mem_of_getElem? (i := 697) (by decide +kernel), List.mem_of_getElem? (i := 946) (by decide +kernel), List.mem_of_getElem? (i := 947) (by decide +kernel)⟩
theorem lw_p35 : lw_okq (⟨"MayNotPauseModel", "freeAhead", "(II)I"⟩, 30) := ⟨⟨by decide +kernel, by decide +kernel⟩, List.mem_of_getElem? (i := 697) (by decide +kernel), List.mem_of_getElem? (i := 950) (by decide +kernel), List.mem_of_getElem? (i := 951) (by decide +kernel)⟩
theorem lw_p36 : lw_okq (⟨"MayNotPauseModel", "isFree", "(I)Z"⟩, 30) := ⟨⟨by decide +kernel, by decide +kernel⟩, List.mem_of_getElem? (i := 697) (by decide +kernel), List.mem_of_getElem? (i := 954) (by decide +kernel), List.mem_of_getElem? (i := 955) (by decide +kernel)⟩
theorem lw_p37 : lw_okq (⟨"MayNotPauseModel", "doingOf", "(II)I"⟩, 30) := ⟨⟨by decide +kernel, by decide +kernel⟩, List.mem_of_getElem? (i := 697) (by decide +kernel), List.mem_of_getElem? (i := 963) (by decide +kernel), List.mem_of_getElem? (i := 964) (by decide +kernel)⟩
theorem lw_p38 : lw_okq (⟨"MayNotPauseModel", "saysIn", "(I)I"⟩, 30) := ⟨⟨by decide +kernel, by decide +kernel⟩, List.mem_of_getElem? (i := 697) (by decide +kernel), List.mem_of_getElem? (i := 967) (by decide +kernel), List.mem_of_getElem? (i := 968) (by decide +kernel)⟩
theorem lw_p39 : lw_okq (⟨"MayNotPauseModel", "makesIn", "(II)I"⟩, 30) := ⟨⟨by decide +kernel, by decide +kernel⟩, List.mem_of_getElem? (i := 697) (by decide +kernel), List.mem_of_getElem? (i := 971) (by decide +kernel), List.mem_of_getElem? (i := 972) (by decide +kernel)⟩
theorem lw_p40 : lw_okq (⟨"MayNotPauseModel", "hasIn", "(I)I"⟩, 30) := ⟨⟨by decide +kernel, by decide +kernel⟩, List.mem_of_getElem? (i := 697) (by decide +kernel), List.mem_of_getElem? (i := 975) (by decide +kernel), List.mem_of_getElem? (i := 976) (by decide +kernel)⟩
theorem lw_p41 : lw_okq (⟨"MayNotPauseModel", "findPut", "()V"⟩, 30) := ⟨⟨by decide +kernel, by decide +kernel⟩, List.mem_of_getElem? (i := 697) (by decide +kernel), List.mem_of_getElem? (i := 983) (by decide +kernel), List.mem_of_getElem? (i := 984) (by decide +kernel)⟩
theorem lw_p42 : lw_okq (⟨"MayNotPauseModel", "looks", "(IIIII)V"⟩, 30) := ⟨⟨by decide +kernel, by decide +kernel⟩, List.mem_of_getElem? (i := 697) (by decide +kernel), List.mem_of_getElem? (i := 987) (by decide +kernel), List.mem_of_getElem? (i := 988) (by decide +kernel)⟩
theorem lw_p43 : lw_okq (⟨"MayNotPauseModel", "lays", "(IIII)V"⟩, 30) := ⟨⟨by decide +kernel, by decide +kernel⟩, List.mem_of_getElem? (i := 697) (by decide +kernel), List.mem_of_getElem? (i := 991) (by decide +kernel), List.mem_of_getElem? (i := 992) (by decide +kernel)⟩
theorem lw_p44 : lw_okq (⟨"MayNotPauseModel", "findOrder", "()V"⟩, 30) := ⟨⟨by decide +kernel, by decide +kernel⟩, List.mem_of_getElem? (i := 697) (by decide +kernel), List.mem_of_getElem? (i := 1001) (by decide +kernel), List.mem_of_getElem? (i := 1002) (by decide +kernel)⟩
theorem lw_p45 : lw_okq (⟨"MayNotPauseModel", "unfolds", "(II)V"⟩, 30) := ⟨⟨by decide +kernel, by decide +kernel⟩, List.mem_of_getElem? (i := 697) (by decide +kernel), List.mem_of_getElem? (i := 1008) (by decide +kernel), List.mem_of_getElem? (i := 1009) (by decide +kernel)⟩
theorem lw_p46 : lw_okq (⟨"MayNotPauseModel", "tellsOrder", "(I)I"⟩, 30) := ⟨⟨by decide +kernel, by decide +kernel⟩, List.mem_of_getElem? (i := 697) (by decide +kernel), List.mem_of_getElem? (i := 1012) (by decide +kernel), List.mem_of_getElem? (i := 1013) (by decide +kernel)⟩
theorem lw_p47 : lw_okq (⟨"MayNotPauseModel", "leadNow", "()I"⟩, 30) := ⟨⟨by decide +kernel, by decide +kernel⟩, List.mem_of_getElem? (i := 697) (by decide +kernel), List.mem_of_getElem? (i := 1020) (by decide +kernel), List.mem_of_getElem? (i := 1021) (by decide +kernel)⟩
def lw_privs_3 : List (MethodName × Nat) := [(⟨"MayNotPauseModel", "poemOf", "(I)I"⟩, 30), (⟨"MayNotPauseModel", "judgedNow", "()I"⟩, 30), (⟨"MayNotPauseModel", "restOf", "(I)I"⟩, 30), (⟨"MayNotPauseModel", "freeAhead", "(II)I"⟩, 30), (⟨"MayNotPauseModel", "isFree", "(I)Z"⟩, 30), (⟨"MayNotPauseModel", "doingOf", "(II)I"⟩, 30), (⟨"MayNotPauseModel", "saysIn", "(I)I"⟩, 30), (⟨"MayNotPauseModel", "makesIn", "(II)I"⟩, 30), (⟨"MayNotPauseModel", "hasIn", "(I)I"⟩, 30), (⟨"MayNotPauseModel", "findPut", "()V"⟩, 30), (⟨"MayNotPauseModel", "looks", "(IIIII)V"⟩, 30), (⟨"MayNotPauseModel", "lays", "(IIII)V"⟩, 30), (⟨"MayNotPauseModel", "findOrder", "()V"⟩, 30), (⟨"MayNotPauseModel", "unfolds", "(II)V"⟩, 30), (⟨"MayNotPauseModel", "tellsOrder", "(I)I"⟩, 30), (⟨"MayNotPauseModel", "leadNow", "()I"⟩, 30)]
theorem lw_r3 : ∀ q ∈ lw_privs_3, lw_okq q := List.forall_mem_cons.mpr ⟨lw_p32, List.forall_mem_cons.mpr ⟨lw_p33, List.forall_mem_cons.mpr ⟨lw_p34, List.forall_mem_cons.mpr ⟨lw_p35, List.forall_mem_cons.mpr ⟨lw_p36, List.forall_mem_cons.mpr ⟨lw_p37, List.forall_mem_cons.mpr ⟨lw_p38, List.forall_mem_cons.mpr ⟨lw_p39, List.forall_mem_cons.mpr ⟨lw_p40, List.forall_mem_cons.mpr ⟨lw_p41, List.forall_mem_cons.mpr ⟨lw_p42, List.forall_mem_cons.mpr ⟨lw_p43, List.forall_mem_cons.mpr ⟨lw_p44, List.forall_mem_cons.mpr ⟨lw_p45, List.forall_mem_cons.mpr ⟨lw_p46, List.forall_mem_cons.mpr ⟨lw_p47, fun _ h => absurd h List.not_mem_nil⟩⟩⟩⟩⟩⟩⟩⟩⟩⟩⟩⟩⟩⟩⟩⟩
theorem lw_p48 : lw_okq (⟨"MayNotPauseModel", "oddsOf", "(I)J"⟩, 30) := ⟨⟨by decide +kernel, by decide +kernel⟩, List.mem_of_getElem? (i := 697) (by decide +kernel), List.mem_of_getElem? (i := 1028) (by decide +kernel), List.mem_of_getElem? (i := 1029) (by decide +kernel)⟩
theorem lw_p49 : lw_okq (⟨"MayNotPauseModel", "drawnOf", "(I)I"⟩, 30) := ⟨⟨by decide +kernel, by decide +kernel⟩, List.mem_of_getElem? (i := 697) (by decide +kernel), List.mem_of_getElem? (i := 1044) (by decide +kernel), List.mem_of_getElem? (i := 1045) (by decide +kernel)⟩
theorem lw_p50 : lw_okq (⟨"MayNotPauseModel", "lineOf", "(II)I"⟩, 30) := ⟨⟨by decide +kernel, by decide +kernel⟩, List.mem_of_getElem? (i := 697) (by decide +kernel), List.mem_of_getElem? (i := 1055) (by decide +kernel), List.mem_of_getElem? (i := 1056) (by decide +kernel)⟩
theorem lw_p51 : lw_okq (⟨"MayNotPauseModel", "errors", "(II)I"⟩, 30) := ⟨⟨by decide +kernel, by decide +kernel⟩, List.mem_of_getElem? (i := 697) (by decide +kernel), List.mem_of_getElem? (i := 1059) (by decide +kernel), List.mem_of_getElem? (i := 1060) (by decide +kernel)⟩
theorem lw_p52 : lw_okq (⟨"MayNotPauseModel", "leadsNow", "()I"⟩, 30) := ⟨⟨by decide +kernel, by decide +kernel⟩, List.mem_of_getElem? (i := 697) (by decide +kernel), List.mem_of_getElem? (i := 1084) (by decide +kernel), List.mem_of_getElem? (i := 1085) (by decide +kernel)⟩
def lw_privs_4 : List (MethodName × Nat) := [(⟨"MayNotPauseModel", "oddsOf", "(I)J"⟩, 30), (⟨"MayNotPauseModel", "drawnOf", "(I)I"⟩, 30), (⟨"MayNotPauseModel", "lineOf", "(II)I"⟩, 30), (⟨"MayNotPauseModel", "errors", "(II)I"⟩, 30), (⟨"MayNotPauseModel", "leadsNow", "()I"⟩, 30)]
theorem lw_r4 : ∀ q ∈ lw_privs_4, lw_okq q := List.forall_mem_cons.mpr ⟨lw_p48, List.forall_mem_cons.mpr ⟨lw_p49, List.forall_mem_cons.mpr ⟨lw_p50, List.forall_mem_cons.mpr ⟨lw_p51, List.forall_mem_cons.mpr ⟨lw_p52, fun _ h => absurd h List.not_mem_nil⟩⟩⟩⟩⟩
def lw_privs : List (MethodName × Nat) := lw_privs_1 ++ (lw_privs_2 ++ (lw_privs_3 ++ (lw_privs_4)))
def lw_tbl : List Cond := k2_sels lw_privs ++ tables_1
theorem lw_privs_ok : ∀ q ∈ lw_privs, lw_okq q := by
  show ∀ q ∈ lw_privs_1 ++ (lw_privs_2 ++ (lw_privs_3 ++ (lw_privs_4))), lw_okq q
  exact List.forall_mem_append.mpr ⟨lw_r1, List.forall_mem_append.mpr ⟨lw_r2, List.forall_mem_append.mpr ⟨lw_r3, lw_r4⟩⟩⟩

def RX0 : String := "MayNotPause$OrderSearch"
def TX0 : u_T := fun k => match k with
  | 0 => ("MayNotPause$OrderSearch", "trial", "LMayNotPause$Telling;", true)
  | 1 => ("MayNotPause$OrderSearch", "verses", "LMayNotPause$Script;", true)
  | 2 => ("MayNotPause$OrderSearch", "settings", "[I", true)
  | 3 => ("MayNotPause$OrderSearch", "row", "[I", true)
  | 4 => ("MayNotPause$OrderSearch", "best", "[I", true)
  | 5 => ("MayNotPause$OrderSearch", "taken", "[Z", true)
  | 6 => ("MayNotPause$OrderSearch", "size", "I", false)
  | 7 => ("MayNotPause$OrderSearch", "leastPauses", "I", false)
  | _ => ("MayNotPause$OrderSearch", "leastLong", "I", false)
def tyX0 : Nat → FieldType := fun k => match k with
  | 0 => .object "MayNotPause$Telling"
  | 1 => .object "MayNotPause$Script"
  | 2 => .array .int
  | 3 => .array .int
  | 4 => .array .int
  | 5 => .array .boolean
  | 6 => .int
  | 7 => .int
  | _ => .int
abbrev wsX00 : List Cond := u_ws RX0 TX0 9
theorem nmX0 : ∀ a, a < 9 → ∀ b, b < 9 → a ≠ b → (TX0 a).2.1 ≠ (TX0 b).2.1 := by decide +kernel
theorem tyX0_ok : ∀ k, k < 9 → parseFieldDescriptor (TX0 k).2.2.1 = some (tyX0 k) := by decide +kernel
abbrev cX0_init : ByteArray := prog_2_method_1_code
def yX0_init : MethodName := ⟨RX0, "<init>", "(LMayNotPause$Telling;LMayNotPause$Script;[I)V"⟩
abbrev cX0_seek : ByteArray := prog_2_method_2_code
def yX0_seek : MethodName := ⟨RX0, "seek", "()V"⟩
abbrev cX0_placeFrom : ByteArray := prog_2_method_3_code
def yX0_placeFrom : MethodName := ⟨RX0, "placeFrom", "(LMayNotPause$OrderSearch;I)V"⟩
abbrev cX0_mayBeBest : ByteArray := prog_2_method_4_code
def yX0_mayBeBest : MethodName := ⟨RX0, "mayBeBest", "()Z"⟩
abbrev cX0_keep : ByteArray := prog_2_method_5_code
def yX0_keep : MethodName := ⟨RX0, "keep", "()V"⟩
def RX1 : String := "MayNotPause$PutSearch"
def TX1 : u_T := fun k => match k with
  | 0 => ("MayNotPause$PutSearch", "trial", "LMayNotPause$Telling;", true)
  | 1 => ("MayNotPause$PutSearch", "verses", "LMayNotPause$Script;", true)
  | 2 => ("MayNotPause$PutSearch", "hards", "LMayNotPause$Script;", true)
  | 3 => ("MayNotPause$PutSearch", "settings", "[I", true)
  | _ => ("MayNotPause$PutSearch", "best", "[I", true)
def tyX1 : Nat → FieldType := fun k => match k with
  | 0 => .object "MayNotPause$Telling"
  | 1 => .object "MayNotPause$Script"
  | 2 => .object "MayNotPause$Script"
  | 3 => .array .int
  | _ => .array .int
abbrev wsX10 : List Cond := u_ws RX1 TX1 5
theorem nmX1 : ∀ a, a < 5 → ∀ b, b < 5 → a ≠ b → (TX1 a).2.1 ≠ (TX1 b).2.1 := by decide +kernel
theorem tyX1_ok : ∀ k, k < 5 → parseFieldDescriptor (TX1 k).2.2.1 = some (tyX1 k) := by decide +kernel
abbrev cX1_init : ByteArray := prog_3_method_1_code
def yX1_init : MethodName := ⟨RX1, "<init>", "(LMayNotPause$Telling;LMayNotPause$Script;LMayNotPause$Script;[I)V"⟩
abbrev cX1_seek : ByteArray := prog_3_method_2_code
def yX1_seek : MethodName := ⟨RX1, "seek", "()V"⟩
abbrev cX1_seekOne : ByteArray := prog_3_method_3_code
def yX1_seekOne : MethodName := ⟨RX1, "seekOne", "()V"⟩
abbrev cX1_seekTwo : ByteArray := prog_3_method_4_code
def yX1_seekTwo : MethodName := ⟨RX1, "seekTwo", "()V"⟩
abbrev cX1_attempt : ByteArray := prog_3_method_5_code
def yX1_attempt : MethodName := ⟨RX1, "attempt", "(IIIII)V"⟩
def RX2 : String := "MayNotPause$Script"
def TX2 : u_T := fun k => match k with
  | 0 => ("MayNotPause$Script", "bytes", "[I", true)
  | 1 => ("MayNotPause$Script", "length", "I", false)
  | 2 => ("MayNotPause$Script", "flaw", "I", false)
  | _ => ("MayNotPause$Script", "size", "I", false)
def tyX2 : Nat → FieldType := fun k => match k with
  | 0 => .array .int
  | 1 => .int
  | 2 => .int
  | _ => .int
abbrev wsX20 : List Cond := u_ws RX2 TX2 4
theorem nmX2 : ∀ a, a < 4 → ∀ b, b < 4 → a ≠ b → (TX2 a).2.1 ≠ (TX2 b).2.1 := by decide +kernel
theorem tyX2_ok : ∀ k, k < 4 → parseFieldDescriptor (TX2 k).2.2.1 = some (tyX2 k) := by decide +kernel
abbrev cX2_init : ByteArray := prog_4_method_1_code
def yX2_init : MethodName := ⟨RX2, "<init>", "(I)V"⟩
abbrev cX2_isFull : ByteArray := prog_4_method_2_code
def yX2_isFull : MethodName := ⟨RX2, "isFull", "()Z"⟩
abbrev cX2_append : ByteArray := prog_4_method_3_code
def yX2_append : MethodName := ⟨RX2, "append", "(I)V"⟩
abbrev cX2_shorten : ByteArray := prog_4_method_4_code
def yX2_shorten : MethodName := ⟨RX2, "shorten", "(I)V"⟩
abbrev cX2_dropLastVerse : ByteArray := prog_4_method_5_code
def yX2_dropLastVerse : MethodName := ⟨RX2, "dropLastVerse", "()V"⟩
abbrev cX2_settle : ByteArray := prog_4_method_6_code
def yX2_settle : MethodName := ⟨RX2, "settle", "()V"⟩
abbrev cX2_firstFlaw : ByteArray := prog_4_method_7_code
def yX2_firstFlaw : MethodName := ⟨RX2, "firstFlaw", "()I"⟩
abbrev cX2_fits : ByteArray := prog_4_method_8_code
def yX2_fits : MethodName := ⟨RX2, "fits", "(II)Z"⟩
abbrev cX2_kindBy : ByteArray := prog_4_method_9_code
def yX2_kindBy : MethodName := ⟨RX2, "kindBy", "(I)I"⟩
abbrev cX2_kindOf : ByteArray := prog_4_method_10_code
def yX2_kindOf : MethodName := ⟨RX2, "kindOf", "(I)I"⟩
abbrev cX2_figure : ByteArray := prog_4_method_11_code
def yX2_figure : MethodName := ⟨RX2, "figure", "(II)I"⟩
def RX3 : String := "MayNotPause$Sheet"
def TX3 : u_T := fun k => match k with
  | 0 => ("MayNotPause$Sheet", "items", "[I", true)
  | 1 => ("MayNotPause$Sheet", "lost", "Z", false)
  | 2 => ("MayNotPause$Sheet", "form", "I", false)
  | _ => ("MayNotPause$Sheet", "size", "I", false)
def tyX3 : Nat → FieldType := fun k => match k with
  | 0 => .array .int
  | 1 => .boolean
  | 2 => .int
  | _ => .int
abbrev wsX30 : List Cond := u_ws RX3 TX3 4
theorem nmX3 : ∀ a, a < 4 → ∀ b, b < 4 → a ≠ b → (TX3 a).2.1 ≠ (TX3 b).2.1 := by decide +kernel
theorem tyX3_ok : ∀ k, k < 4 → parseFieldDescriptor (TX3 k).2.2.1 = some (tyX3 k) := by decide +kernel
abbrev cX3_init : ByteArray := prog_5_method_1_code
def yX3_init : MethodName := ⟨RX3, "<init>", "()V"⟩
abbrev cX3_renew : ByteArray := prog_5_method_2_code
def yX3_renew : MethodName := ⟨RX3, "renew", "(II)V"⟩
abbrev cX3_hasItem : ByteArray := prog_5_method_3_code
def yX3_hasItem : MethodName := ⟨RX3, "hasItem", "(I)Z"⟩
abbrev cX3_hasSpan : ByteArray := prog_5_method_4_code
def yX3_hasSpan : MethodName := ⟨RX3, "hasSpan", "(II)Z"⟩
abbrev cX3_item : ByteArray := prog_5_method_5_code
def yX3_item : MethodName := ⟨RX3, "item", "(I)I"⟩
abbrev cX3_store : ByteArray := prog_5_method_6_code
def yX3_store : MethodName := ⟨RX3, "store", "(II)V"⟩
def RX4 : String := "MayNotPause$Sightings"
def TX4 : u_T := fun k => match k with
  | 0 => ("MayNotPause$Sightings", "breaths", "[I", true)
  | 1 => ("MayNotPause$Sightings", "made", "[I", true)
  | _ => ("MayNotPause$Sightings", "size", "I", false)
def tyX4 : Nat → FieldType := fun k => match k with
  | 0 => .array .int
  | 1 => .array .int
  | _ => .int
abbrev wsX40 : List Cond := u_ws RX4 TX4 3
theorem nmX4 : ∀ a, a < 3 → ∀ b, b < 3 → a ≠ b → (TX4 a).2.1 ≠ (TX4 b).2.1 := by decide +kernel
theorem tyX4_ok : ∀ k, k < 3 → parseFieldDescriptor (TX4 k).2.2.1 = some (tyX4 k) := by decide +kernel
abbrev cX4_init : ByteArray := prog_6_method_1_code
def yX4_init : MethodName := ⟨RX4, "<init>", "()V"⟩
abbrev cX4_mayBe : ByteArray := prog_6_method_2_code
def yX4_mayBe : MethodName := ⟨RX4, "mayBe", "(II)Z"⟩
abbrev cX4_isFull : ByteArray := prog_6_method_3_code
def yX4_isFull : MethodName := ⟨RX4, "isFull", "()Z"⟩
abbrev cX4_add : ByteArray := prog_6_method_4_code
def yX4_add : MethodName := ⟨RX4, "add", "(II)V"⟩
abbrev cX4_fit : ByteArray := prog_6_method_5_code
def yX4_fit : MethodName := ⟨RX4, "fit", "(LMayNotPause$Telling;)Z"⟩
def RX5 : String := "MayNotPause$Telling"
def TX5 : u_T := fun k => match k with
  | 0 => ("MayNotPause$Telling", "rules", "[I", true)
  | 1 => ("MayNotPause$Telling", "start", "LMayNotPause$Turn;", true)
  | 2 => ("MayNotPause$Telling", "turns", "[LMayNotPause$Turn;", true)
  | _ => ("MayNotPause$Telling", "size", "I", false)
def tyX5 : Nat → FieldType := fun k => match k with
  | 0 => .array .int
  | 1 => .object "MayNotPause$Turn"
  | 2 => .array (.object "MayNotPause$Turn")
  | _ => .int
abbrev wsX50 : List Cond := u_ws RX5 TX5 4
theorem nmX5 : ∀ a, a < 4 → ∀ b, b < 4 → a ≠ b → (TX5 a).2.1 ≠ (TX5 b).2.1 := by decide +kernel
theorem tyX5_ok : ∀ k, k < 4 → parseFieldDescriptor (TX5 k).2.2.1 = some (tyX5 k) := by decide +kernel
abbrev cX5_init : ByteArray := prog_7_method_1_code
def yX5_init : MethodName := ⟨RX5, "<init>", "(I)V"⟩
abbrev cX5_open : ByteArray := prog_7_method_2_code
def yX5_open : MethodName := ⟨RX5, "open", "([I)V"⟩
abbrev cX5_changeLead : ByteArray := prog_7_method_3_code
def yX5_changeLead : MethodName := ⟨RX5, "changeLead", "(I)V"⟩
abbrev cX5_letHimPause : ByteArray := prog_7_method_4_code
def yX5_letHimPause : MethodName := ⟨RX5, "letHimPause", "()V"⟩
abbrev cX5_addAll : ByteArray := prog_7_method_5_code
def yX5_addAll : MethodName := ⟨RX5, "addAll", "(LMayNotPause$Script;)V"⟩
abbrev cX5_add : ByteArray := prog_7_method_6_code
def yX5_add : MethodName := ⟨RX5, "add", "(LMayNotPause$Script;I)V"⟩
abbrev cX5_dropLast : ByteArray := prog_7_method_7_code
def yX5_dropLast : MethodName := ⟨RX5, "dropLast", "()V"⟩
abbrev cX5_howManyOf : ByteArray := prog_7_method_8_code
def yX5_howManyOf : MethodName := ⟨RX5, "howManyOf", "(I)I"⟩
abbrev cX5_turnAt : ByteArray := prog_7_method_9_code
def yX5_turnAt : MethodName := ⟨RX5, "turnAt", "(I)LMayNotPause$Turn;"⟩
abbrev cX5_last : ByteArray := prog_7_method_10_code
def yX5_last : MethodName := ⟨RX5, "last", "()LMayNotPause$Turn;"⟩
abbrev cX5_isWholeWithoutPause : ByteArray := prog_7_method_11_code
def yX5_isWholeWithoutPause : MethodName := ⟨RX5, "isWholeWithoutPause", "()Z"⟩
abbrev cX5_howManyWritten : ByteArray := prog_7_method_12_code
def yX5_howManyWritten : MethodName := ⟨RX5, "howManyWritten", "()I"⟩
abbrev cX5_lastWritten : ByteArray := prog_7_method_13_code
def yX5_lastWritten : MethodName := ⟨RX5, "lastWritten", "()I"⟩
abbrev cX5_saidIn : ByteArray := prog_7_method_14_code
def yX5_saidIn : MethodName := ⟨RX5, "saidIn", "(I)I"⟩
abbrev cX5_isSaidIn : ByteArray := prog_7_method_15_code
def yX5_isSaidIn : MethodName := ⟨RX5, "isSaidIn", "(LMayNotPause$Turn;I)Z"⟩
abbrev cX5_madeIn : ByteArray := prog_7_method_16_code
def yX5_madeIn : MethodName := ⟨RX5, "madeIn", "(I)I"⟩
abbrev cX5_inHandIn : ByteArray := prog_7_method_17_code
def yX5_inHandIn : MethodName := ⟨RX5, "inHandIn", "(I)I"⟩
def RX6 : String := "MayNotPause$Turn"
def TX6 : u_T := fun k => match k with
  | 0 => ("MayNotPause$Turn", "kind", "I", false)
  | 1 => ("MayNotPause$Turn", "make", "I", false)
  | 2 => ("MayNotPause$Turn", "say", "I", false)
  | 3 => ("MayNotPause$Turn", "knot", "I", false)
  | 4 => ("MayNotPause$Turn", "begins", "I", false)
  | 5 => ("MayNotPause$Turn", "said", "I", false)
  | 6 => ("MayNotPause$Turn", "understood", "I", false)
  | 7 => ("MayNotPause$Turn", "written", "I", false)
  | 8 => ("MayNotPause$Turn", "pause", "I", false)
  | 9 => ("MayNotPause$Turn", "needed", "I", false)
  | 10 => ("MayNotPause$Turn", "allPauses", "I", false)
  | 11 => ("MayNotPause$Turn", "penUsed", "I", false)
  | 12 => ("MayNotPause$Turn", "pensTaken", "I", false)
  | 13 => ("MayNotPause$Turn", "could", "I", false)
  | _ => ("MayNotPause$Turn", "spare", "I", false)
def tyX6 : Nat → FieldType := fun k => match k with
  | 0 => .int
  | 1 => .int
  | 2 => .int
  | 3 => .int
  | 4 => .int
  | 5 => .int
  | 6 => .int
  | 7 => .int
  | 8 => .int
  | 9 => .int
  | 10 => .int
  | 11 => .int
  | 12 => .int
  | 13 => .int
  | _ => .int
abbrev wsX60 : List Cond := u_ws RX6 TX6 15
theorem nmX6 : ∀ a, a < 15 → ∀ b, b < 15 → a ≠ b → (TX6 a).2.1 ≠ (TX6 b).2.1 := by decide +kernel
theorem tyX6_ok : ∀ k, k < 15 → parseFieldDescriptor (TX6 k).2.2.1 = some (tyX6 k) := by decide +kernel
abbrev cX6_init : ByteArray := prog_8_method_1_code
def yX6_init : MethodName := ⟨RX6, "<init>", "()V"⟩
abbrev cX6_beStart : ByteArray := prog_8_method_2_code
def yX6_beStart : MethodName := ⟨RX6, "beStart", "(I)V"⟩
abbrev cX6_follow : ByteArray := prog_8_method_3_code
def yX6_follow : MethodName := ⟨RX6, "follow", "(LMayNotPause$Turn;)V"⟩
abbrev cX6_comeToNothing : ByteArray := prog_8_method_4_code
def yX6_comeToNothing : MethodName := ⟨RX6, "comeToNothing", "()V"⟩
abbrev cX6_beSaid : ByteArray := prog_8_method_5_code
def yX6_beSaid : MethodName := ⟨RX6, "beSaid", "(I)V"⟩
abbrev cX6_beWritten : ByteArray := prog_8_method_6_code
def yX6_beWritten : MethodName := ⟨RX6, "beWritten", "(III)V"⟩
def RX7 : String := "MayNotPause"
def TX7 : u_T := fun k => match k with
  | 0 => ("MayNotPause", "settings", "[I", true)
  | 1 => ("MayNotPause", "verses", "LMayNotPause$Script;", true)
  | 2 => ("MayNotPause", "hards", "LMayNotPause$Script;", true)
  | 3 => ("MayNotPause", "told", "LMayNotPause$Telling;", true)
  | 4 => ("MayNotPause", "trial", "LMayNotPause$Telling;", true)
  | 5 => ("MayNotPause", "putSearch", "LMayNotPause$PutSearch;", true)
  | 6 => ("MayNotPause", "orderSearch", "LMayNotPause$OrderSearch;", true)
  | 7 => ("MayNotPause", "sightings", "LMayNotPause$Sightings;", true)
  | 8 => ("MayNotPause", "sheets", "[LMayNotPause$Sheet;", true)
  | 9 => ("MayNotPause", "putIsFound", "Z", false)
  | 10 => ("MayNotPause", "orderIsFound", "Z", false)
  | _ => ("MayNotPause", "latestFinding", "I", false)
def tyX7 : Nat → FieldType := fun k => match k with
  | 0 => .array .int
  | 1 => .object "MayNotPause$Script"
  | 2 => .object "MayNotPause$Script"
  | 3 => .object "MayNotPause$Telling"
  | 4 => .object "MayNotPause$Telling"
  | 5 => .object "MayNotPause$PutSearch"
  | 6 => .object "MayNotPause$OrderSearch"
  | 7 => .object "MayNotPause$Sightings"
  | 8 => .array (.object "MayNotPause$Sheet")
  | 9 => .boolean
  | 10 => .boolean
  | _ => .int
abbrev wsX70 : List Cond := u_ws RX7 TX7 12
theorem nmX7 : ∀ a, a < 12 → ∀ b, b < 12 → a ≠ b → (TX7 a).2.1 ≠ (TX7 b).2.1 := by decide +kernel
theorem tyX7_ok : ∀ k, k < 12 → parseFieldDescriptor (TX7 k).2.2.1 = some (tyX7 k) := by decide +kernel
abbrev cX7_init : ByteArray := prog_1_method_1_code
def yX7_init : MethodName := ⟨RX7, "<init>", "()V"⟩
abbrev cX7_type : ByteArray := prog_1_method_2_code
def yX7_type : MethodName := ⟨RX7, "type", "(II)I"⟩
abbrev cX7_wipe : ByteArray := prog_1_method_3_code
def yX7_wipe : MethodName := ⟨RX7, "wipe", "(I)I"⟩
abbrev cX7_undo : ByteArray := prog_1_method_4_code
def yX7_undo : MethodName := ⟨RX7, "undo", "(I)I"⟩
abbrev cX7_fault : ByteArray := prog_1_method_5_code
def yX7_fault : MethodName := ⟨RX7, "fault", "(I)I"⟩
abbrev cX7_set : ByteArray := prog_1_method_6_code
def yX7_set : MethodName := ⟨RX7, "set", "(II)I"⟩
abbrev cX7_verse : ByteArray := prog_1_method_7_code
def yX7_verse : MethodName := ⟨RX7, "verse", "(II)I"⟩
abbrev cX7_when : ByteArray := prog_1_method_8_code
def yX7_when : MethodName := ⟨RX7, "when", "(II)I"⟩
abbrev cX7_poem : ByteArray := prog_1_method_9_code
def yX7_poem : MethodName := ⟨RX7, "poem", "(I)I"⟩
abbrev cX7_judged : ByteArray := prog_1_method_10_code
def yX7_judged : MethodName := ⟨RX7, "judged", "()I"⟩
abbrev cX7_rest : ByteArray := prog_1_method_11_code
def yX7_rest : MethodName := ⟨RX7, "rest", "(I)I"⟩
abbrev cX7_doing : ByteArray := prog_1_method_12_code
def yX7_doing : MethodName := ⟨RX7, "doing", "(II)I"⟩
abbrev cX7_put : ByteArray := prog_1_method_13_code
def yX7_put : MethodName := ⟨RX7, "put", "(I)I"⟩
abbrev cX7_order : ByteArray := prog_1_method_14_code
def yX7_order : MethodName := ⟨RX7, "order", "(I)I"⟩
abbrev cX7_lead : ByteArray := prog_1_method_15_code
def yX7_lead : MethodName := ⟨RX7, "lead", "()I"⟩
abbrev cX7_odds : ByteArray := prog_1_method_16_code
def yX7_odds : MethodName := ⟨RX7, "odds", "(I)J"⟩
abbrev cX7_drawn : ByteArray := prog_1_method_17_code
def yX7_drawn : MethodName := ⟨RX7, "drawn", "(I)I"⟩
abbrev cX7_line : ByteArray := prog_1_method_18_code
def yX7_line : MethodName := ⟨RX7, "line", "(II)I"⟩
abbrev cX7_seen : ByteArray := prog_1_method_19_code
def yX7_seen : MethodName := ⟨RX7, "seen", "(II)I"⟩
abbrev cX7_forget : ByteArray := prog_1_method_20_code
def yX7_forget : MethodName := ⟨RX7, "forget", "()I"⟩
abbrev cX7_leads : ByteArray := prog_1_method_21_code
def yX7_leads : MethodName := ⟨RX7, "leads", "()I"⟩
abbrev cX7_read : ByteArray := prog_1_method_22_code
def yX7_read : MethodName := ⟨RX7, "read", "(I)I"⟩
abbrev cX7_sheet : ByteArray := prog_1_method_23_code
def yX7_sheet : MethodName := ⟨RX7, "sheet", "(III)I"⟩
abbrev cX7_lose : ByteArray := prog_1_method_24_code
def yX7_lose : MethodName := ⟨RX7, "lose", "(I)I"⟩
abbrev cX7_lay : ByteArray := prog_1_method_25_code
def yX7_lay : MethodName := ⟨RX7, "lay", "(IIII)I"⟩
abbrev cX7_get : ByteArray := prog_1_method_26_code
def yX7_get : MethodName := ⟨RX7, "get", "(III)I"⟩
abbrev cX7_copy : ByteArray := prog_1_method_27_code
def yX7_copy : MethodName := ⟨RX7, "copy", "(IIIII)I"⟩
abbrev cX7_write : ByteArray := prog_1_method_28_code
def yX7_write : MethodName := ⟨RX7, "write", "(I)I"⟩
abbrev cX7_count : ByteArray := prog_1_method_29_code
def yX7_count : MethodName := ⟨RX7, "count", "(I)I"⟩
abbrev cX7_digest : ByteArray := prog_1_method_30_code
def yX7_digest : MethodName := ⟨RX7, "digest", "()J"⟩
abbrev cX7_digestOfVerse : ByteArray := prog_1_method_31_code
def yX7_digestOfVerse : MethodName := ⟨RX7, "digestOfVerse", "(JI)J"⟩
abbrev cX7_digestOfBreaths : ByteArray := prog_1_method_32_code
def yX7_digestOfBreaths : MethodName := ⟨RX7, "digestOfBreaths", "(J)J"⟩
abbrev cX7_isText : ByteArray := prog_1_method_33_code
def yX7_isText : MethodName := ⟨RX7, "isText", "(I)Z"⟩
abbrev cX7_scriptOf : ByteArray := prog_1_method_34_code
def yX7_scriptOf : MethodName := ⟨RX7, "scriptOf", "(I)LMayNotPause$Script;"⟩
abbrev cX7_isVerse : ByteArray := prog_1_method_35_code
def yX7_isVerse : MethodName := ⟨RX7, "isVerse", "(I)Z"⟩
abbrev cX7_isSheet : ByteArray := prog_1_method_36_code
def yX7_isSheet : MethodName := ⟨RX7, "isSheet", "(I)Z"⟩
abbrev cX7_isForm : ByteArray := prog_1_method_37_code
def yX7_isForm : MethodName := ⟨RX7, "isForm", "(I)Z"⟩
abbrev cX7_tellAnew : ByteArray := prog_1_method_38_code
def yX7_tellAnew : MethodName := ⟨RX7, "tellAnew", "()V"⟩
abbrev cX7_sixteenths : ByteArray := prog_1_method_39_code
def yX7_sixteenths : MethodName := ⟨RX7, "sixteenths", "(I)I"⟩
abbrev cX7_errorsBy : ByteArray := prog_1_method_40_code
def yX7_errorsBy : MethodName := ⟨RX7, "errorsBy", "(II)I"⟩
abbrev cX7_bestLine : ByteArray := prog_1_method_41_code
def yX7_bestLine : MethodName := ⟨RX7, "bestLine", "()I"⟩
abbrev cX7_found : ByteArray := prog_1_method_42_code
def yX7_found : MethodName := ⟨RX7, "found", "(I)I"⟩
abbrev cX7_findingAt : ByteArray := prog_1_method_43_code
def yX7_findingAt : MethodName := ⟨RX7, "findingAt", "(LMayNotPause$Sheet;II)I"⟩
def RX8 : String := "MayNotPauseModel"
def TX8 : u_T := fun k => match k with
  | 0 => ("MayNotPauseModel", "forms", "[I", true)
  | 1 => ("MayNotPauseModel", "sizes", "[I", true)
  | 2 => ("MayNotPauseModel", "items", "[I", true)
  | 3 => ("MayNotPauseModel", "moved", "[I", true)
  | 4 => ("MayNotPauseModel", "latest", "I", false)
  | 5 => ("MayNotPauseModel", "bytes", "[I", true)
  | 6 => ("MayNotPauseModel", "typed", "[I", true)
  | 7 => ("MayNotPauseModel", "at", "I", false)
  | 8 => ("MayNotPauseModel", "many", "[I", true)
  | 9 => ("MayNotPauseModel", "told", "[I", true)
  | 10 => ("MayNotPauseModel", "settings", "[I", true)
  | 11 => ("MayNotPauseModel", "length", "I", false)
  | 12 => ("MayNotPauseModel", "row", "[I", true)
  | 13 => ("MayNotPauseModel", "makes", "[I", true)
  | 14 => ("MayNotPauseModel", "knots", "[I", true)
  | 15 => ("MayNotPauseModel", "begins", "[I", true)
  | 16 => ("MayNotPauseModel", "said", "[I", true)
  | 17 => ("MayNotPauseModel", "understood", "[I", true)
  | 18 => ("MayNotPauseModel", "written", "[I", true)
  | 19 => ("MayNotPauseModel", "pauses", "[I", true)
  | 20 => ("MayNotPauseModel", "end", "I", false)
  | 21 => ("MayNotPauseModel", "allPauses", "I", false)
  | 22 => ("MayNotPauseModel", "writtenMany", "I", false)
  | 23 => ("MayNotPauseModel", "newPens", "I", false)
  | 24 => ("MayNotPauseModel", "best", "[I", true)
  | 25 => ("MayNotPauseModel", "bestRow", "[I", true)
  | 26 => ("MayNotPauseModel", "leastPauses", "I", false)
  | 27 => ("MayNotPauseModel", "leastLong", "I", false)
  | 28 => ("MayNotPauseModel", "sights", "I", false)
  | _ => ("MayNotPauseModel", "seen", "[I", true)
def tyX8 : Nat → FieldType := fun k => match k with
  | 0 => .array .int
  | 1 => .array .int
  | 2 => .array .int
  | 3 => .array .int
  | 4 => .int
  | 5 => .array .int
  | 6 => .array .int
  | 7 => .int
  | 8 => .array .int
  | 9 => .array .int
  | 10 => .array .int
  | 11 => .int
  | 12 => .array .int
  | 13 => .array .int
  | 14 => .array .int
  | 15 => .array .int
  | 16 => .array .int
  | 17 => .array .int
  | 18 => .array .int
  | 19 => .array .int
  | 20 => .int
  | 21 => .int
  | 22 => .int
  | 23 => .int
  | 24 => .array .int
  | 25 => .array .int
  | 26 => .int
  | 27 => .int
  | 28 => .int
  | _ => .array .int
abbrev wsX80 : List Cond := u_ws RX8 TX8 30
theorem nmX8 : ∀ a, a < 30 → ∀ b, b < 30 → a ≠ b → (TX8 a).2.1 ≠ (TX8 b).2.1 := by decide +kernel
theorem tyX8_ok : ∀ k, k < 30 → parseFieldDescriptor (TX8 k).2.2.1 = some (tyX8 k) := by decide +kernel
abbrev cX8_init : ByteArray := prog_10_method_1_code
def yX8_init : MethodName := ⟨RX8, "<init>", "()V"⟩
abbrev cX8_in : ByteArray := prog_10_method_3_code
def yX8_in : MethodName := ⟨RX8, "in", "(JJJ)Z"⟩
abbrev cX8_no : ByteArray := prog_10_method_4_code
def yX8_no : MethodName := ⟨RX8, "no", "(I)J"⟩
abbrev cX8_isTwo : ByteArray := prog_10_method_5_code
def yX8_isTwo : MethodName := ⟨RX8, "isTwo", "(I)Z"⟩
abbrev cX8_isIn : ByteArray := prog_10_method_6_code
def yX8_isIn : MethodName := ⟨RX8, "isIn", "(II)Z"⟩
abbrev cX8_greater : ByteArray := prog_10_method_7_code
def yX8_greater : MethodName := ⟨RX8, "greater", "(II)I"⟩
abbrev cX8_lesser : ByteArray := prog_10_method_8_code
def yX8_lesser : MethodName := ⟨RX8, "lesser", "(II)I"⟩
abbrev cX8_met : ByteArray := prog_10_method_9_code
def yX8_met : MethodName := ⟨RX8, "met", "(I)I"⟩
abbrev cX8_isSheet : ByteArray := prog_10_method_10_code
def yX8_isSheet : MethodName := ⟨RX8, "isSheet", "(I)Z"⟩
abbrev cX8_sheet : ByteArray := prog_10_method_11_code
def yX8_sheet : MethodName := ⟨RX8, "sheet", "(III)I"⟩
abbrev cX8_lose : ByteArray := prog_10_method_12_code
def yX8_lose : MethodName := ⟨RX8, "lose", "(I)I"⟩
abbrev cX8_lacks : ByteArray := prog_10_method_13_code
def yX8_lacks : MethodName := ⟨RX8, "lacks", "(III)I"⟩
abbrev cX8_cut : ByteArray := prog_10_method_14_code
def yX8_cut : MethodName := ⟨RX8, "cut", "(II)I"⟩
abbrev cX8_lay : ByteArray := prog_10_method_15_code
def yX8_lay : MethodName := ⟨RX8, "lay", "(IIII)I"⟩
abbrev cX8_get : ByteArray := prog_10_method_16_code
def yX8_get : MethodName := ⟨RX8, "get", "(III)I"⟩
abbrev cX8_copy : ByteArray := prog_10_method_17_code
def yX8_copy : MethodName := ⟨RX8, "copy", "(IIIII)I"⟩
abbrev cX8_type : ByteArray := prog_10_method_18_code
def yX8_type : MethodName := ⟨RX8, "type", "(II)I"⟩
abbrev cX8_wipe : ByteArray := prog_10_method_19_code
def yX8_wipe : MethodName := ⟨RX8, "wipe", "(I)I"⟩
abbrev cX8_here : ByteArray := prog_10_method_20_code
def yX8_here : MethodName := ⟨RX8, "here", "(I)I"⟩
abbrev cX8_kindOf : ByteArray := prog_10_method_21_code
def yX8_kindOf : MethodName := ⟨RX8, "kindOf", "(I)I"⟩
abbrev cX8_readsVerse : ByteArray := prog_10_method_22_code
def yX8_readsVerse : MethodName := ⟨RX8, "readsVerse", "(I)Z"⟩
abbrev cX8_readsText : ByteArray := prog_10_method_23_code
def yX8_readsText : MethodName := ⟨RX8, "readsText", "(I)I"⟩
abbrev cX8_fault : ByteArray := prog_10_method_24_code
def yX8_fault : MethodName := ⟨RX8, "fault", "(I)I"⟩
abbrev cX8_undo : ByteArray := prog_10_method_25_code
def yX8_undo : MethodName := ⟨RX8, "undo", "(I)I"⟩
abbrev cX8_most : ByteArray := prog_10_method_26_code
def yX8_most : MethodName := ⟨RX8, "most", "(I)I"⟩
abbrev cX8_set : ByteArray := prog_10_method_27_code
def yX8_set : MethodName := ⟨RX8, "set", "(II)I"⟩
abbrev cX8_kindAt : ByteArray := prog_10_method_28_code
def yX8_kindAt : MethodName := ⟨RX8, "kindAt", "(I)I"⟩
abbrev cX8_sayAt : ByteArray := prog_10_method_29_code
def yX8_sayAt : MethodName := ⟨RX8, "sayAt", "(I)I"⟩
abbrev cX8_plain : ByteArray := prog_10_method_30_code
def yX8_plain : MethodName := ⟨RX8, "plain", "()V"⟩
abbrev cX8_counts : ByteArray := prog_10_method_31_code
def yX8_counts : MethodName := ⟨RX8, "counts", "()V"⟩
abbrev cX8_says : ByteArray := prog_10_method_32_code
def yX8_says : MethodName := ⟨RX8, "says", "(III)V"⟩
abbrev cX8_find : ByteArray := prog_10_method_33_code
def yX8_find : MethodName := ⟨RX8, "find", "()V"⟩
abbrev cX8_verseOf : ByteArray := prog_10_method_34_code
def yX8_verseOf : MethodName := ⟨RX8, "verseOf", "(II)I"⟩
abbrev cX8_isVerse : ByteArray := prog_10_method_35_code
def yX8_isVerse : MethodName := ⟨RX8, "isVerse", "(I)Z"⟩
abbrev cX8_verse : ByteArray := prog_10_method_36_code
def yX8_verse : MethodName := ⟨RX8, "verse", "(II)I"⟩
abbrev cX8_whenOf : ByteArray := prog_10_method_37_code
def yX8_whenOf : MethodName := ⟨RX8, "whenOf", "(II)I"⟩
abbrev cX8_when : ByteArray := prog_10_method_38_code
def yX8_when : MethodName := ⟨RX8, "when", "(II)I"⟩
abbrev cX8_poemOf : ByteArray := prog_10_method_39_code
def yX8_poemOf : MethodName := ⟨RX8, "poemOf", "(I)I"⟩
abbrev cX8_poem : ByteArray := prog_10_method_40_code
def yX8_poem : MethodName := ⟨RX8, "poem", "(I)I"⟩
abbrev cX8_judgedNow : ByteArray := prog_10_method_41_code
def yX8_judgedNow : MethodName := ⟨RX8, "judgedNow", "()I"⟩
abbrev cX8_judged : ByteArray := prog_10_method_42_code
def yX8_judged : MethodName := ⟨RX8, "judged", "()I"⟩
abbrev cX8_isFree : ByteArray := prog_10_method_43_code
def yX8_isFree : MethodName := ⟨RX8, "isFree", "(I)Z"⟩
abbrev cX8_freeAhead : ByteArray := prog_10_method_44_code
def yX8_freeAhead : MethodName := ⟨RX8, "freeAhead", "(II)I"⟩
abbrev cX8_restOf : ByteArray := prog_10_method_45_code
def yX8_restOf : MethodName := ⟨RX8, "restOf", "(I)I"⟩
abbrev cX8_rest : ByteArray := prog_10_method_46_code
def yX8_rest : MethodName := ⟨RX8, "rest", "(I)I"⟩
abbrev cX8_makesIn : ByteArray := prog_10_method_47_code
def yX8_makesIn : MethodName := ⟨RX8, "makesIn", "(II)I"⟩
abbrev cX8_saysIn : ByteArray := prog_10_method_48_code
def yX8_saysIn : MethodName := ⟨RX8, "saysIn", "(I)I"⟩
abbrev cX8_hasIn : ByteArray := prog_10_method_49_code
def yX8_hasIn : MethodName := ⟨RX8, "hasIn", "(I)I"⟩
abbrev cX8_doingOf : ByteArray := prog_10_method_50_code
def yX8_doingOf : MethodName := ⟨RX8, "doingOf", "(II)I"⟩
abbrev cX8_doing : ByteArray := prog_10_method_51_code
def yX8_doing : MethodName := ⟨RX8, "doing", "(II)I"⟩
abbrev cX8_lays : ByteArray := prog_10_method_52_code
def yX8_lays : MethodName := ⟨RX8, "lays", "(IIII)V"⟩
abbrev cX8_looks : ByteArray := prog_10_method_53_code
def yX8_looks : MethodName := ⟨RX8, "looks", "(IIIII)V"⟩
abbrev cX8_findPut : ByteArray := prog_10_method_54_code
def yX8_findPut : MethodName := ⟨RX8, "findPut", "()V"⟩
abbrev cX8_put : ByteArray := prog_10_method_55_code
def yX8_put : MethodName := ⟨RX8, "put", "(I)I"⟩
abbrev cX8_unfolds : ByteArray := prog_10_method_56_code
def yX8_unfolds : MethodName := ⟨RX8, "unfolds", "(II)V"⟩
abbrev cX8_findOrder : ByteArray := prog_10_method_57_code
def yX8_findOrder : MethodName := ⟨RX8, "findOrder", "()V"⟩
abbrev cX8_tellsOrder : ByteArray := prog_10_method_58_code
def yX8_tellsOrder : MethodName := ⟨RX8, "tellsOrder", "(I)I"⟩
abbrev cX8_order : ByteArray := prog_10_method_59_code
def yX8_order : MethodName := ⟨RX8, "order", "(I)I"⟩
abbrev cX8_leadNow : ByteArray := prog_10_method_60_code
def yX8_leadNow : MethodName := ⟨RX8, "leadNow", "()I"⟩
abbrev cX8_lead : ByteArray := prog_10_method_61_code
def yX8_lead : MethodName := ⟨RX8, "lead", "()I"⟩
abbrev cX8_part : ByteArray := prog_10_method_62_code
def yX8_part : MethodName := ⟨RX8, "part", "(JJI)J"⟩
abbrev cX8_oddsOf : ByteArray := prog_10_method_63_code
def yX8_oddsOf : MethodName := ⟨RX8, "oddsOf", "(I)J"⟩
abbrev cX8_odds : ByteArray := prog_10_method_64_code
def yX8_odds : MethodName := ⟨RX8, "odds", "(I)J"⟩
abbrev cX8_drawnOf : ByteArray := prog_10_method_65_code
def yX8_drawnOf : MethodName := ⟨RX8, "drawnOf", "(I)I"⟩
abbrev cX8_drawn : ByteArray := prog_10_method_66_code
def yX8_drawn : MethodName := ⟨RX8, "drawn", "(I)I"⟩
abbrev cX8_errors : ByteArray := prog_10_method_67_code
def yX8_errors : MethodName := ⟨RX8, "errors", "(II)I"⟩
abbrev cX8_lineOf : ByteArray := prog_10_method_68_code
def yX8_lineOf : MethodName := ⟨RX8, "lineOf", "(II)I"⟩
abbrev cX8_line : ByteArray := prog_10_method_69_code
def yX8_line : MethodName := ⟨RX8, "line", "(II)I"⟩
abbrev cX8_seen : ByteArray := prog_10_method_70_code
def yX8_seen : MethodName := ⟨RX8, "seen", "(II)I"⟩
abbrev cX8_forget : ByteArray := prog_10_method_71_code
def yX8_forget : MethodName := ⟨RX8, "forget", "()I"⟩
abbrev cX8_read : ByteArray := prog_10_method_72_code
def yX8_read : MethodName := ⟨RX8, "read", "(I)I"⟩
abbrev cX8_leadsNow : ByteArray := prog_10_method_73_code
def yX8_leadsNow : MethodName := ⟨RX8, "leadsNow", "()I"⟩
abbrev cX8_leads : ByteArray := prog_10_method_74_code
def yX8_leads : MethodName := ⟨RX8, "leads", "()I"⟩
abbrev cX8_write : ByteArray := prog_10_method_75_code
def yX8_write : MethodName := ⟨RX8, "write", "(I)I"⟩
abbrev cX8_count : ByteArray := prog_10_method_76_code
def yX8_count : MethodName := ⟨RX8, "count", "(I)I"⟩
abbrev cX8_digest : ByteArray := prog_10_method_77_code
def yX8_digest : MethodName := ⟨RX8, "digest", "()J"⟩
def RJ6 : String := "java/lang/Integer"
def TJ6 : u_T := fun k => match k with
  | _ => ("", "", "", false)
def tyJ6 : Nat → FieldType := fun k => match k with
  | _ => .int
abbrev wsJ60 : List Cond := u_ws RJ6 TJ6 0
theorem nmJ6 : ∀ a, a < 0 → ∀ b, b < 0 → a ≠ b → (TJ6 a).2.1 ≠ (TJ6 b).2.1 := by decide +kernel
theorem tyJ6_ok : ∀ k, k < 0 → parseFieldDescriptor (TJ6 k).2.2.1 = some (tyJ6 k) := by decide +kernel
abbrev cJ6_bitCount_0f7a4 : ByteArray := prog_11_method_49_code
def yJ6_bitCount_0f7a4 : MethodName := ⟨RJ6, "bitCount", "(I)I"⟩
def RJ9 : String := "java/lang/Math"
def TJ9 : u_T := fun k => match k with
  | _ => ("", "", "", false)
def tyJ9 : Nat → FieldType := fun k => match k with
  | _ => .int
abbrev wsJ90 : List Cond := u_ws RJ9 TJ9 0
theorem nmJ9 : ∀ a, a < 0 → ∀ b, b < 0 → a ≠ b → (TJ9 a).2.1 ≠ (TJ9 b).2.1 := by decide +kernel
theorem tyJ9_ok : ∀ k, k < 0 → parseFieldDescriptor (TJ9 k).2.2.1 = some (tyJ9 k) := by decide +kernel
abbrev cJ9_max_7cf53 : ByteArray := prog_12_method_65_code
def yJ9_max_7cf53 : MethodName := ⟨RJ9, "max", "(II)I"⟩
abbrev cJ9_min_7cf53 : ByteArray := prog_12_method_69_code
def yJ9_min_7cf53 : MethodName := ⟨RJ9, "min", "(II)I"⟩
def RJ10 : String := "java/lang/System"
def TJ10 : u_T := fun k => match k with
  | _ => ("", "", "", false)
def tyJ10 : Nat → FieldType := fun k => match k with
  | _ => .int
abbrev wsJ100 : List Cond := u_ws RJ10 TJ10 0
theorem nmJ10 : ∀ a, a < 0 → ∀ b, b < 0 → a ≠ b → (TJ10 a).2.1 ≠ (TJ10 b).2.1 := by decide +kernel
theorem tyJ10_ok : ∀ k, k < 0 → parseFieldDescriptor (TJ10 k).2.2.1 = some (tyJ10 k) := by decide +kernel
def RL : String := "MayNotPauseLaw"
abbrev cL_law : ByteArray := code
def yL_law : MethodName := ⟨RL, "law", "([I)Z"⟩
abbrev vwCl : List vw_C := [(RX0, TX0, 9), (RX1, TX1, 5), (RX2, TX2, 4), (RX3, TX3, 4), (RX4, TX4, 3), (RX5, TX5, 4), (RX6, TX6, 15), (RX7, TX7, 12), (RX8, TX8, 30)]
theorem inX0 : ∀ w ∈ wsX00, w ∈ lw_tbl := by decide +kernel
theorem inX1 : ∀ w ∈ wsX10, w ∈ lw_tbl := by decide +kernel
theorem inX2 : ∀ w ∈ wsX20, w ∈ lw_tbl := by decide +kernel
theorem inX3 : ∀ w ∈ wsX30, w ∈ lw_tbl := by decide +kernel
theorem inX4 : ∀ w ∈ wsX40, w ∈ lw_tbl := by decide +kernel
theorem inX5 : ∀ w ∈ wsX50, w ∈ lw_tbl := by decide +kernel
theorem inX6 : ∀ w ∈ wsX60, w ∈ lw_tbl := by decide +kernel
theorem inX7 : ∀ w ∈ wsX70, w ∈ lw_tbl := by decide +kernel
theorem inX8 : ∀ w ∈ wsX80, w ∈ lw_tbl := by decide +kernel
end
section
theorem dX0_init_0 : decode cX0_init 0 = .ok (.aload_n 0, 1) := by decide +kernel
theorem dX0_init_1 : decode cX0_init 1 = .ok (.invokespecial 3, 3) := by decide +kernel
theorem dX0_init_4 : decode cX0_init 4 = .ok (.aload_n 0, 1) := by decide +kernel
theorem dX0_init_5 : decode cX0_init 5 = .ok (.bipush 7, 2) := by decide +kernel
theorem dX0_init_7 : decode cX0_init 7 = .ok (.newarray .int, 2) := by decide +kernel
theorem dX0_init_9 : decode cX0_init 9 = .ok (.putfield 11, 3) := by decide +kernel
theorem dX0_init_12 : decode cX0_init 12 = .ok (.aload_n 0, 1) := by decide +kernel
theorem dX0_init_13 : decode cX0_init 13 = .ok (.bipush 7, 2) := by decide +kernel
theorem dX0_init_15 : decode cX0_init 15 = .ok (.newarray .int, 2) := by decide +kernel
theorem dX0_init_17 : decode cX0_init 17 = .ok (.putfield 15, 3) := by decide +kernel
theorem dX0_init_20 : decode cX0_init 20 = .ok (.aload_n 0, 1) := by decide +kernel
theorem dX0_init_21 : decode cX0_init 21 = .ok (.bipush 7, 2) := by decide +kernel
theorem dX0_init_23 : decode cX0_init 23 = .ok (.newarray .boolean, 2) := by decide +kernel
theorem dX0_init_25 : decode cX0_init 25 = .ok (.putfield 18, 3) := by decide +kernel
theorem dX0_init_28 : decode cX0_init 28 = .ok (.aload_n 0, 1) := by decide +kernel
theorem dX0_init_29 : decode cX0_init 29 = .ok (.aload_n 1, 1) := by decide +kernel
theorem dX0_init_30 : decode cX0_init 30 = .ok (.putfield 22, 3) := by decide +kernel
theorem dX0_init_33 : decode cX0_init 33 = .ok (.aload_n 0, 1) := by decide +kernel
theorem dX0_init_34 : decode cX0_init 34 = .ok (.aload_n 2, 1) := by decide +kernel
theorem dX0_init_35 : decode cX0_init 35 = .ok (.putfield 26, 3) := by decide +kernel
theorem dX0_init_38 : decode cX0_init 38 = .ok (.aload_n 0, 1) := by decide +kernel
theorem dX0_init_39 : decode cX0_init 39 = .ok (.aload_n 3, 1) := by decide +kernel
theorem dX0_init_40 : decode cX0_init 40 = .ok (.putfield 30, 3) := by decide +kernel
theorem dX0_init_43 : decode cX0_init 43 = .ok (.return_, 1) := by decide +kernel
theorem dX0_seek_0 : decode cX0_seek 0 = .ok (.aload_n 0, 1) := by decide +kernel
theorem dX0_seek_1 : decode cX0_seek 1 = .ok (.bipush 7, 2) := by decide +kernel
theorem dX0_seek_3 : decode cX0_seek 3 = .ok (.aload_n 0, 1) := by decide +kernel
theorem dX0_seek_4 : decode cX0_seek 4 = .ok (.getfield 26, 3) := by decide +kernel
theorem dX0_seek_7 : decode cX0_seek 7 = .ok (.getfield 33, 3) := by decide +kernel
theorem dX0_seek_10 : decode cX0_seek 10 = .ok (.invokestatic 39, 3) := by decide +kernel
theorem dX0_seek_13 : decode cX0_seek 13 = .ok (.putfield 45, 3) := by decide +kernel
theorem dX0_seek_16 : decode cX0_seek 16 = .ok (.aload_n 0, 1) := by decide +kernel
theorem dX0_seek_17 : decode cX0_seek 17 = .ok (.ldc 46, 2) := by decide +kernel
theorem dX0_seek_19 : decode cX0_seek 19 = .ok (.putfield 47, 3) := by decide +kernel
theorem dX0_seek_22 : decode cX0_seek 22 = .ok (.aload_n 0, 1) := by decide +kernel
theorem dX0_seek_23 : decode cX0_seek 23 = .ok (.ldc 46, 2) := by decide +kernel
theorem dX0_seek_25 : decode cX0_seek 25 = .ok (.putfield 50, 3) := by decide +kernel
theorem dX0_seek_28 : decode cX0_seek 28 = .ok (.iconst 0, 1) := by decide +kernel
theorem dX0_seek_29 : decode cX0_seek 29 = .ok (.istore_n 1, 1) := by decide +kernel
theorem dX0_seek_30 : decode cX0_seek 30 = .ok (.iload_n 1, 1) := by decide +kernel
theorem dX0_seek_31 : decode cX0_seek 31 = .ok (.bipush 7, 2) := by decide +kernel
theorem dX0_seek_33 : decode cX0_seek 33 = .ok (.if_icmp .ge 23, 3) := by decide +kernel
theorem dX0_seek_36 : decode cX0_seek 36 = .ok (.aload_n 0, 1) := by decide +kernel
theorem dX0_seek_37 : decode cX0_seek 37 = .ok (.getfield 15, 3) := by decide +kernel
theorem dX0_seek_40 : decode cX0_seek 40 = .ok (.iload_n 1, 1) := by decide +kernel
theorem dX0_seek_41 : decode cX0_seek 41 = .ok (.iconst (-1), 1) := by decide +kernel
theorem dX0_seek_42 : decode cX0_seek 42 = .ok (.iastore, 1) := by decide +kernel
theorem dX0_seek_43 : decode cX0_seek 43 = .ok (.aload_n 0, 1) := by decide +kernel
theorem dX0_seek_44 : decode cX0_seek 44 = .ok (.getfield 18, 3) := by decide +kernel
theorem dX0_seek_47 : decode cX0_seek 47 = .ok (.iload_n 1, 1) := by decide +kernel
theorem dX0_seek_48 : decode cX0_seek 48 = .ok (.iconst 0, 1) := by decide +kernel
theorem dX0_seek_49 : decode cX0_seek 49 = .ok (.bastore, 1) := by decide +kernel
theorem dX0_seek_50 : decode cX0_seek 50 = .ok (.iinc 1 1, 3) := by decide +kernel
theorem dX0_seek_53 : decode cX0_seek 53 = .ok (.goto (-23), 3) := by decide +kernel
theorem dX0_seek_56 : decode cX0_seek 56 = .ok (.aload_n 0, 1) := by decide +kernel
theorem dX0_seek_57 : decode cX0_seek 57 = .ok (.getfield 22, 3) := by decide +kernel
theorem dX0_seek_60 : decode cX0_seek 60 = .ok (.aload_n 0, 1) := by decide +kernel
theorem dX0_seek_61 : decode cX0_seek 61 = .ok (.getfield 30, 3) := by decide +kernel
theorem dX0_seek_64 : decode cX0_seek 64 = .ok (.invokevirtual 53, 3) := by decide +kernel
theorem dX0_seek_67 : decode cX0_seek 67 = .ok (.aload_n 0, 1) := by decide +kernel
theorem dX0_seek_68 : decode cX0_seek 68 = .ok (.getfield 22, 3) := by decide +kernel
theorem dX0_seek_71 : decode cX0_seek 71 = .ok (.invokevirtual 59, 3) := by decide +kernel
theorem dX0_seek_74 : decode cX0_seek 74 = .ok (.aload_n 0, 1) := by decide +kernel
theorem dX0_seek_75 : decode cX0_seek 75 = .ok (.iconst 0, 1) := by decide +kernel
theorem dX0_seek_76 : decode cX0_seek 76 = .ok (.invokestatic 62, 3) := by decide +kernel
theorem dX0_seek_79 : decode cX0_seek 79 = .ok (.return_, 1) := by decide +kernel
theorem dX0_placeFrom_0 : decode cX0_placeFrom 0 = .ok (.iload_n 1, 1) := by decide +kernel
theorem dX0_placeFrom_1 : decode cX0_placeFrom 1 = .ok (.aload_n 0, 1) := by decide +kernel
theorem dX0_placeFrom_2 : decode cX0_placeFrom 2 = .ok (.getfield 45, 3) := by decide +kernel
theorem dX0_placeFrom_5 : decode cX0_placeFrom 5 = .ok (.if_icmp .ge 9, 3) := by decide +kernel
theorem dX0_placeFrom_8 : decode cX0_placeFrom 8 = .ok (.iload_n 1, 1) := by decide +kernel
theorem dX0_placeFrom_9 : decode cX0_placeFrom 9 = .ok (.bipush 7, 2) := by decide +kernel
theorem dX0_placeFrom_11 : decode cX0_placeFrom 11 = .ok (.if_icmp .lt 8, 3) := by decide +kernel
theorem dX0_placeFrom_14 : decode cX0_placeFrom 14 = .ok (.aload_n 0, 1) := by decide +kernel
theorem dX0_placeFrom_15 : decode cX0_placeFrom 15 = .ok (.invokevirtual 66, 3) := by decide +kernel
theorem dX0_placeFrom_18 : decode cX0_placeFrom 18 = .ok (.return_, 1) := by decide +kernel
theorem dX0_placeFrom_19 : decode cX0_placeFrom 19 = .ok (.iconst 0, 1) := by decide +kernel
theorem dX0_placeFrom_20 : decode cX0_placeFrom 20 = .ok (.istore_n 2, 1) := by decide +kernel
theorem dX0_placeFrom_21 : decode cX0_placeFrom 21 = .ok (.iload_n 2, 1) := by decide +kernel
theorem dX0_placeFrom_22 : decode cX0_placeFrom 22 = .ok (.aload_n 0, 1) := by decide +kernel
theorem dX0_placeFrom_23 : decode cX0_placeFrom 23 = .ok (.getfield 45, 3) := by decide +kernel
theorem dX0_placeFrom_26 : decode cX0_placeFrom 26 = .ok (.if_icmp .ge 81, 3) := by decide +kernel
theorem dX0_placeFrom_29 : decode cX0_placeFrom 29 = .ok (.iload_n 2, 1) := by decide +kernel
theorem dX0_placeFrom_30 : decode cX0_placeFrom 30 = .ok (.bipush 7, 2) := by decide +kernel
theorem dX0_placeFrom_32 : decode cX0_placeFrom 32 = .ok (.if_icmp .ge 75, 3) := by decide +kernel
theorem dX0_placeFrom_35 : decode cX0_placeFrom 35 = .ok (.aload_n 0, 1) := by decide +kernel
theorem dX0_placeFrom_36 : decode cX0_placeFrom 36 = .ok (.getfield 18, 3) := by decide +kernel
theorem dX0_placeFrom_39 : decode cX0_placeFrom 39 = .ok (.iload_n 2, 1) := by decide +kernel
theorem dX0_placeFrom_40 : decode cX0_placeFrom 40 = .ok (.baload, 1) := by decide +kernel
theorem dX0_placeFrom_41 : decode cX0_placeFrom 41 = .ok (.ifCond .eq 6, 3) := by decide +kernel
theorem dX0_placeFrom_44 : decode cX0_placeFrom 44 = .ok (.goto 57, 3) := by decide +kernel
theorem dX0_placeFrom_47 : decode cX0_placeFrom 47 = .ok (.aload_n 0, 1) := by decide +kernel
theorem dX0_placeFrom_48 : decode cX0_placeFrom 48 = .ok (.getfield 18, 3) := by decide +kernel
theorem dX0_placeFrom_51 : decode cX0_placeFrom 51 = .ok (.iload_n 2, 1) := by decide +kernel
theorem dX0_placeFrom_52 : decode cX0_placeFrom 52 = .ok (.iconst 1, 1) := by decide +kernel
theorem dX0_placeFrom_53 : decode cX0_placeFrom 53 = .ok (.bastore, 1) := by decide +kernel
theorem dX0_placeFrom_54 : decode cX0_placeFrom 54 = .ok (.aload_n 0, 1) := by decide +kernel
theorem dX0_placeFrom_55 : decode cX0_placeFrom 55 = .ok (.getfield 11, 3) := by decide +kernel
theorem dX0_placeFrom_58 : decode cX0_placeFrom 58 = .ok (.iload_n 1, 1) := by decide +kernel
theorem dX0_placeFrom_59 : decode cX0_placeFrom 59 = .ok (.iload_n 2, 1) := by decide +kernel
theorem dX0_placeFrom_60 : decode cX0_placeFrom 60 = .ok (.iastore, 1) := by decide +kernel
theorem dX0_placeFrom_61 : decode cX0_placeFrom 61 = .ok (.aload_n 0, 1) := by decide +kernel
theorem dX0_placeFrom_62 : decode cX0_placeFrom 62 = .ok (.getfield 22, 3) := by decide +kernel
theorem dX0_placeFrom_65 : decode cX0_placeFrom 65 = .ok (.aload_n 0, 1) := by decide +kernel
theorem dX0_placeFrom_66 : decode cX0_placeFrom 66 = .ok (.getfield 26, 3) := by decide +kernel
theorem dX0_placeFrom_69 : decode cX0_placeFrom 69 = .ok (.iload_n 2, 1) := by decide +kernel
theorem dX0_placeFrom_70 : decode cX0_placeFrom 70 = .ok (.invokevirtual 69, 3) := by decide +kernel
theorem dX0_placeFrom_73 : decode cX0_placeFrom 73 = .ok (.aload_n 0, 1) := by decide +kernel
theorem dX0_placeFrom_74 : decode cX0_placeFrom 74 = .ok (.invokevirtual 73, 3) := by decide +kernel
theorem dX0_placeFrom_77 : decode cX0_placeFrom 77 = .ok (.ifCond .eq 10, 3) := by decide +kernel
theorem dX0_placeFrom_80 : decode cX0_placeFrom 80 = .ok (.aload_n 0, 1) := by decide +kernel
theorem dX0_placeFrom_81 : decode cX0_placeFrom 81 = .ok (.iload_n 1, 1) := by decide +kernel
theorem dX0_placeFrom_82 : decode cX0_placeFrom 82 = .ok (.iconst 1, 1) := by decide +kernel
theorem dX0_placeFrom_83 : decode cX0_placeFrom 83 = .ok (.iadd, 1) := by decide +kernel
theorem dX0_placeFrom_84 : decode cX0_placeFrom 84 = .ok (.invokestatic 62, 3) := by decide +kernel
theorem dX0_placeFrom_87 : decode cX0_placeFrom 87 = .ok (.aload_n 0, 1) := by decide +kernel
theorem dX0_placeFrom_88 : decode cX0_placeFrom 88 = .ok (.getfield 22, 3) := by decide +kernel
theorem dX0_placeFrom_91 : decode cX0_placeFrom 91 = .ok (.invokevirtual 77, 3) := by decide +kernel
theorem dX0_placeFrom_94 : decode cX0_placeFrom 94 = .ok (.aload_n 0, 1) := by decide +kernel
theorem dX0_placeFrom_95 : decode cX0_placeFrom 95 = .ok (.getfield 18, 3) := by decide +kernel
theorem dX0_placeFrom_98 : decode cX0_placeFrom 98 = .ok (.iload_n 2, 1) := by decide +kernel
theorem dX0_placeFrom_99 : decode cX0_placeFrom 99 = .ok (.iconst 0, 1) := by decide +kernel
theorem dX0_placeFrom_100 : decode cX0_placeFrom 100 = .ok (.bastore, 1) := by decide +kernel
theorem dX0_placeFrom_101 : decode cX0_placeFrom 101 = .ok (.iinc 2 1, 3) := by decide +kernel
theorem dX0_placeFrom_104 : decode cX0_placeFrom 104 = .ok (.goto (-83), 3) := by decide +kernel
theorem dX0_placeFrom_107 : decode cX0_placeFrom 107 = .ok (.return_, 1) := by decide +kernel
theorem dX0_mayBeBest_0 : decode cX0_mayBeBest 0 = .ok (.aload_n 0, 1) := by decide +kernel
theorem dX0_mayBeBest_1 : decode cX0_mayBeBest 1 = .ok (.getfield 22, 3) := by decide +kernel
theorem dX0_mayBeBest_4 : decode cX0_mayBeBest 4 = .ok (.invokevirtual 80, 3) := by decide +kernel
theorem dX0_mayBeBest_7 : decode cX0_mayBeBest 7 = .ok (.astore_n 1, 1) := by decide +kernel
theorem dX0_mayBeBest_8 : decode cX0_mayBeBest 8 = .ok (.aload_n 1, 1) := by decide +kernel
theorem dX0_mayBeBest_9 : decode cX0_mayBeBest 9 = .ok (.getfield 84, 3) := by decide +kernel
theorem dX0_mayBeBest_12 : decode cX0_mayBeBest 12 = .ok (.aload_n 0, 1) := by decide +kernel
theorem dX0_mayBeBest_13 : decode cX0_mayBeBest 13 = .ok (.getfield 47, 3) := by decide +kernel
theorem dX0_mayBeBest_16 : decode cX0_mayBeBest 16 = .ok (.if_icmp .lt 25, 3) := by decide +kernel
theorem dX0_mayBeBest_19 : decode cX0_mayBeBest 19 = .ok (.aload_n 1, 1) := by decide +kernel
theorem dX0_mayBeBest_20 : decode cX0_mayBeBest 20 = .ok (.getfield 84, 3) := by decide +kernel
theorem dX0_mayBeBest_23 : decode cX0_mayBeBest 23 = .ok (.aload_n 0, 1) := by decide +kernel
theorem dX0_mayBeBest_24 : decode cX0_mayBeBest 24 = .ok (.getfield 47, 3) := by decide +kernel
theorem dX0_mayBeBest_27 : decode cX0_mayBeBest 27 = .ok (.if_icmp .ne 18, 3) := by decide +kernel
theorem dX0_mayBeBest_30 : decode cX0_mayBeBest 30 = .ok (.aload_n 1, 1) := by decide +kernel
theorem dX0_mayBeBest_31 : decode cX0_mayBeBest 31 = .ok (.getfield 89, 3) := by decide +kernel
theorem dX0_mayBeBest_34 : decode cX0_mayBeBest 34 = .ok (.aload_n 0, 1) := by decide +kernel
theorem dX0_mayBeBest_35 : decode cX0_mayBeBest 35 = .ok (.getfield 50, 3) := by decide +kernel
theorem dX0_mayBeBest_38 : decode cX0_mayBeBest 38 = .ok (.if_icmp .ge 7, 3) := by decide +kernel
theorem dX0_mayBeBest_41 : decode cX0_mayBeBest 41 = .ok (.iconst 1, 1) := by decide +kernel
theorem dX0_mayBeBest_42 : decode cX0_mayBeBest 42 = .ok (.goto 4, 3) := by decide +kernel
theorem dX0_mayBeBest_45 : decode cX0_mayBeBest 45 = .ok (.iconst 0, 1) := by decide +kernel
theorem dX0_mayBeBest_46 : decode cX0_mayBeBest 46 = .ok (.ireturn, 1) := by decide +kernel
theorem dX0_keep_0 : decode cX0_keep 0 = .ok (.aload_n 0, 1) := by decide +kernel
theorem dX0_keep_1 : decode cX0_keep 1 = .ok (.aload_n 0, 1) := by decide +kernel
theorem dX0_keep_2 : decode cX0_keep 2 = .ok (.getfield 22, 3) := by decide +kernel
theorem dX0_keep_5 : decode cX0_keep 5 = .ok (.invokevirtual 80, 3) := by decide +kernel
theorem dX0_keep_8 : decode cX0_keep 8 = .ok (.getfield 84, 3) := by decide +kernel
theorem dX0_keep_11 : decode cX0_keep 11 = .ok (.putfield 47, 3) := by decide +kernel
theorem dX0_keep_14 : decode cX0_keep 14 = .ok (.aload_n 0, 1) := by decide +kernel
theorem dX0_keep_15 : decode cX0_keep 15 = .ok (.aload_n 0, 1) := by decide +kernel
theorem dX0_keep_16 : decode cX0_keep 16 = .ok (.getfield 22, 3) := by decide +kernel
theorem dX0_keep_19 : decode cX0_keep 19 = .ok (.invokevirtual 80, 3) := by decide +kernel
theorem dX0_keep_22 : decode cX0_keep 22 = .ok (.getfield 89, 3) := by decide +kernel
theorem dX0_keep_25 : decode cX0_keep 25 = .ok (.putfield 50, 3) := by decide +kernel
theorem dX0_keep_28 : decode cX0_keep 28 = .ok (.iconst 0, 1) := by decide +kernel
theorem dX0_keep_29 : decode cX0_keep 29 = .ok (.istore_n 1, 1) := by decide +kernel
theorem dX0_keep_30 : decode cX0_keep 30 = .ok (.iload_n 1, 1) := by decide +kernel
theorem dX0_keep_31 : decode cX0_keep 31 = .ok (.aload_n 0, 1) := by decide +kernel
theorem dX0_keep_32 : decode cX0_keep 32 = .ok (.getfield 45, 3) := by decide +kernel
theorem dX0_keep_35 : decode cX0_keep 35 = .ok (.if_icmp .ge 27, 3) := by decide +kernel
theorem dX0_keep_38 : decode cX0_keep 38 = .ok (.iload_n 1, 1) := by decide +kernel
theorem dX0_keep_39 : decode cX0_keep 39 = .ok (.bipush 7, 2) := by decide +kernel
theorem dX0_keep_41 : decode cX0_keep 41 = .ok (.if_icmp .ge 21, 3) := by decide +kernel
theorem dX0_keep_44 : decode cX0_keep 44 = .ok (.aload_n 0, 1) := by decide +kernel
theorem dX0_keep_45 : decode cX0_keep 45 = .ok (.getfield 15, 3) := by decide +kernel
theorem dX0_keep_48 : decode cX0_keep 48 = .ok (.iload_n 1, 1) := by decide +kernel
theorem dX0_keep_49 : decode cX0_keep 49 = .ok (.aload_n 0, 1) := by decide +kernel
theorem dX0_keep_50 : decode cX0_keep 50 = .ok (.getfield 11, 3) := by decide +kernel
theorem dX0_keep_53 : decode cX0_keep 53 = .ok (.iload_n 1, 1) := by decide +kernel
theorem dX0_keep_54 : decode cX0_keep 54 = .ok (.iaload, 1) := by decide +kernel
theorem dX0_keep_55 : decode cX0_keep 55 = .ok (.iastore, 1) := by decide +kernel
theorem dX0_keep_56 : decode cX0_keep 56 = .ok (.iinc 1 1, 3) := by decide +kernel
theorem dX0_keep_59 : decode cX0_keep 59 = .ok (.goto (-29), 3) := by decide +kernel
theorem dX0_keep_62 : decode cX0_keep 62 = .ok (.return_, 1) := by decide +kernel
theorem dX1_init_0 : decode cX1_init 0 = .ok (.aload_n 0, 1) := by decide +kernel
theorem dX1_init_1 : decode cX1_init 1 = .ok (.invokespecial 3, 3) := by decide +kernel
theorem dX1_init_4 : decode cX1_init 4 = .ok (.aload_n 0, 1) := by decide +kernel
theorem dX1_init_5 : decode cX1_init 5 = .ok (.bipush 6, 2) := by decide +kernel
theorem dX1_init_7 : decode cX1_init 7 = .ok (.newarray .int, 2) := by decide +kernel
theorem dX1_init_9 : decode cX1_init 9 = .ok (.putfield 11, 3) := by decide +kernel
theorem dX1_init_12 : decode cX1_init 12 = .ok (.aload_n 0, 1) := by decide +kernel
theorem dX1_init_13 : decode cX1_init 13 = .ok (.aload_n 1, 1) := by decide +kernel
theorem dX1_init_14 : decode cX1_init 14 = .ok (.putfield 15, 3) := by decide +kernel
theorem dX1_init_17 : decode cX1_init 17 = .ok (.aload_n 0, 1) := by decide +kernel
theorem dX1_init_18 : decode cX1_init 18 = .ok (.aload_n 2, 1) := by decide +kernel
theorem dX1_init_19 : decode cX1_init 19 = .ok (.putfield 19, 3) := by decide +kernel
theorem dX1_init_22 : decode cX1_init 22 = .ok (.aload_n 0, 1) := by decide +kernel
theorem dX1_init_23 : decode cX1_init 23 = .ok (.aload_n 3, 1) := by decide +kernel
theorem dX1_init_24 : decode cX1_init 24 = .ok (.putfield 23, 3) := by decide +kernel
theorem dX1_init_27 : decode cX1_init 27 = .ok (.aload_n 0, 1) := by decide +kernel
theorem dX1_init_28 : decode cX1_init 28 = .ok (.aload 4, 2) := by decide +kernel
theorem dX1_init_30 : decode cX1_init 30 = .ok (.putfield 26, 3) := by decide +kernel
theorem dX1_init_33 : decode cX1_init 33 = .ok (.return_, 1) := by decide +kernel
theorem dX1_seek_0 : decode cX1_seek 0 = .ok (.iconst 0, 1) := by decide +kernel
theorem dX1_seek_1 : decode cX1_seek 1 = .ok (.istore_n 1, 1) := by decide +kernel
theorem dX1_seek_2 : decode cX1_seek 2 = .ok (.iload_n 1, 1) := by decide +kernel
theorem dX1_seek_3 : decode cX1_seek 3 = .ok (.bipush 6, 2) := by decide +kernel
theorem dX1_seek_5 : decode cX1_seek 5 = .ok (.if_icmp .ge 16, 3) := by decide +kernel
theorem dX1_seek_8 : decode cX1_seek 8 = .ok (.aload_n 0, 1) := by decide +kernel
theorem dX1_seek_9 : decode cX1_seek 9 = .ok (.getfield 11, 3) := by decide +kernel
theorem dX1_seek_12 : decode cX1_seek 12 = .ok (.iload_n 1, 1) := by decide +kernel
theorem dX1_seek_13 : decode cX1_seek 13 = .ok (.iconst (-1), 1) := by decide +kernel
theorem dX1_seek_14 : decode cX1_seek 14 = .ok (.iastore, 1) := by decide +kernel
theorem dX1_seek_15 : decode cX1_seek 15 = .ok (.iinc 1 1, 3) := by decide +kernel
theorem dX1_seek_18 : decode cX1_seek 18 = .ok (.goto (-16), 3) := by decide +kernel
theorem dX1_seek_21 : decode cX1_seek 21 = .ok (.aload_n 0, 1) := by decide +kernel
theorem dX1_seek_22 : decode cX1_seek 22 = .ok (.iconst 0, 1) := by decide +kernel
theorem dX1_seek_23 : decode cX1_seek 23 = .ok (.iconst (-1), 1) := by decide +kernel
theorem dX1_seek_24 : decode cX1_seek 24 = .ok (.iconst (-1), 1) := by decide +kernel
theorem dX1_seek_25 : decode cX1_seek 25 = .ok (.iconst (-1), 1) := by decide +kernel
theorem dX1_seek_26 : decode cX1_seek 26 = .ok (.iconst (-1), 1) := by decide +kernel
theorem dX1_seek_27 : decode cX1_seek 27 = .ok (.invokevirtual 29, 3) := by decide +kernel
theorem dX1_seek_30 : decode cX1_seek 30 = .ok (.aload_n 0, 1) := by decide +kernel
theorem dX1_seek_31 : decode cX1_seek 31 = .ok (.getfield 11, 3) := by decide +kernel
theorem dX1_seek_34 : decode cX1_seek 34 = .ok (.iconst 0, 1) := by decide +kernel
theorem dX1_seek_35 : decode cX1_seek 35 = .ok (.iaload, 1) := by decide +kernel
theorem dX1_seek_36 : decode cX1_seek 36 = .ok (.iconst (-1), 1) := by decide +kernel
theorem dX1_seek_37 : decode cX1_seek 37 = .ok (.if_icmp .ne 7, 3) := by decide +kernel
theorem dX1_seek_40 : decode cX1_seek 40 = .ok (.aload_n 0, 1) := by decide +kernel
theorem dX1_seek_41 : decode cX1_seek 41 = .ok (.invokevirtual 33, 3) := by decide +kernel
theorem dX1_seek_44 : decode cX1_seek 44 = .ok (.aload_n 0, 1) := by decide +kernel
theorem dX1_seek_45 : decode cX1_seek 45 = .ok (.getfield 11, 3) := by decide +kernel
theorem dX1_seek_48 : decode cX1_seek 48 = .ok (.iconst 0, 1) := by decide +kernel
theorem dX1_seek_49 : decode cX1_seek 49 = .ok (.iaload, 1) := by decide +kernel
theorem dX1_seek_50 : decode cX1_seek 50 = .ok (.iconst (-1), 1) := by decide +kernel
theorem dX1_seek_51 : decode cX1_seek 51 = .ok (.if_icmp .ne 7, 3) := by decide +kernel
theorem dX1_seek_54 : decode cX1_seek 54 = .ok (.aload_n 0, 1) := by decide +kernel
theorem dX1_seek_55 : decode cX1_seek 55 = .ok (.invokevirtual 36, 3) := by decide +kernel
theorem dX1_seek_58 : decode cX1_seek 58 = .ok (.return_, 1) := by decide +kernel
theorem dX1_seekOne_0 : decode cX1_seekOne 0 = .ok (.iconst 0, 1) := by decide +kernel
theorem dX1_seekOne_1 : decode cX1_seekOne 1 = .ok (.istore_n 1, 1) := by decide +kernel
theorem dX1_seekOne_2 : decode cX1_seekOne 2 = .ok (.iload_n 1, 1) := by decide +kernel
theorem dX1_seekOne_3 : decode cX1_seekOne 3 = .ok (.aload_n 0, 1) := by decide +kernel
theorem dX1_seekOne_4 : decode cX1_seekOne 4 = .ok (.getfield 19, 3) := by decide +kernel
theorem dX1_seekOne_7 : decode cX1_seekOne 7 = .ok (.getfield 39, 3) := by decide +kernel
theorem dX1_seekOne_10 : decode cX1_seekOne 10 = .ok (.if_icmp .gt 37, 3) := by decide +kernel
theorem dX1_seekOne_13 : decode cX1_seekOne 13 = .ok (.iconst 0, 1) := by decide +kernel
theorem dX1_seekOne_14 : decode cX1_seekOne 14 = .ok (.istore_n 2, 1) := by decide +kernel
theorem dX1_seekOne_15 : decode cX1_seekOne 15 = .ok (.iload_n 2, 1) := by decide +kernel
theorem dX1_seekOne_16 : decode cX1_seekOne 16 = .ok (.aload_n 0, 1) := by decide +kernel
theorem dX1_seekOne_17 : decode cX1_seekOne 17 = .ok (.getfield 23, 3) := by decide +kernel
theorem dX1_seekOne_20 : decode cX1_seekOne 20 = .ok (.getfield 39, 3) := by decide +kernel
theorem dX1_seekOne_23 : decode cX1_seekOne 23 = .ok (.if_icmp .ge 18, 3) := by decide +kernel
theorem dX1_seekOne_26 : decode cX1_seekOne 26 = .ok (.aload_n 0, 1) := by decide +kernel
theorem dX1_seekOne_27 : decode cX1_seekOne 27 = .ok (.iconst 1, 1) := by decide +kernel
theorem dX1_seekOne_28 : decode cX1_seekOne 28 = .ok (.iload_n 1, 1) := by decide +kernel
theorem dX1_seekOne_29 : decode cX1_seekOne 29 = .ok (.iload_n 2, 1) := by decide +kernel
theorem dX1_seekOne_30 : decode cX1_seekOne 30 = .ok (.iconst (-1), 1) := by decide +kernel
theorem dX1_seekOne_31 : decode cX1_seekOne 31 = .ok (.iconst (-1), 1) := by decide +kernel
theorem dX1_seekOne_32 : decode cX1_seekOne 32 = .ok (.invokevirtual 29, 3) := by decide +kernel
theorem dX1_seekOne_35 : decode cX1_seekOne 35 = .ok (.iinc 2 1, 3) := by decide +kernel
theorem dX1_seekOne_38 : decode cX1_seekOne 38 = .ok (.goto (-23), 3) := by decide +kernel
theorem dX1_seekOne_41 : decode cX1_seekOne 41 = .ok (.iinc 1 1, 3) := by decide +kernel
theorem dX1_seekOne_44 : decode cX1_seekOne 44 = .ok (.goto (-42), 3) := by decide +kernel
theorem dX1_seekOne_47 : decode cX1_seekOne 47 = .ok (.return_, 1) := by decide +kernel
theorem dX1_seekTwo_0 : decode cX1_seekTwo 0 = .ok (.aload_n 0, 1) := by decide +kernel
theorem dX1_seekTwo_1 : decode cX1_seekTwo 1 = .ok (.getfield 23, 3) := by decide +kernel
theorem dX1_seekTwo_4 : decode cX1_seekTwo 4 = .ok (.getfield 39, 3) := by decide +kernel
theorem dX1_seekTwo_7 : decode cX1_seekTwo 7 = .ok (.aload_n 0, 1) := by decide +kernel
theorem dX1_seekTwo_8 : decode cX1_seekTwo 8 = .ok (.getfield 23, 3) := by decide +kernel
theorem dX1_seekTwo_11 : decode cX1_seekTwo 11 = .ok (.getfield 39, 3) := by decide +kernel
theorem dX1_seekTwo_14 : decode cX1_seekTwo 14 = .ok (.imul, 1) := by decide +kernel
theorem dX1_seekTwo_15 : decode cX1_seekTwo 15 = .ok (.istore_n 1, 1) := by decide +kernel
theorem dX1_seekTwo_16 : decode cX1_seekTwo 16 = .ok (.iconst 0, 1) := by decide +kernel
theorem dX1_seekTwo_17 : decode cX1_seekTwo 17 = .ok (.istore_n 2, 1) := by decide +kernel
theorem dX1_seekTwo_18 : decode cX1_seekTwo 18 = .ok (.iload_n 2, 1) := by decide +kernel
theorem dX1_seekTwo_19 : decode cX1_seekTwo 19 = .ok (.aload_n 0, 1) := by decide +kernel
theorem dX1_seekTwo_20 : decode cX1_seekTwo 20 = .ok (.getfield 19, 3) := by decide +kernel
theorem dX1_seekTwo_23 : decode cX1_seekTwo 23 = .ok (.getfield 39, 3) := by decide +kernel
theorem dX1_seekTwo_26 : decode cX1_seekTwo 26 = .ok (.if_icmp .gt 80, 3) := by decide +kernel
theorem dX1_seekTwo_29 : decode cX1_seekTwo 29 = .ok (.iload_n 2, 1) := by decide +kernel
theorem dX1_seekTwo_30 : decode cX1_seekTwo 30 = .ok (.istore_n 3, 1) := by decide +kernel
theorem dX1_seekTwo_31 : decode cX1_seekTwo 31 = .ok (.iload_n 3, 1) := by decide +kernel
theorem dX1_seekTwo_32 : decode cX1_seekTwo 32 = .ok (.aload_n 0, 1) := by decide +kernel
theorem dX1_seekTwo_33 : decode cX1_seekTwo 33 = .ok (.getfield 19, 3) := by decide +kernel
theorem dX1_seekTwo_36 : decode cX1_seekTwo 36 = .ok (.getfield 39, 3) := by decide +kernel
theorem dX1_seekTwo_39 : decode cX1_seekTwo 39 = .ok (.if_icmp .gt 61, 3) := by decide +kernel
theorem dX1_seekTwo_42 : decode cX1_seekTwo 42 = .ok (.iconst 0, 1) := by decide +kernel
theorem dX1_seekTwo_43 : decode cX1_seekTwo 43 = .ok (.istore 4, 2) := by decide +kernel
theorem dX1_seekTwo_45 : decode cX1_seekTwo 45 = .ok (.iload 4, 2) := by decide +kernel
theorem dX1_seekTwo_47 : decode cX1_seekTwo 47 = .ok (.iload_n 1, 1) := by decide +kernel
theorem dX1_seekTwo_48 : decode cX1_seekTwo 48 = .ok (.if_icmp .ge 46, 3) := by decide +kernel
theorem dX1_seekTwo_51 : decode cX1_seekTwo 51 = .ok (.aload_n 0, 1) := by decide +kernel
theorem dX1_seekTwo_52 : decode cX1_seekTwo 52 = .ok (.getfield 23, 3) := by decide +kernel
theorem dX1_seekTwo_55 : decode cX1_seekTwo 55 = .ok (.getfield 39, 3) := by decide +kernel
theorem dX1_seekTwo_58 : decode cX1_seekTwo 58 = .ok (.ifCond .le 36, 3) := by decide +kernel
theorem dX1_seekTwo_61 : decode cX1_seekTwo 61 = .ok (.aload_n 0, 1) := by decide +kernel
theorem dX1_seekTwo_62 : decode cX1_seekTwo 62 = .ok (.iconst 2, 1) := by decide +kernel
theorem dX1_seekTwo_63 : decode cX1_seekTwo 63 = .ok (.iload_n 2, 1) := by decide +kernel
theorem dX1_seekTwo_64 : decode cX1_seekTwo 64 = .ok (.iload 4, 2) := by decide +kernel
theorem dX1_seekTwo_66 : decode cX1_seekTwo 66 = .ok (.aload_n 0, 1) := by decide +kernel
theorem dX1_seekTwo_67 : decode cX1_seekTwo 67 = .ok (.getfield 23, 3) := by decide +kernel
theorem dX1_seekTwo_70 : decode cX1_seekTwo 70 = .ok (.getfield 39, 3) := by decide +kernel
theorem dX1_seekTwo_73 : decode cX1_seekTwo 73 = .ok (.idiv, 1) := by decide +kernel
theorem dX1_seekTwo_74 : decode cX1_seekTwo 74 = .ok (.iload_n 3, 1) := by decide +kernel
theorem dX1_seekTwo_75 : decode cX1_seekTwo 75 = .ok (.iload 4, 2) := by decide +kernel
theorem dX1_seekTwo_77 : decode cX1_seekTwo 77 = .ok (.aload_n 0, 1) := by decide +kernel
theorem dX1_seekTwo_78 : decode cX1_seekTwo 78 = .ok (.getfield 23, 3) := by decide +kernel
theorem dX1_seekTwo_81 : decode cX1_seekTwo 81 = .ok (.getfield 39, 3) := by decide +kernel
theorem dX1_seekTwo_84 : decode cX1_seekTwo 84 = .ok (.irem, 1) := by decide +kernel
theorem dX1_seekTwo_85 : decode cX1_seekTwo 85 = .ok (.invokevirtual 29, 3) := by decide +kernel
theorem dX1_seekTwo_88 : decode cX1_seekTwo 88 = .ok (.iinc 4 1, 3) := by decide +kernel
theorem dX1_seekTwo_91 : decode cX1_seekTwo 91 = .ok (.goto (-46), 3) := by decide +kernel
theorem dX1_seekTwo_94 : decode cX1_seekTwo 94 = .ok (.iinc 3 1, 3) := by decide +kernel
theorem dX1_seekTwo_97 : decode cX1_seekTwo 97 = .ok (.goto (-66), 3) := by decide +kernel
theorem dX1_seekTwo_100 : decode cX1_seekTwo 100 = .ok (.iinc 2 1, 3) := by decide +kernel
theorem dX1_seekTwo_103 : decode cX1_seekTwo 103 = .ok (.goto (-85), 3) := by decide +kernel
theorem dX1_seekTwo_106 : decode cX1_seekTwo 106 = .ok (.return_, 1) := by decide +kernel
theorem dX1_attempt_0 : decode cX1_attempt 0 = .ok (.aload_n 0, 1) := by decide +kernel
theorem dX1_attempt_1 : decode cX1_attempt 1 = .ok (.getfield 15, 3) := by decide +kernel
theorem dX1_attempt_4 : decode cX1_attempt 4 = .ok (.aload_n 0, 1) := by decide +kernel
theorem dX1_attempt_5 : decode cX1_attempt 5 = .ok (.getfield 26, 3) := by decide +kernel
theorem dX1_attempt_8 : decode cX1_attempt 8 = .ok (.invokevirtual 45, 3) := by decide +kernel
theorem dX1_attempt_11 : decode cX1_attempt 11 = .ok (.iconst 0, 1) := by decide +kernel
theorem dX1_attempt_12 : decode cX1_attempt 12 = .ok (.istore 6, 2) := by decide +kernel
theorem dX1_attempt_14 : decode cX1_attempt 14 = .ok (.iload 6, 2) := by decide +kernel
theorem dX1_attempt_16 : decode cX1_attempt 16 = .ok (.aload_n 0, 1) := by decide +kernel
theorem dX1_attempt_17 : decode cX1_attempt 17 = .ok (.getfield 19, 3) := by decide +kernel
theorem dX1_attempt_20 : decode cX1_attempt 20 = .ok (.getfield 39, 3) := by decide +kernel
theorem dX1_attempt_23 : decode cX1_attempt 23 = .ok (.if_icmp .gt 82, 3) := by decide +kernel
theorem dX1_attempt_26 : decode cX1_attempt 26 = .ok (.aload_n 0, 1) := by decide +kernel
theorem dX1_attempt_27 : decode cX1_attempt 27 = .ok (.getfield 15, 3) := by decide +kernel
theorem dX1_attempt_30 : decode cX1_attempt 30 = .ok (.invokevirtual 51, 3) := by decide +kernel
theorem dX1_attempt_33 : decode cX1_attempt 33 = .ok (.ifCond .eq 72, 3) := by decide +kernel
theorem dX1_attempt_36 : decode cX1_attempt 36 = .ok (.iload 6, 2) := by decide +kernel
theorem dX1_attempt_38 : decode cX1_attempt 38 = .ok (.iload_n 2, 1) := by decide +kernel
theorem dX1_attempt_39 : decode cX1_attempt 39 = .ok (.if_icmp .ne 15, 3) := by decide +kernel
theorem dX1_attempt_42 : decode cX1_attempt 42 = .ok (.aload_n 0, 1) := by decide +kernel
theorem dX1_attempt_43 : decode cX1_attempt 43 = .ok (.getfield 15, 3) := by decide +kernel
theorem dX1_attempt_46 : decode cX1_attempt 46 = .ok (.aload_n 0, 1) := by decide +kernel
theorem dX1_attempt_47 : decode cX1_attempt 47 = .ok (.getfield 23, 3) := by decide +kernel
theorem dX1_attempt_50 : decode cX1_attempt 50 = .ok (.iload_n 3, 1) := by decide +kernel
theorem dX1_attempt_51 : decode cX1_attempt 51 = .ok (.invokevirtual 55, 3) := by decide +kernel
theorem dX1_attempt_54 : decode cX1_attempt 54 = .ok (.iload 6, 2) := by decide +kernel
theorem dX1_attempt_56 : decode cX1_attempt 56 = .ok (.iload 4, 2) := by decide +kernel
theorem dX1_attempt_58 : decode cX1_attempt 58 = .ok (.if_icmp .ne 16, 3) := by decide +kernel
theorem dX1_attempt_61 : decode cX1_attempt 61 = .ok (.aload_n 0, 1) := by decide +kernel
theorem dX1_attempt_62 : decode cX1_attempt 62 = .ok (.getfield 15, 3) := by decide +kernel
theorem dX1_attempt_65 : decode cX1_attempt 65 = .ok (.aload_n 0, 1) := by decide +kernel
theorem dX1_attempt_66 : decode cX1_attempt 66 = .ok (.getfield 23, 3) := by decide +kernel
theorem dX1_attempt_69 : decode cX1_attempt 69 = .ok (.iload 5, 2) := by decide +kernel
theorem dX1_attempt_71 : decode cX1_attempt 71 = .ok (.invokevirtual 55, 3) := by decide +kernel
theorem dX1_attempt_74 : decode cX1_attempt 74 = .ok (.iload 6, 2) := by decide +kernel
theorem dX1_attempt_76 : decode cX1_attempt 76 = .ok (.aload_n 0, 1) := by decide +kernel
theorem dX1_attempt_77 : decode cX1_attempt 77 = .ok (.getfield 19, 3) := by decide +kernel
theorem dX1_attempt_80 : decode cX1_attempt 80 = .ok (.getfield 39, 3) := by decide +kernel
theorem dX1_attempt_83 : decode cX1_attempt 83 = .ok (.if_icmp .ge 16, 3) := by decide +kernel
theorem dX1_attempt_86 : decode cX1_attempt 86 = .ok (.aload_n 0, 1) := by decide +kernel
theorem dX1_attempt_87 : decode cX1_attempt 87 = .ok (.getfield 15, 3) := by decide +kernel
theorem dX1_attempt_90 : decode cX1_attempt 90 = .ok (.aload_n 0, 1) := by decide +kernel
theorem dX1_attempt_91 : decode cX1_attempt 91 = .ok (.getfield 19, 3) := by decide +kernel
theorem dX1_attempt_94 : decode cX1_attempt 94 = .ok (.iload 6, 2) := by decide +kernel
theorem dX1_attempt_96 : decode cX1_attempt 96 = .ok (.invokevirtual 55, 3) := by decide +kernel
theorem dX1_attempt_99 : decode cX1_attempt 99 = .ok (.iinc 6 1, 3) := by decide +kernel
theorem dX1_attempt_102 : decode cX1_attempt 102 = .ok (.goto (-88), 3) := by decide +kernel
theorem dX1_attempt_105 : decode cX1_attempt 105 = .ok (.aload_n 0, 1) := by decide +kernel
theorem dX1_attempt_106 : decode cX1_attempt 106 = .ok (.getfield 15, 3) := by decide +kernel
theorem dX1_attempt_109 : decode cX1_attempt 109 = .ok (.invokevirtual 59, 3) := by decide +kernel
theorem dX1_attempt_112 : decode cX1_attempt 112 = .ok (.getfield 63, 3) := by decide +kernel
theorem dX1_attempt_115 : decode cX1_attempt 115 = .ok (.istore 6, 2) := by decide +kernel
theorem dX1_attempt_117 : decode cX1_attempt 117 = .ok (.aload_n 0, 1) := by decide +kernel
theorem dX1_attempt_118 : decode cX1_attempt 118 = .ok (.getfield 15, 3) := by decide +kernel
theorem dX1_attempt_121 : decode cX1_attempt 121 = .ok (.invokevirtual 51, 3) := by decide +kernel
theorem dX1_attempt_124 : decode cX1_attempt 124 = .ok (.ifCond .eq 69, 3) := by decide +kernel
theorem dX1_attempt_127 : decode cX1_attempt 127 = .ok (.aload_n 0, 1) := by decide +kernel
theorem dX1_attempt_128 : decode cX1_attempt 128 = .ok (.getfield 11, 3) := by decide +kernel
theorem dX1_attempt_131 : decode cX1_attempt 131 = .ok (.iconst 0, 1) := by decide +kernel
theorem dX1_attempt_132 : decode cX1_attempt 132 = .ok (.iaload, 1) := by decide +kernel
theorem dX1_attempt_133 : decode cX1_attempt 133 = .ok (.iconst (-1), 1) := by decide +kernel
theorem dX1_attempt_134 : decode cX1_attempt 134 = .ok (.if_icmp .eq 14, 3) := by decide +kernel
theorem dX1_attempt_137 : decode cX1_attempt 137 = .ok (.iload 6, 2) := by decide +kernel
theorem dX1_attempt_139 : decode cX1_attempt 139 = .ok (.aload_n 0, 1) := by decide +kernel
theorem dX1_attempt_140 : decode cX1_attempt 140 = .ok (.getfield 11, 3) := by decide +kernel
theorem dX1_attempt_143 : decode cX1_attempt 143 = .ok (.iconst 1, 1) := by decide +kernel
theorem dX1_attempt_144 : decode cX1_attempt 144 = .ok (.iaload, 1) := by decide +kernel
theorem dX1_attempt_145 : decode cX1_attempt 145 = .ok (.if_icmp .ge 48, 3) := by decide +kernel
theorem dX1_attempt_148 : decode cX1_attempt 148 = .ok (.aload_n 0, 1) := by decide +kernel
theorem dX1_attempt_149 : decode cX1_attempt 149 = .ok (.getfield 11, 3) := by decide +kernel
theorem dX1_attempt_152 : decode cX1_attempt 152 = .ok (.iconst 0, 1) := by decide +kernel
theorem dX1_attempt_153 : decode cX1_attempt 153 = .ok (.iload_n 1, 1) := by decide +kernel
theorem dX1_attempt_154 : decode cX1_attempt 154 = .ok (.iastore, 1) := by decide +kernel
theorem dX1_attempt_155 : decode cX1_attempt 155 = .ok (.aload_n 0, 1) := by decide +kernel
theorem dX1_attempt_156 : decode cX1_attempt 156 = .ok (.getfield 11, 3) := by decide +kernel
theorem dX1_attempt_159 : decode cX1_attempt 159 = .ok (.iconst 1, 1) := by decide +kernel
theorem dX1_attempt_160 : decode cX1_attempt 160 = .ok (.iload 6, 2) := by decide +kernel
theorem dX1_attempt_162 : decode cX1_attempt 162 = .ok (.iastore, 1) := by decide +kernel
theorem dX1_attempt_163 : decode cX1_attempt 163 = .ok (.aload_n 0, 1) := by decide +kernel
theorem dX1_attempt_164 : decode cX1_attempt 164 = .ok (.getfield 11, 3) := by decide +kernel
theorem dX1_attempt_167 : decode cX1_attempt 167 = .ok (.iconst 2, 1) := by decide +kernel
theorem dX1_attempt_168 : decode cX1_attempt 168 = .ok (.iload_n 2, 1) := by decide +kernel
theorem dX1_attempt_169 : decode cX1_attempt 169 = .ok (.iastore, 1) := by decide +kernel
theorem dX1_attempt_170 : decode cX1_attempt 170 = .ok (.aload_n 0, 1) := by decide +kernel
theorem dX1_attempt_171 : decode cX1_attempt 171 = .ok (.getfield 11, 3) := by decide +kernel
theorem dX1_attempt_174 : decode cX1_attempt 174 = .ok (.iconst 3, 1) := by decide +kernel
theorem dX1_attempt_175 : decode cX1_attempt 175 = .ok (.iload_n 3, 1) := by decide +kernel
theorem dX1_attempt_176 : decode cX1_attempt 176 = .ok (.iastore, 1) := by decide +kernel
theorem dX1_attempt_177 : decode cX1_attempt 177 = .ok (.aload_n 0, 1) := by decide +kernel
theorem dX1_attempt_178 : decode cX1_attempt 178 = .ok (.getfield 11, 3) := by decide +kernel
theorem dX1_attempt_181 : decode cX1_attempt 181 = .ok (.iconst 4, 1) := by decide +kernel
theorem dX1_attempt_182 : decode cX1_attempt 182 = .ok (.iload 4, 2) := by decide +kernel
theorem dX1_attempt_184 : decode cX1_attempt 184 = .ok (.iastore, 1) := by decide +kernel
theorem dX1_attempt_185 : decode cX1_attempt 185 = .ok (.aload_n 0, 1) := by decide +kernel
theorem dX1_attempt_186 : decode cX1_attempt 186 = .ok (.getfield 11, 3) := by decide +kernel
theorem dX1_attempt_189 : decode cX1_attempt 189 = .ok (.iconst 5, 1) := by decide +kernel
theorem dX1_attempt_190 : decode cX1_attempt 190 = .ok (.iload 5, 2) := by decide +kernel
theorem dX1_attempt_192 : decode cX1_attempt 192 = .ok (.iastore, 1) := by decide +kernel
theorem dX1_attempt_193 : decode cX1_attempt 193 = .ok (.return_, 1) := by decide +kernel
theorem dX2_init_0 : decode cX2_init 0 = .ok (.aload_n 0, 1) := by decide +kernel
theorem dX2_init_1 : decode cX2_init 1 = .ok (.invokespecial 3, 3) := by decide +kernel
theorem dX2_init_4 : decode cX2_init 4 = .ok (.aload_n 0, 1) := by decide +kernel
theorem dX2_init_5 : decode cX2_init 5 = .ok (.iconst (-1), 1) := by decide +kernel
theorem dX2_init_6 : decode cX2_init 6 = .ok (.putfield 9, 3) := by decide +kernel
theorem dX2_init_9 : decode cX2_init 9 = .ok (.aload_n 0, 1) := by decide +kernel
theorem dX2_init_10 : decode cX2_init 10 = .ok (.iload_n 1, 1) := by decide +kernel
theorem dX2_init_11 : decode cX2_init 11 = .ok (.newarray .int, 2) := by decide +kernel
theorem dX2_init_13 : decode cX2_init 13 = .ok (.putfield 15, 3) := by decide +kernel
theorem dX2_init_16 : decode cX2_init 16 = .ok (.return_, 1) := by decide +kernel
theorem dX2_isFull_0 : decode cX2_isFull 0 = .ok (.aload_n 0, 1) := by decide +kernel
theorem dX2_isFull_1 : decode cX2_isFull 1 = .ok (.getfield 19, 3) := by decide +kernel
theorem dX2_isFull_4 : decode cX2_isFull 4 = .ok (.aload_n 0, 1) := by decide +kernel
theorem dX2_isFull_5 : decode cX2_isFull 5 = .ok (.getfield 15, 3) := by decide +kernel
theorem dX2_isFull_8 : decode cX2_isFull 8 = .ok (.arraylength, 1) := by decide +kernel
theorem dX2_isFull_9 : decode cX2_isFull 9 = .ok (.if_icmp .lt 7, 3) := by decide +kernel
theorem dX2_isFull_12 : decode cX2_isFull 12 = .ok (.iconst 1, 1) := by decide +kernel
theorem dX2_isFull_13 : decode cX2_isFull 13 = .ok (.goto 4, 3) := by decide +kernel
theorem dX2_isFull_16 : decode cX2_isFull 16 = .ok (.iconst 0, 1) := by decide +kernel
theorem dX2_isFull_17 : decode cX2_isFull 17 = .ok (.ireturn, 1) := by decide +kernel
theorem dX2_append_0 : decode cX2_append 0 = .ok (.aload_n 0, 1) := by decide +kernel
theorem dX2_append_1 : decode cX2_append 1 = .ok (.invokevirtual 22, 3) := by decide +kernel
theorem dX2_append_4 : decode cX2_append 4 = .ok (.ifCond .ne 27, 3) := by decide +kernel
theorem dX2_append_7 : decode cX2_append 7 = .ok (.aload_n 0, 1) := by decide +kernel
theorem dX2_append_8 : decode cX2_append 8 = .ok (.getfield 15, 3) := by decide +kernel
theorem dX2_append_11 : decode cX2_append 11 = .ok (.aload_n 0, 1) := by decide +kernel
theorem dX2_append_12 : decode cX2_append 12 = .ok (.getfield 19, 3) := by decide +kernel
theorem dX2_append_15 : decode cX2_append 15 = .ok (.iload_n 1, 1) := by decide +kernel
theorem dX2_append_16 : decode cX2_append 16 = .ok (.iastore, 1) := by decide +kernel
theorem dX2_append_17 : decode cX2_append 17 = .ok (.aload_n 0, 1) := by decide +kernel
theorem dX2_append_18 : decode cX2_append 18 = .ok (.dup, 1) := by decide +kernel
theorem dX2_append_19 : decode cX2_append 19 = .ok (.getfield 19, 3) := by decide +kernel
theorem dX2_append_22 : decode cX2_append 22 = .ok (.iconst 1, 1) := by decide +kernel
theorem dX2_append_23 : decode cX2_append 23 = .ok (.iadd, 1) := by decide +kernel
theorem dX2_append_24 : decode cX2_append 24 = .ok (.putfield 19, 3) := by decide +kernel
theorem dX2_append_27 : decode cX2_append 27 = .ok (.aload_n 0, 1) := by decide +kernel
theorem dX2_append_28 : decode cX2_append 28 = .ok (.invokevirtual 26, 3) := by decide +kernel
theorem dX2_append_31 : decode cX2_append 31 = .ok (.return_, 1) := by decide +kernel
theorem dX2_shorten_0 : decode cX2_shorten 0 = .ok (.iload_n 1, 1) := by decide +kernel
theorem dX2_shorten_1 : decode cX2_shorten 1 = .ok (.ifCond .lt 20, 3) := by decide +kernel
theorem dX2_shorten_4 : decode cX2_shorten 4 = .ok (.iload_n 1, 1) := by decide +kernel
theorem dX2_shorten_5 : decode cX2_shorten 5 = .ok (.aload_n 0, 1) := by decide +kernel
theorem dX2_shorten_6 : decode cX2_shorten 6 = .ok (.getfield 19, 3) := by decide +kernel
theorem dX2_shorten_9 : decode cX2_shorten 9 = .ok (.if_icmp .gt 12, 3) := by decide +kernel
theorem dX2_shorten_12 : decode cX2_shorten 12 = .ok (.aload_n 0, 1) := by decide +kernel
theorem dX2_shorten_13 : decode cX2_shorten 13 = .ok (.iload_n 1, 1) := by decide +kernel
theorem dX2_shorten_14 : decode cX2_shorten 14 = .ok (.putfield 19, 3) := by decide +kernel
theorem dX2_shorten_17 : decode cX2_shorten 17 = .ok (.aload_n 0, 1) := by decide +kernel
theorem dX2_shorten_18 : decode cX2_shorten 18 = .ok (.invokevirtual 26, 3) := by decide +kernel
theorem dX2_shorten_21 : decode cX2_shorten 21 = .ok (.return_, 1) := by decide +kernel
theorem dX2_dropLastVerse_0 : decode cX2_dropLastVerse 0 = .ok (.aload_n 0, 1) := by decide +kernel
theorem dX2_dropLastVerse_1 : decode cX2_dropLastVerse 1 = .ok (.aload_n 0, 1) := by decide +kernel
theorem dX2_dropLastVerse_2 : decode cX2_dropLastVerse 2 = .ok (.getfield 29, 3) := by decide +kernel
theorem dX2_dropLastVerse_5 : decode cX2_dropLastVerse 5 = .ok (.iconst 1, 1) := by decide +kernel
theorem dX2_dropLastVerse_6 : decode cX2_dropLastVerse 6 = .ok (.if_icmp .le 16, 3) := by decide +kernel
theorem dX2_dropLastVerse_9 : decode cX2_dropLastVerse 9 = .ok (.iconst 5, 1) := by decide +kernel
theorem dX2_dropLastVerse_10 : decode cX2_dropLastVerse 10 = .ok (.aload_n 0, 1) := by decide +kernel
theorem dX2_dropLastVerse_11 : decode cX2_dropLastVerse 11 = .ok (.getfield 29, 3) := by decide +kernel
theorem dX2_dropLastVerse_14 : decode cX2_dropLastVerse 14 = .ok (.iconst 1, 1) := by decide +kernel
theorem dX2_dropLastVerse_15 : decode cX2_dropLastVerse 15 = .ok (.isub, 1) := by decide +kernel
theorem dX2_dropLastVerse_16 : decode cX2_dropLastVerse 16 = .ok (.imul, 1) := by decide +kernel
theorem dX2_dropLastVerse_17 : decode cX2_dropLastVerse 17 = .ok (.iconst 1, 1) := by decide +kernel
theorem dX2_dropLastVerse_18 : decode cX2_dropLastVerse 18 = .ok (.isub, 1) := by decide +kernel
theorem dX2_dropLastVerse_19 : decode cX2_dropLastVerse 19 = .ok (.goto 4, 3) := by decide +kernel
theorem dX2_dropLastVerse_22 : decode cX2_dropLastVerse 22 = .ok (.iconst 0, 1) := by decide +kernel
theorem dX2_dropLastVerse_23 : decode cX2_dropLastVerse 23 = .ok (.invokevirtual 32, 3) := by decide +kernel
theorem dX2_dropLastVerse_26 : decode cX2_dropLastVerse 26 = .ok (.return_, 1) := by decide +kernel
theorem dX2_settle_0 : decode cX2_settle 0 = .ok (.aload_n 0, 1) := by decide +kernel
theorem dX2_settle_1 : decode cX2_settle 1 = .ok (.aload_n 0, 1) := by decide +kernel
theorem dX2_settle_2 : decode cX2_settle 2 = .ok (.invokevirtual 36, 3) := by decide +kernel
theorem dX2_settle_5 : decode cX2_settle 5 = .ok (.putfield 9, 3) := by decide +kernel
theorem dX2_settle_8 : decode cX2_settle 8 = .ok (.aload_n 0, 1) := by decide +kernel
theorem dX2_settle_9 : decode cX2_settle 9 = .ok (.aload_n 0, 1) := by decide +kernel
theorem dX2_settle_10 : decode cX2_settle 10 = .ok (.getfield 9, 3) := by decide +kernel
theorem dX2_settle_13 : decode cX2_settle 13 = .ok (.iconst (-1), 1) := by decide +kernel
theorem dX2_settle_14 : decode cX2_settle 14 = .ok (.if_icmp .ne 14, 3) := by decide +kernel
theorem dX2_settle_17 : decode cX2_settle 17 = .ok (.aload_n 0, 1) := by decide +kernel
theorem dX2_settle_18 : decode cX2_settle 18 = .ok (.getfield 19, 3) := by decide +kernel
theorem dX2_settle_21 : decode cX2_settle 21 = .ok (.iconst 1, 1) := by decide +kernel
theorem dX2_settle_22 : decode cX2_settle 22 = .ok (.iadd, 1) := by decide +kernel
theorem dX2_settle_23 : decode cX2_settle 23 = .ok (.iconst 5, 1) := by decide +kernel
theorem dX2_settle_24 : decode cX2_settle 24 = .ok (.idiv, 1) := by decide +kernel
theorem dX2_settle_25 : decode cX2_settle 25 = .ok (.goto 4, 3) := by decide +kernel
theorem dX2_settle_28 : decode cX2_settle 28 = .ok (.iconst 0, 1) := by decide +kernel
theorem dX2_settle_29 : decode cX2_settle 29 = .ok (.putfield 29, 3) := by decide +kernel
theorem dX2_settle_32 : decode cX2_settle 32 = .ok (.return_, 1) := by decide +kernel
theorem dX2_firstFlaw_0 : decode cX2_firstFlaw 0 = .ok (.iconst 0, 1) := by decide +kernel
theorem dX2_firstFlaw_1 : decode cX2_firstFlaw 1 = .ok (.istore_n 1, 1) := by decide +kernel
theorem dX2_firstFlaw_2 : decode cX2_firstFlaw 2 = .ok (.iload_n 1, 1) := by decide +kernel
theorem dX2_firstFlaw_3 : decode cX2_firstFlaw 3 = .ok (.aload_n 0, 1) := by decide +kernel
theorem dX2_firstFlaw_4 : decode cX2_firstFlaw 4 = .ok (.getfield 19, 3) := by decide +kernel
theorem dX2_firstFlaw_7 : decode cX2_firstFlaw 7 = .ok (.if_icmp .ge 26, 3) := by decide +kernel
theorem dX2_firstFlaw_10 : decode cX2_firstFlaw 10 = .ok (.aload_n 0, 1) := by decide +kernel
theorem dX2_firstFlaw_11 : decode cX2_firstFlaw 11 = .ok (.getfield 15, 3) := by decide +kernel
theorem dX2_firstFlaw_14 : decode cX2_firstFlaw 14 = .ok (.iload_n 1, 1) := by decide +kernel
theorem dX2_firstFlaw_15 : decode cX2_firstFlaw 15 = .ok (.iaload, 1) := by decide +kernel
theorem dX2_firstFlaw_16 : decode cX2_firstFlaw 16 = .ok (.iload_n 1, 1) := by decide +kernel
theorem dX2_firstFlaw_17 : decode cX2_firstFlaw 17 = .ok (.iconst 5, 1) := by decide +kernel
theorem dX2_firstFlaw_18 : decode cX2_firstFlaw 18 = .ok (.irem, 1) := by decide +kernel
theorem dX2_firstFlaw_19 : decode cX2_firstFlaw 19 = .ok (.invokestatic 40, 3) := by decide +kernel
theorem dX2_firstFlaw_22 : decode cX2_firstFlaw 22 = .ok (.ifCond .ne 5, 3) := by decide +kernel
theorem dX2_firstFlaw_25 : decode cX2_firstFlaw 25 = .ok (.iload_n 1, 1) := by decide +kernel
theorem dX2_firstFlaw_26 : decode cX2_firstFlaw 26 = .ok (.ireturn, 1) := by decide +kernel
theorem dX2_firstFlaw_27 : decode cX2_firstFlaw 27 = .ok (.iinc 1 1, 3) := by decide +kernel
theorem dX2_firstFlaw_30 : decode cX2_firstFlaw 30 = .ok (.goto (-28), 3) := by decide +kernel
theorem dX2_firstFlaw_33 : decode cX2_firstFlaw 33 = .ok (.aload_n 0, 1) := by decide +kernel
theorem dX2_firstFlaw_34 : decode cX2_firstFlaw 34 = .ok (.getfield 19, 3) := by decide +kernel
theorem dX2_firstFlaw_37 : decode cX2_firstFlaw 37 = .ok (.ifCond .eq 13, 3) := by decide +kernel
theorem dX2_firstFlaw_40 : decode cX2_firstFlaw 40 = .ok (.aload_n 0, 1) := by decide +kernel
theorem dX2_firstFlaw_41 : decode cX2_firstFlaw 41 = .ok (.getfield 19, 3) := by decide +kernel
theorem dX2_firstFlaw_44 : decode cX2_firstFlaw 44 = .ok (.iconst 5, 1) := by decide +kernel
theorem dX2_firstFlaw_45 : decode cX2_firstFlaw 45 = .ok (.irem, 1) := by decide +kernel
theorem dX2_firstFlaw_46 : decode cX2_firstFlaw 46 = .ok (.iconst 4, 1) := by decide +kernel
theorem dX2_firstFlaw_47 : decode cX2_firstFlaw 47 = .ok (.if_icmp .ne 7, 3) := by decide +kernel
theorem dX2_firstFlaw_50 : decode cX2_firstFlaw 50 = .ok (.iconst (-1), 1) := by decide +kernel
theorem dX2_firstFlaw_51 : decode cX2_firstFlaw 51 = .ok (.goto 7, 3) := by decide +kernel
theorem dX2_firstFlaw_54 : decode cX2_firstFlaw 54 = .ok (.aload_n 0, 1) := by decide +kernel
theorem dX2_firstFlaw_55 : decode cX2_firstFlaw 55 = .ok (.getfield 19, 3) := by decide +kernel
theorem dX2_firstFlaw_58 : decode cX2_firstFlaw 58 = .ok (.ireturn, 1) := by decide +kernel
theorem dX2_fits_0 : decode cX2_fits 0 = .ok (.iload_n 1, 1) := by decide +kernel
theorem dX2_fits_1 : decode cX2_fits 1 = .ok (.tableswitch 79 0 4 #[35, 79, 49, 79, 67], 35) := by decide +kernel
theorem dX2_fits_36 : decode cX2_fits 36 = .ok (.iload_n 0, 1) := by decide +kernel
theorem dX2_fits_37 : decode cX2_fits 37 = .ok (.invokestatic 44, 3) := by decide +kernel
theorem dX2_fits_40 : decode cX2_fits 40 = .ok (.iconst (-1), 1) := by decide +kernel
theorem dX2_fits_41 : decode cX2_fits 41 = .ok (.if_icmp .eq 7, 3) := by decide +kernel
theorem dX2_fits_44 : decode cX2_fits 44 = .ok (.iconst 1, 1) := by decide +kernel
theorem dX2_fits_45 : decode cX2_fits 45 = .ok (.goto 4, 3) := by decide +kernel
theorem dX2_fits_48 : decode cX2_fits 48 = .ok (.iconst 0, 1) := by decide +kernel
theorem dX2_fits_49 : decode cX2_fits 49 = .ok (.ireturn, 1) := by decide +kernel
theorem dX2_fits_50 : decode cX2_fits 50 = .ok (.iload_n 0, 1) := by decide +kernel
theorem dX2_fits_51 : decode cX2_fits 51 = .ok (.bipush 49, 2) := by decide +kernel
theorem dX2_fits_53 : decode cX2_fits 53 = .ok (.if_icmp .lt 13, 3) := by decide +kernel
theorem dX2_fits_56 : decode cX2_fits 56 = .ok (.iload_n 0, 1) := by decide +kernel
theorem dX2_fits_57 : decode cX2_fits 57 = .ok (.bipush 57, 2) := by decide +kernel
theorem dX2_fits_59 : decode cX2_fits 59 = .ok (.if_icmp .gt 7, 3) := by decide +kernel
theorem dX2_fits_62 : decode cX2_fits 62 = .ok (.iconst 1, 1) := by decide +kernel
theorem dX2_fits_63 : decode cX2_fits 63 = .ok (.goto 4, 3) := by decide +kernel
theorem dX2_fits_66 : decode cX2_fits 66 = .ok (.iconst 0, 1) := by decide +kernel
theorem dX2_fits_67 : decode cX2_fits 67 = .ok (.ireturn, 1) := by decide +kernel
theorem dX2_fits_68 : decode cX2_fits 68 = .ok (.iload_n 0, 1) := by decide +kernel
theorem dX2_fits_69 : decode cX2_fits 69 = .ok (.bipush 59, 2) := by decide +kernel
theorem dX2_fits_71 : decode cX2_fits 71 = .ok (.if_icmp .ne 7, 3) := by decide +kernel
theorem dX2_fits_74 : decode cX2_fits 74 = .ok (.iconst 1, 1) := by decide +kernel
theorem dX2_fits_75 : decode cX2_fits 75 = .ok (.goto 4, 3) := by decide +kernel
theorem dX2_fits_78 : decode cX2_fits 78 = .ok (.iconst 0, 1) := by decide +kernel
theorem dX2_fits_79 : decode cX2_fits 79 = .ok (.ireturn, 1) := by decide +kernel
theorem dX2_fits_80 : decode cX2_fits 80 = .ok (.iload_n 0, 1) := by decide +kernel
theorem dX2_fits_81 : decode cX2_fits 81 = .ok (.bipush 48, 2) := by decide +kernel
theorem dX2_fits_83 : decode cX2_fits 83 = .ok (.if_icmp .lt 13, 3) := by decide +kernel
theorem dX2_fits_86 : decode cX2_fits 86 = .ok (.iload_n 0, 1) := by decide +kernel
theorem dX2_fits_87 : decode cX2_fits 87 = .ok (.bipush 57, 2) := by decide +kernel
theorem dX2_fits_89 : decode cX2_fits 89 = .ok (.if_icmp .gt 7, 3) := by decide +kernel
theorem dX2_fits_92 : decode cX2_fits 92 = .ok (.iconst 1, 1) := by decide +kernel
theorem dX2_fits_93 : decode cX2_fits 93 = .ok (.goto 4, 3) := by decide +kernel
theorem dX2_fits_96 : decode cX2_fits 96 = .ok (.iconst 0, 1) := by decide +kernel
theorem dX2_fits_97 : decode cX2_fits 97 = .ok (.ireturn, 1) := by decide +kernel
theorem dX2_kindBy_0 : decode cX2_kindBy 0 = .ok (.iload_n 0, 1) := by decide +kernel
theorem dX2_kindBy_1 : decode cX2_kindBy 1 = .ok (.lookupswitch 51 #[(99, 45), (108, 47), (112, 43), (114, 49)], 43) := by decide +kernel
theorem dX2_kindBy_44 : decode cX2_kindBy 44 = .ok (.iconst 0, 1) := by decide +kernel
theorem dX2_kindBy_45 : decode cX2_kindBy 45 = .ok (.ireturn, 1) := by decide +kernel
theorem dX2_kindBy_46 : decode cX2_kindBy 46 = .ok (.iconst 1, 1) := by decide +kernel
theorem dX2_kindBy_47 : decode cX2_kindBy 47 = .ok (.ireturn, 1) := by decide +kernel
theorem dX2_kindBy_48 : decode cX2_kindBy 48 = .ok (.iconst 2, 1) := by decide +kernel
theorem dX2_kindBy_49 : decode cX2_kindBy 49 = .ok (.ireturn, 1) := by decide +kernel
theorem dX2_kindBy_50 : decode cX2_kindBy 50 = .ok (.iconst 3, 1) := by decide +kernel
theorem dX2_kindBy_51 : decode cX2_kindBy 51 = .ok (.ireturn, 1) := by decide +kernel
theorem dX2_kindBy_52 : decode cX2_kindBy 52 = .ok (.iconst (-1), 1) := by decide +kernel
theorem dX2_kindBy_53 : decode cX2_kindBy 53 = .ok (.ireturn, 1) := by decide +kernel
theorem dX2_kindOf_0 : decode cX2_kindOf 0 = .ok (.iload_n 1, 1) := by decide +kernel
theorem dX2_kindOf_1 : decode cX2_kindOf 1 = .ok (.ifCond .lt 25, 3) := by decide +kernel
theorem dX2_kindOf_4 : decode cX2_kindOf 4 = .ok (.iload_n 1, 1) := by decide +kernel
theorem dX2_kindOf_5 : decode cX2_kindOf 5 = .ok (.aload_n 0, 1) := by decide +kernel
theorem dX2_kindOf_6 : decode cX2_kindOf 6 = .ok (.getfield 29, 3) := by decide +kernel
theorem dX2_kindOf_9 : decode cX2_kindOf 9 = .ok (.if_icmp .ge 17, 3) := by decide +kernel
theorem dX2_kindOf_12 : decode cX2_kindOf 12 = .ok (.aload_n 0, 1) := by decide +kernel
theorem dX2_kindOf_13 : decode cX2_kindOf 13 = .ok (.getfield 15, 3) := by decide +kernel
theorem dX2_kindOf_16 : decode cX2_kindOf 16 = .ok (.iconst 5, 1) := by decide +kernel
theorem dX2_kindOf_17 : decode cX2_kindOf 17 = .ok (.iload_n 1, 1) := by decide +kernel
theorem dX2_kindOf_18 : decode cX2_kindOf 18 = .ok (.imul, 1) := by decide +kernel
theorem dX2_kindOf_19 : decode cX2_kindOf 19 = .ok (.iaload, 1) := by decide +kernel
theorem dX2_kindOf_20 : decode cX2_kindOf 20 = .ok (.invokestatic 44, 3) := by decide +kernel
theorem dX2_kindOf_23 : decode cX2_kindOf 23 = .ok (.goto 4, 3) := by decide +kernel
theorem dX2_kindOf_26 : decode cX2_kindOf 26 = .ok (.iconst (-1), 1) := by decide +kernel
theorem dX2_kindOf_27 : decode cX2_kindOf 27 = .ok (.ireturn, 1) := by decide +kernel
theorem dX2_figure_0 : decode cX2_figure 0 = .ok (.iload_n 1, 1) := by decide +kernel
theorem dX2_figure_1 : decode cX2_figure 1 = .ok (.ifCond .lt 20, 3) := by decide +kernel
theorem dX2_figure_4 : decode cX2_figure 4 = .ok (.iload_n 1, 1) := by decide +kernel
theorem dX2_figure_5 : decode cX2_figure 5 = .ok (.aload_n 0, 1) := by decide +kernel
theorem dX2_figure_6 : decode cX2_figure 6 = .ok (.getfield 29, 3) := by decide +kernel
theorem dX2_figure_9 : decode cX2_figure 9 = .ok (.if_icmp .ge 12, 3) := by decide +kernel
theorem dX2_figure_12 : decode cX2_figure 12 = .ok (.iload_n 2, 1) := by decide +kernel
theorem dX2_figure_13 : decode cX2_figure 13 = .ok (.ifCond .lt 8, 3) := by decide +kernel
theorem dX2_figure_16 : decode cX2_figure 16 = .ok (.iload_n 2, 1) := by decide +kernel
theorem dX2_figure_17 : decode cX2_figure 17 = .ok (.iconst 2, 1) := by decide +kernel
theorem dX2_figure_18 : decode cX2_figure 18 = .ok (.if_icmp .le 5, 3) := by decide +kernel
theorem dX2_figure_21 : decode cX2_figure 21 = .ok (.iconst 0, 1) := by decide +kernel
theorem dX2_figure_22 : decode cX2_figure 22 = .ok (.ireturn, 1) := by decide +kernel
theorem dX2_figure_23 : decode cX2_figure 23 = .ok (.aload_n 0, 1) := by decide +kernel
theorem dX2_figure_24 : decode cX2_figure 24 = .ok (.getfield 15, 3) := by decide +kernel
theorem dX2_figure_27 : decode cX2_figure 27 = .ok (.iconst 5, 1) := by decide +kernel
theorem dX2_figure_28 : decode cX2_figure 28 = .ok (.iload_n 1, 1) := by decide +kernel
theorem dX2_figure_29 : decode cX2_figure 29 = .ok (.imul, 1) := by decide +kernel
theorem dX2_figure_30 : decode cX2_figure 30 = .ok (.iconst 1, 1) := by decide +kernel
theorem dX2_figure_31 : decode cX2_figure 31 = .ok (.iadd, 1) := by decide +kernel
theorem dX2_figure_32 : decode cX2_figure 32 = .ok (.iload_n 2, 1) := by decide +kernel
theorem dX2_figure_33 : decode cX2_figure 33 = .ok (.iadd, 1) := by decide +kernel
theorem dX2_figure_34 : decode cX2_figure 34 = .ok (.iaload, 1) := by decide +kernel
theorem dX2_figure_35 : decode cX2_figure 35 = .ok (.bipush 48, 2) := by decide +kernel
theorem dX2_figure_37 : decode cX2_figure 37 = .ok (.isub, 1) := by decide +kernel
theorem dX2_figure_38 : decode cX2_figure 38 = .ok (.ireturn, 1) := by decide +kernel
theorem dX3_init_0 : decode cX3_init 0 = .ok (.aload_n 0, 1) := by decide +kernel
theorem dX3_init_1 : decode cX3_init 1 = .ok (.invokespecial 3, 3) := by decide +kernel
theorem dX3_init_4 : decode cX3_init 4 = .ok (.aload_n 0, 1) := by decide +kernel
theorem dX3_init_5 : decode cX3_init 5 = .ok (.bipush 60, 2) := by decide +kernel
theorem dX3_init_7 : decode cX3_init 7 = .ok (.newarray .int, 2) := by decide +kernel
theorem dX3_init_9 : decode cX3_init 9 = .ok (.putfield 9, 3) := by decide +kernel
theorem dX3_init_12 : decode cX3_init 12 = .ok (.aload_n 0, 1) := by decide +kernel
theorem dX3_init_13 : decode cX3_init 13 = .ok (.iconst 1, 1) := by decide +kernel
theorem dX3_init_14 : decode cX3_init 14 = .ok (.putfield 15, 3) := by decide +kernel
theorem dX3_init_17 : decode cX3_init 17 = .ok (.return_, 1) := by decide +kernel
theorem dX3_renew_0 : decode cX3_renew 0 = .ok (.aload_n 0, 1) := by decide +kernel
theorem dX3_renew_1 : decode cX3_renew 1 = .ok (.iconst 0, 1) := by decide +kernel
theorem dX3_renew_2 : decode cX3_renew 2 = .ok (.putfield 15, 3) := by decide +kernel
theorem dX3_renew_5 : decode cX3_renew 5 = .ok (.aload_n 0, 1) := by decide +kernel
theorem dX3_renew_6 : decode cX3_renew 6 = .ok (.iload_n 1, 1) := by decide +kernel
theorem dX3_renew_7 : decode cX3_renew 7 = .ok (.putfield 19, 3) := by decide +kernel
theorem dX3_renew_10 : decode cX3_renew 10 = .ok (.aload_n 0, 1) := by decide +kernel
theorem dX3_renew_11 : decode cX3_renew 11 = .ok (.iload_n 2, 1) := by decide +kernel
theorem dX3_renew_12 : decode cX3_renew 12 = .ok (.putfield 23, 3) := by decide +kernel
theorem dX3_renew_15 : decode cX3_renew 15 = .ok (.iconst 0, 1) := by decide +kernel
theorem dX3_renew_16 : decode cX3_renew 16 = .ok (.istore_n 3, 1) := by decide +kernel
theorem dX3_renew_17 : decode cX3_renew 17 = .ok (.iload_n 3, 1) := by decide +kernel
theorem dX3_renew_18 : decode cX3_renew 18 = .ok (.bipush 60, 2) := by decide +kernel
theorem dX3_renew_20 : decode cX3_renew 20 = .ok (.if_icmp .ge 16, 3) := by decide +kernel
theorem dX3_renew_23 : decode cX3_renew 23 = .ok (.aload_n 0, 1) := by decide +kernel
theorem dX3_renew_24 : decode cX3_renew 24 = .ok (.getfield 9, 3) := by decide +kernel
theorem dX3_renew_27 : decode cX3_renew 27 = .ok (.iload_n 3, 1) := by decide +kernel
theorem dX3_renew_28 : decode cX3_renew 28 = .ok (.iconst 0, 1) := by decide +kernel
theorem dX3_renew_29 : decode cX3_renew 29 = .ok (.iastore, 1) := by decide +kernel
theorem dX3_renew_30 : decode cX3_renew 30 = .ok (.iinc 3 1, 3) := by decide +kernel
theorem dX3_renew_33 : decode cX3_renew 33 = .ok (.goto (-16), 3) := by decide +kernel
theorem dX3_renew_36 : decode cX3_renew 36 = .ok (.return_, 1) := by decide +kernel
theorem dX3_hasItem_0 : decode cX3_hasItem 0 = .ok (.iload_n 1, 1) := by decide +kernel
theorem dX3_hasItem_1 : decode cX3_hasItem 1 = .ok (.ifCond .lt 21, 3) := by decide +kernel
theorem dX3_hasItem_4 : decode cX3_hasItem 4 = .ok (.iload_n 1, 1) := by decide +kernel
theorem dX3_hasItem_5 : decode cX3_hasItem 5 = .ok (.aload_n 0, 1) := by decide +kernel
theorem dX3_hasItem_6 : decode cX3_hasItem 6 = .ok (.getfield 23, 3) := by decide +kernel
theorem dX3_hasItem_9 : decode cX3_hasItem 9 = .ok (.if_icmp .ge 13, 3) := by decide +kernel
theorem dX3_hasItem_12 : decode cX3_hasItem 12 = .ok (.iload_n 1, 1) := by decide +kernel
theorem dX3_hasItem_13 : decode cX3_hasItem 13 = .ok (.bipush 60, 2) := by decide +kernel
theorem dX3_hasItem_15 : decode cX3_hasItem 15 = .ok (.if_icmp .ge 7, 3) := by decide +kernel
theorem dX3_hasItem_18 : decode cX3_hasItem 18 = .ok (.iconst 1, 1) := by decide +kernel
theorem dX3_hasItem_19 : decode cX3_hasItem 19 = .ok (.goto 4, 3) := by decide +kernel
theorem dX3_hasItem_22 : decode cX3_hasItem 22 = .ok (.iconst 0, 1) := by decide +kernel
theorem dX3_hasItem_23 : decode cX3_hasItem 23 = .ok (.ireturn, 1) := by decide +kernel
theorem dX3_hasSpan_0 : decode cX3_hasSpan 0 = .ok (.iload_n 1, 1) := by decide +kernel
theorem dX3_hasSpan_1 : decode cX3_hasSpan 1 = .ok (.ifCond .lt 29, 3) := by decide +kernel
theorem dX3_hasSpan_4 : decode cX3_hasSpan 4 = .ok (.iload_n 2, 1) := by decide +kernel
theorem dX3_hasSpan_5 : decode cX3_hasSpan 5 = .ok (.ifCond .lt 25, 3) := by decide +kernel
theorem dX3_hasSpan_8 : decode cX3_hasSpan 8 = .ok (.iload_n 1, 1) := by decide +kernel
theorem dX3_hasSpan_9 : decode cX3_hasSpan 9 = .ok (.aload_n 0, 1) := by decide +kernel
theorem dX3_hasSpan_10 : decode cX3_hasSpan 10 = .ok (.getfield 23, 3) := by decide +kernel
theorem dX3_hasSpan_13 : decode cX3_hasSpan 13 = .ok (.if_icmp .gt 17, 3) := by decide +kernel
theorem dX3_hasSpan_16 : decode cX3_hasSpan 16 = .ok (.iload_n 2, 1) := by decide +kernel
theorem dX3_hasSpan_17 : decode cX3_hasSpan 17 = .ok (.aload_n 0, 1) := by decide +kernel
theorem dX3_hasSpan_18 : decode cX3_hasSpan 18 = .ok (.getfield 23, 3) := by decide +kernel
theorem dX3_hasSpan_21 : decode cX3_hasSpan 21 = .ok (.iload_n 1, 1) := by decide +kernel
theorem dX3_hasSpan_22 : decode cX3_hasSpan 22 = .ok (.isub, 1) := by decide +kernel
theorem dX3_hasSpan_23 : decode cX3_hasSpan 23 = .ok (.if_icmp .gt 7, 3) := by decide +kernel
theorem dX3_hasSpan_26 : decode cX3_hasSpan 26 = .ok (.iconst 1, 1) := by decide +kernel
theorem dX3_hasSpan_27 : decode cX3_hasSpan 27 = .ok (.goto 4, 3) := by decide +kernel
theorem dX3_hasSpan_30 : decode cX3_hasSpan 30 = .ok (.iconst 0, 1) := by decide +kernel
theorem dX3_hasSpan_31 : decode cX3_hasSpan 31 = .ok (.ireturn, 1) := by decide +kernel
theorem dX3_item_0 : decode cX3_item 0 = .ok (.aload_n 0, 1) := by decide +kernel
theorem dX3_item_1 : decode cX3_item 1 = .ok (.iload_n 1, 1) := by decide +kernel
theorem dX3_item_2 : decode cX3_item 2 = .ok (.invokevirtual 26, 3) := by decide +kernel
theorem dX3_item_5 : decode cX3_item 5 = .ok (.ifCond .eq 12, 3) := by decide +kernel
theorem dX3_item_8 : decode cX3_item 8 = .ok (.aload_n 0, 1) := by decide +kernel
theorem dX3_item_9 : decode cX3_item 9 = .ok (.getfield 9, 3) := by decide +kernel
theorem dX3_item_12 : decode cX3_item 12 = .ok (.iload_n 1, 1) := by decide +kernel
theorem dX3_item_13 : decode cX3_item 13 = .ok (.iaload, 1) := by decide +kernel
theorem dX3_item_14 : decode cX3_item 14 = .ok (.goto 4, 3) := by decide +kernel
theorem dX3_item_17 : decode cX3_item 17 = .ok (.iconst 0, 1) := by decide +kernel
theorem dX3_item_18 : decode cX3_item 18 = .ok (.ireturn, 1) := by decide +kernel
theorem dX3_store_0 : decode cX3_store 0 = .ok (.aload_n 0, 1) := by decide +kernel
theorem dX3_store_1 : decode cX3_store 1 = .ok (.iload_n 1, 1) := by decide +kernel
theorem dX3_store_2 : decode cX3_store 2 = .ok (.invokevirtual 26, 3) := by decide +kernel
theorem dX3_store_5 : decode cX3_store 5 = .ok (.ifCond .eq 35, 3) := by decide +kernel
theorem dX3_store_8 : decode cX3_store 8 = .ok (.aload_n 0, 1) := by decide +kernel
theorem dX3_store_9 : decode cX3_store 9 = .ok (.getfield 9, 3) := by decide +kernel
theorem dX3_store_12 : decode cX3_store 12 = .ok (.iload_n 1, 1) := by decide +kernel
theorem dX3_store_13 : decode cX3_store 13 = .ok (.aload_n 0, 1) := by decide +kernel
theorem dX3_store_14 : decode cX3_store 14 = .ok (.getfield 19, 3) := by decide +kernel
theorem dX3_store_17 : decode cX3_store 17 = .ok (.ifCond .ne 8, 3) := by decide +kernel
theorem dX3_store_20 : decode cX3_store 20 = .ok (.iload_n 2, 1) := by decide +kernel
theorem dX3_store_21 : decode cX3_store 21 = .ok (.i2b, 1) := by decide +kernel
theorem dX3_store_22 : decode cX3_store 22 = .ok (.goto 17, 3) := by decide +kernel
theorem dX3_store_25 : decode cX3_store 25 = .ok (.aload_n 0, 1) := by decide +kernel
theorem dX3_store_26 : decode cX3_store 26 = .ok (.getfield 19, 3) := by decide +kernel
theorem dX3_store_29 : decode cX3_store 29 = .ok (.iconst 1, 1) := by decide +kernel
theorem dX3_store_30 : decode cX3_store 30 = .ok (.if_icmp .ne 8, 3) := by decide +kernel
theorem dX3_store_33 : decode cX3_store 33 = .ok (.iload_n 2, 1) := by decide +kernel
theorem dX3_store_34 : decode cX3_store 34 = .ok (.i2s, 1) := by decide +kernel
theorem dX3_store_35 : decode cX3_store 35 = .ok (.goto 4, 3) := by decide +kernel
theorem dX3_store_38 : decode cX3_store 38 = .ok (.iload_n 2, 1) := by decide +kernel
theorem dX3_store_39 : decode cX3_store 39 = .ok (.iastore, 1) := by decide +kernel
theorem dX3_store_40 : decode cX3_store 40 = .ok (.return_, 1) := by decide +kernel
theorem dX4_init_0 : decode cX4_init 0 = .ok (.aload_n 0, 1) := by decide +kernel
theorem dX4_init_1 : decode cX4_init 1 = .ok (.invokespecial 3, 3) := by decide +kernel
theorem dX4_init_4 : decode cX4_init 4 = .ok (.aload_n 0, 1) := by decide +kernel
theorem dX4_init_5 : decode cX4_init 5 = .ok (.bipush 8, 2) := by decide +kernel
theorem dX4_init_7 : decode cX4_init 7 = .ok (.newarray .int, 2) := by decide +kernel
theorem dX4_init_9 : decode cX4_init 9 = .ok (.putfield 11, 3) := by decide +kernel
theorem dX4_init_12 : decode cX4_init 12 = .ok (.aload_n 0, 1) := by decide +kernel
theorem dX4_init_13 : decode cX4_init 13 = .ok (.bipush 8, 2) := by decide +kernel
theorem dX4_init_15 : decode cX4_init 15 = .ok (.newarray .int, 2) := by decide +kernel
theorem dX4_init_17 : decode cX4_init 17 = .ok (.putfield 15, 3) := by decide +kernel
theorem dX4_init_20 : decode cX4_init 20 = .ok (.return_, 1) := by decide +kernel
theorem dX4_mayBe_0 : decode cX4_mayBe 0 = .ok (.iload_n 0, 1) := by decide +kernel
theorem dX4_mayBe_1 : decode cX4_mayBe 1 = .ok (.ifCond .lt 25, 3) := by decide +kernel
theorem dX4_mayBe_4 : decode cX4_mayBe 4 = .ok (.iload_n 0, 1) := by decide +kernel
theorem dX4_mayBe_5 : decode cX4_mayBe 5 = .ok (.sipush 299, 3) := by decide +kernel
theorem dX4_mayBe_8 : decode cX4_mayBe 8 = .ok (.if_icmp .gt 18, 3) := by decide +kernel
theorem dX4_mayBe_11 : decode cX4_mayBe 11 = .ok (.iload_n 1, 1) := by decide +kernel
theorem dX4_mayBe_12 : decode cX4_mayBe 12 = .ok (.iconst (-1), 1) := by decide +kernel
theorem dX4_mayBe_13 : decode cX4_mayBe 13 = .ok (.if_icmp .lt 13, 3) := by decide +kernel
theorem dX4_mayBe_16 : decode cX4_mayBe 16 = .ok (.iload_n 1, 1) := by decide +kernel
theorem dX4_mayBe_17 : decode cX4_mayBe 17 = .ok (.bipush 12, 2) := by decide +kernel
theorem dX4_mayBe_19 : decode cX4_mayBe 19 = .ok (.if_icmp .ge 7, 3) := by decide +kernel
theorem dX4_mayBe_22 : decode cX4_mayBe 22 = .ok (.iconst 1, 1) := by decide +kernel
theorem dX4_mayBe_23 : decode cX4_mayBe 23 = .ok (.goto 4, 3) := by decide +kernel
theorem dX4_mayBe_26 : decode cX4_mayBe 26 = .ok (.iconst 0, 1) := by decide +kernel
theorem dX4_mayBe_27 : decode cX4_mayBe 27 = .ok (.ireturn, 1) := by decide +kernel
theorem dX4_isFull_0 : decode cX4_isFull 0 = .ok (.aload_n 0, 1) := by decide +kernel
theorem dX4_isFull_1 : decode cX4_isFull 1 = .ok (.getfield 18, 3) := by decide +kernel
theorem dX4_isFull_4 : decode cX4_isFull 4 = .ok (.bipush 8, 2) := by decide +kernel
theorem dX4_isFull_6 : decode cX4_isFull 6 = .ok (.if_icmp .lt 7, 3) := by decide +kernel
theorem dX4_isFull_9 : decode cX4_isFull 9 = .ok (.iconst 1, 1) := by decide +kernel
theorem dX4_isFull_10 : decode cX4_isFull 10 = .ok (.goto 4, 3) := by decide +kernel
theorem dX4_isFull_13 : decode cX4_isFull 13 = .ok (.iconst 0, 1) := by decide +kernel
theorem dX4_isFull_14 : decode cX4_isFull 14 = .ok (.ireturn, 1) := by decide +kernel
theorem dX4_add_0 : decode cX4_add 0 = .ok (.aload_n 0, 1) := by decide +kernel
theorem dX4_add_1 : decode cX4_add 1 = .ok (.invokevirtual 22, 3) := by decide +kernel
theorem dX4_add_4 : decode cX4_add 4 = .ok (.ifCond .ne 33, 3) := by decide +kernel
theorem dX4_add_7 : decode cX4_add 7 = .ok (.aload_n 0, 1) := by decide +kernel
theorem dX4_add_8 : decode cX4_add 8 = .ok (.getfield 11, 3) := by decide +kernel
theorem dX4_add_11 : decode cX4_add 11 = .ok (.aload_n 0, 1) := by decide +kernel
theorem dX4_add_12 : decode cX4_add 12 = .ok (.getfield 18, 3) := by decide +kernel
theorem dX4_add_15 : decode cX4_add 15 = .ok (.iload_n 1, 1) := by decide +kernel
theorem dX4_add_16 : decode cX4_add 16 = .ok (.iastore, 1) := by decide +kernel
theorem dX4_add_17 : decode cX4_add 17 = .ok (.aload_n 0, 1) := by decide +kernel
theorem dX4_add_18 : decode cX4_add 18 = .ok (.getfield 15, 3) := by decide +kernel
theorem dX4_add_21 : decode cX4_add 21 = .ok (.aload_n 0, 1) := by decide +kernel
theorem dX4_add_22 : decode cX4_add 22 = .ok (.getfield 18, 3) := by decide +kernel
theorem dX4_add_25 : decode cX4_add 25 = .ok (.iload_n 2, 1) := by decide +kernel
theorem dX4_add_26 : decode cX4_add 26 = .ok (.iastore, 1) := by decide +kernel
theorem dX4_add_27 : decode cX4_add 27 = .ok (.aload_n 0, 1) := by decide +kernel
theorem dX4_add_28 : decode cX4_add 28 = .ok (.dup, 1) := by decide +kernel
theorem dX4_add_29 : decode cX4_add 29 = .ok (.getfield 18, 3) := by decide +kernel
theorem dX4_add_32 : decode cX4_add 32 = .ok (.iconst 1, 1) := by decide +kernel
theorem dX4_add_33 : decode cX4_add 33 = .ok (.iadd, 1) := by decide +kernel
theorem dX4_add_34 : decode cX4_add 34 = .ok (.putfield 18, 3) := by decide +kernel
theorem dX4_add_37 : decode cX4_add 37 = .ok (.return_, 1) := by decide +kernel
theorem dX4_fit_0 : decode cX4_fit 0 = .ok (.iconst 0, 1) := by decide +kernel
theorem dX4_fit_1 : decode cX4_fit 1 = .ok (.istore_n 2, 1) := by decide +kernel
theorem dX4_fit_2 : decode cX4_fit 2 = .ok (.iload_n 2, 1) := by decide +kernel
theorem dX4_fit_3 : decode cX4_fit 3 = .ok (.aload_n 0, 1) := by decide +kernel
theorem dX4_fit_4 : decode cX4_fit 4 = .ok (.getfield 18, 3) := by decide +kernel
theorem dX4_fit_7 : decode cX4_fit 7 = .ok (.if_icmp .ge 36, 3) := by decide +kernel
theorem dX4_fit_10 : decode cX4_fit 10 = .ok (.iload_n 2, 1) := by decide +kernel
theorem dX4_fit_11 : decode cX4_fit 11 = .ok (.bipush 8, 2) := by decide +kernel
theorem dX4_fit_13 : decode cX4_fit 13 = .ok (.if_icmp .ge 30, 3) := by decide +kernel
theorem dX4_fit_16 : decode cX4_fit 16 = .ok (.aload_n 1, 1) := by decide +kernel
theorem dX4_fit_17 : decode cX4_fit 17 = .ok (.aload_n 0, 1) := by decide +kernel
theorem dX4_fit_18 : decode cX4_fit 18 = .ok (.getfield 11, 3) := by decide +kernel
theorem dX4_fit_21 : decode cX4_fit 21 = .ok (.iload_n 2, 1) := by decide +kernel
theorem dX4_fit_22 : decode cX4_fit 22 = .ok (.iaload, 1) := by decide +kernel
theorem dX4_fit_23 : decode cX4_fit 23 = .ok (.invokevirtual 26, 3) := by decide +kernel
theorem dX4_fit_26 : decode cX4_fit 26 = .ok (.aload_n 0, 1) := by decide +kernel
theorem dX4_fit_27 : decode cX4_fit 27 = .ok (.getfield 15, 3) := by decide +kernel
theorem dX4_fit_30 : decode cX4_fit 30 = .ok (.iload_n 2, 1) := by decide +kernel
theorem dX4_fit_31 : decode cX4_fit 31 = .ok (.iaload, 1) := by decide +kernel
theorem dX4_fit_32 : decode cX4_fit 32 = .ok (.if_icmp .eq 5, 3) := by decide +kernel
theorem dX4_fit_35 : decode cX4_fit 35 = .ok (.iconst 0, 1) := by decide +kernel
theorem dX4_fit_36 : decode cX4_fit 36 = .ok (.ireturn, 1) := by decide +kernel
theorem dX4_fit_37 : decode cX4_fit 37 = .ok (.iinc 2 1, 3) := by decide +kernel
theorem dX4_fit_40 : decode cX4_fit 40 = .ok (.goto (-38), 3) := by decide +kernel
theorem dX4_fit_43 : decode cX4_fit 43 = .ok (.iconst 1, 1) := by decide +kernel
theorem dX4_fit_44 : decode cX4_fit 44 = .ok (.ireturn, 1) := by decide +kernel
theorem dX5_init_0 : decode cX5_init 0 = .ok (.aload_n 0, 1) := by decide +kernel
theorem dX5_init_1 : decode cX5_init 1 = .ok (.invokespecial 3, 3) := by decide +kernel
theorem dX5_init_4 : decode cX5_init 4 = .ok (.aload_n 0, 1) := by decide +kernel
theorem dX5_init_5 : decode cX5_init 5 = .ok (.iconst 5, 1) := by decide +kernel
theorem dX5_init_6 : decode cX5_init 6 = .ok (.newarray .int, 2) := by decide +kernel
theorem dX5_init_8 : decode cX5_init 8 = .ok (.putfield 9, 3) := by decide +kernel
theorem dX5_init_11 : decode cX5_init 11 = .ok (.aload_n 0, 1) := by decide +kernel
theorem dX5_init_12 : decode cX5_init 12 = .ok (.new 15, 3) := by decide +kernel
theorem dX5_init_15 : decode cX5_init 15 = .ok (.dup, 1) := by decide +kernel
theorem dX5_init_16 : decode cX5_init 16 = .ok (.invokespecial 17, 3) := by decide +kernel
theorem dX5_init_19 : decode cX5_init 19 = .ok (.putfield 18, 3) := by decide +kernel
theorem dX5_init_22 : decode cX5_init 22 = .ok (.aload_n 0, 1) := by decide +kernel
theorem dX5_init_23 : decode cX5_init 23 = .ok (.iload_n 1, 1) := by decide +kernel
theorem dX5_init_24 : decode cX5_init 24 = .ok (.anewarray 15, 3) := by decide +kernel
theorem dX5_init_27 : decode cX5_init 27 = .ok (.putfield 22, 3) := by decide +kernel
theorem dX5_init_30 : decode cX5_init 30 = .ok (.iconst 0, 1) := by decide +kernel
theorem dX5_init_31 : decode cX5_init 31 = .ok (.istore_n 2, 1) := by decide +kernel
theorem dX5_init_32 : decode cX5_init 32 = .ok (.iload_n 2, 1) := by decide +kernel
theorem dX5_init_33 : decode cX5_init 33 = .ok (.iload_n 1, 1) := by decide +kernel
theorem dX5_init_34 : decode cX5_init 34 = .ok (.if_icmp .ge 22, 3) := by decide +kernel
theorem dX5_init_37 : decode cX5_init 37 = .ok (.aload_n 0, 1) := by decide +kernel
theorem dX5_init_38 : decode cX5_init 38 = .ok (.getfield 22, 3) := by decide +kernel
theorem dX5_init_41 : decode cX5_init 41 = .ok (.iload_n 2, 1) := by decide +kernel
theorem dX5_init_42 : decode cX5_init 42 = .ok (.new 15, 3) := by decide +kernel
theorem dX5_init_45 : decode cX5_init 45 = .ok (.dup, 1) := by decide +kernel
theorem dX5_init_46 : decode cX5_init 46 = .ok (.invokespecial 17, 3) := by decide +kernel
theorem dX5_init_49 : decode cX5_init 49 = .ok (.aastore, 1) := by decide +kernel
theorem dX5_init_50 : decode cX5_init 50 = .ok (.iinc 2 1, 3) := by decide +kernel
theorem dX5_init_53 : decode cX5_init 53 = .ok (.goto (-21), 3) := by decide +kernel
theorem dX5_init_56 : decode cX5_init 56 = .ok (.return_, 1) := by decide +kernel
theorem dX5_open_0 : decode cX5_open 0 = .ok (.iconst 0, 1) := by decide +kernel
theorem dX5_open_1 : decode cX5_open 1 = .ok (.istore_n 2, 1) := by decide +kernel
theorem dX5_open_2 : decode cX5_open 2 = .ok (.iload_n 2, 1) := by decide +kernel
theorem dX5_open_3 : decode cX5_open 3 = .ok (.iconst 5, 1) := by decide +kernel
theorem dX5_open_4 : decode cX5_open 4 = .ok (.if_icmp .ge 24, 3) := by decide +kernel
theorem dX5_open_7 : decode cX5_open 7 = .ok (.iload_n 2, 1) := by decide +kernel
theorem dX5_open_8 : decode cX5_open 8 = .ok (.aload_n 1, 1) := by decide +kernel
theorem dX5_open_9 : decode cX5_open 9 = .ok (.arraylength, 1) := by decide +kernel
theorem dX5_open_10 : decode cX5_open 10 = .ok (.if_icmp .ge 18, 3) := by decide +kernel
theorem dX5_open_13 : decode cX5_open 13 = .ok (.aload_n 0, 1) := by decide +kernel
theorem dX5_open_14 : decode cX5_open 14 = .ok (.getfield 9, 3) := by decide +kernel
theorem dX5_open_17 : decode cX5_open 17 = .ok (.iload_n 2, 1) := by decide +kernel
theorem dX5_open_18 : decode cX5_open 18 = .ok (.aload_n 1, 1) := by decide +kernel
theorem dX5_open_19 : decode cX5_open 19 = .ok (.iload_n 2, 1) := by decide +kernel
theorem dX5_open_20 : decode cX5_open 20 = .ok (.iaload, 1) := by decide +kernel
theorem dX5_open_21 : decode cX5_open 21 = .ok (.iastore, 1) := by decide +kernel
theorem dX5_open_22 : decode cX5_open 22 = .ok (.iinc 2 1, 3) := by decide +kernel
theorem dX5_open_25 : decode cX5_open 25 = .ok (.goto (-23), 3) := by decide +kernel
theorem dX5_open_28 : decode cX5_open 28 = .ok (.aload_n 0, 1) := by decide +kernel
theorem dX5_open_29 : decode cX5_open 29 = .ok (.iconst 0, 1) := by decide +kernel
theorem dX5_open_30 : decode cX5_open 30 = .ok (.putfield 26, 3) := by decide +kernel
theorem dX5_open_33 : decode cX5_open 33 = .ok (.aload_n 0, 1) := by decide +kernel
theorem dX5_open_34 : decode cX5_open 34 = .ok (.getfield 18, 3) := by decide +kernel
theorem dX5_open_37 : decode cX5_open 37 = .ok (.aload_n 0, 1) := by decide +kernel
theorem dX5_open_38 : decode cX5_open 38 = .ok (.getfield 9, 3) := by decide +kernel
theorem dX5_open_41 : decode cX5_open 41 = .ok (.iconst 0, 1) := by decide +kernel
theorem dX5_open_42 : decode cX5_open 42 = .ok (.iaload, 1) := by decide +kernel
theorem dX5_open_43 : decode cX5_open 43 = .ok (.invokevirtual 30, 3) := by decide +kernel
theorem dX5_open_46 : decode cX5_open 46 = .ok (.return_, 1) := by decide +kernel
theorem dX5_changeLead_0 : decode cX5_changeLead 0 = .ok (.aload_n 0, 1) := by decide +kernel
theorem dX5_changeLead_1 : decode cX5_changeLead 1 = .ok (.getfield 9, 3) := by decide +kernel
theorem dX5_changeLead_4 : decode cX5_changeLead 4 = .ok (.iconst 0, 1) := by decide +kernel
theorem dX5_changeLead_5 : decode cX5_changeLead 5 = .ok (.iload_n 1, 1) := by decide +kernel
theorem dX5_changeLead_6 : decode cX5_changeLead 6 = .ok (.iastore, 1) := by decide +kernel
theorem dX5_changeLead_7 : decode cX5_changeLead 7 = .ok (.aload_n 0, 1) := by decide +kernel
theorem dX5_changeLead_8 : decode cX5_changeLead 8 = .ok (.getfield 18, 3) := by decide +kernel
theorem dX5_changeLead_11 : decode cX5_changeLead 11 = .ok (.iload_n 1, 1) := by decide +kernel
theorem dX5_changeLead_12 : decode cX5_changeLead 12 = .ok (.invokevirtual 30, 3) := by decide +kernel
theorem dX5_changeLead_15 : decode cX5_changeLead 15 = .ok (.return_, 1) := by decide +kernel
theorem dX5_letHimPause_0 : decode cX5_letHimPause 0 = .ok (.aload_n 0, 1) := by decide +kernel
theorem dX5_letHimPause_1 : decode cX5_letHimPause 1 = .ok (.getfield 9, 3) := by decide +kernel
theorem dX5_letHimPause_4 : decode cX5_letHimPause 4 = .ok (.iconst 4, 1) := by decide +kernel
theorem dX5_letHimPause_5 : decode cX5_letHimPause 5 = .ok (.iconst 0, 1) := by decide +kernel
theorem dX5_letHimPause_6 : decode cX5_letHimPause 6 = .ok (.iastore, 1) := by decide +kernel
theorem dX5_letHimPause_7 : decode cX5_letHimPause 7 = .ok (.aload_n 0, 1) := by decide +kernel
theorem dX5_letHimPause_8 : decode cX5_letHimPause 8 = .ok (.getfield 9, 3) := by decide +kernel
theorem dX5_letHimPause_11 : decode cX5_letHimPause 11 = .ok (.iconst 3, 1) := by decide +kernel
theorem dX5_letHimPause_12 : decode cX5_letHimPause 12 = .ok (.aload_n 0, 1) := by decide +kernel
theorem dX5_letHimPause_13 : decode cX5_letHimPause 13 = .ok (.getfield 22, 3) := by decide +kernel
theorem dX5_letHimPause_16 : decode cX5_letHimPause 16 = .ok (.arraylength, 1) := by decide +kernel
theorem dX5_letHimPause_17 : decode cX5_letHimPause 17 = .ok (.iastore, 1) := by decide +kernel
theorem dX5_letHimPause_18 : decode cX5_letHimPause 18 = .ok (.return_, 1) := by decide +kernel
theorem dX5_addAll_0 : decode cX5_addAll 0 = .ok (.iconst 0, 1) := by decide +kernel
theorem dX5_addAll_1 : decode cX5_addAll 1 = .ok (.istore_n 2, 1) := by decide +kernel
theorem dX5_addAll_2 : decode cX5_addAll 2 = .ok (.iload_n 2, 1) := by decide +kernel
theorem dX5_addAll_3 : decode cX5_addAll 3 = .ok (.aload_n 1, 1) := by decide +kernel
theorem dX5_addAll_4 : decode cX5_addAll 4 = .ok (.getfield 34, 3) := by decide +kernel
theorem dX5_addAll_7 : decode cX5_addAll 7 = .ok (.if_icmp .ge 15, 3) := by decide +kernel
theorem dX5_addAll_10 : decode cX5_addAll 10 = .ok (.aload_n 0, 1) := by decide +kernel
theorem dX5_addAll_11 : decode cX5_addAll 11 = .ok (.aload_n 1, 1) := by decide +kernel
theorem dX5_addAll_12 : decode cX5_addAll 12 = .ok (.iload_n 2, 1) := by decide +kernel
theorem dX5_addAll_13 : decode cX5_addAll 13 = .ok (.invokevirtual 37, 3) := by decide +kernel
theorem dX5_addAll_16 : decode cX5_addAll 16 = .ok (.iinc 2 1, 3) := by decide +kernel
theorem dX5_addAll_19 : decode cX5_addAll 19 = .ok (.goto (-17), 3) := by decide +kernel
theorem dX5_addAll_22 : decode cX5_addAll 22 = .ok (.return_, 1) := by decide +kernel
theorem dX5_add_0 : decode cX5_add 0 = .ok (.aload_n 0, 1) := by decide +kernel
theorem dX5_add_1 : decode cX5_add 1 = .ok (.getfield 26, 3) := by decide +kernel
theorem dX5_add_4 : decode cX5_add 4 = .ok (.aload_n 0, 1) := by decide +kernel
theorem dX5_add_5 : decode cX5_add 5 = .ok (.getfield 22, 3) := by decide +kernel
theorem dX5_add_8 : decode cX5_add 8 = .ok (.arraylength, 1) := by decide +kernel
theorem dX5_add_9 : decode cX5_add 9 = .ok (.if_icmp .lt 4, 3) := by decide +kernel
theorem dX5_add_12 : decode cX5_add 12 = .ok (.return_, 1) := by decide +kernel
theorem dX5_add_13 : decode cX5_add 13 = .ok (.aload_n 0, 1) := by decide +kernel
theorem dX5_add_14 : decode cX5_add 14 = .ok (.getfield 22, 3) := by decide +kernel
theorem dX5_add_17 : decode cX5_add 17 = .ok (.aload_n 0, 1) := by decide +kernel
theorem dX5_add_18 : decode cX5_add 18 = .ok (.getfield 26, 3) := by decide +kernel
theorem dX5_add_21 : decode cX5_add 21 = .ok (.aaload, 1) := by decide +kernel
theorem dX5_add_22 : decode cX5_add 22 = .ok (.astore_n 3, 1) := by decide +kernel
theorem dX5_add_23 : decode cX5_add 23 = .ok (.aload_n 3, 1) := by decide +kernel
theorem dX5_add_24 : decode cX5_add 24 = .ok (.aload_n 1, 1) := by decide +kernel
theorem dX5_add_25 : decode cX5_add 25 = .ok (.iload_n 2, 1) := by decide +kernel
theorem dX5_add_26 : decode cX5_add 26 = .ok (.invokevirtual 41, 3) := by decide +kernel
theorem dX5_add_29 : decode cX5_add 29 = .ok (.putfield 45, 3) := by decide +kernel
theorem dX5_add_32 : decode cX5_add 32 = .ok (.aload_n 3, 1) := by decide +kernel
theorem dX5_add_33 : decode cX5_add 33 = .ok (.aload_n 1, 1) := by decide +kernel
theorem dX5_add_34 : decode cX5_add 34 = .ok (.iload_n 2, 1) := by decide +kernel
theorem dX5_add_35 : decode cX5_add 35 = .ok (.iconst 1, 1) := by decide +kernel
theorem dX5_add_36 : decode cX5_add 36 = .ok (.invokevirtual 48, 3) := by decide +kernel
theorem dX5_add_39 : decode cX5_add 39 = .ok (.putfield 52, 3) := by decide +kernel
theorem dX5_add_42 : decode cX5_add 42 = .ok (.aload_n 0, 1) := by decide +kernel
theorem dX5_add_43 : decode cX5_add 43 = .ok (.aload_n 3, 1) := by decide +kernel
theorem dX5_add_44 : decode cX5_add 44 = .ok (.getfield 45, 3) := by decide +kernel
theorem dX5_add_47 : decode cX5_add 47 = .ok (.invokevirtual 55, 3) := by decide +kernel
theorem dX5_add_50 : decode cX5_add 50 = .ok (.istore 4, 2) := by decide +kernel
theorem dX5_add_52 : decode cX5_add 52 = .ok (.aload_n 3, 1) := by decide +kernel
theorem dX5_add_53 : decode cX5_add 53 = .ok (.getfield 45, 3) := by decide +kernel
theorem dX5_add_56 : decode cX5_add 56 = .ok (.iconst 1, 1) := by decide +kernel
theorem dX5_add_57 : decode cX5_add 57 = .ok (.if_icmp .ne 12, 3) := by decide +kernel
theorem dX5_add_60 : decode cX5_add 60 = .ok (.iload 4, 2) := by decide +kernel
theorem dX5_add_62 : decode cX5_add 62 = .ok (.ifCond .le 7, 3) := by decide +kernel
theorem dX5_add_65 : decode cX5_add 65 = .ok (.iconst 1, 1) := by decide +kernel
theorem dX5_add_66 : decode cX5_add 66 = .ok (.goto 4, 3) := by decide +kernel
theorem dX5_add_69 : decode cX5_add 69 = .ok (.iconst 0, 1) := by decide +kernel
theorem dX5_add_70 : decode cX5_add 70 = .ok (.istore 5, 2) := by decide +kernel
theorem dX5_add_72 : decode cX5_add 72 = .ok (.aload_n 3, 1) := by decide +kernel
theorem dX5_add_73 : decode cX5_add 73 = .ok (.iload 5, 2) := by decide +kernel
theorem dX5_add_75 : decode cX5_add 75 = .ok (.ifCond .eq 7, 3) := by decide +kernel
theorem dX5_add_78 : decode cX5_add 78 = .ok (.iconst 0, 1) := by decide +kernel
theorem dX5_add_79 : decode cX5_add 79 = .ok (.goto 9, 3) := by decide +kernel
theorem dX5_add_82 : decode cX5_add 82 = .ok (.aload_n 1, 1) := by decide +kernel
theorem dX5_add_83 : decode cX5_add 83 = .ok (.iload_n 2, 1) := by decide +kernel
theorem dX5_add_84 : decode cX5_add 84 = .ok (.iconst 0, 1) := by decide +kernel
theorem dX5_add_85 : decode cX5_add 85 = .ok (.invokevirtual 48, 3) := by decide +kernel
theorem dX5_add_88 : decode cX5_add 88 = .ok (.putfield 58, 3) := by decide +kernel
theorem dX5_add_91 : decode cX5_add 91 = .ok (.aload_n 3, 1) := by decide +kernel
theorem dX5_add_92 : decode cX5_add 92 = .ok (.iload 5, 2) := by decide +kernel
theorem dX5_add_94 : decode cX5_add 94 = .ok (.ifCond .eq 7, 3) := by decide +kernel
theorem dX5_add_97 : decode cX5_add 97 = .ok (.iconst 0, 1) := by decide +kernel
theorem dX5_add_98 : decode cX5_add 98 = .ok (.goto 16, 3) := by decide +kernel
theorem dX5_add_101 : decode cX5_add 101 = .ok (.iconst 0, 1) := by decide +kernel
theorem dX5_add_102 : decode cX5_add 102 = .ok (.aload_n 1, 1) := by decide +kernel
theorem dX5_add_103 : decode cX5_add 103 = .ok (.iload_n 2, 1) := by decide +kernel
theorem dX5_add_104 : decode cX5_add 104 = .ok (.iconst 2, 1) := by decide +kernel
theorem dX5_add_105 : decode cX5_add 105 = .ok (.invokevirtual 48, 3) := by decide +kernel
theorem dX5_add_108 : decode cX5_add 108 = .ok (.iload 4, 2) := by decide +kernel
theorem dX5_add_110 : decode cX5_add 110 = .ok (.isub, 1) := by decide +kernel
theorem dX5_add_111 : decode cX5_add 111 = .ok (.invokestatic 61, 3) := by decide +kernel
theorem dX5_add_114 : decode cX5_add 114 = .ok (.putfield 66, 3) := by decide +kernel
theorem dX5_add_117 : decode cX5_add 117 = .ok (.aload_n 0, 1) := by decide +kernel
theorem dX5_add_118 : decode cX5_add 118 = .ok (.invokevirtual 69, 3) := by decide +kernel
theorem dX5_add_121 : decode cX5_add 121 = .ok (.astore 6, 2) := by decide +kernel
theorem dX5_add_123 : decode cX5_add 123 = .ok (.aload_n 3, 1) := by decide +kernel
theorem dX5_add_124 : decode cX5_add 124 = .ok (.aload 6, 2) := by decide +kernel
theorem dX5_add_126 : decode cX5_add 126 = .ok (.invokevirtual 73, 3) := by decide +kernel
theorem dX5_add_129 : decode cX5_add 129 = .ok (.aload_n 0, 1) := by decide +kernel
theorem dX5_add_130 : decode cX5_add 130 = .ok (.dup, 1) := by decide +kernel
theorem dX5_add_131 : decode cX5_add 131 = .ok (.getfield 26, 3) := by decide +kernel
theorem dX5_add_134 : decode cX5_add 134 = .ok (.iconst 1, 1) := by decide +kernel
theorem dX5_add_135 : decode cX5_add 135 = .ok (.iadd, 1) := by decide +kernel
theorem dX5_add_136 : decode cX5_add 136 = .ok (.putfield 26, 3) := by decide +kernel
theorem dX5_add_139 : decode cX5_add 139 = .ok (.aload_n 3, 1) := by decide +kernel
theorem dX5_add_140 : decode cX5_add 140 = .ok (.getfield 77, 3) := by decide +kernel
theorem dX5_add_143 : decode cX5_add 143 = .ok (.aload_n 3, 1) := by decide +kernel
theorem dX5_add_144 : decode cX5_add 144 = .ok (.getfield 80, 3) := by decide +kernel
theorem dX5_add_147 : decode cX5_add 147 = .ok (.if_icmp .gt 7, 3) := by decide +kernel
theorem dX5_add_150 : decode cX5_add 150 = .ok (.iconst 1, 1) := by decide +kernel
theorem dX5_add_151 : decode cX5_add 151 = .ok (.goto 4, 3) := by decide +kernel
theorem dX5_add_154 : decode cX5_add 154 = .ok (.iconst 0, 1) := by decide +kernel
theorem dX5_add_155 : decode cX5_add 155 = .ok (.istore 7, 2) := by decide +kernel
theorem dX5_add_157 : decode cX5_add 157 = .ok (.aload 6, 2) := by decide +kernel
theorem dX5_add_159 : decode cX5_add 159 = .ok (.getfield 83, 3) := by decide +kernel
theorem dX5_add_162 : decode cX5_add 162 = .ok (.iconst (-1), 1) := by decide +kernel
theorem dX5_add_163 : decode cX5_add 163 = .ok (.if_icmp .eq 48, 3) := by decide +kernel
theorem dX5_add_166 : decode cX5_add 166 = .ok (.iload 7, 2) := by decide +kernel
theorem dX5_add_168 : decode cX5_add 168 = .ok (.ifCond .ne 12, 3) := by decide +kernel
theorem dX5_add_171 : decode cX5_add 171 = .ok (.aload_n 0, 1) := by decide +kernel
theorem dX5_add_172 : decode cX5_add 172 = .ok (.getfield 9, 3) := by decide +kernel
theorem dX5_add_175 : decode cX5_add 175 = .ok (.iconst 4, 1) := by decide +kernel
theorem dX5_add_176 : decode cX5_add 176 = .ok (.iaload, 1) := by decide +kernel
theorem dX5_add_177 : decode cX5_add 177 = .ok (.ifCond .ne 34, 3) := by decide +kernel
theorem dX5_add_180 : decode cX5_add 180 = .ok (.aload_n 3, 1) := by decide +kernel
theorem dX5_add_181 : decode cX5_add 181 = .ok (.aload 6, 2) := by decide +kernel
theorem dX5_add_183 : decode cX5_add 183 = .ok (.getfield 83, 3) := by decide +kernel
theorem dX5_add_186 : decode cX5_add 186 = .ok (.invokevirtual 86, 3) := by decide +kernel
theorem dX5_add_189 : decode cX5_add 189 = .ok (.aload_n 3, 1) := by decide +kernel
theorem dX5_add_190 : decode cX5_add 190 = .ok (.aload_n 0, 1) := by decide +kernel
theorem dX5_add_191 : decode cX5_add 191 = .ok (.getfield 9, 3) := by decide +kernel
theorem dX5_add_194 : decode cX5_add 194 = .ok (.iconst 1, 1) := by decide +kernel
theorem dX5_add_195 : decode cX5_add 195 = .ok (.iaload, 1) := by decide +kernel
theorem dX5_add_196 : decode cX5_add 196 = .ok (.aload_n 0, 1) := by decide +kernel
theorem dX5_add_197 : decode cX5_add 197 = .ok (.getfield 9, 3) := by decide +kernel
theorem dX5_add_200 : decode cX5_add 200 = .ok (.iconst 2, 1) := by decide +kernel
theorem dX5_add_201 : decode cX5_add 201 = .ok (.iaload, 1) := by decide +kernel
theorem dX5_add_202 : decode cX5_add 202 = .ok (.aload_n 0, 1) := by decide +kernel
theorem dX5_add_203 : decode cX5_add 203 = .ok (.getfield 9, 3) := by decide +kernel
theorem dX5_add_206 : decode cX5_add 206 = .ok (.iconst 3, 1) := by decide +kernel
theorem dX5_add_207 : decode cX5_add 207 = .ok (.iaload, 1) := by decide +kernel
theorem dX5_add_208 : decode cX5_add 208 = .ok (.invokevirtual 89, 3) := by decide +kernel
theorem dX5_add_211 : decode cX5_add 211 = .ok (.return_, 1) := by decide +kernel
theorem dX5_dropLast_0 : decode cX5_dropLast 0 = .ok (.aload_n 0, 1) := by decide +kernel
theorem dX5_dropLast_1 : decode cX5_dropLast 1 = .ok (.getfield 26, 3) := by decide +kernel
theorem dX5_dropLast_4 : decode cX5_dropLast 4 = .ok (.ifCond .le 13, 3) := by decide +kernel
theorem dX5_dropLast_7 : decode cX5_dropLast 7 = .ok (.aload_n 0, 1) := by decide +kernel
theorem dX5_dropLast_8 : decode cX5_dropLast 8 = .ok (.dup, 1) := by decide +kernel
theorem dX5_dropLast_9 : decode cX5_dropLast 9 = .ok (.getfield 26, 3) := by decide +kernel
theorem dX5_dropLast_12 : decode cX5_dropLast 12 = .ok (.iconst 1, 1) := by decide +kernel
theorem dX5_dropLast_13 : decode cX5_dropLast 13 = .ok (.isub, 1) := by decide +kernel
theorem dX5_dropLast_14 : decode cX5_dropLast 14 = .ok (.putfield 26, 3) := by decide +kernel
theorem dX5_dropLast_17 : decode cX5_dropLast 17 = .ok (.return_, 1) := by decide +kernel
theorem dX5_howManyOf_0 : decode cX5_howManyOf 0 = .ok (.iconst 0, 1) := by decide +kernel
theorem dX5_howManyOf_1 : decode cX5_howManyOf 1 = .ok (.istore_n 2, 1) := by decide +kernel
theorem dX5_howManyOf_2 : decode cX5_howManyOf 2 = .ok (.iconst 0, 1) := by decide +kernel
theorem dX5_howManyOf_3 : decode cX5_howManyOf 3 = .ok (.istore_n 3, 1) := by decide +kernel
theorem dX5_howManyOf_4 : decode cX5_howManyOf 4 = .ok (.iload_n 3, 1) := by decide +kernel
theorem dX5_howManyOf_5 : decode cX5_howManyOf 5 = .ok (.aload_n 0, 1) := by decide +kernel
theorem dX5_howManyOf_6 : decode cX5_howManyOf 6 = .ok (.getfield 26, 3) := by decide +kernel
theorem dX5_howManyOf_9 : decode cX5_howManyOf 9 = .ok (.if_icmp .ge 25, 3) := by decide +kernel
theorem dX5_howManyOf_12 : decode cX5_howManyOf 12 = .ok (.aload_n 0, 1) := by decide +kernel
theorem dX5_howManyOf_13 : decode cX5_howManyOf 13 = .ok (.getfield 22, 3) := by decide +kernel
theorem dX5_howManyOf_16 : decode cX5_howManyOf 16 = .ok (.iload_n 3, 1) := by decide +kernel
theorem dX5_howManyOf_17 : decode cX5_howManyOf 17 = .ok (.aaload, 1) := by decide +kernel
theorem dX5_howManyOf_18 : decode cX5_howManyOf 18 = .ok (.getfield 45, 3) := by decide +kernel
theorem dX5_howManyOf_21 : decode cX5_howManyOf 21 = .ok (.iload_n 1, 1) := by decide +kernel
theorem dX5_howManyOf_22 : decode cX5_howManyOf 22 = .ok (.if_icmp .ne 6, 3) := by decide +kernel
theorem dX5_howManyOf_25 : decode cX5_howManyOf 25 = .ok (.iinc 2 1, 3) := by decide +kernel
theorem dX5_howManyOf_28 : decode cX5_howManyOf 28 = .ok (.iinc 3 1, 3) := by decide +kernel
theorem dX5_howManyOf_31 : decode cX5_howManyOf 31 = .ok (.goto (-27), 3) := by decide +kernel
theorem dX5_howManyOf_34 : decode cX5_howManyOf 34 = .ok (.iload_n 2, 1) := by decide +kernel
theorem dX5_howManyOf_35 : decode cX5_howManyOf 35 = .ok (.ireturn, 1) := by decide +kernel
theorem dX5_turnAt_0 : decode cX5_turnAt 0 = .ok (.iload_n 1, 1) := by decide +kernel
theorem dX5_turnAt_1 : decode cX5_turnAt 1 = .ok (.ifCond .lt 20, 3) := by decide +kernel
theorem dX5_turnAt_4 : decode cX5_turnAt 4 = .ok (.iload_n 1, 1) := by decide +kernel
theorem dX5_turnAt_5 : decode cX5_turnAt 5 = .ok (.aload_n 0, 1) := by decide +kernel
theorem dX5_turnAt_6 : decode cX5_turnAt 6 = .ok (.getfield 26, 3) := by decide +kernel
theorem dX5_turnAt_9 : decode cX5_turnAt 9 = .ok (.if_icmp .ge 12, 3) := by decide +kernel
theorem dX5_turnAt_12 : decode cX5_turnAt 12 = .ok (.aload_n 0, 1) := by decide +kernel
theorem dX5_turnAt_13 : decode cX5_turnAt 13 = .ok (.getfield 22, 3) := by decide +kernel
theorem dX5_turnAt_16 : decode cX5_turnAt 16 = .ok (.iload_n 1, 1) := by decide +kernel
theorem dX5_turnAt_17 : decode cX5_turnAt 17 = .ok (.aaload, 1) := by decide +kernel
theorem dX5_turnAt_18 : decode cX5_turnAt 18 = .ok (.goto 7, 3) := by decide +kernel
theorem dX5_turnAt_21 : decode cX5_turnAt 21 = .ok (.aload_n 0, 1) := by decide +kernel
theorem dX5_turnAt_22 : decode cX5_turnAt 22 = .ok (.getfield 18, 3) := by decide +kernel
theorem dX5_turnAt_25 : decode cX5_turnAt 25 = .ok (.areturn, 1) := by decide +kernel
theorem dX5_last_0 : decode cX5_last 0 = .ok (.aload_n 0, 1) := by decide +kernel
theorem dX5_last_1 : decode cX5_last 1 = .ok (.aload_n 0, 1) := by decide +kernel
theorem dX5_last_2 : decode cX5_last 2 = .ok (.getfield 26, 3) := by decide +kernel
theorem dX5_last_5 : decode cX5_last 5 = .ok (.iconst 1, 1) := by decide +kernel
theorem dX5_last_6 : decode cX5_last 6 = .ok (.isub, 1) := by decide +kernel
theorem dX5_last_7 : decode cX5_last 7 = .ok (.invokevirtual 93, 3) := by decide +kernel
theorem dX5_last_10 : decode cX5_last 10 = .ok (.areturn, 1) := by decide +kernel
theorem dX5_isWholeWithoutPause_0 : decode cX5_isWholeWithoutPause 0 = .ok (.aload_n 0, 1) := by decide +kernel
theorem dX5_isWholeWithoutPause_1 : decode cX5_isWholeWithoutPause 1 = .ok (.invokevirtual 69, 3) := by decide +kernel
theorem dX5_isWholeWithoutPause_4 : decode cX5_isWholeWithoutPause 4 = .ok (.getfield 83, 3) := by decide +kernel
theorem dX5_isWholeWithoutPause_7 : decode cX5_isWholeWithoutPause 7 = .ok (.iconst (-1), 1) := by decide +kernel
theorem dX5_isWholeWithoutPause_8 : decode cX5_isWholeWithoutPause 8 = .ok (.if_icmp .eq 17, 3) := by decide +kernel
theorem dX5_isWholeWithoutPause_11 : decode cX5_isWholeWithoutPause 11 = .ok (.aload_n 0, 1) := by decide +kernel
theorem dX5_isWholeWithoutPause_12 : decode cX5_isWholeWithoutPause 12 = .ok (.invokevirtual 69, 3) := by decide +kernel
theorem dX5_isWholeWithoutPause_15 : decode cX5_isWholeWithoutPause 15 = .ok (.getfield 97, 3) := by decide +kernel
theorem dX5_isWholeWithoutPause_18 : decode cX5_isWholeWithoutPause 18 = .ok (.ifCond .ne 7, 3) := by decide +kernel
theorem dX5_isWholeWithoutPause_21 : decode cX5_isWholeWithoutPause 21 = .ok (.iconst 1, 1) := by decide +kernel
theorem dX5_isWholeWithoutPause_22 : decode cX5_isWholeWithoutPause 22 = .ok (.goto 4, 3) := by decide +kernel
theorem dX5_isWholeWithoutPause_25 : decode cX5_isWholeWithoutPause 25 = .ok (.iconst 0, 1) := by decide +kernel
theorem dX5_isWholeWithoutPause_26 : decode cX5_isWholeWithoutPause 26 = .ok (.ireturn, 1) := by decide +kernel
theorem dX5_howManyWritten_0 : decode cX5_howManyWritten 0 = .ok (.iconst 0, 1) := by decide +kernel
theorem dX5_howManyWritten_1 : decode cX5_howManyWritten 1 = .ok (.istore_n 1, 1) := by decide +kernel
theorem dX5_howManyWritten_2 : decode cX5_howManyWritten 2 = .ok (.iload_n 1, 1) := by decide +kernel
theorem dX5_howManyWritten_3 : decode cX5_howManyWritten 3 = .ok (.aload_n 0, 1) := by decide +kernel
theorem dX5_howManyWritten_4 : decode cX5_howManyWritten 4 = .ok (.getfield 26, 3) := by decide +kernel
theorem dX5_howManyWritten_7 : decode cX5_howManyWritten 7 = .ok (.if_icmp .ge 22, 3) := by decide +kernel
theorem dX5_howManyWritten_10 : decode cX5_howManyWritten 10 = .ok (.aload_n 0, 1) := by decide +kernel
theorem dX5_howManyWritten_11 : decode cX5_howManyWritten 11 = .ok (.getfield 22, 3) := by decide +kernel
theorem dX5_howManyWritten_14 : decode cX5_howManyWritten 14 = .ok (.iload_n 1, 1) := by decide +kernel
theorem dX5_howManyWritten_15 : decode cX5_howManyWritten 15 = .ok (.aaload, 1) := by decide +kernel
theorem dX5_howManyWritten_16 : decode cX5_howManyWritten 16 = .ok (.getfield 83, 3) := by decide +kernel
theorem dX5_howManyWritten_19 : decode cX5_howManyWritten 19 = .ok (.iconst (-1), 1) := by decide +kernel
theorem dX5_howManyWritten_20 : decode cX5_howManyWritten 20 = .ok (.if_icmp .eq 9, 3) := by decide +kernel
theorem dX5_howManyWritten_23 : decode cX5_howManyWritten 23 = .ok (.iinc 1 1, 3) := by decide +kernel
theorem dX5_howManyWritten_26 : decode cX5_howManyWritten 26 = .ok (.goto (-24), 3) := by decide +kernel
theorem dX5_howManyWritten_29 : decode cX5_howManyWritten 29 = .ok (.iload_n 1, 1) := by decide +kernel
theorem dX5_howManyWritten_30 : decode cX5_howManyWritten 30 = .ok (.ireturn, 1) := by decide +kernel
theorem dX5_lastWritten_0 : decode cX5_lastWritten 0 = .ok (.aload_n 0, 1) := by decide +kernel
theorem dX5_lastWritten_1 : decode cX5_lastWritten 1 = .ok (.aload_n 0, 1) := by decide +kernel
theorem dX5_lastWritten_2 : decode cX5_lastWritten 2 = .ok (.invokevirtual 100, 3) := by decide +kernel
theorem dX5_lastWritten_5 : decode cX5_lastWritten 5 = .ok (.iconst 1, 1) := by decide +kernel
theorem dX5_lastWritten_6 : decode cX5_lastWritten 6 = .ok (.isub, 1) := by decide +kernel
theorem dX5_lastWritten_7 : decode cX5_lastWritten 7 = .ok (.invokevirtual 93, 3) := by decide +kernel
theorem dX5_lastWritten_10 : decode cX5_lastWritten 10 = .ok (.getfield 83, 3) := by decide +kernel
end
section
theorem dX5_lastWritten_13 : decode cX5_lastWritten 13 = .ok (.ireturn, 1) := by decide +kernel
theorem dX5_saidIn_0 : decode cX5_saidIn 0 = .ok (.iconst 0, 1) := by decide +kernel
theorem dX5_saidIn_1 : decode cX5_saidIn 1 = .ok (.istore_n 2, 1) := by decide +kernel
theorem dX5_saidIn_2 : decode cX5_saidIn 2 = .ok (.iload_n 2, 1) := by decide +kernel
theorem dX5_saidIn_3 : decode cX5_saidIn 3 = .ok (.aload_n 0, 1) := by decide +kernel
theorem dX5_saidIn_4 : decode cX5_saidIn 4 = .ok (.getfield 26, 3) := by decide +kernel
theorem dX5_saidIn_7 : decode cX5_saidIn 7 = .ok (.if_icmp .ge 24, 3) := by decide +kernel
theorem dX5_saidIn_10 : decode cX5_saidIn 10 = .ok (.aload_n 0, 1) := by decide +kernel
theorem dX5_saidIn_11 : decode cX5_saidIn 11 = .ok (.getfield 22, 3) := by decide +kernel
theorem dX5_saidIn_14 : decode cX5_saidIn 14 = .ok (.iload_n 2, 1) := by decide +kernel
theorem dX5_saidIn_15 : decode cX5_saidIn 15 = .ok (.aaload, 1) := by decide +kernel
theorem dX5_saidIn_16 : decode cX5_saidIn 16 = .ok (.iload_n 1, 1) := by decide +kernel
theorem dX5_saidIn_17 : decode cX5_saidIn 17 = .ok (.invokestatic 104, 3) := by decide +kernel
theorem dX5_saidIn_20 : decode cX5_saidIn 20 = .ok (.ifCond .eq 5, 3) := by decide +kernel
theorem dX5_saidIn_23 : decode cX5_saidIn 23 = .ok (.iload_n 2, 1) := by decide +kernel
theorem dX5_saidIn_24 : decode cX5_saidIn 24 = .ok (.ireturn, 1) := by decide +kernel
theorem dX5_saidIn_25 : decode cX5_saidIn 25 = .ok (.iinc 2 1, 3) := by decide +kernel
theorem dX5_saidIn_28 : decode cX5_saidIn 28 = .ok (.goto (-26), 3) := by decide +kernel
theorem dX5_saidIn_31 : decode cX5_saidIn 31 = .ok (.iconst (-1), 1) := by decide +kernel
theorem dX5_saidIn_32 : decode cX5_saidIn 32 = .ok (.ireturn, 1) := by decide +kernel
theorem dX5_isSaidIn_0 : decode cX5_isSaidIn 0 = .ok (.aload_n 0, 1) := by decide +kernel
theorem dX5_isSaidIn_1 : decode cX5_isSaidIn 1 = .ok (.getfield 108, 3) := by decide +kernel
theorem dX5_isSaidIn_4 : decode cX5_isSaidIn 4 = .ok (.iconst (-1), 1) := by decide +kernel
theorem dX5_isSaidIn_5 : decode cX5_isSaidIn 5 = .ok (.if_icmp .eq 23, 3) := by decide +kernel
theorem dX5_isSaidIn_8 : decode cX5_isSaidIn 8 = .ok (.aload_n 0, 1) := by decide +kernel
theorem dX5_isSaidIn_9 : decode cX5_isSaidIn 9 = .ok (.getfield 108, 3) := by decide +kernel
theorem dX5_isSaidIn_12 : decode cX5_isSaidIn 12 = .ok (.iload_n 1, 1) := by decide +kernel
theorem dX5_isSaidIn_13 : decode cX5_isSaidIn 13 = .ok (.if_icmp .gt 15, 3) := by decide +kernel
theorem dX5_isSaidIn_16 : decode cX5_isSaidIn 16 = .ok (.iload_n 1, 1) := by decide +kernel
theorem dX5_isSaidIn_17 : decode cX5_isSaidIn 17 = .ok (.aload_n 0, 1) := by decide +kernel
theorem dX5_isSaidIn_18 : decode cX5_isSaidIn 18 = .ok (.getfield 111, 3) := by decide +kernel
theorem dX5_isSaidIn_21 : decode cX5_isSaidIn 21 = .ok (.if_icmp .ge 7, 3) := by decide +kernel
theorem dX5_isSaidIn_24 : decode cX5_isSaidIn 24 = .ok (.iconst 1, 1) := by decide +kernel
theorem dX5_isSaidIn_25 : decode cX5_isSaidIn 25 = .ok (.goto 4, 3) := by decide +kernel
theorem dX5_isSaidIn_28 : decode cX5_isSaidIn 28 = .ok (.iconst 0, 1) := by decide +kernel
theorem dX5_isSaidIn_29 : decode cX5_isSaidIn 29 = .ok (.ireturn, 1) := by decide +kernel
theorem dX5_madeIn_0 : decode cX5_madeIn 0 = .ok (.aload_n 0, 1) := by decide +kernel
theorem dX5_madeIn_1 : decode cX5_madeIn 1 = .ok (.getfield 9, 3) := by decide +kernel
theorem dX5_madeIn_4 : decode cX5_madeIn 4 = .ok (.iconst 0, 1) := by decide +kernel
theorem dX5_madeIn_5 : decode cX5_madeIn 5 = .ok (.iaload, 1) := by decide +kernel
theorem dX5_madeIn_6 : decode cX5_madeIn 6 = .ok (.iload_n 1, 1) := by decide +kernel
theorem dX5_madeIn_7 : decode cX5_madeIn 7 = .ok (.iadd, 1) := by decide +kernel
theorem dX5_madeIn_8 : decode cX5_madeIn 8 = .ok (.istore_n 2, 1) := by decide +kernel
theorem dX5_madeIn_9 : decode cX5_madeIn 9 = .ok (.iconst 0, 1) := by decide +kernel
theorem dX5_madeIn_10 : decode cX5_madeIn 10 = .ok (.istore_n 3, 1) := by decide +kernel
theorem dX5_madeIn_11 : decode cX5_madeIn 11 = .ok (.iload_n 3, 1) := by decide +kernel
theorem dX5_madeIn_12 : decode cX5_madeIn 12 = .ok (.aload_n 0, 1) := by decide +kernel
theorem dX5_madeIn_13 : decode cX5_madeIn 13 = .ok (.getfield 26, 3) := by decide +kernel
theorem dX5_madeIn_16 : decode cX5_madeIn 16 = .ok (.if_icmp .ge 66, 3) := by decide +kernel
theorem dX5_madeIn_19 : decode cX5_madeIn 19 = .ok (.aload_n 0, 1) := by decide +kernel
theorem dX5_madeIn_20 : decode cX5_madeIn 20 = .ok (.getfield 22, 3) := by decide +kernel
theorem dX5_madeIn_23 : decode cX5_madeIn 23 = .ok (.iload_n 3, 1) := by decide +kernel
theorem dX5_madeIn_24 : decode cX5_madeIn 24 = .ok (.aaload, 1) := by decide +kernel
theorem dX5_madeIn_25 : decode cX5_madeIn 25 = .ok (.astore 4, 2) := by decide +kernel
theorem dX5_madeIn_27 : decode cX5_madeIn 27 = .ok (.aload 4, 2) := by decide +kernel
theorem dX5_madeIn_29 : decode cX5_madeIn 29 = .ok (.getfield 45, 3) := by decide +kernel
theorem dX5_madeIn_32 : decode cX5_madeIn 32 = .ok (.iconst 2, 1) := by decide +kernel
theorem dX5_madeIn_33 : decode cX5_madeIn 33 = .ok (.if_icmp .eq 43, 3) := by decide +kernel
theorem dX5_madeIn_36 : decode cX5_madeIn 36 = .ok (.aload 4, 2) := by decide +kernel
theorem dX5_madeIn_38 : decode cX5_madeIn 38 = .ok (.getfield 108, 3) := by decide +kernel
theorem dX5_madeIn_41 : decode cX5_madeIn 41 = .ok (.iconst (-1), 1) := by decide +kernel
theorem dX5_madeIn_42 : decode cX5_madeIn 42 = .ok (.if_icmp .ne 6, 3) := by decide +kernel
theorem dX5_madeIn_45 : decode cX5_madeIn 45 = .ok (.goto 31, 3) := by decide +kernel
theorem dX5_madeIn_48 : decode cX5_madeIn 48 = .ok (.aload 4, 2) := by decide +kernel
theorem dX5_madeIn_50 : decode cX5_madeIn 50 = .ok (.iload_n 1, 1) := by decide +kernel
theorem dX5_madeIn_51 : decode cX5_madeIn 51 = .ok (.invokestatic 104, 3) := by decide +kernel
theorem dX5_madeIn_54 : decode cX5_madeIn 54 = .ok (.ifCond .eq 5, 3) := by decide +kernel
theorem dX5_madeIn_57 : decode cX5_madeIn 57 = .ok (.iconst (-1), 1) := by decide +kernel
theorem dX5_madeIn_58 : decode cX5_madeIn 58 = .ok (.ireturn, 1) := by decide +kernel
theorem dX5_madeIn_59 : decode cX5_madeIn 59 = .ok (.aload 4, 2) := by decide +kernel
theorem dX5_madeIn_61 : decode cX5_madeIn 61 = .ok (.getfield 111, 3) := by decide +kernel
theorem dX5_madeIn_64 : decode cX5_madeIn 64 = .ok (.iload_n 1, 1) := by decide +kernel
theorem dX5_madeIn_65 : decode cX5_madeIn 65 = .ok (.if_icmp .gt 11, 3) := by decide +kernel
theorem dX5_madeIn_68 : decode cX5_madeIn 68 = .ok (.iload_n 2, 1) := by decide +kernel
theorem dX5_madeIn_69 : decode cX5_madeIn 69 = .ok (.aload 4, 2) := by decide +kernel
theorem dX5_madeIn_71 : decode cX5_madeIn 71 = .ok (.getfield 52, 3) := by decide +kernel
theorem dX5_madeIn_74 : decode cX5_madeIn 74 = .ok (.isub, 1) := by decide +kernel
theorem dX5_madeIn_75 : decode cX5_madeIn 75 = .ok (.istore_n 2, 1) := by decide +kernel
theorem dX5_madeIn_76 : decode cX5_madeIn 76 = .ok (.iinc 3 1, 3) := by decide +kernel
theorem dX5_madeIn_79 : decode cX5_madeIn 79 = .ok (.goto (-68), 3) := by decide +kernel
theorem dX5_madeIn_82 : decode cX5_madeIn 82 = .ok (.iconst 0, 1) := by decide +kernel
theorem dX5_madeIn_83 : decode cX5_madeIn 83 = .ok (.istore_n 3, 1) := by decide +kernel
theorem dX5_madeIn_84 : decode cX5_madeIn 84 = .ok (.iload_n 3, 1) := by decide +kernel
theorem dX5_madeIn_85 : decode cX5_madeIn 85 = .ok (.aload_n 0, 1) := by decide +kernel
theorem dX5_madeIn_86 : decode cX5_madeIn 86 = .ok (.getfield 26, 3) := by decide +kernel
theorem dX5_madeIn_89 : decode cX5_madeIn 89 = .ok (.if_icmp .ge 24, 3) := by decide +kernel
theorem dX5_madeIn_92 : decode cX5_madeIn 92 = .ok (.iload_n 2, 1) := by decide +kernel
theorem dX5_madeIn_93 : decode cX5_madeIn 93 = .ok (.aload_n 0, 1) := by decide +kernel
theorem dX5_madeIn_94 : decode cX5_madeIn 94 = .ok (.getfield 22, 3) := by decide +kernel
theorem dX5_madeIn_97 : decode cX5_madeIn 97 = .ok (.iload_n 3, 1) := by decide +kernel
theorem dX5_madeIn_98 : decode cX5_madeIn 98 = .ok (.aaload, 1) := by decide +kernel
theorem dX5_madeIn_99 : decode cX5_madeIn 99 = .ok (.getfield 77, 3) := by decide +kernel
theorem dX5_madeIn_102 : decode cX5_madeIn 102 = .ok (.if_icmp .ge 5, 3) := by decide +kernel
theorem dX5_madeIn_105 : decode cX5_madeIn 105 = .ok (.iload_n 3, 1) := by decide +kernel
theorem dX5_madeIn_106 : decode cX5_madeIn 106 = .ok (.ireturn, 1) := by decide +kernel
theorem dX5_madeIn_107 : decode cX5_madeIn 107 = .ok (.iinc 3 1, 3) := by decide +kernel
theorem dX5_madeIn_110 : decode cX5_madeIn 110 = .ok (.goto (-26), 3) := by decide +kernel
theorem dX5_madeIn_113 : decode cX5_madeIn 113 = .ok (.iconst (-1), 1) := by decide +kernel
theorem dX5_madeIn_114 : decode cX5_madeIn 114 = .ok (.ireturn, 1) := by decide +kernel
theorem dX5_inHandIn_0 : decode cX5_inHandIn 0 = .ok (.iconst 0, 1) := by decide +kernel
theorem dX5_inHandIn_1 : decode cX5_inHandIn 1 = .ok (.istore_n 2, 1) := by decide +kernel
theorem dX5_inHandIn_2 : decode cX5_inHandIn 2 = .ok (.iload_n 2, 1) := by decide +kernel
theorem dX5_inHandIn_3 : decode cX5_inHandIn 3 = .ok (.aload_n 0, 1) := by decide +kernel
theorem dX5_inHandIn_4 : decode cX5_inHandIn 4 = .ok (.getfield 26, 3) := by decide +kernel
theorem dX5_inHandIn_7 : decode cX5_inHandIn 7 = .ok (.if_icmp .ge 61, 3) := by decide +kernel
theorem dX5_inHandIn_10 : decode cX5_inHandIn 10 = .ok (.aload_n 0, 1) := by decide +kernel
theorem dX5_inHandIn_11 : decode cX5_inHandIn 11 = .ok (.getfield 22, 3) := by decide +kernel
theorem dX5_inHandIn_14 : decode cX5_inHandIn 14 = .ok (.iload_n 2, 1) := by decide +kernel
theorem dX5_inHandIn_15 : decode cX5_inHandIn 15 = .ok (.aaload, 1) := by decide +kernel
theorem dX5_inHandIn_16 : decode cX5_inHandIn 16 = .ok (.astore_n 3, 1) := by decide +kernel
theorem dX5_inHandIn_17 : decode cX5_inHandIn 17 = .ok (.aload_n 3, 1) := by decide +kernel
theorem dX5_inHandIn_18 : decode cX5_inHandIn 18 = .ok (.getfield 83, 3) := by decide +kernel
theorem dX5_inHandIn_21 : decode cX5_inHandIn 21 = .ok (.iconst (-1), 1) := by decide +kernel
theorem dX5_inHandIn_22 : decode cX5_inHandIn 22 = .ok (.if_icmp .ne 10, 3) := by decide +kernel
theorem dX5_inHandIn_25 : decode cX5_inHandIn 25 = .ok (.aload_n 3, 1) := by decide +kernel
theorem dX5_inHandIn_26 : decode cX5_inHandIn 26 = .ok (.getfield 114, 3) := by decide +kernel
theorem dX5_inHandIn_29 : decode cX5_inHandIn 29 = .ok (.goto 7, 3) := by decide +kernel
theorem dX5_inHandIn_32 : decode cX5_inHandIn 32 = .ok (.aload_n 3, 1) := by decide +kernel
theorem dX5_inHandIn_33 : decode cX5_inHandIn 33 = .ok (.getfield 83, 3) := by decide +kernel
theorem dX5_inHandIn_36 : decode cX5_inHandIn 36 = .ok (.istore 4, 2) := by decide +kernel
theorem dX5_inHandIn_38 : decode cX5_inHandIn 38 = .ok (.aload_n 3, 1) := by decide +kernel
theorem dX5_inHandIn_39 : decode cX5_inHandIn 39 = .ok (.getfield 111, 3) := by decide +kernel
theorem dX5_inHandIn_42 : decode cX5_inHandIn 42 = .ok (.iconst (-1), 1) := by decide +kernel
theorem dX5_inHandIn_43 : decode cX5_inHandIn 43 = .ok (.if_icmp .eq 19, 3) := by decide +kernel
theorem dX5_inHandIn_46 : decode cX5_inHandIn 46 = .ok (.aload_n 3, 1) := by decide +kernel
theorem dX5_inHandIn_47 : decode cX5_inHandIn 47 = .ok (.getfield 111, 3) := by decide +kernel
theorem dX5_inHandIn_50 : decode cX5_inHandIn 50 = .ok (.iload_n 1, 1) := by decide +kernel
theorem dX5_inHandIn_51 : decode cX5_inHandIn 51 = .ok (.if_icmp .gt 11, 3) := by decide +kernel
theorem dX5_inHandIn_54 : decode cX5_inHandIn 54 = .ok (.iload_n 1, 1) := by decide +kernel
theorem dX5_inHandIn_55 : decode cX5_inHandIn 55 = .ok (.iload 4, 2) := by decide +kernel
theorem dX5_inHandIn_57 : decode cX5_inHandIn 57 = .ok (.if_icmp .ge 5, 3) := by decide +kernel
theorem dX5_inHandIn_60 : decode cX5_inHandIn 60 = .ok (.iload_n 2, 1) := by decide +kernel
theorem dX5_inHandIn_61 : decode cX5_inHandIn 61 = .ok (.ireturn, 1) := by decide +kernel
theorem dX5_inHandIn_62 : decode cX5_inHandIn 62 = .ok (.iinc 2 1, 3) := by decide +kernel
theorem dX5_inHandIn_65 : decode cX5_inHandIn 65 = .ok (.goto (-63), 3) := by decide +kernel
theorem dX5_inHandIn_68 : decode cX5_inHandIn 68 = .ok (.iconst (-1), 1) := by decide +kernel
theorem dX5_inHandIn_69 : decode cX5_inHandIn 69 = .ok (.ireturn, 1) := by decide +kernel
theorem dX6_init_0 : decode cX6_init 0 = .ok (.aload_n 0, 1) := by decide +kernel
theorem dX6_init_1 : decode cX6_init 1 = .ok (.invokespecial 3, 3) := by decide +kernel
theorem dX6_init_4 : decode cX6_init 4 = .ok (.return_, 1) := by decide +kernel
theorem dX6_beStart_0 : decode cX6_beStart 0 = .ok (.aload_n 0, 1) := by decide +kernel
theorem dX6_beStart_1 : decode cX6_beStart 1 = .ok (.invokevirtual 9, 3) := by decide +kernel
theorem dX6_beStart_4 : decode cX6_beStart 4 = .ok (.aload_n 0, 1) := by decide +kernel
theorem dX6_beStart_5 : decode cX6_beStart 5 = .ok (.iconst 0, 1) := by decide +kernel
theorem dX6_beStart_6 : decode cX6_beStart 6 = .ok (.putfield 14, 3) := by decide +kernel
theorem dX6_beStart_9 : decode cX6_beStart 9 = .ok (.aload_n 0, 1) := by decide +kernel
theorem dX6_beStart_10 : decode cX6_beStart 10 = .ok (.iload_n 1, 1) := by decide +kernel
theorem dX6_beStart_11 : decode cX6_beStart 11 = .ok (.putfield 18, 3) := by decide +kernel
theorem dX6_beStart_14 : decode cX6_beStart 14 = .ok (.return_, 1) := by decide +kernel
theorem dX6_follow_0 : decode cX6_follow 0 = .ok (.aload_n 0, 1) := by decide +kernel
theorem dX6_follow_1 : decode cX6_follow 1 = .ok (.invokevirtual 9, 3) := by decide +kernel
theorem dX6_follow_4 : decode cX6_follow 4 = .ok (.aload_n 0, 1) := by decide +kernel
theorem dX6_follow_5 : decode cX6_follow 5 = .ok (.aload_n 1, 1) := by decide +kernel
theorem dX6_follow_6 : decode cX6_follow 6 = .ok (.getfield 21, 3) := by decide +kernel
theorem dX6_follow_9 : decode cX6_follow 9 = .ok (.aload_n 0, 1) := by decide +kernel
theorem dX6_follow_10 : decode cX6_follow 10 = .ok (.getfield 24, 3) := by decide +kernel
theorem dX6_follow_13 : decode cX6_follow 13 = .ok (.iadd, 1) := by decide +kernel
theorem dX6_follow_14 : decode cX6_follow 14 = .ok (.putfield 21, 3) := by decide +kernel
theorem dX6_follow_17 : decode cX6_follow 17 = .ok (.aload_n 0, 1) := by decide +kernel
theorem dX6_follow_18 : decode cX6_follow 18 = .ok (.aload_n 1, 1) := by decide +kernel
theorem dX6_follow_19 : decode cX6_follow 19 = .ok (.getfield 18, 3) := by decide +kernel
theorem dX6_follow_22 : decode cX6_follow 22 = .ok (.putfield 18, 3) := by decide +kernel
theorem dX6_follow_25 : decode cX6_follow 25 = .ok (.aload_n 0, 1) := by decide +kernel
theorem dX6_follow_26 : decode cX6_follow 26 = .ok (.aload_n 1, 1) := by decide +kernel
theorem dX6_follow_27 : decode cX6_follow 27 = .ok (.getfield 27, 3) := by decide +kernel
theorem dX6_follow_30 : decode cX6_follow 30 = .ok (.putfield 27, 3) := by decide +kernel
theorem dX6_follow_33 : decode cX6_follow 33 = .ok (.aload_n 0, 1) := by decide +kernel
theorem dX6_follow_34 : decode cX6_follow 34 = .ok (.aload_n 1, 1) := by decide +kernel
theorem dX6_follow_35 : decode cX6_follow 35 = .ok (.getfield 30, 3) := by decide +kernel
theorem dX6_follow_38 : decode cX6_follow 38 = .ok (.putfield 30, 3) := by decide +kernel
theorem dX6_follow_41 : decode cX6_follow 41 = .ok (.aload_n 0, 1) := by decide +kernel
theorem dX6_follow_42 : decode cX6_follow 42 = .ok (.aload_n 1, 1) := by decide +kernel
theorem dX6_follow_43 : decode cX6_follow 43 = .ok (.getfield 33, 3) := by decide +kernel
theorem dX6_follow_46 : decode cX6_follow 46 = .ok (.putfield 33, 3) := by decide +kernel
theorem dX6_follow_49 : decode cX6_follow 49 = .ok (.return_, 1) := by decide +kernel
theorem dX6_comeToNothing_0 : decode cX6_comeToNothing 0 = .ok (.aload_n 0, 1) := by decide +kernel
theorem dX6_comeToNothing_1 : decode cX6_comeToNothing 1 = .ok (.iconst (-1), 1) := by decide +kernel
theorem dX6_comeToNothing_2 : decode cX6_comeToNothing 2 = .ok (.putfield 36, 3) := by decide +kernel
theorem dX6_comeToNothing_5 : decode cX6_comeToNothing 5 = .ok (.aload_n 0, 1) := by decide +kernel
theorem dX6_comeToNothing_6 : decode cX6_comeToNothing 6 = .ok (.iconst (-1), 1) := by decide +kernel
theorem dX6_comeToNothing_7 : decode cX6_comeToNothing 7 = .ok (.putfield 39, 3) := by decide +kernel
theorem dX6_comeToNothing_10 : decode cX6_comeToNothing 10 = .ok (.aload_n 0, 1) := by decide +kernel
theorem dX6_comeToNothing_11 : decode cX6_comeToNothing 11 = .ok (.iconst (-1), 1) := by decide +kernel
theorem dX6_comeToNothing_12 : decode cX6_comeToNothing 12 = .ok (.putfield 42, 3) := by decide +kernel
theorem dX6_comeToNothing_15 : decode cX6_comeToNothing 15 = .ok (.aload_n 0, 1) := by decide +kernel
theorem dX6_comeToNothing_16 : decode cX6_comeToNothing 16 = .ok (.iconst (-1), 1) := by decide +kernel
theorem dX6_comeToNothing_17 : decode cX6_comeToNothing 17 = .ok (.putfield 14, 3) := by decide +kernel
theorem dX6_comeToNothing_20 : decode cX6_comeToNothing 20 = .ok (.aload_n 0, 1) := by decide +kernel
theorem dX6_comeToNothing_21 : decode cX6_comeToNothing 21 = .ok (.iconst (-1), 1) := by decide +kernel
theorem dX6_comeToNothing_22 : decode cX6_comeToNothing 22 = .ok (.putfield 45, 3) := by decide +kernel
theorem dX6_comeToNothing_25 : decode cX6_comeToNothing 25 = .ok (.return_, 1) := by decide +kernel
theorem dX6_beSaid_0 : decode cX6_beSaid 0 = .ok (.aload_n 0, 1) := by decide +kernel
theorem dX6_beSaid_1 : decode cX6_beSaid 1 = .ok (.iconst 0, 1) := by decide +kernel
theorem dX6_beSaid_2 : decode cX6_beSaid 2 = .ok (.aload_n 0, 1) := by decide +kernel
theorem dX6_beSaid_3 : decode cX6_beSaid 3 = .ok (.getfield 21, 3) := by decide +kernel
theorem dX6_beSaid_6 : decode cX6_beSaid 6 = .ok (.aload_n 0, 1) := by decide +kernel
theorem dX6_beSaid_7 : decode cX6_beSaid 7 = .ok (.getfield 18, 3) := by decide +kernel
theorem dX6_beSaid_10 : decode cX6_beSaid 10 = .ok (.isub, 1) := by decide +kernel
theorem dX6_beSaid_11 : decode cX6_beSaid 11 = .ok (.invokestatic 48, 3) := by decide +kernel
theorem dX6_beSaid_14 : decode cX6_beSaid 14 = .ok (.putfield 45, 3) := by decide +kernel
theorem dX6_beSaid_17 : decode cX6_beSaid 17 = .ok (.aload_n 0, 1) := by decide +kernel
theorem dX6_beSaid_18 : decode cX6_beSaid 18 = .ok (.dup, 1) := by decide +kernel
theorem dX6_beSaid_19 : decode cX6_beSaid 19 = .ok (.getfield 27, 3) := by decide +kernel
theorem dX6_beSaid_22 : decode cX6_beSaid 22 = .ok (.aload_n 0, 1) := by decide +kernel
theorem dX6_beSaid_23 : decode cX6_beSaid 23 = .ok (.getfield 45, 3) := by decide +kernel
theorem dX6_beSaid_26 : decode cX6_beSaid 26 = .ok (.iadd, 1) := by decide +kernel
theorem dX6_beSaid_27 : decode cX6_beSaid 27 = .ok (.putfield 27, 3) := by decide +kernel
theorem dX6_beSaid_30 : decode cX6_beSaid 30 = .ok (.aload_n 0, 1) := by decide +kernel
theorem dX6_beSaid_31 : decode cX6_beSaid 31 = .ok (.iload_n 1, 1) := by decide +kernel
theorem dX6_beSaid_32 : decode cX6_beSaid 32 = .ok (.aload_n 0, 1) := by decide +kernel
theorem dX6_beSaid_33 : decode cX6_beSaid 33 = .ok (.getfield 45, 3) := by decide +kernel
theorem dX6_beSaid_36 : decode cX6_beSaid 36 = .ok (.iadd, 1) := by decide +kernel
theorem dX6_beSaid_37 : decode cX6_beSaid 37 = .ok (.putfield 36, 3) := by decide +kernel
theorem dX6_beSaid_40 : decode cX6_beSaid 40 = .ok (.aload_n 0, 1) := by decide +kernel
theorem dX6_beSaid_41 : decode cX6_beSaid 41 = .ok (.dup, 1) := by decide +kernel
theorem dX6_beSaid_42 : decode cX6_beSaid 42 = .ok (.getfield 18, 3) := by decide +kernel
theorem dX6_beSaid_45 : decode cX6_beSaid 45 = .ok (.aload_n 0, 1) := by decide +kernel
theorem dX6_beSaid_46 : decode cX6_beSaid 46 = .ok (.getfield 45, 3) := by decide +kernel
theorem dX6_beSaid_49 : decode cX6_beSaid 49 = .ok (.iadd, 1) := by decide +kernel
theorem dX6_beSaid_50 : decode cX6_beSaid 50 = .ok (.putfield 18, 3) := by decide +kernel
theorem dX6_beSaid_53 : decode cX6_beSaid 53 = .ok (.aload_n 0, 1) := by decide +kernel
theorem dX6_beSaid_54 : decode cX6_beSaid 54 = .ok (.aload_n 0, 1) := by decide +kernel
theorem dX6_beSaid_55 : decode cX6_beSaid 55 = .ok (.getfield 18, 3) := by decide +kernel
theorem dX6_beSaid_58 : decode cX6_beSaid 58 = .ok (.aload_n 0, 1) := by decide +kernel
theorem dX6_beSaid_59 : decode cX6_beSaid 59 = .ok (.getfield 21, 3) := by decide +kernel
theorem dX6_beSaid_62 : decode cX6_beSaid 62 = .ok (.isub, 1) := by decide +kernel
theorem dX6_beSaid_63 : decode cX6_beSaid 63 = .ok (.putfield 54, 3) := by decide +kernel
theorem dX6_beSaid_66 : decode cX6_beSaid 66 = .ok (.aload_n 0, 1) := by decide +kernel
theorem dX6_beSaid_67 : decode cX6_beSaid 67 = .ok (.aload_n 0, 1) := by decide +kernel
theorem dX6_beSaid_68 : decode cX6_beSaid 68 = .ok (.getfield 36, 3) := by decide +kernel
theorem dX6_beSaid_71 : decode cX6_beSaid 71 = .ok (.aload_n 0, 1) := by decide +kernel
theorem dX6_beSaid_72 : decode cX6_beSaid 72 = .ok (.getfield 57, 3) := by decide +kernel
theorem dX6_beSaid_75 : decode cX6_beSaid 75 = .ok (.iadd, 1) := by decide +kernel
theorem dX6_beSaid_76 : decode cX6_beSaid 76 = .ok (.putfield 39, 3) := by decide +kernel
theorem dX6_beSaid_79 : decode cX6_beSaid 79 = .ok (.aload_n 0, 1) := by decide +kernel
theorem dX6_beSaid_80 : decode cX6_beSaid 80 = .ok (.getfield 60, 3) := by decide +kernel
theorem dX6_beSaid_83 : decode cX6_beSaid 83 = .ok (.iconst 2, 1) := by decide +kernel
theorem dX6_beSaid_84 : decode cX6_beSaid 84 = .ok (.if_icmp .ne 16, 3) := by decide +kernel
theorem dX6_beSaid_87 : decode cX6_beSaid 87 = .ok (.aload_n 0, 1) := by decide +kernel
theorem dX6_beSaid_88 : decode cX6_beSaid 88 = .ok (.dup, 1) := by decide +kernel
theorem dX6_beSaid_89 : decode cX6_beSaid 89 = .ok (.getfield 18, 3) := by decide +kernel
theorem dX6_beSaid_92 : decode cX6_beSaid 92 = .ok (.aload_n 0, 1) := by decide +kernel
theorem dX6_beSaid_93 : decode cX6_beSaid 93 = .ok (.getfield 57, 3) := by decide +kernel
theorem dX6_beSaid_96 : decode cX6_beSaid 96 = .ok (.iadd, 1) := by decide +kernel
theorem dX6_beSaid_97 : decode cX6_beSaid 97 = .ok (.putfield 18, 3) := by decide +kernel
theorem dX6_beSaid_100 : decode cX6_beSaid 100 = .ok (.aload_n 0, 1) := by decide +kernel
theorem dX6_beSaid_101 : decode cX6_beSaid 101 = .ok (.aload_n 0, 1) := by decide +kernel
theorem dX6_beSaid_102 : decode cX6_beSaid 102 = .ok (.getfield 39, 3) := by decide +kernel
theorem dX6_beSaid_105 : decode cX6_beSaid 105 = .ok (.aload_n 0, 1) := by decide +kernel
theorem dX6_beSaid_106 : decode cX6_beSaid 106 = .ok (.getfield 63, 3) := by decide +kernel
theorem dX6_beSaid_109 : decode cX6_beSaid 109 = .ok (.iadd, 1) := by decide +kernel
theorem dX6_beSaid_110 : decode cX6_beSaid 110 = .ok (.putfield 42, 3) := by decide +kernel
theorem dX6_beSaid_113 : decode cX6_beSaid 113 = .ok (.aload_n 0, 1) := by decide +kernel
theorem dX6_beSaid_114 : decode cX6_beSaid 114 = .ok (.dup, 1) := by decide +kernel
theorem dX6_beSaid_115 : decode cX6_beSaid 115 = .ok (.getfield 18, 3) := by decide +kernel
theorem dX6_beSaid_118 : decode cX6_beSaid 118 = .ok (.aload_n 0, 1) := by decide +kernel
theorem dX6_beSaid_119 : decode cX6_beSaid 119 = .ok (.getfield 63, 3) := by decide +kernel
theorem dX6_beSaid_122 : decode cX6_beSaid 122 = .ok (.iadd, 1) := by decide +kernel
theorem dX6_beSaid_123 : decode cX6_beSaid 123 = .ok (.putfield 18, 3) := by decide +kernel
theorem dX6_beSaid_126 : decode cX6_beSaid 126 = .ok (.return_, 1) := by decide +kernel
theorem dX6_beWritten_0 : decode cX6_beWritten 0 = .ok (.aload_n 0, 1) := by decide +kernel
theorem dX6_beWritten_1 : decode cX6_beWritten 1 = .ok (.getfield 60, 3) := by decide +kernel
theorem dX6_beWritten_4 : decode cX6_beWritten 4 = .ok (.iconst 3, 1) := by decide +kernel
theorem dX6_beWritten_5 : decode cX6_beWritten 5 = .ok (.if_icmp .ne 12, 3) := by decide +kernel
theorem dX6_beWritten_8 : decode cX6_beWritten 8 = .ok (.aload_n 0, 1) := by decide +kernel
theorem dX6_beWritten_9 : decode cX6_beWritten 9 = .ok (.getfield 57, 3) := by decide +kernel
theorem dX6_beWritten_12 : decode cX6_beWritten 12 = .ok (.iconst 2, 1) := by decide +kernel
theorem dX6_beWritten_13 : decode cX6_beWritten 13 = .ok (.iadd, 1) := by decide +kernel
theorem dX6_beWritten_14 : decode cX6_beWritten 14 = .ok (.goto 7, 3) := by decide +kernel
theorem dX6_beWritten_17 : decode cX6_beWritten 17 = .ok (.aload_n 0, 1) := by decide +kernel
theorem dX6_beWritten_18 : decode cX6_beWritten 18 = .ok (.getfield 57, 3) := by decide +kernel
theorem dX6_beWritten_21 : decode cX6_beWritten 21 = .ok (.istore 4, 2) := by decide +kernel
theorem dX6_beWritten_23 : decode cX6_beWritten 23 = .ok (.iconst 0, 1) := by decide +kernel
theorem dX6_beWritten_24 : decode cX6_beWritten 24 = .ok (.istore 5, 2) := by decide +kernel
theorem dX6_beWritten_26 : decode cX6_beWritten 26 = .ok (.aload_n 0, 1) := by decide +kernel
theorem dX6_beWritten_27 : decode cX6_beWritten 27 = .ok (.getfield 30, 3) := by decide +kernel
theorem dX6_beWritten_30 : decode cX6_beWritten 30 = .ok (.ifCond .le 41, 3) := by decide +kernel
theorem dX6_beWritten_33 : decode cX6_beWritten 33 = .ok (.aload_n 0, 1) := by decide +kernel
theorem dX6_beWritten_34 : decode cX6_beWritten 34 = .ok (.getfield 30, 3) := by decide +kernel
theorem dX6_beWritten_37 : decode cX6_beWritten 37 = .ok (.iload 4, 2) := by decide +kernel
theorem dX6_beWritten_39 : decode cX6_beWritten 39 = .ok (.iadd, 1) := by decide +kernel
theorem dX6_beWritten_40 : decode cX6_beWritten 40 = .ok (.iload_n 1, 1) := by decide +kernel
theorem dX6_beWritten_41 : decode cX6_beWritten 41 = .ok (.if_icmp .le 30, 3) := by decide +kernel
theorem dX6_beWritten_44 : decode cX6_beWritten 44 = .ok (.aload_n 0, 1) := by decide +kernel
theorem dX6_beWritten_45 : decode cX6_beWritten 45 = .ok (.getfield 33, 3) := by decide +kernel
theorem dX6_beWritten_48 : decode cX6_beWritten 48 = .ok (.iload_n 3, 1) := by decide +kernel
theorem dX6_beWritten_49 : decode cX6_beWritten 49 = .ok (.if_icmp .lt 4, 3) := by decide +kernel
theorem dX6_beWritten_52 : decode cX6_beWritten 52 = .ok (.return_, 1) := by decide +kernel
theorem dX6_beWritten_53 : decode cX6_beWritten 53 = .ok (.aload_n 0, 1) := by decide +kernel
theorem dX6_beWritten_54 : decode cX6_beWritten 54 = .ok (.dup, 1) := by decide +kernel
theorem dX6_beWritten_55 : decode cX6_beWritten 55 = .ok (.getfield 33, 3) := by decide +kernel
theorem dX6_beWritten_58 : decode cX6_beWritten 58 = .ok (.iconst 1, 1) := by decide +kernel
theorem dX6_beWritten_59 : decode cX6_beWritten 59 = .ok (.iadd, 1) := by decide +kernel
theorem dX6_beWritten_60 : decode cX6_beWritten 60 = .ok (.putfield 33, 3) := by decide +kernel
theorem dX6_beWritten_63 : decode cX6_beWritten 63 = .ok (.aload_n 0, 1) := by decide +kernel
theorem dX6_beWritten_64 : decode cX6_beWritten 64 = .ok (.iconst 0, 1) := by decide +kernel
theorem dX6_beWritten_65 : decode cX6_beWritten 65 = .ok (.putfield 30, 3) := by decide +kernel
theorem dX6_beWritten_68 : decode cX6_beWritten 68 = .ok (.iload_n 2, 1) := by decide +kernel
theorem dX6_beWritten_69 : decode cX6_beWritten 69 = .ok (.istore 5, 2) := by decide +kernel
theorem dX6_beWritten_71 : decode cX6_beWritten 71 = .ok (.aload_n 0, 1) := by decide +kernel
theorem dX6_beWritten_72 : decode cX6_beWritten 72 = .ok (.dup, 1) := by decide +kernel
theorem dX6_beWritten_73 : decode cX6_beWritten 73 = .ok (.getfield 30, 3) := by decide +kernel
theorem dX6_beWritten_76 : decode cX6_beWritten 76 = .ok (.iload 4, 2) := by decide +kernel
theorem dX6_beWritten_78 : decode cX6_beWritten 78 = .ok (.iadd, 1) := by decide +kernel
theorem dX6_beWritten_79 : decode cX6_beWritten 79 = .ok (.putfield 30, 3) := by decide +kernel
theorem dX6_beWritten_82 : decode cX6_beWritten 82 = .ok (.aload_n 0, 1) := by decide +kernel
theorem dX6_beWritten_83 : decode cX6_beWritten 83 = .ok (.aload_n 0, 1) := by decide +kernel
theorem dX6_beWritten_84 : decode cX6_beWritten 84 = .ok (.getfield 42, 3) := by decide +kernel
theorem dX6_beWritten_87 : decode cX6_beWritten 87 = .ok (.iload 5, 2) := by decide +kernel
theorem dX6_beWritten_89 : decode cX6_beWritten 89 = .ok (.iadd, 1) := by decide +kernel
theorem dX6_beWritten_90 : decode cX6_beWritten 90 = .ok (.iload 4, 2) := by decide +kernel
theorem dX6_beWritten_92 : decode cX6_beWritten 92 = .ok (.iadd, 1) := by decide +kernel
theorem dX6_beWritten_93 : decode cX6_beWritten 93 = .ok (.putfield 14, 3) := by decide +kernel
theorem dX6_beWritten_96 : decode cX6_beWritten 96 = .ok (.aload_n 0, 1) := by decide +kernel
theorem dX6_beWritten_97 : decode cX6_beWritten 97 = .ok (.dup, 1) := by decide +kernel
theorem dX6_beWritten_98 : decode cX6_beWritten 98 = .ok (.getfield 18, 3) := by decide +kernel
theorem dX6_beWritten_101 : decode cX6_beWritten 101 = .ok (.iload 5, 2) := by decide +kernel
theorem dX6_beWritten_103 : decode cX6_beWritten 103 = .ok (.iload 4, 2) := by decide +kernel
theorem dX6_beWritten_105 : decode cX6_beWritten 105 = .ok (.iadd, 1) := by decide +kernel
theorem dX6_beWritten_106 : decode cX6_beWritten 106 = .ok (.iadd, 1) := by decide +kernel
theorem dX6_beWritten_107 : decode cX6_beWritten 107 = .ok (.putfield 18, 3) := by decide +kernel
theorem dX6_beWritten_110 : decode cX6_beWritten 110 = .ok (.return_, 1) := by decide +kernel
theorem dJ6_bitCount_0f7a4_0 : decode cJ6_bitCount_0f7a4 0 = .ok (.iload_n 0, 1) := by decide +kernel
theorem dJ6_bitCount_0f7a4_1 : decode cJ6_bitCount_0f7a4 1 = .ok (.iload_n 0, 1) := by decide +kernel
theorem dJ6_bitCount_0f7a4_2 : decode cJ6_bitCount_0f7a4 2 = .ok (.iconst 1, 1) := by decide +kernel
theorem dJ6_bitCount_0f7a4_3 : decode cJ6_bitCount_0f7a4 3 = .ok (.iushr, 1) := by decide +kernel
theorem dJ6_bitCount_0f7a4_4 : decode cJ6_bitCount_0f7a4 4 = .ok (.ldc_w 265, 3) := by decide +kernel
theorem dJ6_bitCount_0f7a4_7 : decode cJ6_bitCount_0f7a4 7 = .ok (.iand, 1) := by decide +kernel
theorem dJ6_bitCount_0f7a4_8 : decode cJ6_bitCount_0f7a4 8 = .ok (.isub, 1) := by decide +kernel
theorem dJ6_bitCount_0f7a4_9 : decode cJ6_bitCount_0f7a4 9 = .ok (.istore_n 0, 1) := by decide +kernel
theorem dJ6_bitCount_0f7a4_10 : decode cJ6_bitCount_0f7a4 10 = .ok (.iload_n 0, 1) := by decide +kernel
theorem dJ6_bitCount_0f7a4_11 : decode cJ6_bitCount_0f7a4 11 = .ok (.ldc_w 266, 3) := by decide +kernel
theorem dJ6_bitCount_0f7a4_14 : decode cJ6_bitCount_0f7a4 14 = .ok (.iand, 1) := by decide +kernel
theorem dJ6_bitCount_0f7a4_15 : decode cJ6_bitCount_0f7a4 15 = .ok (.iload_n 0, 1) := by decide +kernel
theorem dJ6_bitCount_0f7a4_16 : decode cJ6_bitCount_0f7a4 16 = .ok (.iconst 2, 1) := by decide +kernel
theorem dJ6_bitCount_0f7a4_17 : decode cJ6_bitCount_0f7a4 17 = .ok (.iushr, 1) := by decide +kernel
theorem dJ6_bitCount_0f7a4_18 : decode cJ6_bitCount_0f7a4 18 = .ok (.ldc_w 266, 3) := by decide +kernel
theorem dJ6_bitCount_0f7a4_21 : decode cJ6_bitCount_0f7a4 21 = .ok (.iand, 1) := by decide +kernel
theorem dJ6_bitCount_0f7a4_22 : decode cJ6_bitCount_0f7a4 22 = .ok (.iadd, 1) := by decide +kernel
theorem dJ6_bitCount_0f7a4_23 : decode cJ6_bitCount_0f7a4 23 = .ok (.istore_n 0, 1) := by decide +kernel
theorem dJ6_bitCount_0f7a4_24 : decode cJ6_bitCount_0f7a4 24 = .ok (.iload_n 0, 1) := by decide +kernel
theorem dJ6_bitCount_0f7a4_25 : decode cJ6_bitCount_0f7a4 25 = .ok (.iload_n 0, 1) := by decide +kernel
theorem dJ6_bitCount_0f7a4_26 : decode cJ6_bitCount_0f7a4 26 = .ok (.iconst 4, 1) := by decide +kernel
theorem dJ6_bitCount_0f7a4_27 : decode cJ6_bitCount_0f7a4 27 = .ok (.iushr, 1) := by decide +kernel
theorem dJ6_bitCount_0f7a4_28 : decode cJ6_bitCount_0f7a4 28 = .ok (.iadd, 1) := by decide +kernel
theorem dJ6_bitCount_0f7a4_29 : decode cJ6_bitCount_0f7a4 29 = .ok (.ldc_w 267, 3) := by decide +kernel
theorem dJ6_bitCount_0f7a4_32 : decode cJ6_bitCount_0f7a4 32 = .ok (.iand, 1) := by decide +kernel
theorem dJ6_bitCount_0f7a4_33 : decode cJ6_bitCount_0f7a4 33 = .ok (.istore_n 0, 1) := by decide +kernel
theorem dJ6_bitCount_0f7a4_34 : decode cJ6_bitCount_0f7a4 34 = .ok (.iload_n 0, 1) := by decide +kernel
theorem dJ6_bitCount_0f7a4_35 : decode cJ6_bitCount_0f7a4 35 = .ok (.iload_n 0, 1) := by decide +kernel
theorem dJ6_bitCount_0f7a4_36 : decode cJ6_bitCount_0f7a4 36 = .ok (.bipush 8, 2) := by decide +kernel
theorem dJ6_bitCount_0f7a4_38 : decode cJ6_bitCount_0f7a4 38 = .ok (.iushr, 1) := by decide +kernel
theorem dJ6_bitCount_0f7a4_39 : decode cJ6_bitCount_0f7a4 39 = .ok (.iadd, 1) := by decide +kernel
theorem dJ6_bitCount_0f7a4_40 : decode cJ6_bitCount_0f7a4 40 = .ok (.istore_n 0, 1) := by decide +kernel
theorem dJ6_bitCount_0f7a4_41 : decode cJ6_bitCount_0f7a4 41 = .ok (.iload_n 0, 1) := by decide +kernel
theorem dJ6_bitCount_0f7a4_42 : decode cJ6_bitCount_0f7a4 42 = .ok (.iload_n 0, 1) := by decide +kernel
theorem dJ6_bitCount_0f7a4_43 : decode cJ6_bitCount_0f7a4 43 = .ok (.bipush 16, 2) := by decide +kernel
theorem dJ6_bitCount_0f7a4_45 : decode cJ6_bitCount_0f7a4 45 = .ok (.iushr, 1) := by decide +kernel
theorem dJ6_bitCount_0f7a4_46 : decode cJ6_bitCount_0f7a4 46 = .ok (.iadd, 1) := by decide +kernel
theorem dJ6_bitCount_0f7a4_47 : decode cJ6_bitCount_0f7a4 47 = .ok (.istore_n 0, 1) := by decide +kernel
theorem dJ6_bitCount_0f7a4_48 : decode cJ6_bitCount_0f7a4 48 = .ok (.iload_n 0, 1) := by decide +kernel
theorem dJ6_bitCount_0f7a4_49 : decode cJ6_bitCount_0f7a4 49 = .ok (.bipush 63, 2) := by decide +kernel
theorem dJ6_bitCount_0f7a4_51 : decode cJ6_bitCount_0f7a4 51 = .ok (.iand, 1) := by decide +kernel
theorem dJ6_bitCount_0f7a4_52 : decode cJ6_bitCount_0f7a4 52 = .ok (.ireturn, 1) := by decide +kernel
theorem dX7_init_0 : decode cX7_init 0 = .ok (.aload_n 0, 1) := by decide +kernel
theorem dX7_init_1 : decode cX7_init 1 = .ok (.invokespecial 1, 3) := by decide +kernel
theorem dX7_init_4 : decode cX7_init 4 = .ok (.aload_n 0, 1) := by decide +kernel
theorem dX7_init_5 : decode cX7_init 5 = .ok (.bipush 6, 2) := by decide +kernel
theorem dX7_init_7 : decode cX7_init 7 = .ok (.newarray .int, 2) := by decide +kernel
theorem dX7_init_9 : decode cX7_init 9 = .ok (.dup, 1) := by decide +kernel
theorem dX7_init_10 : decode cX7_init 10 = .ok (.iconst 0, 1) := by decide +kernel
theorem dX7_init_11 : decode cX7_init 11 = .ok (.iconst 0, 1) := by decide +kernel
theorem dX7_init_12 : decode cX7_init 12 = .ok (.iastore, 1) := by decide +kernel
theorem dX7_init_13 : decode cX7_init 13 = .ok (.dup, 1) := by decide +kernel
theorem dX7_init_14 : decode cX7_init 14 = .ok (.iconst 1, 1) := by decide +kernel
theorem dX7_init_15 : decode cX7_init 15 = .ok (.bipush 99, 2) := by decide +kernel
theorem dX7_init_17 : decode cX7_init 17 = .ok (.iastore, 1) := by decide +kernel
theorem dX7_init_18 : decode cX7_init 18 = .ok (.dup, 1) := by decide +kernel
theorem dX7_init_19 : decode cX7_init 19 = .ok (.iconst 2, 1) := by decide +kernel
theorem dX7_init_20 : decode cX7_init 20 = .ok (.iconst 0, 1) := by decide +kernel
theorem dX7_init_21 : decode cX7_init 21 = .ok (.iastore, 1) := by decide +kernel
theorem dX7_init_22 : decode cX7_init 22 = .ok (.dup, 1) := by decide +kernel
theorem dX7_init_23 : decode cX7_init 23 = .ok (.iconst 3, 1) := by decide +kernel
theorem dX7_init_24 : decode cX7_init 24 = .ok (.bipush 9, 2) := by decide +kernel
theorem dX7_init_26 : decode cX7_init 26 = .ok (.iastore, 1) := by decide +kernel
theorem dX7_init_27 : decode cX7_init 27 = .ok (.dup, 1) := by decide +kernel
theorem dX7_init_28 : decode cX7_init 28 = .ok (.iconst 4, 1) := by decide +kernel
theorem dX7_init_29 : decode cX7_init 29 = .ok (.iconst 0, 1) := by decide +kernel
theorem dX7_init_30 : decode cX7_init 30 = .ok (.iastore, 1) := by decide +kernel
theorem dX7_init_31 : decode cX7_init 31 = .ok (.dup, 1) := by decide +kernel
theorem dX7_init_32 : decode cX7_init 32 = .ok (.iconst 5, 1) := by decide +kernel
theorem dX7_init_33 : decode cX7_init 33 = .ok (.iconst 0, 1) := by decide +kernel
theorem dX7_init_34 : decode cX7_init 34 = .ok (.iastore, 1) := by decide +kernel
theorem dX7_init_35 : decode cX7_init 35 = .ok (.putfield 7, 3) := by decide +kernel
theorem dX7_init_38 : decode cX7_init 38 = .ok (.aload_n 0, 1) := by decide +kernel
theorem dX7_init_39 : decode cX7_init 39 = .ok (.new 13, 3) := by decide +kernel
theorem dX7_init_42 : decode cX7_init 42 = .ok (.dup, 1) := by decide +kernel
theorem dX7_init_43 : decode cX7_init 43 = .ok (.bipush 59, 2) := by decide +kernel
theorem dX7_init_45 : decode cX7_init 45 = .ok (.invokespecial 15, 3) := by decide +kernel
theorem dX7_init_48 : decode cX7_init 48 = .ok (.putfield 18, 3) := by decide +kernel
theorem dX7_init_51 : decode cX7_init 51 = .ok (.aload_n 0, 1) := by decide +kernel
theorem dX7_init_52 : decode cX7_init 52 = .ok (.new 13, 3) := by decide +kernel
theorem dX7_init_55 : decode cX7_init 55 = .ok (.dup, 1) := by decide +kernel
theorem dX7_init_56 : decode cX7_init 56 = .ok (.bipush 19, 2) := by decide +kernel
theorem dX7_init_58 : decode cX7_init 58 = .ok (.invokespecial 15, 3) := by decide +kernel
theorem dX7_init_61 : decode cX7_init 61 = .ok (.putfield 22, 3) := by decide +kernel
theorem dX7_init_64 : decode cX7_init 64 = .ok (.aload_n 0, 1) := by decide +kernel
theorem dX7_init_65 : decode cX7_init 65 = .ok (.new 25, 3) := by decide +kernel
theorem dX7_init_68 : decode cX7_init 68 = .ok (.dup, 1) := by decide +kernel
theorem dX7_init_69 : decode cX7_init 69 = .ok (.bipush 12, 2) := by decide +kernel
theorem dX7_init_71 : decode cX7_init 71 = .ok (.invokespecial 27, 3) := by decide +kernel
theorem dX7_init_74 : decode cX7_init 74 = .ok (.putfield 28, 3) := by decide +kernel
theorem dX7_init_77 : decode cX7_init 77 = .ok (.aload_n 0, 1) := by decide +kernel
theorem dX7_init_78 : decode cX7_init 78 = .ok (.new 25, 3) := by decide +kernel
theorem dX7_init_81 : decode cX7_init 81 = .ok (.dup, 1) := by decide +kernel
theorem dX7_init_82 : decode cX7_init 82 = .ok (.bipush 14, 2) := by decide +kernel
theorem dX7_init_84 : decode cX7_init 84 = .ok (.invokespecial 27, 3) := by decide +kernel
theorem dX7_init_87 : decode cX7_init 87 = .ok (.putfield 32, 3) := by decide +kernel
theorem dX7_init_90 : decode cX7_init 90 = .ok (.aload_n 0, 1) := by decide +kernel
theorem dX7_init_91 : decode cX7_init 91 = .ok (.new 35, 3) := by decide +kernel
theorem dX7_init_94 : decode cX7_init 94 = .ok (.dup, 1) := by decide +kernel
theorem dX7_init_95 : decode cX7_init 95 = .ok (.aload_n 0, 1) := by decide +kernel
theorem dX7_init_96 : decode cX7_init 96 = .ok (.getfield 32, 3) := by decide +kernel
theorem dX7_init_99 : decode cX7_init 99 = .ok (.aload_n 0, 1) := by decide +kernel
theorem dX7_init_100 : decode cX7_init 100 = .ok (.getfield 18, 3) := by decide +kernel
theorem dX7_init_103 : decode cX7_init 103 = .ok (.aload_n 0, 1) := by decide +kernel
theorem dX7_init_104 : decode cX7_init 104 = .ok (.getfield 22, 3) := by decide +kernel
theorem dX7_init_107 : decode cX7_init 107 = .ok (.aload_n 0, 1) := by decide +kernel
theorem dX7_init_108 : decode cX7_init 108 = .ok (.getfield 7, 3) := by decide +kernel
theorem dX7_init_111 : decode cX7_init 111 = .ok (.invokespecial 37, 3) := by decide +kernel
theorem dX7_init_114 : decode cX7_init 114 = .ok (.putfield 40, 3) := by decide +kernel
theorem dX7_init_117 : decode cX7_init 117 = .ok (.aload_n 0, 1) := by decide +kernel
theorem dX7_init_118 : decode cX7_init 118 = .ok (.new 44, 3) := by decide +kernel
theorem dX7_init_121 : decode cX7_init 121 = .ok (.dup, 1) := by decide +kernel
theorem dX7_init_122 : decode cX7_init 122 = .ok (.aload_n 0, 1) := by decide +kernel
theorem dX7_init_123 : decode cX7_init 123 = .ok (.getfield 32, 3) := by decide +kernel
theorem dX7_init_126 : decode cX7_init 126 = .ok (.aload_n 0, 1) := by decide +kernel
theorem dX7_init_127 : decode cX7_init 127 = .ok (.getfield 18, 3) := by decide +kernel
theorem dX7_init_130 : decode cX7_init 130 = .ok (.aload_n 0, 1) := by decide +kernel
theorem dX7_init_131 : decode cX7_init 131 = .ok (.getfield 7, 3) := by decide +kernel
theorem dX7_init_134 : decode cX7_init 134 = .ok (.invokespecial 46, 3) := by decide +kernel
theorem dX7_init_137 : decode cX7_init 137 = .ok (.putfield 49, 3) := by decide +kernel
theorem dX7_init_140 : decode cX7_init 140 = .ok (.aload_n 0, 1) := by decide +kernel
theorem dX7_init_141 : decode cX7_init 141 = .ok (.new 53, 3) := by decide +kernel
theorem dX7_init_144 : decode cX7_init 144 = .ok (.dup, 1) := by decide +kernel
theorem dX7_init_145 : decode cX7_init 145 = .ok (.invokespecial 55, 3) := by decide +kernel
theorem dX7_init_148 : decode cX7_init 148 = .ok (.putfield 56, 3) := by decide +kernel
theorem dX7_init_151 : decode cX7_init 151 = .ok (.aload_n 0, 1) := by decide +kernel
theorem dX7_init_152 : decode cX7_init 152 = .ok (.iconst 4, 1) := by decide +kernel
theorem dX7_init_153 : decode cX7_init 153 = .ok (.anewarray 60, 3) := by decide +kernel
theorem dX7_init_156 : decode cX7_init 156 = .ok (.putfield 62, 3) := by decide +kernel
theorem dX7_init_159 : decode cX7_init 159 = .ok (.iconst 0, 1) := by decide +kernel
theorem dX7_init_160 : decode cX7_init 160 = .ok (.istore_n 1, 1) := by decide +kernel
theorem dX7_init_161 : decode cX7_init 161 = .ok (.iload_n 1, 1) := by decide +kernel
theorem dX7_init_162 : decode cX7_init 162 = .ok (.iconst 4, 1) := by decide +kernel
theorem dX7_init_163 : decode cX7_init 163 = .ok (.if_icmp .ge 22, 3) := by decide +kernel
theorem dX7_init_166 : decode cX7_init 166 = .ok (.aload_n 0, 1) := by decide +kernel
theorem dX7_init_167 : decode cX7_init 167 = .ok (.getfield 62, 3) := by decide +kernel
theorem dX7_init_170 : decode cX7_init 170 = .ok (.iload_n 1, 1) := by decide +kernel
theorem dX7_init_171 : decode cX7_init 171 = .ok (.new 60, 3) := by decide +kernel
theorem dX7_init_174 : decode cX7_init 174 = .ok (.dup, 1) := by decide +kernel
theorem dX7_init_175 : decode cX7_init 175 = .ok (.invokespecial 66, 3) := by decide +kernel
theorem dX7_init_178 : decode cX7_init 178 = .ok (.aastore, 1) := by decide +kernel
theorem dX7_init_179 : decode cX7_init 179 = .ok (.iinc 1 1, 3) := by decide +kernel
theorem dX7_init_182 : decode cX7_init 182 = .ok (.goto (-21), 3) := by decide +kernel
theorem dX7_init_185 : decode cX7_init 185 = .ok (.return_, 1) := by decide +kernel
theorem dX7_type_0 : decode cX7_type 0 = .ok (.iload_n 1, 1) := by decide +kernel
theorem dX7_type_1 : decode cX7_type 1 = .ok (.invokestatic 67, 3) := by decide +kernel
theorem dX7_type_4 : decode cX7_type 4 = .ok (.ifCond .eq 14, 3) := by decide +kernel
theorem dX7_type_7 : decode cX7_type 7 = .ok (.iload_n 2, 1) := by decide +kernel
theorem dX7_type_8 : decode cX7_type 8 = .ok (.ifCond .lt 10, 3) := by decide +kernel
theorem dX7_type_11 : decode cX7_type 11 = .ok (.iload_n 2, 1) := by decide +kernel
theorem dX7_type_12 : decode cX7_type 12 = .ok (.sipush 255, 3) := by decide +kernel
theorem dX7_type_15 : decode cX7_type 15 = .ok (.if_icmp .le 6, 3) := by decide +kernel
theorem dX7_type_18 : decode cX7_type 18 = .ok (.bipush (-2), 2) := by decide +kernel
theorem dX7_type_20 : decode cX7_type 20 = .ok (.ireturn, 1) := by decide +kernel
theorem dX7_type_21 : decode cX7_type 21 = .ok (.aload_n 0, 1) := by decide +kernel
theorem dX7_type_22 : decode cX7_type 22 = .ok (.iload_n 1, 1) := by decide +kernel
theorem dX7_type_23 : decode cX7_type 23 = .ok (.invokevirtual 71, 3) := by decide +kernel
theorem dX7_type_26 : decode cX7_type 26 = .ok (.astore_n 3, 1) := by decide +kernel
theorem dX7_type_27 : decode cX7_type 27 = .ok (.aload_n 3, 1) := by decide +kernel
theorem dX7_type_28 : decode cX7_type 28 = .ok (.invokevirtual 75, 3) := by decide +kernel
theorem dX7_type_31 : decode cX7_type 31 = .ok (.ifCond .eq 6, 3) := by decide +kernel
theorem dX7_type_34 : decode cX7_type 34 = .ok (.bipush (-4), 2) := by decide +kernel
theorem dX7_type_36 : decode cX7_type 36 = .ok (.ireturn, 1) := by decide +kernel
theorem dX7_type_37 : decode cX7_type 37 = .ok (.aload_n 3, 1) := by decide +kernel
theorem dX7_type_38 : decode cX7_type 38 = .ok (.iload_n 2, 1) := by decide +kernel
theorem dX7_type_39 : decode cX7_type 39 = .ok (.invokevirtual 79, 3) := by decide +kernel
theorem dX7_type_42 : decode cX7_type 42 = .ok (.aload_n 0, 1) := by decide +kernel
theorem dX7_type_43 : decode cX7_type 43 = .ok (.invokevirtual 82, 3) := by decide +kernel
theorem dX7_type_46 : decode cX7_type 46 = .ok (.aload_n 3, 1) := by decide +kernel
theorem dX7_type_47 : decode cX7_type 47 = .ok (.getfield 85, 3) := by decide +kernel
theorem dX7_type_50 : decode cX7_type 50 = .ok (.ireturn, 1) := by decide +kernel
theorem dX7_wipe_0 : decode cX7_wipe 0 = .ok (.iload_n 1, 1) := by decide +kernel
theorem dX7_wipe_1 : decode cX7_wipe 1 = .ok (.invokestatic 67, 3) := by decide +kernel
theorem dX7_wipe_4 : decode cX7_wipe 4 = .ok (.ifCond .ne 6, 3) := by decide +kernel
theorem dX7_wipe_7 : decode cX7_wipe 7 = .ok (.bipush (-2), 2) := by decide +kernel
theorem dX7_wipe_9 : decode cX7_wipe 9 = .ok (.ireturn, 1) := by decide +kernel
theorem dX7_wipe_10 : decode cX7_wipe 10 = .ok (.aload_n 0, 1) := by decide +kernel
theorem dX7_wipe_11 : decode cX7_wipe 11 = .ok (.iload_n 1, 1) := by decide +kernel
theorem dX7_wipe_12 : decode cX7_wipe 12 = .ok (.invokevirtual 71, 3) := by decide +kernel
theorem dX7_wipe_15 : decode cX7_wipe 15 = .ok (.astore_n 2, 1) := by decide +kernel
theorem dX7_wipe_16 : decode cX7_wipe 16 = .ok (.aload_n 2, 1) := by decide +kernel
theorem dX7_wipe_17 : decode cX7_wipe 17 = .ok (.getfield 85, 3) := by decide +kernel
theorem dX7_wipe_20 : decode cX7_wipe 20 = .ok (.istore_n 3, 1) := by decide +kernel
theorem dX7_wipe_21 : decode cX7_wipe 21 = .ok (.aload_n 2, 1) := by decide +kernel
theorem dX7_wipe_22 : decode cX7_wipe 22 = .ok (.iconst 0, 1) := by decide +kernel
theorem dX7_wipe_23 : decode cX7_wipe 23 = .ok (.invokevirtual 89, 3) := by decide +kernel
theorem dX7_wipe_26 : decode cX7_wipe 26 = .ok (.aload_n 0, 1) := by decide +kernel
theorem dX7_wipe_27 : decode cX7_wipe 27 = .ok (.invokevirtual 82, 3) := by decide +kernel
theorem dX7_wipe_30 : decode cX7_wipe 30 = .ok (.iload_n 3, 1) := by decide +kernel
theorem dX7_wipe_31 : decode cX7_wipe 31 = .ok (.ireturn, 1) := by decide +kernel
theorem dX7_undo_0 : decode cX7_undo 0 = .ok (.iload_n 1, 1) := by decide +kernel
theorem dX7_undo_1 : decode cX7_undo 1 = .ok (.invokestatic 67, 3) := by decide +kernel
theorem dX7_undo_4 : decode cX7_undo 4 = .ok (.ifCond .ne 6, 3) := by decide +kernel
theorem dX7_undo_7 : decode cX7_undo 7 = .ok (.bipush (-2), 2) := by decide +kernel
theorem dX7_undo_9 : decode cX7_undo 9 = .ok (.ireturn, 1) := by decide +kernel
theorem dX7_undo_10 : decode cX7_undo 10 = .ok (.aload_n 0, 1) := by decide +kernel
theorem dX7_undo_11 : decode cX7_undo 11 = .ok (.iload_n 1, 1) := by decide +kernel
theorem dX7_undo_12 : decode cX7_undo 12 = .ok (.invokevirtual 71, 3) := by decide +kernel
theorem dX7_undo_15 : decode cX7_undo 15 = .ok (.astore_n 2, 1) := by decide +kernel
theorem dX7_undo_16 : decode cX7_undo 16 = .ok (.aload_n 2, 1) := by decide +kernel
theorem dX7_undo_17 : decode cX7_undo 17 = .ok (.getfield 92, 3) := by decide +kernel
theorem dX7_undo_20 : decode cX7_undo 20 = .ok (.ifCond .ne 6, 3) := by decide +kernel
theorem dX7_undo_23 : decode cX7_undo 23 = .ok (.bipush (-3), 2) := by decide +kernel
theorem dX7_undo_25 : decode cX7_undo 25 = .ok (.ireturn, 1) := by decide +kernel
theorem dX7_undo_26 : decode cX7_undo 26 = .ok (.aload_n 2, 1) := by decide +kernel
theorem dX7_undo_27 : decode cX7_undo 27 = .ok (.invokevirtual 95, 3) := by decide +kernel
theorem dX7_undo_30 : decode cX7_undo 30 = .ok (.aload_n 0, 1) := by decide +kernel
theorem dX7_undo_31 : decode cX7_undo 31 = .ok (.invokevirtual 82, 3) := by decide +kernel
theorem dX7_undo_34 : decode cX7_undo 34 = .ok (.aload_n 2, 1) := by decide +kernel
theorem dX7_undo_35 : decode cX7_undo 35 = .ok (.getfield 92, 3) := by decide +kernel
theorem dX7_undo_38 : decode cX7_undo 38 = .ok (.ireturn, 1) := by decide +kernel
theorem dX7_fault_0 : decode cX7_fault 0 = .ok (.iload_n 1, 1) := by decide +kernel
theorem dX7_fault_1 : decode cX7_fault 1 = .ok (.invokestatic 67, 3) := by decide +kernel
theorem dX7_fault_4 : decode cX7_fault 4 = .ok (.ifCond .eq 14, 3) := by decide +kernel
theorem dX7_fault_7 : decode cX7_fault 7 = .ok (.aload_n 0, 1) := by decide +kernel
theorem dX7_fault_8 : decode cX7_fault 8 = .ok (.iload_n 1, 1) := by decide +kernel
theorem dX7_fault_9 : decode cX7_fault 9 = .ok (.invokevirtual 71, 3) := by decide +kernel
theorem dX7_fault_12 : decode cX7_fault 12 = .ok (.getfield 98, 3) := by decide +kernel
theorem dX7_fault_15 : decode cX7_fault 15 = .ok (.goto 5, 3) := by decide +kernel
theorem dX7_fault_18 : decode cX7_fault 18 = .ok (.bipush (-2), 2) := by decide +kernel
theorem dX7_fault_20 : decode cX7_fault 20 = .ok (.ireturn, 1) := by decide +kernel
theorem dX7_set_0 : decode cX7_set 0 = .ok (.iload_n 1, 1) := by decide +kernel
theorem dX7_set_1 : decode cX7_set 1 = .ok (.ifCond .lt 9, 3) := by decide +kernel
theorem dX7_set_4 : decode cX7_set 4 = .ok (.iload_n 1, 1) := by decide +kernel
theorem dX7_set_5 : decode cX7_set 5 = .ok (.bipush 6, 2) := by decide +kernel
theorem dX7_set_7 : decode cX7_set 7 = .ok (.if_icmp .lt 6, 3) := by decide +kernel
theorem dX7_set_10 : decode cX7_set 10 = .ok (.bipush (-2), 2) := by decide +kernel
theorem dX7_set_12 : decode cX7_set 12 = .ok (.ireturn, 1) := by decide +kernel
theorem dX7_set_13 : decode cX7_set 13 = .ok (.iload_n 2, 1) := by decide +kernel
theorem dX7_set_14 : decode cX7_set 14 = .ok (.getstatic 101, 3) := by decide +kernel
theorem dX7_set_17 : decode cX7_set 17 = .ok (.iload_n 1, 1) := by decide +kernel
theorem dX7_set_18 : decode cX7_set 18 = .ok (.iaload, 1) := by decide +kernel
theorem dX7_set_19 : decode cX7_set 19 = .ok (.if_icmp .lt 12, 3) := by decide +kernel
theorem dX7_set_22 : decode cX7_set 22 = .ok (.iload_n 2, 1) := by decide +kernel
theorem dX7_set_23 : decode cX7_set 23 = .ok (.getstatic 104, 3) := by decide +kernel
theorem dX7_set_26 : decode cX7_set 26 = .ok (.iload_n 1, 1) := by decide +kernel
theorem dX7_set_27 : decode cX7_set 27 = .ok (.iaload, 1) := by decide +kernel
theorem dX7_set_28 : decode cX7_set 28 = .ok (.if_icmp .le 6, 3) := by decide +kernel
theorem dX7_set_31 : decode cX7_set 31 = .ok (.bipush (-2), 2) := by decide +kernel
theorem dX7_set_33 : decode cX7_set 33 = .ok (.ireturn, 1) := by decide +kernel
theorem dX7_set_34 : decode cX7_set 34 = .ok (.aload_n 0, 1) := by decide +kernel
theorem dX7_set_35 : decode cX7_set 35 = .ok (.getfield 7, 3) := by decide +kernel
theorem dX7_set_38 : decode cX7_set 38 = .ok (.iload_n 1, 1) := by decide +kernel
theorem dX7_set_39 : decode cX7_set 39 = .ok (.iaload, 1) := by decide +kernel
theorem dX7_set_40 : decode cX7_set 40 = .ok (.istore_n 3, 1) := by decide +kernel
theorem dX7_set_41 : decode cX7_set 41 = .ok (.aload_n 0, 1) := by decide +kernel
theorem dX7_set_42 : decode cX7_set 42 = .ok (.getfield 7, 3) := by decide +kernel
theorem dX7_set_45 : decode cX7_set 45 = .ok (.iload_n 1, 1) := by decide +kernel
theorem dX7_set_46 : decode cX7_set 46 = .ok (.iload_n 2, 1) := by decide +kernel
theorem dX7_set_47 : decode cX7_set 47 = .ok (.iastore, 1) := by decide +kernel
theorem dX7_set_48 : decode cX7_set 48 = .ok (.aload_n 0, 1) := by decide +kernel
theorem dX7_set_49 : decode cX7_set 49 = .ok (.invokevirtual 82, 3) := by decide +kernel
theorem dX7_set_52 : decode cX7_set 52 = .ok (.iload_n 3, 1) := by decide +kernel
theorem dX7_set_53 : decode cX7_set 53 = .ok (.ireturn, 1) := by decide +kernel
theorem dX7_verse_0 : decode cX7_verse 0 = .ok (.aload_n 0, 1) := by decide +kernel
theorem dX7_verse_1 : decode cX7_verse 1 = .ok (.iload_n 1, 1) := by decide +kernel
theorem dX7_verse_2 : decode cX7_verse 2 = .ok (.invokevirtual 107, 3) := by decide +kernel
theorem dX7_verse_5 : decode cX7_verse 5 = .ok (.ifCond .ne 6, 3) := by decide +kernel
theorem dX7_verse_8 : decode cX7_verse 8 = .ok (.bipush (-2), 2) := by decide +kernel
theorem dX7_verse_10 : decode cX7_verse 10 = .ok (.ireturn, 1) := by decide +kernel
theorem dX7_verse_11 : decode cX7_verse 11 = .ok (.aload_n 0, 1) := by decide +kernel
theorem dX7_verse_12 : decode cX7_verse 12 = .ok (.getfield 28, 3) := by decide +kernel
theorem dX7_verse_15 : decode cX7_verse 15 = .ok (.iload_n 1, 1) := by decide +kernel
theorem dX7_verse_16 : decode cX7_verse 16 = .ok (.invokevirtual 110, 3) := by decide +kernel
theorem dX7_verse_19 : decode cX7_verse 19 = .ok (.astore_n 3, 1) := by decide +kernel
theorem dX7_verse_20 : decode cX7_verse 20 = .ok (.iload_n 2, 1) := by decide +kernel
theorem dX7_verse_21 : decode cX7_verse 21 = .ok (.tableswitch 84 0 5 #[39, 49, 59, 69, 74, 79], 39) := by decide +kernel
theorem dX7_verse_60 : decode cX7_verse 60 = .ok (.aload_n 0, 1) := by decide +kernel
theorem dX7_verse_61 : decode cX7_verse 61 = .ok (.getfield 18, 3) := by decide +kernel
theorem dX7_verse_64 : decode cX7_verse 64 = .ok (.iload_n 1, 1) := by decide +kernel
theorem dX7_verse_65 : decode cX7_verse 65 = .ok (.iconst 0, 1) := by decide +kernel
theorem dX7_verse_66 : decode cX7_verse 66 = .ok (.invokevirtual 114, 3) := by decide +kernel
theorem dX7_verse_69 : decode cX7_verse 69 = .ok (.ireturn, 1) := by decide +kernel
theorem dX7_verse_70 : decode cX7_verse 70 = .ok (.aload_n 0, 1) := by decide +kernel
theorem dX7_verse_71 : decode cX7_verse 71 = .ok (.getfield 18, 3) := by decide +kernel
theorem dX7_verse_74 : decode cX7_verse 74 = .ok (.iload_n 1, 1) := by decide +kernel
theorem dX7_verse_75 : decode cX7_verse 75 = .ok (.iconst 1, 1) := by decide +kernel
theorem dX7_verse_76 : decode cX7_verse 76 = .ok (.invokevirtual 114, 3) := by decide +kernel
theorem dX7_verse_79 : decode cX7_verse 79 = .ok (.ireturn, 1) := by decide +kernel
theorem dX7_verse_80 : decode cX7_verse 80 = .ok (.aload_n 0, 1) := by decide +kernel
theorem dX7_verse_81 : decode cX7_verse 81 = .ok (.getfield 18, 3) := by decide +kernel
theorem dX7_verse_84 : decode cX7_verse 84 = .ok (.iload_n 1, 1) := by decide +kernel
theorem dX7_verse_85 : decode cX7_verse 85 = .ok (.iconst 2, 1) := by decide +kernel
theorem dX7_verse_86 : decode cX7_verse 86 = .ok (.invokevirtual 114, 3) := by decide +kernel
theorem dX7_verse_89 : decode cX7_verse 89 = .ok (.ireturn, 1) := by decide +kernel
theorem dX7_verse_90 : decode cX7_verse 90 = .ok (.aload_n 3, 1) := by decide +kernel
theorem dX7_verse_91 : decode cX7_verse 91 = .ok (.getfield 118, 3) := by decide +kernel
theorem dX7_verse_94 : decode cX7_verse 94 = .ok (.ireturn, 1) := by decide +kernel
theorem dX7_verse_95 : decode cX7_verse 95 = .ok (.aload_n 3, 1) := by decide +kernel
theorem dX7_verse_96 : decode cX7_verse 96 = .ok (.getfield 123, 3) := by decide +kernel
theorem dX7_verse_99 : decode cX7_verse 99 = .ok (.ireturn, 1) := by decide +kernel
theorem dX7_verse_100 : decode cX7_verse 100 = .ok (.aload_n 3, 1) := by decide +kernel
theorem dX7_verse_101 : decode cX7_verse 101 = .ok (.getfield 126, 3) := by decide +kernel
theorem dX7_verse_104 : decode cX7_verse 104 = .ok (.ireturn, 1) := by decide +kernel
theorem dX7_verse_105 : decode cX7_verse 105 = .ok (.bipush (-2), 2) := by decide +kernel
theorem dX7_verse_107 : decode cX7_verse 107 = .ok (.ireturn, 1) := by decide +kernel
theorem dX7_when_0 : decode cX7_when 0 = .ok (.aload_n 0, 1) := by decide +kernel
theorem dX7_when_1 : decode cX7_when 1 = .ok (.iload_n 1, 1) := by decide +kernel
theorem dX7_when_2 : decode cX7_when 2 = .ok (.invokevirtual 107, 3) := by decide +kernel
theorem dX7_when_5 : decode cX7_when 5 = .ok (.ifCond .ne 6, 3) := by decide +kernel
theorem dX7_when_8 : decode cX7_when 8 = .ok (.bipush (-2), 2) := by decide +kernel
theorem dX7_when_10 : decode cX7_when 10 = .ok (.ireturn, 1) := by decide +kernel
theorem dX7_when_11 : decode cX7_when 11 = .ok (.aload_n 0, 1) := by decide +kernel
theorem dX7_when_12 : decode cX7_when 12 = .ok (.getfield 28, 3) := by decide +kernel
theorem dX7_when_15 : decode cX7_when 15 = .ok (.iload_n 1, 1) := by decide +kernel
theorem dX7_when_16 : decode cX7_when 16 = .ok (.invokevirtual 110, 3) := by decide +kernel
theorem dX7_when_19 : decode cX7_when 19 = .ok (.astore_n 3, 1) := by decide +kernel
theorem dX7_when_20 : decode cX7_when 20 = .ok (.iload_n 2, 1) := by decide +kernel
theorem dX7_when_21 : decode cX7_when 21 = .ok (.tableswitch 60 0 4 #[35, 40, 45, 50, 55], 35) := by decide +kernel
theorem dX7_when_56 : decode cX7_when 56 = .ok (.aload_n 3, 1) := by decide +kernel
theorem dX7_when_57 : decode cX7_when 57 = .ok (.getfield 129, 3) := by decide +kernel
theorem dX7_when_60 : decode cX7_when 60 = .ok (.ireturn, 1) := by decide +kernel
theorem dX7_when_61 : decode cX7_when 61 = .ok (.aload_n 3, 1) := by decide +kernel
theorem dX7_when_62 : decode cX7_when 62 = .ok (.getfield 132, 3) := by decide +kernel
theorem dX7_when_65 : decode cX7_when 65 = .ok (.ireturn, 1) := by decide +kernel
theorem dX7_when_66 : decode cX7_when 66 = .ok (.aload_n 3, 1) := by decide +kernel
theorem dX7_when_67 : decode cX7_when 67 = .ok (.getfield 135, 3) := by decide +kernel
theorem dX7_when_70 : decode cX7_when 70 = .ok (.ireturn, 1) := by decide +kernel
theorem dX7_when_71 : decode cX7_when 71 = .ok (.aload_n 3, 1) := by decide +kernel
theorem dX7_when_72 : decode cX7_when 72 = .ok (.getfield 138, 3) := by decide +kernel
theorem dX7_when_75 : decode cX7_when 75 = .ok (.ireturn, 1) := by decide +kernel
theorem dX7_when_76 : decode cX7_when 76 = .ok (.aload_n 3, 1) := by decide +kernel
theorem dX7_when_77 : decode cX7_when 77 = .ok (.getfield 141, 3) := by decide +kernel
theorem dX7_when_80 : decode cX7_when 80 = .ok (.ireturn, 1) := by decide +kernel
theorem dX7_when_81 : decode cX7_when 81 = .ok (.bipush (-2), 2) := by decide +kernel
theorem dX7_when_83 : decode cX7_when 83 = .ok (.ireturn, 1) := by decide +kernel
theorem dX7_poem_0 : decode cX7_poem 0 = .ok (.iload_n 1, 1) := by decide +kernel
theorem dX7_poem_1 : decode cX7_poem 1 = .ok (.tableswitch 69 0 3 #[31, 39, 47, 58], 31) := by decide +kernel
theorem dX7_poem_32 : decode cX7_poem 32 = .ok (.aload_n 0, 1) := by decide +kernel
theorem dX7_poem_33 : decode cX7_poem 33 = .ok (.getfield 28, 3) := by decide +kernel
theorem dX7_poem_36 : decode cX7_poem 36 = .ok (.invokevirtual 144, 3) := by decide +kernel
theorem dX7_poem_39 : decode cX7_poem 39 = .ok (.ireturn, 1) := by decide +kernel
theorem dX7_poem_40 : decode cX7_poem 40 = .ok (.aload_n 0, 1) := by decide +kernel
theorem dX7_poem_41 : decode cX7_poem 41 = .ok (.getfield 28, 3) := by decide +kernel
theorem dX7_poem_44 : decode cX7_poem 44 = .ok (.invokevirtual 148, 3) := by decide +kernel
theorem dX7_poem_47 : decode cX7_poem 47 = .ok (.ireturn, 1) := by decide +kernel
theorem dX7_poem_48 : decode cX7_poem 48 = .ok (.aload_n 0, 1) := by decide +kernel
theorem dX7_poem_49 : decode cX7_poem 49 = .ok (.getfield 28, 3) := by decide +kernel
theorem dX7_poem_52 : decode cX7_poem 52 = .ok (.invokevirtual 151, 3) := by decide +kernel
theorem dX7_poem_55 : decode cX7_poem 55 = .ok (.getfield 155, 3) := by decide +kernel
theorem dX7_poem_58 : decode cX7_poem 58 = .ok (.ireturn, 1) := by decide +kernel
theorem dX7_poem_59 : decode cX7_poem 59 = .ok (.aload_n 0, 1) := by decide +kernel
theorem dX7_poem_60 : decode cX7_poem 60 = .ok (.getfield 28, 3) := by decide +kernel
theorem dX7_poem_63 : decode cX7_poem 63 = .ok (.invokevirtual 151, 3) := by decide +kernel
theorem dX7_poem_66 : decode cX7_poem 66 = .ok (.getfield 158, 3) := by decide +kernel
theorem dX7_poem_69 : decode cX7_poem 69 = .ok (.ireturn, 1) := by decide +kernel
theorem dX7_poem_70 : decode cX7_poem 70 = .ok (.bipush (-2), 2) := by decide +kernel
theorem dX7_poem_72 : decode cX7_poem 72 = .ok (.ireturn, 1) := by decide +kernel
theorem dX7_judged_0 : decode cX7_judged 0 = .ok (.iconst 0, 1) := by decide +kernel
theorem dX7_judged_1 : decode cX7_judged 1 = .ok (.istore_n 1, 1) := by decide +kernel
theorem dX7_judged_2 : decode cX7_judged 2 = .ok (.iload_n 1, 1) := by decide +kernel
theorem dX7_judged_3 : decode cX7_judged 3 = .ok (.aload_n 0, 1) := by decide +kernel
theorem dX7_judged_4 : decode cX7_judged 4 = .ok (.getfield 18, 3) := by decide +kernel
theorem dX7_judged_7 : decode cX7_judged 7 = .ok (.getfield 92, 3) := by decide +kernel
theorem dX7_judged_10 : decode cX7_judged 10 = .ok (.if_icmp .ge 35, 3) := by decide +kernel
theorem dX7_judged_13 : decode cX7_judged 13 = .ok (.aload_n 0, 1) := by decide +kernel
theorem dX7_judged_14 : decode cX7_judged 14 = .ok (.getfield 28, 3) := by decide +kernel
theorem dX7_judged_17 : decode cX7_judged 17 = .ok (.iload_n 1, 1) := by decide +kernel
theorem dX7_judged_18 : decode cX7_judged 18 = .ok (.invokevirtual 110, 3) := by decide +kernel
theorem dX7_judged_21 : decode cX7_judged 21 = .ok (.astore_n 2, 1) := by decide +kernel
theorem dX7_judged_22 : decode cX7_judged 22 = .ok (.aload_n 2, 1) := by decide +kernel
theorem dX7_judged_23 : decode cX7_judged 23 = .ok (.getfield 138, 3) := by decide +kernel
theorem dX7_judged_26 : decode cX7_judged 26 = .ok (.iconst (-1), 1) := by decide +kernel
theorem dX7_judged_27 : decode cX7_judged 27 = .ok (.if_icmp .eq 10, 3) := by decide +kernel
theorem dX7_judged_30 : decode cX7_judged 30 = .ok (.aload_n 2, 1) := by decide +kernel
theorem dX7_judged_31 : decode cX7_judged 31 = .ok (.getfield 141, 3) := by decide +kernel
theorem dX7_judged_34 : decode cX7_judged 34 = .ok (.ifCond .le 5, 3) := by decide +kernel
theorem dX7_judged_37 : decode cX7_judged 37 = .ok (.iload_n 1, 1) := by decide +kernel
theorem dX7_judged_38 : decode cX7_judged 38 = .ok (.ireturn, 1) := by decide +kernel
theorem dX7_judged_39 : decode cX7_judged 39 = .ok (.iinc 1 1, 3) := by decide +kernel
theorem dX7_judged_42 : decode cX7_judged 42 = .ok (.goto (-40), 3) := by decide +kernel
theorem dX7_judged_45 : decode cX7_judged 45 = .ok (.iconst (-1), 1) := by decide +kernel
theorem dX7_judged_46 : decode cX7_judged 46 = .ok (.ireturn, 1) := by decide +kernel
theorem dX7_rest_0 : decode cX7_rest 0 = .ok (.aload_n 0, 1) := by decide +kernel
theorem dX7_rest_1 : decode cX7_rest 1 = .ok (.iload_n 1, 1) := by decide +kernel
theorem dX7_rest_2 : decode cX7_rest 2 = .ok (.invokevirtual 107, 3) := by decide +kernel
theorem dX7_rest_5 : decode cX7_rest 5 = .ok (.ifCond .ne 6, 3) := by decide +kernel
theorem dX7_rest_8 : decode cX7_rest 8 = .ok (.bipush (-2), 2) := by decide +kernel
theorem dX7_rest_10 : decode cX7_rest 10 = .ok (.ireturn, 1) := by decide +kernel
theorem dX7_rest_11 : decode cX7_rest 11 = .ok (.aload_n 0, 1) := by decide +kernel
theorem dX7_rest_12 : decode cX7_rest 12 = .ok (.getfield 28, 3) := by decide +kernel
theorem dX7_rest_15 : decode cX7_rest 15 = .ok (.iload_n 1, 1) := by decide +kernel
theorem dX7_rest_16 : decode cX7_rest 16 = .ok (.invokevirtual 110, 3) := by decide +kernel
theorem dX7_rest_19 : decode cX7_rest 19 = .ok (.astore_n 2, 1) := by decide +kernel
theorem dX7_rest_20 : decode cX7_rest 20 = .ok (.aload_n 2, 1) := by decide +kernel
theorem dX7_rest_21 : decode cX7_rest 21 = .ok (.getfield 129, 3) := by decide +kernel
theorem dX7_rest_24 : decode cX7_rest 24 = .ok (.iconst (-1), 1) := by decide +kernel
theorem dX7_rest_25 : decode cX7_rest 25 = .ok (.if_icmp .ne 8, 3) := by decide +kernel
theorem dX7_rest_28 : decode cX7_rest 28 = .ok (.bipush (-3), 2) := by decide +kernel
theorem dX7_rest_30 : decode cX7_rest 30 = .ok (.goto 7, 3) := by decide +kernel
theorem dX7_rest_33 : decode cX7_rest 33 = .ok (.aload_n 2, 1) := by decide +kernel
theorem dX7_rest_34 : decode cX7_rest 34 = .ok (.getfield 161, 3) := by decide +kernel
theorem dX7_rest_37 : decode cX7_rest 37 = .ok (.ireturn, 1) := by decide +kernel
theorem dX7_doing_0 : decode cX7_doing 0 = .ok (.iload_n 1, 1) := by decide +kernel
theorem dX7_doing_1 : decode cX7_doing 1 = .ok (.ifCond .lt 10, 3) := by decide +kernel
theorem dX7_doing_4 : decode cX7_doing 4 = .ok (.iload_n 1, 1) := by decide +kernel
theorem dX7_doing_5 : decode cX7_doing 5 = .ok (.sipush 299, 3) := by decide +kernel
theorem dX7_doing_8 : decode cX7_doing 8 = .ok (.if_icmp .le 6, 3) := by decide +kernel
theorem dX7_doing_11 : decode cX7_doing 11 = .ok (.bipush (-2), 2) := by decide +kernel
theorem dX7_doing_13 : decode cX7_doing 13 = .ok (.ireturn, 1) := by decide +kernel
theorem dX7_doing_14 : decode cX7_doing 14 = .ok (.iload_n 2, 1) := by decide +kernel
theorem dX7_doing_15 : decode cX7_doing 15 = .ok (.tableswitch 52 0 2 #[25, 34, 43], 25) := by decide +kernel
theorem dX7_doing_40 : decode cX7_doing 40 = .ok (.aload_n 0, 1) := by decide +kernel
theorem dX7_doing_41 : decode cX7_doing 41 = .ok (.getfield 28, 3) := by decide +kernel
theorem dX7_doing_44 : decode cX7_doing 44 = .ok (.iload_n 1, 1) := by decide +kernel
theorem dX7_doing_45 : decode cX7_doing 45 = .ok (.invokevirtual 164, 3) := by decide +kernel
theorem dX7_doing_48 : decode cX7_doing 48 = .ok (.ireturn, 1) := by decide +kernel
theorem dX7_doing_49 : decode cX7_doing 49 = .ok (.aload_n 0, 1) := by decide +kernel
theorem dX7_doing_50 : decode cX7_doing 50 = .ok (.getfield 28, 3) := by decide +kernel
theorem dX7_doing_53 : decode cX7_doing 53 = .ok (.iload_n 1, 1) := by decide +kernel
theorem dX7_doing_54 : decode cX7_doing 54 = .ok (.invokevirtual 168, 3) := by decide +kernel
theorem dX7_doing_57 : decode cX7_doing 57 = .ok (.ireturn, 1) := by decide +kernel
theorem dX7_doing_58 : decode cX7_doing 58 = .ok (.aload_n 0, 1) := by decide +kernel
theorem dX7_doing_59 : decode cX7_doing 59 = .ok (.getfield 28, 3) := by decide +kernel
theorem dX7_doing_62 : decode cX7_doing 62 = .ok (.iload_n 1, 1) := by decide +kernel
theorem dX7_doing_63 : decode cX7_doing 63 = .ok (.invokevirtual 171, 3) := by decide +kernel
theorem dX7_doing_66 : decode cX7_doing 66 = .ok (.ireturn, 1) := by decide +kernel
theorem dX7_doing_67 : decode cX7_doing 67 = .ok (.bipush (-2), 2) := by decide +kernel
theorem dX7_doing_69 : decode cX7_doing 69 = .ok (.ireturn, 1) := by decide +kernel
theorem dX7_put_0 : decode cX7_put 0 = .ok (.iload_n 1, 1) := by decide +kernel
theorem dX7_put_1 : decode cX7_put 1 = .ok (.ifCond .lt 9, 3) := by decide +kernel
theorem dX7_put_4 : decode cX7_put 4 = .ok (.iload_n 1, 1) := by decide +kernel
theorem dX7_put_5 : decode cX7_put 5 = .ok (.bipush 6, 2) := by decide +kernel
theorem dX7_put_7 : decode cX7_put 7 = .ok (.if_icmp .lt 6, 3) := by decide +kernel
theorem dX7_put_10 : decode cX7_put 10 = .ok (.bipush (-2), 2) := by decide +kernel
theorem dX7_put_12 : decode cX7_put 12 = .ok (.ireturn, 1) := by decide +kernel
theorem dX7_put_13 : decode cX7_put 13 = .ok (.aload_n 0, 1) := by decide +kernel
theorem dX7_put_14 : decode cX7_put 14 = .ok (.getfield 174, 3) := by decide +kernel
theorem dX7_put_17 : decode cX7_put 17 = .ok (.ifCond .ne 15, 3) := by decide +kernel
theorem dX7_put_20 : decode cX7_put 20 = .ok (.aload_n 0, 1) := by decide +kernel
theorem dX7_put_21 : decode cX7_put 21 = .ok (.getfield 40, 3) := by decide +kernel
theorem dX7_put_24 : decode cX7_put 24 = .ok (.invokevirtual 178, 3) := by decide +kernel
theorem dX7_put_27 : decode cX7_put 27 = .ok (.aload_n 0, 1) := by decide +kernel
theorem dX7_put_28 : decode cX7_put 28 = .ok (.iconst 1, 1) := by decide +kernel
theorem dX7_put_29 : decode cX7_put 29 = .ok (.putfield 174, 3) := by decide +kernel
theorem dX7_put_32 : decode cX7_put 32 = .ok (.aload_n 0, 1) := by decide +kernel
theorem dX7_put_33 : decode cX7_put 33 = .ok (.getfield 40, 3) := by decide +kernel
theorem dX7_put_36 : decode cX7_put 36 = .ok (.getfield 181, 3) := by decide +kernel
theorem dX7_put_39 : decode cX7_put 39 = .ok (.iload_n 1, 1) := by decide +kernel
theorem dX7_put_40 : decode cX7_put 40 = .ok (.iaload, 1) := by decide +kernel
theorem dX7_put_41 : decode cX7_put 41 = .ok (.ireturn, 1) := by decide +kernel
theorem dX7_order_0 : decode cX7_order 0 = .ok (.iload_n 1, 1) := by decide +kernel
theorem dX7_order_1 : decode cX7_order 1 = .ok (.bipush (-2), 2) := by decide +kernel
theorem dX7_order_3 : decode cX7_order 3 = .ok (.if_icmp .lt 9, 3) := by decide +kernel
theorem dX7_order_6 : decode cX7_order 6 = .ok (.iload_n 1, 1) := by decide +kernel
theorem dX7_order_7 : decode cX7_order 7 = .ok (.bipush 7, 2) := by decide +kernel
theorem dX7_order_9 : decode cX7_order 9 = .ok (.if_icmp .lt 6, 3) := by decide +kernel
theorem dX7_order_12 : decode cX7_order 12 = .ok (.bipush (-2), 2) := by decide +kernel
theorem dX7_order_14 : decode cX7_order 14 = .ok (.ireturn, 1) := by decide +kernel
theorem dX7_order_15 : decode cX7_order 15 = .ok (.aload_n 0, 1) := by decide +kernel
theorem dX7_order_16 : decode cX7_order 16 = .ok (.getfield 184, 3) := by decide +kernel
theorem dX7_order_19 : decode cX7_order 19 = .ok (.ifCond .ne 15, 3) := by decide +kernel
theorem dX7_order_22 : decode cX7_order 22 = .ok (.aload_n 0, 1) := by decide +kernel
theorem dX7_order_23 : decode cX7_order 23 = .ok (.getfield 49, 3) := by decide +kernel
theorem dX7_order_26 : decode cX7_order 26 = .ok (.invokevirtual 187, 3) := by decide +kernel
theorem dX7_order_29 : decode cX7_order 29 = .ok (.aload_n 0, 1) := by decide +kernel
theorem dX7_order_30 : decode cX7_order 30 = .ok (.iconst 1, 1) := by decide +kernel
theorem dX7_order_31 : decode cX7_order 31 = .ok (.putfield 184, 3) := by decide +kernel
theorem dX7_order_34 : decode cX7_order 34 = .ok (.iload_n 1, 1) := by decide +kernel
theorem dX7_order_35 : decode cX7_order 35 = .ok (.bipush (-2), 2) := by decide +kernel
theorem dX7_order_37 : decode cX7_order 37 = .ok (.if_icmp .ne 11, 3) := by decide +kernel
theorem dX7_order_40 : decode cX7_order 40 = .ok (.aload_n 0, 1) := by decide +kernel
theorem dX7_order_41 : decode cX7_order 41 = .ok (.getfield 49, 3) := by decide +kernel
theorem dX7_order_44 : decode cX7_order 44 = .ok (.getfield 188, 3) := by decide +kernel
theorem dX7_order_47 : decode cX7_order 47 = .ok (.ireturn, 1) := by decide +kernel
theorem dX7_order_48 : decode cX7_order 48 = .ok (.iload_n 1, 1) := by decide +kernel
theorem dX7_order_49 : decode cX7_order 49 = .ok (.iconst (-1), 1) := by decide +kernel
theorem dX7_order_50 : decode cX7_order 50 = .ok (.if_icmp .ne 13, 3) := by decide +kernel
theorem dX7_order_53 : decode cX7_order 53 = .ok (.aload_n 0, 1) := by decide +kernel
theorem dX7_order_54 : decode cX7_order 54 = .ok (.getfield 49, 3) := by decide +kernel
theorem dX7_order_57 : decode cX7_order 57 = .ok (.getfield 191, 3) := by decide +kernel
theorem dX7_order_60 : decode cX7_order 60 = .ok (.goto 12, 3) := by decide +kernel
theorem dX7_order_63 : decode cX7_order 63 = .ok (.aload_n 0, 1) := by decide +kernel
theorem dX7_order_64 : decode cX7_order 64 = .ok (.getfield 49, 3) := by decide +kernel
theorem dX7_order_67 : decode cX7_order 67 = .ok (.getfield 194, 3) := by decide +kernel
theorem dX7_order_70 : decode cX7_order 70 = .ok (.iload_n 1, 1) := by decide +kernel
theorem dX7_order_71 : decode cX7_order 71 = .ok (.iaload, 1) := by decide +kernel
theorem dX7_order_72 : decode cX7_order 72 = .ok (.ireturn, 1) := by decide +kernel
theorem dX7_lead_0 : decode cX7_lead 0 = .ok (.iconst 0, 1) := by decide +kernel
theorem dX7_lead_1 : decode cX7_lead 1 = .ok (.istore_n 1, 1) := by decide +kernel
theorem dX7_lead_2 : decode cX7_lead 2 = .ok (.iload_n 1, 1) := by decide +kernel
theorem dX7_lead_3 : decode cX7_lead 3 = .ok (.bipush 99, 2) := by decide +kernel
theorem dX7_lead_5 : decode cX7_lead 5 = .ok (.if_icmp .gt 51, 3) := by decide +kernel
theorem dX7_lead_8 : decode cX7_lead 8 = .ok (.aload_n 0, 1) := by decide +kernel
theorem dX7_lead_9 : decode cX7_lead 9 = .ok (.getfield 32, 3) := by decide +kernel
theorem dX7_lead_12 : decode cX7_lead 12 = .ok (.aload_n 0, 1) := by decide +kernel
theorem dX7_lead_13 : decode cX7_lead 13 = .ok (.getfield 7, 3) := by decide +kernel
theorem dX7_lead_16 : decode cX7_lead 16 = .ok (.invokevirtual 195, 3) := by decide +kernel
theorem dX7_lead_19 : decode cX7_lead 19 = .ok (.aload_n 0, 1) := by decide +kernel
theorem dX7_lead_20 : decode cX7_lead 20 = .ok (.getfield 32, 3) := by decide +kernel
theorem dX7_lead_23 : decode cX7_lead 23 = .ok (.iload_n 1, 1) := by decide +kernel
theorem dX7_lead_24 : decode cX7_lead 24 = .ok (.invokevirtual 199, 3) := by decide +kernel
theorem dX7_lead_27 : decode cX7_lead 27 = .ok (.aload_n 0, 1) := by decide +kernel
theorem dX7_lead_28 : decode cX7_lead 28 = .ok (.getfield 32, 3) := by decide +kernel
theorem dX7_lead_31 : decode cX7_lead 31 = .ok (.aload_n 0, 1) := by decide +kernel
theorem dX7_lead_32 : decode cX7_lead 32 = .ok (.getfield 18, 3) := by decide +kernel
theorem dX7_lead_35 : decode cX7_lead 35 = .ok (.invokevirtual 202, 3) := by decide +kernel
theorem dX7_lead_38 : decode cX7_lead 38 = .ok (.aload_n 0, 1) := by decide +kernel
theorem dX7_lead_39 : decode cX7_lead 39 = .ok (.getfield 32, 3) := by decide +kernel
theorem dX7_lead_42 : decode cX7_lead 42 = .ok (.invokevirtual 206, 3) := by decide +kernel
theorem dX7_lead_45 : decode cX7_lead 45 = .ok (.ifCond .eq 5, 3) := by decide +kernel
theorem dX7_lead_48 : decode cX7_lead 48 = .ok (.iload_n 1, 1) := by decide +kernel
theorem dX7_lead_49 : decode cX7_lead 49 = .ok (.ireturn, 1) := by decide +kernel
theorem dX7_lead_50 : decode cX7_lead 50 = .ok (.iinc 1 1, 3) := by decide +kernel
theorem dX7_lead_53 : decode cX7_lead 53 = .ok (.goto (-51), 3) := by decide +kernel
theorem dX7_lead_56 : decode cX7_lead 56 = .ok (.iconst (-1), 1) := by decide +kernel
theorem dX7_lead_57 : decode cX7_lead 57 = .ok (.ireturn, 1) := by decide +kernel
theorem dX7_odds_0 : decode cX7_odds 0 = .ok (.iload_n 1, 1) := by decide +kernel
theorem dX7_odds_1 : decode cX7_odds 1 = .ok (.ifCond .lt 8, 3) := by decide +kernel
theorem dX7_odds_4 : decode cX7_odds 4 = .ok (.iload_n 1, 1) := by decide +kernel
theorem dX7_odds_5 : decode cX7_odds 5 = .ok (.iconst 3, 1) := by decide +kernel
theorem dX7_odds_6 : decode cX7_odds 6 = .ok (.if_icmp .le 7, 3) := by decide +kernel
theorem dX7_odds_9 : decode cX7_odds 9 = .ok (.ldc2_w 209, 3) := by decide +kernel
theorem dX7_odds_12 : decode cX7_odds 12 = .ok (.lreturn, 1) := by decide +kernel
theorem dX7_odds_13 : decode cX7_odds 13 = .ok (.lconst 1, 1) := by decide +kernel
theorem dX7_odds_14 : decode cX7_odds 14 = .ok (.lstore_n 2, 1) := by decide +kernel
theorem dX7_odds_15 : decode cX7_odds 15 = .ok (.lconst 0, 1) := by decide +kernel
theorem dX7_odds_16 : decode cX7_odds 16 = .ok (.lstore 4, 2) := by decide +kernel
theorem dX7_odds_18 : decode cX7_odds 18 = .ok (.lconst 1, 1) := by decide +kernel
theorem dX7_odds_19 : decode cX7_odds 19 = .ok (.lstore 6, 2) := by decide +kernel
theorem dX7_odds_21 : decode cX7_odds 21 = .ok (.iconst 0, 1) := by decide +kernel
theorem dX7_odds_22 : decode cX7_odds 22 = .ok (.istore 8, 2) := by decide +kernel
theorem dX7_odds_24 : decode cX7_odds 24 = .ok (.iload 8, 2) := by decide +kernel
theorem dX7_odds_26 : decode cX7_odds 26 = .ok (.aload_n 0, 1) := by decide +kernel
theorem dX7_odds_27 : decode cX7_odds 27 = .ok (.getfield 18, 3) := by decide +kernel
theorem dX7_odds_30 : decode cX7_odds 30 = .ok (.getfield 92, 3) := by decide +kernel
theorem dX7_odds_33 : decode cX7_odds 33 = .ok (.if_icmp .ge 40, 3) := by decide +kernel
theorem dX7_odds_36 : decode cX7_odds 36 = .ok (.lload_n 2, 1) := by decide +kernel
theorem dX7_odds_37 : decode cX7_odds 37 = .ok (.bipush 16, 2) := by decide +kernel
theorem dX7_odds_39 : decode cX7_odds 39 = .ok (.aload_n 0, 1) := by decide +kernel
theorem dX7_odds_40 : decode cX7_odds 40 = .ok (.iload 8, 2) := by decide +kernel
theorem dX7_odds_42 : decode cX7_odds 42 = .ok (.invokevirtual 211, 3) := by decide +kernel
theorem dX7_odds_45 : decode cX7_odds 45 = .ok (.isub, 1) := by decide +kernel
theorem dX7_odds_46 : decode cX7_odds 46 = .ok (.i2l, 1) := by decide +kernel
theorem dX7_odds_47 : decode cX7_odds 47 = .ok (.lmul, 1) := by decide +kernel
theorem dX7_odds_48 : decode cX7_odds 48 = .ok (.lstore_n 2, 1) := by decide +kernel
theorem dX7_odds_49 : decode cX7_odds 49 = .ok (.lload 6, 2) := by decide +kernel
theorem dX7_odds_51 : decode cX7_odds 51 = .ok (.ldc2_w 214, 3) := by decide +kernel
theorem dX7_odds_54 : decode cX7_odds 54 = .ok (.lmul, 1) := by decide +kernel
theorem dX7_odds_55 : decode cX7_odds 55 = .ok (.lstore 6, 2) := by decide +kernel
theorem dX7_odds_57 : decode cX7_odds 57 = .ok (.lload 4, 2) := by decide +kernel
theorem dX7_odds_59 : decode cX7_odds 59 = .ok (.ldc2_w 214, 3) := by decide +kernel
theorem dX7_odds_62 : decode cX7_odds 62 = .ok (.lmul, 1) := by decide +kernel
theorem dX7_odds_63 : decode cX7_odds 63 = .ok (.lload_n 2, 1) := by decide +kernel
theorem dX7_odds_64 : decode cX7_odds 64 = .ok (.ladd, 1) := by decide +kernel
theorem dX7_odds_65 : decode cX7_odds 65 = .ok (.lstore 4, 2) := by decide +kernel
theorem dX7_odds_67 : decode cX7_odds 67 = .ok (.iinc 8 1, 3) := by decide +kernel
theorem dX7_odds_70 : decode cX7_odds 70 = .ok (.goto (-46), 3) := by decide +kernel
theorem dX7_odds_73 : decode cX7_odds 73 = .ok (.iload_n 1, 1) := by decide +kernel
theorem dX7_odds_74 : decode cX7_odds 74 = .ok (.iconst 2, 1) := by decide +kernel
theorem dX7_odds_75 : decode cX7_odds 75 = .ok (.if_icmp .ge 7, 3) := by decide +kernel
theorem dX7_odds_78 : decode cX7_odds 78 = .ok (.lload_n 2, 1) := by decide +kernel
theorem dX7_odds_79 : decode cX7_odds 79 = .ok (.goto 5, 3) := by decide +kernel
theorem dX7_odds_82 : decode cX7_odds 82 = .ok (.lload 4, 2) := by decide +kernel
theorem dX7_odds_84 : decode cX7_odds 84 = .ok (.lstore 8, 2) := by decide +kernel
theorem dX7_odds_86 : decode cX7_odds 86 = .ok (.iconst 0, 1) := by decide +kernel
theorem dX7_odds_87 : decode cX7_odds 87 = .ok (.istore 10, 2) := by decide +kernel
theorem dX7_odds_89 : decode cX7_odds 89 = .ok (.iload 10, 2) := by decide +kernel
theorem dX7_odds_91 : decode cX7_odds 91 = .ok (.bipush 64, 2) := by decide +kernel
theorem dX7_odds_93 : decode cX7_odds 93 = .ok (.if_icmp .ge 47, 3) := by decide +kernel
theorem dX7_odds_96 : decode cX7_odds 96 = .ok (.lload 8, 2) := by decide +kernel
theorem dX7_odds_98 : decode cX7_odds 98 = .ok (.ldc2_w 216, 3) := by decide +kernel
theorem dX7_odds_101 : decode cX7_odds 101 = .ok (.lrem, 1) := by decide +kernel
theorem dX7_odds_102 : decode cX7_odds 102 = .ok (.lconst 0, 1) := by decide +kernel
theorem dX7_odds_103 : decode cX7_odds 103 = .ok (.lcmp, 1) := by decide +kernel
theorem dX7_odds_104 : decode cX7_odds 104 = .ok (.ifCond .ne 36, 3) := by decide +kernel
theorem dX7_odds_107 : decode cX7_odds 107 = .ok (.lload 6, 2) := by decide +kernel
theorem dX7_odds_109 : decode cX7_odds 109 = .ok (.ldc2_w 216, 3) := by decide +kernel
theorem dX7_odds_112 : decode cX7_odds 112 = .ok (.lrem, 1) := by decide +kernel
theorem dX7_odds_113 : decode cX7_odds 113 = .ok (.lconst 0, 1) := by decide +kernel
theorem dX7_odds_114 : decode cX7_odds 114 = .ok (.lcmp, 1) := by decide +kernel
theorem dX7_odds_115 : decode cX7_odds 115 = .ok (.ifCond .ne 25, 3) := by decide +kernel
theorem dX7_odds_118 : decode cX7_odds 118 = .ok (.lload 8, 2) := by decide +kernel
theorem dX7_odds_120 : decode cX7_odds 120 = .ok (.ldc2_w 216, 3) := by decide +kernel
theorem dX7_odds_123 : decode cX7_odds 123 = .ok (.ldiv, 1) := by decide +kernel
theorem dX7_odds_124 : decode cX7_odds 124 = .ok (.lstore 8, 2) := by decide +kernel
theorem dX7_odds_126 : decode cX7_odds 126 = .ok (.lload 6, 2) := by decide +kernel
theorem dX7_odds_128 : decode cX7_odds 128 = .ok (.ldc2_w 216, 3) := by decide +kernel
theorem dX7_odds_131 : decode cX7_odds 131 = .ok (.ldiv, 1) := by decide +kernel
theorem dX7_odds_132 : decode cX7_odds 132 = .ok (.lstore 6, 2) := by decide +kernel
theorem dX7_odds_134 : decode cX7_odds 134 = .ok (.iinc 10 1, 3) := by decide +kernel
theorem dX7_odds_137 : decode cX7_odds 137 = .ok (.goto (-48), 3) := by decide +kernel
theorem dX7_odds_140 : decode cX7_odds 140 = .ok (.iload_n 1, 1) := by decide +kernel
theorem dX7_odds_141 : decode cX7_odds 141 = .ok (.iconst 2, 1) := by decide +kernel
theorem dX7_odds_142 : decode cX7_odds 142 = .ok (.irem, 1) := by decide +kernel
theorem dX7_odds_143 : decode cX7_odds 143 = .ok (.ifCond .ne 8, 3) := by decide +kernel
theorem dX7_odds_146 : decode cX7_odds 146 = .ok (.lload 8, 2) := by decide +kernel
theorem dX7_odds_148 : decode cX7_odds 148 = .ok (.goto 5, 3) := by decide +kernel
theorem dX7_odds_151 : decode cX7_odds 151 = .ok (.lload 6, 2) := by decide +kernel
theorem dX7_odds_153 : decode cX7_odds 153 = .ok (.lreturn, 1) := by decide +kernel
theorem dX7_drawn_0 : decode cX7_drawn 0 = .ok (.iload_n 1, 1) := by decide +kernel
theorem dX7_drawn_1 : decode cX7_drawn 1 = .ok (.istore_n 2, 1) := by decide +kernel
theorem dX7_drawn_2 : decode cX7_drawn 2 = .ok (.iconst 0, 1) := by decide +kernel
theorem dX7_drawn_3 : decode cX7_drawn 3 = .ok (.istore_n 3, 1) := by decide +kernel
theorem dX7_drawn_4 : decode cX7_drawn 4 = .ok (.iload_n 3, 1) := by decide +kernel
theorem dX7_drawn_5 : decode cX7_drawn 5 = .ok (.aload_n 0, 1) := by decide +kernel
theorem dX7_drawn_6 : decode cX7_drawn 6 = .ok (.getfield 18, 3) := by decide +kernel
theorem dX7_drawn_9 : decode cX7_drawn 9 = .ok (.getfield 92, 3) := by decide +kernel
theorem dX7_drawn_12 : decode cX7_drawn 12 = .ok (.if_icmp .ge 44, 3) := by decide +kernel
theorem dX7_drawn_15 : decode cX7_drawn 15 = .ok (.aload_n 0, 1) := by decide +kernel
theorem dX7_drawn_16 : decode cX7_drawn 16 = .ok (.iload_n 3, 1) := by decide +kernel
theorem dX7_drawn_17 : decode cX7_drawn 17 = .ok (.invokevirtual 211, 3) := by decide +kernel
theorem dX7_drawn_20 : decode cX7_drawn 20 = .ok (.istore 4, 2) := by decide +kernel
theorem dX7_drawn_22 : decode cX7_drawn 22 = .ok (.iload 4, 2) := by decide +kernel
theorem dX7_drawn_24 : decode cX7_drawn 24 = .ok (.ifCond .le 26, 3) := by decide +kernel
theorem dX7_drawn_27 : decode cX7_drawn 27 = .ok (.ldc 218, 2) := by decide +kernel
theorem dX7_drawn_29 : decode cX7_drawn 29 = .ok (.iload_n 2, 1) := by decide +kernel
theorem dX7_drawn_30 : decode cX7_drawn 30 = .ok (.imul, 1) := by decide +kernel
theorem dX7_drawn_31 : decode cX7_drawn 31 = .ok (.sipush 12345, 3) := by decide +kernel
theorem dX7_drawn_34 : decode cX7_drawn 34 = .ok (.iadd, 1) := by decide +kernel
theorem dX7_drawn_35 : decode cX7_drawn 35 = .ok (.istore_n 2, 1) := by decide +kernel
theorem dX7_drawn_36 : decode cX7_drawn 36 = .ok (.iload_n 2, 1) := by decide +kernel
theorem dX7_drawn_37 : decode cX7_drawn 37 = .ok (.bipush 16, 2) := by decide +kernel
theorem dX7_drawn_39 : decode cX7_drawn 39 = .ok (.iushr, 1) := by decide +kernel
theorem dX7_drawn_40 : decode cX7_drawn 40 = .ok (.bipush 16, 2) := by decide +kernel
theorem dX7_drawn_42 : decode cX7_drawn 42 = .ok (.irem, 1) := by decide +kernel
theorem dX7_drawn_43 : decode cX7_drawn 43 = .ok (.iload 4, 2) := by decide +kernel
theorem dX7_drawn_45 : decode cX7_drawn 45 = .ok (.if_icmp .ge 5, 3) := by decide +kernel
theorem dX7_drawn_48 : decode cX7_drawn 48 = .ok (.iload_n 3, 1) := by decide +kernel
theorem dX7_drawn_49 : decode cX7_drawn 49 = .ok (.ireturn, 1) := by decide +kernel
theorem dX7_drawn_50 : decode cX7_drawn 50 = .ok (.iinc 3 1, 3) := by decide +kernel
theorem dX7_drawn_53 : decode cX7_drawn 53 = .ok (.goto (-49), 3) := by decide +kernel
theorem dX7_drawn_56 : decode cX7_drawn 56 = .ok (.aload_n 0, 1) := by decide +kernel
theorem dX7_drawn_57 : decode cX7_drawn 57 = .ok (.getfield 18, 3) := by decide +kernel
theorem dX7_drawn_60 : decode cX7_drawn 60 = .ok (.getfield 92, 3) := by decide +kernel
theorem dX7_drawn_63 : decode cX7_drawn 63 = .ok (.ireturn, 1) := by decide +kernel
theorem dX7_line_0 : decode cX7_line 0 = .ok (.iload_n 1, 1) := by decide +kernel
theorem dX7_line_1 : decode cX7_line 1 = .ok (.iconst (-1), 1) := by decide +kernel
theorem dX7_line_2 : decode cX7_line 2 = .ok (.if_icmp .lt 18, 3) := by decide +kernel
theorem dX7_line_5 : decode cX7_line 5 = .ok (.iload_n 1, 1) := by decide +kernel
theorem dX7_line_6 : decode cX7_line 6 = .ok (.bipush 10, 2) := by decide +kernel
theorem dX7_line_8 : decode cX7_line 8 = .ok (.if_icmp .gt 12, 3) := by decide +kernel
theorem dX7_line_11 : decode cX7_line 11 = .ok (.iload_n 2, 1) := by decide +kernel
theorem dX7_line_12 : decode cX7_line 12 = .ok (.ifCond .lt 8, 3) := by decide +kernel
theorem dX7_line_15 : decode cX7_line 15 = .ok (.iload_n 2, 1) := by decide +kernel
theorem dX7_line_16 : decode cX7_line 16 = .ok (.iconst 1, 1) := by decide +kernel
theorem dX7_line_17 : decode cX7_line 17 = .ok (.if_icmp .le 6, 3) := by decide +kernel
theorem dX7_line_20 : decode cX7_line 20 = .ok (.bipush (-2), 2) := by decide +kernel
theorem dX7_line_22 : decode cX7_line 22 = .ok (.ireturn, 1) := by decide +kernel
theorem dX7_line_23 : decode cX7_line 23 = .ok (.iload_n 1, 1) := by decide +kernel
theorem dX7_line_24 : decode cX7_line 24 = .ok (.iconst (-1), 1) := by decide +kernel
theorem dX7_line_25 : decode cX7_line 25 = .ok (.if_icmp .eq 10, 3) := by decide +kernel
theorem dX7_line_28 : decode cX7_line 28 = .ok (.aload_n 0, 1) := by decide +kernel
theorem dX7_line_29 : decode cX7_line 29 = .ok (.iload_n 1, 1) := by decide +kernel
theorem dX7_line_30 : decode cX7_line 30 = .ok (.iload_n 2, 1) := by decide +kernel
theorem dX7_line_31 : decode cX7_line 31 = .ok (.invokevirtual 219, 3) := by decide +kernel
theorem dX7_line_34 : decode cX7_line 34 = .ok (.ireturn, 1) := by decide +kernel
theorem dX7_line_35 : decode cX7_line 35 = .ok (.aload_n 0, 1) := by decide +kernel
theorem dX7_line_36 : decode cX7_line 36 = .ok (.invokevirtual 222, 3) := by decide +kernel
theorem dX7_line_39 : decode cX7_line 39 = .ok (.istore_n 3, 1) := by decide +kernel
theorem dX7_line_40 : decode cX7_line 40 = .ok (.iload_n 2, 1) := by decide +kernel
theorem dX7_line_41 : decode cX7_line 41 = .ok (.ifCond .ne 7, 3) := by decide +kernel
theorem dX7_line_44 : decode cX7_line 44 = .ok (.iload_n 3, 1) := by decide +kernel
theorem dX7_line_45 : decode cX7_line 45 = .ok (.goto 16, 3) := by decide +kernel
theorem dX7_line_48 : decode cX7_line 48 = .ok (.aload_n 0, 1) := by decide +kernel
theorem dX7_line_49 : decode cX7_line 49 = .ok (.iload_n 3, 1) := by decide +kernel
theorem dX7_line_50 : decode cX7_line 50 = .ok (.iconst 0, 1) := by decide +kernel
theorem dX7_line_51 : decode cX7_line 51 = .ok (.invokevirtual 219, 3) := by decide +kernel
theorem dX7_line_54 : decode cX7_line 54 = .ok (.aload_n 0, 1) := by decide +kernel
theorem dX7_line_55 : decode cX7_line 55 = .ok (.iload_n 3, 1) := by decide +kernel
theorem dX7_line_56 : decode cX7_line 56 = .ok (.iconst 1, 1) := by decide +kernel
theorem dX7_line_57 : decode cX7_line 57 = .ok (.invokevirtual 219, 3) := by decide +kernel
theorem dX7_line_60 : decode cX7_line 60 = .ok (.iadd, 1) := by decide +kernel
theorem dX7_line_61 : decode cX7_line 61 = .ok (.ireturn, 1) := by decide +kernel
theorem dX7_seen_0 : decode cX7_seen 0 = .ok (.iload_n 1, 1) := by decide +kernel
theorem dX7_seen_1 : decode cX7_seen 1 = .ok (.iload_n 2, 1) := by decide +kernel
theorem dX7_seen_2 : decode cX7_seen 2 = .ok (.invokestatic 225, 3) := by decide +kernel
theorem dX7_seen_5 : decode cX7_seen 5 = .ok (.ifCond .ne 6, 3) := by decide +kernel
theorem dX7_seen_8 : decode cX7_seen 8 = .ok (.bipush (-2), 2) := by decide +kernel
theorem dX7_seen_10 : decode cX7_seen 10 = .ok (.ireturn, 1) := by decide +kernel
theorem dX7_seen_11 : decode cX7_seen 11 = .ok (.aload_n 0, 1) := by decide +kernel
theorem dX7_seen_12 : decode cX7_seen 12 = .ok (.getfield 56, 3) := by decide +kernel
theorem dX7_seen_15 : decode cX7_seen 15 = .ok (.invokevirtual 229, 3) := by decide +kernel
theorem dX7_seen_18 : decode cX7_seen 18 = .ok (.ifCond .eq 6, 3) := by decide +kernel
theorem dX7_seen_21 : decode cX7_seen 21 = .ok (.bipush (-4), 2) := by decide +kernel
theorem dX7_seen_23 : decode cX7_seen 23 = .ok (.ireturn, 1) := by decide +kernel
theorem dX7_seen_24 : decode cX7_seen 24 = .ok (.aload_n 0, 1) := by decide +kernel
theorem dX7_seen_25 : decode cX7_seen 25 = .ok (.getfield 56, 3) := by decide +kernel
theorem dX7_seen_28 : decode cX7_seen 28 = .ok (.iload_n 1, 1) := by decide +kernel
theorem dX7_seen_29 : decode cX7_seen 29 = .ok (.iload_n 2, 1) := by decide +kernel
theorem dX7_seen_30 : decode cX7_seen 30 = .ok (.invokevirtual 230, 3) := by decide +kernel
theorem dX7_seen_33 : decode cX7_seen 33 = .ok (.aload_n 0, 1) := by decide +kernel
theorem dX7_seen_34 : decode cX7_seen 34 = .ok (.getfield 56, 3) := by decide +kernel
theorem dX7_seen_37 : decode cX7_seen 37 = .ok (.getfield 234, 3) := by decide +kernel
theorem dX7_seen_40 : decode cX7_seen 40 = .ok (.ireturn, 1) := by decide +kernel
theorem dX7_forget_0 : decode cX7_forget 0 = .ok (.aload_n 0, 1) := by decide +kernel
theorem dX7_forget_1 : decode cX7_forget 1 = .ok (.getfield 56, 3) := by decide +kernel
theorem dX7_forget_4 : decode cX7_forget 4 = .ok (.getfield 234, 3) := by decide +kernel
theorem dX7_forget_7 : decode cX7_forget 7 = .ok (.istore_n 1, 1) := by decide +kernel
theorem dX7_forget_8 : decode cX7_forget 8 = .ok (.aload_n 0, 1) := by decide +kernel
theorem dX7_forget_9 : decode cX7_forget 9 = .ok (.getfield 56, 3) := by decide +kernel
theorem dX7_forget_12 : decode cX7_forget 12 = .ok (.iconst 0, 1) := by decide +kernel
theorem dX7_forget_13 : decode cX7_forget 13 = .ok (.putfield 234, 3) := by decide +kernel
theorem dX7_forget_16 : decode cX7_forget 16 = .ok (.iload_n 1, 1) := by decide +kernel
theorem dX7_forget_17 : decode cX7_forget 17 = .ok (.ireturn, 1) := by decide +kernel
theorem dX7_leads_0 : decode cX7_leads 0 = .ok (.iconst 0, 1) := by decide +kernel
theorem dX7_leads_1 : decode cX7_leads 1 = .ok (.istore_n 1, 1) := by decide +kernel
theorem dX7_leads_2 : decode cX7_leads 2 = .ok (.iconst 0, 1) := by decide +kernel
theorem dX7_leads_3 : decode cX7_leads 3 = .ok (.istore_n 2, 1) := by decide +kernel
theorem dX7_leads_4 : decode cX7_leads 4 = .ok (.iload_n 2, 1) := by decide +kernel
theorem dX7_leads_5 : decode cX7_leads 5 = .ok (.bipush 30, 2) := by decide +kernel
theorem dX7_leads_7 : decode cX7_leads 7 = .ok (.if_icmp .gt 59, 3) := by decide +kernel
theorem dX7_leads_10 : decode cX7_leads 10 = .ok (.aload_n 0, 1) := by decide +kernel
theorem dX7_leads_11 : decode cX7_leads 11 = .ok (.getfield 32, 3) := by decide +kernel
theorem dX7_leads_14 : decode cX7_leads 14 = .ok (.aload_n 0, 1) := by decide +kernel
theorem dX7_leads_15 : decode cX7_leads 15 = .ok (.getfield 7, 3) := by decide +kernel
theorem dX7_leads_18 : decode cX7_leads 18 = .ok (.invokevirtual 195, 3) := by decide +kernel
theorem dX7_leads_21 : decode cX7_leads 21 = .ok (.aload_n 0, 1) := by decide +kernel
theorem dX7_leads_22 : decode cX7_leads 22 = .ok (.getfield 32, 3) := by decide +kernel
theorem dX7_leads_25 : decode cX7_leads 25 = .ok (.iload_n 2, 1) := by decide +kernel
theorem dX7_leads_26 : decode cX7_leads 26 = .ok (.invokevirtual 199, 3) := by decide +kernel
theorem dX7_leads_29 : decode cX7_leads 29 = .ok (.aload_n 0, 1) := by decide +kernel
theorem dX7_leads_30 : decode cX7_leads 30 = .ok (.getfield 32, 3) := by decide +kernel
theorem dX7_leads_33 : decode cX7_leads 33 = .ok (.aload_n 0, 1) := by decide +kernel
theorem dX7_leads_34 : decode cX7_leads 34 = .ok (.getfield 18, 3) := by decide +kernel
theorem dX7_leads_37 : decode cX7_leads 37 = .ok (.invokevirtual 202, 3) := by decide +kernel
theorem dX7_leads_40 : decode cX7_leads 40 = .ok (.aload_n 0, 1) := by decide +kernel
theorem dX7_leads_41 : decode cX7_leads 41 = .ok (.getfield 56, 3) := by decide +kernel
theorem dX7_leads_44 : decode cX7_leads 44 = .ok (.aload_n 0, 1) := by decide +kernel
theorem dX7_leads_45 : decode cX7_leads 45 = .ok (.getfield 32, 3) := by decide +kernel
theorem dX7_leads_48 : decode cX7_leads 48 = .ok (.invokevirtual 235, 3) := by decide +kernel
theorem dX7_leads_51 : decode cX7_leads 51 = .ok (.ifCond .eq 9, 3) := by decide +kernel
theorem dX7_leads_54 : decode cX7_leads 54 = .ok (.iload_n 1, 1) := by decide +kernel
theorem dX7_leads_55 : decode cX7_leads 55 = .ok (.iconst 1, 1) := by decide +kernel
theorem dX7_leads_56 : decode cX7_leads 56 = .ok (.iload_n 2, 1) := by decide +kernel
theorem dX7_leads_57 : decode cX7_leads 57 = .ok (.ishl, 1) := by decide +kernel
theorem dX7_leads_58 : decode cX7_leads 58 = .ok (.ior, 1) := by decide +kernel
theorem dX7_leads_59 : decode cX7_leads 59 = .ok (.istore_n 1, 1) := by decide +kernel
theorem dX7_leads_60 : decode cX7_leads 60 = .ok (.iinc 2 1, 3) := by decide +kernel
theorem dX7_leads_63 : decode cX7_leads 63 = .ok (.goto (-59), 3) := by decide +kernel
theorem dX7_leads_66 : decode cX7_leads 66 = .ok (.iload_n 1, 1) := by decide +kernel
theorem dX7_leads_67 : decode cX7_leads 67 = .ok (.ireturn, 1) := by decide +kernel
theorem dX7_read_0 : decode cX7_read 0 = .ok (.iload_n 1, 1) := by decide +kernel
theorem dX7_read_1 : decode cX7_read 1 = .ok (.invokestatic 239, 3) := by decide +kernel
theorem dX7_read_4 : decode cX7_read 4 = .ok (.ifCond .ne 6, 3) := by decide +kernel
theorem dX7_read_7 : decode cX7_read 7 = .ok (.bipush (-2), 2) := by decide +kernel
theorem dX7_read_9 : decode cX7_read 9 = .ok (.ireturn, 1) := by decide +kernel
theorem dX7_read_10 : decode cX7_read 10 = .ok (.aload_n 0, 1) := by decide +kernel
theorem dX7_read_11 : decode cX7_read 11 = .ok (.getfield 62, 3) := by decide +kernel
theorem dX7_read_14 : decode cX7_read 14 = .ok (.iload_n 1, 1) := by decide +kernel
theorem dX7_read_15 : decode cX7_read 15 = .ok (.aaload, 1) := by decide +kernel
theorem dX7_read_16 : decode cX7_read 16 = .ok (.astore_n 2, 1) := by decide +kernel
theorem dX7_read_17 : decode cX7_read 17 = .ok (.aload_n 2, 1) := by decide +kernel
theorem dX7_read_18 : decode cX7_read 18 = .ok (.getfield 242, 3) := by decide +kernel
theorem dX7_read_21 : decode cX7_read 21 = .ok (.ifCond .eq 9, 3) := by decide +kernel
theorem dX7_read_24 : decode cX7_read 24 = .ok (.aload_n 0, 1) := by decide +kernel
theorem dX7_read_25 : decode cX7_read 25 = .ok (.iconst 1, 1) := by decide +kernel
theorem dX7_read_26 : decode cX7_read 26 = .ok (.invokevirtual 245, 3) := by decide +kernel
theorem dX7_read_29 : decode cX7_read 29 = .ok (.ireturn, 1) := by decide +kernel
theorem dX7_read_30 : decode cX7_read 30 = .ok (.iconst 0, 1) := by decide +kernel
theorem dX7_read_31 : decode cX7_read 31 = .ok (.istore_n 3, 1) := by decide +kernel
theorem dX7_read_32 : decode cX7_read 32 = .ok (.iconst 0, 1) := by decide +kernel
theorem dX7_read_33 : decode cX7_read 33 = .ok (.istore 4, 2) := by decide +kernel
theorem dX7_read_35 : decode cX7_read 35 = .ok (.iload 4, 2) := by decide +kernel
theorem dX7_read_37 : decode cX7_read 37 = .ok (.iconst 1, 1) := by decide +kernel
theorem dX7_read_38 : decode cX7_read 38 = .ok (.iadd, 1) := by decide +kernel
theorem dX7_read_39 : decode cX7_read 39 = .ok (.aload_n 2, 1) := by decide +kernel
theorem dX7_read_40 : decode cX7_read 40 = .ok (.getfield 248, 3) := by decide +kernel
theorem dX7_read_43 : decode cX7_read 43 = .ok (.if_icmp .ge 64, 3) := by decide +kernel
theorem dX7_read_46 : decode cX7_read 46 = .ok (.aload_n 2, 1) := by decide +kernel
theorem dX7_read_47 : decode cX7_read 47 = .ok (.iload 4, 2) := by decide +kernel
theorem dX7_read_49 : decode cX7_read 49 = .ok (.invokevirtual 249, 3) := by decide +kernel
theorem dX7_read_52 : decode cX7_read 52 = .ok (.istore 5, 2) := by decide +kernel
theorem dX7_read_54 : decode cX7_read 54 = .ok (.aload_n 2, 1) := by decide +kernel
theorem dX7_read_55 : decode cX7_read 55 = .ok (.iload 4, 2) := by decide +kernel
theorem dX7_read_57 : decode cX7_read 57 = .ok (.iconst 1, 1) := by decide +kernel
theorem dX7_read_58 : decode cX7_read 58 = .ok (.iadd, 1) := by decide +kernel
theorem dX7_read_59 : decode cX7_read 59 = .ok (.invokevirtual 249, 3) := by decide +kernel
theorem dX7_read_62 : decode cX7_read 62 = .ok (.istore 6, 2) := by decide +kernel
theorem dX7_read_64 : decode cX7_read 64 = .ok (.iload 5, 2) := by decide +kernel
theorem dX7_read_66 : decode cX7_read 66 = .ok (.iload 6, 2) := by decide +kernel
theorem dX7_read_68 : decode cX7_read 68 = .ok (.invokestatic 225, 3) := by decide +kernel
theorem dX7_read_71 : decode cX7_read 71 = .ok (.ifCond .eq 36, 3) := by decide +kernel
theorem dX7_read_74 : decode cX7_read 74 = .ok (.aload_n 0, 1) := by decide +kernel
theorem dX7_read_75 : decode cX7_read 75 = .ok (.getfield 56, 3) := by decide +kernel
theorem dX7_read_78 : decode cX7_read 78 = .ok (.invokevirtual 229, 3) := by decide +kernel
theorem dX7_read_81 : decode cX7_read 81 = .ok (.ifCond .eq 6, 3) := by decide +kernel
theorem dX7_read_84 : decode cX7_read 84 = .ok (.goto 23, 3) := by decide +kernel
end
section
theorem dX7_read_87 : decode cX7_read 87 = .ok (.aload_n 0, 1) := by decide +kernel
theorem dX7_read_88 : decode cX7_read 88 = .ok (.getfield 56, 3) := by decide +kernel
theorem dX7_read_91 : decode cX7_read 91 = .ok (.iload 5, 2) := by decide +kernel
theorem dX7_read_93 : decode cX7_read 93 = .ok (.iload 6, 2) := by decide +kernel
theorem dX7_read_95 : decode cX7_read 95 = .ok (.invokevirtual 230, 3) := by decide +kernel
theorem dX7_read_98 : decode cX7_read 98 = .ok (.iinc 3 1, 3) := by decide +kernel
theorem dX7_read_101 : decode cX7_read 101 = .ok (.iinc 4 2, 3) := by decide +kernel
theorem dX7_read_104 : decode cX7_read 104 = .ok (.goto (-69), 3) := by decide +kernel
theorem dX7_read_107 : decode cX7_read 107 = .ok (.iload_n 3, 1) := by decide +kernel
theorem dX7_read_108 : decode cX7_read 108 = .ok (.ireturn, 1) := by decide +kernel
theorem dX7_sheet_0 : decode cX7_sheet 0 = .ok (.iload_n 1, 1) := by decide +kernel
theorem dX7_sheet_1 : decode cX7_sheet 1 = .ok (.invokestatic 239, 3) := by decide +kernel
theorem dX7_sheet_4 : decode cX7_sheet 4 = .ok (.ifCond .eq 16, 3) := by decide +kernel
theorem dX7_sheet_7 : decode cX7_sheet 7 = .ok (.iload_n 2, 1) := by decide +kernel
theorem dX7_sheet_8 : decode cX7_sheet 8 = .ok (.invokestatic 252, 3) := by decide +kernel
theorem dX7_sheet_11 : decode cX7_sheet 11 = .ok (.ifCond .eq 9, 3) := by decide +kernel
theorem dX7_sheet_14 : decode cX7_sheet 14 = .ok (.iload_n 3, 1) := by decide +kernel
theorem dX7_sheet_15 : decode cX7_sheet 15 = .ok (.bipush 60, 2) := by decide +kernel
theorem dX7_sheet_17 : decode cX7_sheet 17 = .ok (.if_icmp .le 6, 3) := by decide +kernel
theorem dX7_sheet_20 : decode cX7_sheet 20 = .ok (.bipush (-2), 2) := by decide +kernel
theorem dX7_sheet_22 : decode cX7_sheet 22 = .ok (.ireturn, 1) := by decide +kernel
theorem dX7_sheet_23 : decode cX7_sheet 23 = .ok (.iload_n 3, 1) := by decide +kernel
theorem dX7_sheet_24 : decode cX7_sheet 24 = .ok (.ifCond .ge 9, 3) := by decide +kernel
theorem dX7_sheet_27 : decode cX7_sheet 27 = .ok (.aload_n 0, 1) := by decide +kernel
theorem dX7_sheet_28 : decode cX7_sheet 28 = .ok (.iconst 5, 1) := by decide +kernel
theorem dX7_sheet_29 : decode cX7_sheet 29 = .ok (.invokevirtual 245, 3) := by decide +kernel
theorem dX7_sheet_32 : decode cX7_sheet 32 = .ok (.ireturn, 1) := by decide +kernel
theorem dX7_sheet_33 : decode cX7_sheet 33 = .ok (.aload_n 0, 1) := by decide +kernel
theorem dX7_sheet_34 : decode cX7_sheet 34 = .ok (.getfield 62, 3) := by decide +kernel
theorem dX7_sheet_37 : decode cX7_sheet 37 = .ok (.iload_n 1, 1) := by decide +kernel
theorem dX7_sheet_38 : decode cX7_sheet 38 = .ok (.aaload, 1) := by decide +kernel
theorem dX7_sheet_39 : decode cX7_sheet 39 = .ok (.iload_n 2, 1) := by decide +kernel
theorem dX7_sheet_40 : decode cX7_sheet 40 = .ok (.iload_n 3, 1) := by decide +kernel
theorem dX7_sheet_41 : decode cX7_sheet 41 = .ok (.invokevirtual 255, 3) := by decide +kernel
theorem dX7_sheet_44 : decode cX7_sheet 44 = .ok (.iload_n 3, 1) := by decide +kernel
theorem dX7_sheet_45 : decode cX7_sheet 45 = .ok (.ireturn, 1) := by decide +kernel
theorem dX7_lose_0 : decode cX7_lose 0 = .ok (.iload_n 1, 1) := by decide +kernel
theorem dX7_lose_1 : decode cX7_lose 1 = .ok (.invokestatic 239, 3) := by decide +kernel
theorem dX7_lose_4 : decode cX7_lose 4 = .ok (.ifCond .ne 6, 3) := by decide +kernel
theorem dX7_lose_7 : decode cX7_lose 7 = .ok (.bipush (-2), 2) := by decide +kernel
theorem dX7_lose_9 : decode cX7_lose 9 = .ok (.ireturn, 1) := by decide +kernel
theorem dX7_lose_10 : decode cX7_lose 10 = .ok (.aload_n 0, 1) := by decide +kernel
theorem dX7_lose_11 : decode cX7_lose 11 = .ok (.getfield 62, 3) := by decide +kernel
theorem dX7_lose_14 : decode cX7_lose 14 = .ok (.iload_n 1, 1) := by decide +kernel
theorem dX7_lose_15 : decode cX7_lose 15 = .ok (.aaload, 1) := by decide +kernel
theorem dX7_lose_16 : decode cX7_lose 16 = .ok (.getfield 242, 3) := by decide +kernel
theorem dX7_lose_19 : decode cX7_lose 19 = .ok (.ifCond .eq 9, 3) := by decide +kernel
theorem dX7_lose_22 : decode cX7_lose 22 = .ok (.aload_n 0, 1) := by decide +kernel
theorem dX7_lose_23 : decode cX7_lose 23 = .ok (.iconst 1, 1) := by decide +kernel
theorem dX7_lose_24 : decode cX7_lose 24 = .ok (.invokevirtual 245, 3) := by decide +kernel
theorem dX7_lose_27 : decode cX7_lose 27 = .ok (.ireturn, 1) := by decide +kernel
theorem dX7_lose_28 : decode cX7_lose 28 = .ok (.aload_n 0, 1) := by decide +kernel
theorem dX7_lose_29 : decode cX7_lose 29 = .ok (.getfield 62, 3) := by decide +kernel
theorem dX7_lose_32 : decode cX7_lose 32 = .ok (.iload_n 1, 1) := by decide +kernel
theorem dX7_lose_33 : decode cX7_lose 33 = .ok (.aaload, 1) := by decide +kernel
theorem dX7_lose_34 : decode cX7_lose 34 = .ok (.iconst 1, 1) := by decide +kernel
theorem dX7_lose_35 : decode cX7_lose 35 = .ok (.putfield 242, 3) := by decide +kernel
theorem dX7_lose_38 : decode cX7_lose 38 = .ok (.aload_n 0, 1) := by decide +kernel
theorem dX7_lose_39 : decode cX7_lose 39 = .ok (.getfield 62, 3) := by decide +kernel
theorem dX7_lose_42 : decode cX7_lose 42 = .ok (.iload_n 1, 1) := by decide +kernel
theorem dX7_lose_43 : decode cX7_lose 43 = .ok (.aaload, 1) := by decide +kernel
theorem dX7_lose_44 : decode cX7_lose 44 = .ok (.getfield 248, 3) := by decide +kernel
theorem dX7_lose_47 : decode cX7_lose 47 = .ok (.ireturn, 1) := by decide +kernel
theorem dX7_lay_0 : decode cX7_lay 0 = .ok (.iload_n 1, 1) := by decide +kernel
theorem dX7_lay_1 : decode cX7_lay 1 = .ok (.invokestatic 239, 3) := by decide +kernel
theorem dX7_lay_4 : decode cX7_lay 4 = .ok (.ifCond .eq 10, 3) := by decide +kernel
theorem dX7_lay_7 : decode cX7_lay 7 = .ok (.iload_n 2, 1) := by decide +kernel
theorem dX7_lay_8 : decode cX7_lay 8 = .ok (.invokestatic 252, 3) := by decide +kernel
theorem dX7_lay_11 : decode cX7_lay 11 = .ok (.ifCond .ne 6, 3) := by decide +kernel
theorem dX7_lay_14 : decode cX7_lay 14 = .ok (.bipush (-2), 2) := by decide +kernel
theorem dX7_lay_16 : decode cX7_lay 16 = .ok (.ireturn, 1) := by decide +kernel
theorem dX7_lay_17 : decode cX7_lay 17 = .ok (.aload_n 0, 1) := by decide +kernel
theorem dX7_lay_18 : decode cX7_lay 18 = .ok (.getfield 62, 3) := by decide +kernel
theorem dX7_lay_21 : decode cX7_lay 21 = .ok (.iload_n 1, 1) := by decide +kernel
theorem dX7_lay_22 : decode cX7_lay 22 = .ok (.aaload, 1) := by decide +kernel
theorem dX7_lay_23 : decode cX7_lay 23 = .ok (.iload_n 2, 1) := by decide +kernel
theorem dX7_lay_24 : decode cX7_lay 24 = .ok (.iload_n 3, 1) := by decide +kernel
theorem dX7_lay_25 : decode cX7_lay 25 = .ok (.invokestatic 258, 3) := by decide +kernel
theorem dX7_lay_28 : decode cX7_lay 28 = .ok (.istore 5, 2) := by decide +kernel
theorem dX7_lay_30 : decode cX7_lay 30 = .ok (.iload 5, 2) := by decide +kernel
theorem dX7_lay_32 : decode cX7_lay 32 = .ok (.ifCond .eq 10, 3) := by decide +kernel
theorem dX7_lay_35 : decode cX7_lay 35 = .ok (.aload_n 0, 1) := by decide +kernel
theorem dX7_lay_36 : decode cX7_lay 36 = .ok (.iload 5, 2) := by decide +kernel
theorem dX7_lay_38 : decode cX7_lay 38 = .ok (.invokevirtual 245, 3) := by decide +kernel
theorem dX7_lay_41 : decode cX7_lay 41 = .ok (.ireturn, 1) := by decide +kernel
theorem dX7_lay_42 : decode cX7_lay 42 = .ok (.aload_n 0, 1) := by decide +kernel
theorem dX7_lay_43 : decode cX7_lay 43 = .ok (.getfield 62, 3) := by decide +kernel
theorem dX7_lay_46 : decode cX7_lay 46 = .ok (.iload_n 1, 1) := by decide +kernel
theorem dX7_lay_47 : decode cX7_lay 47 = .ok (.aaload, 1) := by decide +kernel
theorem dX7_lay_48 : decode cX7_lay 48 = .ok (.iload_n 3, 1) := by decide +kernel
theorem dX7_lay_49 : decode cX7_lay 49 = .ok (.iload 4, 2) := by decide +kernel
theorem dX7_lay_51 : decode cX7_lay 51 = .ok (.invokevirtual 262, 3) := by decide +kernel
theorem dX7_lay_54 : decode cX7_lay 54 = .ok (.iconst 1, 1) := by decide +kernel
theorem dX7_lay_55 : decode cX7_lay 55 = .ok (.ireturn, 1) := by decide +kernel
theorem dX7_get_0 : decode cX7_get 0 = .ok (.iload_n 1, 1) := by decide +kernel
theorem dX7_get_1 : decode cX7_get 1 = .ok (.invokestatic 239, 3) := by decide +kernel
theorem dX7_get_4 : decode cX7_get 4 = .ok (.ifCond .eq 10, 3) := by decide +kernel
theorem dX7_get_7 : decode cX7_get 7 = .ok (.iload_n 2, 1) := by decide +kernel
theorem dX7_get_8 : decode cX7_get 8 = .ok (.invokestatic 252, 3) := by decide +kernel
theorem dX7_get_11 : decode cX7_get 11 = .ok (.ifCond .ne 7, 3) := by decide +kernel
theorem dX7_get_14 : decode cX7_get 14 = .ok (.ldc_w 265, 3) := by decide +kernel
theorem dX7_get_17 : decode cX7_get 17 = .ok (.ireturn, 1) := by decide +kernel
theorem dX7_get_18 : decode cX7_get 18 = .ok (.aload_n 0, 1) := by decide +kernel
theorem dX7_get_19 : decode cX7_get 19 = .ok (.getfield 62, 3) := by decide +kernel
theorem dX7_get_22 : decode cX7_get 22 = .ok (.iload_n 1, 1) := by decide +kernel
theorem dX7_get_23 : decode cX7_get 23 = .ok (.aaload, 1) := by decide +kernel
theorem dX7_get_24 : decode cX7_get 24 = .ok (.iload_n 2, 1) := by decide +kernel
theorem dX7_get_25 : decode cX7_get 25 = .ok (.iload_n 3, 1) := by decide +kernel
theorem dX7_get_26 : decode cX7_get 26 = .ok (.invokestatic 258, 3) := by decide +kernel
theorem dX7_get_29 : decode cX7_get 29 = .ok (.istore 4, 2) := by decide +kernel
theorem dX7_get_31 : decode cX7_get 31 = .ok (.iload 4, 2) := by decide +kernel
theorem dX7_get_33 : decode cX7_get 33 = .ok (.ifCond .eq 13, 3) := by decide +kernel
theorem dX7_get_36 : decode cX7_get 36 = .ok (.aload_n 0, 1) := by decide +kernel
theorem dX7_get_37 : decode cX7_get 37 = .ok (.iload 4, 2) := by decide +kernel
theorem dX7_get_39 : decode cX7_get 39 = .ok (.putfield 266, 3) := by decide +kernel
theorem dX7_get_42 : decode cX7_get 42 = .ok (.ldc_w 265, 3) := by decide +kernel
theorem dX7_get_45 : decode cX7_get 45 = .ok (.ireturn, 1) := by decide +kernel
theorem dX7_get_46 : decode cX7_get 46 = .ok (.aload_n 0, 1) := by decide +kernel
theorem dX7_get_47 : decode cX7_get 47 = .ok (.getfield 62, 3) := by decide +kernel
theorem dX7_get_50 : decode cX7_get 50 = .ok (.iload_n 1, 1) := by decide +kernel
theorem dX7_get_51 : decode cX7_get 51 = .ok (.aaload, 1) := by decide +kernel
theorem dX7_get_52 : decode cX7_get 52 = .ok (.iload_n 3, 1) := by decide +kernel
theorem dX7_get_53 : decode cX7_get 53 = .ok (.invokevirtual 249, 3) := by decide +kernel
theorem dX7_get_56 : decode cX7_get 56 = .ok (.ireturn, 1) := by decide +kernel
theorem dX7_copy_0 : decode cX7_copy 0 = .ok (.iload_n 1, 1) := by decide +kernel
theorem dX7_copy_1 : decode cX7_copy 1 = .ok (.invokestatic 239, 3) := by decide +kernel
theorem dX7_copy_4 : decode cX7_copy 4 = .ok (.ifCond .eq 10, 3) := by decide +kernel
theorem dX7_copy_7 : decode cX7_copy 7 = .ok (.iload_n 3, 1) := by decide +kernel
theorem dX7_copy_8 : decode cX7_copy 8 = .ok (.invokestatic 239, 3) := by decide +kernel
theorem dX7_copy_11 : decode cX7_copy 11 = .ok (.ifCond .ne 6, 3) := by decide +kernel
theorem dX7_copy_14 : decode cX7_copy 14 = .ok (.bipush (-2), 2) := by decide +kernel
theorem dX7_copy_16 : decode cX7_copy 16 = .ok (.ireturn, 1) := by decide +kernel
theorem dX7_copy_17 : decode cX7_copy 17 = .ok (.aload_n 0, 1) := by decide +kernel
theorem dX7_copy_18 : decode cX7_copy 18 = .ok (.getfield 62, 3) := by decide +kernel
theorem dX7_copy_21 : decode cX7_copy 21 = .ok (.iload_n 1, 1) := by decide +kernel
theorem dX7_copy_22 : decode cX7_copy 22 = .ok (.aaload, 1) := by decide +kernel
theorem dX7_copy_23 : decode cX7_copy 23 = .ok (.astore 6, 2) := by decide +kernel
theorem dX7_copy_25 : decode cX7_copy 25 = .ok (.aload_n 0, 1) := by decide +kernel
theorem dX7_copy_26 : decode cX7_copy 26 = .ok (.getfield 62, 3) := by decide +kernel
theorem dX7_copy_29 : decode cX7_copy 29 = .ok (.iload_n 3, 1) := by decide +kernel
theorem dX7_copy_30 : decode cX7_copy 30 = .ok (.aaload, 1) := by decide +kernel
theorem dX7_copy_31 : decode cX7_copy 31 = .ok (.astore 7, 2) := by decide +kernel
theorem dX7_copy_33 : decode cX7_copy 33 = .ok (.aload 6, 2) := by decide +kernel
theorem dX7_copy_35 : decode cX7_copy 35 = .ok (.getfield 242, 3) := by decide +kernel
theorem dX7_copy_38 : decode cX7_copy 38 = .ok (.ifCond .ne 11, 3) := by decide +kernel
theorem dX7_copy_41 : decode cX7_copy 41 = .ok (.aload 7, 2) := by decide +kernel
theorem dX7_copy_43 : decode cX7_copy 43 = .ok (.getfield 242, 3) := by decide +kernel
theorem dX7_copy_46 : decode cX7_copy 46 = .ok (.ifCond .eq 9, 3) := by decide +kernel
theorem dX7_copy_49 : decode cX7_copy 49 = .ok (.aload_n 0, 1) := by decide +kernel
theorem dX7_copy_50 : decode cX7_copy 50 = .ok (.iconst 1, 1) := by decide +kernel
theorem dX7_copy_51 : decode cX7_copy 51 = .ok (.invokevirtual 245, 3) := by decide +kernel
theorem dX7_copy_54 : decode cX7_copy 54 = .ok (.ireturn, 1) := by decide +kernel
theorem dX7_copy_55 : decode cX7_copy 55 = .ok (.aload 6, 2) := by decide +kernel
theorem dX7_copy_57 : decode cX7_copy 57 = .ok (.getfield 269, 3) := by decide +kernel
theorem dX7_copy_60 : decode cX7_copy 60 = .ok (.aload 7, 2) := by decide +kernel
theorem dX7_copy_62 : decode cX7_copy 62 = .ok (.getfield 269, 3) := by decide +kernel
theorem dX7_copy_65 : decode cX7_copy 65 = .ok (.if_icmp .eq 9, 3) := by decide +kernel
theorem dX7_copy_68 : decode cX7_copy 68 = .ok (.aload_n 0, 1) := by decide +kernel
theorem dX7_copy_69 : decode cX7_copy 69 = .ok (.iconst 4, 1) := by decide +kernel
theorem dX7_copy_70 : decode cX7_copy 70 = .ok (.invokevirtual 245, 3) := by decide +kernel
theorem dX7_copy_73 : decode cX7_copy 73 = .ok (.ireturn, 1) := by decide +kernel
theorem dX7_copy_74 : decode cX7_copy 74 = .ok (.aload 6, 2) := by decide +kernel
theorem dX7_copy_76 : decode cX7_copy 76 = .ok (.iload_n 2, 1) := by decide +kernel
theorem dX7_copy_77 : decode cX7_copy 77 = .ok (.iload 5, 2) := by decide +kernel
theorem dX7_copy_79 : decode cX7_copy 79 = .ok (.invokevirtual 272, 3) := by decide +kernel
theorem dX7_copy_82 : decode cX7_copy 82 = .ok (.ifCond .eq 15, 3) := by decide +kernel
theorem dX7_copy_85 : decode cX7_copy 85 = .ok (.aload 7, 2) := by decide +kernel
theorem dX7_copy_87 : decode cX7_copy 87 = .ok (.iload 4, 2) := by decide +kernel
theorem dX7_copy_89 : decode cX7_copy 89 = .ok (.iload 5, 2) := by decide +kernel
theorem dX7_copy_91 : decode cX7_copy 91 = .ok (.invokevirtual 272, 3) := by decide +kernel
theorem dX7_copy_94 : decode cX7_copy 94 = .ok (.ifCond .ne 9, 3) := by decide +kernel
theorem dX7_copy_97 : decode cX7_copy 97 = .ok (.aload_n 0, 1) := by decide +kernel
theorem dX7_copy_98 : decode cX7_copy 98 = .ok (.iconst 2, 1) := by decide +kernel
theorem dX7_copy_99 : decode cX7_copy 99 = .ok (.invokevirtual 245, 3) := by decide +kernel
theorem dX7_copy_102 : decode cX7_copy 102 = .ok (.ireturn, 1) := by decide +kernel
theorem dX7_copy_103 : decode cX7_copy 103 = .ok (.aload 6, 2) := by decide +kernel
theorem dX7_copy_105 : decode cX7_copy 105 = .ok (.getfield 275, 3) := by decide +kernel
theorem dX7_copy_108 : decode cX7_copy 108 = .ok (.iload_n 2, 1) := by decide +kernel
theorem dX7_copy_109 : decode cX7_copy 109 = .ok (.aload 7, 2) := by decide +kernel
theorem dX7_copy_111 : decode cX7_copy 111 = .ok (.getfield 275, 3) := by decide +kernel
theorem dX7_copy_114 : decode cX7_copy 114 = .ok (.iload 4, 2) := by decide +kernel
theorem dX7_copy_116 : decode cX7_copy 116 = .ok (.iload 5, 2) := by decide +kernel
theorem dX7_copy_118 : decode cX7_copy 118 = .ok (.invokestatic 278, 3) := by decide +kernel
theorem dX7_copy_121 : decode cX7_copy 121 = .ok (.iconst 1, 1) := by decide +kernel
theorem dX7_copy_122 : decode cX7_copy 122 = .ok (.ireturn, 1) := by decide +kernel
theorem dX7_write_0 : decode cX7_write 0 = .ok (.iload_n 1, 1) := by decide +kernel
theorem dX7_write_1 : decode cX7_write 1 = .ok (.invokestatic 239, 3) := by decide +kernel
theorem dX7_write_4 : decode cX7_write 4 = .ok (.ifCond .ne 6, 3) := by decide +kernel
theorem dX7_write_7 : decode cX7_write 7 = .ok (.bipush (-2), 2) := by decide +kernel
theorem dX7_write_9 : decode cX7_write 9 = .ok (.ireturn, 1) := by decide +kernel
theorem dX7_write_10 : decode cX7_write 10 = .ok (.aload_n 0, 1) := by decide +kernel
theorem dX7_write_11 : decode cX7_write 11 = .ok (.getfield 62, 3) := by decide +kernel
theorem dX7_write_14 : decode cX7_write 14 = .ok (.iload_n 1, 1) := by decide +kernel
theorem dX7_write_15 : decode cX7_write 15 = .ok (.aaload, 1) := by decide +kernel
theorem dX7_write_16 : decode cX7_write 16 = .ok (.astore_n 2, 1) := by decide +kernel
theorem dX7_write_17 : decode cX7_write 17 = .ok (.aload_n 2, 1) := by decide +kernel
theorem dX7_write_18 : decode cX7_write 18 = .ok (.getfield 242, 3) := by decide +kernel
theorem dX7_write_21 : decode cX7_write 21 = .ok (.ifCond .eq 9, 3) := by decide +kernel
theorem dX7_write_24 : decode cX7_write 24 = .ok (.aload_n 0, 1) := by decide +kernel
theorem dX7_write_25 : decode cX7_write 25 = .ok (.iconst 1, 1) := by decide +kernel
theorem dX7_write_26 : decode cX7_write 26 = .ok (.invokevirtual 245, 3) := by decide +kernel
theorem dX7_write_29 : decode cX7_write 29 = .ok (.ireturn, 1) := by decide +kernel
theorem dX7_write_30 : decode cX7_write 30 = .ok (.aload_n 2, 1) := by decide +kernel
theorem dX7_write_31 : decode cX7_write 31 = .ok (.getfield 248, 3) := by decide +kernel
theorem dX7_write_34 : decode cX7_write 34 = .ok (.aload_n 0, 1) := by decide +kernel
theorem dX7_write_35 : decode cX7_write 35 = .ok (.getfield 18, 3) := by decide +kernel
theorem dX7_write_38 : decode cX7_write 38 = .ok (.getfield 92, 3) := by decide +kernel
theorem dX7_write_41 : decode cX7_write 41 = .ok (.invokestatic 284, 3) := by decide +kernel
theorem dX7_write_44 : decode cX7_write 44 = .ok (.istore_n 3, 1) := by decide +kernel
theorem dX7_write_45 : decode cX7_write 45 = .ok (.iconst 0, 1) := by decide +kernel
theorem dX7_write_46 : decode cX7_write 46 = .ok (.istore 4, 2) := by decide +kernel
theorem dX7_write_48 : decode cX7_write 48 = .ok (.iload 4, 2) := by decide +kernel
theorem dX7_write_50 : decode cX7_write 50 = .ok (.iload_n 3, 1) := by decide +kernel
theorem dX7_write_51 : decode cX7_write 51 = .ok (.if_icmp .ge 27, 3) := by decide +kernel
theorem dX7_write_54 : decode cX7_write 54 = .ok (.aload_n 2, 1) := by decide +kernel
theorem dX7_write_55 : decode cX7_write 55 = .ok (.iload 4, 2) := by decide +kernel
theorem dX7_write_57 : decode cX7_write 57 = .ok (.aload_n 0, 1) := by decide +kernel
theorem dX7_write_58 : decode cX7_write 58 = .ok (.getfield 28, 3) := by decide +kernel
theorem dX7_write_61 : decode cX7_write 61 = .ok (.iload 4, 2) := by decide +kernel
theorem dX7_write_63 : decode cX7_write 63 = .ok (.invokevirtual 110, 3) := by decide +kernel
theorem dX7_write_66 : decode cX7_write 66 = .ok (.getfield 129, 3) := by decide +kernel
theorem dX7_write_69 : decode cX7_write 69 = .ok (.invokevirtual 262, 3) := by decide +kernel
theorem dX7_write_72 : decode cX7_write 72 = .ok (.iinc 4 1, 3) := by decide +kernel
theorem dX7_write_75 : decode cX7_write 75 = .ok (.goto (-27), 3) := by decide +kernel
theorem dX7_write_78 : decode cX7_write 78 = .ok (.iload_n 3, 1) := by decide +kernel
theorem dX7_write_79 : decode cX7_write 79 = .ok (.ireturn, 1) := by decide +kernel
theorem dX7_count_0 : decode cX7_count 0 = .ok (.iload_n 1, 1) := by decide +kernel
theorem dX7_count_1 : decode cX7_count 1 = .ok (.tableswitch 136 0 8 #[51, 59, 67, 75, 83, 91, 102, 109, 131], 51) := by decide +kernel
theorem dX7_count_52 : decode cX7_count 52 = .ok (.aload_n 0, 1) := by decide +kernel
theorem dX7_count_53 : decode cX7_count 53 = .ok (.getfield 18, 3) := by decide +kernel
theorem dX7_count_56 : decode cX7_count 56 = .ok (.getfield 92, 3) := by decide +kernel
theorem dX7_count_59 : decode cX7_count 59 = .ok (.ireturn, 1) := by decide +kernel
theorem dX7_count_60 : decode cX7_count 60 = .ok (.aload_n 0, 1) := by decide +kernel
theorem dX7_count_61 : decode cX7_count 61 = .ok (.getfield 22, 3) := by decide +kernel
theorem dX7_count_64 : decode cX7_count 64 = .ok (.getfield 92, 3) := by decide +kernel
theorem dX7_count_67 : decode cX7_count 67 = .ok (.ireturn, 1) := by decide +kernel
theorem dX7_count_68 : decode cX7_count 68 = .ok (.aload_n 0, 1) := by decide +kernel
theorem dX7_count_69 : decode cX7_count 69 = .ok (.getfield 18, 3) := by decide +kernel
theorem dX7_count_72 : decode cX7_count 72 = .ok (.getfield 85, 3) := by decide +kernel
theorem dX7_count_75 : decode cX7_count 75 = .ok (.ireturn, 1) := by decide +kernel
theorem dX7_count_76 : decode cX7_count 76 = .ok (.aload_n 0, 1) := by decide +kernel
theorem dX7_count_77 : decode cX7_count 77 = .ok (.getfield 22, 3) := by decide +kernel
theorem dX7_count_80 : decode cX7_count 80 = .ok (.getfield 85, 3) := by decide +kernel
theorem dX7_count_83 : decode cX7_count 83 = .ok (.ireturn, 1) := by decide +kernel
theorem dX7_count_84 : decode cX7_count 84 = .ok (.aload_n 0, 1) := by decide +kernel
theorem dX7_count_85 : decode cX7_count 85 = .ok (.getfield 56, 3) := by decide +kernel
theorem dX7_count_88 : decode cX7_count 88 = .ok (.getfield 234, 3) := by decide +kernel
theorem dX7_count_91 : decode cX7_count 91 = .ok (.ireturn, 1) := by decide +kernel
theorem dX7_count_92 : decode cX7_count 92 = .ok (.aload_n 0, 1) := by decide +kernel
theorem dX7_count_93 : decode cX7_count 93 = .ok (.getfield 28, 3) := by decide +kernel
theorem dX7_count_96 : decode cX7_count 96 = .ok (.invokevirtual 151, 3) := by decide +kernel
theorem dX7_count_99 : decode cX7_count 99 = .ok (.getfield 289, 3) := by decide +kernel
theorem dX7_count_102 : decode cX7_count 102 = .ok (.ireturn, 1) := by decide +kernel
theorem dX7_count_103 : decode cX7_count 103 = .ok (.aload_n 0, 1) := by decide +kernel
theorem dX7_count_104 : decode cX7_count 104 = .ok (.getfield 7, 3) := by decide +kernel
theorem dX7_count_107 : decode cX7_count 107 = .ok (.iconst 0, 1) := by decide +kernel
theorem dX7_count_108 : decode cX7_count 108 = .ok (.iaload, 1) := by decide +kernel
theorem dX7_count_109 : decode cX7_count 109 = .ok (.ireturn, 1) := by decide +kernel
theorem dX7_count_110 : decode cX7_count 110 = .ok (.aload_n 0, 1) := by decide +kernel
theorem dX7_count_111 : decode cX7_count 111 = .ok (.getfield 7, 3) := by decide +kernel
theorem dX7_count_114 : decode cX7_count 114 = .ok (.iconst 5, 1) := by decide +kernel
theorem dX7_count_115 : decode cX7_count 115 = .ok (.iaload, 1) := by decide +kernel
theorem dX7_count_116 : decode cX7_count 116 = .ok (.iconst 1, 1) := by decide +kernel
theorem dX7_count_117 : decode cX7_count 117 = .ok (.aload_n 0, 1) := by decide +kernel
theorem dX7_count_118 : decode cX7_count 118 = .ok (.getfield 18, 3) := by decide +kernel
theorem dX7_count_121 : decode cX7_count 121 = .ok (.getfield 92, 3) := by decide +kernel
theorem dX7_count_124 : decode cX7_count 124 = .ok (.ishl, 1) := by decide +kernel
theorem dX7_count_125 : decode cX7_count 125 = .ok (.iconst 1, 1) := by decide +kernel
theorem dX7_count_126 : decode cX7_count 126 = .ok (.isub, 1) := by decide +kernel
theorem dX7_count_127 : decode cX7_count 127 = .ok (.iand, 1) := by decide +kernel
theorem dX7_count_128 : decode cX7_count 128 = .ok (.invokestatic 292, 3) := by decide +kernel
theorem dX7_count_131 : decode cX7_count 131 = .ok (.ireturn, 1) := by decide +kernel
theorem dX7_count_132 : decode cX7_count 132 = .ok (.aload_n 0, 1) := by decide +kernel
theorem dX7_count_133 : decode cX7_count 133 = .ok (.getfield 266, 3) := by decide +kernel
theorem dX7_count_136 : decode cX7_count 136 = .ok (.ireturn, 1) := by decide +kernel
theorem dX7_count_137 : decode cX7_count 137 = .ok (.bipush (-2), 2) := by decide +kernel
theorem dX7_count_139 : decode cX7_count 139 = .ok (.ireturn, 1) := by decide +kernel
theorem dX7_digest_0 : decode cX7_digest 0 = .ok (.ldc2_w 297, 3) := by decide +kernel
theorem dX7_digest_3 : decode cX7_digest 3 = .ok (.lstore_n 1, 1) := by decide +kernel
theorem dX7_digest_4 : decode cX7_digest 4 = .ok (.iconst 0, 1) := by decide +kernel
theorem dX7_digest_5 : decode cX7_digest 5 = .ok (.istore_n 3, 1) := by decide +kernel
theorem dX7_digest_6 : decode cX7_digest 6 = .ok (.iload_n 3, 1) := by decide +kernel
theorem dX7_digest_7 : decode cX7_digest 7 = .ok (.bipush 7, 2) := by decide +kernel
theorem dX7_digest_9 : decode cX7_digest 9 = .ok (.if_icmp .gt 22, 3) := by decide +kernel
theorem dX7_digest_12 : decode cX7_digest 12 = .ok (.ldc2_w 299, 3) := by decide +kernel
theorem dX7_digest_15 : decode cX7_digest 15 = .ok (.lload_n 1, 1) := by decide +kernel
theorem dX7_digest_16 : decode cX7_digest 16 = .ok (.lmul, 1) := by decide +kernel
theorem dX7_digest_17 : decode cX7_digest 17 = .ok (.aload_n 0, 1) := by decide +kernel
theorem dX7_digest_18 : decode cX7_digest 18 = .ok (.iload_n 3, 1) := by decide +kernel
theorem dX7_digest_19 : decode cX7_digest 19 = .ok (.invokevirtual 301, 3) := by decide +kernel
theorem dX7_digest_22 : decode cX7_digest 22 = .ok (.i2l, 1) := by decide +kernel
theorem dX7_digest_23 : decode cX7_digest 23 = .ok (.ladd, 1) := by decide +kernel
theorem dX7_digest_24 : decode cX7_digest 24 = .ok (.lstore_n 1, 1) := by decide +kernel
theorem dX7_digest_25 : decode cX7_digest 25 = .ok (.iinc 3 1, 3) := by decide +kernel
theorem dX7_digest_28 : decode cX7_digest 28 = .ok (.goto (-22), 3) := by decide +kernel
theorem dX7_digest_31 : decode cX7_digest 31 = .ok (.ldc2_w 299, 3) := by decide +kernel
theorem dX7_digest_34 : decode cX7_digest 34 = .ok (.lload_n 1, 1) := by decide +kernel
theorem dX7_digest_35 : decode cX7_digest 35 = .ok (.lmul, 1) := by decide +kernel
theorem dX7_digest_36 : decode cX7_digest 36 = .ok (.aload_n 0, 1) := by decide +kernel
theorem dX7_digest_37 : decode cX7_digest 37 = .ok (.iconst 0, 1) := by decide +kernel
theorem dX7_digest_38 : decode cX7_digest 38 = .ok (.invokevirtual 304, 3) := by decide +kernel
theorem dX7_digest_41 : decode cX7_digest 41 = .ok (.i2l, 1) := by decide +kernel
theorem dX7_digest_42 : decode cX7_digest 42 = .ok (.ladd, 1) := by decide +kernel
theorem dX7_digest_43 : decode cX7_digest 43 = .ok (.lstore_n 1, 1) := by decide +kernel
theorem dX7_digest_44 : decode cX7_digest 44 = .ok (.ldc2_w 299, 3) := by decide +kernel
theorem dX7_digest_47 : decode cX7_digest 47 = .ok (.lload_n 1, 1) := by decide +kernel
theorem dX7_digest_48 : decode cX7_digest 48 = .ok (.lmul, 1) := by decide +kernel
theorem dX7_digest_49 : decode cX7_digest 49 = .ok (.aload_n 0, 1) := by decide +kernel
theorem dX7_digest_50 : decode cX7_digest 50 = .ok (.iconst 1, 1) := by decide +kernel
theorem dX7_digest_51 : decode cX7_digest 51 = .ok (.invokevirtual 304, 3) := by decide +kernel
theorem dX7_digest_54 : decode cX7_digest 54 = .ok (.i2l, 1) := by decide +kernel
theorem dX7_digest_55 : decode cX7_digest 55 = .ok (.ladd, 1) := by decide +kernel
theorem dX7_digest_56 : decode cX7_digest 56 = .ok (.lstore_n 1, 1) := by decide +kernel
theorem dX7_digest_57 : decode cX7_digest 57 = .ok (.iconst 0, 1) := by decide +kernel
theorem dX7_digest_58 : decode cX7_digest 58 = .ok (.istore_n 3, 1) := by decide +kernel
theorem dX7_digest_59 : decode cX7_digest 59 = .ok (.iload_n 3, 1) := by decide +kernel
theorem dX7_digest_60 : decode cX7_digest 60 = .ok (.aload_n 0, 1) := by decide +kernel
theorem dX7_digest_61 : decode cX7_digest 61 = .ok (.getfield 18, 3) := by decide +kernel
theorem dX7_digest_64 : decode cX7_digest 64 = .ok (.getfield 92, 3) := by decide +kernel
theorem dX7_digest_67 : decode cX7_digest 67 = .ok (.if_icmp .ge 16, 3) := by decide +kernel
theorem dX7_digest_70 : decode cX7_digest 70 = .ok (.aload_n 0, 1) := by decide +kernel
theorem dX7_digest_71 : decode cX7_digest 71 = .ok (.lload_n 1, 1) := by decide +kernel
theorem dX7_digest_72 : decode cX7_digest 72 = .ok (.iload_n 3, 1) := by decide +kernel
theorem dX7_digest_73 : decode cX7_digest 73 = .ok (.invokevirtual 307, 3) := by decide +kernel
theorem dX7_digest_76 : decode cX7_digest 76 = .ok (.lstore_n 1, 1) := by decide +kernel
theorem dX7_digest_77 : decode cX7_digest 77 = .ok (.iinc 3 1, 3) := by decide +kernel
theorem dX7_digest_80 : decode cX7_digest 80 = .ok (.goto (-21), 3) := by decide +kernel
theorem dX7_digest_83 : decode cX7_digest 83 = .ok (.aload_n 0, 1) := by decide +kernel
theorem dX7_digest_84 : decode cX7_digest 84 = .ok (.lload_n 1, 1) := by decide +kernel
theorem dX7_digest_85 : decode cX7_digest 85 = .ok (.invokevirtual 311, 3) := by decide +kernel
theorem dX7_digest_88 : decode cX7_digest 88 = .ok (.lstore_n 1, 1) := by decide +kernel
theorem dX7_digest_89 : decode cX7_digest 89 = .ok (.iconst 0, 1) := by decide +kernel
theorem dX7_digest_90 : decode cX7_digest 90 = .ok (.istore_n 3, 1) := by decide +kernel
theorem dX7_digest_91 : decode cX7_digest 91 = .ok (.iload_n 3, 1) := by decide +kernel
theorem dX7_digest_92 : decode cX7_digest 92 = .ok (.iconst 5, 1) := by decide +kernel
theorem dX7_digest_93 : decode cX7_digest 93 = .ok (.if_icmp .gt 22, 3) := by decide +kernel
theorem dX7_digest_96 : decode cX7_digest 96 = .ok (.ldc2_w 299, 3) := by decide +kernel
theorem dX7_digest_99 : decode cX7_digest 99 = .ok (.lload_n 1, 1) := by decide +kernel
theorem dX7_digest_100 : decode cX7_digest 100 = .ok (.lmul, 1) := by decide +kernel
theorem dX7_digest_101 : decode cX7_digest 101 = .ok (.aload_n 0, 1) := by decide +kernel
theorem dX7_digest_102 : decode cX7_digest 102 = .ok (.iload_n 3, 1) := by decide +kernel
theorem dX7_digest_103 : decode cX7_digest 103 = .ok (.invokevirtual 315, 3) := by decide +kernel
theorem dX7_digest_106 : decode cX7_digest 106 = .ok (.i2l, 1) := by decide +kernel
theorem dX7_digest_107 : decode cX7_digest 107 = .ok (.ladd, 1) := by decide +kernel
theorem dX7_digest_108 : decode cX7_digest 108 = .ok (.lstore_n 1, 1) := by decide +kernel
theorem dX7_digest_109 : decode cX7_digest 109 = .ok (.iinc 3 1, 3) := by decide +kernel
theorem dX7_digest_112 : decode cX7_digest 112 = .ok (.goto (-21), 3) := by decide +kernel
theorem dX7_digest_115 : decode cX7_digest 115 = .ok (.bipush (-2), 2) := by decide +kernel
theorem dX7_digest_117 : decode cX7_digest 117 = .ok (.istore_n 3, 1) := by decide +kernel
theorem dX7_digest_118 : decode cX7_digest 118 = .ok (.iload_n 3, 1) := by decide +kernel
theorem dX7_digest_119 : decode cX7_digest 119 = .ok (.iconst 2, 1) := by decide +kernel
theorem dX7_digest_120 : decode cX7_digest 120 = .ok (.if_icmp .gt 22, 3) := by decide +kernel
theorem dX7_digest_123 : decode cX7_digest 123 = .ok (.ldc2_w 299, 3) := by decide +kernel
theorem dX7_digest_126 : decode cX7_digest 126 = .ok (.lload_n 1, 1) := by decide +kernel
theorem dX7_digest_127 : decode cX7_digest 127 = .ok (.lmul, 1) := by decide +kernel
theorem dX7_digest_128 : decode cX7_digest 128 = .ok (.aload_n 0, 1) := by decide +kernel
theorem dX7_digest_129 : decode cX7_digest 129 = .ok (.iload_n 3, 1) := by decide +kernel
theorem dX7_digest_130 : decode cX7_digest 130 = .ok (.invokevirtual 318, 3) := by decide +kernel
theorem dX7_digest_133 : decode cX7_digest 133 = .ok (.i2l, 1) := by decide +kernel
theorem dX7_digest_134 : decode cX7_digest 134 = .ok (.ladd, 1) := by decide +kernel
theorem dX7_digest_135 : decode cX7_digest 135 = .ok (.lstore_n 1, 1) := by decide +kernel
theorem dX7_digest_136 : decode cX7_digest 136 = .ok (.iinc 3 1, 3) := by decide +kernel
theorem dX7_digest_139 : decode cX7_digest 139 = .ok (.goto (-21), 3) := by decide +kernel
theorem dX7_digest_142 : decode cX7_digest 142 = .ok (.ldc2_w 299, 3) := by decide +kernel
theorem dX7_digest_145 : decode cX7_digest 145 = .ok (.lload_n 1, 1) := by decide +kernel
theorem dX7_digest_146 : decode cX7_digest 146 = .ok (.lmul, 1) := by decide +kernel
theorem dX7_digest_147 : decode cX7_digest 147 = .ok (.aload_n 0, 1) := by decide +kernel
theorem dX7_digest_148 : decode cX7_digest 148 = .ok (.invokevirtual 321, 3) := by decide +kernel
theorem dX7_digest_151 : decode cX7_digest 151 = .ok (.i2l, 1) := by decide +kernel
theorem dX7_digest_152 : decode cX7_digest 152 = .ok (.ladd, 1) := by decide +kernel
theorem dX7_digest_153 : decode cX7_digest 153 = .ok (.lstore_n 1, 1) := by decide +kernel
theorem dX7_digest_154 : decode cX7_digest 154 = .ok (.iconst 0, 1) := by decide +kernel
theorem dX7_digest_155 : decode cX7_digest 155 = .ok (.istore_n 3, 1) := by decide +kernel
theorem dX7_digest_156 : decode cX7_digest 156 = .ok (.iload_n 3, 1) := by decide +kernel
theorem dX7_digest_157 : decode cX7_digest 157 = .ok (.iconst 3, 1) := by decide +kernel
theorem dX7_digest_158 : decode cX7_digest 158 = .ok (.if_icmp .gt 21, 3) := by decide +kernel
theorem dX7_digest_161 : decode cX7_digest 161 = .ok (.ldc2_w 299, 3) := by decide +kernel
theorem dX7_digest_164 : decode cX7_digest 164 = .ok (.lload_n 1, 1) := by decide +kernel
theorem dX7_digest_165 : decode cX7_digest 165 = .ok (.lmul, 1) := by decide +kernel
theorem dX7_digest_166 : decode cX7_digest 166 = .ok (.aload_n 0, 1) := by decide +kernel
theorem dX7_digest_167 : decode cX7_digest 167 = .ok (.iload_n 3, 1) := by decide +kernel
theorem dX7_digest_168 : decode cX7_digest 168 = .ok (.invokevirtual 324, 3) := by decide +kernel
theorem dX7_digest_171 : decode cX7_digest 171 = .ok (.ladd, 1) := by decide +kernel
theorem dX7_digest_172 : decode cX7_digest 172 = .ok (.lstore_n 1, 1) := by decide +kernel
theorem dX7_digest_173 : decode cX7_digest 173 = .ok (.iinc 3 1, 3) := by decide +kernel
theorem dX7_digest_176 : decode cX7_digest 176 = .ok (.goto (-20), 3) := by decide +kernel
theorem dX7_digest_179 : decode cX7_digest 179 = .ok (.ldc2_w 299, 3) := by decide +kernel
theorem dX7_digest_182 : decode cX7_digest 182 = .ok (.lload_n 1, 1) := by decide +kernel
theorem dX7_digest_183 : decode cX7_digest 183 = .ok (.lmul, 1) := by decide +kernel
theorem dX7_digest_184 : decode cX7_digest 184 = .ok (.aload_n 0, 1) := by decide +kernel
theorem dX7_digest_185 : decode cX7_digest 185 = .ok (.bipush 7, 2) := by decide +kernel
theorem dX7_digest_187 : decode cX7_digest 187 = .ok (.invokevirtual 328, 3) := by decide +kernel
theorem dX7_digest_190 : decode cX7_digest 190 = .ok (.i2l, 1) := by decide +kernel
theorem dX7_digest_191 : decode cX7_digest 191 = .ok (.ladd, 1) := by decide +kernel
theorem dX7_digest_192 : decode cX7_digest 192 = .ok (.lstore_n 1, 1) := by decide +kernel
theorem dX7_digest_193 : decode cX7_digest 193 = .ok (.ldc2_w 299, 3) := by decide +kernel
theorem dX7_digest_196 : decode cX7_digest 196 = .ok (.lload_n 1, 1) := by decide +kernel
theorem dX7_digest_197 : decode cX7_digest 197 = .ok (.lmul, 1) := by decide +kernel
theorem dX7_digest_198 : decode cX7_digest 198 = .ok (.aload_n 0, 1) := by decide +kernel
theorem dX7_digest_199 : decode cX7_digest 199 = .ok (.iconst (-1), 1) := by decide +kernel
theorem dX7_digest_200 : decode cX7_digest 200 = .ok (.iconst 0, 1) := by decide +kernel
theorem dX7_digest_201 : decode cX7_digest 201 = .ok (.invokevirtual 331, 3) := by decide +kernel
theorem dX7_digest_204 : decode cX7_digest 204 = .ok (.i2l, 1) := by decide +kernel
theorem dX7_digest_205 : decode cX7_digest 205 = .ok (.ladd, 1) := by decide +kernel
theorem dX7_digest_206 : decode cX7_digest 206 = .ok (.lstore_n 1, 1) := by decide +kernel
theorem dX7_digest_207 : decode cX7_digest 207 = .ok (.ldc2_w 299, 3) := by decide +kernel
theorem dX7_digest_210 : decode cX7_digest 210 = .ok (.lload_n 1, 1) := by decide +kernel
theorem dX7_digest_211 : decode cX7_digest 211 = .ok (.lmul, 1) := by decide +kernel
theorem dX7_digest_212 : decode cX7_digest 212 = .ok (.aload_n 0, 1) := by decide +kernel
theorem dX7_digest_213 : decode cX7_digest 213 = .ok (.iconst (-1), 1) := by decide +kernel
theorem dX7_digest_214 : decode cX7_digest 214 = .ok (.iconst 1, 1) := by decide +kernel
theorem dX7_digest_215 : decode cX7_digest 215 = .ok (.invokevirtual 331, 3) := by decide +kernel
theorem dX7_digest_218 : decode cX7_digest 218 = .ok (.i2l, 1) := by decide +kernel
theorem dX7_digest_219 : decode cX7_digest 219 = .ok (.ladd, 1) := by decide +kernel
theorem dX7_digest_220 : decode cX7_digest 220 = .ok (.lstore_n 1, 1) := by decide +kernel
theorem dX7_digest_221 : decode cX7_digest 221 = .ok (.ldc2_w 299, 3) := by decide +kernel
theorem dX7_digest_224 : decode cX7_digest 224 = .ok (.lload_n 1, 1) := by decide +kernel
theorem dX7_digest_225 : decode cX7_digest 225 = .ok (.lmul, 1) := by decide +kernel
theorem dX7_digest_226 : decode cX7_digest 226 = .ok (.aload_n 0, 1) := by decide +kernel
theorem dX7_digest_227 : decode cX7_digest 227 = .ok (.iconst 5, 1) := by decide +kernel
theorem dX7_digest_228 : decode cX7_digest 228 = .ok (.iconst 0, 1) := by decide +kernel
theorem dX7_digest_229 : decode cX7_digest 229 = .ok (.invokevirtual 331, 3) := by decide +kernel
theorem dX7_digest_232 : decode cX7_digest 232 = .ok (.i2l, 1) := by decide +kernel
theorem dX7_digest_233 : decode cX7_digest 233 = .ok (.ladd, 1) := by decide +kernel
theorem dX7_digest_234 : decode cX7_digest 234 = .ok (.lstore_n 1, 1) := by decide +kernel
theorem dX7_digest_235 : decode cX7_digest 235 = .ok (.ldc2_w 299, 3) := by decide +kernel
theorem dX7_digest_238 : decode cX7_digest 238 = .ok (.lload_n 1, 1) := by decide +kernel
theorem dX7_digest_239 : decode cX7_digest 239 = .ok (.lmul, 1) := by decide +kernel
theorem dX7_digest_240 : decode cX7_digest 240 = .ok (.aload_n 0, 1) := by decide +kernel
theorem dX7_digest_241 : decode cX7_digest 241 = .ok (.iconst 5, 1) := by decide +kernel
theorem dX7_digest_242 : decode cX7_digest 242 = .ok (.iconst 1, 1) := by decide +kernel
theorem dX7_digest_243 : decode cX7_digest 243 = .ok (.invokevirtual 331, 3) := by decide +kernel
theorem dX7_digest_246 : decode cX7_digest 246 = .ok (.i2l, 1) := by decide +kernel
theorem dX7_digest_247 : decode cX7_digest 247 = .ok (.ladd, 1) := by decide +kernel
theorem dX7_digest_248 : decode cX7_digest 248 = .ok (.lstore_n 1, 1) := by decide +kernel
theorem dX7_digest_249 : decode cX7_digest 249 = .ok (.ldc2_w 299, 3) := by decide +kernel
theorem dX7_digest_252 : decode cX7_digest 252 = .ok (.lload_n 1, 1) := by decide +kernel
theorem dX7_digest_253 : decode cX7_digest 253 = .ok (.lmul, 1) := by decide +kernel
theorem dX7_digest_254 : decode cX7_digest 254 = .ok (.aload_n 0, 1) := by decide +kernel
theorem dX7_digest_255 : decode cX7_digest 255 = .ok (.invokevirtual 334, 3) := by decide +kernel
theorem dX7_digest_258 : decode cX7_digest 258 = .ok (.i2l, 1) := by decide +kernel
theorem dX7_digest_259 : decode cX7_digest 259 = .ok (.ladd, 1) := by decide +kernel
theorem dX7_digest_260 : decode cX7_digest 260 = .ok (.lreturn, 1) := by decide +kernel
theorem dX7_digestOfVerse_0 : decode cX7_digestOfVerse 0 = .ok (.lload_n 1, 1) := by decide +kernel
theorem dX7_digestOfVerse_1 : decode cX7_digestOfVerse 1 = .ok (.lstore 4, 2) := by decide +kernel
theorem dX7_digestOfVerse_3 : decode cX7_digestOfVerse 3 = .ok (.iconst 0, 1) := by decide +kernel
theorem dX7_digestOfVerse_4 : decode cX7_digestOfVerse 4 = .ok (.istore 6, 2) := by decide +kernel
theorem dX7_digestOfVerse_6 : decode cX7_digestOfVerse 6 = .ok (.iload 6, 2) := by decide +kernel
theorem dX7_digestOfVerse_8 : decode cX7_digestOfVerse 8 = .ok (.iconst 5, 1) := by decide +kernel
theorem dX7_digestOfVerse_9 : decode cX7_digestOfVerse 9 = .ok (.if_icmp .gt 26, 3) := by decide +kernel
theorem dX7_digestOfVerse_12 : decode cX7_digestOfVerse 12 = .ok (.ldc2_w 299, 3) := by decide +kernel
theorem dX7_digestOfVerse_15 : decode cX7_digestOfVerse 15 = .ok (.lload 4, 2) := by decide +kernel
theorem dX7_digestOfVerse_17 : decode cX7_digestOfVerse 17 = .ok (.lmul, 1) := by decide +kernel
theorem dX7_digestOfVerse_18 : decode cX7_digestOfVerse 18 = .ok (.aload_n 0, 1) := by decide +kernel
theorem dX7_digestOfVerse_19 : decode cX7_digestOfVerse 19 = .ok (.iload_n 3, 1) := by decide +kernel
theorem dX7_digestOfVerse_20 : decode cX7_digestOfVerse 20 = .ok (.iload 6, 2) := by decide +kernel
theorem dX7_digestOfVerse_22 : decode cX7_digestOfVerse 22 = .ok (.invokevirtual 337, 3) := by decide +kernel
theorem dX7_digestOfVerse_25 : decode cX7_digestOfVerse 25 = .ok (.i2l, 1) := by decide +kernel
theorem dX7_digestOfVerse_26 : decode cX7_digestOfVerse 26 = .ok (.ladd, 1) := by decide +kernel
theorem dX7_digestOfVerse_27 : decode cX7_digestOfVerse 27 = .ok (.lstore 4, 2) := by decide +kernel
theorem dX7_digestOfVerse_29 : decode cX7_digestOfVerse 29 = .ok (.iinc 6 1, 3) := by decide +kernel
theorem dX7_digestOfVerse_32 : decode cX7_digestOfVerse 32 = .ok (.goto (-26), 3) := by decide +kernel
theorem dX7_digestOfVerse_35 : decode cX7_digestOfVerse 35 = .ok (.iconst 0, 1) := by decide +kernel
theorem dX7_digestOfVerse_36 : decode cX7_digestOfVerse 36 = .ok (.istore 6, 2) := by decide +kernel
theorem dX7_digestOfVerse_38 : decode cX7_digestOfVerse 38 = .ok (.iload 6, 2) := by decide +kernel
theorem dX7_digestOfVerse_40 : decode cX7_digestOfVerse 40 = .ok (.iconst 4, 1) := by decide +kernel
theorem dX7_digestOfVerse_41 : decode cX7_digestOfVerse 41 = .ok (.if_icmp .gt 26, 3) := by decide +kernel
theorem dX7_digestOfVerse_44 : decode cX7_digestOfVerse 44 = .ok (.ldc2_w 299, 3) := by decide +kernel
theorem dX7_digestOfVerse_47 : decode cX7_digestOfVerse 47 = .ok (.lload 4, 2) := by decide +kernel
theorem dX7_digestOfVerse_49 : decode cX7_digestOfVerse 49 = .ok (.lmul, 1) := by decide +kernel
theorem dX7_digestOfVerse_50 : decode cX7_digestOfVerse 50 = .ok (.aload_n 0, 1) := by decide +kernel
theorem dX7_digestOfVerse_51 : decode cX7_digestOfVerse 51 = .ok (.iload_n 3, 1) := by decide +kernel
theorem dX7_digestOfVerse_52 : decode cX7_digestOfVerse 52 = .ok (.iload 6, 2) := by decide +kernel
theorem dX7_digestOfVerse_54 : decode cX7_digestOfVerse 54 = .ok (.invokevirtual 340, 3) := by decide +kernel
theorem dX7_digestOfVerse_57 : decode cX7_digestOfVerse 57 = .ok (.i2l, 1) := by decide +kernel
theorem dX7_digestOfVerse_58 : decode cX7_digestOfVerse 58 = .ok (.ladd, 1) := by decide +kernel
theorem dX7_digestOfVerse_59 : decode cX7_digestOfVerse 59 = .ok (.lstore 4, 2) := by decide +kernel
theorem dX7_digestOfVerse_61 : decode cX7_digestOfVerse 61 = .ok (.iinc 6 1, 3) := by decide +kernel
theorem dX7_digestOfVerse_64 : decode cX7_digestOfVerse 64 = .ok (.goto (-26), 3) := by decide +kernel
theorem dX7_digestOfVerse_67 : decode cX7_digestOfVerse 67 = .ok (.ldc2_w 299, 3) := by decide +kernel
theorem dX7_digestOfVerse_70 : decode cX7_digestOfVerse 70 = .ok (.lload 4, 2) := by decide +kernel
theorem dX7_digestOfVerse_72 : decode cX7_digestOfVerse 72 = .ok (.lmul, 1) := by decide +kernel
theorem dX7_digestOfVerse_73 : decode cX7_digestOfVerse 73 = .ok (.aload_n 0, 1) := by decide +kernel
theorem dX7_digestOfVerse_74 : decode cX7_digestOfVerse 74 = .ok (.iload_n 3, 1) := by decide +kernel
theorem dX7_digestOfVerse_75 : decode cX7_digestOfVerse 75 = .ok (.invokevirtual 343, 3) := by decide +kernel
theorem dX7_digestOfVerse_78 : decode cX7_digestOfVerse 78 = .ok (.i2l, 1) := by decide +kernel
theorem dX7_digestOfVerse_79 : decode cX7_digestOfVerse 79 = .ok (.ladd, 1) := by decide +kernel
theorem dX7_digestOfVerse_80 : decode cX7_digestOfVerse 80 = .ok (.lreturn, 1) := by decide +kernel
theorem dX7_digestOfBreaths_0 : decode cX7_digestOfBreaths 0 = .ok (.lload_n 1, 1) := by decide +kernel
theorem dX7_digestOfBreaths_1 : decode cX7_digestOfBreaths 1 = .ok (.lstore_n 3, 1) := by decide +kernel
theorem dX7_digestOfBreaths_2 : decode cX7_digestOfBreaths 2 = .ok (.iconst 0, 1) := by decide +kernel
theorem dX7_digestOfBreaths_3 : decode cX7_digestOfBreaths 3 = .ok (.istore 5, 2) := by decide +kernel
theorem dX7_digestOfBreaths_5 : decode cX7_digestOfBreaths 5 = .ok (.iload 5, 2) := by decide +kernel
theorem dX7_digestOfBreaths_7 : decode cX7_digestOfBreaths 7 = .ok (.iconst 3, 1) := by decide +kernel
theorem dX7_digestOfBreaths_8 : decode cX7_digestOfBreaths 8 = .ok (.if_icmp .gt 23, 3) := by decide +kernel
theorem dX7_digestOfBreaths_11 : decode cX7_digestOfBreaths 11 = .ok (.ldc2_w 299, 3) := by decide +kernel
theorem dX7_digestOfBreaths_14 : decode cX7_digestOfBreaths 14 = .ok (.lload_n 3, 1) := by decide +kernel
theorem dX7_digestOfBreaths_15 : decode cX7_digestOfBreaths 15 = .ok (.lmul, 1) := by decide +kernel
theorem dX7_digestOfBreaths_16 : decode cX7_digestOfBreaths 16 = .ok (.aload_n 0, 1) := by decide +kernel
theorem dX7_digestOfBreaths_17 : decode cX7_digestOfBreaths 17 = .ok (.iload 5, 2) := by decide +kernel
theorem dX7_digestOfBreaths_19 : decode cX7_digestOfBreaths 19 = .ok (.invokevirtual 346, 3) := by decide +kernel
theorem dX7_digestOfBreaths_22 : decode cX7_digestOfBreaths 22 = .ok (.i2l, 1) := by decide +kernel
theorem dX7_digestOfBreaths_23 : decode cX7_digestOfBreaths 23 = .ok (.ladd, 1) := by decide +kernel
theorem dX7_digestOfBreaths_24 : decode cX7_digestOfBreaths 24 = .ok (.lstore_n 3, 1) := by decide +kernel
theorem dX7_digestOfBreaths_25 : decode cX7_digestOfBreaths 25 = .ok (.iinc 5 1, 3) := by decide +kernel
theorem dX7_digestOfBreaths_28 : decode cX7_digestOfBreaths 28 = .ok (.goto (-23), 3) := by decide +kernel
theorem dX7_digestOfBreaths_31 : decode cX7_digestOfBreaths 31 = .ok (.ldc2_w 299, 3) := by decide +kernel
theorem dX7_digestOfBreaths_34 : decode cX7_digestOfBreaths 34 = .ok (.lload_n 3, 1) := by decide +kernel
theorem dX7_digestOfBreaths_35 : decode cX7_digestOfBreaths 35 = .ok (.lmul, 1) := by decide +kernel
theorem dX7_digestOfBreaths_36 : decode cX7_digestOfBreaths 36 = .ok (.aload_n 0, 1) := by decide +kernel
theorem dX7_digestOfBreaths_37 : decode cX7_digestOfBreaths 37 = .ok (.invokevirtual 349, 3) := by decide +kernel
theorem dX7_digestOfBreaths_40 : decode cX7_digestOfBreaths 40 = .ok (.i2l, 1) := by decide +kernel
theorem dX7_digestOfBreaths_41 : decode cX7_digestOfBreaths 41 = .ok (.ladd, 1) := by decide +kernel
theorem dX7_digestOfBreaths_42 : decode cX7_digestOfBreaths 42 = .ok (.lstore_n 3, 1) := by decide +kernel
theorem dX7_digestOfBreaths_43 : decode cX7_digestOfBreaths 43 = .ok (.iconst 0, 1) := by decide +kernel
theorem dX7_digestOfBreaths_44 : decode cX7_digestOfBreaths 44 = .ok (.istore 5, 2) := by decide +kernel
theorem dX7_digestOfBreaths_46 : decode cX7_digestOfBreaths 46 = .ok (.iload 5, 2) := by decide +kernel
theorem dX7_digestOfBreaths_48 : decode cX7_digestOfBreaths 48 = .ok (.bipush 9, 2) := by decide +kernel
theorem dX7_digestOfBreaths_50 : decode cX7_digestOfBreaths 50 = .ok (.if_icmp .gt 40, 3) := by decide +kernel
theorem dX7_digestOfBreaths_53 : decode cX7_digestOfBreaths 53 = .ok (.iconst 0, 1) := by decide +kernel
theorem dX7_digestOfBreaths_54 : decode cX7_digestOfBreaths 54 = .ok (.istore 6, 2) := by decide +kernel
theorem dX7_digestOfBreaths_56 : decode cX7_digestOfBreaths 56 = .ok (.iload 6, 2) := by decide +kernel
theorem dX7_digestOfBreaths_58 : decode cX7_digestOfBreaths 58 = .ok (.iconst 2, 1) := by decide +kernel
theorem dX7_digestOfBreaths_59 : decode cX7_digestOfBreaths 59 = .ok (.if_icmp .gt 25, 3) := by decide +kernel
theorem dX7_digestOfBreaths_62 : decode cX7_digestOfBreaths 62 = .ok (.ldc2_w 299, 3) := by decide +kernel
theorem dX7_digestOfBreaths_65 : decode cX7_digestOfBreaths 65 = .ok (.lload_n 3, 1) := by decide +kernel
theorem dX7_digestOfBreaths_66 : decode cX7_digestOfBreaths 66 = .ok (.lmul, 1) := by decide +kernel
theorem dX7_digestOfBreaths_67 : decode cX7_digestOfBreaths 67 = .ok (.aload_n 0, 1) := by decide +kernel
theorem dX7_digestOfBreaths_68 : decode cX7_digestOfBreaths 68 = .ok (.iload 5, 2) := by decide +kernel
theorem dX7_digestOfBreaths_70 : decode cX7_digestOfBreaths 70 = .ok (.iload 6, 2) := by decide +kernel
theorem dX7_digestOfBreaths_72 : decode cX7_digestOfBreaths 72 = .ok (.invokevirtual 352, 3) := by decide +kernel
theorem dX7_digestOfBreaths_75 : decode cX7_digestOfBreaths 75 = .ok (.i2l, 1) := by decide +kernel
theorem dX7_digestOfBreaths_76 : decode cX7_digestOfBreaths 76 = .ok (.ladd, 1) := by decide +kernel
theorem dX7_digestOfBreaths_77 : decode cX7_digestOfBreaths 77 = .ok (.lstore_n 3, 1) := by decide +kernel
theorem dX7_digestOfBreaths_78 : decode cX7_digestOfBreaths 78 = .ok (.iinc 6 1, 3) := by decide +kernel
theorem dX7_digestOfBreaths_81 : decode cX7_digestOfBreaths 81 = .ok (.goto (-25), 3) := by decide +kernel
theorem dX7_digestOfBreaths_84 : decode cX7_digestOfBreaths 84 = .ok (.iinc 5 1, 3) := by decide +kernel
theorem dX7_digestOfBreaths_87 : decode cX7_digestOfBreaths 87 = .ok (.goto (-41), 3) := by decide +kernel
theorem dX7_digestOfBreaths_90 : decode cX7_digestOfBreaths 90 = .ok (.lload_n 3, 1) := by decide +kernel
theorem dX7_digestOfBreaths_91 : decode cX7_digestOfBreaths 91 = .ok (.lreturn, 1) := by decide +kernel
theorem dX7_isText_0 : decode cX7_isText 0 = .ok (.iload_n 0, 1) := by decide +kernel
theorem dX7_isText_1 : decode cX7_isText 1 = .ok (.ifCond .eq 8, 3) := by decide +kernel
theorem dX7_isText_4 : decode cX7_isText 4 = .ok (.iload_n 0, 1) := by decide +kernel
theorem dX7_isText_5 : decode cX7_isText 5 = .ok (.iconst 1, 1) := by decide +kernel
theorem dX7_isText_6 : decode cX7_isText 6 = .ok (.if_icmp .ne 7, 3) := by decide +kernel
theorem dX7_isText_9 : decode cX7_isText 9 = .ok (.iconst 1, 1) := by decide +kernel
theorem dX7_isText_10 : decode cX7_isText 10 = .ok (.goto 4, 3) := by decide +kernel
theorem dX7_isText_13 : decode cX7_isText 13 = .ok (.iconst 0, 1) := by decide +kernel
theorem dX7_isText_14 : decode cX7_isText 14 = .ok (.ireturn, 1) := by decide +kernel
theorem dX7_scriptOf_0 : decode cX7_scriptOf 0 = .ok (.iload_n 1, 1) := by decide +kernel
theorem dX7_scriptOf_1 : decode cX7_scriptOf 1 = .ok (.ifCond .ne 10, 3) := by decide +kernel
theorem dX7_scriptOf_4 : decode cX7_scriptOf 4 = .ok (.aload_n 0, 1) := by decide +kernel
theorem dX7_scriptOf_5 : decode cX7_scriptOf 5 = .ok (.getfield 18, 3) := by decide +kernel
theorem dX7_scriptOf_8 : decode cX7_scriptOf 8 = .ok (.goto 7, 3) := by decide +kernel
theorem dX7_scriptOf_11 : decode cX7_scriptOf 11 = .ok (.aload_n 0, 1) := by decide +kernel
theorem dX7_scriptOf_12 : decode cX7_scriptOf 12 = .ok (.getfield 22, 3) := by decide +kernel
theorem dX7_scriptOf_15 : decode cX7_scriptOf 15 = .ok (.areturn, 1) := by decide +kernel
theorem dX7_isVerse_0 : decode cX7_isVerse 0 = .ok (.iload_n 1, 1) := by decide +kernel
theorem dX7_isVerse_1 : decode cX7_isVerse 1 = .ok (.ifCond .lt 18, 3) := by decide +kernel
theorem dX7_isVerse_4 : decode cX7_isVerse 4 = .ok (.iload_n 1, 1) := by decide +kernel
theorem dX7_isVerse_5 : decode cX7_isVerse 5 = .ok (.aload_n 0, 1) := by decide +kernel
theorem dX7_isVerse_6 : decode cX7_isVerse 6 = .ok (.getfield 18, 3) := by decide +kernel
theorem dX7_isVerse_9 : decode cX7_isVerse 9 = .ok (.getfield 92, 3) := by decide +kernel
theorem dX7_isVerse_12 : decode cX7_isVerse 12 = .ok (.if_icmp .ge 7, 3) := by decide +kernel
theorem dX7_isVerse_15 : decode cX7_isVerse 15 = .ok (.iconst 1, 1) := by decide +kernel
theorem dX7_isVerse_16 : decode cX7_isVerse 16 = .ok (.goto 4, 3) := by decide +kernel
theorem dX7_isVerse_19 : decode cX7_isVerse 19 = .ok (.iconst 0, 1) := by decide +kernel
theorem dX7_isVerse_20 : decode cX7_isVerse 20 = .ok (.ireturn, 1) := by decide +kernel
theorem dX7_isSheet_0 : decode cX7_isSheet 0 = .ok (.iload_n 0, 1) := by decide +kernel
theorem dX7_isSheet_1 : decode cX7_isSheet 1 = .ok (.ifCond .lt 12, 3) := by decide +kernel
theorem dX7_isSheet_4 : decode cX7_isSheet 4 = .ok (.iload_n 0, 1) := by decide +kernel
theorem dX7_isSheet_5 : decode cX7_isSheet 5 = .ok (.iconst 4, 1) := by decide +kernel
theorem dX7_isSheet_6 : decode cX7_isSheet 6 = .ok (.if_icmp .ge 7, 3) := by decide +kernel
theorem dX7_isSheet_9 : decode cX7_isSheet 9 = .ok (.iconst 1, 1) := by decide +kernel
theorem dX7_isSheet_10 : decode cX7_isSheet 10 = .ok (.goto 4, 3) := by decide +kernel
theorem dX7_isSheet_13 : decode cX7_isSheet 13 = .ok (.iconst 0, 1) := by decide +kernel
theorem dX7_isSheet_14 : decode cX7_isSheet 14 = .ok (.ireturn, 1) := by decide +kernel
theorem dX7_isForm_0 : decode cX7_isForm 0 = .ok (.iload_n 0, 1) := by decide +kernel
theorem dX7_isForm_1 : decode cX7_isForm 1 = .ok (.ifCond .lt 12, 3) := by decide +kernel
theorem dX7_isForm_4 : decode cX7_isForm 4 = .ok (.iload_n 0, 1) := by decide +kernel
theorem dX7_isForm_5 : decode cX7_isForm 5 = .ok (.iconst 3, 1) := by decide +kernel
theorem dX7_isForm_6 : decode cX7_isForm 6 = .ok (.if_icmp .ge 7, 3) := by decide +kernel
theorem dX7_isForm_9 : decode cX7_isForm 9 = .ok (.iconst 1, 1) := by decide +kernel
theorem dX7_isForm_10 : decode cX7_isForm 10 = .ok (.goto 4, 3) := by decide +kernel
theorem dX7_isForm_13 : decode cX7_isForm 13 = .ok (.iconst 0, 1) := by decide +kernel
theorem dX7_isForm_14 : decode cX7_isForm 14 = .ok (.ireturn, 1) := by decide +kernel
theorem dX7_tellAnew_0 : decode cX7_tellAnew 0 = .ok (.aload_n 0, 1) := by decide +kernel
theorem dX7_tellAnew_1 : decode cX7_tellAnew 1 = .ok (.getfield 28, 3) := by decide +kernel
theorem dX7_tellAnew_4 : decode cX7_tellAnew 4 = .ok (.aload_n 0, 1) := by decide +kernel
theorem dX7_tellAnew_5 : decode cX7_tellAnew 5 = .ok (.getfield 7, 3) := by decide +kernel
theorem dX7_tellAnew_8 : decode cX7_tellAnew 8 = .ok (.invokevirtual 195, 3) := by decide +kernel
theorem dX7_tellAnew_11 : decode cX7_tellAnew 11 = .ok (.aload_n 0, 1) := by decide +kernel
theorem dX7_tellAnew_12 : decode cX7_tellAnew 12 = .ok (.getfield 28, 3) := by decide +kernel
theorem dX7_tellAnew_15 : decode cX7_tellAnew 15 = .ok (.aload_n 0, 1) := by decide +kernel
theorem dX7_tellAnew_16 : decode cX7_tellAnew 16 = .ok (.getfield 18, 3) := by decide +kernel
theorem dX7_tellAnew_19 : decode cX7_tellAnew 19 = .ok (.invokevirtual 202, 3) := by decide +kernel
theorem dX7_tellAnew_22 : decode cX7_tellAnew 22 = .ok (.aload_n 0, 1) := by decide +kernel
theorem dX7_tellAnew_23 : decode cX7_tellAnew 23 = .ok (.iconst 0, 1) := by decide +kernel
theorem dX7_tellAnew_24 : decode cX7_tellAnew 24 = .ok (.putfield 174, 3) := by decide +kernel
theorem dX7_tellAnew_27 : decode cX7_tellAnew 27 = .ok (.aload_n 0, 1) := by decide +kernel
theorem dX7_tellAnew_28 : decode cX7_tellAnew 28 = .ok (.iconst 0, 1) := by decide +kernel
theorem dX7_tellAnew_29 : decode cX7_tellAnew 29 = .ok (.putfield 184, 3) := by decide +kernel
theorem dX7_tellAnew_32 : decode cX7_tellAnew 32 = .ok (.return_, 1) := by decide +kernel
theorem dX7_sixteenths_0 : decode cX7_sixteenths 0 = .ok (.iconst 0, 1) := by decide +kernel
theorem dX7_sixteenths_1 : decode cX7_sixteenths 1 = .ok (.aload_n 0, 1) := by decide +kernel
theorem dX7_sixteenths_2 : decode cX7_sixteenths 2 = .ok (.getfield 28, 3) := by decide +kernel
theorem dX7_sixteenths_5 : decode cX7_sixteenths 5 = .ok (.iload_n 1, 1) := by decide +kernel
theorem dX7_sixteenths_6 : decode cX7_sixteenths 6 = .ok (.invokevirtual 110, 3) := by decide +kernel
theorem dX7_sixteenths_9 : decode cX7_sixteenths 9 = .ok (.getfield 126, 3) := by decide +kernel
theorem dX7_sixteenths_12 : decode cX7_sixteenths 12 = .ok (.iconst 5, 1) := by decide +kernel
theorem dX7_sixteenths_13 : decode cX7_sixteenths 13 = .ok (.isub, 1) := by decide +kernel
theorem dX7_sixteenths_14 : decode cX7_sixteenths 14 = .ok (.invokestatic 355, 3) := by decide +kernel
theorem dX7_sixteenths_17 : decode cX7_sixteenths 17 = .ok (.ireturn, 1) := by decide +kernel
theorem dX7_errorsBy_0 : decode cX7_errorsBy 0 = .ok (.iconst 0, 1) := by decide +kernel
theorem dX7_errorsBy_1 : decode cX7_errorsBy 1 = .ok (.istore_n 3, 1) := by decide +kernel
theorem dX7_errorsBy_2 : decode cX7_errorsBy 2 = .ok (.iconst 0, 1) := by decide +kernel
theorem dX7_errorsBy_3 : decode cX7_errorsBy 3 = .ok (.istore 4, 2) := by decide +kernel
theorem dX7_errorsBy_5 : decode cX7_errorsBy 5 = .ok (.iload 4, 2) := by decide +kernel
theorem dX7_errorsBy_7 : decode cX7_errorsBy 7 = .ok (.aload_n 0, 1) := by decide +kernel
theorem dX7_errorsBy_8 : decode cX7_errorsBy 8 = .ok (.getfield 18, 3) := by decide +kernel
theorem dX7_errorsBy_11 : decode cX7_errorsBy 11 = .ok (.getfield 92, 3) := by decide +kernel
theorem dX7_errorsBy_14 : decode cX7_errorsBy 14 = .ok (.if_icmp .ge 76, 3) := by decide +kernel
theorem dX7_errorsBy_17 : decode cX7_errorsBy 17 = .ok (.aload_n 0, 1) := by decide +kernel
theorem dX7_errorsBy_18 : decode cX7_errorsBy 18 = .ok (.getfield 18, 3) := by decide +kernel
theorem dX7_errorsBy_21 : decode cX7_errorsBy 21 = .ok (.iload 4, 2) := by decide +kernel
theorem dX7_errorsBy_23 : decode cX7_errorsBy 23 = .ok (.iconst 2, 1) := by decide +kernel
theorem dX7_errorsBy_24 : decode cX7_errorsBy 24 = .ok (.invokevirtual 114, 3) := by decide +kernel
theorem dX7_errorsBy_27 : decode cX7_errorsBy 27 = .ok (.iload_n 1, 1) := by decide +kernel
theorem dX7_errorsBy_28 : decode cX7_errorsBy 28 = .ok (.if_icmp .lt 7, 3) := by decide +kernel
theorem dX7_errorsBy_31 : decode cX7_errorsBy 31 = .ok (.iconst 1, 1) := by decide +kernel
theorem dX7_errorsBy_32 : decode cX7_errorsBy 32 = .ok (.goto 4, 3) := by decide +kernel
theorem dX7_errorsBy_35 : decode cX7_errorsBy 35 = .ok (.iconst 0, 1) := by decide +kernel
theorem dX7_errorsBy_36 : decode cX7_errorsBy 36 = .ok (.istore 5, 2) := by decide +kernel
theorem dX7_errorsBy_38 : decode cX7_errorsBy 38 = .ok (.aload_n 0, 1) := by decide +kernel
theorem dX7_errorsBy_39 : decode cX7_errorsBy 39 = .ok (.getfield 7, 3) := by decide +kernel
theorem dX7_errorsBy_42 : decode cX7_errorsBy 42 = .ok (.iconst 5, 1) := by decide +kernel
theorem dX7_errorsBy_43 : decode cX7_errorsBy 43 = .ok (.iaload, 1) := by decide +kernel
theorem dX7_errorsBy_44 : decode cX7_errorsBy 44 = .ok (.iload 4, 2) := by decide +kernel
theorem dX7_errorsBy_46 : decode cX7_errorsBy 46 = .ok (.ishr, 1) := by decide +kernel
theorem dX7_errorsBy_47 : decode cX7_errorsBy 47 = .ok (.iconst 1, 1) := by decide +kernel
theorem dX7_errorsBy_48 : decode cX7_errorsBy 48 = .ok (.iand, 1) := by decide +kernel
theorem dX7_errorsBy_49 : decode cX7_errorsBy 49 = .ok (.iconst 1, 1) := by decide +kernel
theorem dX7_errorsBy_50 : decode cX7_errorsBy 50 = .ok (.if_icmp .ne 7, 3) := by decide +kernel
theorem dX7_errorsBy_53 : decode cX7_errorsBy 53 = .ok (.iconst 1, 1) := by decide +kernel
theorem dX7_errorsBy_54 : decode cX7_errorsBy 54 = .ok (.goto 4, 3) := by decide +kernel
theorem dX7_errorsBy_57 : decode cX7_errorsBy 57 = .ok (.iconst 0, 1) := by decide +kernel
theorem dX7_errorsBy_58 : decode cX7_errorsBy 58 = .ok (.istore 6, 2) := by decide +kernel
theorem dX7_errorsBy_60 : decode cX7_errorsBy 60 = .ok (.iload 5, 2) := by decide +kernel
theorem dX7_errorsBy_62 : decode cX7_errorsBy 62 = .ok (.iload 6, 2) := by decide +kernel
theorem dX7_errorsBy_64 : decode cX7_errorsBy 64 = .ok (.if_icmp .eq 20, 3) := by decide +kernel
theorem dX7_errorsBy_67 : decode cX7_errorsBy 67 = .ok (.iload 5, 2) := by decide +kernel
theorem dX7_errorsBy_69 : decode cX7_errorsBy 69 = .ok (.iload_n 2, 1) := by decide +kernel
theorem dX7_errorsBy_70 : decode cX7_errorsBy 70 = .ok (.ifCond .ne 7, 3) := by decide +kernel
theorem dX7_errorsBy_73 : decode cX7_errorsBy 73 = .ok (.iconst 1, 1) := by decide +kernel
theorem dX7_errorsBy_74 : decode cX7_errorsBy 74 = .ok (.goto 4, 3) := by decide +kernel
theorem dX7_errorsBy_77 : decode cX7_errorsBy 77 = .ok (.iconst 0, 1) := by decide +kernel
theorem dX7_errorsBy_78 : decode cX7_errorsBy 78 = .ok (.if_icmp .ne 6, 3) := by decide +kernel
theorem dX7_errorsBy_81 : decode cX7_errorsBy 81 = .ok (.iinc 3 1, 3) := by decide +kernel
theorem dX7_errorsBy_84 : decode cX7_errorsBy 84 = .ok (.iinc 4 1, 3) := by decide +kernel
theorem dX7_errorsBy_87 : decode cX7_errorsBy 87 = .ok (.goto (-82), 3) := by decide +kernel
theorem dX7_errorsBy_90 : decode cX7_errorsBy 90 = .ok (.iload_n 3, 1) := by decide +kernel
theorem dX7_errorsBy_91 : decode cX7_errorsBy 91 = .ok (.ireturn, 1) := by decide +kernel
theorem dX7_bestLine_0 : decode cX7_bestLine 0 = .ok (.iconst 0, 1) := by decide +kernel
theorem dX7_bestLine_1 : decode cX7_bestLine 1 = .ok (.istore_n 1, 1) := by decide +kernel
theorem dX7_bestLine_2 : decode cX7_bestLine 2 = .ok (.bipush 13, 2) := by decide +kernel
theorem dX7_bestLine_4 : decode cX7_bestLine 4 = .ok (.istore_n 2, 1) := by decide +kernel
theorem dX7_bestLine_5 : decode cX7_bestLine 5 = .ok (.iconst 0, 1) := by decide +kernel
theorem dX7_bestLine_6 : decode cX7_bestLine 6 = .ok (.istore_n 3, 1) := by decide +kernel
theorem dX7_bestLine_7 : decode cX7_bestLine 7 = .ok (.iload_n 3, 1) := by decide +kernel
theorem dX7_bestLine_8 : decode cX7_bestLine 8 = .ok (.bipush 10, 2) := by decide +kernel
theorem dX7_bestLine_10 : decode cX7_bestLine 10 = .ok (.if_icmp .gt 35, 3) := by decide +kernel
theorem dX7_bestLine_13 : decode cX7_bestLine 13 = .ok (.aload_n 0, 1) := by decide +kernel
theorem dX7_bestLine_14 : decode cX7_bestLine 14 = .ok (.iload_n 3, 1) := by decide +kernel
theorem dX7_bestLine_15 : decode cX7_bestLine 15 = .ok (.iconst 0, 1) := by decide +kernel
theorem dX7_bestLine_16 : decode cX7_bestLine 16 = .ok (.invokevirtual 219, 3) := by decide +kernel
theorem dX7_bestLine_19 : decode cX7_bestLine 19 = .ok (.aload_n 0, 1) := by decide +kernel
theorem dX7_bestLine_20 : decode cX7_bestLine 20 = .ok (.iload_n 3, 1) := by decide +kernel
theorem dX7_bestLine_21 : decode cX7_bestLine 21 = .ok (.iconst 1, 1) := by decide +kernel
theorem dX7_bestLine_22 : decode cX7_bestLine 22 = .ok (.invokevirtual 219, 3) := by decide +kernel
theorem dX7_bestLine_25 : decode cX7_bestLine 25 = .ok (.iadd, 1) := by decide +kernel
theorem dX7_bestLine_26 : decode cX7_bestLine 26 = .ok (.istore 4, 2) := by decide +kernel
theorem dX7_bestLine_28 : decode cX7_bestLine 28 = .ok (.iload 4, 2) := by decide +kernel
theorem dX7_bestLine_30 : decode cX7_bestLine 30 = .ok (.iload_n 2, 1) := by decide +kernel
theorem dX7_bestLine_31 : decode cX7_bestLine 31 = .ok (.if_icmp .ge 8, 3) := by decide +kernel
theorem dX7_bestLine_34 : decode cX7_bestLine 34 = .ok (.iload_n 3, 1) := by decide +kernel
theorem dX7_bestLine_35 : decode cX7_bestLine 35 = .ok (.istore_n 1, 1) := by decide +kernel
theorem dX7_bestLine_36 : decode cX7_bestLine 36 = .ok (.iload 4, 2) := by decide +kernel
theorem dX7_bestLine_38 : decode cX7_bestLine 38 = .ok (.istore_n 2, 1) := by decide +kernel
theorem dX7_bestLine_39 : decode cX7_bestLine 39 = .ok (.iinc 3 1, 3) := by decide +kernel
theorem dX7_bestLine_42 : decode cX7_bestLine 42 = .ok (.goto (-35), 3) := by decide +kernel
theorem dX7_bestLine_45 : decode cX7_bestLine 45 = .ok (.iload_n 1, 1) := by decide +kernel
theorem dX7_bestLine_46 : decode cX7_bestLine 46 = .ok (.ireturn, 1) := by decide +kernel
theorem dX7_found_0 : decode cX7_found 0 = .ok (.aload_n 0, 1) := by decide +kernel
theorem dX7_found_1 : decode cX7_found 1 = .ok (.iload_n 1, 1) := by decide +kernel
theorem dX7_found_2 : decode cX7_found 2 = .ok (.putfield 266, 3) := by decide +kernel
theorem dX7_found_5 : decode cX7_found 5 = .ok (.bipush (-10), 2) := by decide +kernel
theorem dX7_found_7 : decode cX7_found 7 = .ok (.iload_n 1, 1) := by decide +kernel
theorem dX7_found_8 : decode cX7_found 8 = .ok (.isub, 1) := by decide +kernel
theorem dX7_found_9 : decode cX7_found 9 = .ok (.ireturn, 1) := by decide +kernel
theorem dX7_findingAt_0 : decode cX7_findingAt 0 = .ok (.aload_n 0, 1) := by decide +kernel
theorem dX7_findingAt_1 : decode cX7_findingAt 1 = .ok (.getfield 242, 3) := by decide +kernel
theorem dX7_findingAt_4 : decode cX7_findingAt 4 = .ok (.ifCond .eq 5, 3) := by decide +kernel
theorem dX7_findingAt_7 : decode cX7_findingAt 7 = .ok (.iconst 1, 1) := by decide +kernel
theorem dX7_findingAt_8 : decode cX7_findingAt 8 = .ok (.ireturn, 1) := by decide +kernel
theorem dX7_findingAt_9 : decode cX7_findingAt 9 = .ok (.aload_n 0, 1) := by decide +kernel
theorem dX7_findingAt_10 : decode cX7_findingAt 10 = .ok (.getfield 269, 3) := by decide +kernel
theorem dX7_findingAt_13 : decode cX7_findingAt 13 = .ok (.iload_n 1, 1) := by decide +kernel
theorem dX7_findingAt_14 : decode cX7_findingAt 14 = .ok (.if_icmp .eq 5, 3) := by decide +kernel
theorem dX7_findingAt_17 : decode cX7_findingAt 17 = .ok (.iconst 3, 1) := by decide +kernel
theorem dX7_findingAt_18 : decode cX7_findingAt 18 = .ok (.ireturn, 1) := by decide +kernel
theorem dX7_findingAt_19 : decode cX7_findingAt 19 = .ok (.aload_n 0, 1) := by decide +kernel
theorem dX7_findingAt_20 : decode cX7_findingAt 20 = .ok (.iload_n 2, 1) := by decide +kernel
theorem dX7_findingAt_21 : decode cX7_findingAt 21 = .ok (.invokevirtual 358, 3) := by decide +kernel
theorem dX7_findingAt_24 : decode cX7_findingAt 24 = .ok (.ifCond .eq 7, 3) := by decide +kernel
theorem dX7_findingAt_27 : decode cX7_findingAt 27 = .ok (.iconst 0, 1) := by decide +kernel
theorem dX7_findingAt_28 : decode cX7_findingAt 28 = .ok (.goto 4, 3) := by decide +kernel
theorem dX7_findingAt_31 : decode cX7_findingAt 31 = .ok (.iconst 2, 1) := by decide +kernel
theorem dX7_findingAt_32 : decode cX7_findingAt 32 = .ok (.ireturn, 1) := by decide +kernel
theorem dX8_init_0 : decode cX8_init 0 = .ok (.aload_n 0, 1) := by decide +kernel
theorem dX8_init_1 : decode cX8_init 1 = .ok (.invokespecial 1, 3) := by decide +kernel
theorem dX8_init_4 : decode cX8_init 4 = .ok (.aload_n 0, 1) := by decide +kernel
theorem dX8_init_5 : decode cX8_init 5 = .ok (.iconst 4, 1) := by decide +kernel
theorem dX8_init_6 : decode cX8_init 6 = .ok (.newarray .int, 2) := by decide +kernel
theorem dX8_init_8 : decode cX8_init 8 = .ok (.putfield 7, 3) := by decide +kernel
theorem dX8_init_11 : decode cX8_init 11 = .ok (.aload_n 0, 1) := by decide +kernel
theorem dX8_init_12 : decode cX8_init 12 = .ok (.iconst 4, 1) := by decide +kernel
theorem dX8_init_13 : decode cX8_init 13 = .ok (.newarray .int, 2) := by decide +kernel
theorem dX8_init_15 : decode cX8_init 15 = .ok (.putfield 13, 3) := by decide +kernel
theorem dX8_init_18 : decode cX8_init 18 = .ok (.aload_n 0, 1) := by decide +kernel
theorem dX8_init_19 : decode cX8_init 19 = .ok (.sipush 240, 3) := by decide +kernel
theorem dX8_init_22 : decode cX8_init 22 = .ok (.newarray .int, 2) := by decide +kernel
theorem dX8_init_24 : decode cX8_init 24 = .ok (.putfield 16, 3) := by decide +kernel
theorem dX8_init_27 : decode cX8_init 27 = .ok (.aload_n 0, 1) := by decide +kernel
theorem dX8_init_28 : decode cX8_init 28 = .ok (.bipush 60, 2) := by decide +kernel
theorem dX8_init_30 : decode cX8_init 30 = .ok (.newarray .int, 2) := by decide +kernel
theorem dX8_init_32 : decode cX8_init 32 = .ok (.putfield 19, 3) := by decide +kernel
theorem dX8_init_35 : decode cX8_init 35 = .ok (.aload_n 0, 1) := by decide +kernel
theorem dX8_init_36 : decode cX8_init 36 = .ok (.bipush 120, 2) := by decide +kernel
theorem dX8_init_38 : decode cX8_init 38 = .ok (.newarray .int, 2) := by decide +kernel
theorem dX8_init_40 : decode cX8_init 40 = .ok (.putfield 22, 3) := by decide +kernel
theorem dX8_init_43 : decode cX8_init 43 = .ok (.aload_n 0, 1) := by decide +kernel
theorem dX8_init_44 : decode cX8_init 44 = .ok (.iconst 2, 1) := by decide +kernel
theorem dX8_init_45 : decode cX8_init 45 = .ok (.newarray .int, 2) := by decide +kernel
theorem dX8_init_47 : decode cX8_init 47 = .ok (.putfield 25, 3) := by decide +kernel
theorem dX8_init_50 : decode cX8_init 50 = .ok (.aload_n 0, 1) := by decide +kernel
theorem dX8_init_51 : decode cX8_init 51 = .ok (.iconst 2, 1) := by decide +kernel
theorem dX8_init_52 : decode cX8_init 52 = .ok (.newarray .int, 2) := by decide +kernel
theorem dX8_init_54 : decode cX8_init 54 = .ok (.putfield 28, 3) := by decide +kernel
theorem dX8_init_57 : decode cX8_init 57 = .ok (.aload_n 0, 1) := by decide +kernel
theorem dX8_init_58 : decode cX8_init 58 = .ok (.bipush 64, 2) := by decide +kernel
theorem dX8_init_60 : decode cX8_init 60 = .ok (.newarray .int, 2) := by decide +kernel
theorem dX8_init_62 : decode cX8_init 62 = .ok (.putfield 31, 3) := by decide +kernel
theorem dX8_init_65 : decode cX8_init 65 = .ok (.aload_n 0, 1) := by decide +kernel
theorem dX8_init_66 : decode cX8_init 66 = .ok (.bipush 6, 2) := by decide +kernel
theorem dX8_init_68 : decode cX8_init 68 = .ok (.newarray .int, 2) := by decide +kernel
theorem dX8_init_70 : decode cX8_init 70 = .ok (.putfield 34, 3) := by decide +kernel
theorem dX8_init_73 : decode cX8_init 73 = .ok (.aload_n 0, 1) := by decide +kernel
theorem dX8_init_74 : decode cX8_init 74 = .ok (.bipush 14, 2) := by decide +kernel
theorem dX8_init_76 : decode cX8_init 76 = .ok (.newarray .int, 2) := by decide +kernel
theorem dX8_init_78 : decode cX8_init 78 = .ok (.putfield 37, 3) := by decide +kernel
theorem dX8_init_81 : decode cX8_init 81 = .ok (.aload_n 0, 1) := by decide +kernel
theorem dX8_init_82 : decode cX8_init 82 = .ok (.bipush 14, 2) := by decide +kernel
theorem dX8_init_84 : decode cX8_init 84 = .ok (.newarray .int, 2) := by decide +kernel
theorem dX8_init_86 : decode cX8_init 86 = .ok (.putfield 40, 3) := by decide +kernel
theorem dX8_init_89 : decode cX8_init 89 = .ok (.aload_n 0, 1) := by decide +kernel
theorem dX8_init_90 : decode cX8_init 90 = .ok (.bipush 14, 2) := by decide +kernel
theorem dX8_init_92 : decode cX8_init 92 = .ok (.newarray .int, 2) := by decide +kernel
theorem dX8_init_94 : decode cX8_init 94 = .ok (.putfield 43, 3) := by decide +kernel
theorem dX8_init_97 : decode cX8_init 97 = .ok (.aload_n 0, 1) := by decide +kernel
theorem dX8_init_98 : decode cX8_init 98 = .ok (.bipush 14, 2) := by decide +kernel
theorem dX8_init_100 : decode cX8_init 100 = .ok (.newarray .int, 2) := by decide +kernel
theorem dX8_init_102 : decode cX8_init 102 = .ok (.putfield 46, 3) := by decide +kernel
theorem dX8_init_105 : decode cX8_init 105 = .ok (.aload_n 0, 1) := by decide +kernel
theorem dX8_init_106 : decode cX8_init 106 = .ok (.bipush 14, 2) := by decide +kernel
theorem dX8_init_108 : decode cX8_init 108 = .ok (.newarray .int, 2) := by decide +kernel
theorem dX8_init_110 : decode cX8_init 110 = .ok (.putfield 49, 3) := by decide +kernel
theorem dX8_init_113 : decode cX8_init 113 = .ok (.aload_n 0, 1) := by decide +kernel
theorem dX8_init_114 : decode cX8_init 114 = .ok (.bipush 14, 2) := by decide +kernel
theorem dX8_init_116 : decode cX8_init 116 = .ok (.newarray .int, 2) := by decide +kernel
theorem dX8_init_118 : decode cX8_init 118 = .ok (.putfield 52, 3) := by decide +kernel
theorem dX8_init_121 : decode cX8_init 121 = .ok (.aload_n 0, 1) := by decide +kernel
theorem dX8_init_122 : decode cX8_init 122 = .ok (.bipush 14, 2) := by decide +kernel
theorem dX8_init_124 : decode cX8_init 124 = .ok (.newarray .int, 2) := by decide +kernel
theorem dX8_init_126 : decode cX8_init 126 = .ok (.putfield 55, 3) := by decide +kernel
theorem dX8_init_129 : decode cX8_init 129 = .ok (.aload_n 0, 1) := by decide +kernel
theorem dX8_init_130 : decode cX8_init 130 = .ok (.bipush 14, 2) := by decide +kernel
theorem dX8_init_132 : decode cX8_init 132 = .ok (.newarray .int, 2) := by decide +kernel
theorem dX8_init_134 : decode cX8_init 134 = .ok (.putfield 58, 3) := by decide +kernel
theorem dX8_init_137 : decode cX8_init 137 = .ok (.aload_n 0, 1) := by decide +kernel
theorem dX8_init_138 : decode cX8_init 138 = .ok (.bipush 6, 2) := by decide +kernel
theorem dX8_init_140 : decode cX8_init 140 = .ok (.newarray .int, 2) := by decide +kernel
theorem dX8_init_142 : decode cX8_init 142 = .ok (.putfield 61, 3) := by decide +kernel
theorem dX8_init_145 : decode cX8_init 145 = .ok (.aload_n 0, 1) := by decide +kernel
theorem dX8_init_146 : decode cX8_init 146 = .ok (.bipush 7, 2) := by decide +kernel
theorem dX8_init_148 : decode cX8_init 148 = .ok (.newarray .int, 2) := by decide +kernel
theorem dX8_init_150 : decode cX8_init 150 = .ok (.putfield 64, 3) := by decide +kernel
theorem dX8_init_153 : decode cX8_init 153 = .ok (.aload_n 0, 1) := by decide +kernel
theorem dX8_init_154 : decode cX8_init 154 = .ok (.bipush 16, 2) := by decide +kernel
theorem dX8_init_156 : decode cX8_init 156 = .ok (.newarray .int, 2) := by decide +kernel
theorem dX8_init_158 : decode cX8_init 158 = .ok (.putfield 67, 3) := by decide +kernel
theorem dX8_init_161 : decode cX8_init 161 = .ok (.iconst 0, 1) := by decide +kernel
theorem dX8_init_162 : decode cX8_init 162 = .ok (.istore_n 1, 1) := by decide +kernel
theorem dX8_init_163 : decode cX8_init 163 = .ok (.iload_n 1, 1) := by decide +kernel
theorem dX8_init_164 : decode cX8_init 164 = .ok (.iconst 4, 1) := by decide +kernel
theorem dX8_init_165 : decode cX8_init 165 = .ok (.if_icmp .ge 16, 3) := by decide +kernel
theorem dX8_init_168 : decode cX8_init 168 = .ok (.aload_n 0, 1) := by decide +kernel
theorem dX8_init_169 : decode cX8_init 169 = .ok (.getfield 7, 3) := by decide +kernel
theorem dX8_init_172 : decode cX8_init 172 = .ok (.iload_n 1, 1) := by decide +kernel
theorem dX8_init_173 : decode cX8_init 173 = .ok (.iconst (-1), 1) := by decide +kernel
theorem dX8_init_174 : decode cX8_init 174 = .ok (.iastore, 1) := by decide +kernel
theorem dX8_init_175 : decode cX8_init 175 = .ok (.iinc 1 1, 3) := by decide +kernel
theorem dX8_init_178 : decode cX8_init 178 = .ok (.goto (-15), 3) := by decide +kernel
theorem dX8_init_181 : decode cX8_init 181 = .ok (.aload_n 0, 1) := by decide +kernel
theorem dX8_init_182 : decode cX8_init 182 = .ok (.getfield 34, 3) := by decide +kernel
theorem dX8_init_185 : decode cX8_init 185 = .ok (.iconst 1, 1) := by decide +kernel
theorem dX8_init_186 : decode cX8_init 186 = .ok (.bipush 99, 2) := by decide +kernel
theorem dX8_init_188 : decode cX8_init 188 = .ok (.iastore, 1) := by decide +kernel
theorem dX8_init_189 : decode cX8_init 189 = .ok (.aload_n 0, 1) := by decide +kernel
theorem dX8_init_190 : decode cX8_init 190 = .ok (.getfield 34, 3) := by decide +kernel
theorem dX8_init_193 : decode cX8_init 193 = .ok (.iconst 3, 1) := by decide +kernel
theorem dX8_init_194 : decode cX8_init 194 = .ok (.bipush 9, 2) := by decide +kernel
theorem dX8_init_196 : decode cX8_init 196 = .ok (.iastore, 1) := by decide +kernel
theorem dX8_init_197 : decode cX8_init 197 = .ok (.return_, 1) := by decide +kernel
theorem dX8_in_0 : decode cX8_in 0 = .ok (.lload_n 0, 1) := by decide +kernel
theorem dX8_in_1 : decode cX8_in 1 = .ok (.lload_n 2, 1) := by decide +kernel
theorem dX8_in_2 : decode cX8_in 2 = .ok (.lcmp, 1) := by decide +kernel
theorem dX8_in_3 : decode cX8_in 3 = .ok (.ifCond .lt 14, 3) := by decide +kernel
theorem dX8_in_6 : decode cX8_in 6 = .ok (.lload_n 0, 1) := by decide +kernel
theorem dX8_in_7 : decode cX8_in 7 = .ok (.lload 4, 2) := by decide +kernel
theorem dX8_in_9 : decode cX8_in 9 = .ok (.lcmp, 1) := by decide +kernel
theorem dX8_in_10 : decode cX8_in 10 = .ok (.ifCond .gt 7, 3) := by decide +kernel
theorem dX8_in_13 : decode cX8_in 13 = .ok (.iconst 1, 1) := by decide +kernel
theorem dX8_in_14 : decode cX8_in 14 = .ok (.goto 4, 3) := by decide +kernel
theorem dX8_in_17 : decode cX8_in 17 = .ok (.iconst 0, 1) := by decide +kernel
theorem dX8_in_18 : decode cX8_in 18 = .ok (.ireturn, 1) := by decide +kernel
theorem dX8_no_0 : decode cX8_no 0 = .ok (.ldc2_w 70, 3) := by decide +kernel
theorem dX8_no_3 : decode cX8_no 3 = .ok (.iload_n 0, 1) := by decide +kernel
theorem dX8_no_4 : decode cX8_no 4 = .ok (.i2l, 1) := by decide +kernel
theorem dX8_no_5 : decode cX8_no 5 = .ok (.lsub, 1) := by decide +kernel
theorem dX8_no_6 : decode cX8_no 6 = .ok (.lreturn, 1) := by decide +kernel
theorem dX8_isTwo_0 : decode cX8_isTwo 0 = .ok (.iload_n 0, 1) := by decide +kernel
theorem dX8_isTwo_1 : decode cX8_isTwo 1 = .ok (.i2l, 1) := by decide +kernel
theorem dX8_isTwo_2 : decode cX8_isTwo 2 = .ok (.lconst 0, 1) := by decide +kernel
theorem dX8_isTwo_3 : decode cX8_isTwo 3 = .ok (.lconst 1, 1) := by decide +kernel
theorem dX8_isTwo_4 : decode cX8_isTwo 4 = .ok (.invokestatic 72, 3) := by decide +kernel
theorem dX8_isTwo_7 : decode cX8_isTwo 7 = .ok (.ireturn, 1) := by decide +kernel
theorem dX8_isIn_0 : decode cX8_isIn 0 = .ok (.iload_n 0, 1) := by decide +kernel
theorem dX8_isIn_1 : decode cX8_isIn 1 = .ok (.iload_n 1, 1) := by decide +kernel
theorem dX8_isIn_2 : decode cX8_isIn 2 = .ok (.ishr, 1) := by decide +kernel
theorem dX8_isIn_3 : decode cX8_isIn 3 = .ok (.iconst 1, 1) := by decide +kernel
theorem dX8_isIn_4 : decode cX8_isIn 4 = .ok (.iand, 1) := by decide +kernel
theorem dX8_isIn_5 : decode cX8_isIn 5 = .ok (.iconst 1, 1) := by decide +kernel
theorem dX8_isIn_6 : decode cX8_isIn 6 = .ok (.if_icmp .ne 7, 3) := by decide +kernel
theorem dX8_isIn_9 : decode cX8_isIn 9 = .ok (.iconst 1, 1) := by decide +kernel
theorem dX8_isIn_10 : decode cX8_isIn 10 = .ok (.goto 4, 3) := by decide +kernel
theorem dX8_isIn_13 : decode cX8_isIn 13 = .ok (.iconst 0, 1) := by decide +kernel
theorem dX8_isIn_14 : decode cX8_isIn 14 = .ok (.ireturn, 1) := by decide +kernel
theorem dX8_greater_0 : decode cX8_greater 0 = .ok (.iload_n 0, 1) := by decide +kernel
theorem dX8_greater_1 : decode cX8_greater 1 = .ok (.iload_n 1, 1) := by decide +kernel
theorem dX8_greater_2 : decode cX8_greater 2 = .ok (.if_icmp .le 7, 3) := by decide +kernel
theorem dX8_greater_5 : decode cX8_greater 5 = .ok (.iload_n 0, 1) := by decide +kernel
theorem dX8_greater_6 : decode cX8_greater 6 = .ok (.goto 4, 3) := by decide +kernel
theorem dX8_greater_9 : decode cX8_greater 9 = .ok (.iload_n 1, 1) := by decide +kernel
theorem dX8_greater_10 : decode cX8_greater 10 = .ok (.ireturn, 1) := by decide +kernel
theorem dX8_lesser_0 : decode cX8_lesser 0 = .ok (.iload_n 0, 1) := by decide +kernel
theorem dX8_lesser_1 : decode cX8_lesser 1 = .ok (.iload_n 1, 1) := by decide +kernel
theorem dX8_lesser_2 : decode cX8_lesser 2 = .ok (.if_icmp .ge 7, 3) := by decide +kernel
theorem dX8_lesser_5 : decode cX8_lesser 5 = .ok (.iload_n 0, 1) := by decide +kernel
theorem dX8_lesser_6 : decode cX8_lesser 6 = .ok (.goto 4, 3) := by decide +kernel
theorem dX8_lesser_9 : decode cX8_lesser 9 = .ok (.iload_n 1, 1) := by decide +kernel
theorem dX8_lesser_10 : decode cX8_lesser 10 = .ok (.ireturn, 1) := by decide +kernel
theorem dX8_met_0 : decode cX8_met 0 = .ok (.aload_n 0, 1) := by decide +kernel
theorem dX8_met_1 : decode cX8_met 1 = .ok (.iload_n 1, 1) := by decide +kernel
theorem dX8_met_2 : decode cX8_met 2 = .ok (.putfield 76, 3) := by decide +kernel
theorem dX8_met_5 : decode cX8_met 5 = .ok (.bipush (-10), 2) := by decide +kernel
theorem dX8_met_7 : decode cX8_met 7 = .ok (.iload_n 1, 1) := by decide +kernel
theorem dX8_met_8 : decode cX8_met 8 = .ok (.isub, 1) := by decide +kernel
theorem dX8_met_9 : decode cX8_met 9 = .ok (.ireturn, 1) := by decide +kernel
theorem dX8_isSheet_0 : decode cX8_isSheet 0 = .ok (.iload_n 0, 1) := by decide +kernel
theorem dX8_isSheet_1 : decode cX8_isSheet 1 = .ok (.i2l, 1) := by decide +kernel
theorem dX8_isSheet_2 : decode cX8_isSheet 2 = .ok (.lconst 0, 1) := by decide +kernel
theorem dX8_isSheet_3 : decode cX8_isSheet 3 = .ok (.ldc2_w 80, 3) := by decide +kernel
theorem dX8_isSheet_6 : decode cX8_isSheet 6 = .ok (.invokestatic 72, 3) := by decide +kernel
theorem dX8_isSheet_9 : decode cX8_isSheet 9 = .ok (.ireturn, 1) := by decide +kernel
theorem dX8_sheet_0 : decode cX8_sheet 0 = .ok (.iload_n 1, 1) := by decide +kernel
theorem dX8_sheet_1 : decode cX8_sheet 1 = .ok (.invokestatic 82, 3) := by decide +kernel
theorem dX8_sheet_4 : decode cX8_sheet 4 = .ok (.ifCond .eq 21, 3) := by decide +kernel
theorem dX8_sheet_7 : decode cX8_sheet 7 = .ok (.iload_n 2, 1) := by decide +kernel
theorem dX8_sheet_8 : decode cX8_sheet 8 = .ok (.i2l, 1) := by decide +kernel
theorem dX8_sheet_9 : decode cX8_sheet 9 = .ok (.lconst 0, 1) := by decide +kernel
theorem dX8_sheet_10 : decode cX8_sheet 10 = .ok (.ldc2_w 86, 3) := by decide +kernel
theorem dX8_sheet_13 : decode cX8_sheet 13 = .ok (.invokestatic 72, 3) := by decide +kernel
theorem dX8_sheet_16 : decode cX8_sheet 16 = .ok (.ifCond .eq 9, 3) := by decide +kernel
theorem dX8_sheet_19 : decode cX8_sheet 19 = .ok (.iload_n 3, 1) := by decide +kernel
theorem dX8_sheet_20 : decode cX8_sheet 20 = .ok (.bipush 60, 2) := by decide +kernel
theorem dX8_sheet_22 : decode cX8_sheet 22 = .ok (.if_icmp .le 6, 3) := by decide +kernel
theorem dX8_sheet_25 : decode cX8_sheet 25 = .ok (.bipush (-2), 2) := by decide +kernel
theorem dX8_sheet_27 : decode cX8_sheet 27 = .ok (.ireturn, 1) := by decide +kernel
theorem dX8_sheet_28 : decode cX8_sheet 28 = .ok (.iload_n 3, 1) := by decide +kernel
theorem dX8_sheet_29 : decode cX8_sheet 29 = .ok (.ifCond .ge 9, 3) := by decide +kernel
theorem dX8_sheet_32 : decode cX8_sheet 32 = .ok (.aload_n 0, 1) := by decide +kernel
theorem dX8_sheet_33 : decode cX8_sheet 33 = .ok (.iconst 5, 1) := by decide +kernel
theorem dX8_sheet_34 : decode cX8_sheet 34 = .ok (.invokevirtual 88, 3) := by decide +kernel
theorem dX8_sheet_37 : decode cX8_sheet 37 = .ok (.ireturn, 1) := by decide +kernel
theorem dX8_sheet_38 : decode cX8_sheet 38 = .ok (.aload_n 0, 1) := by decide +kernel
theorem dX8_sheet_39 : decode cX8_sheet 39 = .ok (.getfield 7, 3) := by decide +kernel
theorem dX8_sheet_42 : decode cX8_sheet 42 = .ok (.iload_n 1, 1) := by decide +kernel
theorem dX8_sheet_43 : decode cX8_sheet 43 = .ok (.iload_n 2, 1) := by decide +kernel
theorem dX8_sheet_44 : decode cX8_sheet 44 = .ok (.iastore, 1) := by decide +kernel
theorem dX8_sheet_45 : decode cX8_sheet 45 = .ok (.aload_n 0, 1) := by decide +kernel
theorem dX8_sheet_46 : decode cX8_sheet 46 = .ok (.getfield 13, 3) := by decide +kernel
theorem dX8_sheet_49 : decode cX8_sheet 49 = .ok (.iload_n 1, 1) := by decide +kernel
theorem dX8_sheet_50 : decode cX8_sheet 50 = .ok (.iload_n 3, 1) := by decide +kernel
theorem dX8_sheet_51 : decode cX8_sheet 51 = .ok (.iastore, 1) := by decide +kernel
theorem dX8_sheet_52 : decode cX8_sheet 52 = .ok (.iconst 0, 1) := by decide +kernel
theorem dX8_sheet_53 : decode cX8_sheet 53 = .ok (.istore 4, 2) := by decide +kernel
theorem dX8_sheet_55 : decode cX8_sheet 55 = .ok (.iload 4, 2) := by decide +kernel
theorem dX8_sheet_57 : decode cX8_sheet 57 = .ok (.iload_n 3, 1) := by decide +kernel
theorem dX8_sheet_58 : decode cX8_sheet 58 = .ok (.if_icmp .ge 22, 3) := by decide +kernel
theorem dX8_sheet_61 : decode cX8_sheet 61 = .ok (.aload_n 0, 1) := by decide +kernel
theorem dX8_sheet_62 : decode cX8_sheet 62 = .ok (.getfield 16, 3) := by decide +kernel
theorem dX8_sheet_65 : decode cX8_sheet 65 = .ok (.bipush 60, 2) := by decide +kernel
theorem dX8_sheet_67 : decode cX8_sheet 67 = .ok (.iload_n 1, 1) := by decide +kernel
theorem dX8_sheet_68 : decode cX8_sheet 68 = .ok (.imul, 1) := by decide +kernel
theorem dX8_sheet_69 : decode cX8_sheet 69 = .ok (.iload 4, 2) := by decide +kernel
theorem dX8_sheet_71 : decode cX8_sheet 71 = .ok (.iadd, 1) := by decide +kernel
theorem dX8_sheet_72 : decode cX8_sheet 72 = .ok (.iconst 0, 1) := by decide +kernel
theorem dX8_sheet_73 : decode cX8_sheet 73 = .ok (.iastore, 1) := by decide +kernel
theorem dX8_sheet_74 : decode cX8_sheet 74 = .ok (.iinc 4 1, 3) := by decide +kernel
theorem dX8_sheet_77 : decode cX8_sheet 77 = .ok (.goto (-22), 3) := by decide +kernel
theorem dX8_sheet_80 : decode cX8_sheet 80 = .ok (.iload_n 3, 1) := by decide +kernel
theorem dX8_sheet_81 : decode cX8_sheet 81 = .ok (.ireturn, 1) := by decide +kernel
theorem dX8_lose_0 : decode cX8_lose 0 = .ok (.iload_n 1, 1) := by decide +kernel
theorem dX8_lose_1 : decode cX8_lose 1 = .ok (.invokestatic 82, 3) := by decide +kernel
theorem dX8_lose_4 : decode cX8_lose 4 = .ok (.ifCond .ne 6, 3) := by decide +kernel
theorem dX8_lose_7 : decode cX8_lose 7 = .ok (.bipush (-2), 2) := by decide +kernel
theorem dX8_lose_9 : decode cX8_lose 9 = .ok (.ireturn, 1) := by decide +kernel
theorem dX8_lose_10 : decode cX8_lose 10 = .ok (.aload_n 0, 1) := by decide +kernel
theorem dX8_lose_11 : decode cX8_lose 11 = .ok (.getfield 7, 3) := by decide +kernel
theorem dX8_lose_14 : decode cX8_lose 14 = .ok (.iload_n 1, 1) := by decide +kernel
theorem dX8_lose_15 : decode cX8_lose 15 = .ok (.iaload, 1) := by decide +kernel
theorem dX8_lose_16 : decode cX8_lose 16 = .ok (.ifCond .ge 9, 3) := by decide +kernel
theorem dX8_lose_19 : decode cX8_lose 19 = .ok (.aload_n 0, 1) := by decide +kernel
theorem dX8_lose_20 : decode cX8_lose 20 = .ok (.iconst 1, 1) := by decide +kernel
theorem dX8_lose_21 : decode cX8_lose 21 = .ok (.invokevirtual 88, 3) := by decide +kernel
theorem dX8_lose_24 : decode cX8_lose 24 = .ok (.ireturn, 1) := by decide +kernel
theorem dX8_lose_25 : decode cX8_lose 25 = .ok (.aload_n 0, 1) := by decide +kernel
theorem dX8_lose_26 : decode cX8_lose 26 = .ok (.getfield 7, 3) := by decide +kernel
theorem dX8_lose_29 : decode cX8_lose 29 = .ok (.iload_n 1, 1) := by decide +kernel
theorem dX8_lose_30 : decode cX8_lose 30 = .ok (.iconst (-1), 1) := by decide +kernel
theorem dX8_lose_31 : decode cX8_lose 31 = .ok (.iastore, 1) := by decide +kernel
theorem dX8_lose_32 : decode cX8_lose 32 = .ok (.aload_n 0, 1) := by decide +kernel
theorem dX8_lose_33 : decode cX8_lose 33 = .ok (.getfield 13, 3) := by decide +kernel
theorem dX8_lose_36 : decode cX8_lose 36 = .ok (.iload_n 1, 1) := by decide +kernel
theorem dX8_lose_37 : decode cX8_lose 37 = .ok (.iaload, 1) := by decide +kernel
theorem dX8_lose_38 : decode cX8_lose 38 = .ok (.ireturn, 1) := by decide +kernel
theorem dX8_lacks_0 : decode cX8_lacks 0 = .ok (.aload_n 0, 1) := by decide +kernel
theorem dX8_lacks_1 : decode cX8_lacks 1 = .ok (.getfield 7, 3) := by decide +kernel
theorem dX8_lacks_4 : decode cX8_lacks 4 = .ok (.iload_n 1, 1) := by decide +kernel
theorem dX8_lacks_5 : decode cX8_lacks 5 = .ok (.iaload, 1) := by decide +kernel
theorem dX8_lacks_6 : decode cX8_lacks 6 = .ok (.ifCond .ge 9, 3) := by decide +kernel
theorem dX8_lacks_9 : decode cX8_lacks 9 = .ok (.aload_n 0, 1) := by decide +kernel
theorem dX8_lacks_10 : decode cX8_lacks 10 = .ok (.iconst 1, 1) := by decide +kernel
theorem dX8_lacks_11 : decode cX8_lacks 11 = .ok (.invokevirtual 88, 3) := by decide +kernel
theorem dX8_lacks_14 : decode cX8_lacks 14 = .ok (.ireturn, 1) := by decide +kernel
theorem dX8_lacks_15 : decode cX8_lacks 15 = .ok (.aload_n 0, 1) := by decide +kernel
theorem dX8_lacks_16 : decode cX8_lacks 16 = .ok (.getfield 7, 3) := by decide +kernel
theorem dX8_lacks_19 : decode cX8_lacks 19 = .ok (.iload_n 1, 1) := by decide +kernel
theorem dX8_lacks_20 : decode cX8_lacks 20 = .ok (.iaload, 1) := by decide +kernel
theorem dX8_lacks_21 : decode cX8_lacks 21 = .ok (.iload_n 2, 1) := by decide +kernel
theorem dX8_lacks_22 : decode cX8_lacks 22 = .ok (.if_icmp .eq 9, 3) := by decide +kernel
theorem dX8_lacks_25 : decode cX8_lacks 25 = .ok (.aload_n 0, 1) := by decide +kernel
theorem dX8_lacks_26 : decode cX8_lacks 26 = .ok (.iconst 3, 1) := by decide +kernel
theorem dX8_lacks_27 : decode cX8_lacks 27 = .ok (.invokevirtual 88, 3) := by decide +kernel
theorem dX8_lacks_30 : decode cX8_lacks 30 = .ok (.ireturn, 1) := by decide +kernel
theorem dX8_lacks_31 : decode cX8_lacks 31 = .ok (.iload_n 3, 1) := by decide +kernel
theorem dX8_lacks_32 : decode cX8_lacks 32 = .ok (.i2l, 1) := by decide +kernel
theorem dX8_lacks_33 : decode cX8_lacks 33 = .ok (.lconst 0, 1) := by decide +kernel
theorem dX8_lacks_34 : decode cX8_lacks 34 = .ok (.aload_n 0, 1) := by decide +kernel
theorem dX8_lacks_35 : decode cX8_lacks 35 = .ok (.getfield 13, 3) := by decide +kernel
theorem dX8_lacks_38 : decode cX8_lacks 38 = .ok (.iload_n 1, 1) := by decide +kernel
theorem dX8_lacks_39 : decode cX8_lacks 39 = .ok (.iaload, 1) := by decide +kernel
theorem dX8_lacks_40 : decode cX8_lacks 40 = .ok (.iconst 1, 1) := by decide +kernel
theorem dX8_lacks_41 : decode cX8_lacks 41 = .ok (.isub, 1) := by decide +kernel
theorem dX8_lacks_42 : decode cX8_lacks 42 = .ok (.i2l, 1) := by decide +kernel
theorem dX8_lacks_43 : decode cX8_lacks 43 = .ok (.invokestatic 72, 3) := by decide +kernel
theorem dX8_lacks_46 : decode cX8_lacks 46 = .ok (.ifCond .eq 7, 3) := by decide +kernel
theorem dX8_lacks_49 : decode cX8_lacks 49 = .ok (.iconst 0, 1) := by decide +kernel
theorem dX8_lacks_50 : decode cX8_lacks 50 = .ok (.goto 8, 3) := by decide +kernel
theorem dX8_lacks_53 : decode cX8_lacks 53 = .ok (.aload_n 0, 1) := by decide +kernel
theorem dX8_lacks_54 : decode cX8_lacks 54 = .ok (.iconst 2, 1) := by decide +kernel
theorem dX8_lacks_55 : decode cX8_lacks 55 = .ok (.invokevirtual 88, 3) := by decide +kernel
theorem dX8_lacks_58 : decode cX8_lacks 58 = .ok (.ireturn, 1) := by decide +kernel
theorem dX8_cut_0 : decode cX8_cut 0 = .ok (.iload_n 0, 1) := by decide +kernel
theorem dX8_cut_1 : decode cX8_cut 1 = .ok (.ifCond .ne 8, 3) := by decide +kernel
theorem dX8_cut_4 : decode cX8_cut 4 = .ok (.iload_n 1, 1) := by decide +kernel
theorem dX8_cut_5 : decode cX8_cut 5 = .ok (.i2b, 1) := by decide +kernel
theorem dX8_cut_6 : decode cX8_cut 6 = .ok (.goto 14, 3) := by decide +kernel
theorem dX8_cut_9 : decode cX8_cut 9 = .ok (.iload_n 0, 1) := by decide +kernel
theorem dX8_cut_10 : decode cX8_cut 10 = .ok (.iconst 1, 1) := by decide +kernel
theorem dX8_cut_11 : decode cX8_cut 11 = .ok (.if_icmp .ne 8, 3) := by decide +kernel
theorem dX8_cut_14 : decode cX8_cut 14 = .ok (.iload_n 1, 1) := by decide +kernel
theorem dX8_cut_15 : decode cX8_cut 15 = .ok (.i2s, 1) := by decide +kernel
theorem dX8_cut_16 : decode cX8_cut 16 = .ok (.goto 4, 3) := by decide +kernel
theorem dX8_cut_19 : decode cX8_cut 19 = .ok (.iload_n 1, 1) := by decide +kernel
theorem dX8_cut_20 : decode cX8_cut 20 = .ok (.ireturn, 1) := by decide +kernel
theorem dX8_lay_0 : decode cX8_lay 0 = .ok (.iload_n 1, 1) := by decide +kernel
theorem dX8_lay_1 : decode cX8_lay 1 = .ok (.invokestatic 82, 3) := by decide +kernel
theorem dX8_lay_4 : decode cX8_lay 4 = .ok (.ifCond .eq 15, 3) := by decide +kernel
theorem dX8_lay_7 : decode cX8_lay 7 = .ok (.iload_n 2, 1) := by decide +kernel
theorem dX8_lay_8 : decode cX8_lay 8 = .ok (.i2l, 1) := by decide +kernel
theorem dX8_lay_9 : decode cX8_lay 9 = .ok (.lconst 0, 1) := by decide +kernel
theorem dX8_lay_10 : decode cX8_lay 10 = .ok (.ldc2_w 86, 3) := by decide +kernel
theorem dX8_lay_13 : decode cX8_lay 13 = .ok (.invokestatic 72, 3) := by decide +kernel
theorem dX8_lay_16 : decode cX8_lay 16 = .ok (.ifCond .ne 6, 3) := by decide +kernel
theorem dX8_lay_19 : decode cX8_lay 19 = .ok (.bipush (-2), 2) := by decide +kernel
theorem dX8_lay_21 : decode cX8_lay 21 = .ok (.ireturn, 1) := by decide +kernel
theorem dX8_lay_22 : decode cX8_lay 22 = .ok (.aload_n 0, 1) := by decide +kernel
theorem dX8_lay_23 : decode cX8_lay 23 = .ok (.iload_n 1, 1) := by decide +kernel
theorem dX8_lay_24 : decode cX8_lay 24 = .ok (.iload_n 2, 1) := by decide +kernel
theorem dX8_lay_25 : decode cX8_lay 25 = .ok (.iload_n 3, 1) := by decide +kernel
theorem dX8_lay_26 : decode cX8_lay 26 = .ok (.invokevirtual 92, 3) := by decide +kernel
theorem dX8_lay_29 : decode cX8_lay 29 = .ok (.istore 5, 2) := by decide +kernel
theorem dX8_lay_31 : decode cX8_lay 31 = .ok (.iload 5, 2) := by decide +kernel
theorem dX8_lay_33 : decode cX8_lay 33 = .ok (.ifCond .eq 6, 3) := by decide +kernel
theorem dX8_lay_36 : decode cX8_lay 36 = .ok (.iload 5, 2) := by decide +kernel
theorem dX8_lay_38 : decode cX8_lay 38 = .ok (.ireturn, 1) := by decide +kernel
theorem dX8_lay_39 : decode cX8_lay 39 = .ok (.aload_n 0, 1) := by decide +kernel
theorem dX8_lay_40 : decode cX8_lay 40 = .ok (.getfield 16, 3) := by decide +kernel
theorem dX8_lay_43 : decode cX8_lay 43 = .ok (.bipush 60, 2) := by decide +kernel
theorem dX8_lay_45 : decode cX8_lay 45 = .ok (.iload_n 1, 1) := by decide +kernel
theorem dX8_lay_46 : decode cX8_lay 46 = .ok (.imul, 1) := by decide +kernel
theorem dX8_lay_47 : decode cX8_lay 47 = .ok (.iload_n 3, 1) := by decide +kernel
theorem dX8_lay_48 : decode cX8_lay 48 = .ok (.iadd, 1) := by decide +kernel
theorem dX8_lay_49 : decode cX8_lay 49 = .ok (.iload_n 2, 1) := by decide +kernel
theorem dX8_lay_50 : decode cX8_lay 50 = .ok (.iload 4, 2) := by decide +kernel
theorem dX8_lay_52 : decode cX8_lay 52 = .ok (.invokestatic 96, 3) := by decide +kernel
theorem dX8_lay_55 : decode cX8_lay 55 = .ok (.iastore, 1) := by decide +kernel
theorem dX8_lay_56 : decode cX8_lay 56 = .ok (.iconst 1, 1) := by decide +kernel
theorem dX8_lay_57 : decode cX8_lay 57 = .ok (.ireturn, 1) := by decide +kernel
theorem dX8_get_0 : decode cX8_get 0 = .ok (.iload_n 1, 1) := by decide +kernel
theorem dX8_get_1 : decode cX8_get 1 = .ok (.invokestatic 82, 3) := by decide +kernel
theorem dX8_get_4 : decode cX8_get 4 = .ok (.ifCond .eq 25, 3) := by decide +kernel
theorem dX8_get_7 : decode cX8_get 7 = .ok (.iload_n 2, 1) := by decide +kernel
theorem dX8_get_8 : decode cX8_get 8 = .ok (.i2l, 1) := by decide +kernel
theorem dX8_get_9 : decode cX8_get 9 = .ok (.lconst 0, 1) := by decide +kernel
theorem dX8_get_10 : decode cX8_get 10 = .ok (.ldc2_w 86, 3) := by decide +kernel
theorem dX8_get_13 : decode cX8_get 13 = .ok (.invokestatic 72, 3) := by decide +kernel
theorem dX8_get_16 : decode cX8_get 16 = .ok (.ifCond .eq 13, 3) := by decide +kernel
theorem dX8_get_19 : decode cX8_get 19 = .ok (.aload_n 0, 1) := by decide +kernel
theorem dX8_get_20 : decode cX8_get 20 = .ok (.iload_n 1, 1) := by decide +kernel
theorem dX8_get_21 : decode cX8_get 21 = .ok (.iload_n 2, 1) := by decide +kernel
theorem dX8_get_22 : decode cX8_get 22 = .ok (.iload_n 3, 1) := by decide +kernel
theorem dX8_get_23 : decode cX8_get 23 = .ok (.invokevirtual 92, 3) := by decide +kernel
theorem dX8_get_26 : decode cX8_get 26 = .ok (.ifCond .eq 6, 3) := by decide +kernel
theorem dX8_get_29 : decode cX8_get 29 = .ok (.ldc 100, 2) := by decide +kernel
theorem dX8_get_31 : decode cX8_get 31 = .ok (.ireturn, 1) := by decide +kernel
theorem dX8_get_32 : decode cX8_get 32 = .ok (.aload_n 0, 1) := by decide +kernel
theorem dX8_get_33 : decode cX8_get 33 = .ok (.getfield 16, 3) := by decide +kernel
theorem dX8_get_36 : decode cX8_get 36 = .ok (.bipush 60, 2) := by decide +kernel
theorem dX8_get_38 : decode cX8_get 38 = .ok (.iload_n 1, 1) := by decide +kernel
theorem dX8_get_39 : decode cX8_get 39 = .ok (.imul, 1) := by decide +kernel
theorem dX8_get_40 : decode cX8_get 40 = .ok (.iload_n 3, 1) := by decide +kernel
theorem dX8_get_41 : decode cX8_get 41 = .ok (.iadd, 1) := by decide +kernel
theorem dX8_get_42 : decode cX8_get 42 = .ok (.iaload, 1) := by decide +kernel
theorem dX8_get_43 : decode cX8_get 43 = .ok (.ireturn, 1) := by decide +kernel
theorem dX8_copy_0 : decode cX8_copy 0 = .ok (.iload_n 1, 1) := by decide +kernel
theorem dX8_copy_1 : decode cX8_copy 1 = .ok (.invokestatic 82, 3) := by decide +kernel
theorem dX8_copy_4 : decode cX8_copy 4 = .ok (.ifCond .eq 10, 3) := by decide +kernel
theorem dX8_copy_7 : decode cX8_copy 7 = .ok (.iload_n 3, 1) := by decide +kernel
theorem dX8_copy_8 : decode cX8_copy 8 = .ok (.invokestatic 82, 3) := by decide +kernel
theorem dX8_copy_11 : decode cX8_copy 11 = .ok (.ifCond .ne 6, 3) := by decide +kernel
theorem dX8_copy_14 : decode cX8_copy 14 = .ok (.bipush (-2), 2) := by decide +kernel
theorem dX8_copy_16 : decode cX8_copy 16 = .ok (.ireturn, 1) := by decide +kernel
theorem dX8_copy_17 : decode cX8_copy 17 = .ok (.aload_n 0, 1) := by decide +kernel
theorem dX8_copy_18 : decode cX8_copy 18 = .ok (.getfield 7, 3) := by decide +kernel
theorem dX8_copy_21 : decode cX8_copy 21 = .ok (.iload_n 1, 1) := by decide +kernel
theorem dX8_copy_22 : decode cX8_copy 22 = .ok (.iaload, 1) := by decide +kernel
theorem dX8_copy_23 : decode cX8_copy 23 = .ok (.ifCond .lt 12, 3) := by decide +kernel
theorem dX8_copy_26 : decode cX8_copy 26 = .ok (.aload_n 0, 1) := by decide +kernel
theorem dX8_copy_27 : decode cX8_copy 27 = .ok (.getfield 7, 3) := by decide +kernel
theorem dX8_copy_30 : decode cX8_copy 30 = .ok (.iload_n 3, 1) := by decide +kernel
theorem dX8_copy_31 : decode cX8_copy 31 = .ok (.iaload, 1) := by decide +kernel
theorem dX8_copy_32 : decode cX8_copy 32 = .ok (.ifCond .ge 9, 3) := by decide +kernel
theorem dX8_copy_35 : decode cX8_copy 35 = .ok (.aload_n 0, 1) := by decide +kernel
theorem dX8_copy_36 : decode cX8_copy 36 = .ok (.iconst 1, 1) := by decide +kernel
theorem dX8_copy_37 : decode cX8_copy 37 = .ok (.invokevirtual 88, 3) := by decide +kernel
theorem dX8_copy_40 : decode cX8_copy 40 = .ok (.ireturn, 1) := by decide +kernel
theorem dX8_copy_41 : decode cX8_copy 41 = .ok (.aload_n 0, 1) := by decide +kernel
theorem dX8_copy_42 : decode cX8_copy 42 = .ok (.getfield 7, 3) := by decide +kernel
theorem dX8_copy_45 : decode cX8_copy 45 = .ok (.iload_n 1, 1) := by decide +kernel
theorem dX8_copy_46 : decode cX8_copy 46 = .ok (.iaload, 1) := by decide +kernel
theorem dX8_copy_47 : decode cX8_copy 47 = .ok (.aload_n 0, 1) := by decide +kernel
theorem dX8_copy_48 : decode cX8_copy 48 = .ok (.getfield 7, 3) := by decide +kernel
theorem dX8_copy_51 : decode cX8_copy 51 = .ok (.iload_n 3, 1) := by decide +kernel
theorem dX8_copy_52 : decode cX8_copy 52 = .ok (.iaload, 1) := by decide +kernel
theorem dX8_copy_53 : decode cX8_copy 53 = .ok (.if_icmp .eq 9, 3) := by decide +kernel
theorem dX8_copy_56 : decode cX8_copy 56 = .ok (.aload_n 0, 1) := by decide +kernel
theorem dX8_copy_57 : decode cX8_copy 57 = .ok (.iconst 4, 1) := by decide +kernel
theorem dX8_copy_58 : decode cX8_copy 58 = .ok (.invokevirtual 88, 3) := by decide +kernel
end
section
theorem dX8_copy_61 : decode cX8_copy 61 = .ok (.ireturn, 1) := by decide +kernel
theorem dX8_copy_62 : decode cX8_copy 62 = .ok (.iload_n 2, 1) := by decide +kernel
theorem dX8_copy_63 : decode cX8_copy 63 = .ok (.ifCond .lt 48, 3) := by decide +kernel
theorem dX8_copy_66 : decode cX8_copy 66 = .ok (.iload 4, 2) := by decide +kernel
theorem dX8_copy_68 : decode cX8_copy 68 = .ok (.ifCond .lt 43, 3) := by decide +kernel
theorem dX8_copy_71 : decode cX8_copy 71 = .ok (.iload 5, 2) := by decide +kernel
theorem dX8_copy_73 : decode cX8_copy 73 = .ok (.ifCond .lt 38, 3) := by decide +kernel
theorem dX8_copy_76 : decode cX8_copy 76 = .ok (.iload_n 2, 1) := by decide +kernel
theorem dX8_copy_77 : decode cX8_copy 77 = .ok (.i2l, 1) := by decide +kernel
theorem dX8_copy_78 : decode cX8_copy 78 = .ok (.iload 5, 2) := by decide +kernel
theorem dX8_copy_80 : decode cX8_copy 80 = .ok (.i2l, 1) := by decide +kernel
theorem dX8_copy_81 : decode cX8_copy 81 = .ok (.ladd, 1) := by decide +kernel
theorem dX8_copy_82 : decode cX8_copy 82 = .ok (.aload_n 0, 1) := by decide +kernel
theorem dX8_copy_83 : decode cX8_copy 83 = .ok (.getfield 13, 3) := by decide +kernel
theorem dX8_copy_86 : decode cX8_copy 86 = .ok (.iload_n 1, 1) := by decide +kernel
theorem dX8_copy_87 : decode cX8_copy 87 = .ok (.iaload, 1) := by decide +kernel
theorem dX8_copy_88 : decode cX8_copy 88 = .ok (.i2l, 1) := by decide +kernel
theorem dX8_copy_89 : decode cX8_copy 89 = .ok (.lcmp, 1) := by decide +kernel
theorem dX8_copy_90 : decode cX8_copy 90 = .ok (.ifCond .gt 21, 3) := by decide +kernel
theorem dX8_copy_93 : decode cX8_copy 93 = .ok (.iload 4, 2) := by decide +kernel
theorem dX8_copy_95 : decode cX8_copy 95 = .ok (.i2l, 1) := by decide +kernel
theorem dX8_copy_96 : decode cX8_copy 96 = .ok (.iload 5, 2) := by decide +kernel
theorem dX8_copy_98 : decode cX8_copy 98 = .ok (.i2l, 1) := by decide +kernel
theorem dX8_copy_99 : decode cX8_copy 99 = .ok (.ladd, 1) := by decide +kernel
theorem dX8_copy_100 : decode cX8_copy 100 = .ok (.aload_n 0, 1) := by decide +kernel
theorem dX8_copy_101 : decode cX8_copy 101 = .ok (.getfield 13, 3) := by decide +kernel
theorem dX8_copy_104 : decode cX8_copy 104 = .ok (.iload_n 3, 1) := by decide +kernel
theorem dX8_copy_105 : decode cX8_copy 105 = .ok (.iaload, 1) := by decide +kernel
theorem dX8_copy_106 : decode cX8_copy 106 = .ok (.i2l, 1) := by decide +kernel
theorem dX8_copy_107 : decode cX8_copy 107 = .ok (.lcmp, 1) := by decide +kernel
theorem dX8_copy_108 : decode cX8_copy 108 = .ok (.ifCond .le 9, 3) := by decide +kernel
theorem dX8_copy_111 : decode cX8_copy 111 = .ok (.aload_n 0, 1) := by decide +kernel
theorem dX8_copy_112 : decode cX8_copy 112 = .ok (.iconst 2, 1) := by decide +kernel
theorem dX8_copy_113 : decode cX8_copy 113 = .ok (.invokevirtual 88, 3) := by decide +kernel
theorem dX8_copy_116 : decode cX8_copy 116 = .ok (.ireturn, 1) := by decide +kernel
theorem dX8_copy_117 : decode cX8_copy 117 = .ok (.iconst 0, 1) := by decide +kernel
theorem dX8_copy_118 : decode cX8_copy 118 = .ok (.istore 6, 2) := by decide +kernel
theorem dX8_copy_120 : decode cX8_copy 120 = .ok (.iload 6, 2) := by decide +kernel
theorem dX8_copy_122 : decode cX8_copy 122 = .ok (.iload 5, 2) := by decide +kernel
theorem dX8_copy_124 : decode cX8_copy 124 = .ok (.if_icmp .ge 30, 3) := by decide +kernel
theorem dX8_copy_127 : decode cX8_copy 127 = .ok (.aload_n 0, 1) := by decide +kernel
theorem dX8_copy_128 : decode cX8_copy 128 = .ok (.getfield 19, 3) := by decide +kernel
theorem dX8_copy_131 : decode cX8_copy 131 = .ok (.iload 6, 2) := by decide +kernel
theorem dX8_copy_133 : decode cX8_copy 133 = .ok (.aload_n 0, 1) := by decide +kernel
theorem dX8_copy_134 : decode cX8_copy 134 = .ok (.getfield 16, 3) := by decide +kernel
theorem dX8_copy_137 : decode cX8_copy 137 = .ok (.bipush 60, 2) := by decide +kernel
theorem dX8_copy_139 : decode cX8_copy 139 = .ok (.iload_n 1, 1) := by decide +kernel
theorem dX8_copy_140 : decode cX8_copy 140 = .ok (.imul, 1) := by decide +kernel
theorem dX8_copy_141 : decode cX8_copy 141 = .ok (.iload_n 2, 1) := by decide +kernel
theorem dX8_copy_142 : decode cX8_copy 142 = .ok (.iadd, 1) := by decide +kernel
theorem dX8_copy_143 : decode cX8_copy 143 = .ok (.iload 6, 2) := by decide +kernel
theorem dX8_copy_145 : decode cX8_copy 145 = .ok (.iadd, 1) := by decide +kernel
theorem dX8_copy_146 : decode cX8_copy 146 = .ok (.iaload, 1) := by decide +kernel
theorem dX8_copy_147 : decode cX8_copy 147 = .ok (.iastore, 1) := by decide +kernel
theorem dX8_copy_148 : decode cX8_copy 148 = .ok (.iinc 6 1, 3) := by decide +kernel
theorem dX8_copy_151 : decode cX8_copy 151 = .ok (.goto (-31), 3) := by decide +kernel
theorem dX8_copy_154 : decode cX8_copy 154 = .ok (.iconst 0, 1) := by decide +kernel
theorem dX8_copy_155 : decode cX8_copy 155 = .ok (.istore 6, 2) := by decide +kernel
theorem dX8_copy_157 : decode cX8_copy 157 = .ok (.iload 6, 2) := by decide +kernel
theorem dX8_copy_159 : decode cX8_copy 159 = .ok (.iload 5, 2) := by decide +kernel
theorem dX8_copy_161 : decode cX8_copy 161 = .ok (.if_icmp .ge 31, 3) := by decide +kernel
theorem dX8_copy_164 : decode cX8_copy 164 = .ok (.aload_n 0, 1) := by decide +kernel
theorem dX8_copy_165 : decode cX8_copy 165 = .ok (.getfield 16, 3) := by decide +kernel
theorem dX8_copy_168 : decode cX8_copy 168 = .ok (.bipush 60, 2) := by decide +kernel
theorem dX8_copy_170 : decode cX8_copy 170 = .ok (.iload_n 3, 1) := by decide +kernel
theorem dX8_copy_171 : decode cX8_copy 171 = .ok (.imul, 1) := by decide +kernel
theorem dX8_copy_172 : decode cX8_copy 172 = .ok (.iload 4, 2) := by decide +kernel
theorem dX8_copy_174 : decode cX8_copy 174 = .ok (.iadd, 1) := by decide +kernel
theorem dX8_copy_175 : decode cX8_copy 175 = .ok (.iload 6, 2) := by decide +kernel
theorem dX8_copy_177 : decode cX8_copy 177 = .ok (.iadd, 1) := by decide +kernel
theorem dX8_copy_178 : decode cX8_copy 178 = .ok (.aload_n 0, 1) := by decide +kernel
theorem dX8_copy_179 : decode cX8_copy 179 = .ok (.getfield 19, 3) := by decide +kernel
theorem dX8_copy_182 : decode cX8_copy 182 = .ok (.iload 6, 2) := by decide +kernel
theorem dX8_copy_184 : decode cX8_copy 184 = .ok (.iaload, 1) := by decide +kernel
theorem dX8_copy_185 : decode cX8_copy 185 = .ok (.iastore, 1) := by decide +kernel
theorem dX8_copy_186 : decode cX8_copy 186 = .ok (.iinc 6 1, 3) := by decide +kernel
theorem dX8_copy_189 : decode cX8_copy 189 = .ok (.goto (-32), 3) := by decide +kernel
theorem dX8_copy_192 : decode cX8_copy 192 = .ok (.iconst 1, 1) := by decide +kernel
theorem dX8_copy_193 : decode cX8_copy 193 = .ok (.ireturn, 1) := by decide +kernel
theorem dX8_type_0 : decode cX8_type 0 = .ok (.iload_n 1, 1) := by decide +kernel
theorem dX8_type_1 : decode cX8_type 1 = .ok (.invokestatic 101, 3) := by decide +kernel
theorem dX8_type_4 : decode cX8_type 4 = .ok (.ifCond .eq 15, 3) := by decide +kernel
theorem dX8_type_7 : decode cX8_type 7 = .ok (.iload_n 2, 1) := by decide +kernel
theorem dX8_type_8 : decode cX8_type 8 = .ok (.i2l, 1) := by decide +kernel
theorem dX8_type_9 : decode cX8_type 9 = .ok (.lconst 0, 1) := by decide +kernel
theorem dX8_type_10 : decode cX8_type 10 = .ok (.ldc2_w 104, 3) := by decide +kernel
theorem dX8_type_13 : decode cX8_type 13 = .ok (.invokestatic 72, 3) := by decide +kernel
theorem dX8_type_16 : decode cX8_type 16 = .ok (.ifCond .ne 6, 3) := by decide +kernel
theorem dX8_type_19 : decode cX8_type 19 = .ok (.bipush (-2), 2) := by decide +kernel
theorem dX8_type_21 : decode cX8_type 21 = .ok (.ireturn, 1) := by decide +kernel
theorem dX8_type_22 : decode cX8_type 22 = .ok (.aload_n 0, 1) := by decide +kernel
theorem dX8_type_23 : decode cX8_type 23 = .ok (.getfield 25, 3) := by decide +kernel
theorem dX8_type_26 : decode cX8_type 26 = .ok (.iload_n 1, 1) := by decide +kernel
theorem dX8_type_27 : decode cX8_type 27 = .ok (.iaload, 1) := by decide +kernel
theorem dX8_type_28 : decode cX8_type 28 = .ok (.iload_n 1, 1) := by decide +kernel
theorem dX8_type_29 : decode cX8_type 29 = .ok (.ifCond .ne 8, 3) := by decide +kernel
theorem dX8_type_32 : decode cX8_type 32 = .ok (.bipush 59, 2) := by decide +kernel
theorem dX8_type_34 : decode cX8_type 34 = .ok (.goto 5, 3) := by decide +kernel
theorem dX8_type_37 : decode cX8_type 37 = .ok (.bipush 19, 2) := by decide +kernel
theorem dX8_type_39 : decode cX8_type 39 = .ok (.if_icmp .ne 6, 3) := by decide +kernel
theorem dX8_type_42 : decode cX8_type 42 = .ok (.bipush (-4), 2) := by decide +kernel
theorem dX8_type_44 : decode cX8_type 44 = .ok (.ireturn, 1) := by decide +kernel
theorem dX8_type_45 : decode cX8_type 45 = .ok (.aload_n 0, 1) := by decide +kernel
theorem dX8_type_46 : decode cX8_type 46 = .ok (.getfield 22, 3) := by decide +kernel
theorem dX8_type_49 : decode cX8_type 49 = .ok (.bipush 60, 2) := by decide +kernel
theorem dX8_type_51 : decode cX8_type 51 = .ok (.iload_n 1, 1) := by decide +kernel
theorem dX8_type_52 : decode cX8_type 52 = .ok (.imul, 1) := by decide +kernel
theorem dX8_type_53 : decode cX8_type 53 = .ok (.aload_n 0, 1) := by decide +kernel
theorem dX8_type_54 : decode cX8_type 54 = .ok (.getfield 25, 3) := by decide +kernel
theorem dX8_type_57 : decode cX8_type 57 = .ok (.iload_n 1, 1) := by decide +kernel
theorem dX8_type_58 : decode cX8_type 58 = .ok (.iaload, 1) := by decide +kernel
theorem dX8_type_59 : decode cX8_type 59 = .ok (.iadd, 1) := by decide +kernel
theorem dX8_type_60 : decode cX8_type 60 = .ok (.iload_n 2, 1) := by decide +kernel
theorem dX8_type_61 : decode cX8_type 61 = .ok (.iastore, 1) := by decide +kernel
theorem dX8_type_62 : decode cX8_type 62 = .ok (.aload_n 0, 1) := by decide +kernel
theorem dX8_type_63 : decode cX8_type 63 = .ok (.getfield 25, 3) := by decide +kernel
theorem dX8_type_66 : decode cX8_type 66 = .ok (.iload_n 1, 1) := by decide +kernel
theorem dX8_type_67 : decode cX8_type 67 = .ok (.dup2, 1) := by decide +kernel
theorem dX8_type_68 : decode cX8_type 68 = .ok (.iaload, 1) := by decide +kernel
theorem dX8_type_69 : decode cX8_type 69 = .ok (.iconst 1, 1) := by decide +kernel
theorem dX8_type_70 : decode cX8_type 70 = .ok (.iadd, 1) := by decide +kernel
theorem dX8_type_71 : decode cX8_type 71 = .ok (.iastore, 1) := by decide +kernel
theorem dX8_type_72 : decode cX8_type 72 = .ok (.aload_n 0, 1) := by decide +kernel
theorem dX8_type_73 : decode cX8_type 73 = .ok (.getfield 25, 3) := by decide +kernel
theorem dX8_type_76 : decode cX8_type 76 = .ok (.iload_n 1, 1) := by decide +kernel
theorem dX8_type_77 : decode cX8_type 77 = .ok (.iaload, 1) := by decide +kernel
theorem dX8_type_78 : decode cX8_type 78 = .ok (.ireturn, 1) := by decide +kernel
theorem dX8_wipe_0 : decode cX8_wipe 0 = .ok (.iload_n 1, 1) := by decide +kernel
theorem dX8_wipe_1 : decode cX8_wipe 1 = .ok (.invokestatic 101, 3) := by decide +kernel
theorem dX8_wipe_4 : decode cX8_wipe 4 = .ok (.ifCond .ne 6, 3) := by decide +kernel
theorem dX8_wipe_7 : decode cX8_wipe 7 = .ok (.bipush (-2), 2) := by decide +kernel
theorem dX8_wipe_9 : decode cX8_wipe 9 = .ok (.ireturn, 1) := by decide +kernel
theorem dX8_wipe_10 : decode cX8_wipe 10 = .ok (.aload_n 0, 1) := by decide +kernel
theorem dX8_wipe_11 : decode cX8_wipe 11 = .ok (.getfield 25, 3) := by decide +kernel
theorem dX8_wipe_14 : decode cX8_wipe 14 = .ok (.iload_n 1, 1) := by decide +kernel
theorem dX8_wipe_15 : decode cX8_wipe 15 = .ok (.iaload, 1) := by decide +kernel
theorem dX8_wipe_16 : decode cX8_wipe 16 = .ok (.istore_n 2, 1) := by decide +kernel
theorem dX8_wipe_17 : decode cX8_wipe 17 = .ok (.aload_n 0, 1) := by decide +kernel
theorem dX8_wipe_18 : decode cX8_wipe 18 = .ok (.getfield 25, 3) := by decide +kernel
theorem dX8_wipe_21 : decode cX8_wipe 21 = .ok (.iload_n 1, 1) := by decide +kernel
theorem dX8_wipe_22 : decode cX8_wipe 22 = .ok (.iconst 0, 1) := by decide +kernel
theorem dX8_wipe_23 : decode cX8_wipe 23 = .ok (.iastore, 1) := by decide +kernel
theorem dX8_wipe_24 : decode cX8_wipe 24 = .ok (.iload_n 2, 1) := by decide +kernel
theorem dX8_wipe_25 : decode cX8_wipe 25 = .ok (.ireturn, 1) := by decide +kernel
theorem dX8_here_0 : decode cX8_here 0 = .ok (.aload_n 0, 1) := by decide +kernel
theorem dX8_here_1 : decode cX8_here 1 = .ok (.getfield 106, 3) := by decide +kernel
theorem dX8_here_4 : decode cX8_here 4 = .ok (.aload_n 0, 1) := by decide +kernel
theorem dX8_here_5 : decode cX8_here 5 = .ok (.getfield 25, 3) := by decide +kernel
theorem dX8_here_8 : decode cX8_here 8 = .ok (.iload_n 1, 1) := by decide +kernel
theorem dX8_here_9 : decode cX8_here 9 = .ok (.iaload, 1) := by decide +kernel
theorem dX8_here_10 : decode cX8_here 10 = .ok (.if_icmp .ge 20, 3) := by decide +kernel
theorem dX8_here_13 : decode cX8_here 13 = .ok (.aload_n 0, 1) := by decide +kernel
theorem dX8_here_14 : decode cX8_here 14 = .ok (.getfield 22, 3) := by decide +kernel
theorem dX8_here_17 : decode cX8_here 17 = .ok (.bipush 60, 2) := by decide +kernel
theorem dX8_here_19 : decode cX8_here 19 = .ok (.iload_n 1, 1) := by decide +kernel
theorem dX8_here_20 : decode cX8_here 20 = .ok (.imul, 1) := by decide +kernel
theorem dX8_here_21 : decode cX8_here 21 = .ok (.aload_n 0, 1) := by decide +kernel
theorem dX8_here_22 : decode cX8_here 22 = .ok (.getfield 106, 3) := by decide +kernel
theorem dX8_here_25 : decode cX8_here 25 = .ok (.iadd, 1) := by decide +kernel
theorem dX8_here_26 : decode cX8_here 26 = .ok (.iaload, 1) := by decide +kernel
theorem dX8_here_27 : decode cX8_here 27 = .ok (.goto 4, 3) := by decide +kernel
theorem dX8_here_30 : decode cX8_here 30 = .ok (.iconst (-1), 1) := by decide +kernel
theorem dX8_here_31 : decode cX8_here 31 = .ok (.ireturn, 1) := by decide +kernel
theorem dX8_kindOf_0 : decode cX8_kindOf 0 = .ok (.iload_n 0, 1) := by decide +kernel
theorem dX8_kindOf_1 : decode cX8_kindOf 1 = .ok (.bipush 112, 2) := by decide +kernel
theorem dX8_kindOf_3 : decode cX8_kindOf 3 = .ok (.if_icmp .ne 7, 3) := by decide +kernel
theorem dX8_kindOf_6 : decode cX8_kindOf 6 = .ok (.iconst 0, 1) := by decide +kernel
theorem dX8_kindOf_7 : decode cX8_kindOf 7 = .ok (.goto 34, 3) := by decide +kernel
theorem dX8_kindOf_10 : decode cX8_kindOf 10 = .ok (.iload_n 0, 1) := by decide +kernel
theorem dX8_kindOf_11 : decode cX8_kindOf 11 = .ok (.bipush 99, 2) := by decide +kernel
theorem dX8_kindOf_13 : decode cX8_kindOf 13 = .ok (.if_icmp .ne 7, 3) := by decide +kernel
theorem dX8_kindOf_16 : decode cX8_kindOf 16 = .ok (.iconst 1, 1) := by decide +kernel
theorem dX8_kindOf_17 : decode cX8_kindOf 17 = .ok (.goto 24, 3) := by decide +kernel
theorem dX8_kindOf_20 : decode cX8_kindOf 20 = .ok (.iload_n 0, 1) := by decide +kernel
theorem dX8_kindOf_21 : decode cX8_kindOf 21 = .ok (.bipush 108, 2) := by decide +kernel
theorem dX8_kindOf_23 : decode cX8_kindOf 23 = .ok (.if_icmp .ne 7, 3) := by decide +kernel
theorem dX8_kindOf_26 : decode cX8_kindOf 26 = .ok (.iconst 2, 1) := by decide +kernel
theorem dX8_kindOf_27 : decode cX8_kindOf 27 = .ok (.goto 14, 3) := by decide +kernel
theorem dX8_kindOf_30 : decode cX8_kindOf 30 = .ok (.iload_n 0, 1) := by decide +kernel
theorem dX8_kindOf_31 : decode cX8_kindOf 31 = .ok (.bipush 114, 2) := by decide +kernel
theorem dX8_kindOf_33 : decode cX8_kindOf 33 = .ok (.if_icmp .ne 7, 3) := by decide +kernel
theorem dX8_kindOf_36 : decode cX8_kindOf 36 = .ok (.iconst 3, 1) := by decide +kernel
theorem dX8_kindOf_37 : decode cX8_kindOf 37 = .ok (.goto 4, 3) := by decide +kernel
theorem dX8_kindOf_40 : decode cX8_kindOf 40 = .ok (.iconst (-1), 1) := by decide +kernel
theorem dX8_kindOf_41 : decode cX8_kindOf 41 = .ok (.ireturn, 1) := by decide +kernel
theorem dX8_readsVerse_0 : decode cX8_readsVerse 0 = .ok (.aload_n 0, 1) := by decide +kernel
theorem dX8_readsVerse_1 : decode cX8_readsVerse 1 = .ok (.iload_n 1, 1) := by decide +kernel
theorem dX8_readsVerse_2 : decode cX8_readsVerse 2 = .ok (.invokevirtual 109, 3) := by decide +kernel
theorem dX8_readsVerse_5 : decode cX8_readsVerse 5 = .ok (.invokestatic 112, 3) := by decide +kernel
theorem dX8_readsVerse_8 : decode cX8_readsVerse 8 = .ok (.istore_n 2, 1) := by decide +kernel
theorem dX8_readsVerse_9 : decode cX8_readsVerse 9 = .ok (.aload_n 0, 1) := by decide +kernel
theorem dX8_readsVerse_10 : decode cX8_readsVerse 10 = .ok (.getfield 28, 3) := by decide +kernel
theorem dX8_readsVerse_13 : decode cX8_readsVerse 13 = .ok (.iload_n 1, 1) := by decide +kernel
theorem dX8_readsVerse_14 : decode cX8_readsVerse 14 = .ok (.iaload, 1) := by decide +kernel
theorem dX8_readsVerse_15 : decode cX8_readsVerse 15 = .ok (.iload_n 1, 1) := by decide +kernel
theorem dX8_readsVerse_16 : decode cX8_readsVerse 16 = .ok (.ifCond .ne 8, 3) := by decide +kernel
theorem dX8_readsVerse_19 : decode cX8_readsVerse 19 = .ok (.bipush 12, 2) := by decide +kernel
theorem dX8_readsVerse_21 : decode cX8_readsVerse 21 = .ok (.goto 4, 3) := by decide +kernel
theorem dX8_readsVerse_24 : decode cX8_readsVerse 24 = .ok (.iconst 4, 1) := by decide +kernel
theorem dX8_readsVerse_25 : decode cX8_readsVerse 25 = .ok (.if_icmp .eq 8, 3) := by decide +kernel
theorem dX8_readsVerse_28 : decode cX8_readsVerse 28 = .ok (.iload_n 2, 1) := by decide +kernel
theorem dX8_readsVerse_29 : decode cX8_readsVerse 29 = .ok (.iconst (-1), 1) := by decide +kernel
theorem dX8_readsVerse_30 : decode cX8_readsVerse 30 = .ok (.if_icmp .ne 5, 3) := by decide +kernel
theorem dX8_readsVerse_33 : decode cX8_readsVerse 33 = .ok (.iconst 0, 1) := by decide +kernel
theorem dX8_readsVerse_34 : decode cX8_readsVerse 34 = .ok (.ireturn, 1) := by decide +kernel
theorem dX8_readsVerse_35 : decode cX8_readsVerse 35 = .ok (.iconst 4, 1) := by decide +kernel
theorem dX8_readsVerse_36 : decode cX8_readsVerse 36 = .ok (.bipush 12, 2) := by decide +kernel
theorem dX8_readsVerse_38 : decode cX8_readsVerse 38 = .ok (.iload_n 1, 1) := by decide +kernel
theorem dX8_readsVerse_39 : decode cX8_readsVerse 39 = .ok (.imul, 1) := by decide +kernel
theorem dX8_readsVerse_40 : decode cX8_readsVerse 40 = .ok (.aload_n 0, 1) := by decide +kernel
theorem dX8_readsVerse_41 : decode cX8_readsVerse 41 = .ok (.getfield 28, 3) := by decide +kernel
theorem dX8_readsVerse_44 : decode cX8_readsVerse 44 = .ok (.iload_n 1, 1) := by decide +kernel
theorem dX8_readsVerse_45 : decode cX8_readsVerse 45 = .ok (.iaload, 1) := by decide +kernel
theorem dX8_readsVerse_46 : decode cX8_readsVerse 46 = .ok (.iadd, 1) := by decide +kernel
theorem dX8_readsVerse_47 : decode cX8_readsVerse 47 = .ok (.imul, 1) := by decide +kernel
theorem dX8_readsVerse_48 : decode cX8_readsVerse 48 = .ok (.istore_n 3, 1) := by decide +kernel
theorem dX8_readsVerse_49 : decode cX8_readsVerse 49 = .ok (.aload_n 0, 1) := by decide +kernel
theorem dX8_readsVerse_50 : decode cX8_readsVerse 50 = .ok (.dup, 1) := by decide +kernel
theorem dX8_readsVerse_51 : decode cX8_readsVerse 51 = .ok (.getfield 106, 3) := by decide +kernel
theorem dX8_readsVerse_54 : decode cX8_readsVerse 54 = .ok (.iconst 1, 1) := by decide +kernel
theorem dX8_readsVerse_55 : decode cX8_readsVerse 55 = .ok (.iadd, 1) := by decide +kernel
theorem dX8_readsVerse_56 : decode cX8_readsVerse 56 = .ok (.putfield 106, 3) := by decide +kernel
theorem dX8_readsVerse_59 : decode cX8_readsVerse 59 = .ok (.iconst 0, 1) := by decide +kernel
theorem dX8_readsVerse_60 : decode cX8_readsVerse 60 = .ok (.istore 4, 2) := by decide +kernel
theorem dX8_readsVerse_62 : decode cX8_readsVerse 62 = .ok (.iload 4, 2) := by decide +kernel
theorem dX8_readsVerse_64 : decode cX8_readsVerse 64 = .ok (.iconst 3, 1) := by decide +kernel
theorem dX8_readsVerse_65 : decode cX8_readsVerse 65 = .ok (.if_icmp .ge 65, 3) := by decide +kernel
theorem dX8_readsVerse_68 : decode cX8_readsVerse 68 = .ok (.aload_n 0, 1) := by decide +kernel
theorem dX8_readsVerse_69 : decode cX8_readsVerse 69 = .ok (.iload_n 1, 1) := by decide +kernel
theorem dX8_readsVerse_70 : decode cX8_readsVerse 70 = .ok (.invokevirtual 109, 3) := by decide +kernel
theorem dX8_readsVerse_73 : decode cX8_readsVerse 73 = .ok (.bipush 48, 2) := by decide +kernel
theorem dX8_readsVerse_75 : decode cX8_readsVerse 75 = .ok (.isub, 1) := by decide +kernel
theorem dX8_readsVerse_76 : decode cX8_readsVerse 76 = .ok (.istore 5, 2) := by decide +kernel
theorem dX8_readsVerse_78 : decode cX8_readsVerse 78 = .ok (.iload 5, 2) := by decide +kernel
theorem dX8_readsVerse_80 : decode cX8_readsVerse 80 = .ok (.i2l, 1) := by decide +kernel
theorem dX8_readsVerse_81 : decode cX8_readsVerse 81 = .ok (.iload 4, 2) := by decide +kernel
theorem dX8_readsVerse_83 : decode cX8_readsVerse 83 = .ok (.iconst 1, 1) := by decide +kernel
theorem dX8_readsVerse_84 : decode cX8_readsVerse 84 = .ok (.if_icmp .ne 7, 3) := by decide +kernel
theorem dX8_readsVerse_87 : decode cX8_readsVerse 87 = .ok (.lconst 1, 1) := by decide +kernel
theorem dX8_readsVerse_88 : decode cX8_readsVerse 88 = .ok (.goto 4, 3) := by decide +kernel
theorem dX8_readsVerse_91 : decode cX8_readsVerse 91 = .ok (.lconst 0, 1) := by decide +kernel
theorem dX8_readsVerse_92 : decode cX8_readsVerse 92 = .ok (.ldc2_w 115, 3) := by decide +kernel
theorem dX8_readsVerse_95 : decode cX8_readsVerse 95 = .ok (.invokestatic 72, 3) := by decide +kernel
theorem dX8_readsVerse_98 : decode cX8_readsVerse 98 = .ok (.ifCond .ne 5, 3) := by decide +kernel
theorem dX8_readsVerse_101 : decode cX8_readsVerse 101 = .ok (.iconst 0, 1) := by decide +kernel
theorem dX8_readsVerse_102 : decode cX8_readsVerse 102 = .ok (.ireturn, 1) := by decide +kernel
theorem dX8_readsVerse_103 : decode cX8_readsVerse 103 = .ok (.aload_n 0, 1) := by decide +kernel
theorem dX8_readsVerse_104 : decode cX8_readsVerse 104 = .ok (.getfield 31, 3) := by decide +kernel
theorem dX8_readsVerse_107 : decode cX8_readsVerse 107 = .ok (.iload_n 3, 1) := by decide +kernel
theorem dX8_readsVerse_108 : decode cX8_readsVerse 108 = .ok (.iload 4, 2) := by decide +kernel
theorem dX8_readsVerse_110 : decode cX8_readsVerse 110 = .ok (.iadd, 1) := by decide +kernel
theorem dX8_readsVerse_111 : decode cX8_readsVerse 111 = .ok (.iload 5, 2) := by decide +kernel
theorem dX8_readsVerse_113 : decode cX8_readsVerse 113 = .ok (.iastore, 1) := by decide +kernel
theorem dX8_readsVerse_114 : decode cX8_readsVerse 114 = .ok (.aload_n 0, 1) := by decide +kernel
theorem dX8_readsVerse_115 : decode cX8_readsVerse 115 = .ok (.dup, 1) := by decide +kernel
theorem dX8_readsVerse_116 : decode cX8_readsVerse 116 = .ok (.getfield 106, 3) := by decide +kernel
theorem dX8_readsVerse_119 : decode cX8_readsVerse 119 = .ok (.iconst 1, 1) := by decide +kernel
theorem dX8_readsVerse_120 : decode cX8_readsVerse 120 = .ok (.iadd, 1) := by decide +kernel
theorem dX8_readsVerse_121 : decode cX8_readsVerse 121 = .ok (.putfield 106, 3) := by decide +kernel
theorem dX8_readsVerse_124 : decode cX8_readsVerse 124 = .ok (.iinc 4 1, 3) := by decide +kernel
theorem dX8_readsVerse_127 : decode cX8_readsVerse 127 = .ok (.goto (-65), 3) := by decide +kernel
theorem dX8_readsVerse_130 : decode cX8_readsVerse 130 = .ok (.aload_n 0, 1) := by decide +kernel
theorem dX8_readsVerse_131 : decode cX8_readsVerse 131 = .ok (.getfield 31, 3) := by decide +kernel
theorem dX8_readsVerse_134 : decode cX8_readsVerse 134 = .ok (.iload_n 3, 1) := by decide +kernel
theorem dX8_readsVerse_135 : decode cX8_readsVerse 135 = .ok (.iconst 3, 1) := by decide +kernel
theorem dX8_readsVerse_136 : decode cX8_readsVerse 136 = .ok (.iadd, 1) := by decide +kernel
theorem dX8_readsVerse_137 : decode cX8_readsVerse 137 = .ok (.iload_n 2, 1) := by decide +kernel
theorem dX8_readsVerse_138 : decode cX8_readsVerse 138 = .ok (.iastore, 1) := by decide +kernel
theorem dX8_readsVerse_139 : decode cX8_readsVerse 139 = .ok (.aload_n 0, 1) := by decide +kernel
theorem dX8_readsVerse_140 : decode cX8_readsVerse 140 = .ok (.getfield 28, 3) := by decide +kernel
theorem dX8_readsVerse_143 : decode cX8_readsVerse 143 = .ok (.iload_n 1, 1) := by decide +kernel
theorem dX8_readsVerse_144 : decode cX8_readsVerse 144 = .ok (.dup2, 1) := by decide +kernel
theorem dX8_readsVerse_145 : decode cX8_readsVerse 145 = .ok (.iaload, 1) := by decide +kernel
theorem dX8_readsVerse_146 : decode cX8_readsVerse 146 = .ok (.iconst 1, 1) := by decide +kernel
theorem dX8_readsVerse_147 : decode cX8_readsVerse 147 = .ok (.iadd, 1) := by decide +kernel
theorem dX8_readsVerse_148 : decode cX8_readsVerse 148 = .ok (.iastore, 1) := by decide +kernel
theorem dX8_readsVerse_149 : decode cX8_readsVerse 149 = .ok (.iconst 1, 1) := by decide +kernel
theorem dX8_readsVerse_150 : decode cX8_readsVerse 150 = .ok (.ireturn, 1) := by decide +kernel
theorem dX8_readsText_0 : decode cX8_readsText 0 = .ok (.aload_n 0, 1) := by decide +kernel
theorem dX8_readsText_1 : decode cX8_readsText 1 = .ok (.iconst 0, 1) := by decide +kernel
theorem dX8_readsText_2 : decode cX8_readsText 2 = .ok (.putfield 106, 3) := by decide +kernel
theorem dX8_readsText_5 : decode cX8_readsText 5 = .ok (.aload_n 0, 1) := by decide +kernel
theorem dX8_readsText_6 : decode cX8_readsText 6 = .ok (.getfield 28, 3) := by decide +kernel
theorem dX8_readsText_9 : decode cX8_readsText 9 = .ok (.iload_n 1, 1) := by decide +kernel
theorem dX8_readsText_10 : decode cX8_readsText 10 = .ok (.iconst 0, 1) := by decide +kernel
theorem dX8_readsText_11 : decode cX8_readsText 11 = .ok (.iastore, 1) := by decide +kernel
theorem dX8_readsText_12 : decode cX8_readsText 12 = .ok (.aload_n 0, 1) := by decide +kernel
theorem dX8_readsText_13 : decode cX8_readsText 13 = .ok (.getfield 25, 3) := by decide +kernel
theorem dX8_readsText_16 : decode cX8_readsText 16 = .ok (.iload_n 1, 1) := by decide +kernel
theorem dX8_readsText_17 : decode cX8_readsText 17 = .ok (.iaload, 1) := by decide +kernel
theorem dX8_readsText_18 : decode cX8_readsText 18 = .ok (.ifCond .le 7, 3) := by decide +kernel
theorem dX8_readsText_21 : decode cX8_readsText 21 = .ok (.iconst 1, 1) := by decide +kernel
theorem dX8_readsText_22 : decode cX8_readsText 22 = .ok (.goto 4, 3) := by decide +kernel
theorem dX8_readsText_25 : decode cX8_readsText 25 = .ok (.iconst 0, 1) := by decide +kernel
theorem dX8_readsText_26 : decode cX8_readsText 26 = .ok (.istore_n 2, 1) := by decide +kernel
theorem dX8_readsText_27 : decode cX8_readsText 27 = .ok (.iload_n 2, 1) := by decide +kernel
theorem dX8_readsText_28 : decode cX8_readsText 28 = .ok (.ifCond .eq 83, 3) := by decide +kernel
theorem dX8_readsText_31 : decode cX8_readsText 31 = .ok (.aload_n 0, 1) := by decide +kernel
theorem dX8_readsText_32 : decode cX8_readsText 32 = .ok (.iload_n 1, 1) := by decide +kernel
theorem dX8_readsText_33 : decode cX8_readsText 33 = .ok (.invokevirtual 117, 3) := by decide +kernel
theorem dX8_readsText_36 : decode cX8_readsText 36 = .ok (.istore_n 3, 1) := by decide +kernel
theorem dX8_readsText_37 : decode cX8_readsText 37 = .ok (.iload_n 3, 1) := by decide +kernel
theorem dX8_readsText_38 : decode cX8_readsText 38 = .ok (.ifCond .eq 20, 3) := by decide +kernel
theorem dX8_readsText_41 : decode cX8_readsText 41 = .ok (.aload_n 0, 1) := by decide +kernel
theorem dX8_readsText_42 : decode cX8_readsText 42 = .ok (.getfield 106, 3) := by decide +kernel
theorem dX8_readsText_45 : decode cX8_readsText 45 = .ok (.aload_n 0, 1) := by decide +kernel
theorem dX8_readsText_46 : decode cX8_readsText 46 = .ok (.getfield 25, 3) := by decide +kernel
theorem dX8_readsText_49 : decode cX8_readsText 49 = .ok (.iload_n 1, 1) := by decide +kernel
theorem dX8_readsText_50 : decode cX8_readsText 50 = .ok (.iaload, 1) := by decide +kernel
theorem dX8_readsText_51 : decode cX8_readsText 51 = .ok (.if_icmp .ge 7, 3) := by decide +kernel
theorem dX8_readsText_54 : decode cX8_readsText 54 = .ok (.iconst 1, 1) := by decide +kernel
theorem dX8_readsText_55 : decode cX8_readsText 55 = .ok (.goto 4, 3) := by decide +kernel
theorem dX8_readsText_58 : decode cX8_readsText 58 = .ok (.iconst 0, 1) := by decide +kernel
theorem dX8_readsText_59 : decode cX8_readsText 59 = .ok (.istore_n 2, 1) := by decide +kernel
theorem dX8_readsText_60 : decode cX8_readsText 60 = .ok (.iload_n 3, 1) := by decide +kernel
theorem dX8_readsText_61 : decode cX8_readsText 61 = .ok (.ifCond .eq 17, 3) := by decide +kernel
theorem dX8_readsText_64 : decode cX8_readsText 64 = .ok (.iload_n 2, 1) := by decide +kernel
theorem dX8_readsText_65 : decode cX8_readsText 65 = .ok (.ifCond .eq 25, 3) := by decide +kernel
theorem dX8_readsText_68 : decode cX8_readsText 68 = .ok (.aload_n 0, 1) := by decide +kernel
theorem dX8_readsText_69 : decode cX8_readsText 69 = .ok (.iload_n 1, 1) := by decide +kernel
theorem dX8_readsText_70 : decode cX8_readsText 70 = .ok (.invokevirtual 109, 3) := by decide +kernel
theorem dX8_readsText_73 : decode cX8_readsText 73 = .ok (.bipush 59, 2) := by decide +kernel
theorem dX8_readsText_75 : decode cX8_readsText 75 = .ok (.if_icmp .eq 15, 3) := by decide +kernel
theorem dX8_readsText_78 : decode cX8_readsText 78 = .ok (.aload_n 0, 1) := by decide +kernel
theorem dX8_readsText_79 : decode cX8_readsText 79 = .ok (.getfield 28, 3) := by decide +kernel
theorem dX8_readsText_82 : decode cX8_readsText 82 = .ok (.iload_n 1, 1) := by decide +kernel
theorem dX8_readsText_83 : decode cX8_readsText 83 = .ok (.iconst 0, 1) := by decide +kernel
theorem dX8_readsText_84 : decode cX8_readsText 84 = .ok (.iastore, 1) := by decide +kernel
theorem dX8_readsText_85 : decode cX8_readsText 85 = .ok (.aload_n 0, 1) := by decide +kernel
theorem dX8_readsText_86 : decode cX8_readsText 86 = .ok (.getfield 106, 3) := by decide +kernel
theorem dX8_readsText_89 : decode cX8_readsText 89 = .ok (.ireturn, 1) := by decide +kernel
theorem dX8_readsText_90 : decode cX8_readsText 90 = .ok (.aload_n 0, 1) := by decide +kernel
theorem dX8_readsText_91 : decode cX8_readsText 91 = .ok (.dup, 1) := by decide +kernel
theorem dX8_readsText_92 : decode cX8_readsText 92 = .ok (.getfield 106, 3) := by decide +kernel
theorem dX8_readsText_95 : decode cX8_readsText 95 = .ok (.iload_n 2, 1) := by decide +kernel
theorem dX8_readsText_96 : decode cX8_readsText 96 = .ok (.ifCond .eq 7, 3) := by decide +kernel
theorem dX8_readsText_99 : decode cX8_readsText 99 = .ok (.iconst 1, 1) := by decide +kernel
theorem dX8_readsText_100 : decode cX8_readsText 100 = .ok (.goto 4, 3) := by decide +kernel
theorem dX8_readsText_103 : decode cX8_readsText 103 = .ok (.iconst 0, 1) := by decide +kernel
theorem dX8_readsText_104 : decode cX8_readsText 104 = .ok (.iadd, 1) := by decide +kernel
theorem dX8_readsText_105 : decode cX8_readsText 105 = .ok (.putfield 106, 3) := by decide +kernel
theorem dX8_readsText_108 : decode cX8_readsText 108 = .ok (.goto (-81), 3) := by decide +kernel
theorem dX8_readsText_111 : decode cX8_readsText 111 = .ok (.iconst (-1), 1) := by decide +kernel
theorem dX8_readsText_112 : decode cX8_readsText 112 = .ok (.ireturn, 1) := by decide +kernel
theorem dX8_fault_0 : decode cX8_fault 0 = .ok (.iload_n 1, 1) := by decide +kernel
theorem dX8_fault_1 : decode cX8_fault 1 = .ok (.invokestatic 101, 3) := by decide +kernel
theorem dX8_fault_4 : decode cX8_fault 4 = .ok (.ifCond .eq 11, 3) := by decide +kernel
theorem dX8_fault_7 : decode cX8_fault 7 = .ok (.aload_n 0, 1) := by decide +kernel
theorem dX8_fault_8 : decode cX8_fault 8 = .ok (.iload_n 1, 1) := by decide +kernel
theorem dX8_fault_9 : decode cX8_fault 9 = .ok (.invokevirtual 120, 3) := by decide +kernel
theorem dX8_fault_12 : decode cX8_fault 12 = .ok (.goto 5, 3) := by decide +kernel
theorem dX8_fault_15 : decode cX8_fault 15 = .ok (.bipush (-2), 2) := by decide +kernel
theorem dX8_fault_17 : decode cX8_fault 17 = .ok (.ireturn, 1) := by decide +kernel
theorem dX8_undo_0 : decode cX8_undo 0 = .ok (.iload_n 1, 1) := by decide +kernel
theorem dX8_undo_1 : decode cX8_undo 1 = .ok (.invokestatic 101, 3) := by decide +kernel
theorem dX8_undo_4 : decode cX8_undo 4 = .ok (.ifCond .ne 6, 3) := by decide +kernel
theorem dX8_undo_7 : decode cX8_undo 7 = .ok (.bipush (-2), 2) := by decide +kernel
theorem dX8_undo_9 : decode cX8_undo 9 = .ok (.ireturn, 1) := by decide +kernel
theorem dX8_undo_10 : decode cX8_undo 10 = .ok (.aload_n 0, 1) := by decide +kernel
theorem dX8_undo_11 : decode cX8_undo 11 = .ok (.iload_n 1, 1) := by decide +kernel
theorem dX8_undo_12 : decode cX8_undo 12 = .ok (.invokevirtual 120, 3) := by decide +kernel
theorem dX8_undo_15 : decode cX8_undo 15 = .ok (.pop, 1) := by decide +kernel
theorem dX8_undo_16 : decode cX8_undo 16 = .ok (.aload_n 0, 1) := by decide +kernel
theorem dX8_undo_17 : decode cX8_undo 17 = .ok (.getfield 28, 3) := by decide +kernel
theorem dX8_undo_20 : decode cX8_undo 20 = .ok (.iload_n 1, 1) := by decide +kernel
theorem dX8_undo_21 : decode cX8_undo 21 = .ok (.iaload, 1) := by decide +kernel
theorem dX8_undo_22 : decode cX8_undo 22 = .ok (.ifCond .ne 6, 3) := by decide +kernel
theorem dX8_undo_25 : decode cX8_undo 25 = .ok (.bipush (-3), 2) := by decide +kernel
theorem dX8_undo_27 : decode cX8_undo 27 = .ok (.ireturn, 1) := by decide +kernel
theorem dX8_undo_28 : decode cX8_undo 28 = .ok (.aload_n 0, 1) := by decide +kernel
theorem dX8_undo_29 : decode cX8_undo 29 = .ok (.getfield 25, 3) := by decide +kernel
theorem dX8_undo_32 : decode cX8_undo 32 = .ok (.iload_n 1, 1) := by decide +kernel
theorem dX8_undo_33 : decode cX8_undo 33 = .ok (.dup2, 1) := by decide +kernel
theorem dX8_undo_34 : decode cX8_undo 34 = .ok (.iaload, 1) := by decide +kernel
theorem dX8_undo_35 : decode cX8_undo 35 = .ok (.aload_n 0, 1) := by decide +kernel
theorem dX8_undo_36 : decode cX8_undo 36 = .ok (.getfield 28, 3) := by decide +kernel
theorem dX8_undo_39 : decode cX8_undo 39 = .ok (.iload_n 1, 1) := by decide +kernel
theorem dX8_undo_40 : decode cX8_undo 40 = .ok (.iaload, 1) := by decide +kernel
theorem dX8_undo_41 : decode cX8_undo 41 = .ok (.iconst 1, 1) := by decide +kernel
theorem dX8_undo_42 : decode cX8_undo 42 = .ok (.if_icmp .ne 7, 3) := by decide +kernel
theorem dX8_undo_45 : decode cX8_undo 45 = .ok (.iconst 4, 1) := by decide +kernel
theorem dX8_undo_46 : decode cX8_undo 46 = .ok (.goto 4, 3) := by decide +kernel
theorem dX8_undo_49 : decode cX8_undo 49 = .ok (.iconst 5, 1) := by decide +kernel
theorem dX8_undo_50 : decode cX8_undo 50 = .ok (.isub, 1) := by decide +kernel
theorem dX8_undo_51 : decode cX8_undo 51 = .ok (.iastore, 1) := by decide +kernel
theorem dX8_undo_52 : decode cX8_undo 52 = .ok (.aload_n 0, 1) := by decide +kernel
theorem dX8_undo_53 : decode cX8_undo 53 = .ok (.getfield 28, 3) := by decide +kernel
theorem dX8_undo_56 : decode cX8_undo 56 = .ok (.iload_n 1, 1) := by decide +kernel
theorem dX8_undo_57 : decode cX8_undo 57 = .ok (.iaload, 1) := by decide +kernel
theorem dX8_undo_58 : decode cX8_undo 58 = .ok (.iconst 1, 1) := by decide +kernel
theorem dX8_undo_59 : decode cX8_undo 59 = .ok (.isub, 1) := by decide +kernel
theorem dX8_undo_60 : decode cX8_undo 60 = .ok (.ireturn, 1) := by decide +kernel
theorem dX8_most_0 : decode cX8_most 0 = .ok (.iload_n 0, 1) := by decide +kernel
theorem dX8_most_1 : decode cX8_most 1 = .ok (.iconst 2, 1) := by decide +kernel
theorem dX8_most_2 : decode cX8_most 2 = .ok (.if_icmp .ge 8, 3) := by decide +kernel
theorem dX8_most_5 : decode cX8_most 5 = .ok (.bipush 99, 2) := by decide +kernel
theorem dX8_most_7 : decode cX8_most 7 = .ok (.goto 25, 3) := by decide +kernel
theorem dX8_most_10 : decode cX8_most 10 = .ok (.iload_n 0, 1) := by decide +kernel
theorem dX8_most_11 : decode cX8_most 11 = .ok (.iconst 4, 1) := by decide +kernel
theorem dX8_most_12 : decode cX8_most 12 = .ok (.if_icmp .ge 8, 3) := by decide +kernel
theorem dX8_most_15 : decode cX8_most 15 = .ok (.bipush 9, 2) := by decide +kernel
theorem dX8_most_17 : decode cX8_most 17 = .ok (.goto 15, 3) := by decide +kernel
theorem dX8_most_20 : decode cX8_most 20 = .ok (.iload_n 0, 1) := by decide +kernel
theorem dX8_most_21 : decode cX8_most 21 = .ok (.iconst 4, 1) := by decide +kernel
theorem dX8_most_22 : decode cX8_most 22 = .ok (.if_icmp .ne 7, 3) := by decide +kernel
theorem dX8_most_25 : decode cX8_most 25 = .ok (.iconst 1, 1) := by decide +kernel
theorem dX8_most_26 : decode cX8_most 26 = .ok (.goto 6, 3) := by decide +kernel
theorem dX8_most_29 : decode cX8_most 29 = .ok (.sipush 4095, 3) := by decide +kernel
theorem dX8_most_32 : decode cX8_most 32 = .ok (.ireturn, 1) := by decide +kernel
theorem dX8_set_0 : decode cX8_set 0 = .ok (.iload_n 1, 1) := by decide +kernel
theorem dX8_set_1 : decode cX8_set 1 = .ok (.i2l, 1) := by decide +kernel
theorem dX8_set_2 : decode cX8_set 2 = .ok (.lconst 0, 1) := by decide +kernel
theorem dX8_set_3 : decode cX8_set 3 = .ok (.ldc2_w 123, 3) := by decide +kernel
theorem dX8_set_6 : decode cX8_set 6 = .ok (.invokestatic 72, 3) := by decide +kernel
theorem dX8_set_9 : decode cX8_set 9 = .ok (.ifCond .eq 26, 3) := by decide +kernel
theorem dX8_set_12 : decode cX8_set 12 = .ok (.iload_n 2, 1) := by decide +kernel
theorem dX8_set_13 : decode cX8_set 13 = .ok (.i2l, 1) := by decide +kernel
theorem dX8_set_14 : decode cX8_set 14 = .ok (.iload_n 1, 1) := by decide +kernel
theorem dX8_set_15 : decode cX8_set 15 = .ok (.iconst 1, 1) := by decide +kernel
theorem dX8_set_16 : decode cX8_set 16 = .ok (.if_icmp .ne 7, 3) := by decide +kernel
theorem dX8_set_19 : decode cX8_set 19 = .ok (.lconst 1, 1) := by decide +kernel
theorem dX8_set_20 : decode cX8_set 20 = .ok (.goto 4, 3) := by decide +kernel
theorem dX8_set_23 : decode cX8_set 23 = .ok (.lconst 0, 1) := by decide +kernel
theorem dX8_set_24 : decode cX8_set 24 = .ok (.iload_n 1, 1) := by decide +kernel
theorem dX8_set_25 : decode cX8_set 25 = .ok (.invokestatic 125, 3) := by decide +kernel
theorem dX8_set_28 : decode cX8_set 28 = .ok (.i2l, 1) := by decide +kernel
theorem dX8_set_29 : decode cX8_set 29 = .ok (.invokestatic 72, 3) := by decide +kernel
theorem dX8_set_32 : decode cX8_set 32 = .ok (.ifCond .ne 6, 3) := by decide +kernel
theorem dX8_set_35 : decode cX8_set 35 = .ok (.bipush (-2), 2) := by decide +kernel
theorem dX8_set_37 : decode cX8_set 37 = .ok (.ireturn, 1) := by decide +kernel
theorem dX8_set_38 : decode cX8_set 38 = .ok (.aload_n 0, 1) := by decide +kernel
theorem dX8_set_39 : decode cX8_set 39 = .ok (.getfield 34, 3) := by decide +kernel
theorem dX8_set_42 : decode cX8_set 42 = .ok (.iload_n 1, 1) := by decide +kernel
theorem dX8_set_43 : decode cX8_set 43 = .ok (.iaload, 1) := by decide +kernel
theorem dX8_set_44 : decode cX8_set 44 = .ok (.istore_n 3, 1) := by decide +kernel
theorem dX8_set_45 : decode cX8_set 45 = .ok (.aload_n 0, 1) := by decide +kernel
theorem dX8_set_46 : decode cX8_set 46 = .ok (.getfield 34, 3) := by decide +kernel
theorem dX8_set_49 : decode cX8_set 49 = .ok (.iload_n 1, 1) := by decide +kernel
theorem dX8_set_50 : decode cX8_set 50 = .ok (.iload_n 2, 1) := by decide +kernel
theorem dX8_set_51 : decode cX8_set 51 = .ok (.iastore, 1) := by decide +kernel
theorem dX8_set_52 : decode cX8_set 52 = .ok (.iload_n 3, 1) := by decide +kernel
theorem dX8_set_53 : decode cX8_set 53 = .ok (.ireturn, 1) := by decide +kernel
theorem dX8_kindAt_0 : decode cX8_kindAt 0 = .ok (.aload_n 0, 1) := by decide +kernel
theorem dX8_kindAt_1 : decode cX8_kindAt 1 = .ok (.getfield 31, 3) := by decide +kernel
theorem dX8_kindAt_4 : decode cX8_kindAt 4 = .ok (.iconst 4, 1) := by decide +kernel
theorem dX8_kindAt_5 : decode cX8_kindAt 5 = .ok (.aload_n 0, 1) := by decide +kernel
theorem dX8_kindAt_6 : decode cX8_kindAt 6 = .ok (.getfield 37, 3) := by decide +kernel
theorem dX8_kindAt_9 : decode cX8_kindAt 9 = .ok (.iload_n 1, 1) := by decide +kernel
theorem dX8_kindAt_10 : decode cX8_kindAt 10 = .ok (.iaload, 1) := by decide +kernel
theorem dX8_kindAt_11 : decode cX8_kindAt 11 = .ok (.imul, 1) := by decide +kernel
theorem dX8_kindAt_12 : decode cX8_kindAt 12 = .ok (.iconst 3, 1) := by decide +kernel
theorem dX8_kindAt_13 : decode cX8_kindAt 13 = .ok (.iadd, 1) := by decide +kernel
theorem dX8_kindAt_14 : decode cX8_kindAt 14 = .ok (.iaload, 1) := by decide +kernel
theorem dX8_kindAt_15 : decode cX8_kindAt 15 = .ok (.ireturn, 1) := by decide +kernel
theorem dX8_sayAt_0 : decode cX8_sayAt 0 = .ok (.aload_n 0, 1) := by decide +kernel
theorem dX8_sayAt_1 : decode cX8_sayAt 1 = .ok (.getfield 31, 3) := by decide +kernel
theorem dX8_sayAt_4 : decode cX8_sayAt 4 = .ok (.iconst 4, 1) := by decide +kernel
theorem dX8_sayAt_5 : decode cX8_sayAt 5 = .ok (.aload_n 0, 1) := by decide +kernel
theorem dX8_sayAt_6 : decode cX8_sayAt 6 = .ok (.getfield 37, 3) := by decide +kernel
theorem dX8_sayAt_9 : decode cX8_sayAt 9 = .ok (.iload_n 1, 1) := by decide +kernel
theorem dX8_sayAt_10 : decode cX8_sayAt 10 = .ok (.iaload, 1) := by decide +kernel
theorem dX8_sayAt_11 : decode cX8_sayAt 11 = .ok (.imul, 1) := by decide +kernel
theorem dX8_sayAt_12 : decode cX8_sayAt 12 = .ok (.iconst 1, 1) := by decide +kernel
theorem dX8_sayAt_13 : decode cX8_sayAt 13 = .ok (.iadd, 1) := by decide +kernel
theorem dX8_sayAt_14 : decode cX8_sayAt 14 = .ok (.iaload, 1) := by decide +kernel
theorem dX8_sayAt_15 : decode cX8_sayAt 15 = .ok (.ireturn, 1) := by decide +kernel
theorem dX8_plain_0 : decode cX8_plain 0 = .ok (.aload_n 0, 1) := by decide +kernel
theorem dX8_plain_1 : decode cX8_plain 1 = .ok (.aload_n 0, 1) := by decide +kernel
theorem dX8_plain_2 : decode cX8_plain 2 = .ok (.getfield 28, 3) := by decide +kernel
theorem dX8_plain_5 : decode cX8_plain 5 = .ok (.iconst 0, 1) := by decide +kernel
theorem dX8_plain_6 : decode cX8_plain 6 = .ok (.iaload, 1) := by decide +kernel
theorem dX8_plain_7 : decode cX8_plain 7 = .ok (.putfield 128, 3) := by decide +kernel
theorem dX8_plain_10 : decode cX8_plain 10 = .ok (.iconst 0, 1) := by decide +kernel
theorem dX8_plain_11 : decode cX8_plain 11 = .ok (.istore_n 1, 1) := by decide +kernel
theorem dX8_plain_12 : decode cX8_plain 12 = .ok (.iload_n 1, 1) := by decide +kernel
theorem dX8_plain_13 : decode cX8_plain 13 = .ok (.aload_n 0, 1) := by decide +kernel
theorem dX8_plain_14 : decode cX8_plain 14 = .ok (.getfield 128, 3) := by decide +kernel
theorem dX8_plain_17 : decode cX8_plain 17 = .ok (.if_icmp .ge 16, 3) := by decide +kernel
theorem dX8_plain_20 : decode cX8_plain 20 = .ok (.aload_n 0, 1) := by decide +kernel
theorem dX8_plain_21 : decode cX8_plain 21 = .ok (.getfield 37, 3) := by decide +kernel
theorem dX8_plain_24 : decode cX8_plain 24 = .ok (.iload_n 1, 1) := by decide +kernel
theorem dX8_plain_25 : decode cX8_plain 25 = .ok (.iload_n 1, 1) := by decide +kernel
theorem dX8_plain_26 : decode cX8_plain 26 = .ok (.iastore, 1) := by decide +kernel
theorem dX8_plain_27 : decode cX8_plain 27 = .ok (.iinc 1 1, 3) := by decide +kernel
theorem dX8_plain_30 : decode cX8_plain 30 = .ok (.goto (-18), 3) := by decide +kernel
theorem dX8_plain_33 : decode cX8_plain 33 = .ok (.return_, 1) := by decide +kernel
theorem dX8_counts_0 : decode cX8_counts 0 = .ok (.iconst 0, 1) := by decide +kernel
theorem dX8_counts_1 : decode cX8_counts 1 = .ok (.istore_n 1, 1) := by decide +kernel
theorem dX8_counts_2 : decode cX8_counts 2 = .ok (.iload_n 1, 1) := by decide +kernel
theorem dX8_counts_3 : decode cX8_counts 3 = .ok (.aload_n 0, 1) := by decide +kernel
theorem dX8_counts_4 : decode cX8_counts 4 = .ok (.getfield 128, 3) := by decide +kernel
theorem dX8_counts_7 : decode cX8_counts 7 = .ok (.if_icmp .ge 126, 3) := by decide +kernel
theorem dX8_counts_10 : decode cX8_counts 10 = .ok (.iconst 0, 1) := by decide +kernel
theorem dX8_counts_11 : decode cX8_counts 11 = .ok (.istore_n 2, 1) := by decide +kernel
theorem dX8_counts_12 : decode cX8_counts 12 = .ok (.iconst 0, 1) := by decide +kernel
theorem dX8_counts_13 : decode cX8_counts 13 = .ok (.istore_n 3, 1) := by decide +kernel
theorem dX8_counts_14 : decode cX8_counts 14 = .ok (.iload_n 3, 1) := by decide +kernel
theorem dX8_counts_15 : decode cX8_counts 15 = .ok (.iload_n 1, 1) := by decide +kernel
theorem dX8_counts_16 : decode cX8_counts 16 = .ok (.if_icmp .ge 30, 3) := by decide +kernel
theorem dX8_counts_19 : decode cX8_counts 19 = .ok (.iload_n 2, 1) := by decide +kernel
theorem dX8_counts_20 : decode cX8_counts 20 = .ok (.aload_n 0, 1) := by decide +kernel
theorem dX8_counts_21 : decode cX8_counts 21 = .ok (.iload_n 3, 1) := by decide +kernel
theorem dX8_counts_22 : decode cX8_counts 22 = .ok (.invokevirtual 131, 3) := by decide +kernel
theorem dX8_counts_25 : decode cX8_counts 25 = .ok (.aload_n 0, 1) := by decide +kernel
theorem dX8_counts_26 : decode cX8_counts 26 = .ok (.iload_n 1, 1) := by decide +kernel
theorem dX8_counts_27 : decode cX8_counts 27 = .ok (.invokevirtual 131, 3) := by decide +kernel
theorem dX8_counts_30 : decode cX8_counts 30 = .ok (.if_icmp .ne 7, 3) := by decide +kernel
theorem dX8_counts_33 : decode cX8_counts 33 = .ok (.iconst 1, 1) := by decide +kernel
theorem dX8_counts_34 : decode cX8_counts 34 = .ok (.goto 4, 3) := by decide +kernel
theorem dX8_counts_37 : decode cX8_counts 37 = .ok (.iconst 0, 1) := by decide +kernel
theorem dX8_counts_38 : decode cX8_counts 38 = .ok (.iadd, 1) := by decide +kernel
theorem dX8_counts_39 : decode cX8_counts 39 = .ok (.istore_n 2, 1) := by decide +kernel
theorem dX8_counts_40 : decode cX8_counts 40 = .ok (.iinc 3 1, 3) := by decide +kernel
theorem dX8_counts_43 : decode cX8_counts 43 = .ok (.goto (-29), 3) := by decide +kernel
theorem dX8_counts_46 : decode cX8_counts 46 = .ok (.aload_n 0, 1) := by decide +kernel
theorem dX8_counts_47 : decode cX8_counts 47 = .ok (.iload_n 1, 1) := by decide +kernel
theorem dX8_counts_48 : decode cX8_counts 48 = .ok (.invokevirtual 131, 3) := by decide +kernel
theorem dX8_counts_51 : decode cX8_counts 51 = .ok (.iconst 1, 1) := by decide +kernel
theorem dX8_counts_52 : decode cX8_counts 52 = .ok (.if_icmp .ne 11, 3) := by decide +kernel
theorem dX8_counts_55 : decode cX8_counts 55 = .ok (.iload_n 2, 1) := by decide +kernel
theorem dX8_counts_56 : decode cX8_counts 56 = .ok (.ifCond .le 7, 3) := by decide +kernel
theorem dX8_counts_59 : decode cX8_counts 59 = .ok (.iconst 1, 1) := by decide +kernel
theorem dX8_counts_60 : decode cX8_counts 60 = .ok (.goto 4, 3) := by decide +kernel
theorem dX8_counts_63 : decode cX8_counts 63 = .ok (.iconst 0, 1) := by decide +kernel
theorem dX8_counts_64 : decode cX8_counts 64 = .ok (.istore_n 3, 1) := by decide +kernel
theorem dX8_counts_65 : decode cX8_counts 65 = .ok (.aload_n 0, 1) := by decide +kernel
theorem dX8_counts_66 : decode cX8_counts 66 = .ok (.getfield 40, 3) := by decide +kernel
theorem dX8_counts_69 : decode cX8_counts 69 = .ok (.iload_n 1, 1) := by decide +kernel
theorem dX8_counts_70 : decode cX8_counts 70 = .ok (.iload_n 3, 1) := by decide +kernel
theorem dX8_counts_71 : decode cX8_counts 71 = .ok (.ifCond .eq 7, 3) := by decide +kernel
theorem dX8_counts_74 : decode cX8_counts 74 = .ok (.iconst 0, 1) := by decide +kernel
theorem dX8_counts_75 : decode cX8_counts 75 = .ok (.goto 16, 3) := by decide +kernel
theorem dX8_counts_78 : decode cX8_counts 78 = .ok (.aload_n 0, 1) := by decide +kernel
theorem dX8_counts_79 : decode cX8_counts 79 = .ok (.getfield 31, 3) := by decide +kernel
theorem dX8_counts_82 : decode cX8_counts 82 = .ok (.iconst 4, 1) := by decide +kernel
theorem dX8_counts_83 : decode cX8_counts 83 = .ok (.aload_n 0, 1) := by decide +kernel
theorem dX8_counts_84 : decode cX8_counts 84 = .ok (.getfield 37, 3) := by decide +kernel
theorem dX8_counts_87 : decode cX8_counts 87 = .ok (.iload_n 1, 1) := by decide +kernel
theorem dX8_counts_88 : decode cX8_counts 88 = .ok (.iaload, 1) := by decide +kernel
theorem dX8_counts_89 : decode cX8_counts 89 = .ok (.imul, 1) := by decide +kernel
theorem dX8_counts_90 : decode cX8_counts 90 = .ok (.iaload, 1) := by decide +kernel
theorem dX8_counts_91 : decode cX8_counts 91 = .ok (.iastore, 1) := by decide +kernel
theorem dX8_counts_92 : decode cX8_counts 92 = .ok (.aload_n 0, 1) := by decide +kernel
theorem dX8_counts_93 : decode cX8_counts 93 = .ok (.getfield 43, 3) := by decide +kernel
theorem dX8_counts_96 : decode cX8_counts 96 = .ok (.iload_n 1, 1) := by decide +kernel
theorem dX8_counts_97 : decode cX8_counts 97 = .ok (.iload_n 3, 1) := by decide +kernel
theorem dX8_counts_98 : decode cX8_counts 98 = .ok (.ifCond .eq 7, 3) := by decide +kernel
theorem dX8_counts_101 : decode cX8_counts 101 = .ok (.iconst 0, 1) := by decide +kernel
theorem dX8_counts_102 : decode cX8_counts 102 = .ok (.goto 24, 3) := by decide +kernel
theorem dX8_counts_105 : decode cX8_counts 105 = .ok (.aload_n 0, 1) := by decide +kernel
theorem dX8_counts_106 : decode cX8_counts 106 = .ok (.getfield 31, 3) := by decide +kernel
theorem dX8_counts_109 : decode cX8_counts 109 = .ok (.iconst 4, 1) := by decide +kernel
theorem dX8_counts_110 : decode cX8_counts 110 = .ok (.aload_n 0, 1) := by decide +kernel
theorem dX8_counts_111 : decode cX8_counts 111 = .ok (.getfield 37, 3) := by decide +kernel
theorem dX8_counts_114 : decode cX8_counts 114 = .ok (.iload_n 1, 1) := by decide +kernel
theorem dX8_counts_115 : decode cX8_counts 115 = .ok (.iaload, 1) := by decide +kernel
theorem dX8_counts_116 : decode cX8_counts 116 = .ok (.imul, 1) := by decide +kernel
theorem dX8_counts_117 : decode cX8_counts 117 = .ok (.iconst 2, 1) := by decide +kernel
theorem dX8_counts_118 : decode cX8_counts 118 = .ok (.iadd, 1) := by decide +kernel
theorem dX8_counts_119 : decode cX8_counts 119 = .ok (.iaload, 1) := by decide +kernel
theorem dX8_counts_120 : decode cX8_counts 120 = .ok (.iload_n 2, 1) := by decide +kernel
theorem dX8_counts_121 : decode cX8_counts 121 = .ok (.isub, 1) := by decide +kernel
theorem dX8_counts_122 : decode cX8_counts 122 = .ok (.iconst 0, 1) := by decide +kernel
theorem dX8_counts_123 : decode cX8_counts 123 = .ok (.invokestatic 134, 3) := by decide +kernel
theorem dX8_counts_126 : decode cX8_counts 126 = .ok (.iastore, 1) := by decide +kernel
theorem dX8_counts_127 : decode cX8_counts 127 = .ok (.iinc 1 1, 3) := by decide +kernel
theorem dX8_counts_130 : decode cX8_counts 130 = .ok (.goto (-128), 3) := by decide +kernel
theorem dX8_counts_133 : decode cX8_counts 133 = .ok (.return_, 1) := by decide +kernel
theorem dX8_says_0 : decode cX8_says 0 = .ok (.aload_n 0, 1) := by decide +kernel
theorem dX8_says_1 : decode cX8_says 1 = .ok (.invokevirtual 137, 3) := by decide +kernel
theorem dX8_says_4 : decode cX8_says 4 = .ok (.iconst 0, 1) := by decide +kernel
theorem dX8_says_5 : decode cX8_says 5 = .ok (.istore 4, 2) := by decide +kernel
theorem dX8_says_7 : decode cX8_says 7 = .ok (.iload 4, 2) := by decide +kernel
theorem dX8_says_9 : decode cX8_says 9 = .ok (.aload_n 0, 1) := by decide +kernel
theorem dX8_says_10 : decode cX8_says 10 = .ok (.getfield 128, 3) := by decide +kernel
theorem dX8_says_13 : decode cX8_says 13 = .ok (.if_icmp .ge 49, 3) := by decide +kernel
theorem dX8_says_16 : decode cX8_says 16 = .ok (.aload_n 0, 1) := by decide +kernel
theorem dX8_says_17 : decode cX8_says 17 = .ok (.getfield 46, 3) := by decide +kernel
theorem dX8_says_20 : decode cX8_says 20 = .ok (.iload 4, 2) := by decide +kernel
theorem dX8_says_22 : decode cX8_says 22 = .ok (.iconst (-1), 1) := by decide +kernel
theorem dX8_says_23 : decode cX8_says 23 = .ok (.iastore, 1) := by decide +kernel
theorem dX8_says_24 : decode cX8_says 24 = .ok (.aload_n 0, 1) := by decide +kernel
theorem dX8_says_25 : decode cX8_says 25 = .ok (.getfield 49, 3) := by decide +kernel
theorem dX8_says_28 : decode cX8_says 28 = .ok (.iload 4, 2) := by decide +kernel
theorem dX8_says_30 : decode cX8_says 30 = .ok (.iconst (-1), 1) := by decide +kernel
theorem dX8_says_31 : decode cX8_says 31 = .ok (.iastore, 1) := by decide +kernel
theorem dX8_says_32 : decode cX8_says 32 = .ok (.aload_n 0, 1) := by decide +kernel
theorem dX8_says_33 : decode cX8_says 33 = .ok (.getfield 52, 3) := by decide +kernel
theorem dX8_says_36 : decode cX8_says 36 = .ok (.iload 4, 2) := by decide +kernel
theorem dX8_says_38 : decode cX8_says 38 = .ok (.iconst (-1), 1) := by decide +kernel
theorem dX8_says_39 : decode cX8_says 39 = .ok (.iastore, 1) := by decide +kernel
theorem dX8_says_40 : decode cX8_says 40 = .ok (.aload_n 0, 1) := by decide +kernel
theorem dX8_says_41 : decode cX8_says 41 = .ok (.getfield 55, 3) := by decide +kernel
theorem dX8_says_44 : decode cX8_says 44 = .ok (.iload 4, 2) := by decide +kernel
theorem dX8_says_46 : decode cX8_says 46 = .ok (.iconst (-1), 1) := by decide +kernel
theorem dX8_says_47 : decode cX8_says 47 = .ok (.iastore, 1) := by decide +kernel
theorem dX8_says_48 : decode cX8_says 48 = .ok (.aload_n 0, 1) := by decide +kernel
theorem dX8_says_49 : decode cX8_says 49 = .ok (.getfield 58, 3) := by decide +kernel
theorem dX8_says_52 : decode cX8_says 52 = .ok (.iload 4, 2) := by decide +kernel
theorem dX8_says_54 : decode cX8_says 54 = .ok (.iconst (-1), 1) := by decide +kernel
theorem dX8_says_55 : decode cX8_says 55 = .ok (.iastore, 1) := by decide +kernel
theorem dX8_says_56 : decode cX8_says 56 = .ok (.iinc 4 1, 3) := by decide +kernel
theorem dX8_says_59 : decode cX8_says 59 = .ok (.goto (-52), 3) := by decide +kernel
theorem dX8_says_62 : decode cX8_says 62 = .ok (.iconst 0, 1) := by decide +kernel
theorem dX8_says_63 : decode cX8_says 63 = .ok (.istore 4, 2) := by decide +kernel
theorem dX8_says_65 : decode cX8_says 65 = .ok (.iload_n 1, 1) := by decide +kernel
theorem dX8_says_66 : decode cX8_says 66 = .ok (.istore 5, 2) := by decide +kernel
theorem dX8_says_68 : decode cX8_says 68 = .ok (.iconst 0, 1) := by decide +kernel
theorem dX8_says_69 : decode cX8_says 69 = .ok (.istore 6, 2) := by decide +kernel
theorem dX8_says_71 : decode cX8_says 71 = .ok (.aload_n 0, 1) := by decide +kernel
theorem dX8_says_72 : decode cX8_says 72 = .ok (.getfield 34, 3) := by decide +kernel
theorem dX8_says_75 : decode cX8_says 75 = .ok (.iconst 1, 1) := by decide +kernel
theorem dX8_says_76 : decode cX8_says 76 = .ok (.iaload, 1) := by decide +kernel
theorem dX8_says_77 : decode cX8_says 77 = .ok (.istore 7, 2) := by decide +kernel
theorem dX8_says_79 : decode cX8_says 79 = .ok (.iconst 0, 1) := by decide +kernel
theorem dX8_says_80 : decode cX8_says 80 = .ok (.istore 8, 2) := by decide +kernel
theorem dX8_says_82 : decode cX8_says 82 = .ok (.aload_n 0, 1) := by decide +kernel
theorem dX8_says_83 : decode cX8_says 83 = .ok (.iconst 0, 1) := by decide +kernel
theorem dX8_says_84 : decode cX8_says 84 = .ok (.putfield 140, 3) := by decide +kernel
theorem dX8_says_87 : decode cX8_says 87 = .ok (.aload_n 0, 1) := by decide +kernel
theorem dX8_says_88 : decode cX8_says 88 = .ok (.iconst 0, 1) := by decide +kernel
theorem dX8_says_89 : decode cX8_says 89 = .ok (.putfield 143, 3) := by decide +kernel
theorem dX8_says_92 : decode cX8_says 92 = .ok (.aload_n 0, 1) := by decide +kernel
theorem dX8_says_93 : decode cX8_says 93 = .ok (.iconst 0, 1) := by decide +kernel
theorem dX8_says_94 : decode cX8_says 94 = .ok (.putfield 146, 3) := by decide +kernel
theorem dX8_says_97 : decode cX8_says 97 = .ok (.aload_n 0, 1) := by decide +kernel
theorem dX8_says_98 : decode cX8_says 98 = .ok (.iconst 0, 1) := by decide +kernel
theorem dX8_says_99 : decode cX8_says 99 = .ok (.putfield 149, 3) := by decide +kernel
theorem dX8_says_102 : decode cX8_says 102 = .ok (.iconst 1, 1) := by decide +kernel
theorem dX8_says_103 : decode cX8_says 103 = .ok (.istore 9, 2) := by decide +kernel
theorem dX8_says_105 : decode cX8_says 105 = .ok (.iconst 0, 1) := by decide +kernel
theorem dX8_says_106 : decode cX8_says 106 = .ok (.istore 10, 2) := by decide +kernel
theorem dX8_says_108 : decode cX8_says 108 = .ok (.iload 10, 2) := by decide +kernel
theorem dX8_says_110 : decode cX8_says 110 = .ok (.aload_n 0, 1) := by decide +kernel
theorem dX8_says_111 : decode cX8_says 111 = .ok (.getfield 128, 3) := by decide +kernel
theorem dX8_says_114 : decode cX8_says 114 = .ok (.if_icmp .ge 350, 3) := by decide +kernel
theorem dX8_says_117 : decode cX8_says 117 = .ok (.iload 9, 2) := by decide +kernel
theorem dX8_says_119 : decode cX8_says 119 = .ok (.ifCond .eq 345, 3) := by decide +kernel
theorem dX8_says_122 : decode cX8_says 122 = .ok (.iload 6, 2) := by decide +kernel
theorem dX8_says_124 : decode cX8_says 124 = .ok (.aload_n 0, 1) := by decide +kernel
theorem dX8_says_125 : decode cX8_says 125 = .ok (.getfield 40, 3) := by decide +kernel
theorem dX8_says_128 : decode cX8_says 128 = .ok (.iload 10, 2) := by decide +kernel
theorem dX8_says_130 : decode cX8_says 130 = .ok (.iaload, 1) := by decide +kernel
theorem dX8_says_131 : decode cX8_says 131 = .ok (.iadd, 1) := by decide +kernel
theorem dX8_says_132 : decode cX8_says 132 = .ok (.istore 6, 2) := by decide +kernel
theorem dX8_says_134 : decode cX8_says 134 = .ok (.iload 6, 2) := by decide +kernel
theorem dX8_says_136 : decode cX8_says 136 = .ok (.iload 5, 2) := by decide +kernel
theorem dX8_says_138 : decode cX8_says 138 = .ok (.isub, 1) := by decide +kernel
theorem dX8_says_139 : decode cX8_says 139 = .ok (.iconst 0, 1) := by decide +kernel
theorem dX8_says_140 : decode cX8_says 140 = .ok (.invokestatic 134, 3) := by decide +kernel
theorem dX8_says_143 : decode cX8_says 143 = .ok (.istore 11, 2) := by decide +kernel
theorem dX8_says_145 : decode cX8_says 145 = .ok (.iload_n 2, 1) := by decide +kernel
theorem dX8_says_146 : decode cX8_says 146 = .ok (.ifCond .eq 8, 3) := by decide +kernel
theorem dX8_says_149 : decode cX8_says 149 = .ok (.iload 11, 2) := by decide +kernel
theorem dX8_says_151 : decode cX8_says 151 = .ok (.ifCond .ne 7, 3) := by decide +kernel
theorem dX8_says_154 : decode cX8_says 154 = .ok (.iconst 1, 1) := by decide +kernel
theorem dX8_says_155 : decode cX8_says 155 = .ok (.goto 4, 3) := by decide +kernel
theorem dX8_says_158 : decode cX8_says 158 = .ok (.iconst 0, 1) := by decide +kernel
theorem dX8_says_159 : decode cX8_says 159 = .ok (.istore 9, 2) := by decide +kernel
theorem dX8_says_161 : decode cX8_says 161 = .ok (.iload 9, 2) := by decide +kernel
theorem dX8_says_163 : decode cX8_says 163 = .ok (.ifCond .eq 295, 3) := by decide +kernel
theorem dX8_says_166 : decode cX8_says 166 = .ok (.iload 5, 2) := by decide +kernel
theorem dX8_says_168 : decode cX8_says 168 = .ok (.iload 11, 2) := by decide +kernel
theorem dX8_says_170 : decode cX8_says 170 = .ok (.iadd, 1) := by decide +kernel
theorem dX8_says_171 : decode cX8_says 171 = .ok (.istore 5, 2) := by decide +kernel
theorem dX8_says_173 : decode cX8_says 173 = .ok (.aload_n 0, 1) := by decide +kernel
theorem dX8_says_174 : decode cX8_says 174 = .ok (.getfield 58, 3) := by decide +kernel
theorem dX8_says_177 : decode cX8_says 177 = .ok (.iload 10, 2) := by decide +kernel
theorem dX8_says_179 : decode cX8_says 179 = .ok (.iload 11, 2) := by decide +kernel
theorem dX8_says_181 : decode cX8_says 181 = .ok (.iastore, 1) := by decide +kernel
theorem dX8_says_182 : decode cX8_says 182 = .ok (.aload_n 0, 1) := by decide +kernel
theorem dX8_says_183 : decode cX8_says 183 = .ok (.dup, 1) := by decide +kernel
theorem dX8_says_184 : decode cX8_says 184 = .ok (.getfield 143, 3) := by decide +kernel
theorem dX8_says_187 : decode cX8_says 187 = .ok (.iload 11, 2) := by decide +kernel
theorem dX8_says_189 : decode cX8_says 189 = .ok (.iadd, 1) := by decide +kernel
theorem dX8_says_190 : decode cX8_says 190 = .ok (.putfield 143, 3) := by decide +kernel
theorem dX8_says_193 : decode cX8_says 193 = .ok (.aload_n 0, 1) := by decide +kernel
theorem dX8_says_194 : decode cX8_says 194 = .ok (.getfield 46, 3) := by decide +kernel
theorem dX8_says_197 : decode cX8_says 197 = .ok (.iload 10, 2) := by decide +kernel
theorem dX8_says_199 : decode cX8_says 199 = .ok (.iload 4, 2) := by decide +kernel
theorem dX8_says_201 : decode cX8_says 201 = .ok (.iload 11, 2) := by decide +kernel
theorem dX8_says_203 : decode cX8_says 203 = .ok (.iadd, 1) := by decide +kernel
theorem dX8_says_204 : decode cX8_says 204 = .ok (.iastore, 1) := by decide +kernel
theorem dX8_says_205 : decode cX8_says 205 = .ok (.aload_n 0, 1) := by decide +kernel
theorem dX8_says_206 : decode cX8_says 206 = .ok (.getfield 49, 3) := by decide +kernel
theorem dX8_says_209 : decode cX8_says 209 = .ok (.iload 10, 2) := by decide +kernel
theorem dX8_says_211 : decode cX8_says 211 = .ok (.aload_n 0, 1) := by decide +kernel
theorem dX8_says_212 : decode cX8_says 212 = .ok (.getfield 46, 3) := by decide +kernel
theorem dX8_says_215 : decode cX8_says 215 = .ok (.iload 10, 2) := by decide +kernel
theorem dX8_says_217 : decode cX8_says 217 = .ok (.iaload, 1) := by decide +kernel
theorem dX8_says_218 : decode cX8_says 218 = .ok (.aload_n 0, 1) := by decide +kernel
theorem dX8_says_219 : decode cX8_says 219 = .ok (.iload 10, 2) := by decide +kernel
theorem dX8_says_221 : decode cX8_says 221 = .ok (.invokevirtual 152, 3) := by decide +kernel
theorem dX8_says_224 : decode cX8_says 224 = .ok (.iadd, 1) := by decide +kernel
theorem dX8_says_225 : decode cX8_says 225 = .ok (.iastore, 1) := by decide +kernel
theorem dX8_says_226 : decode cX8_says 226 = .ok (.aload_n 0, 1) := by decide +kernel
theorem dX8_says_227 : decode cX8_says 227 = .ok (.getfield 52, 3) := by decide +kernel
theorem dX8_says_230 : decode cX8_says 230 = .ok (.iload 10, 2) := by decide +kernel
theorem dX8_says_232 : decode cX8_says 232 = .ok (.aload_n 0, 1) := by decide +kernel
theorem dX8_says_233 : decode cX8_says 233 = .ok (.getfield 49, 3) := by decide +kernel
theorem dX8_says_236 : decode cX8_says 236 = .ok (.iload 10, 2) := by decide +kernel
theorem dX8_says_238 : decode cX8_says 238 = .ok (.iaload, 1) := by decide +kernel
theorem dX8_says_239 : decode cX8_says 239 = .ok (.aload_n 0, 1) := by decide +kernel
theorem dX8_says_240 : decode cX8_says 240 = .ok (.getfield 43, 3) := by decide +kernel
theorem dX8_says_243 : decode cX8_says 243 = .ok (.iload 10, 2) := by decide +kernel
theorem dX8_says_245 : decode cX8_says 245 = .ok (.iaload, 1) := by decide +kernel
theorem dX8_says_246 : decode cX8_says 246 = .ok (.iadd, 1) := by decide +kernel
theorem dX8_says_247 : decode cX8_says 247 = .ok (.iastore, 1) := by decide +kernel
theorem dX8_says_248 : decode cX8_says 248 = .ok (.aload_n 0, 1) := by decide +kernel
theorem dX8_says_249 : decode cX8_says 249 = .ok (.iload 10, 2) := by decide +kernel
theorem dX8_says_251 : decode cX8_says 251 = .ok (.invokevirtual 152, 3) := by decide +kernel
theorem dX8_says_254 : decode cX8_says 254 = .ok (.aload_n 0, 1) := by decide +kernel
theorem dX8_says_255 : decode cX8_says 255 = .ok (.iload 10, 2) := by decide +kernel
theorem dX8_says_257 : decode cX8_says 257 = .ok (.invokevirtual 131, 3) := by decide +kernel
theorem dX8_says_260 : decode cX8_says 260 = .ok (.iconst 3, 1) := by decide +kernel
theorem dX8_says_261 : decode cX8_says 261 = .ok (.if_icmp .ne 7, 3) := by decide +kernel
theorem dX8_says_264 : decode cX8_says 264 = .ok (.iconst 2, 1) := by decide +kernel
theorem dX8_says_265 : decode cX8_says 265 = .ok (.goto 4, 3) := by decide +kernel
theorem dX8_says_268 : decode cX8_says 268 = .ok (.iconst 0, 1) := by decide +kernel
theorem dX8_says_269 : decode cX8_says 269 = .ok (.iadd, 1) := by decide +kernel
theorem dX8_says_270 : decode cX8_says 270 = .ok (.istore 12, 2) := by decide +kernel
theorem dX8_says_272 : decode cX8_says 272 = .ok (.iload 8, 2) := by decide +kernel
theorem dX8_says_274 : decode cX8_says 274 = .ok (.ifCond .eq 14, 3) := by decide +kernel
theorem dX8_says_277 : decode cX8_says 277 = .ok (.iload 7, 2) := by decide +kernel
theorem dX8_says_279 : decode cX8_says 279 = .ok (.iload 12, 2) := by decide +kernel
theorem dX8_says_281 : decode cX8_says 281 = .ok (.if_icmp .ge 7, 3) := by decide +kernel
theorem dX8_says_284 : decode cX8_says 284 = .ok (.iconst 1, 1) := by decide +kernel
theorem dX8_says_285 : decode cX8_says 285 = .ok (.goto 4, 3) := by decide +kernel
theorem dX8_says_288 : decode cX8_says 288 = .ok (.iconst 0, 1) := by decide +kernel
theorem dX8_says_289 : decode cX8_says 289 = .ok (.istore 13, 2) := by decide +kernel
theorem dX8_says_291 : decode cX8_says 291 = .ok (.iload 13, 2) := by decide +kernel
theorem dX8_says_293 : decode cX8_says 293 = .ok (.ifCond .eq 11, 3) := by decide +kernel
theorem dX8_says_296 : decode cX8_says 296 = .ok (.aload_n 0, 1) := by decide +kernel
theorem dX8_says_297 : decode cX8_says 297 = .ok (.getfield 149, 3) := by decide +kernel
theorem dX8_says_300 : decode cX8_says 300 = .ok (.iload_n 3, 1) := by decide +kernel
theorem dX8_says_301 : decode cX8_says 301 = .ok (.if_icmp .ge 7, 3) := by decide +kernel
theorem dX8_says_304 : decode cX8_says 304 = .ok (.iconst 1, 1) := by decide +kernel
theorem dX8_says_305 : decode cX8_says 305 = .ok (.goto 4, 3) := by decide +kernel
theorem dX8_says_308 : decode cX8_says 308 = .ok (.iconst 0, 1) := by decide +kernel
theorem dX8_says_309 : decode cX8_says 309 = .ok (.istore 9, 2) := by decide +kernel
theorem dX8_says_311 : decode cX8_says 311 = .ok (.iload 9, 2) := by decide +kernel
theorem dX8_says_313 : decode cX8_says 313 = .ok (.ifCond .eq 145, 3) := by decide +kernel
theorem dX8_says_316 : decode cX8_says 316 = .ok (.aload_n 0, 1) := by decide +kernel
theorem dX8_says_317 : decode cX8_says 317 = .ok (.dup, 1) := by decide +kernel
theorem dX8_says_318 : decode cX8_says 318 = .ok (.getfield 149, 3) := by decide +kernel
theorem dX8_says_321 : decode cX8_says 321 = .ok (.iload 13, 2) := by decide +kernel
theorem dX8_says_323 : decode cX8_says 323 = .ok (.ifCond .eq 7, 3) := by decide +kernel
theorem dX8_says_326 : decode cX8_says 326 = .ok (.iconst 1, 1) := by decide +kernel
theorem dX8_says_327 : decode cX8_says 327 = .ok (.goto 4, 3) := by decide +kernel
theorem dX8_says_330 : decode cX8_says 330 = .ok (.iconst 0, 1) := by decide +kernel
theorem dX8_says_331 : decode cX8_says 331 = .ok (.iadd, 1) := by decide +kernel
theorem dX8_says_332 : decode cX8_says 332 = .ok (.putfield 149, 3) := by decide +kernel
theorem dX8_says_335 : decode cX8_says 335 = .ok (.iload 13, 2) := by decide +kernel
theorem dX8_says_337 : decode cX8_says 337 = .ok (.ifCond .eq 12, 3) := by decide +kernel
theorem dX8_says_340 : decode cX8_says 340 = .ok (.aload_n 0, 1) := by decide +kernel
theorem dX8_says_341 : decode cX8_says 341 = .ok (.getfield 34, 3) := by decide +kernel
theorem dX8_says_344 : decode cX8_says 344 = .ok (.iconst 1, 1) := by decide +kernel
theorem dX8_says_345 : decode cX8_says 345 = .ok (.iaload, 1) := by decide +kernel
theorem dX8_says_346 : decode cX8_says 346 = .ok (.goto 5, 3) := by decide +kernel
theorem dX8_says_349 : decode cX8_says 349 = .ok (.iload 7, 2) := by decide +kernel
theorem dX8_says_351 : decode cX8_says 351 = .ok (.iload 12, 2) := by decide +kernel
theorem dX8_says_353 : decode cX8_says 353 = .ok (.isub, 1) := by decide +kernel
theorem dX8_says_354 : decode cX8_says 354 = .ok (.istore 7, 2) := by decide +kernel
theorem dX8_says_356 : decode cX8_says 356 = .ok (.iconst 1, 1) := by decide +kernel
theorem dX8_says_357 : decode cX8_says 357 = .ok (.istore 8, 2) := by decide +kernel
theorem dX8_says_359 : decode cX8_says 359 = .ok (.aload_n 0, 1) := by decide +kernel
theorem dX8_says_360 : decode cX8_says 360 = .ok (.getfield 55, 3) := by decide +kernel
theorem dX8_says_363 : decode cX8_says 363 = .ok (.iload 10, 2) := by decide +kernel
theorem dX8_says_365 : decode cX8_says 365 = .ok (.aload_n 0, 1) := by decide +kernel
theorem dX8_says_366 : decode cX8_says 366 = .ok (.getfield 52, 3) := by decide +kernel
theorem dX8_says_369 : decode cX8_says 369 = .ok (.iload 10, 2) := by decide +kernel
theorem dX8_says_371 : decode cX8_says 371 = .ok (.iaload, 1) := by decide +kernel
theorem dX8_says_372 : decode cX8_says 372 = .ok (.iload 13, 2) := by decide +kernel
theorem dX8_says_374 : decode cX8_says 374 = .ok (.ifCond .eq 12, 3) := by decide +kernel
theorem dX8_says_377 : decode cX8_says 377 = .ok (.aload_n 0, 1) := by decide +kernel
theorem dX8_says_378 : decode cX8_says 378 = .ok (.getfield 34, 3) := by decide +kernel
theorem dX8_says_381 : decode cX8_says 381 = .ok (.iconst 2, 1) := by decide +kernel
theorem dX8_says_382 : decode cX8_says 382 = .ok (.iaload, 1) := by decide +kernel
theorem dX8_says_383 : decode cX8_says 383 = .ok (.goto 4, 3) := by decide +kernel
theorem dX8_says_386 : decode cX8_says 386 = .ok (.iconst 0, 1) := by decide +kernel
theorem dX8_says_387 : decode cX8_says 387 = .ok (.iadd, 1) := by decide +kernel
theorem dX8_says_388 : decode cX8_says 388 = .ok (.iload 12, 2) := by decide +kernel
theorem dX8_says_390 : decode cX8_says 390 = .ok (.iadd, 1) := by decide +kernel
theorem dX8_says_391 : decode cX8_says 391 = .ok (.iastore, 1) := by decide +kernel
theorem dX8_says_392 : decode cX8_says 392 = .ok (.iload 5, 2) := by decide +kernel
theorem dX8_says_394 : decode cX8_says 394 = .ok (.aload_n 0, 1) := by decide +kernel
theorem dX8_says_395 : decode cX8_says 395 = .ok (.getfield 55, 3) := by decide +kernel
theorem dX8_says_398 : decode cX8_says 398 = .ok (.iload 10, 2) := by decide +kernel
theorem dX8_says_400 : decode cX8_says 400 = .ok (.iaload, 1) := by decide +kernel
theorem dX8_says_401 : decode cX8_says 401 = .ok (.aload_n 0, 1) := by decide +kernel
theorem dX8_says_402 : decode cX8_says 402 = .ok (.getfield 46, 3) := by decide +kernel
theorem dX8_says_405 : decode cX8_says 405 = .ok (.iload 10, 2) := by decide +kernel
theorem dX8_says_407 : decode cX8_says 407 = .ok (.iaload, 1) := by decide +kernel
theorem dX8_says_408 : decode cX8_says 408 = .ok (.isub, 1) := by decide +kernel
theorem dX8_says_409 : decode cX8_says 409 = .ok (.aload_n 0, 1) := by decide +kernel
theorem dX8_says_410 : decode cX8_says 410 = .ok (.iload 10, 2) := by decide +kernel
theorem dX8_says_412 : decode cX8_says 412 = .ok (.invokevirtual 131, 3) := by decide +kernel
theorem dX8_says_415 : decode cX8_says 415 = .ok (.iconst 2, 1) := by decide +kernel
theorem dX8_says_416 : decode cX8_says 416 = .ok (.if_icmp .ne 7, 3) := by decide +kernel
theorem dX8_says_419 : decode cX8_says 419 = .ok (.iconst 0, 1) := by decide +kernel
theorem dX8_says_420 : decode cX8_says 420 = .ok (.goto 9, 3) := by decide +kernel
theorem dX8_says_423 : decode cX8_says 423 = .ok (.aload_n 0, 1) := by decide +kernel
theorem dX8_says_424 : decode cX8_says 424 = .ok (.iload 10, 2) := by decide +kernel
theorem dX8_says_426 : decode cX8_says 426 = .ok (.invokevirtual 152, 3) := by decide +kernel
theorem dX8_says_429 : decode cX8_says 429 = .ok (.isub, 1) := by decide +kernel
theorem dX8_says_430 : decode cX8_says 430 = .ok (.iadd, 1) := by decide +kernel
theorem dX8_says_431 : decode cX8_says 431 = .ok (.istore 5, 2) := by decide +kernel
theorem dX8_says_433 : decode cX8_says 433 = .ok (.aload_n 0, 1) := by decide +kernel
theorem dX8_says_434 : decode cX8_says 434 = .ok (.getfield 55, 3) := by decide +kernel
theorem dX8_says_437 : decode cX8_says 437 = .ok (.iload 10, 2) := by decide +kernel
theorem dX8_says_439 : decode cX8_says 439 = .ok (.iaload, 1) := by decide +kernel
theorem dX8_says_440 : decode cX8_says 440 = .ok (.istore 4, 2) := by decide +kernel
theorem dX8_says_442 : decode cX8_says 442 = .ok (.aload_n 0, 1) := by decide +kernel
theorem dX8_says_443 : decode cX8_says 443 = .ok (.iload 4, 2) := by decide +kernel
theorem dX8_says_445 : decode cX8_says 445 = .ok (.putfield 140, 3) := by decide +kernel
theorem dX8_says_448 : decode cX8_says 448 = .ok (.aload_n 0, 1) := by decide +kernel
theorem dX8_says_449 : decode cX8_says 449 = .ok (.dup, 1) := by decide +kernel
theorem dX8_says_450 : decode cX8_says 450 = .ok (.getfield 146, 3) := by decide +kernel
theorem dX8_says_453 : decode cX8_says 453 = .ok (.iconst 1, 1) := by decide +kernel
theorem dX8_says_454 : decode cX8_says 454 = .ok (.iadd, 1) := by decide +kernel
theorem dX8_says_455 : decode cX8_says 455 = .ok (.putfield 146, 3) := by decide +kernel
theorem dX8_says_458 : decode cX8_says 458 = .ok (.iinc 10 1, 3) := by decide +kernel
theorem dX8_says_461 : decode cX8_says 461 = .ok (.goto (-353), 3) := by decide +kernel
theorem dX8_says_464 : decode cX8_says 464 = .ok (.return_, 1) := by decide +kernel
theorem dX8_find_0 : decode cX8_find 0 = .ok (.aload_n 0, 1) := by decide +kernel
theorem dX8_find_1 : decode cX8_find 1 = .ok (.iconst 0, 1) := by decide +kernel
theorem dX8_find_2 : decode cX8_find 2 = .ok (.invokevirtual 120, 3) := by decide +kernel
theorem dX8_find_5 : decode cX8_find 5 = .ok (.pop, 1) := by decide +kernel
theorem dX8_find_6 : decode cX8_find 6 = .ok (.aload_n 0, 1) := by decide +kernel
theorem dX8_find_7 : decode cX8_find 7 = .ok (.iconst 1, 1) := by decide +kernel
theorem dX8_find_8 : decode cX8_find 8 = .ok (.invokevirtual 120, 3) := by decide +kernel
theorem dX8_find_11 : decode cX8_find 11 = .ok (.pop, 1) := by decide +kernel
theorem dX8_find_12 : decode cX8_find 12 = .ok (.aload_n 0, 1) := by decide +kernel
theorem dX8_find_13 : decode cX8_find 13 = .ok (.invokevirtual 155, 3) := by decide +kernel
theorem dX8_find_16 : decode cX8_find 16 = .ok (.aload_n 0, 1) := by decide +kernel
theorem dX8_find_17 : decode cX8_find 17 = .ok (.aload_n 0, 1) := by decide +kernel
theorem dX8_find_18 : decode cX8_find 18 = .ok (.getfield 34, 3) := by decide +kernel
theorem dX8_find_21 : decode cX8_find 21 = .ok (.iconst 0, 1) := by decide +kernel
theorem dX8_find_22 : decode cX8_find 22 = .ok (.iaload, 1) := by decide +kernel
theorem dX8_find_23 : decode cX8_find 23 = .ok (.aload_n 0, 1) := by decide +kernel
theorem dX8_find_24 : decode cX8_find 24 = .ok (.getfield 34, 3) := by decide +kernel
theorem dX8_find_27 : decode cX8_find 27 = .ok (.iconst 4, 1) := by decide +kernel
theorem dX8_find_28 : decode cX8_find 28 = .ok (.iaload, 1) := by decide +kernel
theorem dX8_find_29 : decode cX8_find 29 = .ok (.aload_n 0, 1) := by decide +kernel
theorem dX8_find_30 : decode cX8_find 30 = .ok (.getfield 34, 3) := by decide +kernel
theorem dX8_find_33 : decode cX8_find 33 = .ok (.iconst 3, 1) := by decide +kernel
theorem dX8_find_34 : decode cX8_find 34 = .ok (.iaload, 1) := by decide +kernel
theorem dX8_find_35 : decode cX8_find 35 = .ok (.invokevirtual 158, 3) := by decide +kernel
theorem dX8_find_38 : decode cX8_find 38 = .ok (.return_, 1) := by decide +kernel
theorem dX8_verseOf_0 : decode cX8_verseOf 0 = .ok (.iload_n 2, 1) := by decide +kernel
theorem dX8_verseOf_1 : decode cX8_verseOf 1 = .ok (.iconst 4, 1) := by decide +kernel
theorem dX8_verseOf_2 : decode cX8_verseOf 2 = .ok (.if_icmp .ge 16, 3) := by decide +kernel
theorem dX8_verseOf_5 : decode cX8_verseOf 5 = .ok (.aload_n 0, 1) := by decide +kernel
theorem dX8_verseOf_6 : decode cX8_verseOf 6 = .ok (.getfield 31, 3) := by decide +kernel
theorem dX8_verseOf_9 : decode cX8_verseOf 9 = .ok (.iconst 4, 1) := by decide +kernel
theorem dX8_verseOf_10 : decode cX8_verseOf 10 = .ok (.iload_n 1, 1) := by decide +kernel
theorem dX8_verseOf_11 : decode cX8_verseOf 11 = .ok (.imul, 1) := by decide +kernel
theorem dX8_verseOf_12 : decode cX8_verseOf 12 = .ok (.iload_n 2, 1) := by decide +kernel
theorem dX8_verseOf_13 : decode cX8_verseOf 13 = .ok (.iadd, 1) := by decide +kernel
theorem dX8_verseOf_14 : decode cX8_verseOf 14 = .ok (.iaload, 1) := by decide +kernel
theorem dX8_verseOf_15 : decode cX8_verseOf 15 = .ok (.goto 23, 3) := by decide +kernel
theorem dX8_verseOf_18 : decode cX8_verseOf 18 = .ok (.iload_n 2, 1) := by decide +kernel
theorem dX8_verseOf_19 : decode cX8_verseOf 19 = .ok (.iconst 4, 1) := by decide +kernel
theorem dX8_verseOf_20 : decode cX8_verseOf 20 = .ok (.if_icmp .ne 12, 3) := by decide +kernel
theorem dX8_verseOf_23 : decode cX8_verseOf 23 = .ok (.aload_n 0, 1) := by decide +kernel
theorem dX8_verseOf_24 : decode cX8_verseOf 24 = .ok (.getfield 40, 3) := by decide +kernel
theorem dX8_verseOf_27 : decode cX8_verseOf 27 = .ok (.iload_n 1, 1) := by decide +kernel
theorem dX8_verseOf_28 : decode cX8_verseOf 28 = .ok (.iaload, 1) := by decide +kernel
theorem dX8_verseOf_29 : decode cX8_verseOf 29 = .ok (.goto 9, 3) := by decide +kernel
theorem dX8_verseOf_32 : decode cX8_verseOf 32 = .ok (.aload_n 0, 1) := by decide +kernel
theorem dX8_verseOf_33 : decode cX8_verseOf 33 = .ok (.getfield 43, 3) := by decide +kernel
theorem dX8_verseOf_36 : decode cX8_verseOf 36 = .ok (.iload_n 1, 1) := by decide +kernel
theorem dX8_verseOf_37 : decode cX8_verseOf 37 = .ok (.iaload, 1) := by decide +kernel
theorem dX8_verseOf_38 : decode cX8_verseOf 38 = .ok (.ireturn, 1) := by decide +kernel
theorem dX8_isVerse_0 : decode cX8_isVerse 0 = .ok (.iload_n 1, 1) := by decide +kernel
theorem dX8_isVerse_1 : decode cX8_isVerse 1 = .ok (.i2l, 1) := by decide +kernel
theorem dX8_isVerse_2 : decode cX8_isVerse 2 = .ok (.lconst 0, 1) := by decide +kernel
theorem dX8_isVerse_3 : decode cX8_isVerse 3 = .ok (.aload_n 0, 1) := by decide +kernel
theorem dX8_isVerse_4 : decode cX8_isVerse 4 = .ok (.getfield 28, 3) := by decide +kernel
theorem dX8_isVerse_7 : decode cX8_isVerse 7 = .ok (.iconst 0, 1) := by decide +kernel
theorem dX8_isVerse_8 : decode cX8_isVerse 8 = .ok (.iaload, 1) := by decide +kernel
theorem dX8_isVerse_9 : decode cX8_isVerse 9 = .ok (.iconst 1, 1) := by decide +kernel
theorem dX8_isVerse_10 : decode cX8_isVerse 10 = .ok (.isub, 1) := by decide +kernel
theorem dX8_isVerse_11 : decode cX8_isVerse 11 = .ok (.i2l, 1) := by decide +kernel
theorem dX8_isVerse_12 : decode cX8_isVerse 12 = .ok (.invokestatic 72, 3) := by decide +kernel
theorem dX8_isVerse_15 : decode cX8_isVerse 15 = .ok (.ireturn, 1) := by decide +kernel
theorem dX8_verse_0 : decode cX8_verse 0 = .ok (.aload_n 0, 1) := by decide +kernel
theorem dX8_verse_1 : decode cX8_verse 1 = .ok (.invokevirtual 162, 3) := by decide +kernel
theorem dX8_verse_4 : decode cX8_verse 4 = .ok (.aload_n 0, 1) := by decide +kernel
theorem dX8_verse_5 : decode cX8_verse 5 = .ok (.iload_n 1, 1) := by decide +kernel
theorem dX8_verse_6 : decode cX8_verse 6 = .ok (.invokevirtual 165, 3) := by decide +kernel
theorem dX8_verse_9 : decode cX8_verse 9 = .ok (.ifCond .eq 24, 3) := by decide +kernel
theorem dX8_verse_12 : decode cX8_verse 12 = .ok (.iload_n 2, 1) := by decide +kernel
theorem dX8_verse_13 : decode cX8_verse 13 = .ok (.i2l, 1) := by decide +kernel
theorem dX8_verse_14 : decode cX8_verse 14 = .ok (.lconst 0, 1) := by decide +kernel
theorem dX8_verse_15 : decode cX8_verse 15 = .ok (.ldc2_w 123, 3) := by decide +kernel
theorem dX8_verse_18 : decode cX8_verse 18 = .ok (.invokestatic 72, 3) := by decide +kernel
theorem dX8_verse_21 : decode cX8_verse 21 = .ok (.ifCond .eq 12, 3) := by decide +kernel
theorem dX8_verse_24 : decode cX8_verse 24 = .ok (.aload_n 0, 1) := by decide +kernel
theorem dX8_verse_25 : decode cX8_verse 25 = .ok (.iload_n 1, 1) := by decide +kernel
theorem dX8_verse_26 : decode cX8_verse 26 = .ok (.iload_n 2, 1) := by decide +kernel
theorem dX8_verse_27 : decode cX8_verse 27 = .ok (.invokevirtual 168, 3) := by decide +kernel
theorem dX8_verse_30 : decode cX8_verse 30 = .ok (.goto 5, 3) := by decide +kernel
theorem dX8_verse_33 : decode cX8_verse 33 = .ok (.bipush (-2), 2) := by decide +kernel
theorem dX8_verse_35 : decode cX8_verse 35 = .ok (.ireturn, 1) := by decide +kernel
theorem dX8_whenOf_0 : decode cX8_whenOf 0 = .ok (.iload_n 2, 1) := by decide +kernel
theorem dX8_whenOf_1 : decode cX8_whenOf 1 = .ok (.ifCond .ne 12, 3) := by decide +kernel
theorem dX8_whenOf_4 : decode cX8_whenOf 4 = .ok (.aload_n 0, 1) := by decide +kernel
theorem dX8_whenOf_5 : decode cX8_whenOf 5 = .ok (.getfield 46, 3) := by decide +kernel
theorem dX8_whenOf_8 : decode cX8_whenOf 8 = .ok (.iload_n 1, 1) := by decide +kernel
theorem dX8_whenOf_9 : decode cX8_whenOf 9 = .ok (.iaload, 1) := by decide +kernel
theorem dX8_whenOf_10 : decode cX8_whenOf 10 = .ok (.goto 51, 3) := by decide +kernel
theorem dX8_whenOf_13 : decode cX8_whenOf 13 = .ok (.iload_n 2, 1) := by decide +kernel
theorem dX8_whenOf_14 : decode cX8_whenOf 14 = .ok (.iconst 1, 1) := by decide +kernel
theorem dX8_whenOf_15 : decode cX8_whenOf 15 = .ok (.if_icmp .ne 12, 3) := by decide +kernel
theorem dX8_whenOf_18 : decode cX8_whenOf 18 = .ok (.aload_n 0, 1) := by decide +kernel
theorem dX8_whenOf_19 : decode cX8_whenOf 19 = .ok (.getfield 49, 3) := by decide +kernel
theorem dX8_whenOf_22 : decode cX8_whenOf 22 = .ok (.iload_n 1, 1) := by decide +kernel
theorem dX8_whenOf_23 : decode cX8_whenOf 23 = .ok (.iaload, 1) := by decide +kernel
theorem dX8_whenOf_24 : decode cX8_whenOf 24 = .ok (.goto 37, 3) := by decide +kernel
theorem dX8_whenOf_27 : decode cX8_whenOf 27 = .ok (.iload_n 2, 1) := by decide +kernel
theorem dX8_whenOf_28 : decode cX8_whenOf 28 = .ok (.iconst 2, 1) := by decide +kernel
theorem dX8_whenOf_29 : decode cX8_whenOf 29 = .ok (.if_icmp .ne 12, 3) := by decide +kernel
theorem dX8_whenOf_32 : decode cX8_whenOf 32 = .ok (.aload_n 0, 1) := by decide +kernel
theorem dX8_whenOf_33 : decode cX8_whenOf 33 = .ok (.getfield 52, 3) := by decide +kernel
theorem dX8_whenOf_36 : decode cX8_whenOf 36 = .ok (.iload_n 1, 1) := by decide +kernel
theorem dX8_whenOf_37 : decode cX8_whenOf 37 = .ok (.iaload, 1) := by decide +kernel
theorem dX8_whenOf_38 : decode cX8_whenOf 38 = .ok (.goto 23, 3) := by decide +kernel
theorem dX8_whenOf_41 : decode cX8_whenOf 41 = .ok (.iload_n 2, 1) := by decide +kernel
theorem dX8_whenOf_42 : decode cX8_whenOf 42 = .ok (.iconst 3, 1) := by decide +kernel
theorem dX8_whenOf_43 : decode cX8_whenOf 43 = .ok (.if_icmp .ne 12, 3) := by decide +kernel
theorem dX8_whenOf_46 : decode cX8_whenOf 46 = .ok (.aload_n 0, 1) := by decide +kernel
theorem dX8_whenOf_47 : decode cX8_whenOf 47 = .ok (.getfield 55, 3) := by decide +kernel
theorem dX8_whenOf_50 : decode cX8_whenOf 50 = .ok (.iload_n 1, 1) := by decide +kernel
theorem dX8_whenOf_51 : decode cX8_whenOf 51 = .ok (.iaload, 1) := by decide +kernel
theorem dX8_whenOf_52 : decode cX8_whenOf 52 = .ok (.goto 9, 3) := by decide +kernel
theorem dX8_whenOf_55 : decode cX8_whenOf 55 = .ok (.aload_n 0, 1) := by decide +kernel
theorem dX8_whenOf_56 : decode cX8_whenOf 56 = .ok (.getfield 58, 3) := by decide +kernel
theorem dX8_whenOf_59 : decode cX8_whenOf 59 = .ok (.iload_n 1, 1) := by decide +kernel
theorem dX8_whenOf_60 : decode cX8_whenOf 60 = .ok (.iaload, 1) := by decide +kernel
theorem dX8_whenOf_61 : decode cX8_whenOf 61 = .ok (.ireturn, 1) := by decide +kernel
theorem dX8_when_0 : decode cX8_when 0 = .ok (.aload_n 0, 1) := by decide +kernel
theorem dX8_when_1 : decode cX8_when 1 = .ok (.invokevirtual 162, 3) := by decide +kernel
theorem dX8_when_4 : decode cX8_when 4 = .ok (.aload_n 0, 1) := by decide +kernel
theorem dX8_when_5 : decode cX8_when 5 = .ok (.iload_n 1, 1) := by decide +kernel
theorem dX8_when_6 : decode cX8_when 6 = .ok (.invokevirtual 165, 3) := by decide +kernel
theorem dX8_when_9 : decode cX8_when 9 = .ok (.ifCond .eq 24, 3) := by decide +kernel
theorem dX8_when_12 : decode cX8_when 12 = .ok (.iload_n 2, 1) := by decide +kernel
theorem dX8_when_13 : decode cX8_when 13 = .ok (.i2l, 1) := by decide +kernel
theorem dX8_when_14 : decode cX8_when 14 = .ok (.lconst 0, 1) := by decide +kernel
theorem dX8_when_15 : decode cX8_when 15 = .ok (.ldc2_w 171, 3) := by decide +kernel
theorem dX8_when_18 : decode cX8_when 18 = .ok (.invokestatic 72, 3) := by decide +kernel
theorem dX8_when_21 : decode cX8_when 21 = .ok (.ifCond .eq 12, 3) := by decide +kernel
theorem dX8_when_24 : decode cX8_when 24 = .ok (.aload_n 0, 1) := by decide +kernel
theorem dX8_when_25 : decode cX8_when 25 = .ok (.iload_n 1, 1) := by decide +kernel
theorem dX8_when_26 : decode cX8_when 26 = .ok (.iload_n 2, 1) := by decide +kernel
theorem dX8_when_27 : decode cX8_when 27 = .ok (.invokevirtual 173, 3) := by decide +kernel
theorem dX8_when_30 : decode cX8_when 30 = .ok (.goto 5, 3) := by decide +kernel
theorem dX8_when_33 : decode cX8_when 33 = .ok (.bipush (-2), 2) := by decide +kernel
theorem dX8_when_35 : decode cX8_when 35 = .ok (.ireturn, 1) := by decide +kernel
theorem dX8_poemOf_0 : decode cX8_poemOf 0 = .ok (.iload_n 1, 1) := by decide +kernel
theorem dX8_poemOf_1 : decode cX8_poemOf 1 = .ok (.ifCond .ne 10, 3) := by decide +kernel
theorem dX8_poemOf_4 : decode cX8_poemOf 4 = .ok (.aload_n 0, 1) := by decide +kernel
theorem dX8_poemOf_5 : decode cX8_poemOf 5 = .ok (.getfield 146, 3) := by decide +kernel
theorem dX8_poemOf_8 : decode cX8_poemOf 8 = .ok (.goto 31, 3) := by decide +kernel
theorem dX8_poemOf_11 : decode cX8_poemOf 11 = .ok (.iload_n 1, 1) := by decide +kernel
theorem dX8_poemOf_12 : decode cX8_poemOf 12 = .ok (.iconst 1, 1) := by decide +kernel
theorem dX8_poemOf_13 : decode cX8_poemOf 13 = .ok (.if_icmp .ne 10, 3) := by decide +kernel
theorem dX8_poemOf_16 : decode cX8_poemOf 16 = .ok (.aload_n 0, 1) := by decide +kernel
theorem dX8_poemOf_17 : decode cX8_poemOf 17 = .ok (.getfield 140, 3) := by decide +kernel
theorem dX8_poemOf_20 : decode cX8_poemOf 20 = .ok (.goto 19, 3) := by decide +kernel
theorem dX8_poemOf_23 : decode cX8_poemOf 23 = .ok (.iload_n 1, 1) := by decide +kernel
theorem dX8_poemOf_24 : decode cX8_poemOf 24 = .ok (.iconst 2, 1) := by decide +kernel
theorem dX8_poemOf_25 : decode cX8_poemOf 25 = .ok (.if_icmp .ne 10, 3) := by decide +kernel
theorem dX8_poemOf_28 : decode cX8_poemOf 28 = .ok (.aload_n 0, 1) := by decide +kernel
theorem dX8_poemOf_29 : decode cX8_poemOf 29 = .ok (.getfield 143, 3) := by decide +kernel
theorem dX8_poemOf_32 : decode cX8_poemOf 32 = .ok (.goto 7, 3) := by decide +kernel
theorem dX8_poemOf_35 : decode cX8_poemOf 35 = .ok (.aload_n 0, 1) := by decide +kernel
theorem dX8_poemOf_36 : decode cX8_poemOf 36 = .ok (.getfield 149, 3) := by decide +kernel
theorem dX8_poemOf_39 : decode cX8_poemOf 39 = .ok (.ireturn, 1) := by decide +kernel
theorem dX8_poem_0 : decode cX8_poem 0 = .ok (.aload_n 0, 1) := by decide +kernel
theorem dX8_poem_1 : decode cX8_poem 1 = .ok (.invokevirtual 162, 3) := by decide +kernel
theorem dX8_poem_4 : decode cX8_poem 4 = .ok (.iload_n 1, 1) := by decide +kernel
theorem dX8_poem_5 : decode cX8_poem 5 = .ok (.i2l, 1) := by decide +kernel
theorem dX8_poem_6 : decode cX8_poem 6 = .ok (.lconst 0, 1) := by decide +kernel
theorem dX8_poem_7 : decode cX8_poem 7 = .ok (.ldc2_w 80, 3) := by decide +kernel
theorem dX8_poem_10 : decode cX8_poem 10 = .ok (.invokestatic 72, 3) := by decide +kernel
theorem dX8_poem_13 : decode cX8_poem 13 = .ok (.ifCond .eq 11, 3) := by decide +kernel
theorem dX8_poem_16 : decode cX8_poem 16 = .ok (.aload_n 0, 1) := by decide +kernel
theorem dX8_poem_17 : decode cX8_poem 17 = .ok (.iload_n 1, 1) := by decide +kernel
theorem dX8_poem_18 : decode cX8_poem 18 = .ok (.invokevirtual 176, 3) := by decide +kernel
theorem dX8_poem_21 : decode cX8_poem 21 = .ok (.goto 5, 3) := by decide +kernel
theorem dX8_poem_24 : decode cX8_poem 24 = .ok (.bipush (-2), 2) := by decide +kernel
theorem dX8_poem_26 : decode cX8_poem 26 = .ok (.ireturn, 1) := by decide +kernel
theorem dX8_judgedNow_0 : decode cX8_judgedNow 0 = .ok (.iconst 0, 1) := by decide +kernel
theorem dX8_judgedNow_1 : decode cX8_judgedNow 1 = .ok (.istore_n 1, 1) := by decide +kernel
theorem dX8_judgedNow_2 : decode cX8_judgedNow 2 = .ok (.iload_n 1, 1) := by decide +kernel
theorem dX8_judgedNow_3 : decode cX8_judgedNow 3 = .ok (.aload_n 0, 1) := by decide +kernel
theorem dX8_judgedNow_4 : decode cX8_judgedNow 4 = .ok (.getfield 128, 3) := by decide +kernel
theorem dX8_judgedNow_7 : decode cX8_judgedNow 7 = .ok (.if_icmp .ge 30, 3) := by decide +kernel
theorem dX8_judgedNow_10 : decode cX8_judgedNow 10 = .ok (.aload_n 0, 1) := by decide +kernel
theorem dX8_judgedNow_11 : decode cX8_judgedNow 11 = .ok (.getfield 58, 3) := by decide +kernel
theorem dX8_judgedNow_14 : decode cX8_judgedNow 14 = .ok (.iload_n 1, 1) := by decide +kernel
theorem dX8_judgedNow_15 : decode cX8_judgedNow 15 = .ok (.iaload, 1) := by decide +kernel
theorem dX8_judgedNow_16 : decode cX8_judgedNow 16 = .ok (.ifCond .ne 13, 3) := by decide +kernel
theorem dX8_judgedNow_19 : decode cX8_judgedNow 19 = .ok (.aload_n 0, 1) := by decide +kernel
theorem dX8_judgedNow_20 : decode cX8_judgedNow 20 = .ok (.getfield 55, 3) := by decide +kernel
theorem dX8_judgedNow_23 : decode cX8_judgedNow 23 = .ok (.iload_n 1, 1) := by decide +kernel
theorem dX8_judgedNow_24 : decode cX8_judgedNow 24 = .ok (.iaload, 1) := by decide +kernel
theorem dX8_judgedNow_25 : decode cX8_judgedNow 25 = .ok (.iconst (-1), 1) := by decide +kernel
theorem dX8_judgedNow_26 : decode cX8_judgedNow 26 = .ok (.if_icmp .ne 5, 3) := by decide +kernel
theorem dX8_judgedNow_29 : decode cX8_judgedNow 29 = .ok (.iload_n 1, 1) := by decide +kernel
theorem dX8_judgedNow_30 : decode cX8_judgedNow 30 = .ok (.ireturn, 1) := by decide +kernel
theorem dX8_judgedNow_31 : decode cX8_judgedNow 31 = .ok (.iinc 1 1, 3) := by decide +kernel
theorem dX8_judgedNow_34 : decode cX8_judgedNow 34 = .ok (.goto (-32), 3) := by decide +kernel
theorem dX8_judgedNow_37 : decode cX8_judgedNow 37 = .ok (.iconst (-1), 1) := by decide +kernel
theorem dX8_judgedNow_38 : decode cX8_judgedNow 38 = .ok (.ireturn, 1) := by decide +kernel
theorem dX8_judged_0 : decode cX8_judged 0 = .ok (.aload_n 0, 1) := by decide +kernel
theorem dX8_judged_1 : decode cX8_judged 1 = .ok (.invokevirtual 162, 3) := by decide +kernel
theorem dX8_judged_4 : decode cX8_judged 4 = .ok (.aload_n 0, 1) := by decide +kernel
theorem dX8_judged_5 : decode cX8_judged 5 = .ok (.invokevirtual 179, 3) := by decide +kernel
theorem dX8_judged_8 : decode cX8_judged 8 = .ok (.ireturn, 1) := by decide +kernel
theorem dX8_isFree_0 : decode cX8_isFree 0 = .ok (.iconst 1, 1) := by decide +kernel
theorem dX8_isFree_1 : decode cX8_isFree 1 = .ok (.istore_n 2, 1) := by decide +kernel
theorem dX8_isFree_2 : decode cX8_isFree 2 = .ok (.iconst 0, 1) := by decide +kernel
theorem dX8_isFree_3 : decode cX8_isFree 3 = .ok (.istore_n 3, 1) := by decide +kernel
theorem dX8_isFree_4 : decode cX8_isFree 4 = .ok (.iload_n 3, 1) := by decide +kernel
theorem dX8_isFree_5 : decode cX8_isFree 5 = .ok (.aload_n 0, 1) := by decide +kernel
theorem dX8_isFree_6 : decode cX8_isFree 6 = .ok (.getfield 128, 3) := by decide +kernel
theorem dX8_isFree_9 : decode cX8_isFree 9 = .ok (.if_icmp .ge 70, 3) := by decide +kernel
theorem dX8_isFree_12 : decode cX8_isFree 12 = .ok (.aload_n 0, 1) := by decide +kernel
theorem dX8_isFree_13 : decode cX8_isFree 13 = .ok (.getfield 46, 3) := by decide +kernel
theorem dX8_isFree_16 : decode cX8_isFree 16 = .ok (.iload_n 3, 1) := by decide +kernel
theorem dX8_isFree_17 : decode cX8_isFree 17 = .ok (.iaload, 1) := by decide +kernel
theorem dX8_isFree_18 : decode cX8_isFree 18 = .ok (.iconst (-1), 1) := by decide +kernel
theorem dX8_isFree_19 : decode cX8_isFree 19 = .ok (.if_icmp .eq 27, 3) := by decide +kernel
theorem dX8_isFree_22 : decode cX8_isFree 22 = .ok (.iload_n 1, 1) := by decide +kernel
theorem dX8_isFree_23 : decode cX8_isFree 23 = .ok (.aload_n 0, 1) := by decide +kernel
theorem dX8_isFree_24 : decode cX8_isFree 24 = .ok (.getfield 46, 3) := by decide +kernel
theorem dX8_isFree_27 : decode cX8_isFree 27 = .ok (.iload_n 3, 1) := by decide +kernel
theorem dX8_isFree_28 : decode cX8_isFree 28 = .ok (.iaload, 1) := by decide +kernel
theorem dX8_isFree_29 : decode cX8_isFree 29 = .ok (.if_icmp .lt 17, 3) := by decide +kernel
theorem dX8_isFree_32 : decode cX8_isFree 32 = .ok (.iload_n 1, 1) := by decide +kernel
theorem dX8_isFree_33 : decode cX8_isFree 33 = .ok (.aload_n 0, 1) := by decide +kernel
theorem dX8_isFree_34 : decode cX8_isFree 34 = .ok (.getfield 49, 3) := by decide +kernel
theorem dX8_isFree_37 : decode cX8_isFree 37 = .ok (.iload_n 3, 1) := by decide +kernel
theorem dX8_isFree_38 : decode cX8_isFree 38 = .ok (.iaload, 1) := by decide +kernel
theorem dX8_isFree_39 : decode cX8_isFree 39 = .ok (.if_icmp .ge 7, 3) := by decide +kernel
theorem dX8_isFree_42 : decode cX8_isFree 42 = .ok (.iconst 1, 1) := by decide +kernel
theorem dX8_isFree_43 : decode cX8_isFree 43 = .ok (.goto 4, 3) := by decide +kernel
theorem dX8_isFree_46 : decode cX8_isFree 46 = .ok (.iconst 0, 1) := by decide +kernel
theorem dX8_isFree_47 : decode cX8_isFree 47 = .ok (.istore 4, 2) := by decide +kernel
theorem dX8_isFree_49 : decode cX8_isFree 49 = .ok (.iload_n 2, 1) := by decide +kernel
theorem dX8_isFree_50 : decode cX8_isFree 50 = .ok (.ifCond .eq 21, 3) := by decide +kernel
theorem dX8_isFree_53 : decode cX8_isFree 53 = .ok (.iload 4, 2) := by decide +kernel
theorem dX8_isFree_55 : decode cX8_isFree 55 = .ok (.ifCond .eq 12, 3) := by decide +kernel
theorem dX8_isFree_58 : decode cX8_isFree 58 = .ok (.aload_n 0, 1) := by decide +kernel
theorem dX8_isFree_59 : decode cX8_isFree 59 = .ok (.iload_n 3, 1) := by decide +kernel
theorem dX8_isFree_60 : decode cX8_isFree 60 = .ok (.invokevirtual 131, 3) := by decide +kernel
theorem dX8_isFree_63 : decode cX8_isFree 63 = .ok (.iconst 2, 1) := by decide +kernel
theorem dX8_isFree_64 : decode cX8_isFree 64 = .ok (.if_icmp .ne 7, 3) := by decide +kernel
theorem dX8_isFree_67 : decode cX8_isFree 67 = .ok (.iconst 1, 1) := by decide +kernel
theorem dX8_isFree_68 : decode cX8_isFree 68 = .ok (.goto 4, 3) := by decide +kernel
theorem dX8_isFree_71 : decode cX8_isFree 71 = .ok (.iconst 0, 1) := by decide +kernel
theorem dX8_isFree_72 : decode cX8_isFree 72 = .ok (.istore_n 2, 1) := by decide +kernel
theorem dX8_isFree_73 : decode cX8_isFree 73 = .ok (.iinc 3 1, 3) := by decide +kernel
theorem dX8_isFree_76 : decode cX8_isFree 76 = .ok (.goto (-72), 3) := by decide +kernel
theorem dX8_isFree_79 : decode cX8_isFree 79 = .ok (.iload_n 2, 1) := by decide +kernel
theorem dX8_isFree_80 : decode cX8_isFree 80 = .ok (.ireturn, 1) := by decide +kernel
theorem dX8_freeAhead_0 : decode cX8_freeAhead 0 = .ok (.iload_n 1, 1) := by decide +kernel
theorem dX8_freeAhead_1 : decode cX8_freeAhead 1 = .ok (.istore_n 3, 1) := by decide +kernel
theorem dX8_freeAhead_2 : decode cX8_freeAhead 2 = .ok (.iconst 0, 1) := by decide +kernel
theorem dX8_freeAhead_3 : decode cX8_freeAhead 3 = .ok (.istore 4, 2) := by decide +kernel
theorem dX8_freeAhead_5 : decode cX8_freeAhead 5 = .ok (.iload 4, 2) := by decide +kernel
theorem dX8_freeAhead_7 : decode cX8_freeAhead 7 = .ok (.iload_n 2, 1) := by decide +kernel
theorem dX8_freeAhead_8 : decode cX8_freeAhead 8 = .ok (.if_icmp .ge 26, 3) := by decide +kernel
theorem dX8_freeAhead_11 : decode cX8_freeAhead 11 = .ok (.iload_n 3, 1) := by decide +kernel
theorem dX8_freeAhead_12 : decode cX8_freeAhead 12 = .ok (.aload_n 0, 1) := by decide +kernel
theorem dX8_freeAhead_13 : decode cX8_freeAhead 13 = .ok (.iload 4, 2) := by decide +kernel
theorem dX8_freeAhead_15 : decode cX8_freeAhead 15 = .ok (.invokevirtual 183, 3) := by decide +kernel
theorem dX8_freeAhead_18 : decode cX8_freeAhead 18 = .ok (.ifCond .eq 7, 3) := by decide +kernel
theorem dX8_freeAhead_21 : decode cX8_freeAhead 21 = .ok (.iconst 1, 1) := by decide +kernel
theorem dX8_freeAhead_22 : decode cX8_freeAhead 22 = .ok (.goto 4, 3) := by decide +kernel
theorem dX8_freeAhead_25 : decode cX8_freeAhead 25 = .ok (.iconst 0, 1) := by decide +kernel
theorem dX8_freeAhead_26 : decode cX8_freeAhead 26 = .ok (.iadd, 1) := by decide +kernel
theorem dX8_freeAhead_27 : decode cX8_freeAhead 27 = .ok (.istore_n 3, 1) := by decide +kernel
theorem dX8_freeAhead_28 : decode cX8_freeAhead 28 = .ok (.iinc 4 1, 3) := by decide +kernel
theorem dX8_freeAhead_31 : decode cX8_freeAhead 31 = .ok (.goto (-26), 3) := by decide +kernel
theorem dX8_freeAhead_34 : decode cX8_freeAhead 34 = .ok (.iload_n 3, 1) := by decide +kernel
theorem dX8_freeAhead_35 : decode cX8_freeAhead 35 = .ok (.ireturn, 1) := by decide +kernel
theorem dX8_restOf_0 : decode cX8_restOf 0 = .ok (.aload_n 0, 1) := by decide +kernel
theorem dX8_restOf_1 : decode cX8_restOf 1 = .ok (.getfield 46, 3) := by decide +kernel
theorem dX8_restOf_4 : decode cX8_restOf 4 = .ok (.iload_n 1, 1) := by decide +kernel
theorem dX8_restOf_5 : decode cX8_restOf 5 = .ok (.iaload, 1) := by decide +kernel
theorem dX8_restOf_6 : decode cX8_restOf 6 = .ok (.iconst (-1), 1) := by decide +kernel
theorem dX8_restOf_7 : decode cX8_restOf 7 = .ok (.if_icmp .ne 6, 3) := by decide +kernel
theorem dX8_restOf_10 : decode cX8_restOf 10 = .ok (.bipush (-3), 2) := by decide +kernel
theorem dX8_restOf_12 : decode cX8_restOf 12 = .ok (.ireturn, 1) := by decide +kernel
theorem dX8_restOf_13 : decode cX8_restOf 13 = .ok (.aload_n 0, 1) := by decide +kernel
theorem dX8_restOf_14 : decode cX8_restOf 14 = .ok (.aload_n 0, 1) := by decide +kernel
end
section
theorem dX8_restOf_15 : decode cX8_restOf 15 = .ok (.getfield 34, 3) := by decide +kernel
theorem dX8_restOf_18 : decode cX8_restOf 18 = .ok (.iconst 0, 1) := by decide +kernel
theorem dX8_restOf_19 : decode cX8_restOf 19 = .ok (.iaload, 1) := by decide +kernel
theorem dX8_restOf_20 : decode cX8_restOf 20 = .ok (.aload_n 0, 1) := by decide +kernel
theorem dX8_restOf_21 : decode cX8_restOf 21 = .ok (.getfield 46, 3) := by decide +kernel
theorem dX8_restOf_24 : decode cX8_restOf 24 = .ok (.iload_n 1, 1) := by decide +kernel
theorem dX8_restOf_25 : decode cX8_restOf 25 = .ok (.iaload, 1) := by decide +kernel
theorem dX8_restOf_26 : decode cX8_restOf 26 = .ok (.invokevirtual 186, 3) := by decide +kernel
theorem dX8_restOf_29 : decode cX8_restOf 29 = .ok (.istore_n 2, 1) := by decide +kernel
theorem dX8_restOf_30 : decode cX8_restOf 30 = .ok (.iconst 0, 1) := by decide +kernel
theorem dX8_restOf_31 : decode cX8_restOf 31 = .ok (.istore_n 3, 1) := by decide +kernel
theorem dX8_restOf_32 : decode cX8_restOf 32 = .ok (.iload_n 3, 1) := by decide +kernel
theorem dX8_restOf_33 : decode cX8_restOf 33 = .ok (.iload_n 1, 1) := by decide +kernel
theorem dX8_restOf_34 : decode cX8_restOf 34 = .ok (.if_icmp .gt 18, 3) := by decide +kernel
theorem dX8_restOf_37 : decode cX8_restOf 37 = .ok (.iload_n 2, 1) := by decide +kernel
theorem dX8_restOf_38 : decode cX8_restOf 38 = .ok (.aload_n 0, 1) := by decide +kernel
theorem dX8_restOf_39 : decode cX8_restOf 39 = .ok (.getfield 40, 3) := by decide +kernel
theorem dX8_restOf_42 : decode cX8_restOf 42 = .ok (.iload_n 3, 1) := by decide +kernel
theorem dX8_restOf_43 : decode cX8_restOf 43 = .ok (.iaload, 1) := by decide +kernel
theorem dX8_restOf_44 : decode cX8_restOf 44 = .ok (.isub, 1) := by decide +kernel
theorem dX8_restOf_45 : decode cX8_restOf 45 = .ok (.istore_n 2, 1) := by decide +kernel
theorem dX8_restOf_46 : decode cX8_restOf 46 = .ok (.iinc 3 1, 3) := by decide +kernel
theorem dX8_restOf_49 : decode cX8_restOf 49 = .ok (.goto (-17), 3) := by decide +kernel
theorem dX8_restOf_52 : decode cX8_restOf 52 = .ok (.iload_n 2, 1) := by decide +kernel
theorem dX8_restOf_53 : decode cX8_restOf 53 = .ok (.ireturn, 1) := by decide +kernel
theorem dX8_rest_0 : decode cX8_rest 0 = .ok (.aload_n 0, 1) := by decide +kernel
theorem dX8_rest_1 : decode cX8_rest 1 = .ok (.invokevirtual 162, 3) := by decide +kernel
theorem dX8_rest_4 : decode cX8_rest 4 = .ok (.aload_n 0, 1) := by decide +kernel
theorem dX8_rest_5 : decode cX8_rest 5 = .ok (.iload_n 1, 1) := by decide +kernel
theorem dX8_rest_6 : decode cX8_rest 6 = .ok (.invokevirtual 165, 3) := by decide +kernel
theorem dX8_rest_9 : decode cX8_rest 9 = .ok (.ifCond .eq 11, 3) := by decide +kernel
theorem dX8_rest_12 : decode cX8_rest 12 = .ok (.aload_n 0, 1) := by decide +kernel
theorem dX8_rest_13 : decode cX8_rest 13 = .ok (.iload_n 1, 1) := by decide +kernel
theorem dX8_rest_14 : decode cX8_rest 14 = .ok (.invokevirtual 189, 3) := by decide +kernel
theorem dX8_rest_17 : decode cX8_rest 17 = .ok (.goto 5, 3) := by decide +kernel
theorem dX8_rest_20 : decode cX8_rest 20 = .ok (.bipush (-2), 2) := by decide +kernel
theorem dX8_rest_22 : decode cX8_rest 22 = .ok (.ireturn, 1) := by decide +kernel
theorem dX8_makesIn_0 : decode cX8_makesIn 0 = .ok (.aload_n 0, 1) := by decide +kernel
theorem dX8_makesIn_1 : decode cX8_makesIn 1 = .ok (.iload_n 2, 1) := by decide +kernel
theorem dX8_makesIn_2 : decode cX8_makesIn 2 = .ok (.invokevirtual 183, 3) := by decide +kernel
theorem dX8_makesIn_5 : decode cX8_makesIn 5 = .ok (.ifCond .ne 5, 3) := by decide +kernel
theorem dX8_makesIn_8 : decode cX8_makesIn 8 = .ok (.iconst (-1), 1) := by decide +kernel
theorem dX8_makesIn_9 : decode cX8_makesIn 9 = .ok (.ireturn, 1) := by decide +kernel
theorem dX8_makesIn_10 : decode cX8_makesIn 10 = .ok (.aload_n 0, 1) := by decide +kernel
theorem dX8_makesIn_11 : decode cX8_makesIn 11 = .ok (.iload_n 1, 1) := by decide +kernel
theorem dX8_makesIn_12 : decode cX8_makesIn 12 = .ok (.iload_n 2, 1) := by decide +kernel
theorem dX8_makesIn_13 : decode cX8_makesIn 13 = .ok (.invokevirtual 186, 3) := by decide +kernel
theorem dX8_makesIn_16 : decode cX8_makesIn 16 = .ok (.istore_n 3, 1) := by decide +kernel
theorem dX8_makesIn_17 : decode cX8_makesIn 17 = .ok (.iconst 0, 1) := by decide +kernel
theorem dX8_makesIn_18 : decode cX8_makesIn 18 = .ok (.istore 4, 2) := by decide +kernel
theorem dX8_makesIn_20 : decode cX8_makesIn 20 = .ok (.iload 4, 2) := by decide +kernel
theorem dX8_makesIn_22 : decode cX8_makesIn 22 = .ok (.aload_n 0, 1) := by decide +kernel
theorem dX8_makesIn_23 : decode cX8_makesIn 23 = .ok (.getfield 128, 3) := by decide +kernel
theorem dX8_makesIn_26 : decode cX8_makesIn 26 = .ok (.if_icmp .ge 26, 3) := by decide +kernel
theorem dX8_makesIn_29 : decode cX8_makesIn 29 = .ok (.iload_n 3, 1) := by decide +kernel
theorem dX8_makesIn_30 : decode cX8_makesIn 30 = .ok (.aload_n 0, 1) := by decide +kernel
theorem dX8_makesIn_31 : decode cX8_makesIn 31 = .ok (.getfield 40, 3) := by decide +kernel
theorem dX8_makesIn_34 : decode cX8_makesIn 34 = .ok (.iload 4, 2) := by decide +kernel
theorem dX8_makesIn_36 : decode cX8_makesIn 36 = .ok (.iaload, 1) := by decide +kernel
theorem dX8_makesIn_37 : decode cX8_makesIn 37 = .ok (.isub, 1) := by decide +kernel
theorem dX8_makesIn_38 : decode cX8_makesIn 38 = .ok (.istore_n 3, 1) := by decide +kernel
theorem dX8_makesIn_39 : decode cX8_makesIn 39 = .ok (.iload_n 3, 1) := by decide +kernel
theorem dX8_makesIn_40 : decode cX8_makesIn 40 = .ok (.ifCond .ge 6, 3) := by decide +kernel
theorem dX8_makesIn_43 : decode cX8_makesIn 43 = .ok (.iload 4, 2) := by decide +kernel
theorem dX8_makesIn_45 : decode cX8_makesIn 45 = .ok (.ireturn, 1) := by decide +kernel
theorem dX8_makesIn_46 : decode cX8_makesIn 46 = .ok (.iinc 4 1, 3) := by decide +kernel
theorem dX8_makesIn_49 : decode cX8_makesIn 49 = .ok (.goto (-29), 3) := by decide +kernel
theorem dX8_makesIn_52 : decode cX8_makesIn 52 = .ok (.iconst (-1), 1) := by decide +kernel
theorem dX8_makesIn_53 : decode cX8_makesIn 53 = .ok (.ireturn, 1) := by decide +kernel
theorem dX8_saysIn_0 : decode cX8_saysIn 0 = .ok (.iconst 0, 1) := by decide +kernel
theorem dX8_saysIn_1 : decode cX8_saysIn 1 = .ok (.istore_n 2, 1) := by decide +kernel
theorem dX8_saysIn_2 : decode cX8_saysIn 2 = .ok (.iload_n 2, 1) := by decide +kernel
theorem dX8_saysIn_3 : decode cX8_saysIn 3 = .ok (.aload_n 0, 1) := by decide +kernel
theorem dX8_saysIn_4 : decode cX8_saysIn 4 = .ok (.getfield 128, 3) := by decide +kernel
theorem dX8_saysIn_7 : decode cX8_saysIn 7 = .ok (.if_icmp .ge 41, 3) := by decide +kernel
theorem dX8_saysIn_10 : decode cX8_saysIn 10 = .ok (.aload_n 0, 1) := by decide +kernel
theorem dX8_saysIn_11 : decode cX8_saysIn 11 = .ok (.getfield 46, 3) := by decide +kernel
theorem dX8_saysIn_14 : decode cX8_saysIn 14 = .ok (.iload_n 2, 1) := by decide +kernel
theorem dX8_saysIn_15 : decode cX8_saysIn 15 = .ok (.iaload, 1) := by decide +kernel
theorem dX8_saysIn_16 : decode cX8_saysIn 16 = .ok (.iconst (-1), 1) := by decide +kernel
theorem dX8_saysIn_17 : decode cX8_saysIn 17 = .ok (.if_icmp .eq 25, 3) := by decide +kernel
theorem dX8_saysIn_20 : decode cX8_saysIn 20 = .ok (.iload_n 1, 1) := by decide +kernel
theorem dX8_saysIn_21 : decode cX8_saysIn 21 = .ok (.aload_n 0, 1) := by decide +kernel
theorem dX8_saysIn_22 : decode cX8_saysIn 22 = .ok (.getfield 46, 3) := by decide +kernel
theorem dX8_saysIn_25 : decode cX8_saysIn 25 = .ok (.iload_n 2, 1) := by decide +kernel
theorem dX8_saysIn_26 : decode cX8_saysIn 26 = .ok (.iaload, 1) := by decide +kernel
theorem dX8_saysIn_27 : decode cX8_saysIn 27 = .ok (.if_icmp .lt 15, 3) := by decide +kernel
theorem dX8_saysIn_30 : decode cX8_saysIn 30 = .ok (.iload_n 1, 1) := by decide +kernel
theorem dX8_saysIn_31 : decode cX8_saysIn 31 = .ok (.aload_n 0, 1) := by decide +kernel
theorem dX8_saysIn_32 : decode cX8_saysIn 32 = .ok (.getfield 49, 3) := by decide +kernel
theorem dX8_saysIn_35 : decode cX8_saysIn 35 = .ok (.iload_n 2, 1) := by decide +kernel
theorem dX8_saysIn_36 : decode cX8_saysIn 36 = .ok (.iaload, 1) := by decide +kernel
theorem dX8_saysIn_37 : decode cX8_saysIn 37 = .ok (.if_icmp .ge 5, 3) := by decide +kernel
theorem dX8_saysIn_40 : decode cX8_saysIn 40 = .ok (.iload_n 2, 1) := by decide +kernel
theorem dX8_saysIn_41 : decode cX8_saysIn 41 = .ok (.ireturn, 1) := by decide +kernel
theorem dX8_saysIn_42 : decode cX8_saysIn 42 = .ok (.iinc 2 1, 3) := by decide +kernel
theorem dX8_saysIn_45 : decode cX8_saysIn 45 = .ok (.goto (-43), 3) := by decide +kernel
theorem dX8_saysIn_48 : decode cX8_saysIn 48 = .ok (.iconst (-1), 1) := by decide +kernel
theorem dX8_saysIn_49 : decode cX8_saysIn 49 = .ok (.ireturn, 1) := by decide +kernel
theorem dX8_hasIn_0 : decode cX8_hasIn 0 = .ok (.iconst 0, 1) := by decide +kernel
theorem dX8_hasIn_1 : decode cX8_hasIn 1 = .ok (.istore_n 2, 1) := by decide +kernel
theorem dX8_hasIn_2 : decode cX8_hasIn 2 = .ok (.iload_n 2, 1) := by decide +kernel
theorem dX8_hasIn_3 : decode cX8_hasIn 3 = .ok (.aload_n 0, 1) := by decide +kernel
theorem dX8_hasIn_4 : decode cX8_hasIn 4 = .ok (.getfield 128, 3) := by decide +kernel
theorem dX8_hasIn_7 : decode cX8_hasIn 7 = .ok (.if_icmp .ge 62, 3) := by decide +kernel
theorem dX8_hasIn_10 : decode cX8_hasIn 10 = .ok (.aload_n 0, 1) := by decide +kernel
theorem dX8_hasIn_11 : decode cX8_hasIn 11 = .ok (.getfield 55, 3) := by decide +kernel
theorem dX8_hasIn_14 : decode cX8_hasIn 14 = .ok (.iload_n 2, 1) := by decide +kernel
theorem dX8_hasIn_15 : decode cX8_hasIn 15 = .ok (.iaload, 1) := by decide +kernel
theorem dX8_hasIn_16 : decode cX8_hasIn 16 = .ok (.iconst (-1), 1) := by decide +kernel
theorem dX8_hasIn_17 : decode cX8_hasIn 17 = .ok (.if_icmp .ne 12, 3) := by decide +kernel
theorem dX8_hasIn_20 : decode cX8_hasIn 20 = .ok (.aload_n 0, 1) := by decide +kernel
theorem dX8_hasIn_21 : decode cX8_hasIn 21 = .ok (.getfield 52, 3) := by decide +kernel
theorem dX8_hasIn_24 : decode cX8_hasIn 24 = .ok (.iload_n 2, 1) := by decide +kernel
theorem dX8_hasIn_25 : decode cX8_hasIn 25 = .ok (.iaload, 1) := by decide +kernel
theorem dX8_hasIn_26 : decode cX8_hasIn 26 = .ok (.goto 9, 3) := by decide +kernel
theorem dX8_hasIn_29 : decode cX8_hasIn 29 = .ok (.aload_n 0, 1) := by decide +kernel
theorem dX8_hasIn_30 : decode cX8_hasIn 30 = .ok (.getfield 55, 3) := by decide +kernel
theorem dX8_hasIn_33 : decode cX8_hasIn 33 = .ok (.iload_n 2, 1) := by decide +kernel
theorem dX8_hasIn_34 : decode cX8_hasIn 34 = .ok (.iaload, 1) := by decide +kernel
theorem dX8_hasIn_35 : decode cX8_hasIn 35 = .ok (.istore_n 3, 1) := by decide +kernel
theorem dX8_hasIn_36 : decode cX8_hasIn 36 = .ok (.aload_n 0, 1) := by decide +kernel
theorem dX8_hasIn_37 : decode cX8_hasIn 37 = .ok (.getfield 46, 3) := by decide +kernel
theorem dX8_hasIn_40 : decode cX8_hasIn 40 = .ok (.iload_n 2, 1) := by decide +kernel
theorem dX8_hasIn_41 : decode cX8_hasIn 41 = .ok (.iaload, 1) := by decide +kernel
theorem dX8_hasIn_42 : decode cX8_hasIn 42 = .ok (.iconst (-1), 1) := by decide +kernel
theorem dX8_hasIn_43 : decode cX8_hasIn 43 = .ok (.if_icmp .eq 20, 3) := by decide +kernel
theorem dX8_hasIn_46 : decode cX8_hasIn 46 = .ok (.iload_n 1, 1) := by decide +kernel
theorem dX8_hasIn_47 : decode cX8_hasIn 47 = .ok (.aload_n 0, 1) := by decide +kernel
theorem dX8_hasIn_48 : decode cX8_hasIn 48 = .ok (.getfield 49, 3) := by decide +kernel
theorem dX8_hasIn_51 : decode cX8_hasIn 51 = .ok (.iload_n 2, 1) := by decide +kernel
theorem dX8_hasIn_52 : decode cX8_hasIn 52 = .ok (.iaload, 1) := by decide +kernel
theorem dX8_hasIn_53 : decode cX8_hasIn 53 = .ok (.if_icmp .lt 10, 3) := by decide +kernel
theorem dX8_hasIn_56 : decode cX8_hasIn 56 = .ok (.iload_n 1, 1) := by decide +kernel
theorem dX8_hasIn_57 : decode cX8_hasIn 57 = .ok (.iload_n 3, 1) := by decide +kernel
theorem dX8_hasIn_58 : decode cX8_hasIn 58 = .ok (.if_icmp .ge 5, 3) := by decide +kernel
theorem dX8_hasIn_61 : decode cX8_hasIn 61 = .ok (.iload_n 2, 1) := by decide +kernel
theorem dX8_hasIn_62 : decode cX8_hasIn 62 = .ok (.ireturn, 1) := by decide +kernel
theorem dX8_hasIn_63 : decode cX8_hasIn 63 = .ok (.iinc 2 1, 3) := by decide +kernel
theorem dX8_hasIn_66 : decode cX8_hasIn 66 = .ok (.goto (-64), 3) := by decide +kernel
theorem dX8_hasIn_69 : decode cX8_hasIn 69 = .ok (.iconst (-1), 1) := by decide +kernel
theorem dX8_hasIn_70 : decode cX8_hasIn 70 = .ok (.ireturn, 1) := by decide +kernel
theorem dX8_doingOf_0 : decode cX8_doingOf 0 = .ok (.iload_n 2, 1) := by decide +kernel
theorem dX8_doingOf_1 : decode cX8_doingOf 1 = .ok (.ifCond .ne 11, 3) := by decide +kernel
theorem dX8_doingOf_4 : decode cX8_doingOf 4 = .ok (.aload_n 0, 1) := by decide +kernel
theorem dX8_doingOf_5 : decode cX8_doingOf 5 = .ok (.iload_n 1, 1) := by decide +kernel
theorem dX8_doingOf_6 : decode cX8_doingOf 6 = .ok (.invokevirtual 192, 3) := by decide +kernel
theorem dX8_doingOf_9 : decode cX8_doingOf 9 = .ok (.goto 27, 3) := by decide +kernel
theorem dX8_doingOf_12 : decode cX8_doingOf 12 = .ok (.iload_n 2, 1) := by decide +kernel
theorem dX8_doingOf_13 : decode cX8_doingOf 13 = .ok (.iconst 1, 1) := by decide +kernel
theorem dX8_doingOf_14 : decode cX8_doingOf 14 = .ok (.if_icmp .ne 17, 3) := by decide +kernel
theorem dX8_doingOf_17 : decode cX8_doingOf 17 = .ok (.aload_n 0, 1) := by decide +kernel
theorem dX8_doingOf_18 : decode cX8_doingOf 18 = .ok (.aload_n 0, 1) := by decide +kernel
theorem dX8_doingOf_19 : decode cX8_doingOf 19 = .ok (.getfield 34, 3) := by decide +kernel
theorem dX8_doingOf_22 : decode cX8_doingOf 22 = .ok (.iconst 0, 1) := by decide +kernel
theorem dX8_doingOf_23 : decode cX8_doingOf 23 = .ok (.iaload, 1) := by decide +kernel
theorem dX8_doingOf_24 : decode cX8_doingOf 24 = .ok (.iload_n 1, 1) := by decide +kernel
theorem dX8_doingOf_25 : decode cX8_doingOf 25 = .ok (.invokevirtual 195, 3) := by decide +kernel
theorem dX8_doingOf_28 : decode cX8_doingOf 28 = .ok (.goto 8, 3) := by decide +kernel
theorem dX8_doingOf_31 : decode cX8_doingOf 31 = .ok (.aload_n 0, 1) := by decide +kernel
theorem dX8_doingOf_32 : decode cX8_doingOf 32 = .ok (.iload_n 1, 1) := by decide +kernel
theorem dX8_doingOf_33 : decode cX8_doingOf 33 = .ok (.invokevirtual 198, 3) := by decide +kernel
theorem dX8_doingOf_36 : decode cX8_doingOf 36 = .ok (.ireturn, 1) := by decide +kernel
theorem dX8_doing_0 : decode cX8_doing 0 = .ok (.aload_n 0, 1) := by decide +kernel
theorem dX8_doing_1 : decode cX8_doing 1 = .ok (.invokevirtual 162, 3) := by decide +kernel
theorem dX8_doing_4 : decode cX8_doing 4 = .ok (.iload_n 1, 1) := by decide +kernel
theorem dX8_doing_5 : decode cX8_doing 5 = .ok (.i2l, 1) := by decide +kernel
theorem dX8_doing_6 : decode cX8_doing 6 = .ok (.lconst 0, 1) := by decide +kernel
theorem dX8_doing_7 : decode cX8_doing 7 = .ok (.ldc2_w 201, 3) := by decide +kernel
theorem dX8_doing_10 : decode cX8_doing 10 = .ok (.invokestatic 72, 3) := by decide +kernel
theorem dX8_doing_13 : decode cX8_doing 13 = .ok (.ifCond .eq 24, 3) := by decide +kernel
theorem dX8_doing_16 : decode cX8_doing 16 = .ok (.iload_n 2, 1) := by decide +kernel
theorem dX8_doing_17 : decode cX8_doing 17 = .ok (.i2l, 1) := by decide +kernel
theorem dX8_doing_18 : decode cX8_doing 18 = .ok (.lconst 0, 1) := by decide +kernel
theorem dX8_doing_19 : decode cX8_doing 19 = .ok (.ldc2_w 86, 3) := by decide +kernel
theorem dX8_doing_22 : decode cX8_doing 22 = .ok (.invokestatic 72, 3) := by decide +kernel
theorem dX8_doing_25 : decode cX8_doing 25 = .ok (.ifCond .eq 12, 3) := by decide +kernel
theorem dX8_doing_28 : decode cX8_doing 28 = .ok (.aload_n 0, 1) := by decide +kernel
theorem dX8_doing_29 : decode cX8_doing 29 = .ok (.iload_n 1, 1) := by decide +kernel
theorem dX8_doing_30 : decode cX8_doing 30 = .ok (.iload_n 2, 1) := by decide +kernel
theorem dX8_doing_31 : decode cX8_doing 31 = .ok (.invokevirtual 203, 3) := by decide +kernel
theorem dX8_doing_34 : decode cX8_doing 34 = .ok (.goto 5, 3) := by decide +kernel
theorem dX8_doing_37 : decode cX8_doing 37 = .ok (.bipush (-2), 2) := by decide +kernel
theorem dX8_doing_39 : decode cX8_doing 39 = .ok (.ireturn, 1) := by decide +kernel
theorem dX8_lays_0 : decode cX8_lays 0 = .ok (.aload_n 0, 1) := by decide +kernel
theorem dX8_lays_1 : decode cX8_lays 1 = .ok (.iconst 0, 1) := by decide +kernel
theorem dX8_lays_2 : decode cX8_lays 2 = .ok (.putfield 128, 3) := by decide +kernel
theorem dX8_lays_5 : decode cX8_lays 5 = .ok (.iconst 0, 1) := by decide +kernel
theorem dX8_lays_6 : decode cX8_lays 6 = .ok (.istore 5, 2) := by decide +kernel
theorem dX8_lays_8 : decode cX8_lays 8 = .ok (.iload 5, 2) := by decide +kernel
theorem dX8_lays_10 : decode cX8_lays 10 = .ok (.aload_n 0, 1) := by decide +kernel
theorem dX8_lays_11 : decode cX8_lays 11 = .ok (.getfield 28, 3) := by decide +kernel
theorem dX8_lays_14 : decode cX8_lays 14 = .ok (.iconst 0, 1) := by decide +kernel
theorem dX8_lays_15 : decode cX8_lays 15 = .ok (.iaload, 1) := by decide +kernel
theorem dX8_lays_16 : decode cX8_lays 16 = .ok (.if_icmp .gt 100, 3) := by decide +kernel
theorem dX8_lays_19 : decode cX8_lays 19 = .ok (.iload 5, 2) := by decide +kernel
theorem dX8_lays_21 : decode cX8_lays 21 = .ok (.iload_n 1, 1) := by decide +kernel
theorem dX8_lays_22 : decode cX8_lays 22 = .ok (.if_icmp .ne 26, 3) := by decide +kernel
theorem dX8_lays_25 : decode cX8_lays 25 = .ok (.aload_n 0, 1) := by decide +kernel
theorem dX8_lays_26 : decode cX8_lays 26 = .ok (.getfield 37, 3) := by decide +kernel
theorem dX8_lays_29 : decode cX8_lays 29 = .ok (.aload_n 0, 1) := by decide +kernel
theorem dX8_lays_30 : decode cX8_lays 30 = .ok (.getfield 128, 3) := by decide +kernel
theorem dX8_lays_33 : decode cX8_lays 33 = .ok (.bipush 12, 2) := by decide +kernel
theorem dX8_lays_35 : decode cX8_lays 35 = .ok (.iload_n 2, 1) := by decide +kernel
theorem dX8_lays_36 : decode cX8_lays 36 = .ok (.iadd, 1) := by decide +kernel
theorem dX8_lays_37 : decode cX8_lays 37 = .ok (.iastore, 1) := by decide +kernel
theorem dX8_lays_38 : decode cX8_lays 38 = .ok (.aload_n 0, 1) := by decide +kernel
theorem dX8_lays_39 : decode cX8_lays 39 = .ok (.dup, 1) := by decide +kernel
theorem dX8_lays_40 : decode cX8_lays 40 = .ok (.getfield 128, 3) := by decide +kernel
theorem dX8_lays_43 : decode cX8_lays 43 = .ok (.iconst 1, 1) := by decide +kernel
theorem dX8_lays_44 : decode cX8_lays 44 = .ok (.iadd, 1) := by decide +kernel
theorem dX8_lays_45 : decode cX8_lays 45 = .ok (.putfield 128, 3) := by decide +kernel
theorem dX8_lays_48 : decode cX8_lays 48 = .ok (.iload 5, 2) := by decide +kernel
theorem dX8_lays_50 : decode cX8_lays 50 = .ok (.iload_n 3, 1) := by decide +kernel
theorem dX8_lays_51 : decode cX8_lays 51 = .ok (.if_icmp .ne 27, 3) := by decide +kernel
theorem dX8_lays_54 : decode cX8_lays 54 = .ok (.aload_n 0, 1) := by decide +kernel
theorem dX8_lays_55 : decode cX8_lays 55 = .ok (.getfield 37, 3) := by decide +kernel
theorem dX8_lays_58 : decode cX8_lays 58 = .ok (.aload_n 0, 1) := by decide +kernel
theorem dX8_lays_59 : decode cX8_lays 59 = .ok (.getfield 128, 3) := by decide +kernel
theorem dX8_lays_62 : decode cX8_lays 62 = .ok (.bipush 12, 2) := by decide +kernel
theorem dX8_lays_64 : decode cX8_lays 64 = .ok (.iload 4, 2) := by decide +kernel
theorem dX8_lays_66 : decode cX8_lays 66 = .ok (.iadd, 1) := by decide +kernel
theorem dX8_lays_67 : decode cX8_lays 67 = .ok (.iastore, 1) := by decide +kernel
theorem dX8_lays_68 : decode cX8_lays 68 = .ok (.aload_n 0, 1) := by decide +kernel
theorem dX8_lays_69 : decode cX8_lays 69 = .ok (.dup, 1) := by decide +kernel
theorem dX8_lays_70 : decode cX8_lays 70 = .ok (.getfield 128, 3) := by decide +kernel
theorem dX8_lays_73 : decode cX8_lays 73 = .ok (.iconst 1, 1) := by decide +kernel
theorem dX8_lays_74 : decode cX8_lays 74 = .ok (.iadd, 1) := by decide +kernel
theorem dX8_lays_75 : decode cX8_lays 75 = .ok (.putfield 128, 3) := by decide +kernel
theorem dX8_lays_78 : decode cX8_lays 78 = .ok (.iload 5, 2) := by decide +kernel
theorem dX8_lays_80 : decode cX8_lays 80 = .ok (.aload_n 0, 1) := by decide +kernel
theorem dX8_lays_81 : decode cX8_lays 81 = .ok (.getfield 28, 3) := by decide +kernel
theorem dX8_lays_84 : decode cX8_lays 84 = .ok (.iconst 0, 1) := by decide +kernel
theorem dX8_lays_85 : decode cX8_lays 85 = .ok (.iaload, 1) := by decide +kernel
theorem dX8_lays_86 : decode cX8_lays 86 = .ok (.if_icmp .ge 24, 3) := by decide +kernel
theorem dX8_lays_89 : decode cX8_lays 89 = .ok (.aload_n 0, 1) := by decide +kernel
theorem dX8_lays_90 : decode cX8_lays 90 = .ok (.getfield 37, 3) := by decide +kernel
theorem dX8_lays_93 : decode cX8_lays 93 = .ok (.aload_n 0, 1) := by decide +kernel
theorem dX8_lays_94 : decode cX8_lays 94 = .ok (.getfield 128, 3) := by decide +kernel
theorem dX8_lays_97 : decode cX8_lays 97 = .ok (.iload 5, 2) := by decide +kernel
theorem dX8_lays_99 : decode cX8_lays 99 = .ok (.iastore, 1) := by decide +kernel
theorem dX8_lays_100 : decode cX8_lays 100 = .ok (.aload_n 0, 1) := by decide +kernel
theorem dX8_lays_101 : decode cX8_lays 101 = .ok (.dup, 1) := by decide +kernel
theorem dX8_lays_102 : decode cX8_lays 102 = .ok (.getfield 128, 3) := by decide +kernel
theorem dX8_lays_105 : decode cX8_lays 105 = .ok (.iconst 1, 1) := by decide +kernel
theorem dX8_lays_106 : decode cX8_lays 106 = .ok (.iadd, 1) := by decide +kernel
theorem dX8_lays_107 : decode cX8_lays 107 = .ok (.putfield 128, 3) := by decide +kernel
theorem dX8_lays_110 : decode cX8_lays 110 = .ok (.iinc 5 1, 3) := by decide +kernel
theorem dX8_lays_113 : decode cX8_lays 113 = .ok (.goto (-105), 3) := by decide +kernel
theorem dX8_lays_116 : decode cX8_lays 116 = .ok (.return_, 1) := by decide +kernel
theorem dX8_looks_0 : decode cX8_looks 0 = .ok (.aload_n 0, 1) := by decide +kernel
theorem dX8_looks_1 : decode cX8_looks 1 = .ok (.iload_n 2, 1) := by decide +kernel
theorem dX8_looks_2 : decode cX8_looks 2 = .ok (.iload_n 3, 1) := by decide +kernel
theorem dX8_looks_3 : decode cX8_looks 3 = .ok (.iload 4, 2) := by decide +kernel
theorem dX8_looks_5 : decode cX8_looks 5 = .ok (.iload 5, 2) := by decide +kernel
theorem dX8_looks_7 : decode cX8_looks 7 = .ok (.invokevirtual 206, 3) := by decide +kernel
theorem dX8_looks_10 : decode cX8_looks 10 = .ok (.aload_n 0, 1) := by decide +kernel
theorem dX8_looks_11 : decode cX8_looks 11 = .ok (.aload_n 0, 1) := by decide +kernel
theorem dX8_looks_12 : decode cX8_looks 12 = .ok (.getfield 34, 3) := by decide +kernel
theorem dX8_looks_15 : decode cX8_looks 15 = .ok (.iconst 0, 1) := by decide +kernel
theorem dX8_looks_16 : decode cX8_looks 16 = .ok (.iaload, 1) := by decide +kernel
theorem dX8_looks_17 : decode cX8_looks 17 = .ok (.aload_n 0, 1) := by decide +kernel
theorem dX8_looks_18 : decode cX8_looks 18 = .ok (.getfield 34, 3) := by decide +kernel
theorem dX8_looks_21 : decode cX8_looks 21 = .ok (.iconst 4, 1) := by decide +kernel
theorem dX8_looks_22 : decode cX8_looks 22 = .ok (.iaload, 1) := by decide +kernel
theorem dX8_looks_23 : decode cX8_looks 23 = .ok (.aload_n 0, 1) := by decide +kernel
theorem dX8_looks_24 : decode cX8_looks 24 = .ok (.getfield 34, 3) := by decide +kernel
theorem dX8_looks_27 : decode cX8_looks 27 = .ok (.iconst 3, 1) := by decide +kernel
theorem dX8_looks_28 : decode cX8_looks 28 = .ok (.iaload, 1) := by decide +kernel
theorem dX8_looks_29 : decode cX8_looks 29 = .ok (.invokevirtual 158, 3) := by decide +kernel
theorem dX8_looks_32 : decode cX8_looks 32 = .ok (.aload_n 0, 1) := by decide +kernel
theorem dX8_looks_33 : decode cX8_looks 33 = .ok (.getfield 143, 3) := by decide +kernel
theorem dX8_looks_36 : decode cX8_looks 36 = .ok (.ifCond .ne 84, 3) := by decide +kernel
theorem dX8_looks_39 : decode cX8_looks 39 = .ok (.aload_n 0, 1) := by decide +kernel
theorem dX8_looks_40 : decode cX8_looks 40 = .ok (.getfield 146, 3) := by decide +kernel
theorem dX8_looks_43 : decode cX8_looks 43 = .ok (.aload_n 0, 1) := by decide +kernel
theorem dX8_looks_44 : decode cX8_looks 44 = .ok (.getfield 128, 3) := by decide +kernel
theorem dX8_looks_47 : decode cX8_looks 47 = .ok (.if_icmp .ne 73, 3) := by decide +kernel
theorem dX8_looks_50 : decode cX8_looks 50 = .ok (.aload_n 0, 1) := by decide +kernel
theorem dX8_looks_51 : decode cX8_looks 51 = .ok (.getfield 61, 3) := by decide +kernel
theorem dX8_looks_54 : decode cX8_looks 54 = .ok (.iconst 0, 1) := by decide +kernel
theorem dX8_looks_55 : decode cX8_looks 55 = .ok (.iaload, 1) := by decide +kernel
theorem dX8_looks_56 : decode cX8_looks 56 = .ok (.iconst (-1), 1) := by decide +kernel
theorem dX8_looks_57 : decode cX8_looks 57 = .ok (.if_icmp .eq 16, 3) := by decide +kernel
theorem dX8_looks_60 : decode cX8_looks 60 = .ok (.aload_n 0, 1) := by decide +kernel
theorem dX8_looks_61 : decode cX8_looks 61 = .ok (.getfield 140, 3) := by decide +kernel
theorem dX8_looks_64 : decode cX8_looks 64 = .ok (.aload_n 0, 1) := by decide +kernel
theorem dX8_looks_65 : decode cX8_looks 65 = .ok (.getfield 61, 3) := by decide +kernel
theorem dX8_looks_68 : decode cX8_looks 68 = .ok (.iconst 1, 1) := by decide +kernel
theorem dX8_looks_69 : decode cX8_looks 69 = .ok (.iaload, 1) := by decide +kernel
theorem dX8_looks_70 : decode cX8_looks 70 = .ok (.if_icmp .ge 50, 3) := by decide +kernel
theorem dX8_looks_73 : decode cX8_looks 73 = .ok (.aload_n 0, 1) := by decide +kernel
theorem dX8_looks_74 : decode cX8_looks 74 = .ok (.getfield 61, 3) := by decide +kernel
theorem dX8_looks_77 : decode cX8_looks 77 = .ok (.iconst 0, 1) := by decide +kernel
theorem dX8_looks_78 : decode cX8_looks 78 = .ok (.iload_n 1, 1) := by decide +kernel
theorem dX8_looks_79 : decode cX8_looks 79 = .ok (.iastore, 1) := by decide +kernel
theorem dX8_looks_80 : decode cX8_looks 80 = .ok (.aload_n 0, 1) := by decide +kernel
theorem dX8_looks_81 : decode cX8_looks 81 = .ok (.getfield 61, 3) := by decide +kernel
theorem dX8_looks_84 : decode cX8_looks 84 = .ok (.iconst 1, 1) := by decide +kernel
theorem dX8_looks_85 : decode cX8_looks 85 = .ok (.aload_n 0, 1) := by decide +kernel
theorem dX8_looks_86 : decode cX8_looks 86 = .ok (.getfield 140, 3) := by decide +kernel
theorem dX8_looks_89 : decode cX8_looks 89 = .ok (.iastore, 1) := by decide +kernel
theorem dX8_looks_90 : decode cX8_looks 90 = .ok (.aload_n 0, 1) := by decide +kernel
theorem dX8_looks_91 : decode cX8_looks 91 = .ok (.getfield 61, 3) := by decide +kernel
theorem dX8_looks_94 : decode cX8_looks 94 = .ok (.iconst 2, 1) := by decide +kernel
theorem dX8_looks_95 : decode cX8_looks 95 = .ok (.iload_n 2, 1) := by decide +kernel
theorem dX8_looks_96 : decode cX8_looks 96 = .ok (.iastore, 1) := by decide +kernel
theorem dX8_looks_97 : decode cX8_looks 97 = .ok (.aload_n 0, 1) := by decide +kernel
theorem dX8_looks_98 : decode cX8_looks 98 = .ok (.getfield 61, 3) := by decide +kernel
theorem dX8_looks_101 : decode cX8_looks 101 = .ok (.iconst 3, 1) := by decide +kernel
theorem dX8_looks_102 : decode cX8_looks 102 = .ok (.iload_n 3, 1) := by decide +kernel
theorem dX8_looks_103 : decode cX8_looks 103 = .ok (.iastore, 1) := by decide +kernel
theorem dX8_looks_104 : decode cX8_looks 104 = .ok (.aload_n 0, 1) := by decide +kernel
theorem dX8_looks_105 : decode cX8_looks 105 = .ok (.getfield 61, 3) := by decide +kernel
theorem dX8_looks_108 : decode cX8_looks 108 = .ok (.iconst 4, 1) := by decide +kernel
theorem dX8_looks_109 : decode cX8_looks 109 = .ok (.iload 4, 2) := by decide +kernel
theorem dX8_looks_111 : decode cX8_looks 111 = .ok (.iastore, 1) := by decide +kernel
theorem dX8_looks_112 : decode cX8_looks 112 = .ok (.aload_n 0, 1) := by decide +kernel
theorem dX8_looks_113 : decode cX8_looks 113 = .ok (.getfield 61, 3) := by decide +kernel
theorem dX8_looks_116 : decode cX8_looks 116 = .ok (.iconst 5, 1) := by decide +kernel
theorem dX8_looks_117 : decode cX8_looks 117 = .ok (.iload 5, 2) := by decide +kernel
theorem dX8_looks_119 : decode cX8_looks 119 = .ok (.iastore, 1) := by decide +kernel
theorem dX8_looks_120 : decode cX8_looks 120 = .ok (.return_, 1) := by decide +kernel
theorem dX8_findPut_0 : decode cX8_findPut 0 = .ok (.iconst 0, 1) := by decide +kernel
theorem dX8_findPut_1 : decode cX8_findPut 1 = .ok (.istore_n 1, 1) := by decide +kernel
theorem dX8_findPut_2 : decode cX8_findPut 2 = .ok (.iload_n 1, 1) := by decide +kernel
theorem dX8_findPut_3 : decode cX8_findPut 3 = .ok (.bipush 6, 2) := by decide +kernel
theorem dX8_findPut_5 : decode cX8_findPut 5 = .ok (.if_icmp .ge 16, 3) := by decide +kernel
theorem dX8_findPut_8 : decode cX8_findPut 8 = .ok (.aload_n 0, 1) := by decide +kernel
theorem dX8_findPut_9 : decode cX8_findPut 9 = .ok (.getfield 61, 3) := by decide +kernel
theorem dX8_findPut_12 : decode cX8_findPut 12 = .ok (.iload_n 1, 1) := by decide +kernel
theorem dX8_findPut_13 : decode cX8_findPut 13 = .ok (.iconst (-1), 1) := by decide +kernel
theorem dX8_findPut_14 : decode cX8_findPut 14 = .ok (.iastore, 1) := by decide +kernel
theorem dX8_findPut_15 : decode cX8_findPut 15 = .ok (.iinc 1 1, 3) := by decide +kernel
theorem dX8_findPut_18 : decode cX8_findPut 18 = .ok (.goto (-16), 3) := by decide +kernel
theorem dX8_findPut_21 : decode cX8_findPut 21 = .ok (.aload_n 0, 1) := by decide +kernel
theorem dX8_findPut_22 : decode cX8_findPut 22 = .ok (.iconst 0, 1) := by decide +kernel
theorem dX8_findPut_23 : decode cX8_findPut 23 = .ok (.iconst (-1), 1) := by decide +kernel
theorem dX8_findPut_24 : decode cX8_findPut 24 = .ok (.iconst (-1), 1) := by decide +kernel
theorem dX8_findPut_25 : decode cX8_findPut 25 = .ok (.iconst (-1), 1) := by decide +kernel
theorem dX8_findPut_26 : decode cX8_findPut 26 = .ok (.iconst (-1), 1) := by decide +kernel
theorem dX8_findPut_27 : decode cX8_findPut 27 = .ok (.invokevirtual 210, 3) := by decide +kernel
theorem dX8_findPut_30 : decode cX8_findPut 30 = .ok (.iconst 0, 1) := by decide +kernel
theorem dX8_findPut_31 : decode cX8_findPut 31 = .ok (.istore_n 1, 1) := by decide +kernel
theorem dX8_findPut_32 : decode cX8_findPut 32 = .ok (.iload_n 1, 1) := by decide +kernel
theorem dX8_findPut_33 : decode cX8_findPut 33 = .ok (.aload_n 0, 1) := by decide +kernel
theorem dX8_findPut_34 : decode cX8_findPut 34 = .ok (.getfield 28, 3) := by decide +kernel
theorem dX8_findPut_37 : decode cX8_findPut 37 = .ok (.iconst 0, 1) := by decide +kernel
theorem dX8_findPut_38 : decode cX8_findPut 38 = .ok (.iaload, 1) := by decide +kernel
theorem dX8_findPut_39 : decode cX8_findPut 39 = .ok (.if_icmp .gt 45, 3) := by decide +kernel
theorem dX8_findPut_42 : decode cX8_findPut 42 = .ok (.aload_n 0, 1) := by decide +kernel
theorem dX8_findPut_43 : decode cX8_findPut 43 = .ok (.getfield 61, 3) := by decide +kernel
theorem dX8_findPut_46 : decode cX8_findPut 46 = .ok (.iconst 0, 1) := by decide +kernel
theorem dX8_findPut_47 : decode cX8_findPut 47 = .ok (.iaload, 1) := by decide +kernel
theorem dX8_findPut_48 : decode cX8_findPut 48 = .ok (.ifCond .eq 36, 3) := by decide +kernel
theorem dX8_findPut_51 : decode cX8_findPut 51 = .ok (.iconst 0, 1) := by decide +kernel
theorem dX8_findPut_52 : decode cX8_findPut 52 = .ok (.istore_n 2, 1) := by decide +kernel
theorem dX8_findPut_53 : decode cX8_findPut 53 = .ok (.iload_n 2, 1) := by decide +kernel
theorem dX8_findPut_54 : decode cX8_findPut 54 = .ok (.aload_n 0, 1) := by decide +kernel
theorem dX8_findPut_55 : decode cX8_findPut 55 = .ok (.getfield 28, 3) := by decide +kernel
theorem dX8_findPut_58 : decode cX8_findPut 58 = .ok (.iconst 1, 1) := by decide +kernel
theorem dX8_findPut_59 : decode cX8_findPut 59 = .ok (.iaload, 1) := by decide +kernel
theorem dX8_findPut_60 : decode cX8_findPut 60 = .ok (.if_icmp .ge 18, 3) := by decide +kernel
theorem dX8_findPut_63 : decode cX8_findPut 63 = .ok (.aload_n 0, 1) := by decide +kernel
theorem dX8_findPut_64 : decode cX8_findPut 64 = .ok (.iconst 1, 1) := by decide +kernel
theorem dX8_findPut_65 : decode cX8_findPut 65 = .ok (.iload_n 1, 1) := by decide +kernel
theorem dX8_findPut_66 : decode cX8_findPut 66 = .ok (.iload_n 2, 1) := by decide +kernel
theorem dX8_findPut_67 : decode cX8_findPut 67 = .ok (.iconst (-1), 1) := by decide +kernel
theorem dX8_findPut_68 : decode cX8_findPut 68 = .ok (.iconst (-1), 1) := by decide +kernel
theorem dX8_findPut_69 : decode cX8_findPut 69 = .ok (.invokevirtual 210, 3) := by decide +kernel
theorem dX8_findPut_72 : decode cX8_findPut 72 = .ok (.iinc 2 1, 3) := by decide +kernel
theorem dX8_findPut_75 : decode cX8_findPut 75 = .ok (.goto (-22), 3) := by decide +kernel
theorem dX8_findPut_78 : decode cX8_findPut 78 = .ok (.iinc 1 1, 3) := by decide +kernel
theorem dX8_findPut_81 : decode cX8_findPut 81 = .ok (.goto (-49), 3) := by decide +kernel
theorem dX8_findPut_84 : decode cX8_findPut 84 = .ok (.aload_n 0, 1) := by decide +kernel
theorem dX8_findPut_85 : decode cX8_findPut 85 = .ok (.getfield 61, 3) := by decide +kernel
theorem dX8_findPut_88 : decode cX8_findPut 88 = .ok (.iconst 0, 1) := by decide +kernel
theorem dX8_findPut_89 : decode cX8_findPut 89 = .ok (.iaload, 1) := by decide +kernel
theorem dX8_findPut_90 : decode cX8_findPut 90 = .ok (.iconst (-1), 1) := by decide +kernel
theorem dX8_findPut_91 : decode cX8_findPut 91 = .ok (.if_icmp .ne 7, 3) := by decide +kernel
theorem dX8_findPut_94 : decode cX8_findPut 94 = .ok (.iconst 1, 1) := by decide +kernel
theorem dX8_findPut_95 : decode cX8_findPut 95 = .ok (.goto 4, 3) := by decide +kernel
theorem dX8_findPut_98 : decode cX8_findPut 98 = .ok (.iconst 0, 1) := by decide +kernel
theorem dX8_findPut_99 : decode cX8_findPut 99 = .ok (.istore_n 1, 1) := by decide +kernel
theorem dX8_findPut_100 : decode cX8_findPut 100 = .ok (.iconst 0, 1) := by decide +kernel
theorem dX8_findPut_101 : decode cX8_findPut 101 = .ok (.istore_n 2, 1) := by decide +kernel
theorem dX8_findPut_102 : decode cX8_findPut 102 = .ok (.iload_n 2, 1) := by decide +kernel
theorem dX8_findPut_103 : decode cX8_findPut 103 = .ok (.aload_n 0, 1) := by decide +kernel
theorem dX8_findPut_104 : decode cX8_findPut 104 = .ok (.getfield 28, 3) := by decide +kernel
theorem dX8_findPut_107 : decode cX8_findPut 107 = .ok (.iconst 0, 1) := by decide +kernel
theorem dX8_findPut_108 : decode cX8_findPut 108 = .ok (.iaload, 1) := by decide +kernel
theorem dX8_findPut_109 : decode cX8_findPut 109 = .ok (.if_icmp .gt 83, 3) := by decide +kernel
theorem dX8_findPut_112 : decode cX8_findPut 112 = .ok (.iload_n 1, 1) := by decide +kernel
theorem dX8_findPut_113 : decode cX8_findPut 113 = .ok (.ifCond .eq 79, 3) := by decide +kernel
theorem dX8_findPut_116 : decode cX8_findPut 116 = .ok (.iload_n 2, 1) := by decide +kernel
theorem dX8_findPut_117 : decode cX8_findPut 117 = .ok (.istore_n 3, 1) := by decide +kernel
theorem dX8_findPut_118 : decode cX8_findPut 118 = .ok (.iload_n 3, 1) := by decide +kernel
theorem dX8_findPut_119 : decode cX8_findPut 119 = .ok (.aload_n 0, 1) := by decide +kernel
theorem dX8_findPut_120 : decode cX8_findPut 120 = .ok (.getfield 28, 3) := by decide +kernel
theorem dX8_findPut_123 : decode cX8_findPut 123 = .ok (.iconst 0, 1) := by decide +kernel
theorem dX8_findPut_124 : decode cX8_findPut 124 = .ok (.iaload, 1) := by decide +kernel
theorem dX8_findPut_125 : decode cX8_findPut 125 = .ok (.if_icmp .gt 61, 3) := by decide +kernel
theorem dX8_findPut_128 : decode cX8_findPut 128 = .ok (.iconst 0, 1) := by decide +kernel
theorem dX8_findPut_129 : decode cX8_findPut 129 = .ok (.istore 4, 2) := by decide +kernel
theorem dX8_findPut_131 : decode cX8_findPut 131 = .ok (.iload 4, 2) := by decide +kernel
theorem dX8_findPut_133 : decode cX8_findPut 133 = .ok (.aload_n 0, 1) := by decide +kernel
theorem dX8_findPut_134 : decode cX8_findPut 134 = .ok (.getfield 28, 3) := by decide +kernel
theorem dX8_findPut_137 : decode cX8_findPut 137 = .ok (.iconst 1, 1) := by decide +kernel
theorem dX8_findPut_138 : decode cX8_findPut 138 = .ok (.iaload, 1) := by decide +kernel
theorem dX8_findPut_139 : decode cX8_findPut 139 = .ok (.aload_n 0, 1) := by decide +kernel
theorem dX8_findPut_140 : decode cX8_findPut 140 = .ok (.getfield 28, 3) := by decide +kernel
theorem dX8_findPut_143 : decode cX8_findPut 143 = .ok (.iconst 1, 1) := by decide +kernel
theorem dX8_findPut_144 : decode cX8_findPut 144 = .ok (.iaload, 1) := by decide +kernel
theorem dX8_findPut_145 : decode cX8_findPut 145 = .ok (.imul, 1) := by decide +kernel
theorem dX8_findPut_146 : decode cX8_findPut 146 = .ok (.if_icmp .ge 34, 3) := by decide +kernel
theorem dX8_findPut_149 : decode cX8_findPut 149 = .ok (.aload_n 0, 1) := by decide +kernel
theorem dX8_findPut_150 : decode cX8_findPut 150 = .ok (.iconst 2, 1) := by decide +kernel
theorem dX8_findPut_151 : decode cX8_findPut 151 = .ok (.iload_n 2, 1) := by decide +kernel
theorem dX8_findPut_152 : decode cX8_findPut 152 = .ok (.iload 4, 2) := by decide +kernel
theorem dX8_findPut_154 : decode cX8_findPut 154 = .ok (.aload_n 0, 1) := by decide +kernel
theorem dX8_findPut_155 : decode cX8_findPut 155 = .ok (.getfield 28, 3) := by decide +kernel
theorem dX8_findPut_158 : decode cX8_findPut 158 = .ok (.iconst 1, 1) := by decide +kernel
theorem dX8_findPut_159 : decode cX8_findPut 159 = .ok (.iaload, 1) := by decide +kernel
theorem dX8_findPut_160 : decode cX8_findPut 160 = .ok (.idiv, 1) := by decide +kernel
theorem dX8_findPut_161 : decode cX8_findPut 161 = .ok (.iload_n 3, 1) := by decide +kernel
theorem dX8_findPut_162 : decode cX8_findPut 162 = .ok (.iload 4, 2) := by decide +kernel
theorem dX8_findPut_164 : decode cX8_findPut 164 = .ok (.aload_n 0, 1) := by decide +kernel
theorem dX8_findPut_165 : decode cX8_findPut 165 = .ok (.getfield 28, 3) := by decide +kernel
theorem dX8_findPut_168 : decode cX8_findPut 168 = .ok (.iconst 1, 1) := by decide +kernel
theorem dX8_findPut_169 : decode cX8_findPut 169 = .ok (.iaload, 1) := by decide +kernel
theorem dX8_findPut_170 : decode cX8_findPut 170 = .ok (.irem, 1) := by decide +kernel
theorem dX8_findPut_171 : decode cX8_findPut 171 = .ok (.invokevirtual 210, 3) := by decide +kernel
theorem dX8_findPut_174 : decode cX8_findPut 174 = .ok (.iinc 4 1, 3) := by decide +kernel
theorem dX8_findPut_177 : decode cX8_findPut 177 = .ok (.goto (-46), 3) := by decide +kernel
theorem dX8_findPut_180 : decode cX8_findPut 180 = .ok (.iinc 3 1, 3) := by decide +kernel
theorem dX8_findPut_183 : decode cX8_findPut 183 = .ok (.goto (-65), 3) := by decide +kernel
theorem dX8_findPut_186 : decode cX8_findPut 186 = .ok (.iinc 2 1, 3) := by decide +kernel
theorem dX8_findPut_189 : decode cX8_findPut 189 = .ok (.goto (-87), 3) := by decide +kernel
theorem dX8_findPut_192 : decode cX8_findPut 192 = .ok (.return_, 1) := by decide +kernel
theorem dX8_put_0 : decode cX8_put 0 = .ok (.iload_n 1, 1) := by decide +kernel
theorem dX8_put_1 : decode cX8_put 1 = .ok (.i2l, 1) := by decide +kernel
theorem dX8_put_2 : decode cX8_put 2 = .ok (.lconst 0, 1) := by decide +kernel
theorem dX8_put_3 : decode cX8_put 3 = .ok (.ldc2_w 123, 3) := by decide +kernel
theorem dX8_put_6 : decode cX8_put 6 = .ok (.invokestatic 72, 3) := by decide +kernel
theorem dX8_put_9 : decode cX8_put 9 = .ok (.ifCond .ne 6, 3) := by decide +kernel
theorem dX8_put_12 : decode cX8_put 12 = .ok (.bipush (-2), 2) := by decide +kernel
theorem dX8_put_14 : decode cX8_put 14 = .ok (.ireturn, 1) := by decide +kernel
theorem dX8_put_15 : decode cX8_put 15 = .ok (.aload_n 0, 1) := by decide +kernel
theorem dX8_put_16 : decode cX8_put 16 = .ok (.invokevirtual 162, 3) := by decide +kernel
theorem dX8_put_19 : decode cX8_put 19 = .ok (.aload_n 0, 1) := by decide +kernel
theorem dX8_put_20 : decode cX8_put 20 = .ok (.invokevirtual 214, 3) := by decide +kernel
theorem dX8_put_23 : decode cX8_put 23 = .ok (.aload_n 0, 1) := by decide +kernel
theorem dX8_put_24 : decode cX8_put 24 = .ok (.getfield 61, 3) := by decide +kernel
theorem dX8_put_27 : decode cX8_put 27 = .ok (.iload_n 1, 1) := by decide +kernel
theorem dX8_put_28 : decode cX8_put 28 = .ok (.iaload, 1) := by decide +kernel
theorem dX8_put_29 : decode cX8_put 29 = .ok (.ireturn, 1) := by decide +kernel
theorem dX8_unfolds_0 : decode cX8_unfolds 0 = .ok (.iload_n 2, 1) := by decide +kernel
theorem dX8_unfolds_1 : decode cX8_unfolds 1 = .ok (.istore_n 3, 1) := by decide +kernel
theorem dX8_unfolds_2 : decode cX8_unfolds 2 = .ok (.iload_n 1, 1) := by decide +kernel
theorem dX8_unfolds_3 : decode cX8_unfolds 3 = .ok (.iconst 1, 1) := by decide +kernel
theorem dX8_unfolds_4 : decode cX8_unfolds 4 = .ok (.isub, 1) := by decide +kernel
theorem dX8_unfolds_5 : decode cX8_unfolds 5 = .ok (.istore 4, 2) := by decide +kernel
theorem dX8_unfolds_7 : decode cX8_unfolds 7 = .ok (.iload 4, 2) := by decide +kernel
theorem dX8_unfolds_9 : decode cX8_unfolds 9 = .ok (.ifCond .lt 29, 3) := by decide +kernel
theorem dX8_unfolds_12 : decode cX8_unfolds 12 = .ok (.aload_n 0, 1) := by decide +kernel
theorem dX8_unfolds_13 : decode cX8_unfolds 13 = .ok (.getfield 37, 3) := by decide +kernel
theorem dX8_unfolds_16 : decode cX8_unfolds 16 = .ok (.iload 4, 2) := by decide +kernel
theorem dX8_unfolds_18 : decode cX8_unfolds 18 = .ok (.iload_n 3, 1) := by decide +kernel
theorem dX8_unfolds_19 : decode cX8_unfolds 19 = .ok (.iload_n 1, 1) := by decide +kernel
theorem dX8_unfolds_20 : decode cX8_unfolds 20 = .ok (.iload 4, 2) := by decide +kernel
theorem dX8_unfolds_22 : decode cX8_unfolds 22 = .ok (.isub, 1) := by decide +kernel
theorem dX8_unfolds_23 : decode cX8_unfolds 23 = .ok (.irem, 1) := by decide +kernel
theorem dX8_unfolds_24 : decode cX8_unfolds 24 = .ok (.iastore, 1) := by decide +kernel
theorem dX8_unfolds_25 : decode cX8_unfolds 25 = .ok (.iload_n 3, 1) := by decide +kernel
theorem dX8_unfolds_26 : decode cX8_unfolds 26 = .ok (.iload_n 1, 1) := by decide +kernel
theorem dX8_unfolds_27 : decode cX8_unfolds 27 = .ok (.iload 4, 2) := by decide +kernel
theorem dX8_unfolds_29 : decode cX8_unfolds 29 = .ok (.isub, 1) := by decide +kernel
theorem dX8_unfolds_30 : decode cX8_unfolds 30 = .ok (.idiv, 1) := by decide +kernel
theorem dX8_unfolds_31 : decode cX8_unfolds 31 = .ok (.istore_n 3, 1) := by decide +kernel
theorem dX8_unfolds_32 : decode cX8_unfolds 32 = .ok (.iinc 4 (-1), 3) := by decide +kernel
theorem dX8_unfolds_35 : decode cX8_unfolds 35 = .ok (.goto (-28), 3) := by decide +kernel
theorem dX8_unfolds_38 : decode cX8_unfolds 38 = .ok (.iload_n 1, 1) := by decide +kernel
theorem dX8_unfolds_39 : decode cX8_unfolds 39 = .ok (.iconst 1, 1) := by decide +kernel
theorem dX8_unfolds_40 : decode cX8_unfolds 40 = .ok (.isub, 1) := by decide +kernel
theorem dX8_unfolds_41 : decode cX8_unfolds 41 = .ok (.istore 4, 2) := by decide +kernel
theorem dX8_unfolds_43 : decode cX8_unfolds 43 = .ok (.iload 4, 2) := by decide +kernel
theorem dX8_unfolds_45 : decode cX8_unfolds 45 = .ok (.ifCond .lt 59, 3) := by decide +kernel
theorem dX8_unfolds_48 : decode cX8_unfolds 48 = .ok (.iload 4, 2) := by decide +kernel
theorem dX8_unfolds_50 : decode cX8_unfolds 50 = .ok (.iconst 1, 1) := by decide +kernel
theorem dX8_unfolds_51 : decode cX8_unfolds 51 = .ok (.iadd, 1) := by decide +kernel
theorem dX8_unfolds_52 : decode cX8_unfolds 52 = .ok (.istore 5, 2) := by decide +kernel
theorem dX8_unfolds_54 : decode cX8_unfolds 54 = .ok (.iload 5, 2) := by decide +kernel
theorem dX8_unfolds_56 : decode cX8_unfolds 56 = .ok (.iload_n 1, 1) := by decide +kernel
theorem dX8_unfolds_57 : decode cX8_unfolds 57 = .ok (.if_icmp .ge 41, 3) := by decide +kernel
theorem dX8_unfolds_60 : decode cX8_unfolds 60 = .ok (.aload_n 0, 1) := by decide +kernel
theorem dX8_unfolds_61 : decode cX8_unfolds 61 = .ok (.getfield 37, 3) := by decide +kernel
theorem dX8_unfolds_64 : decode cX8_unfolds 64 = .ok (.iload 5, 2) := by decide +kernel
theorem dX8_unfolds_66 : decode cX8_unfolds 66 = .ok (.dup2, 1) := by decide +kernel
theorem dX8_unfolds_67 : decode cX8_unfolds 67 = .ok (.iaload, 1) := by decide +kernel
theorem dX8_unfolds_68 : decode cX8_unfolds 68 = .ok (.aload_n 0, 1) := by decide +kernel
theorem dX8_unfolds_69 : decode cX8_unfolds 69 = .ok (.getfield 37, 3) := by decide +kernel
theorem dX8_unfolds_72 : decode cX8_unfolds 72 = .ok (.iload 5, 2) := by decide +kernel
theorem dX8_unfolds_74 : decode cX8_unfolds 74 = .ok (.iaload, 1) := by decide +kernel
theorem dX8_unfolds_75 : decode cX8_unfolds 75 = .ok (.aload_n 0, 1) := by decide +kernel
theorem dX8_unfolds_76 : decode cX8_unfolds 76 = .ok (.getfield 37, 3) := by decide +kernel
theorem dX8_unfolds_79 : decode cX8_unfolds 79 = .ok (.iload 4, 2) := by decide +kernel
theorem dX8_unfolds_81 : decode cX8_unfolds 81 = .ok (.iaload, 1) := by decide +kernel
theorem dX8_unfolds_82 : decode cX8_unfolds 82 = .ok (.if_icmp .lt 7, 3) := by decide +kernel
theorem dX8_unfolds_85 : decode cX8_unfolds 85 = .ok (.iconst 1, 1) := by decide +kernel
theorem dX8_unfolds_86 : decode cX8_unfolds 86 = .ok (.goto 4, 3) := by decide +kernel
theorem dX8_unfolds_89 : decode cX8_unfolds 89 = .ok (.iconst 0, 1) := by decide +kernel
theorem dX8_unfolds_90 : decode cX8_unfolds 90 = .ok (.iadd, 1) := by decide +kernel
theorem dX8_unfolds_91 : decode cX8_unfolds 91 = .ok (.iastore, 1) := by decide +kernel
theorem dX8_unfolds_92 : decode cX8_unfolds 92 = .ok (.iinc 5 1, 3) := by decide +kernel
theorem dX8_unfolds_95 : decode cX8_unfolds 95 = .ok (.goto (-41), 3) := by decide +kernel
theorem dX8_unfolds_98 : decode cX8_unfolds 98 = .ok (.iinc 4 (-1), 3) := by decide +kernel
theorem dX8_unfolds_101 : decode cX8_unfolds 101 = .ok (.goto (-58), 3) := by decide +kernel
theorem dX8_unfolds_104 : decode cX8_unfolds 104 = .ok (.return_, 1) := by decide +kernel
theorem dX8_findOrder_0 : decode cX8_findOrder 0 = .ok (.aload_n 0, 1) := by decide +kernel
theorem dX8_findOrder_1 : decode cX8_findOrder 1 = .ok (.getfield 28, 3) := by decide +kernel
theorem dX8_findOrder_4 : decode cX8_findOrder 4 = .ok (.iconst 0, 1) := by decide +kernel
theorem dX8_findOrder_5 : decode cX8_findOrder 5 = .ok (.iaload, 1) := by decide +kernel
theorem dX8_findOrder_6 : decode cX8_findOrder 6 = .ok (.bipush 7, 2) := by decide +kernel
theorem dX8_findOrder_8 : decode cX8_findOrder 8 = .ok (.invokestatic 217, 3) := by decide +kernel
theorem dX8_findOrder_11 : decode cX8_findOrder 11 = .ok (.istore_n 1, 1) := by decide +kernel
theorem dX8_findOrder_12 : decode cX8_findOrder 12 = .ok (.iconst 1, 1) := by decide +kernel
theorem dX8_findOrder_13 : decode cX8_findOrder 13 = .ok (.istore_n 2, 1) := by decide +kernel
theorem dX8_findOrder_14 : decode cX8_findOrder 14 = .ok (.iconst 2, 1) := by decide +kernel
theorem dX8_findOrder_15 : decode cX8_findOrder 15 = .ok (.istore_n 3, 1) := by decide +kernel
theorem dX8_findOrder_16 : decode cX8_findOrder 16 = .ok (.iload_n 3, 1) := by decide +kernel
theorem dX8_findOrder_17 : decode cX8_findOrder 17 = .ok (.iload_n 1, 1) := by decide +kernel
theorem dX8_findOrder_18 : decode cX8_findOrder 18 = .ok (.if_icmp .gt 13, 3) := by decide +kernel
theorem dX8_findOrder_21 : decode cX8_findOrder 21 = .ok (.iload_n 2, 1) := by decide +kernel
theorem dX8_findOrder_22 : decode cX8_findOrder 22 = .ok (.iload_n 3, 1) := by decide +kernel
theorem dX8_findOrder_23 : decode cX8_findOrder 23 = .ok (.imul, 1) := by decide +kernel
theorem dX8_findOrder_24 : decode cX8_findOrder 24 = .ok (.istore_n 2, 1) := by decide +kernel
theorem dX8_findOrder_25 : decode cX8_findOrder 25 = .ok (.iinc 3 1, 3) := by decide +kernel
theorem dX8_findOrder_28 : decode cX8_findOrder 28 = .ok (.goto (-12), 3) := by decide +kernel
theorem dX8_findOrder_31 : decode cX8_findOrder 31 = .ok (.aload_n 0, 1) := by decide +kernel
theorem dX8_findOrder_32 : decode cX8_findOrder 32 = .ok (.iconst (-1), 1) := by decide +kernel
theorem dX8_findOrder_33 : decode cX8_findOrder 33 = .ok (.putfield 220, 3) := by decide +kernel
theorem dX8_findOrder_36 : decode cX8_findOrder 36 = .ok (.aload_n 0, 1) := by decide +kernel
theorem dX8_findOrder_37 : decode cX8_findOrder 37 = .ok (.iconst 0, 1) := by decide +kernel
theorem dX8_findOrder_38 : decode cX8_findOrder 38 = .ok (.putfield 223, 3) := by decide +kernel
theorem dX8_findOrder_41 : decode cX8_findOrder 41 = .ok (.iconst 0, 1) := by decide +kernel
theorem dX8_findOrder_42 : decode cX8_findOrder 42 = .ok (.istore_n 3, 1) := by decide +kernel
theorem dX8_findOrder_43 : decode cX8_findOrder 43 = .ok (.iload_n 3, 1) := by decide +kernel
theorem dX8_findOrder_44 : decode cX8_findOrder 44 = .ok (.iload_n 2, 1) := by decide +kernel
theorem dX8_findOrder_45 : decode cX8_findOrder 45 = .ok (.if_icmp .ge 131, 3) := by decide +kernel
theorem dX8_findOrder_48 : decode cX8_findOrder 48 = .ok (.aload_n 0, 1) := by decide +kernel
theorem dX8_findOrder_49 : decode cX8_findOrder 49 = .ok (.iload_n 1, 1) := by decide +kernel
theorem dX8_findOrder_50 : decode cX8_findOrder 50 = .ok (.iload_n 3, 1) := by decide +kernel
theorem dX8_findOrder_51 : decode cX8_findOrder 51 = .ok (.invokevirtual 226, 3) := by decide +kernel
theorem dX8_findOrder_54 : decode cX8_findOrder 54 = .ok (.aload_n 0, 1) := by decide +kernel
theorem dX8_findOrder_55 : decode cX8_findOrder 55 = .ok (.iload_n 1, 1) := by decide +kernel
theorem dX8_findOrder_56 : decode cX8_findOrder 56 = .ok (.putfield 128, 3) := by decide +kernel
theorem dX8_findOrder_59 : decode cX8_findOrder 59 = .ok (.aload_n 0, 1) := by decide +kernel
theorem dX8_findOrder_60 : decode cX8_findOrder 60 = .ok (.aload_n 0, 1) := by decide +kernel
theorem dX8_findOrder_61 : decode cX8_findOrder 61 = .ok (.getfield 34, 3) := by decide +kernel
theorem dX8_findOrder_64 : decode cX8_findOrder 64 = .ok (.iconst 0, 1) := by decide +kernel
theorem dX8_findOrder_65 : decode cX8_findOrder 65 = .ok (.iaload, 1) := by decide +kernel
theorem dX8_findOrder_66 : decode cX8_findOrder 66 = .ok (.iconst 0, 1) := by decide +kernel
theorem dX8_findOrder_67 : decode cX8_findOrder 67 = .ok (.bipush 99, 2) := by decide +kernel
theorem dX8_findOrder_69 : decode cX8_findOrder 69 = .ok (.invokevirtual 158, 3) := by decide +kernel
theorem dX8_findOrder_72 : decode cX8_findOrder 72 = .ok (.aload_n 0, 1) := by decide +kernel
theorem dX8_findOrder_73 : decode cX8_findOrder 73 = .ok (.getfield 143, 3) := by decide +kernel
theorem dX8_findOrder_76 : decode cX8_findOrder 76 = .ok (.aload_n 0, 1) := by decide +kernel
theorem dX8_findOrder_77 : decode cX8_findOrder 77 = .ok (.getfield 220, 3) := by decide +kernel
theorem dX8_findOrder_80 : decode cX8_findOrder 80 = .ok (.if_icmp .lt 25, 3) := by decide +kernel
theorem dX8_findOrder_83 : decode cX8_findOrder 83 = .ok (.aload_n 0, 1) := by decide +kernel
theorem dX8_findOrder_84 : decode cX8_findOrder 84 = .ok (.getfield 143, 3) := by decide +kernel
theorem dX8_findOrder_87 : decode cX8_findOrder 87 = .ok (.aload_n 0, 1) := by decide +kernel
theorem dX8_findOrder_88 : decode cX8_findOrder 88 = .ok (.getfield 220, 3) := by decide +kernel
theorem dX8_findOrder_91 : decode cX8_findOrder 91 = .ok (.if_icmp .ne 18, 3) := by decide +kernel
theorem dX8_findOrder_94 : decode cX8_findOrder 94 = .ok (.aload_n 0, 1) := by decide +kernel
theorem dX8_findOrder_95 : decode cX8_findOrder 95 = .ok (.getfield 140, 3) := by decide +kernel
theorem dX8_findOrder_98 : decode cX8_findOrder 98 = .ok (.aload_n 0, 1) := by decide +kernel
theorem dX8_findOrder_99 : decode cX8_findOrder 99 = .ok (.getfield 223, 3) := by decide +kernel
theorem dX8_findOrder_102 : decode cX8_findOrder 102 = .ok (.if_icmp .ge 7, 3) := by decide +kernel
theorem dX8_findOrder_105 : decode cX8_findOrder 105 = .ok (.iconst 1, 1) := by decide +kernel
theorem dX8_findOrder_106 : decode cX8_findOrder 106 = .ok (.goto 4, 3) := by decide +kernel
theorem dX8_findOrder_109 : decode cX8_findOrder 109 = .ok (.iconst 0, 1) := by decide +kernel
theorem dX8_findOrder_110 : decode cX8_findOrder 110 = .ok (.istore 4, 2) := by decide +kernel
theorem dX8_findOrder_112 : decode cX8_findOrder 112 = .ok (.aload_n 0, 1) := by decide +kernel
theorem dX8_findOrder_113 : decode cX8_findOrder 113 = .ok (.getfield 220, 3) := by decide +kernel
theorem dX8_findOrder_116 : decode cX8_findOrder 116 = .ok (.iconst (-1), 1) := by decide +kernel
theorem dX8_findOrder_117 : decode cX8_findOrder 117 = .ok (.if_icmp .eq 8, 3) := by decide +kernel
theorem dX8_findOrder_120 : decode cX8_findOrder 120 = .ok (.iload 4, 2) := by decide +kernel
theorem dX8_findOrder_122 : decode cX8_findOrder 122 = .ok (.ifCond .eq 48, 3) := by decide +kernel
theorem dX8_findOrder_125 : decode cX8_findOrder 125 = .ok (.aload_n 0, 1) := by decide +kernel
theorem dX8_findOrder_126 : decode cX8_findOrder 126 = .ok (.aload_n 0, 1) := by decide +kernel
theorem dX8_findOrder_127 : decode cX8_findOrder 127 = .ok (.getfield 143, 3) := by decide +kernel
theorem dX8_findOrder_130 : decode cX8_findOrder 130 = .ok (.putfield 220, 3) := by decide +kernel
theorem dX8_findOrder_133 : decode cX8_findOrder 133 = .ok (.aload_n 0, 1) := by decide +kernel
theorem dX8_findOrder_134 : decode cX8_findOrder 134 = .ok (.aload_n 0, 1) := by decide +kernel
theorem dX8_findOrder_135 : decode cX8_findOrder 135 = .ok (.getfield 140, 3) := by decide +kernel
theorem dX8_findOrder_138 : decode cX8_findOrder 138 = .ok (.putfield 223, 3) := by decide +kernel
theorem dX8_findOrder_141 : decode cX8_findOrder 141 = .ok (.iconst 0, 1) := by decide +kernel
theorem dX8_findOrder_142 : decode cX8_findOrder 142 = .ok (.istore 5, 2) := by decide +kernel
theorem dX8_findOrder_144 : decode cX8_findOrder 144 = .ok (.iload 5, 2) := by decide +kernel
theorem dX8_findOrder_146 : decode cX8_findOrder 146 = .ok (.iload_n 1, 1) := by decide +kernel
theorem dX8_findOrder_147 : decode cX8_findOrder 147 = .ok (.if_icmp .ge 23, 3) := by decide +kernel
theorem dX8_findOrder_150 : decode cX8_findOrder 150 = .ok (.aload_n 0, 1) := by decide +kernel
theorem dX8_findOrder_151 : decode cX8_findOrder 151 = .ok (.getfield 64, 3) := by decide +kernel
theorem dX8_findOrder_154 : decode cX8_findOrder 154 = .ok (.iload 5, 2) := by decide +kernel
theorem dX8_findOrder_156 : decode cX8_findOrder 156 = .ok (.aload_n 0, 1) := by decide +kernel
theorem dX8_findOrder_157 : decode cX8_findOrder 157 = .ok (.getfield 37, 3) := by decide +kernel
theorem dX8_findOrder_160 : decode cX8_findOrder 160 = .ok (.iload 5, 2) := by decide +kernel
theorem dX8_findOrder_162 : decode cX8_findOrder 162 = .ok (.iaload, 1) := by decide +kernel
theorem dX8_findOrder_163 : decode cX8_findOrder 163 = .ok (.iastore, 1) := by decide +kernel
theorem dX8_findOrder_164 : decode cX8_findOrder 164 = .ok (.iinc 5 1, 3) := by decide +kernel
theorem dX8_findOrder_167 : decode cX8_findOrder 167 = .ok (.goto (-23), 3) := by decide +kernel
theorem dX8_findOrder_170 : decode cX8_findOrder 170 = .ok (.iinc 3 1, 3) := by decide +kernel
theorem dX8_findOrder_173 : decode cX8_findOrder 173 = .ok (.goto (-130), 3) := by decide +kernel
theorem dX8_findOrder_176 : decode cX8_findOrder 176 = .ok (.return_, 1) := by decide +kernel
theorem dX8_tellsOrder_0 : decode cX8_tellsOrder 0 = .ok (.iload_n 1, 1) := by decide +kernel
theorem dX8_tellsOrder_1 : decode cX8_tellsOrder 1 = .ok (.bipush (-2), 2) := by decide +kernel
theorem dX8_tellsOrder_3 : decode cX8_tellsOrder 3 = .ok (.if_icmp .ne 10, 3) := by decide +kernel
theorem dX8_tellsOrder_6 : decode cX8_tellsOrder 6 = .ok (.aload_n 0, 1) := by decide +kernel
theorem dX8_tellsOrder_7 : decode cX8_tellsOrder 7 = .ok (.getfield 220, 3) := by decide +kernel
theorem dX8_tellsOrder_10 : decode cX8_tellsOrder 10 = .ok (.goto 35, 3) := by decide +kernel
theorem dX8_tellsOrder_13 : decode cX8_tellsOrder 13 = .ok (.iload_n 1, 1) := by decide +kernel
theorem dX8_tellsOrder_14 : decode cX8_tellsOrder 14 = .ok (.iconst (-1), 1) := by decide +kernel
theorem dX8_tellsOrder_15 : decode cX8_tellsOrder 15 = .ok (.if_icmp .ne 10, 3) := by decide +kernel
theorem dX8_tellsOrder_18 : decode cX8_tellsOrder 18 = .ok (.aload_n 0, 1) := by decide +kernel
theorem dX8_tellsOrder_19 : decode cX8_tellsOrder 19 = .ok (.getfield 223, 3) := by decide +kernel
theorem dX8_tellsOrder_22 : decode cX8_tellsOrder 22 = .ok (.goto 23, 3) := by decide +kernel
theorem dX8_tellsOrder_25 : decode cX8_tellsOrder 25 = .ok (.iload_n 1, 1) := by decide +kernel
theorem dX8_tellsOrder_26 : decode cX8_tellsOrder 26 = .ok (.aload_n 0, 1) := by decide +kernel
theorem dX8_tellsOrder_27 : decode cX8_tellsOrder 27 = .ok (.getfield 28, 3) := by decide +kernel
theorem dX8_tellsOrder_30 : decode cX8_tellsOrder 30 = .ok (.iconst 0, 1) := by decide +kernel
theorem dX8_tellsOrder_31 : decode cX8_tellsOrder 31 = .ok (.iaload, 1) := by decide +kernel
theorem dX8_tellsOrder_32 : decode cX8_tellsOrder 32 = .ok (.if_icmp .ge 12, 3) := by decide +kernel
theorem dX8_tellsOrder_35 : decode cX8_tellsOrder 35 = .ok (.aload_n 0, 1) := by decide +kernel
theorem dX8_tellsOrder_36 : decode cX8_tellsOrder 36 = .ok (.getfield 64, 3) := by decide +kernel
theorem dX8_tellsOrder_39 : decode cX8_tellsOrder 39 = .ok (.iload_n 1, 1) := by decide +kernel
theorem dX8_tellsOrder_40 : decode cX8_tellsOrder 40 = .ok (.iaload, 1) := by decide +kernel
theorem dX8_tellsOrder_41 : decode cX8_tellsOrder 41 = .ok (.goto 4, 3) := by decide +kernel
theorem dX8_tellsOrder_44 : decode cX8_tellsOrder 44 = .ok (.iconst (-1), 1) := by decide +kernel
theorem dX8_tellsOrder_45 : decode cX8_tellsOrder 45 = .ok (.ireturn, 1) := by decide +kernel
theorem dX8_order_0 : decode cX8_order 0 = .ok (.iload_n 1, 1) := by decide +kernel
theorem dX8_order_1 : decode cX8_order 1 = .ok (.i2l, 1) := by decide +kernel
theorem dX8_order_2 : decode cX8_order 2 = .ok (.ldc2_w 230, 3) := by decide +kernel
theorem dX8_order_5 : decode cX8_order 5 = .ok (.ldc2_w 232, 3) := by decide +kernel
theorem dX8_order_8 : decode cX8_order 8 = .ok (.invokestatic 72, 3) := by decide +kernel
theorem dX8_order_11 : decode cX8_order 11 = .ok (.ifCond .ne 6, 3) := by decide +kernel
theorem dX8_order_14 : decode cX8_order 14 = .ok (.bipush (-2), 2) := by decide +kernel
theorem dX8_order_16 : decode cX8_order 16 = .ok (.ireturn, 1) := by decide +kernel
theorem dX8_order_17 : decode cX8_order 17 = .ok (.aload_n 0, 1) := by decide +kernel
theorem dX8_order_18 : decode cX8_order 18 = .ok (.invokevirtual 162, 3) := by decide +kernel
theorem dX8_order_21 : decode cX8_order 21 = .ok (.aload_n 0, 1) := by decide +kernel
theorem dX8_order_22 : decode cX8_order 22 = .ok (.invokevirtual 234, 3) := by decide +kernel
theorem dX8_order_25 : decode cX8_order 25 = .ok (.aload_n 0, 1) := by decide +kernel
theorem dX8_order_26 : decode cX8_order 26 = .ok (.iload_n 1, 1) := by decide +kernel
theorem dX8_order_27 : decode cX8_order 27 = .ok (.invokevirtual 237, 3) := by decide +kernel
theorem dX8_order_30 : decode cX8_order 30 = .ok (.ireturn, 1) := by decide +kernel
theorem dX8_leadNow_0 : decode cX8_leadNow 0 = .ok (.aload_n 0, 1) := by decide +kernel
theorem dX8_leadNow_1 : decode cX8_leadNow 1 = .ok (.invokevirtual 155, 3) := by decide +kernel
theorem dX8_leadNow_4 : decode cX8_leadNow 4 = .ok (.iconst 0, 1) := by decide +kernel
theorem dX8_leadNow_5 : decode cX8_leadNow 5 = .ok (.istore_n 1, 1) := by decide +kernel
theorem dX8_leadNow_6 : decode cX8_leadNow 6 = .ok (.iload_n 1, 1) := by decide +kernel
theorem dX8_leadNow_7 : decode cX8_leadNow 7 = .ok (.bipush 100, 2) := by decide +kernel
theorem dX8_leadNow_9 : decode cX8_leadNow 9 = .ok (.if_icmp .ge 46, 3) := by decide +kernel
theorem dX8_leadNow_12 : decode cX8_leadNow 12 = .ok (.aload_n 0, 1) := by decide +kernel
theorem dX8_leadNow_13 : decode cX8_leadNow 13 = .ok (.iload_n 1, 1) := by decide +kernel
theorem dX8_leadNow_14 : decode cX8_leadNow 14 = .ok (.aload_n 0, 1) := by decide +kernel
theorem dX8_leadNow_15 : decode cX8_leadNow 15 = .ok (.getfield 34, 3) := by decide +kernel
theorem dX8_leadNow_18 : decode cX8_leadNow 18 = .ok (.iconst 4, 1) := by decide +kernel
theorem dX8_leadNow_19 : decode cX8_leadNow 19 = .ok (.iaload, 1) := by decide +kernel
theorem dX8_leadNow_20 : decode cX8_leadNow 20 = .ok (.aload_n 0, 1) := by decide +kernel
theorem dX8_leadNow_21 : decode cX8_leadNow 21 = .ok (.getfield 34, 3) := by decide +kernel
theorem dX8_leadNow_24 : decode cX8_leadNow 24 = .ok (.iconst 3, 1) := by decide +kernel
theorem dX8_leadNow_25 : decode cX8_leadNow 25 = .ok (.iaload, 1) := by decide +kernel
theorem dX8_leadNow_26 : decode cX8_leadNow 26 = .ok (.invokevirtual 158, 3) := by decide +kernel
theorem dX8_leadNow_29 : decode cX8_leadNow 29 = .ok (.aload_n 0, 1) := by decide +kernel
theorem dX8_leadNow_30 : decode cX8_leadNow 30 = .ok (.getfield 143, 3) := by decide +kernel
theorem dX8_leadNow_33 : decode cX8_leadNow 33 = .ok (.ifCond .ne 16, 3) := by decide +kernel
theorem dX8_leadNow_36 : decode cX8_leadNow 36 = .ok (.aload_n 0, 1) := by decide +kernel
theorem dX8_leadNow_37 : decode cX8_leadNow 37 = .ok (.getfield 146, 3) := by decide +kernel
theorem dX8_leadNow_40 : decode cX8_leadNow 40 = .ok (.aload_n 0, 1) := by decide +kernel
theorem dX8_leadNow_41 : decode cX8_leadNow 41 = .ok (.getfield 128, 3) := by decide +kernel
theorem dX8_leadNow_44 : decode cX8_leadNow 44 = .ok (.if_icmp .ne 5, 3) := by decide +kernel
theorem dX8_leadNow_47 : decode cX8_leadNow 47 = .ok (.iload_n 1, 1) := by decide +kernel
theorem dX8_leadNow_48 : decode cX8_leadNow 48 = .ok (.ireturn, 1) := by decide +kernel
theorem dX8_leadNow_49 : decode cX8_leadNow 49 = .ok (.iinc 1 1, 3) := by decide +kernel
theorem dX8_leadNow_52 : decode cX8_leadNow 52 = .ok (.goto (-46), 3) := by decide +kernel
theorem dX8_leadNow_55 : decode cX8_leadNow 55 = .ok (.iconst (-1), 1) := by decide +kernel
theorem dX8_leadNow_56 : decode cX8_leadNow 56 = .ok (.ireturn, 1) := by decide +kernel
theorem dX8_lead_0 : decode cX8_lead 0 = .ok (.aload_n 0, 1) := by decide +kernel
theorem dX8_lead_1 : decode cX8_lead 1 = .ok (.invokevirtual 162, 3) := by decide +kernel
theorem dX8_lead_4 : decode cX8_lead 4 = .ok (.aload_n 0, 1) := by decide +kernel
theorem dX8_lead_5 : decode cX8_lead 5 = .ok (.invokevirtual 240, 3) := by decide +kernel
theorem dX8_lead_8 : decode cX8_lead 8 = .ok (.ireturn, 1) := by decide +kernel
theorem dX8_part_0 : decode cX8_part 0 = .ok (.lload_n 0, 1) := by decide +kernel
theorem dX8_part_1 : decode cX8_part 1 = .ok (.lstore 5, 2) := by decide +kernel
theorem dX8_part_3 : decode cX8_part 3 = .ok (.lload_n 2, 1) := by decide +kernel
theorem dX8_part_4 : decode cX8_part 4 = .ok (.lstore 7, 2) := by decide +kernel
theorem dX8_part_6 : decode cX8_part 6 = .ok (.lload 7, 2) := by decide +kernel
theorem dX8_part_8 : decode cX8_part 8 = .ok (.lconst 0, 1) := by decide +kernel
theorem dX8_part_9 : decode cX8_part 9 = .ok (.lcmp, 1) := by decide +kernel
theorem dX8_part_10 : decode cX8_part 10 = .ok (.ifCond .eq 21, 3) := by decide +kernel
theorem dX8_part_13 : decode cX8_part 13 = .ok (.lload 5, 2) := by decide +kernel
theorem dX8_part_15 : decode cX8_part 15 = .ok (.lload 7, 2) := by decide +kernel
theorem dX8_part_17 : decode cX8_part 17 = .ok (.lrem, 1) := by decide +kernel
theorem dX8_part_18 : decode cX8_part 18 = .ok (.lstore 9, 2) := by decide +kernel
theorem dX8_part_20 : decode cX8_part 20 = .ok (.lload 7, 2) := by decide +kernel
theorem dX8_part_22 : decode cX8_part 22 = .ok (.lstore 5, 2) := by decide +kernel
theorem dX8_part_24 : decode cX8_part 24 = .ok (.lload 9, 2) := by decide +kernel
theorem dX8_part_26 : decode cX8_part 26 = .ok (.lstore 7, 2) := by decide +kernel
theorem dX8_part_28 : decode cX8_part 28 = .ok (.goto (-22), 3) := by decide +kernel
theorem dX8_part_31 : decode cX8_part 31 = .ok (.iload 4, 2) := by decide +kernel
theorem dX8_part_33 : decode cX8_part 33 = .ok (.ifCond .ne 7, 3) := by decide +kernel
theorem dX8_part_36 : decode cX8_part 36 = .ok (.lload_n 0, 1) := by decide +kernel
theorem dX8_part_37 : decode cX8_part 37 = .ok (.goto 4, 3) := by decide +kernel
theorem dX8_part_40 : decode cX8_part 40 = .ok (.lload_n 2, 1) := by decide +kernel
theorem dX8_part_41 : decode cX8_part 41 = .ok (.lload 5, 2) := by decide +kernel
theorem dX8_part_43 : decode cX8_part 43 = .ok (.ldiv, 1) := by decide +kernel
theorem dX8_part_44 : decode cX8_part 44 = .ok (.lreturn, 1) := by decide +kernel
theorem dX8_oddsOf_0 : decode cX8_oddsOf 0 = .ok (.lconst 1, 1) := by decide +kernel
theorem dX8_oddsOf_1 : decode cX8_oddsOf 1 = .ok (.lstore_n 2, 1) := by decide +kernel
theorem dX8_oddsOf_2 : decode cX8_oddsOf 2 = .ok (.lconst 1, 1) := by decide +kernel
theorem dX8_oddsOf_3 : decode cX8_oddsOf 3 = .ok (.lstore 4, 2) := by decide +kernel
theorem dX8_oddsOf_5 : decode cX8_oddsOf 5 = .ok (.lconst 0, 1) := by decide +kernel
theorem dX8_oddsOf_6 : decode cX8_oddsOf 6 = .ok (.lstore 6, 2) := by decide +kernel
theorem dX8_oddsOf_8 : decode cX8_oddsOf 8 = .ok (.iconst 0, 1) := by decide +kernel
theorem dX8_oddsOf_9 : decode cX8_oddsOf 9 = .ok (.istore 8, 2) := by decide +kernel
theorem dX8_oddsOf_11 : decode cX8_oddsOf 11 = .ok (.iload 8, 2) := by decide +kernel
theorem dX8_oddsOf_13 : decode cX8_oddsOf 13 = .ok (.aload_n 0, 1) := by decide +kernel
theorem dX8_oddsOf_14 : decode cX8_oddsOf 14 = .ok (.getfield 128, 3) := by decide +kernel
theorem dX8_oddsOf_17 : decode cX8_oddsOf 17 = .ok (.if_icmp .ge 47, 3) := by decide +kernel
theorem dX8_oddsOf_20 : decode cX8_oddsOf 20 = .ok (.lload_n 2, 1) := by decide +kernel
theorem dX8_oddsOf_21 : decode cX8_oddsOf 21 = .ok (.bipush 16, 2) := by decide +kernel
theorem dX8_oddsOf_23 : decode cX8_oddsOf 23 = .ok (.aload_n 0, 1) := by decide +kernel
theorem dX8_oddsOf_24 : decode cX8_oddsOf 24 = .ok (.getfield 43, 3) := by decide +kernel
theorem dX8_oddsOf_27 : decode cX8_oddsOf 27 = .ok (.iload 8, 2) := by decide +kernel
theorem dX8_oddsOf_29 : decode cX8_oddsOf 29 = .ok (.iaload, 1) := by decide +kernel
theorem dX8_oddsOf_30 : decode cX8_oddsOf 30 = .ok (.iconst 5, 1) := by decide +kernel
theorem dX8_oddsOf_31 : decode cX8_oddsOf 31 = .ok (.isub, 1) := by decide +kernel
theorem dX8_oddsOf_32 : decode cX8_oddsOf 32 = .ok (.iconst 0, 1) := by decide +kernel
theorem dX8_oddsOf_33 : decode cX8_oddsOf 33 = .ok (.invokestatic 134, 3) := by decide +kernel
theorem dX8_oddsOf_36 : decode cX8_oddsOf 36 = .ok (.isub, 1) := by decide +kernel
theorem dX8_oddsOf_37 : decode cX8_oddsOf 37 = .ok (.i2l, 1) := by decide +kernel
theorem dX8_oddsOf_38 : decode cX8_oddsOf 38 = .ok (.lmul, 1) := by decide +kernel
theorem dX8_oddsOf_39 : decode cX8_oddsOf 39 = .ok (.lstore_n 2, 1) := by decide +kernel
theorem dX8_oddsOf_40 : decode cX8_oddsOf 40 = .ok (.lload 4, 2) := by decide +kernel
theorem dX8_oddsOf_42 : decode cX8_oddsOf 42 = .ok (.ldc2_w 243, 3) := by decide +kernel
theorem dX8_oddsOf_45 : decode cX8_oddsOf 45 = .ok (.lmul, 1) := by decide +kernel
theorem dX8_oddsOf_46 : decode cX8_oddsOf 46 = .ok (.lstore 4, 2) := by decide +kernel
theorem dX8_oddsOf_48 : decode cX8_oddsOf 48 = .ok (.ldc2_w 243, 3) := by decide +kernel
theorem dX8_oddsOf_51 : decode cX8_oddsOf 51 = .ok (.lload 6, 2) := by decide +kernel
theorem dX8_oddsOf_53 : decode cX8_oddsOf 53 = .ok (.lmul, 1) := by decide +kernel
theorem dX8_oddsOf_54 : decode cX8_oddsOf 54 = .ok (.lload_n 2, 1) := by decide +kernel
theorem dX8_oddsOf_55 : decode cX8_oddsOf 55 = .ok (.ladd, 1) := by decide +kernel
theorem dX8_oddsOf_56 : decode cX8_oddsOf 56 = .ok (.lstore 6, 2) := by decide +kernel
theorem dX8_oddsOf_58 : decode cX8_oddsOf 58 = .ok (.iinc 8 1, 3) := by decide +kernel
theorem dX8_oddsOf_61 : decode cX8_oddsOf 61 = .ok (.goto (-50), 3) := by decide +kernel
theorem dX8_oddsOf_64 : decode cX8_oddsOf 64 = .ok (.iload_n 1, 1) := by decide +kernel
theorem dX8_oddsOf_65 : decode cX8_oddsOf 65 = .ok (.iconst 2, 1) := by decide +kernel
theorem dX8_oddsOf_66 : decode cX8_oddsOf 66 = .ok (.if_icmp .ge 13, 3) := by decide +kernel
theorem dX8_oddsOf_69 : decode cX8_oddsOf 69 = .ok (.lload_n 2, 1) := by decide +kernel
theorem dX8_oddsOf_70 : decode cX8_oddsOf 70 = .ok (.lload 4, 2) := by decide +kernel
theorem dX8_oddsOf_72 : decode cX8_oddsOf 72 = .ok (.iload_n 1, 1) := by decide +kernel
theorem dX8_oddsOf_73 : decode cX8_oddsOf 73 = .ok (.invokestatic 245, 3) := by decide +kernel
theorem dX8_oddsOf_76 : decode cX8_oddsOf 76 = .ok (.goto 13, 3) := by decide +kernel
theorem dX8_oddsOf_79 : decode cX8_oddsOf 79 = .ok (.lload 6, 2) := by decide +kernel
theorem dX8_oddsOf_81 : decode cX8_oddsOf 81 = .ok (.lload 4, 2) := by decide +kernel
theorem dX8_oddsOf_83 : decode cX8_oddsOf 83 = .ok (.iload_n 1, 1) := by decide +kernel
theorem dX8_oddsOf_84 : decode cX8_oddsOf 84 = .ok (.iconst 2, 1) := by decide +kernel
theorem dX8_oddsOf_85 : decode cX8_oddsOf 85 = .ok (.isub, 1) := by decide +kernel
theorem dX8_oddsOf_86 : decode cX8_oddsOf 86 = .ok (.invokestatic 245, 3) := by decide +kernel
theorem dX8_oddsOf_89 : decode cX8_oddsOf 89 = .ok (.lreturn, 1) := by decide +kernel
theorem dX8_odds_0 : decode cX8_odds 0 = .ok (.aload_n 0, 1) := by decide +kernel
theorem dX8_odds_1 : decode cX8_odds 1 = .ok (.invokevirtual 162, 3) := by decide +kernel
theorem dX8_odds_4 : decode cX8_odds 4 = .ok (.iload_n 1, 1) := by decide +kernel
theorem dX8_odds_5 : decode cX8_odds 5 = .ok (.i2l, 1) := by decide +kernel
theorem dX8_odds_6 : decode cX8_odds 6 = .ok (.lconst 0, 1) := by decide +kernel
theorem dX8_odds_7 : decode cX8_odds 7 = .ok (.ldc2_w 80, 3) := by decide +kernel
theorem dX8_odds_10 : decode cX8_odds 10 = .ok (.invokestatic 72, 3) := by decide +kernel
theorem dX8_odds_13 : decode cX8_odds 13 = .ok (.ifCond .eq 11, 3) := by decide +kernel
theorem dX8_odds_16 : decode cX8_odds 16 = .ok (.aload_n 0, 1) := by decide +kernel
theorem dX8_odds_17 : decode cX8_odds 17 = .ok (.iload_n 1, 1) := by decide +kernel
theorem dX8_odds_18 : decode cX8_odds 18 = .ok (.invokevirtual 249, 3) := by decide +kernel
theorem dX8_odds_21 : decode cX8_odds 21 = .ok (.goto 8, 3) := by decide +kernel
theorem dX8_odds_24 : decode cX8_odds 24 = .ok (.bipush (-2), 2) := by decide +kernel
theorem dX8_odds_26 : decode cX8_odds 26 = .ok (.invokestatic 253, 3) := by decide +kernel
theorem dX8_odds_29 : decode cX8_odds 29 = .ok (.lreturn, 1) := by decide +kernel
theorem dX8_drawnOf_0 : decode cX8_drawnOf 0 = .ok (.iload_n 1, 1) := by decide +kernel
theorem dX8_drawnOf_1 : decode cX8_drawnOf 1 = .ok (.istore_n 2, 1) := by decide +kernel
theorem dX8_drawnOf_2 : decode cX8_drawnOf 2 = .ok (.iconst 0, 1) := by decide +kernel
theorem dX8_drawnOf_3 : decode cX8_drawnOf 3 = .ok (.istore_n 3, 1) := by decide +kernel
theorem dX8_drawnOf_4 : decode cX8_drawnOf 4 = .ok (.iload_n 3, 1) := by decide +kernel
theorem dX8_drawnOf_5 : decode cX8_drawnOf 5 = .ok (.aload_n 0, 1) := by decide +kernel
theorem dX8_drawnOf_6 : decode cX8_drawnOf 6 = .ok (.getfield 128, 3) := by decide +kernel
theorem dX8_drawnOf_9 : decode cX8_drawnOf 9 = .ok (.if_icmp .ge 49, 3) := by decide +kernel
theorem dX8_drawnOf_12 : decode cX8_drawnOf 12 = .ok (.aload_n 0, 1) := by decide +kernel
theorem dX8_drawnOf_13 : decode cX8_drawnOf 13 = .ok (.getfield 43, 3) := by decide +kernel
theorem dX8_drawnOf_16 : decode cX8_drawnOf 16 = .ok (.iload_n 3, 1) := by decide +kernel
theorem dX8_drawnOf_17 : decode cX8_drawnOf 17 = .ok (.iaload, 1) := by decide +kernel
theorem dX8_drawnOf_18 : decode cX8_drawnOf 18 = .ok (.iconst 5, 1) := by decide +kernel
theorem dX8_drawnOf_19 : decode cX8_drawnOf 19 = .ok (.if_icmp .le 33, 3) := by decide +kernel
theorem dX8_drawnOf_22 : decode cX8_drawnOf 22 = .ok (.ldc_w 256, 3) := by decide +kernel
theorem dX8_drawnOf_25 : decode cX8_drawnOf 25 = .ok (.iload_n 2, 1) := by decide +kernel
theorem dX8_drawnOf_26 : decode cX8_drawnOf 26 = .ok (.imul, 1) := by decide +kernel
theorem dX8_drawnOf_27 : decode cX8_drawnOf 27 = .ok (.sipush 12345, 3) := by decide +kernel
theorem dX8_drawnOf_30 : decode cX8_drawnOf 30 = .ok (.iadd, 1) := by decide +kernel
theorem dX8_drawnOf_31 : decode cX8_drawnOf 31 = .ok (.istore_n 2, 1) := by decide +kernel
theorem dX8_drawnOf_32 : decode cX8_drawnOf 32 = .ok (.iload_n 2, 1) := by decide +kernel
theorem dX8_drawnOf_33 : decode cX8_drawnOf 33 = .ok (.bipush 16, 2) := by decide +kernel
theorem dX8_drawnOf_35 : decode cX8_drawnOf 35 = .ok (.iushr, 1) := by decide +kernel
theorem dX8_drawnOf_36 : decode cX8_drawnOf 36 = .ok (.bipush 16, 2) := by decide +kernel
theorem dX8_drawnOf_38 : decode cX8_drawnOf 38 = .ok (.irem, 1) := by decide +kernel
theorem dX8_drawnOf_39 : decode cX8_drawnOf 39 = .ok (.aload_n 0, 1) := by decide +kernel
theorem dX8_drawnOf_40 : decode cX8_drawnOf 40 = .ok (.getfield 43, 3) := by decide +kernel
theorem dX8_drawnOf_43 : decode cX8_drawnOf 43 = .ok (.iload_n 3, 1) := by decide +kernel
theorem dX8_drawnOf_44 : decode cX8_drawnOf 44 = .ok (.iaload, 1) := by decide +kernel
theorem dX8_drawnOf_45 : decode cX8_drawnOf 45 = .ok (.iconst 5, 1) := by decide +kernel
theorem dX8_drawnOf_46 : decode cX8_drawnOf 46 = .ok (.isub, 1) := by decide +kernel
theorem dX8_drawnOf_47 : decode cX8_drawnOf 47 = .ok (.if_icmp .ge 5, 3) := by decide +kernel
theorem dX8_drawnOf_50 : decode cX8_drawnOf 50 = .ok (.iload_n 3, 1) := by decide +kernel
theorem dX8_drawnOf_51 : decode cX8_drawnOf 51 = .ok (.ireturn, 1) := by decide +kernel
theorem dX8_drawnOf_52 : decode cX8_drawnOf 52 = .ok (.iinc 3 1, 3) := by decide +kernel
theorem dX8_drawnOf_55 : decode cX8_drawnOf 55 = .ok (.goto (-51), 3) := by decide +kernel
theorem dX8_drawnOf_58 : decode cX8_drawnOf 58 = .ok (.aload_n 0, 1) := by decide +kernel
theorem dX8_drawnOf_59 : decode cX8_drawnOf 59 = .ok (.getfield 128, 3) := by decide +kernel
theorem dX8_drawnOf_62 : decode cX8_drawnOf 62 = .ok (.ireturn, 1) := by decide +kernel
theorem dX8_drawn_0 : decode cX8_drawn 0 = .ok (.aload_n 0, 1) := by decide +kernel
theorem dX8_drawn_1 : decode cX8_drawn 1 = .ok (.invokevirtual 162, 3) := by decide +kernel
theorem dX8_drawn_4 : decode cX8_drawn 4 = .ok (.aload_n 0, 1) := by decide +kernel
theorem dX8_drawn_5 : decode cX8_drawn 5 = .ok (.iload_n 1, 1) := by decide +kernel
theorem dX8_drawn_6 : decode cX8_drawn 6 = .ok (.invokevirtual 257, 3) := by decide +kernel
theorem dX8_drawn_9 : decode cX8_drawn 9 = .ok (.ireturn, 1) := by decide +kernel
theorem dX8_errors_0 : decode cX8_errors 0 = .ok (.iconst 0, 1) := by decide +kernel
theorem dX8_errors_1 : decode cX8_errors 1 = .ok (.istore_n 3, 1) := by decide +kernel
theorem dX8_errors_2 : decode cX8_errors 2 = .ok (.iconst 0, 1) := by decide +kernel
theorem dX8_errors_3 : decode cX8_errors 3 = .ok (.istore 4, 2) := by decide +kernel
theorem dX8_errors_5 : decode cX8_errors 5 = .ok (.iload 4, 2) := by decide +kernel
theorem dX8_errors_7 : decode cX8_errors 7 = .ok (.aload_n 0, 1) := by decide +kernel
theorem dX8_errors_8 : decode cX8_errors 8 = .ok (.getfield 28, 3) := by decide +kernel
theorem dX8_errors_11 : decode cX8_errors 11 = .ok (.iconst 0, 1) := by decide +kernel
theorem dX8_errors_12 : decode cX8_errors 12 = .ok (.iaload, 1) := by decide +kernel
theorem dX8_errors_13 : decode cX8_errors 13 = .ok (.if_icmp .ge 81, 3) := by decide +kernel
theorem dX8_errors_16 : decode cX8_errors 16 = .ok (.aload_n 0, 1) := by decide +kernel
theorem dX8_errors_17 : decode cX8_errors 17 = .ok (.getfield 31, 3) := by decide +kernel
theorem dX8_errors_20 : decode cX8_errors 20 = .ok (.iconst 4, 1) := by decide +kernel
theorem dX8_errors_21 : decode cX8_errors 21 = .ok (.iload 4, 2) := by decide +kernel
theorem dX8_errors_23 : decode cX8_errors 23 = .ok (.imul, 1) := by decide +kernel
theorem dX8_errors_24 : decode cX8_errors 24 = .ok (.iconst 2, 1) := by decide +kernel
theorem dX8_errors_25 : decode cX8_errors 25 = .ok (.iadd, 1) := by decide +kernel
theorem dX8_errors_26 : decode cX8_errors 26 = .ok (.iaload, 1) := by decide +kernel
theorem dX8_errors_27 : decode cX8_errors 27 = .ok (.iload_n 1, 1) := by decide +kernel
theorem dX8_errors_28 : decode cX8_errors 28 = .ok (.if_icmp .lt 7, 3) := by decide +kernel
theorem dX8_errors_31 : decode cX8_errors 31 = .ok (.iconst 1, 1) := by decide +kernel
theorem dX8_errors_32 : decode cX8_errors 32 = .ok (.goto 4, 3) := by decide +kernel
theorem dX8_errors_35 : decode cX8_errors 35 = .ok (.iconst 0, 1) := by decide +kernel
theorem dX8_errors_36 : decode cX8_errors 36 = .ok (.istore 5, 2) := by decide +kernel
theorem dX8_errors_38 : decode cX8_errors 38 = .ok (.aload_n 0, 1) := by decide +kernel
theorem dX8_errors_39 : decode cX8_errors 39 = .ok (.getfield 34, 3) := by decide +kernel
theorem dX8_errors_42 : decode cX8_errors 42 = .ok (.iconst 5, 1) := by decide +kernel
theorem dX8_errors_43 : decode cX8_errors 43 = .ok (.iaload, 1) := by decide +kernel
theorem dX8_errors_44 : decode cX8_errors 44 = .ok (.iload 4, 2) := by decide +kernel
theorem dX8_errors_46 : decode cX8_errors 46 = .ok (.invokestatic 260, 3) := by decide +kernel
theorem dX8_errors_49 : decode cX8_errors 49 = .ok (.istore 6, 2) := by decide +kernel
theorem dX8_errors_51 : decode cX8_errors 51 = .ok (.iload_n 3, 1) := by decide +kernel
theorem dX8_errors_52 : decode cX8_errors 52 = .ok (.iload_n 2, 1) := by decide +kernel
theorem dX8_errors_53 : decode cX8_errors 53 = .ok (.ifCond .ne 13, 3) := by decide +kernel
theorem dX8_errors_56 : decode cX8_errors 56 = .ok (.iload 5, 2) := by decide +kernel
theorem dX8_errors_58 : decode cX8_errors 58 = .ok (.ifCond .eq 8, 3) := by decide +kernel
theorem dX8_errors_61 : decode cX8_errors 61 = .ok (.iload 6, 2) := by decide +kernel
theorem dX8_errors_63 : decode cX8_errors 63 = .ok (.ifCond .eq 18, 3) := by decide +kernel
theorem dX8_errors_66 : decode cX8_errors 66 = .ok (.iload_n 2, 1) := by decide +kernel
theorem dX8_errors_67 : decode cX8_errors 67 = .ok (.iconst 1, 1) := by decide +kernel
theorem dX8_errors_68 : decode cX8_errors 68 = .ok (.if_icmp .ne 17, 3) := by decide +kernel
theorem dX8_errors_71 : decode cX8_errors 71 = .ok (.iload 5, 2) := by decide +kernel
theorem dX8_errors_73 : decode cX8_errors 73 = .ok (.ifCond .ne 12, 3) := by decide +kernel
theorem dX8_errors_76 : decode cX8_errors 76 = .ok (.iload 6, 2) := by decide +kernel
theorem dX8_errors_78 : decode cX8_errors 78 = .ok (.ifCond .eq 7, 3) := by decide +kernel
theorem dX8_errors_81 : decode cX8_errors 81 = .ok (.iconst 1, 1) := by decide +kernel
theorem dX8_errors_82 : decode cX8_errors 82 = .ok (.goto 4, 3) := by decide +kernel
theorem dX8_errors_85 : decode cX8_errors 85 = .ok (.iconst 0, 1) := by decide +kernel
theorem dX8_errors_86 : decode cX8_errors 86 = .ok (.iadd, 1) := by decide +kernel
theorem dX8_errors_87 : decode cX8_errors 87 = .ok (.istore_n 3, 1) := by decide +kernel
theorem dX8_errors_88 : decode cX8_errors 88 = .ok (.iinc 4 1, 3) := by decide +kernel
theorem dX8_errors_91 : decode cX8_errors 91 = .ok (.goto (-86), 3) := by decide +kernel
theorem dX8_errors_94 : decode cX8_errors 94 = .ok (.iload_n 3, 1) := by decide +kernel
theorem dX8_errors_95 : decode cX8_errors 95 = .ok (.ireturn, 1) := by decide +kernel
theorem dX8_lineOf_0 : decode cX8_lineOf 0 = .ok (.iload_n 1, 1) := by decide +kernel
theorem dX8_lineOf_1 : decode cX8_lineOf 1 = .ok (.iconst (-1), 1) := by decide +kernel
theorem dX8_lineOf_2 : decode cX8_lineOf 2 = .ok (.if_icmp .eq 10, 3) := by decide +kernel
theorem dX8_lineOf_5 : decode cX8_lineOf 5 = .ok (.aload_n 0, 1) := by decide +kernel
theorem dX8_lineOf_6 : decode cX8_lineOf 6 = .ok (.iload_n 1, 1) := by decide +kernel
theorem dX8_lineOf_7 : decode cX8_lineOf 7 = .ok (.iload_n 2, 1) := by decide +kernel
theorem dX8_lineOf_8 : decode cX8_lineOf 8 = .ok (.invokevirtual 264, 3) := by decide +kernel
theorem dX8_lineOf_11 : decode cX8_lineOf 11 = .ok (.ireturn, 1) := by decide +kernel
theorem dX8_lineOf_12 : decode cX8_lineOf 12 = .ok (.iconst 0, 1) := by decide +kernel
theorem dX8_lineOf_13 : decode cX8_lineOf 13 = .ok (.istore_n 3, 1) := by decide +kernel
theorem dX8_lineOf_14 : decode cX8_lineOf 14 = .ok (.iconst 1, 1) := by decide +kernel
theorem dX8_lineOf_15 : decode cX8_lineOf 15 = .ok (.istore 4, 2) := by decide +kernel
theorem dX8_lineOf_17 : decode cX8_lineOf 17 = .ok (.iload 4, 2) := by decide +kernel
theorem dX8_lineOf_19 : decode cX8_lineOf 19 = .ok (.bipush 11, 2) := by decide +kernel
theorem dX8_lineOf_21 : decode cX8_lineOf 21 = .ok (.if_icmp .ge 47, 3) := by decide +kernel
theorem dX8_lineOf_24 : decode cX8_lineOf 24 = .ok (.aload_n 0, 1) := by decide +kernel
theorem dX8_lineOf_25 : decode cX8_lineOf 25 = .ok (.iload 4, 2) := by decide +kernel
theorem dX8_lineOf_27 : decode cX8_lineOf 27 = .ok (.iconst 0, 1) := by decide +kernel
theorem dX8_lineOf_28 : decode cX8_lineOf 28 = .ok (.invokevirtual 264, 3) := by decide +kernel
theorem dX8_lineOf_31 : decode cX8_lineOf 31 = .ok (.aload_n 0, 1) := by decide +kernel
theorem dX8_lineOf_32 : decode cX8_lineOf 32 = .ok (.iload 4, 2) := by decide +kernel
theorem dX8_lineOf_34 : decode cX8_lineOf 34 = .ok (.iconst 1, 1) := by decide +kernel
theorem dX8_lineOf_35 : decode cX8_lineOf 35 = .ok (.invokevirtual 264, 3) := by decide +kernel
theorem dX8_lineOf_38 : decode cX8_lineOf 38 = .ok (.iadd, 1) := by decide +kernel
theorem dX8_lineOf_39 : decode cX8_lineOf 39 = .ok (.aload_n 0, 1) := by decide +kernel
theorem dX8_lineOf_40 : decode cX8_lineOf 40 = .ok (.iload_n 3, 1) := by decide +kernel
theorem dX8_lineOf_41 : decode cX8_lineOf 41 = .ok (.iconst 0, 1) := by decide +kernel
theorem dX8_lineOf_42 : decode cX8_lineOf 42 = .ok (.invokevirtual 264, 3) := by decide +kernel
theorem dX8_lineOf_45 : decode cX8_lineOf 45 = .ok (.aload_n 0, 1) := by decide +kernel
theorem dX8_lineOf_46 : decode cX8_lineOf 46 = .ok (.iload_n 3, 1) := by decide +kernel
theorem dX8_lineOf_47 : decode cX8_lineOf 47 = .ok (.iconst 1, 1) := by decide +kernel
theorem dX8_lineOf_48 : decode cX8_lineOf 48 = .ok (.invokevirtual 264, 3) := by decide +kernel
theorem dX8_lineOf_51 : decode cX8_lineOf 51 = .ok (.iadd, 1) := by decide +kernel
theorem dX8_lineOf_52 : decode cX8_lineOf 52 = .ok (.if_icmp .ge 8, 3) := by decide +kernel
theorem dX8_lineOf_55 : decode cX8_lineOf 55 = .ok (.iload 4, 2) := by decide +kernel
theorem dX8_lineOf_57 : decode cX8_lineOf 57 = .ok (.goto 4, 3) := by decide +kernel
theorem dX8_lineOf_60 : decode cX8_lineOf 60 = .ok (.iload_n 3, 1) := by decide +kernel
theorem dX8_lineOf_61 : decode cX8_lineOf 61 = .ok (.istore_n 3, 1) := by decide +kernel
theorem dX8_lineOf_62 : decode cX8_lineOf 62 = .ok (.iinc 4 1, 3) := by decide +kernel
theorem dX8_lineOf_65 : decode cX8_lineOf 65 = .ok (.goto (-48), 3) := by decide +kernel
theorem dX8_lineOf_68 : decode cX8_lineOf 68 = .ok (.iload_n 2, 1) := by decide +kernel
theorem dX8_lineOf_69 : decode cX8_lineOf 69 = .ok (.ifCond .ne 7, 3) := by decide +kernel
theorem dX8_lineOf_72 : decode cX8_lineOf 72 = .ok (.iload_n 3, 1) := by decide +kernel
theorem dX8_lineOf_73 : decode cX8_lineOf 73 = .ok (.goto 16, 3) := by decide +kernel
theorem dX8_lineOf_76 : decode cX8_lineOf 76 = .ok (.aload_n 0, 1) := by decide +kernel
theorem dX8_lineOf_77 : decode cX8_lineOf 77 = .ok (.iload_n 3, 1) := by decide +kernel
theorem dX8_lineOf_78 : decode cX8_lineOf 78 = .ok (.iconst 0, 1) := by decide +kernel
theorem dX8_lineOf_79 : decode cX8_lineOf 79 = .ok (.invokevirtual 264, 3) := by decide +kernel
theorem dX8_lineOf_82 : decode cX8_lineOf 82 = .ok (.aload_n 0, 1) := by decide +kernel
theorem dX8_lineOf_83 : decode cX8_lineOf 83 = .ok (.iload_n 3, 1) := by decide +kernel
theorem dX8_lineOf_84 : decode cX8_lineOf 84 = .ok (.iconst 1, 1) := by decide +kernel
theorem dX8_lineOf_85 : decode cX8_lineOf 85 = .ok (.invokevirtual 264, 3) := by decide +kernel
theorem dX8_lineOf_88 : decode cX8_lineOf 88 = .ok (.iadd, 1) := by decide +kernel
theorem dX8_lineOf_89 : decode cX8_lineOf 89 = .ok (.ireturn, 1) := by decide +kernel
theorem dX8_line_0 : decode cX8_line 0 = .ok (.aload_n 0, 1) := by decide +kernel
theorem dX8_line_1 : decode cX8_line 1 = .ok (.iconst 0, 1) := by decide +kernel
theorem dX8_line_2 : decode cX8_line 2 = .ok (.invokevirtual 120, 3) := by decide +kernel
theorem dX8_line_5 : decode cX8_line 5 = .ok (.pop, 1) := by decide +kernel
theorem dX8_line_6 : decode cX8_line 6 = .ok (.iload_n 1, 1) := by decide +kernel
theorem dX8_line_7 : decode cX8_line 7 = .ok (.i2l, 1) := by decide +kernel
theorem dX8_line_8 : decode cX8_line 8 = .ok (.ldc2_w 267, 3) := by decide +kernel
theorem dX8_line_11 : decode cX8_line 11 = .ok (.ldc2_w 269, 3) := by decide +kernel
theorem dX8_line_14 : decode cX8_line 14 = .ok (.invokestatic 72, 3) := by decide +kernel
theorem dX8_line_17 : decode cX8_line 17 = .ok (.ifCond .eq 19, 3) := by decide +kernel
theorem dX8_line_20 : decode cX8_line 20 = .ok (.iload_n 2, 1) := by decide +kernel
theorem dX8_line_21 : decode cX8_line 21 = .ok (.invokestatic 101, 3) := by decide +kernel
theorem dX8_line_24 : decode cX8_line 24 = .ok (.ifCond .eq 12, 3) := by decide +kernel
theorem dX8_line_27 : decode cX8_line 27 = .ok (.aload_n 0, 1) := by decide +kernel
theorem dX8_line_28 : decode cX8_line 28 = .ok (.iload_n 1, 1) := by decide +kernel
theorem dX8_line_29 : decode cX8_line 29 = .ok (.iload_n 2, 1) := by decide +kernel
theorem dX8_line_30 : decode cX8_line 30 = .ok (.invokevirtual 271, 3) := by decide +kernel
theorem dX8_line_33 : decode cX8_line 33 = .ok (.goto 5, 3) := by decide +kernel
theorem dX8_line_36 : decode cX8_line 36 = .ok (.bipush (-2), 2) := by decide +kernel
theorem dX8_line_38 : decode cX8_line 38 = .ok (.ireturn, 1) := by decide +kernel
theorem dX8_seen_0 : decode cX8_seen 0 = .ok (.iload_n 1, 1) := by decide +kernel
theorem dX8_seen_1 : decode cX8_seen 1 = .ok (.i2l, 1) := by decide +kernel
theorem dX8_seen_2 : decode cX8_seen 2 = .ok (.lconst 0, 1) := by decide +kernel
theorem dX8_seen_3 : decode cX8_seen 3 = .ok (.ldc2_w 201, 3) := by decide +kernel
theorem dX8_seen_6 : decode cX8_seen 6 = .ok (.invokestatic 72, 3) := by decide +kernel
theorem dX8_seen_9 : decode cX8_seen 9 = .ok (.ifCond .eq 17, 3) := by decide +kernel
theorem dX8_seen_12 : decode cX8_seen 12 = .ok (.iload_n 2, 1) := by decide +kernel
theorem dX8_seen_13 : decode cX8_seen 13 = .ok (.i2l, 1) := by decide +kernel
theorem dX8_seen_14 : decode cX8_seen 14 = .ok (.ldc2_w 267, 3) := by decide +kernel
theorem dX8_seen_17 : decode cX8_seen 17 = .ok (.ldc2_w 274, 3) := by decide +kernel
theorem dX8_seen_20 : decode cX8_seen 20 = .ok (.invokestatic 72, 3) := by decide +kernel
theorem dX8_seen_23 : decode cX8_seen 23 = .ok (.ifCond .ne 6, 3) := by decide +kernel
theorem dX8_seen_26 : decode cX8_seen 26 = .ok (.bipush (-2), 2) := by decide +kernel
theorem dX8_seen_28 : decode cX8_seen 28 = .ok (.ireturn, 1) := by decide +kernel
theorem dX8_seen_29 : decode cX8_seen 29 = .ok (.aload_n 0, 1) := by decide +kernel
theorem dX8_seen_30 : decode cX8_seen 30 = .ok (.getfield 276, 3) := by decide +kernel
theorem dX8_seen_33 : decode cX8_seen 33 = .ok (.bipush 8, 2) := by decide +kernel
theorem dX8_seen_35 : decode cX8_seen 35 = .ok (.if_icmp .ne 6, 3) := by decide +kernel
theorem dX8_seen_38 : decode cX8_seen 38 = .ok (.bipush (-4), 2) := by decide +kernel
theorem dX8_seen_40 : decode cX8_seen 40 = .ok (.ireturn, 1) := by decide +kernel
theorem dX8_seen_41 : decode cX8_seen 41 = .ok (.aload_n 0, 1) := by decide +kernel
theorem dX8_seen_42 : decode cX8_seen 42 = .ok (.getfield 67, 3) := by decide +kernel
theorem dX8_seen_45 : decode cX8_seen 45 = .ok (.iconst 2, 1) := by decide +kernel
theorem dX8_seen_46 : decode cX8_seen 46 = .ok (.aload_n 0, 1) := by decide +kernel
theorem dX8_seen_47 : decode cX8_seen 47 = .ok (.getfield 276, 3) := by decide +kernel
theorem dX8_seen_50 : decode cX8_seen 50 = .ok (.imul, 1) := by decide +kernel
theorem dX8_seen_51 : decode cX8_seen 51 = .ok (.iload_n 1, 1) := by decide +kernel
theorem dX8_seen_52 : decode cX8_seen 52 = .ok (.iastore, 1) := by decide +kernel
theorem dX8_seen_53 : decode cX8_seen 53 = .ok (.aload_n 0, 1) := by decide +kernel
theorem dX8_seen_54 : decode cX8_seen 54 = .ok (.getfield 67, 3) := by decide +kernel
theorem dX8_seen_57 : decode cX8_seen 57 = .ok (.iconst 2, 1) := by decide +kernel
theorem dX8_seen_58 : decode cX8_seen 58 = .ok (.aload_n 0, 1) := by decide +kernel
theorem dX8_seen_59 : decode cX8_seen 59 = .ok (.getfield 276, 3) := by decide +kernel
theorem dX8_seen_62 : decode cX8_seen 62 = .ok (.imul, 1) := by decide +kernel
theorem dX8_seen_63 : decode cX8_seen 63 = .ok (.iconst 1, 1) := by decide +kernel
theorem dX8_seen_64 : decode cX8_seen 64 = .ok (.iadd, 1) := by decide +kernel
theorem dX8_seen_65 : decode cX8_seen 65 = .ok (.iload_n 2, 1) := by decide +kernel
theorem dX8_seen_66 : decode cX8_seen 66 = .ok (.iastore, 1) := by decide +kernel
theorem dX8_seen_67 : decode cX8_seen 67 = .ok (.aload_n 0, 1) := by decide +kernel
theorem dX8_seen_68 : decode cX8_seen 68 = .ok (.dup, 1) := by decide +kernel
theorem dX8_seen_69 : decode cX8_seen 69 = .ok (.getfield 276, 3) := by decide +kernel
theorem dX8_seen_72 : decode cX8_seen 72 = .ok (.iconst 1, 1) := by decide +kernel
theorem dX8_seen_73 : decode cX8_seen 73 = .ok (.iadd, 1) := by decide +kernel
theorem dX8_seen_74 : decode cX8_seen 74 = .ok (.putfield 276, 3) := by decide +kernel
theorem dX8_seen_77 : decode cX8_seen 77 = .ok (.aload_n 0, 1) := by decide +kernel
theorem dX8_seen_78 : decode cX8_seen 78 = .ok (.getfield 276, 3) := by decide +kernel
theorem dX8_seen_81 : decode cX8_seen 81 = .ok (.ireturn, 1) := by decide +kernel
theorem dX8_forget_0 : decode cX8_forget 0 = .ok (.aload_n 0, 1) := by decide +kernel
theorem dX8_forget_1 : decode cX8_forget 1 = .ok (.getfield 276, 3) := by decide +kernel
theorem dX8_forget_4 : decode cX8_forget 4 = .ok (.istore_n 1, 1) := by decide +kernel
theorem dX8_forget_5 : decode cX8_forget 5 = .ok (.aload_n 0, 1) := by decide +kernel
theorem dX8_forget_6 : decode cX8_forget 6 = .ok (.iconst 0, 1) := by decide +kernel
theorem dX8_forget_7 : decode cX8_forget 7 = .ok (.putfield 276, 3) := by decide +kernel
theorem dX8_forget_10 : decode cX8_forget 10 = .ok (.iload_n 1, 1) := by decide +kernel
theorem dX8_forget_11 : decode cX8_forget 11 = .ok (.ireturn, 1) := by decide +kernel
theorem dX8_read_0 : decode cX8_read 0 = .ok (.iload_n 1, 1) := by decide +kernel
theorem dX8_read_1 : decode cX8_read 1 = .ok (.invokestatic 82, 3) := by decide +kernel
theorem dX8_read_4 : decode cX8_read 4 = .ok (.ifCond .ne 6, 3) := by decide +kernel
theorem dX8_read_7 : decode cX8_read 7 = .ok (.bipush (-2), 2) := by decide +kernel
theorem dX8_read_9 : decode cX8_read 9 = .ok (.ireturn, 1) := by decide +kernel
theorem dX8_read_10 : decode cX8_read 10 = .ok (.aload_n 0, 1) := by decide +kernel
theorem dX8_read_11 : decode cX8_read 11 = .ok (.getfield 7, 3) := by decide +kernel
theorem dX8_read_14 : decode cX8_read 14 = .ok (.iload_n 1, 1) := by decide +kernel
theorem dX8_read_15 : decode cX8_read 15 = .ok (.iaload, 1) := by decide +kernel
theorem dX8_read_16 : decode cX8_read 16 = .ok (.ifCond .ge 9, 3) := by decide +kernel
theorem dX8_read_19 : decode cX8_read 19 = .ok (.aload_n 0, 1) := by decide +kernel
theorem dX8_read_20 : decode cX8_read 20 = .ok (.iconst 1, 1) := by decide +kernel
theorem dX8_read_21 : decode cX8_read 21 = .ok (.invokevirtual 88, 3) := by decide +kernel
theorem dX8_read_24 : decode cX8_read 24 = .ok (.ireturn, 1) := by decide +kernel
theorem dX8_read_25 : decode cX8_read 25 = .ok (.iconst 0, 1) := by decide +kernel
theorem dX8_read_26 : decode cX8_read 26 = .ok (.istore_n 2, 1) := by decide +kernel
theorem dX8_read_27 : decode cX8_read 27 = .ok (.iconst 1, 1) := by decide +kernel
theorem dX8_read_28 : decode cX8_read 28 = .ok (.istore_n 3, 1) := by decide +kernel
theorem dX8_read_29 : decode cX8_read 29 = .ok (.iload_n 3, 1) := by decide +kernel
theorem dX8_read_30 : decode cX8_read 30 = .ok (.ifCond .eq 73, 3) := by decide +kernel
theorem dX8_read_33 : decode cX8_read 33 = .ok (.iconst 2, 1) := by decide +kernel
theorem dX8_read_34 : decode cX8_read 34 = .ok (.iload_n 2, 1) := by decide +kernel
theorem dX8_read_35 : decode cX8_read 35 = .ok (.imul, 1) := by decide +kernel
theorem dX8_read_36 : decode cX8_read 36 = .ok (.iconst 2, 1) := by decide +kernel
theorem dX8_read_37 : decode cX8_read 37 = .ok (.iadd, 1) := by decide +kernel
theorem dX8_read_38 : decode cX8_read 38 = .ok (.aload_n 0, 1) := by decide +kernel
theorem dX8_read_39 : decode cX8_read 39 = .ok (.getfield 13, 3) := by decide +kernel
theorem dX8_read_42 : decode cX8_read 42 = .ok (.iload_n 1, 1) := by decide +kernel
theorem dX8_read_43 : decode cX8_read 43 = .ok (.iaload, 1) := by decide +kernel
theorem dX8_read_44 : decode cX8_read 44 = .ok (.if_icmp .gt 59, 3) := by decide +kernel
theorem dX8_read_47 : decode cX8_read 47 = .ok (.aload_n 0, 1) := by decide +kernel
theorem dX8_read_48 : decode cX8_read 48 = .ok (.aload_n 0, 1) := by decide +kernel
theorem dX8_read_49 : decode cX8_read 49 = .ok (.getfield 16, 3) := by decide +kernel
theorem dX8_read_52 : decode cX8_read 52 = .ok (.bipush 60, 2) := by decide +kernel
theorem dX8_read_54 : decode cX8_read 54 = .ok (.iload_n 1, 1) := by decide +kernel
theorem dX8_read_55 : decode cX8_read 55 = .ok (.imul, 1) := by decide +kernel
theorem dX8_read_56 : decode cX8_read 56 = .ok (.iconst 2, 1) := by decide +kernel
theorem dX8_read_57 : decode cX8_read 57 = .ok (.iload_n 2, 1) := by decide +kernel
theorem dX8_read_58 : decode cX8_read 58 = .ok (.imul, 1) := by decide +kernel
theorem dX8_read_59 : decode cX8_read 59 = .ok (.iadd, 1) := by decide +kernel
theorem dX8_read_60 : decode cX8_read 60 = .ok (.iaload, 1) := by decide +kernel
theorem dX8_read_61 : decode cX8_read 61 = .ok (.aload_n 0, 1) := by decide +kernel
theorem dX8_read_62 : decode cX8_read 62 = .ok (.getfield 16, 3) := by decide +kernel
theorem dX8_read_65 : decode cX8_read 65 = .ok (.bipush 60, 2) := by decide +kernel
theorem dX8_read_67 : decode cX8_read 67 = .ok (.iload_n 1, 1) := by decide +kernel
theorem dX8_read_68 : decode cX8_read 68 = .ok (.imul, 1) := by decide +kernel
theorem dX8_read_69 : decode cX8_read 69 = .ok (.iconst 2, 1) := by decide +kernel
theorem dX8_read_70 : decode cX8_read 70 = .ok (.iload_n 2, 1) := by decide +kernel
theorem dX8_read_71 : decode cX8_read 71 = .ok (.imul, 1) := by decide +kernel
theorem dX8_read_72 : decode cX8_read 72 = .ok (.iadd, 1) := by decide +kernel
theorem dX8_read_73 : decode cX8_read 73 = .ok (.iconst 1, 1) := by decide +kernel
theorem dX8_read_74 : decode cX8_read 74 = .ok (.iadd, 1) := by decide +kernel
theorem dX8_read_75 : decode cX8_read 75 = .ok (.iaload, 1) := by decide +kernel
theorem dX8_read_76 : decode cX8_read 76 = .ok (.invokevirtual 279, 3) := by decide +kernel
theorem dX8_read_79 : decode cX8_read 79 = .ok (.ifCond .lt 7, 3) := by decide +kernel
theorem dX8_read_82 : decode cX8_read 82 = .ok (.iconst 1, 1) := by decide +kernel
theorem dX8_read_83 : decode cX8_read 83 = .ok (.goto 4, 3) := by decide +kernel
theorem dX8_read_86 : decode cX8_read 86 = .ok (.iconst 0, 1) := by decide +kernel
theorem dX8_read_87 : decode cX8_read 87 = .ok (.istore_n 3, 1) := by decide +kernel
theorem dX8_read_88 : decode cX8_read 88 = .ok (.iload_n 2, 1) := by decide +kernel
theorem dX8_read_89 : decode cX8_read 89 = .ok (.iload_n 3, 1) := by decide +kernel
theorem dX8_read_90 : decode cX8_read 90 = .ok (.ifCond .eq 7, 3) := by decide +kernel
theorem dX8_read_93 : decode cX8_read 93 = .ok (.iconst 1, 1) := by decide +kernel
theorem dX8_read_94 : decode cX8_read 94 = .ok (.goto 4, 3) := by decide +kernel
theorem dX8_read_97 : decode cX8_read 97 = .ok (.iconst 0, 1) := by decide +kernel
theorem dX8_read_98 : decode cX8_read 98 = .ok (.iadd, 1) := by decide +kernel
theorem dX8_read_99 : decode cX8_read 99 = .ok (.istore_n 2, 1) := by decide +kernel
theorem dX8_read_100 : decode cX8_read 100 = .ok (.goto (-71), 3) := by decide +kernel
theorem dX8_read_103 : decode cX8_read 103 = .ok (.iload_n 2, 1) := by decide +kernel
theorem dX8_read_104 : decode cX8_read 104 = .ok (.ireturn, 1) := by decide +kernel
theorem dX8_leadsNow_0 : decode cX8_leadsNow 0 = .ok (.iconst 0, 1) := by decide +kernel
theorem dX8_leadsNow_1 : decode cX8_leadsNow 1 = .ok (.istore_n 1, 1) := by decide +kernel
theorem dX8_leadsNow_2 : decode cX8_leadsNow 2 = .ok (.aload_n 0, 1) := by decide +kernel
theorem dX8_leadsNow_3 : decode cX8_leadsNow 3 = .ok (.invokevirtual 155, 3) := by decide +kernel
theorem dX8_leadsNow_6 : decode cX8_leadsNow 6 = .ok (.iconst 0, 1) := by decide +kernel
theorem dX8_leadsNow_7 : decode cX8_leadsNow 7 = .ok (.istore_n 2, 1) := by decide +kernel
theorem dX8_leadsNow_8 : decode cX8_leadsNow 8 = .ok (.iload_n 2, 1) := by decide +kernel
theorem dX8_leadsNow_9 : decode cX8_leadsNow 9 = .ok (.bipush 31, 2) := by decide +kernel
theorem dX8_leadsNow_11 : decode cX8_leadsNow 11 = .ok (.if_icmp .ge 98, 3) := by decide +kernel
theorem dX8_leadsNow_14 : decode cX8_leadsNow 14 = .ok (.aload_n 0, 1) := by decide +kernel
theorem dX8_leadsNow_15 : decode cX8_leadsNow 15 = .ok (.iload_n 2, 1) := by decide +kernel
theorem dX8_leadsNow_16 : decode cX8_leadsNow 16 = .ok (.aload_n 0, 1) := by decide +kernel
theorem dX8_leadsNow_17 : decode cX8_leadsNow 17 = .ok (.getfield 34, 3) := by decide +kernel
theorem dX8_leadsNow_20 : decode cX8_leadsNow 20 = .ok (.iconst 4, 1) := by decide +kernel
theorem dX8_leadsNow_21 : decode cX8_leadsNow 21 = .ok (.iaload, 1) := by decide +kernel
theorem dX8_leadsNow_22 : decode cX8_leadsNow 22 = .ok (.aload_n 0, 1) := by decide +kernel
end
section
theorem dX8_leadsNow_23 : decode cX8_leadsNow 23 = .ok (.getfield 34, 3) := by decide +kernel
theorem dX8_leadsNow_26 : decode cX8_leadsNow 26 = .ok (.iconst 3, 1) := by decide +kernel
theorem dX8_leadsNow_27 : decode cX8_leadsNow 27 = .ok (.iaload, 1) := by decide +kernel
theorem dX8_leadsNow_28 : decode cX8_leadsNow 28 = .ok (.invokevirtual 158, 3) := by decide +kernel
theorem dX8_leadsNow_31 : decode cX8_leadsNow 31 = .ok (.iconst 1, 1) := by decide +kernel
theorem dX8_leadsNow_32 : decode cX8_leadsNow 32 = .ok (.istore_n 3, 1) := by decide +kernel
theorem dX8_leadsNow_33 : decode cX8_leadsNow 33 = .ok (.iconst 0, 1) := by decide +kernel
theorem dX8_leadsNow_34 : decode cX8_leadsNow 34 = .ok (.istore 4, 2) := by decide +kernel
theorem dX8_leadsNow_36 : decode cX8_leadsNow 36 = .ok (.iload 4, 2) := by decide +kernel
theorem dX8_leadsNow_38 : decode cX8_leadsNow 38 = .ok (.aload_n 0, 1) := by decide +kernel
theorem dX8_leadsNow_39 : decode cX8_leadsNow 39 = .ok (.getfield 276, 3) := by decide +kernel
theorem dX8_leadsNow_42 : decode cX8_leadsNow 42 = .ok (.if_icmp .ge 47, 3) := by decide +kernel
theorem dX8_leadsNow_45 : decode cX8_leadsNow 45 = .ok (.iload_n 3, 1) := by decide +kernel
theorem dX8_leadsNow_46 : decode cX8_leadsNow 46 = .ok (.ifCond .eq 35, 3) := by decide +kernel
theorem dX8_leadsNow_49 : decode cX8_leadsNow 49 = .ok (.aload_n 0, 1) := by decide +kernel
theorem dX8_leadsNow_50 : decode cX8_leadsNow 50 = .ok (.iload_n 2, 1) := by decide +kernel
theorem dX8_leadsNow_51 : decode cX8_leadsNow 51 = .ok (.aload_n 0, 1) := by decide +kernel
theorem dX8_leadsNow_52 : decode cX8_leadsNow 52 = .ok (.getfield 67, 3) := by decide +kernel
theorem dX8_leadsNow_55 : decode cX8_leadsNow 55 = .ok (.iconst 2, 1) := by decide +kernel
theorem dX8_leadsNow_56 : decode cX8_leadsNow 56 = .ok (.iload 4, 2) := by decide +kernel
theorem dX8_leadsNow_58 : decode cX8_leadsNow 58 = .ok (.imul, 1) := by decide +kernel
theorem dX8_leadsNow_59 : decode cX8_leadsNow 59 = .ok (.iaload, 1) := by decide +kernel
theorem dX8_leadsNow_60 : decode cX8_leadsNow 60 = .ok (.invokevirtual 195, 3) := by decide +kernel
theorem dX8_leadsNow_63 : decode cX8_leadsNow 63 = .ok (.aload_n 0, 1) := by decide +kernel
theorem dX8_leadsNow_64 : decode cX8_leadsNow 64 = .ok (.getfield 67, 3) := by decide +kernel
theorem dX8_leadsNow_67 : decode cX8_leadsNow 67 = .ok (.iconst 2, 1) := by decide +kernel
theorem dX8_leadsNow_68 : decode cX8_leadsNow 68 = .ok (.iload 4, 2) := by decide +kernel
theorem dX8_leadsNow_70 : decode cX8_leadsNow 70 = .ok (.imul, 1) := by decide +kernel
theorem dX8_leadsNow_71 : decode cX8_leadsNow 71 = .ok (.iconst 1, 1) := by decide +kernel
theorem dX8_leadsNow_72 : decode cX8_leadsNow 72 = .ok (.iadd, 1) := by decide +kernel
theorem dX8_leadsNow_73 : decode cX8_leadsNow 73 = .ok (.iaload, 1) := by decide +kernel
theorem dX8_leadsNow_74 : decode cX8_leadsNow 74 = .ok (.if_icmp .ne 7, 3) := by decide +kernel
theorem dX8_leadsNow_77 : decode cX8_leadsNow 77 = .ok (.iconst 1, 1) := by decide +kernel
theorem dX8_leadsNow_78 : decode cX8_leadsNow 78 = .ok (.goto 4, 3) := by decide +kernel
theorem dX8_leadsNow_81 : decode cX8_leadsNow 81 = .ok (.iconst 0, 1) := by decide +kernel
theorem dX8_leadsNow_82 : decode cX8_leadsNow 82 = .ok (.istore_n 3, 1) := by decide +kernel
theorem dX8_leadsNow_83 : decode cX8_leadsNow 83 = .ok (.iinc 4 1, 3) := by decide +kernel
theorem dX8_leadsNow_86 : decode cX8_leadsNow 86 = .ok (.goto (-50), 3) := by decide +kernel
theorem dX8_leadsNow_89 : decode cX8_leadsNow 89 = .ok (.iload_n 1, 1) := by decide +kernel
theorem dX8_leadsNow_90 : decode cX8_leadsNow 90 = .ok (.iload_n 3, 1) := by decide +kernel
theorem dX8_leadsNow_91 : decode cX8_leadsNow 91 = .ok (.ifCond .eq 9, 3) := by decide +kernel
theorem dX8_leadsNow_94 : decode cX8_leadsNow 94 = .ok (.iconst 1, 1) := by decide +kernel
theorem dX8_leadsNow_95 : decode cX8_leadsNow 95 = .ok (.iload_n 2, 1) := by decide +kernel
theorem dX8_leadsNow_96 : decode cX8_leadsNow 96 = .ok (.ishl, 1) := by decide +kernel
theorem dX8_leadsNow_97 : decode cX8_leadsNow 97 = .ok (.goto 4, 3) := by decide +kernel
theorem dX8_leadsNow_100 : decode cX8_leadsNow 100 = .ok (.iconst 0, 1) := by decide +kernel
theorem dX8_leadsNow_101 : decode cX8_leadsNow 101 = .ok (.ior, 1) := by decide +kernel
theorem dX8_leadsNow_102 : decode cX8_leadsNow 102 = .ok (.istore_n 1, 1) := by decide +kernel
theorem dX8_leadsNow_103 : decode cX8_leadsNow 103 = .ok (.iinc 2 1, 3) := by decide +kernel
theorem dX8_leadsNow_106 : decode cX8_leadsNow 106 = .ok (.goto (-98), 3) := by decide +kernel
theorem dX8_leadsNow_109 : decode cX8_leadsNow 109 = .ok (.iload_n 1, 1) := by decide +kernel
theorem dX8_leadsNow_110 : decode cX8_leadsNow 110 = .ok (.ireturn, 1) := by decide +kernel
theorem dX8_leads_0 : decode cX8_leads 0 = .ok (.aload_n 0, 1) := by decide +kernel
theorem dX8_leads_1 : decode cX8_leads 1 = .ok (.invokevirtual 162, 3) := by decide +kernel
theorem dX8_leads_4 : decode cX8_leads 4 = .ok (.aload_n 0, 1) := by decide +kernel
theorem dX8_leads_5 : decode cX8_leads 5 = .ok (.invokevirtual 281, 3) := by decide +kernel
theorem dX8_leads_8 : decode cX8_leads 8 = .ok (.ireturn, 1) := by decide +kernel
theorem dX8_write_0 : decode cX8_write 0 = .ok (.iload_n 1, 1) := by decide +kernel
theorem dX8_write_1 : decode cX8_write 1 = .ok (.invokestatic 82, 3) := by decide +kernel
theorem dX8_write_4 : decode cX8_write 4 = .ok (.ifCond .ne 6, 3) := by decide +kernel
theorem dX8_write_7 : decode cX8_write 7 = .ok (.bipush (-2), 2) := by decide +kernel
theorem dX8_write_9 : decode cX8_write 9 = .ok (.ireturn, 1) := by decide +kernel
theorem dX8_write_10 : decode cX8_write 10 = .ok (.aload_n 0, 1) := by decide +kernel
theorem dX8_write_11 : decode cX8_write 11 = .ok (.getfield 7, 3) := by decide +kernel
theorem dX8_write_14 : decode cX8_write 14 = .ok (.iload_n 1, 1) := by decide +kernel
theorem dX8_write_15 : decode cX8_write 15 = .ok (.iaload, 1) := by decide +kernel
theorem dX8_write_16 : decode cX8_write 16 = .ok (.ifCond .ge 9, 3) := by decide +kernel
theorem dX8_write_19 : decode cX8_write 19 = .ok (.aload_n 0, 1) := by decide +kernel
theorem dX8_write_20 : decode cX8_write 20 = .ok (.iconst 1, 1) := by decide +kernel
theorem dX8_write_21 : decode cX8_write 21 = .ok (.invokevirtual 88, 3) := by decide +kernel
theorem dX8_write_24 : decode cX8_write 24 = .ok (.ireturn, 1) := by decide +kernel
theorem dX8_write_25 : decode cX8_write 25 = .ok (.aload_n 0, 1) := by decide +kernel
theorem dX8_write_26 : decode cX8_write 26 = .ok (.invokevirtual 162, 3) := by decide +kernel
theorem dX8_write_29 : decode cX8_write 29 = .ok (.aload_n 0, 1) := by decide +kernel
theorem dX8_write_30 : decode cX8_write 30 = .ok (.getfield 13, 3) := by decide +kernel
theorem dX8_write_33 : decode cX8_write 33 = .ok (.iload_n 1, 1) := by decide +kernel
theorem dX8_write_34 : decode cX8_write 34 = .ok (.iaload, 1) := by decide +kernel
theorem dX8_write_35 : decode cX8_write 35 = .ok (.aload_n 0, 1) := by decide +kernel
theorem dX8_write_36 : decode cX8_write 36 = .ok (.getfield 128, 3) := by decide +kernel
theorem dX8_write_39 : decode cX8_write 39 = .ok (.invokestatic 217, 3) := by decide +kernel
theorem dX8_write_42 : decode cX8_write 42 = .ok (.istore_n 2, 1) := by decide +kernel
theorem dX8_write_43 : decode cX8_write 43 = .ok (.iconst 0, 1) := by decide +kernel
theorem dX8_write_44 : decode cX8_write 44 = .ok (.istore_n 3, 1) := by decide +kernel
theorem dX8_write_45 : decode cX8_write 45 = .ok (.iload_n 3, 1) := by decide +kernel
theorem dX8_write_46 : decode cX8_write 46 = .ok (.iload_n 2, 1) := by decide +kernel
theorem dX8_write_47 : decode cX8_write 47 = .ok (.if_icmp .ge 35, 3) := by decide +kernel
theorem dX8_write_50 : decode cX8_write 50 = .ok (.aload_n 0, 1) := by decide +kernel
theorem dX8_write_51 : decode cX8_write 51 = .ok (.getfield 16, 3) := by decide +kernel
theorem dX8_write_54 : decode cX8_write 54 = .ok (.bipush 60, 2) := by decide +kernel
theorem dX8_write_56 : decode cX8_write 56 = .ok (.iload_n 1, 1) := by decide +kernel
theorem dX8_write_57 : decode cX8_write 57 = .ok (.imul, 1) := by decide +kernel
theorem dX8_write_58 : decode cX8_write 58 = .ok (.iload_n 3, 1) := by decide +kernel
theorem dX8_write_59 : decode cX8_write 59 = .ok (.iadd, 1) := by decide +kernel
theorem dX8_write_60 : decode cX8_write 60 = .ok (.aload_n 0, 1) := by decide +kernel
theorem dX8_write_61 : decode cX8_write 61 = .ok (.getfield 7, 3) := by decide +kernel
theorem dX8_write_64 : decode cX8_write 64 = .ok (.iload_n 1, 1) := by decide +kernel
theorem dX8_write_65 : decode cX8_write 65 = .ok (.iaload, 1) := by decide +kernel
theorem dX8_write_66 : decode cX8_write 66 = .ok (.aload_n 0, 1) := by decide +kernel
theorem dX8_write_67 : decode cX8_write 67 = .ok (.getfield 46, 3) := by decide +kernel
theorem dX8_write_70 : decode cX8_write 70 = .ok (.iload_n 3, 1) := by decide +kernel
theorem dX8_write_71 : decode cX8_write 71 = .ok (.iaload, 1) := by decide +kernel
theorem dX8_write_72 : decode cX8_write 72 = .ok (.invokestatic 96, 3) := by decide +kernel
theorem dX8_write_75 : decode cX8_write 75 = .ok (.iastore, 1) := by decide +kernel
theorem dX8_write_76 : decode cX8_write 76 = .ok (.iinc 3 1, 3) := by decide +kernel
theorem dX8_write_79 : decode cX8_write 79 = .ok (.goto (-34), 3) := by decide +kernel
theorem dX8_write_82 : decode cX8_write 82 = .ok (.iload_n 2, 1) := by decide +kernel
theorem dX8_write_83 : decode cX8_write 83 = .ok (.ireturn, 1) := by decide +kernel
theorem dX8_count_0 : decode cX8_count 0 = .ok (.iconst 0, 1) := by decide +kernel
theorem dX8_count_1 : decode cX8_count 1 = .ok (.istore_n 2, 1) := by decide +kernel
theorem dX8_count_2 : decode cX8_count 2 = .ok (.aload_n 0, 1) := by decide +kernel
theorem dX8_count_3 : decode cX8_count 3 = .ok (.invokevirtual 162, 3) := by decide +kernel
theorem dX8_count_6 : decode cX8_count 6 = .ok (.iload_n 1, 1) := by decide +kernel
theorem dX8_count_7 : decode cX8_count 7 = .ok (.tableswitch 142 0 8 #[49, 49, 56, 56, 65, 70, 97, 104, 137], 49) := by decide +kernel
theorem dX8_count_56 : decode cX8_count 56 = .ok (.aload_n 0, 1) := by decide +kernel
theorem dX8_count_57 : decode cX8_count 57 = .ok (.getfield 28, 3) := by decide +kernel
theorem dX8_count_60 : decode cX8_count 60 = .ok (.iload_n 1, 1) := by decide +kernel
theorem dX8_count_61 : decode cX8_count 61 = .ok (.iaload, 1) := by decide +kernel
theorem dX8_count_62 : decode cX8_count 62 = .ok (.ireturn, 1) := by decide +kernel
theorem dX8_count_63 : decode cX8_count 63 = .ok (.aload_n 0, 1) := by decide +kernel
theorem dX8_count_64 : decode cX8_count 64 = .ok (.getfield 25, 3) := by decide +kernel
theorem dX8_count_67 : decode cX8_count 67 = .ok (.iload_n 1, 1) := by decide +kernel
theorem dX8_count_68 : decode cX8_count 68 = .ok (.iconst 2, 1) := by decide +kernel
theorem dX8_count_69 : decode cX8_count 69 = .ok (.isub, 1) := by decide +kernel
theorem dX8_count_70 : decode cX8_count 70 = .ok (.iaload, 1) := by decide +kernel
theorem dX8_count_71 : decode cX8_count 71 = .ok (.ireturn, 1) := by decide +kernel
theorem dX8_count_72 : decode cX8_count 72 = .ok (.aload_n 0, 1) := by decide +kernel
theorem dX8_count_73 : decode cX8_count 73 = .ok (.getfield 276, 3) := by decide +kernel
theorem dX8_count_76 : decode cX8_count 76 = .ok (.ireturn, 1) := by decide +kernel
theorem dX8_count_77 : decode cX8_count 77 = .ok (.iconst 0, 1) := by decide +kernel
theorem dX8_count_78 : decode cX8_count 78 = .ok (.istore_n 3, 1) := by decide +kernel
theorem dX8_count_79 : decode cX8_count 79 = .ok (.iload_n 3, 1) := by decide +kernel
theorem dX8_count_80 : decode cX8_count 80 = .ok (.aload_n 0, 1) := by decide +kernel
theorem dX8_count_81 : decode cX8_count 81 = .ok (.getfield 128, 3) := by decide +kernel
theorem dX8_count_84 : decode cX8_count 84 = .ok (.if_icmp .ge 18, 3) := by decide +kernel
theorem dX8_count_87 : decode cX8_count 87 = .ok (.iload_n 2, 1) := by decide +kernel
theorem dX8_count_88 : decode cX8_count 88 = .ok (.aload_n 0, 1) := by decide +kernel
theorem dX8_count_89 : decode cX8_count 89 = .ok (.getfield 40, 3) := by decide +kernel
theorem dX8_count_92 : decode cX8_count 92 = .ok (.iload_n 3, 1) := by decide +kernel
theorem dX8_count_93 : decode cX8_count 93 = .ok (.iaload, 1) := by decide +kernel
theorem dX8_count_94 : decode cX8_count 94 = .ok (.iadd, 1) := by decide +kernel
theorem dX8_count_95 : decode cX8_count 95 = .ok (.istore_n 2, 1) := by decide +kernel
theorem dX8_count_96 : decode cX8_count 96 = .ok (.iinc 3 1, 3) := by decide +kernel
theorem dX8_count_99 : decode cX8_count 99 = .ok (.goto (-20), 3) := by decide +kernel
theorem dX8_count_102 : decode cX8_count 102 = .ok (.iload_n 2, 1) := by decide +kernel
theorem dX8_count_103 : decode cX8_count 103 = .ok (.ireturn, 1) := by decide +kernel
theorem dX8_count_104 : decode cX8_count 104 = .ok (.aload_n 0, 1) := by decide +kernel
theorem dX8_count_105 : decode cX8_count 105 = .ok (.getfield 34, 3) := by decide +kernel
theorem dX8_count_108 : decode cX8_count 108 = .ok (.iconst 0, 1) := by decide +kernel
theorem dX8_count_109 : decode cX8_count 109 = .ok (.iaload, 1) := by decide +kernel
theorem dX8_count_110 : decode cX8_count 110 = .ok (.ireturn, 1) := by decide +kernel
theorem dX8_count_111 : decode cX8_count 111 = .ok (.iconst 0, 1) := by decide +kernel
theorem dX8_count_112 : decode cX8_count 112 = .ok (.istore_n 3, 1) := by decide +kernel
theorem dX8_count_113 : decode cX8_count 113 = .ok (.iload_n 3, 1) := by decide +kernel
theorem dX8_count_114 : decode cX8_count 114 = .ok (.aload_n 0, 1) := by decide +kernel
theorem dX8_count_115 : decode cX8_count 115 = .ok (.getfield 28, 3) := by decide +kernel
theorem dX8_count_118 : decode cX8_count 118 = .ok (.iconst 0, 1) := by decide +kernel
theorem dX8_count_119 : decode cX8_count 119 = .ok (.iaload, 1) := by decide +kernel
theorem dX8_count_120 : decode cX8_count 120 = .ok (.if_icmp .ge 22, 3) := by decide +kernel
theorem dX8_count_123 : decode cX8_count 123 = .ok (.iload_n 2, 1) := by decide +kernel
theorem dX8_count_124 : decode cX8_count 124 = .ok (.aload_n 0, 1) := by decide +kernel
theorem dX8_count_125 : decode cX8_count 125 = .ok (.getfield 34, 3) := by decide +kernel
theorem dX8_count_128 : decode cX8_count 128 = .ok (.iconst 5, 1) := by decide +kernel
theorem dX8_count_129 : decode cX8_count 129 = .ok (.iaload, 1) := by decide +kernel
theorem dX8_count_130 : decode cX8_count 130 = .ok (.iload_n 3, 1) := by decide +kernel
theorem dX8_count_131 : decode cX8_count 131 = .ok (.ishr, 1) := by decide +kernel
theorem dX8_count_132 : decode cX8_count 132 = .ok (.iconst 1, 1) := by decide +kernel
theorem dX8_count_133 : decode cX8_count 133 = .ok (.iand, 1) := by decide +kernel
theorem dX8_count_134 : decode cX8_count 134 = .ok (.iadd, 1) := by decide +kernel
theorem dX8_count_135 : decode cX8_count 135 = .ok (.istore_n 2, 1) := by decide +kernel
theorem dX8_count_136 : decode cX8_count 136 = .ok (.iinc 3 1, 3) := by decide +kernel
theorem dX8_count_139 : decode cX8_count 139 = .ok (.goto (-26), 3) := by decide +kernel
theorem dX8_count_142 : decode cX8_count 142 = .ok (.iload_n 2, 1) := by decide +kernel
theorem dX8_count_143 : decode cX8_count 143 = .ok (.ireturn, 1) := by decide +kernel
theorem dX8_count_144 : decode cX8_count 144 = .ok (.aload_n 0, 1) := by decide +kernel
theorem dX8_count_145 : decode cX8_count 145 = .ok (.getfield 76, 3) := by decide +kernel
theorem dX8_count_148 : decode cX8_count 148 = .ok (.ireturn, 1) := by decide +kernel
theorem dX8_count_149 : decode cX8_count 149 = .ok (.bipush (-2), 2) := by decide +kernel
theorem dX8_count_151 : decode cX8_count 151 = .ok (.ireturn, 1) := by decide +kernel
theorem dX8_digest_0 : decode cX8_digest 0 = .ok (.ldc2_w 284, 3) := by decide +kernel
theorem dX8_digest_3 : decode cX8_digest 3 = .ok (.lstore_n 1, 1) := by decide +kernel
theorem dX8_digest_4 : decode cX8_digest 4 = .ok (.iconst 0, 1) := by decide +kernel
theorem dX8_digest_5 : decode cX8_digest 5 = .ok (.istore_n 3, 1) := by decide +kernel
theorem dX8_digest_6 : decode cX8_digest 6 = .ok (.iload_n 3, 1) := by decide +kernel
theorem dX8_digest_7 : decode cX8_digest 7 = .ok (.bipush 8, 2) := by decide +kernel
theorem dX8_digest_9 : decode cX8_digest 9 = .ok (.if_icmp .ge 22, 3) := by decide +kernel
theorem dX8_digest_12 : decode cX8_digest 12 = .ok (.ldc2_w 286, 3) := by decide +kernel
theorem dX8_digest_15 : decode cX8_digest 15 = .ok (.lload_n 1, 1) := by decide +kernel
theorem dX8_digest_16 : decode cX8_digest 16 = .ok (.lmul, 1) := by decide +kernel
theorem dX8_digest_17 : decode cX8_digest 17 = .ok (.aload_n 0, 1) := by decide +kernel
theorem dX8_digest_18 : decode cX8_digest 18 = .ok (.iload_n 3, 1) := by decide +kernel
theorem dX8_digest_19 : decode cX8_digest 19 = .ok (.invokevirtual 288, 3) := by decide +kernel
theorem dX8_digest_22 : decode cX8_digest 22 = .ok (.i2l, 1) := by decide +kernel
theorem dX8_digest_23 : decode cX8_digest 23 = .ok (.ladd, 1) := by decide +kernel
theorem dX8_digest_24 : decode cX8_digest 24 = .ok (.lstore_n 1, 1) := by decide +kernel
theorem dX8_digest_25 : decode cX8_digest 25 = .ok (.iinc 3 1, 3) := by decide +kernel
theorem dX8_digest_28 : decode cX8_digest 28 = .ok (.goto (-22), 3) := by decide +kernel
theorem dX8_digest_31 : decode cX8_digest 31 = .ok (.iconst 0, 1) := by decide +kernel
theorem dX8_digest_32 : decode cX8_digest 32 = .ok (.istore_n 3, 1) := by decide +kernel
theorem dX8_digest_33 : decode cX8_digest 33 = .ok (.iload_n 3, 1) := by decide +kernel
theorem dX8_digest_34 : decode cX8_digest 34 = .ok (.iconst 2, 1) := by decide +kernel
theorem dX8_digest_35 : decode cX8_digest 35 = .ok (.if_icmp .ge 22, 3) := by decide +kernel
theorem dX8_digest_38 : decode cX8_digest 38 = .ok (.ldc2_w 286, 3) := by decide +kernel
theorem dX8_digest_41 : decode cX8_digest 41 = .ok (.lload_n 1, 1) := by decide +kernel
theorem dX8_digest_42 : decode cX8_digest 42 = .ok (.lmul, 1) := by decide +kernel
theorem dX8_digest_43 : decode cX8_digest 43 = .ok (.aload_n 0, 1) := by decide +kernel
theorem dX8_digest_44 : decode cX8_digest 44 = .ok (.iload_n 3, 1) := by decide +kernel
theorem dX8_digest_45 : decode cX8_digest 45 = .ok (.invokevirtual 120, 3) := by decide +kernel
theorem dX8_digest_48 : decode cX8_digest 48 = .ok (.i2l, 1) := by decide +kernel
theorem dX8_digest_49 : decode cX8_digest 49 = .ok (.ladd, 1) := by decide +kernel
theorem dX8_digest_50 : decode cX8_digest 50 = .ok (.lstore_n 1, 1) := by decide +kernel
theorem dX8_digest_51 : decode cX8_digest 51 = .ok (.iinc 3 1, 3) := by decide +kernel
theorem dX8_digest_54 : decode cX8_digest 54 = .ok (.goto (-21), 3) := by decide +kernel
theorem dX8_digest_57 : decode cX8_digest 57 = .ok (.iconst 0, 1) := by decide +kernel
theorem dX8_digest_58 : decode cX8_digest 58 = .ok (.istore_n 3, 1) := by decide +kernel
theorem dX8_digest_59 : decode cX8_digest 59 = .ok (.iload_n 3, 1) := by decide +kernel
theorem dX8_digest_60 : decode cX8_digest 60 = .ok (.aload_n 0, 1) := by decide +kernel
theorem dX8_digest_61 : decode cX8_digest 61 = .ok (.getfield 28, 3) := by decide +kernel
theorem dX8_digest_64 : decode cX8_digest 64 = .ok (.iconst 0, 1) := by decide +kernel
theorem dX8_digest_65 : decode cX8_digest 65 = .ok (.iaload, 1) := by decide +kernel
theorem dX8_digest_66 : decode cX8_digest 66 = .ok (.if_icmp .ge 83, 3) := by decide +kernel
theorem dX8_digest_69 : decode cX8_digest 69 = .ok (.iconst 0, 1) := by decide +kernel
theorem dX8_digest_70 : decode cX8_digest 70 = .ok (.istore 4, 2) := by decide +kernel
theorem dX8_digest_72 : decode cX8_digest 72 = .ok (.iload 4, 2) := by decide +kernel
theorem dX8_digest_74 : decode cX8_digest 74 = .ok (.bipush 6, 2) := by decide +kernel
theorem dX8_digest_76 : decode cX8_digest 76 = .ok (.if_icmp .ge 24, 3) := by decide +kernel
theorem dX8_digest_79 : decode cX8_digest 79 = .ok (.ldc2_w 286, 3) := by decide +kernel
theorem dX8_digest_82 : decode cX8_digest 82 = .ok (.lload_n 1, 1) := by decide +kernel
theorem dX8_digest_83 : decode cX8_digest 83 = .ok (.lmul, 1) := by decide +kernel
theorem dX8_digest_84 : decode cX8_digest 84 = .ok (.aload_n 0, 1) := by decide +kernel
theorem dX8_digest_85 : decode cX8_digest 85 = .ok (.iload_n 3, 1) := by decide +kernel
theorem dX8_digest_86 : decode cX8_digest 86 = .ok (.iload 4, 2) := by decide +kernel
theorem dX8_digest_88 : decode cX8_digest 88 = .ok (.invokevirtual 168, 3) := by decide +kernel
theorem dX8_digest_91 : decode cX8_digest 91 = .ok (.i2l, 1) := by decide +kernel
theorem dX8_digest_92 : decode cX8_digest 92 = .ok (.ladd, 1) := by decide +kernel
theorem dX8_digest_93 : decode cX8_digest 93 = .ok (.lstore_n 1, 1) := by decide +kernel
theorem dX8_digest_94 : decode cX8_digest 94 = .ok (.iinc 4 1, 3) := by decide +kernel
theorem dX8_digest_97 : decode cX8_digest 97 = .ok (.goto (-25), 3) := by decide +kernel
theorem dX8_digest_100 : decode cX8_digest 100 = .ok (.iconst 0, 1) := by decide +kernel
theorem dX8_digest_101 : decode cX8_digest 101 = .ok (.istore 4, 2) := by decide +kernel
theorem dX8_digest_103 : decode cX8_digest 103 = .ok (.iload 4, 2) := by decide +kernel
theorem dX8_digest_105 : decode cX8_digest 105 = .ok (.iconst 5, 1) := by decide +kernel
theorem dX8_digest_106 : decode cX8_digest 106 = .ok (.if_icmp .ge 24, 3) := by decide +kernel
theorem dX8_digest_109 : decode cX8_digest 109 = .ok (.ldc2_w 286, 3) := by decide +kernel
theorem dX8_digest_112 : decode cX8_digest 112 = .ok (.lload_n 1, 1) := by decide +kernel
theorem dX8_digest_113 : decode cX8_digest 113 = .ok (.lmul, 1) := by decide +kernel
theorem dX8_digest_114 : decode cX8_digest 114 = .ok (.aload_n 0, 1) := by decide +kernel
theorem dX8_digest_115 : decode cX8_digest 115 = .ok (.iload_n 3, 1) := by decide +kernel
theorem dX8_digest_116 : decode cX8_digest 116 = .ok (.iload 4, 2) := by decide +kernel
theorem dX8_digest_118 : decode cX8_digest 118 = .ok (.invokevirtual 173, 3) := by decide +kernel
theorem dX8_digest_121 : decode cX8_digest 121 = .ok (.i2l, 1) := by decide +kernel
theorem dX8_digest_122 : decode cX8_digest 122 = .ok (.ladd, 1) := by decide +kernel
theorem dX8_digest_123 : decode cX8_digest 123 = .ok (.lstore_n 1, 1) := by decide +kernel
theorem dX8_digest_124 : decode cX8_digest 124 = .ok (.iinc 4 1, 3) := by decide +kernel
theorem dX8_digest_127 : decode cX8_digest 127 = .ok (.goto (-24), 3) := by decide +kernel
theorem dX8_digest_130 : decode cX8_digest 130 = .ok (.ldc2_w 286, 3) := by decide +kernel
theorem dX8_digest_133 : decode cX8_digest 133 = .ok (.lload_n 1, 1) := by decide +kernel
theorem dX8_digest_134 : decode cX8_digest 134 = .ok (.lmul, 1) := by decide +kernel
theorem dX8_digest_135 : decode cX8_digest 135 = .ok (.aload_n 0, 1) := by decide +kernel
theorem dX8_digest_136 : decode cX8_digest 136 = .ok (.iload_n 3, 1) := by decide +kernel
theorem dX8_digest_137 : decode cX8_digest 137 = .ok (.invokevirtual 189, 3) := by decide +kernel
theorem dX8_digest_140 : decode cX8_digest 140 = .ok (.i2l, 1) := by decide +kernel
theorem dX8_digest_141 : decode cX8_digest 141 = .ok (.ladd, 1) := by decide +kernel
theorem dX8_digest_142 : decode cX8_digest 142 = .ok (.lstore_n 1, 1) := by decide +kernel
theorem dX8_digest_143 : decode cX8_digest 143 = .ok (.iinc 3 1, 3) := by decide +kernel
theorem dX8_digest_146 : decode cX8_digest 146 = .ok (.goto (-87), 3) := by decide +kernel
theorem dX8_digest_149 : decode cX8_digest 149 = .ok (.iconst 0, 1) := by decide +kernel
theorem dX8_digest_150 : decode cX8_digest 150 = .ok (.istore_n 3, 1) := by decide +kernel
theorem dX8_digest_151 : decode cX8_digest 151 = .ok (.iload_n 3, 1) := by decide +kernel
theorem dX8_digest_152 : decode cX8_digest 152 = .ok (.iconst 4, 1) := by decide +kernel
theorem dX8_digest_153 : decode cX8_digest 153 = .ok (.if_icmp .ge 22, 3) := by decide +kernel
theorem dX8_digest_156 : decode cX8_digest 156 = .ok (.ldc2_w 286, 3) := by decide +kernel
theorem dX8_digest_159 : decode cX8_digest 159 = .ok (.lload_n 1, 1) := by decide +kernel
theorem dX8_digest_160 : decode cX8_digest 160 = .ok (.lmul, 1) := by decide +kernel
theorem dX8_digest_161 : decode cX8_digest 161 = .ok (.aload_n 0, 1) := by decide +kernel
theorem dX8_digest_162 : decode cX8_digest 162 = .ok (.iload_n 3, 1) := by decide +kernel
theorem dX8_digest_163 : decode cX8_digest 163 = .ok (.invokevirtual 176, 3) := by decide +kernel
theorem dX8_digest_166 : decode cX8_digest 166 = .ok (.i2l, 1) := by decide +kernel
theorem dX8_digest_167 : decode cX8_digest 167 = .ok (.ladd, 1) := by decide +kernel
theorem dX8_digest_168 : decode cX8_digest 168 = .ok (.lstore_n 1, 1) := by decide +kernel
theorem dX8_digest_169 : decode cX8_digest 169 = .ok (.iinc 3 1, 3) := by decide +kernel
theorem dX8_digest_172 : decode cX8_digest 172 = .ok (.goto (-21), 3) := by decide +kernel
theorem dX8_digest_175 : decode cX8_digest 175 = .ok (.ldc2_w 286, 3) := by decide +kernel
theorem dX8_digest_178 : decode cX8_digest 178 = .ok (.lload_n 1, 1) := by decide +kernel
theorem dX8_digest_179 : decode cX8_digest 179 = .ok (.lmul, 1) := by decide +kernel
theorem dX8_digest_180 : decode cX8_digest 180 = .ok (.aload_n 0, 1) := by decide +kernel
theorem dX8_digest_181 : decode cX8_digest 181 = .ok (.invokevirtual 179, 3) := by decide +kernel
theorem dX8_digest_184 : decode cX8_digest 184 = .ok (.i2l, 1) := by decide +kernel
theorem dX8_digest_185 : decode cX8_digest 185 = .ok (.ladd, 1) := by decide +kernel
theorem dX8_digest_186 : decode cX8_digest 186 = .ok (.lstore_n 1, 1) := by decide +kernel
theorem dX8_digest_187 : decode cX8_digest 187 = .ok (.iconst 0, 1) := by decide +kernel
theorem dX8_digest_188 : decode cX8_digest 188 = .ok (.istore_n 3, 1) := by decide +kernel
theorem dX8_digest_189 : decode cX8_digest 189 = .ok (.iload_n 3, 1) := by decide +kernel
theorem dX8_digest_190 : decode cX8_digest 190 = .ok (.bipush 10, 2) := by decide +kernel
theorem dX8_digest_192 : decode cX8_digest 192 = .ok (.if_icmp .ge 39, 3) := by decide +kernel
theorem dX8_digest_195 : decode cX8_digest 195 = .ok (.iconst 0, 1) := by decide +kernel
theorem dX8_digest_196 : decode cX8_digest 196 = .ok (.istore 4, 2) := by decide +kernel
theorem dX8_digest_198 : decode cX8_digest 198 = .ok (.iload 4, 2) := by decide +kernel
theorem dX8_digest_200 : decode cX8_digest 200 = .ok (.iconst 3, 1) := by decide +kernel
theorem dX8_digest_201 : decode cX8_digest 201 = .ok (.if_icmp .ge 24, 3) := by decide +kernel
theorem dX8_digest_204 : decode cX8_digest 204 = .ok (.ldc2_w 286, 3) := by decide +kernel
theorem dX8_digest_207 : decode cX8_digest 207 = .ok (.lload_n 1, 1) := by decide +kernel
theorem dX8_digest_208 : decode cX8_digest 208 = .ok (.lmul, 1) := by decide +kernel
theorem dX8_digest_209 : decode cX8_digest 209 = .ok (.aload_n 0, 1) := by decide +kernel
theorem dX8_digest_210 : decode cX8_digest 210 = .ok (.iload_n 3, 1) := by decide +kernel
theorem dX8_digest_211 : decode cX8_digest 211 = .ok (.iload 4, 2) := by decide +kernel
theorem dX8_digest_213 : decode cX8_digest 213 = .ok (.invokevirtual 203, 3) := by decide +kernel
theorem dX8_digest_216 : decode cX8_digest 216 = .ok (.i2l, 1) := by decide +kernel
theorem dX8_digest_217 : decode cX8_digest 217 = .ok (.ladd, 1) := by decide +kernel
theorem dX8_digest_218 : decode cX8_digest 218 = .ok (.lstore_n 1, 1) := by decide +kernel
theorem dX8_digest_219 : decode cX8_digest 219 = .ok (.iinc 4 1, 3) := by decide +kernel
theorem dX8_digest_222 : decode cX8_digest 222 = .ok (.goto (-24), 3) := by decide +kernel
theorem dX8_digest_225 : decode cX8_digest 225 = .ok (.iinc 3 1, 3) := by decide +kernel
theorem dX8_digest_228 : decode cX8_digest 228 = .ok (.goto (-39), 3) := by decide +kernel
theorem dX8_digest_231 : decode cX8_digest 231 = .ok (.aload_n 0, 1) := by decide +kernel
theorem dX8_digest_232 : decode cX8_digest 232 = .ok (.invokevirtual 214, 3) := by decide +kernel
theorem dX8_digest_235 : decode cX8_digest 235 = .ok (.iconst 0, 1) := by decide +kernel
theorem dX8_digest_236 : decode cX8_digest 236 = .ok (.istore_n 3, 1) := by decide +kernel
theorem dX8_digest_237 : decode cX8_digest 237 = .ok (.iload_n 3, 1) := by decide +kernel
theorem dX8_digest_238 : decode cX8_digest 238 = .ok (.bipush 6, 2) := by decide +kernel
theorem dX8_digest_240 : decode cX8_digest 240 = .ok (.if_icmp .ge 23, 3) := by decide +kernel
theorem dX8_digest_243 : decode cX8_digest 243 = .ok (.ldc2_w 286, 3) := by decide +kernel
theorem dX8_digest_246 : decode cX8_digest 246 = .ok (.lload_n 1, 1) := by decide +kernel
theorem dX8_digest_247 : decode cX8_digest 247 = .ok (.lmul, 1) := by decide +kernel
theorem dX8_digest_248 : decode cX8_digest 248 = .ok (.aload_n 0, 1) := by decide +kernel
theorem dX8_digest_249 : decode cX8_digest 249 = .ok (.getfield 61, 3) := by decide +kernel
theorem dX8_digest_252 : decode cX8_digest 252 = .ok (.iload_n 3, 1) := by decide +kernel
theorem dX8_digest_253 : decode cX8_digest 253 = .ok (.iaload, 1) := by decide +kernel
theorem dX8_digest_254 : decode cX8_digest 254 = .ok (.i2l, 1) := by decide +kernel
theorem dX8_digest_255 : decode cX8_digest 255 = .ok (.ladd, 1) := by decide +kernel
theorem dX8_digest_256 : decode cX8_digest 256 = .ok (.lstore_n 1, 1) := by decide +kernel
theorem dX8_digest_257 : decode cX8_digest 257 = .ok (.iinc 3 1, 3) := by decide +kernel
theorem dX8_digest_260 : decode cX8_digest 260 = .ok (.goto (-23), 3) := by decide +kernel
theorem dX8_digest_263 : decode cX8_digest 263 = .ok (.aload_n 0, 1) := by decide +kernel
theorem dX8_digest_264 : decode cX8_digest 264 = .ok (.invokevirtual 234, 3) := by decide +kernel
theorem dX8_digest_267 : decode cX8_digest 267 = .ok (.bipush (-2), 2) := by decide +kernel
theorem dX8_digest_269 : decode cX8_digest 269 = .ok (.istore_n 3, 1) := by decide +kernel
theorem dX8_digest_270 : decode cX8_digest 270 = .ok (.iload_n 3, 1) := by decide +kernel
theorem dX8_digest_271 : decode cX8_digest 271 = .ok (.iconst 3, 1) := by decide +kernel
theorem dX8_digest_272 : decode cX8_digest 272 = .ok (.if_icmp .ge 22, 3) := by decide +kernel
theorem dX8_digest_275 : decode cX8_digest 275 = .ok (.ldc2_w 286, 3) := by decide +kernel
theorem dX8_digest_278 : decode cX8_digest 278 = .ok (.lload_n 1, 1) := by decide +kernel
theorem dX8_digest_279 : decode cX8_digest 279 = .ok (.lmul, 1) := by decide +kernel
theorem dX8_digest_280 : decode cX8_digest 280 = .ok (.aload_n 0, 1) := by decide +kernel
theorem dX8_digest_281 : decode cX8_digest 281 = .ok (.iload_n 3, 1) := by decide +kernel
theorem dX8_digest_282 : decode cX8_digest 282 = .ok (.invokevirtual 237, 3) := by decide +kernel
theorem dX8_digest_285 : decode cX8_digest 285 = .ok (.i2l, 1) := by decide +kernel
theorem dX8_digest_286 : decode cX8_digest 286 = .ok (.ladd, 1) := by decide +kernel
theorem dX8_digest_287 : decode cX8_digest 287 = .ok (.lstore_n 1, 1) := by decide +kernel
theorem dX8_digest_288 : decode cX8_digest 288 = .ok (.iinc 3 1, 3) := by decide +kernel
theorem dX8_digest_291 : decode cX8_digest 291 = .ok (.goto (-21), 3) := by decide +kernel
theorem dX8_digest_294 : decode cX8_digest 294 = .ok (.ldc2_w 286, 3) := by decide +kernel
theorem dX8_digest_297 : decode cX8_digest 297 = .ok (.lload_n 1, 1) := by decide +kernel
theorem dX8_digest_298 : decode cX8_digest 298 = .ok (.lmul, 1) := by decide +kernel
theorem dX8_digest_299 : decode cX8_digest 299 = .ok (.aload_n 0, 1) := by decide +kernel
theorem dX8_digest_300 : decode cX8_digest 300 = .ok (.invokevirtual 240, 3) := by decide +kernel
theorem dX8_digest_303 : decode cX8_digest 303 = .ok (.i2l, 1) := by decide +kernel
theorem dX8_digest_304 : decode cX8_digest 304 = .ok (.ladd, 1) := by decide +kernel
theorem dX8_digest_305 : decode cX8_digest 305 = .ok (.lstore_n 1, 1) := by decide +kernel
theorem dX8_digest_306 : decode cX8_digest 306 = .ok (.aload_n 0, 1) := by decide +kernel
theorem dX8_digest_307 : decode cX8_digest 307 = .ok (.invokevirtual 162, 3) := by decide +kernel
theorem dX8_digest_310 : decode cX8_digest 310 = .ok (.iconst 0, 1) := by decide +kernel
theorem dX8_digest_311 : decode cX8_digest 311 = .ok (.istore_n 3, 1) := by decide +kernel
theorem dX8_digest_312 : decode cX8_digest 312 = .ok (.iload_n 3, 1) := by decide +kernel
theorem dX8_digest_313 : decode cX8_digest 313 = .ok (.iconst 4, 1) := by decide +kernel
theorem dX8_digest_314 : decode cX8_digest 314 = .ok (.if_icmp .ge 21, 3) := by decide +kernel
theorem dX8_digest_317 : decode cX8_digest 317 = .ok (.ldc2_w 286, 3) := by decide +kernel
theorem dX8_digest_320 : decode cX8_digest 320 = .ok (.lload_n 1, 1) := by decide +kernel
theorem dX8_digest_321 : decode cX8_digest 321 = .ok (.lmul, 1) := by decide +kernel
theorem dX8_digest_322 : decode cX8_digest 322 = .ok (.aload_n 0, 1) := by decide +kernel
theorem dX8_digest_323 : decode cX8_digest 323 = .ok (.iload_n 3, 1) := by decide +kernel
theorem dX8_digest_324 : decode cX8_digest 324 = .ok (.invokevirtual 249, 3) := by decide +kernel
theorem dX8_digest_327 : decode cX8_digest 327 = .ok (.ladd, 1) := by decide +kernel
theorem dX8_digest_328 : decode cX8_digest 328 = .ok (.lstore_n 1, 1) := by decide +kernel
theorem dX8_digest_329 : decode cX8_digest 329 = .ok (.iinc 3 1, 3) := by decide +kernel
theorem dX8_digest_332 : decode cX8_digest 332 = .ok (.goto (-20), 3) := by decide +kernel
theorem dX8_digest_335 : decode cX8_digest 335 = .ok (.ldc2_w 286, 3) := by decide +kernel
theorem dX8_digest_338 : decode cX8_digest 338 = .ok (.lload_n 1, 1) := by decide +kernel
theorem dX8_digest_339 : decode cX8_digest 339 = .ok (.lmul, 1) := by decide +kernel
theorem dX8_digest_340 : decode cX8_digest 340 = .ok (.aload_n 0, 1) := by decide +kernel
theorem dX8_digest_341 : decode cX8_digest 341 = .ok (.bipush 7, 2) := by decide +kernel
theorem dX8_digest_343 : decode cX8_digest 343 = .ok (.invokevirtual 257, 3) := by decide +kernel
theorem dX8_digest_346 : decode cX8_digest 346 = .ok (.i2l, 1) := by decide +kernel
theorem dX8_digest_347 : decode cX8_digest 347 = .ok (.ladd, 1) := by decide +kernel
theorem dX8_digest_348 : decode cX8_digest 348 = .ok (.lstore_n 1, 1) := by decide +kernel
theorem dX8_digest_349 : decode cX8_digest 349 = .ok (.iconst 0, 1) := by decide +kernel
theorem dX8_digest_350 : decode cX8_digest 350 = .ok (.istore_n 3, 1) := by decide +kernel
theorem dX8_digest_351 : decode cX8_digest 351 = .ok (.iload_n 3, 1) := by decide +kernel
theorem dX8_digest_352 : decode cX8_digest 352 = .ok (.iconst 2, 1) := by decide +kernel
theorem dX8_digest_353 : decode cX8_digest 353 = .ok (.if_icmp .ge 23, 3) := by decide +kernel
theorem dX8_digest_356 : decode cX8_digest 356 = .ok (.ldc2_w 286, 3) := by decide +kernel
theorem dX8_digest_359 : decode cX8_digest 359 = .ok (.lload_n 1, 1) := by decide +kernel
theorem dX8_digest_360 : decode cX8_digest 360 = .ok (.lmul, 1) := by decide +kernel
theorem dX8_digest_361 : decode cX8_digest 361 = .ok (.aload_n 0, 1) := by decide +kernel
theorem dX8_digest_362 : decode cX8_digest 362 = .ok (.iconst (-1), 1) := by decide +kernel
theorem dX8_digest_363 : decode cX8_digest 363 = .ok (.iload_n 3, 1) := by decide +kernel
theorem dX8_digest_364 : decode cX8_digest 364 = .ok (.invokevirtual 271, 3) := by decide +kernel
theorem dX8_digest_367 : decode cX8_digest 367 = .ok (.i2l, 1) := by decide +kernel
theorem dX8_digest_368 : decode cX8_digest 368 = .ok (.ladd, 1) := by decide +kernel
theorem dX8_digest_369 : decode cX8_digest 369 = .ok (.lstore_n 1, 1) := by decide +kernel
theorem dX8_digest_370 : decode cX8_digest 370 = .ok (.iinc 3 1, 3) := by decide +kernel
theorem dX8_digest_373 : decode cX8_digest 373 = .ok (.goto (-22), 3) := by decide +kernel
theorem dX8_digest_376 : decode cX8_digest 376 = .ok (.iconst 0, 1) := by decide +kernel
theorem dX8_digest_377 : decode cX8_digest 377 = .ok (.istore_n 3, 1) := by decide +kernel
theorem dX8_digest_378 : decode cX8_digest 378 = .ok (.iload_n 3, 1) := by decide +kernel
theorem dX8_digest_379 : decode cX8_digest 379 = .ok (.iconst 2, 1) := by decide +kernel
theorem dX8_digest_380 : decode cX8_digest 380 = .ok (.if_icmp .ge 23, 3) := by decide +kernel
theorem dX8_digest_383 : decode cX8_digest 383 = .ok (.ldc2_w 286, 3) := by decide +kernel
theorem dX8_digest_386 : decode cX8_digest 386 = .ok (.lload_n 1, 1) := by decide +kernel
theorem dX8_digest_387 : decode cX8_digest 387 = .ok (.lmul, 1) := by decide +kernel
theorem dX8_digest_388 : decode cX8_digest 388 = .ok (.aload_n 0, 1) := by decide +kernel
theorem dX8_digest_389 : decode cX8_digest 389 = .ok (.iconst 5, 1) := by decide +kernel
theorem dX8_digest_390 : decode cX8_digest 390 = .ok (.iload_n 3, 1) := by decide +kernel
theorem dX8_digest_391 : decode cX8_digest 391 = .ok (.invokevirtual 271, 3) := by decide +kernel
theorem dX8_digest_394 : decode cX8_digest 394 = .ok (.i2l, 1) := by decide +kernel
theorem dX8_digest_395 : decode cX8_digest 395 = .ok (.ladd, 1) := by decide +kernel
theorem dX8_digest_396 : decode cX8_digest 396 = .ok (.lstore_n 1, 1) := by decide +kernel
theorem dX8_digest_397 : decode cX8_digest 397 = .ok (.iinc 3 1, 3) := by decide +kernel
theorem dX8_digest_400 : decode cX8_digest 400 = .ok (.goto (-22), 3) := by decide +kernel
theorem dX8_digest_403 : decode cX8_digest 403 = .ok (.ldc2_w 286, 3) := by decide +kernel
theorem dX8_digest_406 : decode cX8_digest 406 = .ok (.lload_n 1, 1) := by decide +kernel
theorem dX8_digest_407 : decode cX8_digest 407 = .ok (.lmul, 1) := by decide +kernel
theorem dX8_digest_408 : decode cX8_digest 408 = .ok (.aload_n 0, 1) := by decide +kernel
theorem dX8_digest_409 : decode cX8_digest 409 = .ok (.invokevirtual 281, 3) := by decide +kernel
theorem dX8_digest_412 : decode cX8_digest 412 = .ok (.i2l, 1) := by decide +kernel
theorem dX8_digest_413 : decode cX8_digest 413 = .ok (.ladd, 1) := by decide +kernel
theorem dX8_digest_414 : decode cX8_digest 414 = .ok (.lreturn, 1) := by decide +kernel
theorem dL_law_0 : decode cL_law 0 = .ok (.new 7, 3) := by decide +kernel
theorem dL_law_3 : decode cL_law 3 = .ok (.dup, 1) := by decide +kernel
theorem dL_law_4 : decode cL_law 4 = .ok (.invokespecial 9, 3) := by decide +kernel
theorem dL_law_7 : decode cL_law 7 = .ok (.astore_n 1, 1) := by decide +kernel
theorem dL_law_8 : decode cL_law 8 = .ok (.new 10, 3) := by decide +kernel
theorem dL_law_11 : decode cL_law 11 = .ok (.dup, 1) := by decide +kernel
theorem dL_law_12 : decode cL_law 12 = .ok (.invokespecial 12, 3) := by decide +kernel
theorem dL_law_15 : decode cL_law 15 = .ok (.astore_n 2, 1) := by decide +kernel
theorem dL_law_16 : decode cL_law 16 = .ok (.iconst 0, 1) := by decide +kernel
theorem dL_law_17 : decode cL_law 17 = .ok (.istore_n 3, 1) := by decide +kernel
theorem dL_law_18 : decode cL_law 18 = .ok (.iload_n 3, 1) := by decide +kernel
theorem dL_law_19 : decode cL_law 19 = .ok (.aload_n 0, 1) := by decide +kernel
theorem dL_law_20 : decode cL_law 20 = .ok (.arraylength, 1) := by decide +kernel
theorem dL_law_21 : decode cL_law 21 = .ok (.bipush 6, 2) := by decide +kernel
theorem dL_law_23 : decode cL_law 23 = .ok (.isub, 1) := by decide +kernel
theorem dL_law_24 : decode cL_law 24 = .ok (.if_icmp .gt 945, 3) := by decide +kernel
theorem dL_law_27 : decode cL_law 27 = .ok (.aload_n 0, 1) := by decide +kernel
theorem dL_law_28 : decode cL_law 28 = .ok (.iload_n 3, 1) := by decide +kernel
theorem dL_law_29 : decode cL_law 29 = .ok (.iaload, 1) := by decide +kernel
theorem dL_law_30 : decode cL_law 30 = .ok (.bipush 31, 2) := by decide +kernel
theorem dL_law_32 : decode cL_law 32 = .ok (.iand, 1) := by decide +kernel
theorem dL_law_33 : decode cL_law 33 = .ok (.tableswitch 930 0 28 #[131, 164, 187, 210, 233, 266, 299, 332, 355, 368, 391, 424, 447, 470, 483, 507, 530, 563, 596, 609, 622, 645, 688, 711, 764, 807, 870, 893, 916], 131) := by decide +kernel
theorem dL_law_164 : decode cL_law 164 = .ok (.aload_n 1, 1) := by decide +kernel
theorem dL_law_165 : decode cL_law 165 = .ok (.aload_n 0, 1) := by decide +kernel
theorem dL_law_166 : decode cL_law 166 = .ok (.iload_n 3, 1) := by decide +kernel
theorem dL_law_167 : decode cL_law 167 = .ok (.iconst 1, 1) := by decide +kernel
theorem dL_law_168 : decode cL_law 168 = .ok (.iadd, 1) := by decide +kernel
theorem dL_law_169 : decode cL_law 169 = .ok (.iaload, 1) := by decide +kernel
theorem dL_law_170 : decode cL_law 170 = .ok (.aload_n 0, 1) := by decide +kernel
theorem dL_law_171 : decode cL_law 171 = .ok (.iload_n 3, 1) := by decide +kernel
theorem dL_law_172 : decode cL_law 172 = .ok (.iconst 2, 1) := by decide +kernel
theorem dL_law_173 : decode cL_law 173 = .ok (.iadd, 1) := by decide +kernel
theorem dL_law_174 : decode cL_law 174 = .ok (.iaload, 1) := by decide +kernel
theorem dL_law_175 : decode cL_law 175 = .ok (.invokevirtual 13, 3) := by decide +kernel
theorem dL_law_178 : decode cL_law 178 = .ok (.aload_n 2, 1) := by decide +kernel
theorem dL_law_179 : decode cL_law 179 = .ok (.aload_n 0, 1) := by decide +kernel
theorem dL_law_180 : decode cL_law 180 = .ok (.iload_n 3, 1) := by decide +kernel
theorem dL_law_181 : decode cL_law 181 = .ok (.iconst 1, 1) := by decide +kernel
theorem dL_law_182 : decode cL_law 182 = .ok (.iadd, 1) := by decide +kernel
theorem dL_law_183 : decode cL_law 183 = .ok (.iaload, 1) := by decide +kernel
theorem dL_law_184 : decode cL_law 184 = .ok (.aload_n 0, 1) := by decide +kernel
theorem dL_law_185 : decode cL_law 185 = .ok (.iload_n 3, 1) := by decide +kernel
theorem dL_law_186 : decode cL_law 186 = .ok (.iconst 2, 1) := by decide +kernel
theorem dL_law_187 : decode cL_law 187 = .ok (.iadd, 1) := by decide +kernel
theorem dL_law_188 : decode cL_law 188 = .ok (.iaload, 1) := by decide +kernel
theorem dL_law_189 : decode cL_law 189 = .ok (.invokevirtual 17, 3) := by decide +kernel
theorem dL_law_192 : decode cL_law 192 = .ok (.if_icmp .eq 771, 3) := by decide +kernel
theorem dL_law_195 : decode cL_law 195 = .ok (.iconst 0, 1) := by decide +kernel
theorem dL_law_196 : decode cL_law 196 = .ok (.ireturn, 1) := by decide +kernel
theorem dL_law_197 : decode cL_law 197 = .ok (.aload_n 1, 1) := by decide +kernel
theorem dL_law_198 : decode cL_law 198 = .ok (.aload_n 0, 1) := by decide +kernel
theorem dL_law_199 : decode cL_law 199 = .ok (.iload_n 3, 1) := by decide +kernel
theorem dL_law_200 : decode cL_law 200 = .ok (.iconst 1, 1) := by decide +kernel
theorem dL_law_201 : decode cL_law 201 = .ok (.iadd, 1) := by decide +kernel
theorem dL_law_202 : decode cL_law 202 = .ok (.iaload, 1) := by decide +kernel
theorem dL_law_203 : decode cL_law 203 = .ok (.invokevirtual 18, 3) := by decide +kernel
theorem dL_law_206 : decode cL_law 206 = .ok (.aload_n 2, 1) := by decide +kernel
theorem dL_law_207 : decode cL_law 207 = .ok (.aload_n 0, 1) := by decide +kernel
theorem dL_law_208 : decode cL_law 208 = .ok (.iload_n 3, 1) := by decide +kernel
theorem dL_law_209 : decode cL_law 209 = .ok (.iconst 1, 1) := by decide +kernel
theorem dL_law_210 : decode cL_law 210 = .ok (.iadd, 1) := by decide +kernel
theorem dL_law_211 : decode cL_law 211 = .ok (.iaload, 1) := by decide +kernel
theorem dL_law_212 : decode cL_law 212 = .ok (.invokevirtual 22, 3) := by decide +kernel
theorem dL_law_215 : decode cL_law 215 = .ok (.if_icmp .eq 748, 3) := by decide +kernel
theorem dL_law_218 : decode cL_law 218 = .ok (.iconst 0, 1) := by decide +kernel
theorem dL_law_219 : decode cL_law 219 = .ok (.ireturn, 1) := by decide +kernel
theorem dL_law_220 : decode cL_law 220 = .ok (.aload_n 1, 1) := by decide +kernel
theorem dL_law_221 : decode cL_law 221 = .ok (.aload_n 0, 1) := by decide +kernel
theorem dL_law_222 : decode cL_law 222 = .ok (.iload_n 3, 1) := by decide +kernel
theorem dL_law_223 : decode cL_law 223 = .ok (.iconst 1, 1) := by decide +kernel
theorem dL_law_224 : decode cL_law 224 = .ok (.iadd, 1) := by decide +kernel
theorem dL_law_225 : decode cL_law 225 = .ok (.iaload, 1) := by decide +kernel
theorem dL_law_226 : decode cL_law 226 = .ok (.invokevirtual 23, 3) := by decide +kernel
theorem dL_law_229 : decode cL_law 229 = .ok (.aload_n 2, 1) := by decide +kernel
theorem dL_law_230 : decode cL_law 230 = .ok (.aload_n 0, 1) := by decide +kernel
theorem dL_law_231 : decode cL_law 231 = .ok (.iload_n 3, 1) := by decide +kernel
theorem dL_law_232 : decode cL_law 232 = .ok (.iconst 1, 1) := by decide +kernel
theorem dL_law_233 : decode cL_law 233 = .ok (.iadd, 1) := by decide +kernel
theorem dL_law_234 : decode cL_law 234 = .ok (.iaload, 1) := by decide +kernel
theorem dL_law_235 : decode cL_law 235 = .ok (.invokevirtual 26, 3) := by decide +kernel
theorem dL_law_238 : decode cL_law 238 = .ok (.if_icmp .eq 725, 3) := by decide +kernel
theorem dL_law_241 : decode cL_law 241 = .ok (.iconst 0, 1) := by decide +kernel
theorem dL_law_242 : decode cL_law 242 = .ok (.ireturn, 1) := by decide +kernel
theorem dL_law_243 : decode cL_law 243 = .ok (.aload_n 1, 1) := by decide +kernel
theorem dL_law_244 : decode cL_law 244 = .ok (.aload_n 0, 1) := by decide +kernel
theorem dL_law_245 : decode cL_law 245 = .ok (.iload_n 3, 1) := by decide +kernel
theorem dL_law_246 : decode cL_law 246 = .ok (.iconst 1, 1) := by decide +kernel
theorem dL_law_247 : decode cL_law 247 = .ok (.iadd, 1) := by decide +kernel
theorem dL_law_248 : decode cL_law 248 = .ok (.iaload, 1) := by decide +kernel
theorem dL_law_249 : decode cL_law 249 = .ok (.invokevirtual 27, 3) := by decide +kernel
theorem dL_law_252 : decode cL_law 252 = .ok (.aload_n 2, 1) := by decide +kernel
theorem dL_law_253 : decode cL_law 253 = .ok (.aload_n 0, 1) := by decide +kernel
theorem dL_law_254 : decode cL_law 254 = .ok (.iload_n 3, 1) := by decide +kernel
theorem dL_law_255 : decode cL_law 255 = .ok (.iconst 1, 1) := by decide +kernel
theorem dL_law_256 : decode cL_law 256 = .ok (.iadd, 1) := by decide +kernel
theorem dL_law_257 : decode cL_law 257 = .ok (.iaload, 1) := by decide +kernel
theorem dL_law_258 : decode cL_law 258 = .ok (.invokevirtual 30, 3) := by decide +kernel
theorem dL_law_261 : decode cL_law 261 = .ok (.if_icmp .eq 702, 3) := by decide +kernel
theorem dL_law_264 : decode cL_law 264 = .ok (.iconst 0, 1) := by decide +kernel
theorem dL_law_265 : decode cL_law 265 = .ok (.ireturn, 1) := by decide +kernel
theorem dL_law_266 : decode cL_law 266 = .ok (.aload_n 1, 1) := by decide +kernel
theorem dL_law_267 : decode cL_law 267 = .ok (.aload_n 0, 1) := by decide +kernel
theorem dL_law_268 : decode cL_law 268 = .ok (.iload_n 3, 1) := by decide +kernel
theorem dL_law_269 : decode cL_law 269 = .ok (.iconst 1, 1) := by decide +kernel
theorem dL_law_270 : decode cL_law 270 = .ok (.iadd, 1) := by decide +kernel
theorem dL_law_271 : decode cL_law 271 = .ok (.iaload, 1) := by decide +kernel
theorem dL_law_272 : decode cL_law 272 = .ok (.aload_n 0, 1) := by decide +kernel
theorem dL_law_273 : decode cL_law 273 = .ok (.iload_n 3, 1) := by decide +kernel
theorem dL_law_274 : decode cL_law 274 = .ok (.iconst 2, 1) := by decide +kernel
theorem dL_law_275 : decode cL_law 275 = .ok (.iadd, 1) := by decide +kernel
theorem dL_law_276 : decode cL_law 276 = .ok (.iaload, 1) := by decide +kernel
theorem dL_law_277 : decode cL_law 277 = .ok (.invokevirtual 31, 3) := by decide +kernel
theorem dL_law_280 : decode cL_law 280 = .ok (.aload_n 2, 1) := by decide +kernel
theorem dL_law_281 : decode cL_law 281 = .ok (.aload_n 0, 1) := by decide +kernel
theorem dL_law_282 : decode cL_law 282 = .ok (.iload_n 3, 1) := by decide +kernel
theorem dL_law_283 : decode cL_law 283 = .ok (.iconst 1, 1) := by decide +kernel
theorem dL_law_284 : decode cL_law 284 = .ok (.iadd, 1) := by decide +kernel
theorem dL_law_285 : decode cL_law 285 = .ok (.iaload, 1) := by decide +kernel
theorem dL_law_286 : decode cL_law 286 = .ok (.aload_n 0, 1) := by decide +kernel
theorem dL_law_287 : decode cL_law 287 = .ok (.iload_n 3, 1) := by decide +kernel
theorem dL_law_288 : decode cL_law 288 = .ok (.iconst 2, 1) := by decide +kernel
theorem dL_law_289 : decode cL_law 289 = .ok (.iadd, 1) := by decide +kernel
theorem dL_law_290 : decode cL_law 290 = .ok (.iaload, 1) := by decide +kernel
theorem dL_law_291 : decode cL_law 291 = .ok (.invokevirtual 34, 3) := by decide +kernel
theorem dL_law_294 : decode cL_law 294 = .ok (.if_icmp .eq 669, 3) := by decide +kernel
theorem dL_law_297 : decode cL_law 297 = .ok (.iconst 0, 1) := by decide +kernel
theorem dL_law_298 : decode cL_law 298 = .ok (.ireturn, 1) := by decide +kernel
theorem dL_law_299 : decode cL_law 299 = .ok (.aload_n 1, 1) := by decide +kernel
theorem dL_law_300 : decode cL_law 300 = .ok (.aload_n 0, 1) := by decide +kernel
theorem dL_law_301 : decode cL_law 301 = .ok (.iload_n 3, 1) := by decide +kernel
theorem dL_law_302 : decode cL_law 302 = .ok (.iconst 1, 1) := by decide +kernel
theorem dL_law_303 : decode cL_law 303 = .ok (.iadd, 1) := by decide +kernel
theorem dL_law_304 : decode cL_law 304 = .ok (.iaload, 1) := by decide +kernel
theorem dL_law_305 : decode cL_law 305 = .ok (.aload_n 0, 1) := by decide +kernel
theorem dL_law_306 : decode cL_law 306 = .ok (.iload_n 3, 1) := by decide +kernel
theorem dL_law_307 : decode cL_law 307 = .ok (.iconst 2, 1) := by decide +kernel
theorem dL_law_308 : decode cL_law 308 = .ok (.iadd, 1) := by decide +kernel
theorem dL_law_309 : decode cL_law 309 = .ok (.iaload, 1) := by decide +kernel
theorem dL_law_310 : decode cL_law 310 = .ok (.invokevirtual 35, 3) := by decide +kernel
theorem dL_law_313 : decode cL_law 313 = .ok (.aload_n 2, 1) := by decide +kernel
theorem dL_law_314 : decode cL_law 314 = .ok (.aload_n 0, 1) := by decide +kernel
theorem dL_law_315 : decode cL_law 315 = .ok (.iload_n 3, 1) := by decide +kernel
theorem dL_law_316 : decode cL_law 316 = .ok (.iconst 1, 1) := by decide +kernel
theorem dL_law_317 : decode cL_law 317 = .ok (.iadd, 1) := by decide +kernel
theorem dL_law_318 : decode cL_law 318 = .ok (.iaload, 1) := by decide +kernel
theorem dL_law_319 : decode cL_law 319 = .ok (.aload_n 0, 1) := by decide +kernel
theorem dL_law_320 : decode cL_law 320 = .ok (.iload_n 3, 1) := by decide +kernel
theorem dL_law_321 : decode cL_law 321 = .ok (.iconst 2, 1) := by decide +kernel
theorem dL_law_322 : decode cL_law 322 = .ok (.iadd, 1) := by decide +kernel
theorem dL_law_323 : decode cL_law 323 = .ok (.iaload, 1) := by decide +kernel
theorem dL_law_324 : decode cL_law 324 = .ok (.invokevirtual 38, 3) := by decide +kernel
theorem dL_law_327 : decode cL_law 327 = .ok (.if_icmp .eq 636, 3) := by decide +kernel
theorem dL_law_330 : decode cL_law 330 = .ok (.iconst 0, 1) := by decide +kernel
theorem dL_law_331 : decode cL_law 331 = .ok (.ireturn, 1) := by decide +kernel
theorem dL_law_332 : decode cL_law 332 = .ok (.aload_n 1, 1) := by decide +kernel
theorem dL_law_333 : decode cL_law 333 = .ok (.aload_n 0, 1) := by decide +kernel
theorem dL_law_334 : decode cL_law 334 = .ok (.iload_n 3, 1) := by decide +kernel
theorem dL_law_335 : decode cL_law 335 = .ok (.iconst 1, 1) := by decide +kernel
theorem dL_law_336 : decode cL_law 336 = .ok (.iadd, 1) := by decide +kernel
theorem dL_law_337 : decode cL_law 337 = .ok (.iaload, 1) := by decide +kernel
theorem dL_law_338 : decode cL_law 338 = .ok (.aload_n 0, 1) := by decide +kernel
theorem dL_law_339 : decode cL_law 339 = .ok (.iload_n 3, 1) := by decide +kernel
theorem dL_law_340 : decode cL_law 340 = .ok (.iconst 2, 1) := by decide +kernel
theorem dL_law_341 : decode cL_law 341 = .ok (.iadd, 1) := by decide +kernel
theorem dL_law_342 : decode cL_law 342 = .ok (.iaload, 1) := by decide +kernel
theorem dL_law_343 : decode cL_law 343 = .ok (.invokevirtual 39, 3) := by decide +kernel
theorem dL_law_346 : decode cL_law 346 = .ok (.aload_n 2, 1) := by decide +kernel
theorem dL_law_347 : decode cL_law 347 = .ok (.aload_n 0, 1) := by decide +kernel
theorem dL_law_348 : decode cL_law 348 = .ok (.iload_n 3, 1) := by decide +kernel
theorem dL_law_349 : decode cL_law 349 = .ok (.iconst 1, 1) := by decide +kernel
theorem dL_law_350 : decode cL_law 350 = .ok (.iadd, 1) := by decide +kernel
theorem dL_law_351 : decode cL_law 351 = .ok (.iaload, 1) := by decide +kernel
theorem dL_law_352 : decode cL_law 352 = .ok (.aload_n 0, 1) := by decide +kernel
theorem dL_law_353 : decode cL_law 353 = .ok (.iload_n 3, 1) := by decide +kernel
theorem dL_law_354 : decode cL_law 354 = .ok (.iconst 2, 1) := by decide +kernel
theorem dL_law_355 : decode cL_law 355 = .ok (.iadd, 1) := by decide +kernel
theorem dL_law_356 : decode cL_law 356 = .ok (.iaload, 1) := by decide +kernel
theorem dL_law_357 : decode cL_law 357 = .ok (.invokevirtual 42, 3) := by decide +kernel
theorem dL_law_360 : decode cL_law 360 = .ok (.if_icmp .eq 603, 3) := by decide +kernel
theorem dL_law_363 : decode cL_law 363 = .ok (.iconst 0, 1) := by decide +kernel
theorem dL_law_364 : decode cL_law 364 = .ok (.ireturn, 1) := by decide +kernel
theorem dL_law_365 : decode cL_law 365 = .ok (.aload_n 1, 1) := by decide +kernel
theorem dL_law_366 : decode cL_law 366 = .ok (.aload_n 0, 1) := by decide +kernel
theorem dL_law_367 : decode cL_law 367 = .ok (.iload_n 3, 1) := by decide +kernel
theorem dL_law_368 : decode cL_law 368 = .ok (.iconst 1, 1) := by decide +kernel
theorem dL_law_369 : decode cL_law 369 = .ok (.iadd, 1) := by decide +kernel
theorem dL_law_370 : decode cL_law 370 = .ok (.iaload, 1) := by decide +kernel
theorem dL_law_371 : decode cL_law 371 = .ok (.invokevirtual 43, 3) := by decide +kernel
theorem dL_law_374 : decode cL_law 374 = .ok (.aload_n 2, 1) := by decide +kernel
theorem dL_law_375 : decode cL_law 375 = .ok (.aload_n 0, 1) := by decide +kernel
theorem dL_law_376 : decode cL_law 376 = .ok (.iload_n 3, 1) := by decide +kernel
theorem dL_law_377 : decode cL_law 377 = .ok (.iconst 1, 1) := by decide +kernel
theorem dL_law_378 : decode cL_law 378 = .ok (.iadd, 1) := by decide +kernel
theorem dL_law_379 : decode cL_law 379 = .ok (.iaload, 1) := by decide +kernel
theorem dL_law_380 : decode cL_law 380 = .ok (.invokevirtual 46, 3) := by decide +kernel
theorem dL_law_383 : decode cL_law 383 = .ok (.if_icmp .eq 580, 3) := by decide +kernel
theorem dL_law_386 : decode cL_law 386 = .ok (.iconst 0, 1) := by decide +kernel
theorem dL_law_387 : decode cL_law 387 = .ok (.ireturn, 1) := by decide +kernel
theorem dL_law_388 : decode cL_law 388 = .ok (.aload_n 1, 1) := by decide +kernel
theorem dL_law_389 : decode cL_law 389 = .ok (.invokevirtual 47, 3) := by decide +kernel
theorem dL_law_392 : decode cL_law 392 = .ok (.aload_n 2, 1) := by decide +kernel
theorem dL_law_393 : decode cL_law 393 = .ok (.invokevirtual 51, 3) := by decide +kernel
theorem dL_law_396 : decode cL_law 396 = .ok (.if_icmp .eq 567, 3) := by decide +kernel
theorem dL_law_399 : decode cL_law 399 = .ok (.iconst 0, 1) := by decide +kernel
theorem dL_law_400 : decode cL_law 400 = .ok (.ireturn, 1) := by decide +kernel
theorem dL_law_401 : decode cL_law 401 = .ok (.aload_n 1, 1) := by decide +kernel
theorem dL_law_402 : decode cL_law 402 = .ok (.aload_n 0, 1) := by decide +kernel
theorem dL_law_403 : decode cL_law 403 = .ok (.iload_n 3, 1) := by decide +kernel
theorem dL_law_404 : decode cL_law 404 = .ok (.iconst 1, 1) := by decide +kernel
theorem dL_law_405 : decode cL_law 405 = .ok (.iadd, 1) := by decide +kernel
theorem dL_law_406 : decode cL_law 406 = .ok (.iaload, 1) := by decide +kernel
theorem dL_law_407 : decode cL_law 407 = .ok (.invokevirtual 52, 3) := by decide +kernel
theorem dL_law_410 : decode cL_law 410 = .ok (.aload_n 2, 1) := by decide +kernel
theorem dL_law_411 : decode cL_law 411 = .ok (.aload_n 0, 1) := by decide +kernel
theorem dL_law_412 : decode cL_law 412 = .ok (.iload_n 3, 1) := by decide +kernel
theorem dL_law_413 : decode cL_law 413 = .ok (.iconst 1, 1) := by decide +kernel
theorem dL_law_414 : decode cL_law 414 = .ok (.iadd, 1) := by decide +kernel
theorem dL_law_415 : decode cL_law 415 = .ok (.iaload, 1) := by decide +kernel
theorem dL_law_416 : decode cL_law 416 = .ok (.invokevirtual 55, 3) := by decide +kernel
theorem dL_law_419 : decode cL_law 419 = .ok (.if_icmp .eq 544, 3) := by decide +kernel
theorem dL_law_422 : decode cL_law 422 = .ok (.iconst 0, 1) := by decide +kernel
theorem dL_law_423 : decode cL_law 423 = .ok (.ireturn, 1) := by decide +kernel
theorem dL_law_424 : decode cL_law 424 = .ok (.aload_n 1, 1) := by decide +kernel
theorem dL_law_425 : decode cL_law 425 = .ok (.aload_n 0, 1) := by decide +kernel
theorem dL_law_426 : decode cL_law 426 = .ok (.iload_n 3, 1) := by decide +kernel
theorem dL_law_427 : decode cL_law 427 = .ok (.iconst 1, 1) := by decide +kernel
theorem dL_law_428 : decode cL_law 428 = .ok (.iadd, 1) := by decide +kernel
theorem dL_law_429 : decode cL_law 429 = .ok (.iaload, 1) := by decide +kernel
theorem dL_law_430 : decode cL_law 430 = .ok (.aload_n 0, 1) := by decide +kernel
theorem dL_law_431 : decode cL_law 431 = .ok (.iload_n 3, 1) := by decide +kernel
theorem dL_law_432 : decode cL_law 432 = .ok (.iconst 2, 1) := by decide +kernel
theorem dL_law_433 : decode cL_law 433 = .ok (.iadd, 1) := by decide +kernel
theorem dL_law_434 : decode cL_law 434 = .ok (.iaload, 1) := by decide +kernel
theorem dL_law_435 : decode cL_law 435 = .ok (.invokevirtual 56, 3) := by decide +kernel
theorem dL_law_438 : decode cL_law 438 = .ok (.aload_n 2, 1) := by decide +kernel
theorem dL_law_439 : decode cL_law 439 = .ok (.aload_n 0, 1) := by decide +kernel
theorem dL_law_440 : decode cL_law 440 = .ok (.iload_n 3, 1) := by decide +kernel
theorem dL_law_441 : decode cL_law 441 = .ok (.iconst 1, 1) := by decide +kernel
theorem dL_law_442 : decode cL_law 442 = .ok (.iadd, 1) := by decide +kernel
theorem dL_law_443 : decode cL_law 443 = .ok (.iaload, 1) := by decide +kernel
theorem dL_law_444 : decode cL_law 444 = .ok (.aload_n 0, 1) := by decide +kernel
theorem dL_law_445 : decode cL_law 445 = .ok (.iload_n 3, 1) := by decide +kernel
theorem dL_law_446 : decode cL_law 446 = .ok (.iconst 2, 1) := by decide +kernel
theorem dL_law_447 : decode cL_law 447 = .ok (.iadd, 1) := by decide +kernel
theorem dL_law_448 : decode cL_law 448 = .ok (.iaload, 1) := by decide +kernel
theorem dL_law_449 : decode cL_law 449 = .ok (.invokevirtual 59, 3) := by decide +kernel
theorem dL_law_452 : decode cL_law 452 = .ok (.if_icmp .eq 511, 3) := by decide +kernel
theorem dL_law_455 : decode cL_law 455 = .ok (.iconst 0, 1) := by decide +kernel
theorem dL_law_456 : decode cL_law 456 = .ok (.ireturn, 1) := by decide +kernel
theorem dL_law_457 : decode cL_law 457 = .ok (.aload_n 1, 1) := by decide +kernel
theorem dL_law_458 : decode cL_law 458 = .ok (.aload_n 0, 1) := by decide +kernel
theorem dL_law_459 : decode cL_law 459 = .ok (.iload_n 3, 1) := by decide +kernel
theorem dL_law_460 : decode cL_law 460 = .ok (.iconst 1, 1) := by decide +kernel
theorem dL_law_461 : decode cL_law 461 = .ok (.iadd, 1) := by decide +kernel
theorem dL_law_462 : decode cL_law 462 = .ok (.iaload, 1) := by decide +kernel
theorem dL_law_463 : decode cL_law 463 = .ok (.invokevirtual 60, 3) := by decide +kernel
theorem dL_law_466 : decode cL_law 466 = .ok (.aload_n 2, 1) := by decide +kernel
theorem dL_law_467 : decode cL_law 467 = .ok (.aload_n 0, 1) := by decide +kernel
theorem dL_law_468 : decode cL_law 468 = .ok (.iload_n 3, 1) := by decide +kernel
theorem dL_law_469 : decode cL_law 469 = .ok (.iconst 1, 1) := by decide +kernel
theorem dL_law_470 : decode cL_law 470 = .ok (.iadd, 1) := by decide +kernel
theorem dL_law_471 : decode cL_law 471 = .ok (.iaload, 1) := by decide +kernel
theorem dL_law_472 : decode cL_law 472 = .ok (.invokevirtual 63, 3) := by decide +kernel
theorem dL_law_475 : decode cL_law 475 = .ok (.if_icmp .eq 488, 3) := by decide +kernel
theorem dL_law_478 : decode cL_law 478 = .ok (.iconst 0, 1) := by decide +kernel
theorem dL_law_479 : decode cL_law 479 = .ok (.ireturn, 1) := by decide +kernel
theorem dL_law_480 : decode cL_law 480 = .ok (.aload_n 1, 1) := by decide +kernel
theorem dL_law_481 : decode cL_law 481 = .ok (.aload_n 0, 1) := by decide +kernel
theorem dL_law_482 : decode cL_law 482 = .ok (.iload_n 3, 1) := by decide +kernel
theorem dL_law_483 : decode cL_law 483 = .ok (.iconst 1, 1) := by decide +kernel
theorem dL_law_484 : decode cL_law 484 = .ok (.iadd, 1) := by decide +kernel
theorem dL_law_485 : decode cL_law 485 = .ok (.iaload, 1) := by decide +kernel
theorem dL_law_486 : decode cL_law 486 = .ok (.invokevirtual 64, 3) := by decide +kernel
theorem dL_law_489 : decode cL_law 489 = .ok (.aload_n 2, 1) := by decide +kernel
theorem dL_law_490 : decode cL_law 490 = .ok (.aload_n 0, 1) := by decide +kernel
theorem dL_law_491 : decode cL_law 491 = .ok (.iload_n 3, 1) := by decide +kernel
theorem dL_law_492 : decode cL_law 492 = .ok (.iconst 1, 1) := by decide +kernel
theorem dL_law_493 : decode cL_law 493 = .ok (.iadd, 1) := by decide +kernel
theorem dL_law_494 : decode cL_law 494 = .ok (.iaload, 1) := by decide +kernel
theorem dL_law_495 : decode cL_law 495 = .ok (.invokevirtual 67, 3) := by decide +kernel
theorem dL_law_498 : decode cL_law 498 = .ok (.if_icmp .eq 465, 3) := by decide +kernel
theorem dL_law_501 : decode cL_law 501 = .ok (.iconst 0, 1) := by decide +kernel
theorem dL_law_502 : decode cL_law 502 = .ok (.ireturn, 1) := by decide +kernel
theorem dL_law_503 : decode cL_law 503 = .ok (.aload_n 1, 1) := by decide +kernel
theorem dL_law_504 : decode cL_law 504 = .ok (.invokevirtual 68, 3) := by decide +kernel
theorem dL_law_507 : decode cL_law 507 = .ok (.aload_n 2, 1) := by decide +kernel
theorem dL_law_508 : decode cL_law 508 = .ok (.invokevirtual 71, 3) := by decide +kernel
theorem dL_law_511 : decode cL_law 511 = .ok (.if_icmp .eq 452, 3) := by decide +kernel
theorem dL_law_514 : decode cL_law 514 = .ok (.iconst 0, 1) := by decide +kernel
theorem dL_law_515 : decode cL_law 515 = .ok (.ireturn, 1) := by decide +kernel
theorem dL_law_516 : decode cL_law 516 = .ok (.aload_n 1, 1) := by decide +kernel
theorem dL_law_517 : decode cL_law 517 = .ok (.aload_n 0, 1) := by decide +kernel
theorem dL_law_518 : decode cL_law 518 = .ok (.iload_n 3, 1) := by decide +kernel
theorem dL_law_519 : decode cL_law 519 = .ok (.iconst 1, 1) := by decide +kernel
theorem dL_law_520 : decode cL_law 520 = .ok (.iadd, 1) := by decide +kernel
theorem dL_law_521 : decode cL_law 521 = .ok (.iaload, 1) := by decide +kernel
theorem dL_law_522 : decode cL_law 522 = .ok (.invokevirtual 72, 3) := by decide +kernel
theorem dL_law_525 : decode cL_law 525 = .ok (.aload_n 2, 1) := by decide +kernel
theorem dL_law_526 : decode cL_law 526 = .ok (.aload_n 0, 1) := by decide +kernel
theorem dL_law_527 : decode cL_law 527 = .ok (.iload_n 3, 1) := by decide +kernel
theorem dL_law_528 : decode cL_law 528 = .ok (.iconst 1, 1) := by decide +kernel
theorem dL_law_529 : decode cL_law 529 = .ok (.iadd, 1) := by decide +kernel
theorem dL_law_530 : decode cL_law 530 = .ok (.iaload, 1) := by decide +kernel
theorem dL_law_531 : decode cL_law 531 = .ok (.invokevirtual 76, 3) := by decide +kernel
theorem dL_law_534 : decode cL_law 534 = .ok (.lcmp, 1) := by decide +kernel
theorem dL_law_535 : decode cL_law 535 = .ok (.ifCond .eq 428, 3) := by decide +kernel
theorem dL_law_538 : decode cL_law 538 = .ok (.iconst 0, 1) := by decide +kernel
theorem dL_law_539 : decode cL_law 539 = .ok (.ireturn, 1) := by decide +kernel
theorem dL_law_540 : decode cL_law 540 = .ok (.aload_n 1, 1) := by decide +kernel
theorem dL_law_541 : decode cL_law 541 = .ok (.aload_n 0, 1) := by decide +kernel
theorem dL_law_542 : decode cL_law 542 = .ok (.iload_n 3, 1) := by decide +kernel
theorem dL_law_543 : decode cL_law 543 = .ok (.iconst 1, 1) := by decide +kernel
theorem dL_law_544 : decode cL_law 544 = .ok (.iadd, 1) := by decide +kernel
theorem dL_law_545 : decode cL_law 545 = .ok (.iaload, 1) := by decide +kernel
theorem dL_law_546 : decode cL_law 546 = .ok (.invokevirtual 77, 3) := by decide +kernel
theorem dL_law_549 : decode cL_law 549 = .ok (.aload_n 2, 1) := by decide +kernel
theorem dL_law_550 : decode cL_law 550 = .ok (.aload_n 0, 1) := by decide +kernel
theorem dL_law_551 : decode cL_law 551 = .ok (.iload_n 3, 1) := by decide +kernel
theorem dL_law_552 : decode cL_law 552 = .ok (.iconst 1, 1) := by decide +kernel
theorem dL_law_553 : decode cL_law 553 = .ok (.iadd, 1) := by decide +kernel
theorem dL_law_554 : decode cL_law 554 = .ok (.iaload, 1) := by decide +kernel
theorem dL_law_555 : decode cL_law 555 = .ok (.invokevirtual 80, 3) := by decide +kernel
theorem dL_law_558 : decode cL_law 558 = .ok (.if_icmp .eq 405, 3) := by decide +kernel
theorem dL_law_561 : decode cL_law 561 = .ok (.iconst 0, 1) := by decide +kernel
theorem dL_law_562 : decode cL_law 562 = .ok (.ireturn, 1) := by decide +kernel
theorem dL_law_563 : decode cL_law 563 = .ok (.aload_n 1, 1) := by decide +kernel
theorem dL_law_564 : decode cL_law 564 = .ok (.aload_n 0, 1) := by decide +kernel
theorem dL_law_565 : decode cL_law 565 = .ok (.iload_n 3, 1) := by decide +kernel
theorem dL_law_566 : decode cL_law 566 = .ok (.iconst 1, 1) := by decide +kernel
theorem dL_law_567 : decode cL_law 567 = .ok (.iadd, 1) := by decide +kernel
theorem dL_law_568 : decode cL_law 568 = .ok (.iaload, 1) := by decide +kernel
theorem dL_law_569 : decode cL_law 569 = .ok (.aload_n 0, 1) := by decide +kernel
theorem dL_law_570 : decode cL_law 570 = .ok (.iload_n 3, 1) := by decide +kernel
theorem dL_law_571 : decode cL_law 571 = .ok (.iconst 2, 1) := by decide +kernel
theorem dL_law_572 : decode cL_law 572 = .ok (.iadd, 1) := by decide +kernel
theorem dL_law_573 : decode cL_law 573 = .ok (.iaload, 1) := by decide +kernel
theorem dL_law_574 : decode cL_law 574 = .ok (.invokevirtual 81, 3) := by decide +kernel
theorem dL_law_577 : decode cL_law 577 = .ok (.aload_n 2, 1) := by decide +kernel
theorem dL_law_578 : decode cL_law 578 = .ok (.aload_n 0, 1) := by decide +kernel
theorem dL_law_579 : decode cL_law 579 = .ok (.iload_n 3, 1) := by decide +kernel
theorem dL_law_580 : decode cL_law 580 = .ok (.iconst 1, 1) := by decide +kernel
theorem dL_law_581 : decode cL_law 581 = .ok (.iadd, 1) := by decide +kernel
theorem dL_law_582 : decode cL_law 582 = .ok (.iaload, 1) := by decide +kernel
theorem dL_law_583 : decode cL_law 583 = .ok (.aload_n 0, 1) := by decide +kernel
theorem dL_law_584 : decode cL_law 584 = .ok (.iload_n 3, 1) := by decide +kernel
theorem dL_law_585 : decode cL_law 585 = .ok (.iconst 2, 1) := by decide +kernel
theorem dL_law_586 : decode cL_law 586 = .ok (.iadd, 1) := by decide +kernel
theorem dL_law_587 : decode cL_law 587 = .ok (.iaload, 1) := by decide +kernel
theorem dL_law_588 : decode cL_law 588 = .ok (.invokevirtual 84, 3) := by decide +kernel
theorem dL_law_591 : decode cL_law 591 = .ok (.if_icmp .eq 372, 3) := by decide +kernel
theorem dL_law_594 : decode cL_law 594 = .ok (.iconst 0, 1) := by decide +kernel
theorem dL_law_595 : decode cL_law 595 = .ok (.ireturn, 1) := by decide +kernel
theorem dL_law_596 : decode cL_law 596 = .ok (.aload_n 1, 1) := by decide +kernel
theorem dL_law_597 : decode cL_law 597 = .ok (.aload_n 0, 1) := by decide +kernel
theorem dL_law_598 : decode cL_law 598 = .ok (.iload_n 3, 1) := by decide +kernel
theorem dL_law_599 : decode cL_law 599 = .ok (.iconst 1, 1) := by decide +kernel
theorem dL_law_600 : decode cL_law 600 = .ok (.iadd, 1) := by decide +kernel
theorem dL_law_601 : decode cL_law 601 = .ok (.iaload, 1) := by decide +kernel
theorem dL_law_602 : decode cL_law 602 = .ok (.aload_n 0, 1) := by decide +kernel
theorem dL_law_603 : decode cL_law 603 = .ok (.iload_n 3, 1) := by decide +kernel
theorem dL_law_604 : decode cL_law 604 = .ok (.iconst 2, 1) := by decide +kernel
theorem dL_law_605 : decode cL_law 605 = .ok (.iadd, 1) := by decide +kernel
theorem dL_law_606 : decode cL_law 606 = .ok (.iaload, 1) := by decide +kernel
theorem dL_law_607 : decode cL_law 607 = .ok (.invokevirtual 85, 3) := by decide +kernel
theorem dL_law_610 : decode cL_law 610 = .ok (.aload_n 2, 1) := by decide +kernel
theorem dL_law_611 : decode cL_law 611 = .ok (.aload_n 0, 1) := by decide +kernel
theorem dL_law_612 : decode cL_law 612 = .ok (.iload_n 3, 1) := by decide +kernel
theorem dL_law_613 : decode cL_law 613 = .ok (.iconst 1, 1) := by decide +kernel
theorem dL_law_614 : decode cL_law 614 = .ok (.iadd, 1) := by decide +kernel
theorem dL_law_615 : decode cL_law 615 = .ok (.iaload, 1) := by decide +kernel
theorem dL_law_616 : decode cL_law 616 = .ok (.aload_n 0, 1) := by decide +kernel
theorem dL_law_617 : decode cL_law 617 = .ok (.iload_n 3, 1) := by decide +kernel
theorem dL_law_618 : decode cL_law 618 = .ok (.iconst 2, 1) := by decide +kernel
theorem dL_law_619 : decode cL_law 619 = .ok (.iadd, 1) := by decide +kernel
theorem dL_law_620 : decode cL_law 620 = .ok (.iaload, 1) := by decide +kernel
theorem dL_law_621 : decode cL_law 621 = .ok (.invokevirtual 88, 3) := by decide +kernel
theorem dL_law_624 : decode cL_law 624 = .ok (.if_icmp .eq 339, 3) := by decide +kernel
theorem dL_law_627 : decode cL_law 627 = .ok (.iconst 0, 1) := by decide +kernel
theorem dL_law_628 : decode cL_law 628 = .ok (.ireturn, 1) := by decide +kernel
theorem dL_law_629 : decode cL_law 629 = .ok (.aload_n 1, 1) := by decide +kernel
theorem dL_law_630 : decode cL_law 630 = .ok (.invokevirtual 89, 3) := by decide +kernel
theorem dL_law_633 : decode cL_law 633 = .ok (.aload_n 2, 1) := by decide +kernel
theorem dL_law_634 : decode cL_law 634 = .ok (.invokevirtual 92, 3) := by decide +kernel
theorem dL_law_637 : decode cL_law 637 = .ok (.if_icmp .eq 326, 3) := by decide +kernel
theorem dL_law_640 : decode cL_law 640 = .ok (.iconst 0, 1) := by decide +kernel
theorem dL_law_641 : decode cL_law 641 = .ok (.ireturn, 1) := by decide +kernel
theorem dL_law_642 : decode cL_law 642 = .ok (.aload_n 1, 1) := by decide +kernel
theorem dL_law_643 : decode cL_law 643 = .ok (.invokevirtual 93, 3) := by decide +kernel
theorem dL_law_646 : decode cL_law 646 = .ok (.aload_n 2, 1) := by decide +kernel
theorem dL_law_647 : decode cL_law 647 = .ok (.invokevirtual 96, 3) := by decide +kernel
theorem dL_law_650 : decode cL_law 650 = .ok (.if_icmp .eq 313, 3) := by decide +kernel
theorem dL_law_653 : decode cL_law 653 = .ok (.iconst 0, 1) := by decide +kernel
theorem dL_law_654 : decode cL_law 654 = .ok (.ireturn, 1) := by decide +kernel
theorem dL_law_655 : decode cL_law 655 = .ok (.aload_n 1, 1) := by decide +kernel
theorem dL_law_656 : decode cL_law 656 = .ok (.aload_n 0, 1) := by decide +kernel
theorem dL_law_657 : decode cL_law 657 = .ok (.iload_n 3, 1) := by decide +kernel
theorem dL_law_658 : decode cL_law 658 = .ok (.iconst 1, 1) := by decide +kernel
theorem dL_law_659 : decode cL_law 659 = .ok (.iadd, 1) := by decide +kernel
theorem dL_law_660 : decode cL_law 660 = .ok (.iaload, 1) := by decide +kernel
theorem dL_law_661 : decode cL_law 661 = .ok (.invokevirtual 97, 3) := by decide +kernel
theorem dL_law_664 : decode cL_law 664 = .ok (.aload_n 2, 1) := by decide +kernel
theorem dL_law_665 : decode cL_law 665 = .ok (.aload_n 0, 1) := by decide +kernel
theorem dL_law_666 : decode cL_law 666 = .ok (.iload_n 3, 1) := by decide +kernel
theorem dL_law_667 : decode cL_law 667 = .ok (.iconst 1, 1) := by decide +kernel
theorem dL_law_668 : decode cL_law 668 = .ok (.iadd, 1) := by decide +kernel
theorem dL_law_669 : decode cL_law 669 = .ok (.iaload, 1) := by decide +kernel
theorem dL_law_670 : decode cL_law 670 = .ok (.invokevirtual 100, 3) := by decide +kernel
theorem dL_law_673 : decode cL_law 673 = .ok (.if_icmp .eq 290, 3) := by decide +kernel
theorem dL_law_676 : decode cL_law 676 = .ok (.iconst 0, 1) := by decide +kernel
theorem dL_law_677 : decode cL_law 677 = .ok (.ireturn, 1) := by decide +kernel
theorem dL_law_678 : decode cL_law 678 = .ok (.aload_n 1, 1) := by decide +kernel
theorem dL_law_679 : decode cL_law 679 = .ok (.aload_n 0, 1) := by decide +kernel
theorem dL_law_680 : decode cL_law 680 = .ok (.iload_n 3, 1) := by decide +kernel
theorem dL_law_681 : decode cL_law 681 = .ok (.iconst 1, 1) := by decide +kernel
theorem dL_law_682 : decode cL_law 682 = .ok (.iadd, 1) := by decide +kernel
theorem dL_law_683 : decode cL_law 683 = .ok (.iaload, 1) := by decide +kernel
theorem dL_law_684 : decode cL_law 684 = .ok (.aload_n 0, 1) := by decide +kernel
theorem dL_law_685 : decode cL_law 685 = .ok (.iload_n 3, 1) := by decide +kernel
theorem dL_law_686 : decode cL_law 686 = .ok (.iconst 2, 1) := by decide +kernel
theorem dL_law_687 : decode cL_law 687 = .ok (.iadd, 1) := by decide +kernel
theorem dL_law_688 : decode cL_law 688 = .ok (.iaload, 1) := by decide +kernel
theorem dL_law_689 : decode cL_law 689 = .ok (.aload_n 0, 1) := by decide +kernel
theorem dL_law_690 : decode cL_law 690 = .ok (.iload_n 3, 1) := by decide +kernel
theorem dL_law_691 : decode cL_law 691 = .ok (.iconst 3, 1) := by decide +kernel
theorem dL_law_692 : decode cL_law 692 = .ok (.iadd, 1) := by decide +kernel
theorem dL_law_693 : decode cL_law 693 = .ok (.iaload, 1) := by decide +kernel
theorem dL_law_694 : decode cL_law 694 = .ok (.invokevirtual 101, 3) := by decide +kernel
theorem dL_law_697 : decode cL_law 697 = .ok (.aload_n 2, 1) := by decide +kernel
theorem dL_law_698 : decode cL_law 698 = .ok (.aload_n 0, 1) := by decide +kernel
theorem dL_law_699 : decode cL_law 699 = .ok (.iload_n 3, 1) := by decide +kernel
theorem dL_law_700 : decode cL_law 700 = .ok (.iconst 1, 1) := by decide +kernel
theorem dL_law_701 : decode cL_law 701 = .ok (.iadd, 1) := by decide +kernel
theorem dL_law_702 : decode cL_law 702 = .ok (.iaload, 1) := by decide +kernel
theorem dL_law_703 : decode cL_law 703 = .ok (.aload_n 0, 1) := by decide +kernel
theorem dL_law_704 : decode cL_law 704 = .ok (.iload_n 3, 1) := by decide +kernel
theorem dL_law_705 : decode cL_law 705 = .ok (.iconst 2, 1) := by decide +kernel
theorem dL_law_706 : decode cL_law 706 = .ok (.iadd, 1) := by decide +kernel
theorem dL_law_707 : decode cL_law 707 = .ok (.iaload, 1) := by decide +kernel
theorem dL_law_708 : decode cL_law 708 = .ok (.aload_n 0, 1) := by decide +kernel
theorem dL_law_709 : decode cL_law 709 = .ok (.iload_n 3, 1) := by decide +kernel
theorem dL_law_710 : decode cL_law 710 = .ok (.iconst 3, 1) := by decide +kernel
theorem dL_law_711 : decode cL_law 711 = .ok (.iadd, 1) := by decide +kernel
theorem dL_law_712 : decode cL_law 712 = .ok (.iaload, 1) := by decide +kernel
theorem dL_law_713 : decode cL_law 713 = .ok (.invokevirtual 105, 3) := by decide +kernel
theorem dL_law_716 : decode cL_law 716 = .ok (.if_icmp .eq 247, 3) := by decide +kernel
theorem dL_law_719 : decode cL_law 719 = .ok (.iconst 0, 1) := by decide +kernel
theorem dL_law_720 : decode cL_law 720 = .ok (.ireturn, 1) := by decide +kernel
theorem dL_law_721 : decode cL_law 721 = .ok (.aload_n 1, 1) := by decide +kernel
theorem dL_law_722 : decode cL_law 722 = .ok (.aload_n 0, 1) := by decide +kernel
theorem dL_law_723 : decode cL_law 723 = .ok (.iload_n 3, 1) := by decide +kernel
theorem dL_law_724 : decode cL_law 724 = .ok (.iconst 1, 1) := by decide +kernel
theorem dL_law_725 : decode cL_law 725 = .ok (.iadd, 1) := by decide +kernel
theorem dL_law_726 : decode cL_law 726 = .ok (.iaload, 1) := by decide +kernel
theorem dL_law_727 : decode cL_law 727 = .ok (.invokevirtual 106, 3) := by decide +kernel
theorem dL_law_730 : decode cL_law 730 = .ok (.aload_n 2, 1) := by decide +kernel
theorem dL_law_731 : decode cL_law 731 = .ok (.aload_n 0, 1) := by decide +kernel
theorem dL_law_732 : decode cL_law 732 = .ok (.iload_n 3, 1) := by decide +kernel
theorem dL_law_733 : decode cL_law 733 = .ok (.iconst 1, 1) := by decide +kernel
theorem dL_law_734 : decode cL_law 734 = .ok (.iadd, 1) := by decide +kernel
theorem dL_law_735 : decode cL_law 735 = .ok (.iaload, 1) := by decide +kernel
theorem dL_law_736 : decode cL_law 736 = .ok (.invokevirtual 109, 3) := by decide +kernel
theorem dL_law_739 : decode cL_law 739 = .ok (.if_icmp .eq 224, 3) := by decide +kernel
theorem dL_law_742 : decode cL_law 742 = .ok (.iconst 0, 1) := by decide +kernel
theorem dL_law_743 : decode cL_law 743 = .ok (.ireturn, 1) := by decide +kernel
theorem dL_law_744 : decode cL_law 744 = .ok (.aload_n 1, 1) := by decide +kernel
theorem dL_law_745 : decode cL_law 745 = .ok (.aload_n 0, 1) := by decide +kernel
theorem dL_law_746 : decode cL_law 746 = .ok (.iload_n 3, 1) := by decide +kernel
theorem dL_law_747 : decode cL_law 747 = .ok (.iconst 1, 1) := by decide +kernel
theorem dL_law_748 : decode cL_law 748 = .ok (.iadd, 1) := by decide +kernel
theorem dL_law_749 : decode cL_law 749 = .ok (.iaload, 1) := by decide +kernel
theorem dL_law_750 : decode cL_law 750 = .ok (.aload_n 0, 1) := by decide +kernel
theorem dL_law_751 : decode cL_law 751 = .ok (.iload_n 3, 1) := by decide +kernel
theorem dL_law_752 : decode cL_law 752 = .ok (.iconst 2, 1) := by decide +kernel
theorem dL_law_753 : decode cL_law 753 = .ok (.iadd, 1) := by decide +kernel
theorem dL_law_754 : decode cL_law 754 = .ok (.iaload, 1) := by decide +kernel
theorem dL_law_755 : decode cL_law 755 = .ok (.aload_n 0, 1) := by decide +kernel
theorem dL_law_756 : decode cL_law 756 = .ok (.iload_n 3, 1) := by decide +kernel
theorem dL_law_757 : decode cL_law 757 = .ok (.iconst 3, 1) := by decide +kernel
theorem dL_law_758 : decode cL_law 758 = .ok (.iadd, 1) := by decide +kernel
theorem dL_law_759 : decode cL_law 759 = .ok (.iaload, 1) := by decide +kernel
theorem dL_law_760 : decode cL_law 760 = .ok (.aload_n 0, 1) := by decide +kernel
theorem dL_law_761 : decode cL_law 761 = .ok (.iload_n 3, 1) := by decide +kernel
theorem dL_law_762 : decode cL_law 762 = .ok (.iconst 4, 1) := by decide +kernel
theorem dL_law_763 : decode cL_law 763 = .ok (.iadd, 1) := by decide +kernel
theorem dL_law_764 : decode cL_law 764 = .ok (.iaload, 1) := by decide +kernel
theorem dL_law_765 : decode cL_law 765 = .ok (.invokevirtual 110, 3) := by decide +kernel
theorem dL_law_768 : decode cL_law 768 = .ok (.aload_n 2, 1) := by decide +kernel
theorem dL_law_769 : decode cL_law 769 = .ok (.aload_n 0, 1) := by decide +kernel
theorem dL_law_770 : decode cL_law 770 = .ok (.iload_n 3, 1) := by decide +kernel
theorem dL_law_771 : decode cL_law 771 = .ok (.iconst 1, 1) := by decide +kernel
theorem dL_law_772 : decode cL_law 772 = .ok (.iadd, 1) := by decide +kernel
theorem dL_law_773 : decode cL_law 773 = .ok (.iaload, 1) := by decide +kernel
theorem dL_law_774 : decode cL_law 774 = .ok (.aload_n 0, 1) := by decide +kernel
theorem dL_law_775 : decode cL_law 775 = .ok (.iload_n 3, 1) := by decide +kernel
theorem dL_law_776 : decode cL_law 776 = .ok (.iconst 2, 1) := by decide +kernel
theorem dL_law_777 : decode cL_law 777 = .ok (.iadd, 1) := by decide +kernel
theorem dL_law_778 : decode cL_law 778 = .ok (.iaload, 1) := by decide +kernel
theorem dL_law_779 : decode cL_law 779 = .ok (.aload_n 0, 1) := by decide +kernel
theorem dL_law_780 : decode cL_law 780 = .ok (.iload_n 3, 1) := by decide +kernel
theorem dL_law_781 : decode cL_law 781 = .ok (.iconst 3, 1) := by decide +kernel
theorem dL_law_782 : decode cL_law 782 = .ok (.iadd, 1) := by decide +kernel
theorem dL_law_783 : decode cL_law 783 = .ok (.iaload, 1) := by decide +kernel
theorem dL_law_784 : decode cL_law 784 = .ok (.aload_n 0, 1) := by decide +kernel
theorem dL_law_785 : decode cL_law 785 = .ok (.iload_n 3, 1) := by decide +kernel
theorem dL_law_786 : decode cL_law 786 = .ok (.iconst 4, 1) := by decide +kernel
theorem dL_law_787 : decode cL_law 787 = .ok (.iadd, 1) := by decide +kernel
theorem dL_law_788 : decode cL_law 788 = .ok (.iaload, 1) := by decide +kernel
theorem dL_law_789 : decode cL_law 789 = .ok (.invokevirtual 114, 3) := by decide +kernel
theorem dL_law_792 : decode cL_law 792 = .ok (.if_icmp .eq 171, 3) := by decide +kernel
theorem dL_law_795 : decode cL_law 795 = .ok (.iconst 0, 1) := by decide +kernel
theorem dL_law_796 : decode cL_law 796 = .ok (.ireturn, 1) := by decide +kernel
theorem dL_law_797 : decode cL_law 797 = .ok (.aload_n 1, 1) := by decide +kernel
theorem dL_law_798 : decode cL_law 798 = .ok (.aload_n 0, 1) := by decide +kernel
theorem dL_law_799 : decode cL_law 799 = .ok (.iload_n 3, 1) := by decide +kernel
theorem dL_law_800 : decode cL_law 800 = .ok (.iconst 1, 1) := by decide +kernel
theorem dL_law_801 : decode cL_law 801 = .ok (.iadd, 1) := by decide +kernel
theorem dL_law_802 : decode cL_law 802 = .ok (.iaload, 1) := by decide +kernel
theorem dL_law_803 : decode cL_law 803 = .ok (.aload_n 0, 1) := by decide +kernel
theorem dL_law_804 : decode cL_law 804 = .ok (.iload_n 3, 1) := by decide +kernel
theorem dL_law_805 : decode cL_law 805 = .ok (.iconst 2, 1) := by decide +kernel
theorem dL_law_806 : decode cL_law 806 = .ok (.iadd, 1) := by decide +kernel
theorem dL_law_807 : decode cL_law 807 = .ok (.iaload, 1) := by decide +kernel
theorem dL_law_808 : decode cL_law 808 = .ok (.aload_n 0, 1) := by decide +kernel
theorem dL_law_809 : decode cL_law 809 = .ok (.iload_n 3, 1) := by decide +kernel
theorem dL_law_810 : decode cL_law 810 = .ok (.iconst 3, 1) := by decide +kernel
theorem dL_law_811 : decode cL_law 811 = .ok (.iadd, 1) := by decide +kernel
theorem dL_law_812 : decode cL_law 812 = .ok (.iaload, 1) := by decide +kernel
theorem dL_law_813 : decode cL_law 813 = .ok (.invokevirtual 115, 3) := by decide +kernel
theorem dL_law_816 : decode cL_law 816 = .ok (.aload_n 2, 1) := by decide +kernel
theorem dL_law_817 : decode cL_law 817 = .ok (.aload_n 0, 1) := by decide +kernel
theorem dL_law_818 : decode cL_law 818 = .ok (.iload_n 3, 1) := by decide +kernel
theorem dL_law_819 : decode cL_law 819 = .ok (.iconst 1, 1) := by decide +kernel
theorem dL_law_820 : decode cL_law 820 = .ok (.iadd, 1) := by decide +kernel
theorem dL_law_821 : decode cL_law 821 = .ok (.iaload, 1) := by decide +kernel
theorem dL_law_822 : decode cL_law 822 = .ok (.aload_n 0, 1) := by decide +kernel
theorem dL_law_823 : decode cL_law 823 = .ok (.iload_n 3, 1) := by decide +kernel
theorem dL_law_824 : decode cL_law 824 = .ok (.iconst 2, 1) := by decide +kernel
theorem dL_law_825 : decode cL_law 825 = .ok (.iadd, 1) := by decide +kernel
theorem dL_law_826 : decode cL_law 826 = .ok (.iaload, 1) := by decide +kernel
theorem dL_law_827 : decode cL_law 827 = .ok (.aload_n 0, 1) := by decide +kernel
theorem dL_law_828 : decode cL_law 828 = .ok (.iload_n 3, 1) := by decide +kernel
theorem dL_law_829 : decode cL_law 829 = .ok (.iconst 3, 1) := by decide +kernel
theorem dL_law_830 : decode cL_law 830 = .ok (.iadd, 1) := by decide +kernel
theorem dL_law_831 : decode cL_law 831 = .ok (.iaload, 1) := by decide +kernel
theorem dL_law_832 : decode cL_law 832 = .ok (.invokevirtual 118, 3) := by decide +kernel
theorem dL_law_835 : decode cL_law 835 = .ok (.if_icmp .eq 128, 3) := by decide +kernel
theorem dL_law_838 : decode cL_law 838 = .ok (.iconst 0, 1) := by decide +kernel
theorem dL_law_839 : decode cL_law 839 = .ok (.ireturn, 1) := by decide +kernel
theorem dL_law_840 : decode cL_law 840 = .ok (.aload_n 1, 1) := by decide +kernel
theorem dL_law_841 : decode cL_law 841 = .ok (.aload_n 0, 1) := by decide +kernel
theorem dL_law_842 : decode cL_law 842 = .ok (.iload_n 3, 1) := by decide +kernel
theorem dL_law_843 : decode cL_law 843 = .ok (.iconst 1, 1) := by decide +kernel
theorem dL_law_844 : decode cL_law 844 = .ok (.iadd, 1) := by decide +kernel
theorem dL_law_845 : decode cL_law 845 = .ok (.iaload, 1) := by decide +kernel
theorem dL_law_846 : decode cL_law 846 = .ok (.aload_n 0, 1) := by decide +kernel
theorem dL_law_847 : decode cL_law 847 = .ok (.iload_n 3, 1) := by decide +kernel
theorem dL_law_848 : decode cL_law 848 = .ok (.iconst 2, 1) := by decide +kernel
theorem dL_law_849 : decode cL_law 849 = .ok (.iadd, 1) := by decide +kernel
theorem dL_law_850 : decode cL_law 850 = .ok (.iaload, 1) := by decide +kernel
theorem dL_law_851 : decode cL_law 851 = .ok (.aload_n 0, 1) := by decide +kernel
theorem dL_law_852 : decode cL_law 852 = .ok (.iload_n 3, 1) := by decide +kernel
theorem dL_law_853 : decode cL_law 853 = .ok (.iconst 3, 1) := by decide +kernel
theorem dL_law_854 : decode cL_law 854 = .ok (.iadd, 1) := by decide +kernel
theorem dL_law_855 : decode cL_law 855 = .ok (.iaload, 1) := by decide +kernel
theorem dL_law_856 : decode cL_law 856 = .ok (.aload_n 0, 1) := by decide +kernel
theorem dL_law_857 : decode cL_law 857 = .ok (.iload_n 3, 1) := by decide +kernel
theorem dL_law_858 : decode cL_law 858 = .ok (.iconst 4, 1) := by decide +kernel
theorem dL_law_859 : decode cL_law 859 = .ok (.iadd, 1) := by decide +kernel
theorem dL_law_860 : decode cL_law 860 = .ok (.iaload, 1) := by decide +kernel
theorem dL_law_861 : decode cL_law 861 = .ok (.aload_n 0, 1) := by decide +kernel
theorem dL_law_862 : decode cL_law 862 = .ok (.iload_n 3, 1) := by decide +kernel
theorem dL_law_863 : decode cL_law 863 = .ok (.iconst 5, 1) := by decide +kernel
theorem dL_law_864 : decode cL_law 864 = .ok (.iadd, 1) := by decide +kernel
theorem dL_law_865 : decode cL_law 865 = .ok (.iaload, 1) := by decide +kernel
theorem dL_law_866 : decode cL_law 866 = .ok (.invokevirtual 119, 3) := by decide +kernel
theorem dL_law_869 : decode cL_law 869 = .ok (.aload_n 2, 1) := by decide +kernel
theorem dL_law_870 : decode cL_law 870 = .ok (.aload_n 0, 1) := by decide +kernel
theorem dL_law_871 : decode cL_law 871 = .ok (.iload_n 3, 1) := by decide +kernel
theorem dL_law_872 : decode cL_law 872 = .ok (.iconst 1, 1) := by decide +kernel
theorem dL_law_873 : decode cL_law 873 = .ok (.iadd, 1) := by decide +kernel
theorem dL_law_874 : decode cL_law 874 = .ok (.iaload, 1) := by decide +kernel
theorem dL_law_875 : decode cL_law 875 = .ok (.aload_n 0, 1) := by decide +kernel
theorem dL_law_876 : decode cL_law 876 = .ok (.iload_n 3, 1) := by decide +kernel
theorem dL_law_877 : decode cL_law 877 = .ok (.iconst 2, 1) := by decide +kernel
theorem dL_law_878 : decode cL_law 878 = .ok (.iadd, 1) := by decide +kernel
theorem dL_law_879 : decode cL_law 879 = .ok (.iaload, 1) := by decide +kernel
theorem dL_law_880 : decode cL_law 880 = .ok (.aload_n 0, 1) := by decide +kernel
theorem dL_law_881 : decode cL_law 881 = .ok (.iload_n 3, 1) := by decide +kernel
theorem dL_law_882 : decode cL_law 882 = .ok (.iconst 3, 1) := by decide +kernel
theorem dL_law_883 : decode cL_law 883 = .ok (.iadd, 1) := by decide +kernel
theorem dL_law_884 : decode cL_law 884 = .ok (.iaload, 1) := by decide +kernel
theorem dL_law_885 : decode cL_law 885 = .ok (.aload_n 0, 1) := by decide +kernel
theorem dL_law_886 : decode cL_law 886 = .ok (.iload_n 3, 1) := by decide +kernel
theorem dL_law_887 : decode cL_law 887 = .ok (.iconst 4, 1) := by decide +kernel
theorem dL_law_888 : decode cL_law 888 = .ok (.iadd, 1) := by decide +kernel
theorem dL_law_889 : decode cL_law 889 = .ok (.iaload, 1) := by decide +kernel
theorem dL_law_890 : decode cL_law 890 = .ok (.aload_n 0, 1) := by decide +kernel
theorem dL_law_891 : decode cL_law 891 = .ok (.iload_n 3, 1) := by decide +kernel
theorem dL_law_892 : decode cL_law 892 = .ok (.iconst 5, 1) := by decide +kernel
theorem dL_law_893 : decode cL_law 893 = .ok (.iadd, 1) := by decide +kernel
theorem dL_law_894 : decode cL_law 894 = .ok (.iaload, 1) := by decide +kernel
theorem dL_law_895 : decode cL_law 895 = .ok (.invokevirtual 123, 3) := by decide +kernel
theorem dL_law_898 : decode cL_law 898 = .ok (.if_icmp .eq 65, 3) := by decide +kernel
theorem dL_law_901 : decode cL_law 901 = .ok (.iconst 0, 1) := by decide +kernel
theorem dL_law_902 : decode cL_law 902 = .ok (.ireturn, 1) := by decide +kernel
theorem dL_law_903 : decode cL_law 903 = .ok (.aload_n 1, 1) := by decide +kernel
theorem dL_law_904 : decode cL_law 904 = .ok (.aload_n 0, 1) := by decide +kernel
theorem dL_law_905 : decode cL_law 905 = .ok (.iload_n 3, 1) := by decide +kernel
theorem dL_law_906 : decode cL_law 906 = .ok (.iconst 1, 1) := by decide +kernel
theorem dL_law_907 : decode cL_law 907 = .ok (.iadd, 1) := by decide +kernel
theorem dL_law_908 : decode cL_law 908 = .ok (.iaload, 1) := by decide +kernel
theorem dL_law_909 : decode cL_law 909 = .ok (.invokevirtual 124, 3) := by decide +kernel
theorem dL_law_912 : decode cL_law 912 = .ok (.aload_n 2, 1) := by decide +kernel
theorem dL_law_913 : decode cL_law 913 = .ok (.aload_n 0, 1) := by decide +kernel
theorem dL_law_914 : decode cL_law 914 = .ok (.iload_n 3, 1) := by decide +kernel
theorem dL_law_915 : decode cL_law 915 = .ok (.iconst 1, 1) := by decide +kernel
theorem dL_law_916 : decode cL_law 916 = .ok (.iadd, 1) := by decide +kernel
theorem dL_law_917 : decode cL_law 917 = .ok (.iaload, 1) := by decide +kernel
theorem dL_law_918 : decode cL_law 918 = .ok (.invokevirtual 127, 3) := by decide +kernel
theorem dL_law_921 : decode cL_law 921 = .ok (.if_icmp .eq 42, 3) := by decide +kernel
theorem dL_law_924 : decode cL_law 924 = .ok (.iconst 0, 1) := by decide +kernel
theorem dL_law_925 : decode cL_law 925 = .ok (.ireturn, 1) := by decide +kernel
theorem dL_law_926 : decode cL_law 926 = .ok (.aload_n 1, 1) := by decide +kernel
theorem dL_law_927 : decode cL_law 927 = .ok (.aload_n 0, 1) := by decide +kernel
theorem dL_law_928 : decode cL_law 928 = .ok (.iload_n 3, 1) := by decide +kernel
theorem dL_law_929 : decode cL_law 929 = .ok (.iconst 1, 1) := by decide +kernel
theorem dL_law_930 : decode cL_law 930 = .ok (.iadd, 1) := by decide +kernel
theorem dL_law_931 : decode cL_law 931 = .ok (.iaload, 1) := by decide +kernel
theorem dL_law_932 : decode cL_law 932 = .ok (.invokevirtual 128, 3) := by decide +kernel
theorem dL_law_935 : decode cL_law 935 = .ok (.aload_n 2, 1) := by decide +kernel
theorem dL_law_936 : decode cL_law 936 = .ok (.aload_n 0, 1) := by decide +kernel
theorem dL_law_937 : decode cL_law 937 = .ok (.iload_n 3, 1) := by decide +kernel
theorem dL_law_938 : decode cL_law 938 = .ok (.iconst 1, 1) := by decide +kernel
theorem dL_law_939 : decode cL_law 939 = .ok (.iadd, 1) := by decide +kernel
theorem dL_law_940 : decode cL_law 940 = .ok (.iaload, 1) := by decide +kernel
theorem dL_law_941 : decode cL_law 941 = .ok (.invokevirtual 131, 3) := by decide +kernel
theorem dL_law_944 : decode cL_law 944 = .ok (.if_icmp .eq 19, 3) := by decide +kernel
theorem dL_law_947 : decode cL_law 947 = .ok (.iconst 0, 1) := by decide +kernel
theorem dL_law_948 : decode cL_law 948 = .ok (.ireturn, 1) := by decide +kernel
theorem dL_law_949 : decode cL_law 949 = .ok (.aload_n 1, 1) := by decide +kernel
theorem dL_law_950 : decode cL_law 950 = .ok (.invokevirtual 132, 3) := by decide +kernel
theorem dL_law_953 : decode cL_law 953 = .ok (.aload_n 2, 1) := by decide +kernel
theorem dL_law_954 : decode cL_law 954 = .ok (.invokevirtual 136, 3) := by decide +kernel
theorem dL_law_957 : decode cL_law 957 = .ok (.lcmp, 1) := by decide +kernel
theorem dL_law_958 : decode cL_law 958 = .ok (.ifCond .eq 5, 3) := by decide +kernel
theorem dL_law_961 : decode cL_law 961 = .ok (.iconst 0, 1) := by decide +kernel
theorem dL_law_962 : decode cL_law 962 = .ok (.ireturn, 1) := by decide +kernel
theorem dL_law_963 : decode cL_law 963 = .ok (.iinc 3 6, 3) := by decide +kernel
theorem dL_law_966 : decode cL_law 966 = .ok (.goto (-948), 3) := by decide +kernel
theorem dL_law_969 : decode cL_law 969 = .ok (.iconst 1, 1) := by decide +kernel
theorem dL_law_970 : decode cL_law 970 = .ok (.ireturn, 1) := by decide +kernel
end
section
/-! ===== the abstract machine: numbers of cells in place of addresses, a function for all ints of the heap ===== -/
abbrev CX : Type := va_G × (Nat → ClassId) × Nat × (Nat → Nat) × Nat × (Nat → Int32)
def gB (G : CX) : Nat := G.2.2.1
def gRo (G : CX) : Nat → Nat := G.2.2.2.1
def gL (G : CX) : Nat := G.2.2.2.2.1
def gXs (G : CX) : Nat → Int32 := G.2.2.2.2.2
def ad (G : CX) (r : Nat) : Nat := if r < 1000 then gB G + r else gRo G r
def av (G : CX) : Value → Value
  | .ref r => .ref (ad G r)
  | v => v
def gA (G : CX) : Nat → Prop := fun q => gB G ≤ q
abbrev Sh : Type := List (Nat × Nat × List (Option Nat))
abbrev HP : Type := Nat → Nat → Int32
def st (I : HP) (k j : Nat) (v : Int32) : HP := fun a b => if a = k ∧ b = j then v else I a b
theorem st_row (I : HP) (k j : Nat) (v : Int32) : (st I k j v) k = upd (I k) j v := by
  funext b
  simp only [st, upd, true_and]
theorem st_off {I : HP} {k j a : Nat} {v : Int32} (h : a ≠ k) : (st I k j v) a = I a := by
  funext b
  simp [st, h]
/-- which slots of a class hold references -/
def rK (c j : Nat) : Bool := match c with
  | 0 => j < 6
  | 1 => true
  | 2 => j == 0
  | 3 => j == 0
  | 4 => j < 2
  | 5 => j < 3
  | 6 => false
  | 7 => j < 9
  | _ => !(j == 4 || j == 7 || j == 11 || j == 20 || j == 21 || j == 22 || j == 23 || j == 26 || j == 27 || j == 28)
def fV (G : CX) (k : Nat) (c : Nat × Nat × List (Option Nat)) (I : HP) (j : Nat) : Value := if rK c.1 j = true then va_rf ((c.2.2.getD j none).map (ad G)) else .int (I k j)
def cE (G : CX) (k : Nat) (c : Nat × Nat × List (Option Nat)) (I : HP) : va_E :=
  if c.1 < 9 then .inr (c.1, (List.range c.2.1).map (fV G k c I))
  else if c.1 < 11 then .inl (G.2.1 c.1, c.2.1, .inl (I k))
  else .inl (G.2.1 c.1, c.2.1, .inr (.inr (.inr (.inr (fun j => (c.2.2.getD j none).map (ad G))))))
def wO (G : CX) (sh : Sh) (I : HP) : va_W := sh.mapIdx (fun k c => (gB G + k, cE G k c I))
theorem wO_at {G : CX} {sh : Sh} {I : HP} {k : Nat} {c : Nat × Nat × List (Option Nat)} (h : sh[k]? = some c) : (wO G sh I)[k]? = some (gB G + k, cE G k c I) := by
  simp [wO, List.getElem?_mapIdx, h]
theorem wO_inv {G : CX} {sh : Sh} {I : HP} {k : Nat} {q : Nat × va_E} (h : (wO G sh I)[k]? = some q) : ∃ c, sh[k]? = some c ∧ q = (gB G + k, cE G k c I) := by
  simp only [wO, List.getElem?_mapIdx] at h
  cases hs : sh[k]? with
  | none => rw [hs] at h; cases h
  | some c => rw [hs] at h; exact ⟨c, rfl, (Option.some.inj h).symm⟩
theorem wO_D {G : CX} {sh : Sh} {I : HP} : va_D (gA G) (wO G sh I) := by
  refine ⟨fun i j p q hi hj h => ?_, fun k q hk => ?_⟩
  · obtain ⟨c, -, rfl⟩ := wO_inv hi
    obtain ⟨d, -, rfl⟩ := wO_inv hj
    have h : gB G + i = gB G + j := h
    omega
  · obtain ⟨c, -, rfl⟩ := wO_inv hk
    exact Nat.le_add_right _ _
theorem cE_off {G : CX} {k : Nat} {c : Nat × Nat × List (Option Nat)} {I I' : HP} (h : I' k = I k) : cE G k c I' = cE G k c I := by
  have hf : fV G k c I' = fV G k c I := by
    funext j
    unfold fV
    rw [h]
  unfold cE
  rw [hf, h]
theorem wO_set {G : CX} {sh : Sh} {I I' : HP} {k : Nat} {c : Nat × Nat × List (Option Nat)} {e : va_E} (hk : sh[k]? = some c) (he : e = cE G k c I') (ho : ∀ a, a ≠ k → I' a = I a) : (wO G sh I).set k (gB G + k, e) = wO G sh I' := by
  apply List.ext_getElem?
  intro i
  by_cases h : i = k
  · subst h
    have hlt : i < (wO G sh I).length := by simp [wO, (List.getElem?_eq_some_iff.mp hk).1]
    rw [List.getElem?_set_self hlt, wO_at hk, he]
  · rw [List.getElem?_set_ne (Ne.symm h)]
    simp only [wO, List.getElem?_mapIdx]
    cases sh[i]? with
    | none => rfl
    | some d => simp only [Option.map_some, cE_off (ho i h)]
theorem cE_obj {G : CX} {k : Nat} {c : Nat × Nat × List (Option Nat)} {I : HP} (h : c.1 < 9) : cE G k c I = .inr (c.1, (List.range c.2.1).map (fV G k c I)) := by
  unfold cE
  rw [if_pos h]
theorem cE_int {G : CX} {k n : Nat} {r : List (Option Nat)} {I : HP} : cE G k (9, n, r) I = .inl (G.2.1 9, n, .inl (I k)) := rfl
theorem cE_bool {G : CX} {k n : Nat} {r : List (Option Nat)} {I : HP} : cE G k (10, n, r) I = .inl (G.2.1 10, n, .inl (I k)) := rfl
theorem fV_get {G : CX} {k j n : Nat} {c : Nat × Nat × List (Option Nat)} {I : HP} (h : j < n) : ((List.range n).map (fV G k c I))[j]? = some (fV G k c I j) := by
  simp [h]
theorem fV_set {G : CX} {k j : Nat} {c : Nat × Nat × List (Option Nat)} {I : HP} {v : Int32} (hr : rK c.1 j = false) : ((List.range c.2.1).map (fV G k c I)).set j (.int v) = (List.range c.2.1).map (fV G k c (st I k j v)) := by
  apply List.ext_getElem?
  intro i
  by_cases h : i = j
  · subst h
    by_cases hn : i < c.2.1
    · rw [List.getElem?_set_self (by simpa using hn), fV_get hn]
      simp [fV, hr, st]
    · rw [List.getElem?_eq_none (by simpa using Nat.not_lt.mp hn), List.getElem?_eq_none (by simpa using Nat.not_lt.mp hn)]
  · rw [List.getElem?_set_ne (Ne.symm h)]
    by_cases hn : i < c.2.1
    · rw [fV_get hn, fV_get hn]
      simp [fV, st, h]
    · rw [List.getElem?_eq_none (by simpa using Nat.not_lt.mp hn), List.getElem?_eq_none (by simpa using Nat.not_lt.mp hn)]
def tyO (G : CX) : List (ClassId × FieldType) := [(G.2.1 9, .int), (G.2.1 10, .boolean), (G.2.1 11, .object "MayNotPause$Turn"), (G.2.1 12, .object "MayNotPause$Sheet")]
def lsF (j : Nat) : Int32 := [(0 : Int32), 1, 0, 0, 0, 0].getD j 0
def msF (j : Nat) : Int32 := [(99 : Int32), 99, 9, 9, 1, 4095].getD j 0
/-- what nobody writes: the script, the two tables; and the words that don't ride with the others -/
def rO (G : CX) (U : State) (H : Heap) : Prop := (va_X (gRo G 1000) (gL G) (gXs G) U H ∧ gRo G 1000 < gB G) ∧ (va_X (gRo G 1001) 6 lsF U H ∧ gRo G 1001 < gB G) ∧ (va_X (gRo G 1002) 6 msF U H ∧ gRo G 1002 < gB G) ∧ va_Z "MayNotPause" "LEAST_SETTING" "[I" (.ref (gRo G 1001)) (gA G) U H ∧ va_Z "MayNotPause" "MOST_SETTING" "[I" (.ref (gRo G 1002)) (gA G) U H ∧ (va_Nw (.methodLinkNest RX5 17 yX6_init RX7) U ∧ va_Nw (.methodLinkNest RX7 55 yX4_init RX7) U ∧ va_Nw (.methodLinkNest RX7 66 yX3_init RX7) U) ∧ va_AO "MayNotPause$Turn" U ∧ va_AO "MayNotPause$Sheet" U
theorem rO_kept {G : CX} {U : State} {H H1 : Heap} (h : rO G U H) (hq : ∀ q : Nat, q < H.size → ¬ gA G q → H1[q]? = H[q]?) (hs : gB G ≤ H.size) : rO G U H1 := by
  obtain ⟨⟨a1, a2⟩, ⟨b1, b2⟩, ⟨c1, c2⟩, d1, d2, d3⟩ := h
  have k : ∀ q : Nat, q < gB G → H1[q]? = H[q]? := fun q h => hq q (Nat.lt_of_lt_of_le h hs) (Nat.not_le.mpr h)
  exact ⟨⟨a1.kept (k _ a2), a2⟩, ⟨b1.kept (k _ b2), b2⟩, ⟨c1.kept (k _ c2), c2⟩, d1.kept hq, d2.kept hq, d3⟩
theorem rO_warm {G : CX} {s U : State} {H : Heap} (hW : s.WarmedH U.vm) (h : rO G s H) : rO G U H := by
  obtain ⟨⟨a1, a2⟩, ⟨b1, b2⟩, ⟨c1, c2⟩, d1, d2, ⟨e1, e2, e3⟩, f1, f2⟩ := h
  exact ⟨⟨a1.moved hW.alike, a2⟩, ⟨b1.moved hW.alike, b2⟩, ⟨c1.moved hW.alike, c2⟩, d1.moved hW.alike, d2.moved hW.alike, ⟨e1.warmM hW, e2.warmM hW, e3.warmM hW⟩, f1.moved hW.alike, f2.moved hW.alike⟩
theorem rO_same {G : CX} {u U : State} {H : Heap} (h : u.vm = U.vm) (hO : rO G u H) : rO G U H := by
  obtain ⟨⟨a1, a2⟩, ⟨b1, b2⟩, ⟨c1, c2⟩, d1, d2, ⟨e1, e2, e3⟩, f1, f2⟩ := hO
  have hA : u.vm.Alike U.vm := by rw [h]; exact Vm.Alike.refl _
  exact ⟨⟨a1.moved hA, a2⟩, ⟨b1.moved hA, b2⟩, ⟨c1.moved hA, c2⟩, d1.moved hA, d2.moved hA, ⟨e1.same rfl h, e2.same rfl h, e3.same rfl h⟩, f1.moved hA, f2.moved hA⟩
/-- the words that every method takes along -/
def wG : List Cond := lw_tbl.filter goodWord
theorem wG_good {big : List Cond} (h : ∀ w ∈ wG, w ∈ big) : GoodIn big wG := fun w hw => ⟨h w hw, good_of_word (List.mem_filter.mp hw).2⟩
theorem wG_in {w : Cond} (h : w ∈ lw_tbl) (hg : goodWord w = true) : w ∈ wG := List.mem_filter.mpr ⟨h, hg⟩
/-- a method: name, code, locals, answer; height, cells, slots -/
abbrev YY : Type := MethodName × ByteArray × Nat × Option FieldType × Nat × Nat × Nat
def yH (Y : YY) : Nat := Y.2.2.2.2.1
def yC (Y : YY) : Nat := Y.2.2.2.2.2.1
def yS (Y : YY) : Nat := Y.2.2.2.2.2.2
def yW (Y : YY) : List Cond := .code Y.1 Y.2.1 Y.2.2.1 Y.2.2.2.1 :: wG
def yR (Y : YY) : Room := { frames := yH Y, cells := yC Y, slots := yS Y, locals := 60 * yH Y }
def rW (G : CX) (sh : Sh) (I : HP) (U : State) : Prop := va_P G.1 vwCl (wO G sh I) U.heap ∧ U.heap.size = gB G + sh.length ∧ va_K G.1 vwCl (tyO G) U ∧ rO G U U.heap
def QC (G : CX) (k : Nat) (Q : Sh → HP → Option Value → Prop) : Array Value → State → Outcome → State → Prop := fun _ s0 o t => ∃ (sh : Sh) (I : HP) (v : Option Value), o = .returned (v.map (av G)) ∧ Q sh I v ∧ va_P G.1 vwCl (wO G sh I) t.heap ∧ s0.heap.size + k = gB G + sh.length ∧ va_F (gA G) s0 t
def Ret (G : CX) (Y : YY) (As : List Value) (sh : Sh) (I : HP) (Q : Sh → HP → Option Value → Prop) : Prop :=
  ∀ l : Launch, Met l Y.1 (yW Y) (yR Y) (va_Pc (As.map (av G)) (rW G sh I)) (QC G (yC Y) Q) (yC Y) (yS Y) (gA G)
def CT (G : CX) (Y : YY) (p : Program) (R : Room) (s : State) (m : MethodId) (args : Array Value) (meth : Method) (c : Code) : Prop :=
  CallFix p m c Y.2.1 Y.2.2.1 s args wG Y.1.cls ∧ (meth.sig.returnType = Y.2.2.2.1 ∧ meth.locks = false ∧ meth.name = Y.1.name) ∧ (yH Y ≤ R.frames ∧ 60 * yH Y ≤ R.locals ∧ yC Y ≤ R.cells ∧ yS Y ≤ R.slots) ∧ va_K G.1 vwCl (tyO G) s ∧ rO G s s.heap ∧ gB G ≤ s.heap.size
def lM (G : CX) (L : List (Nat × Value)) : List (Nat × Value) := L.map (fun q => (q.1, av G q.2))
def Go (G : CX) (Y : YY) (pc : Nat) (L : List (Nat × Value)) (S : List Value) (sh : Sh) (I : HP) (k n : Nat) (Q : Sh → HP → Option Value → Prop) : Prop :=
  ∀ (p : Program) (l : Launch) (e : Env) (R : Room) (s : State) (m : MethodId) (args : Array Value) (below : List Frame) (meth : Method) (c : Code) (H : Heap) (locs : List Loc) (ls : Array Slot),
    CT G Y p R s m args meth c → va_P G.1 vwCl (wO G sh I) H → s.heap.size + k = gB G + sh.length → va_S (gA G) s.heap H locs → lv_has ls Y.2.2.1 (lM G L) →
    W p l e R s m args below meth c H locs k n (MQ below (QC G (yC Y) Q) args s (yC Y) (yS Y) (gA G)) (F0 m pc ls (S.map (av G)))
theorem av_cat (G : CX) (v : Value) : (av G v).category = v.category := by cases v <;> rfl
theorem lM_at {G : CX} {L : List (Nat × Value)} {ls : Array Slot} {nL : Nat} (h : lv_has ls nL (lM G L)) (q : Nat) {i : Nat} {v : Value} (hq : L[q]? = some (i, v)) : ls[i]? = some (.val (av G v)) :=
  lv_at h q (i := i) (v := av G v) (by simp [lM, hq])
/-- a local is stored -/
def ls1 (i : Nat) (v : Value) (L : List (Nat × Value)) : List (Nat × Value) := (i, v) :: L.filter (fun q => !(q.1 == i) && !(q.1 + 1 == i && q.2.category == 2))
def ls2 (i : Nat) (v : Value) (L : List (Nat × Value)) : List (Nat × Value) := (i, v) :: L.filter (fun q => !(q.1 == i) && (!(q.1 == i + 1) && !(q.1 + 1 == i && q.2.category == 2)))
theorem lM_1 (G : CX) (i : Nat) (v : Value) (L : List (Nat × Value)) : (i, av G v) :: (lM G L).filter (fun q => !(q.1 == i) && !(q.1 + 1 == i && q.2.category == 2)) = lM G (ls1 i v L) := by
  simp only [lM, ls1, List.filter_map, List.map_cons]
  congr 2
  apply List.filter_congr
  intro x _
  simp only [Function.comp, av_cat]
theorem lM_2 (G : CX) (i : Nat) (v : Value) (L : List (Nat × Value)) : (i, av G v) :: (lM G L).filter (fun q => !(q.1 == i) && (!(q.1 == i + 1) && !(q.1 + 1 == i && q.2.category == 2))) = lM G (ls2 i v L) := by
  simp only [lM, ls2, List.filter_map, List.map_cons]
  congr 2
  apply List.filter_congr
  intro x _
  simp only [Function.comp, av_cat]
section Rows
variable {G : CX} {Y : YY} {pc : Nat} {L : List (Nat × Value)} {S : List Value} {sh : Sh} {I : HP} {k n : Nat} {Q : Sh → HP → Option Value → Prop}

theorem go_iconst {a : Int} {v : Int32} (hd : decode Y.2.1 pc = .ok (.iconst a, 1)) (hv : Int32.ofInt a = v) (kk : Go G Y (pc + 1) L (.int v :: S) sh I k n Q) : Go G Y pc L S sh I k n Q := by
  intro p l e R s m args below meth c H locs ls C hP hz hS hl
  exact lv_iconst C.1.1 C.1.2.1 hd hv (kk p l e R s m args below meth c H locs ls C hP hz hS hl)
theorem go_bipush {a : Int} {v : Int32} (hd : decode Y.2.1 pc = .ok (.bipush a, 2)) (hv : (Int8.ofInt a).toInt32 = v) (kk : Go G Y (pc + 2) L (.int v :: S) sh I k n Q) : Go G Y pc L S sh I k n Q := by
  intro p l e R s m args below meth c H locs ls C hP hz hS hl
  exact lv_bipush C.1.1 C.1.2.1 hd hv (kk p l e R s m args below meth c H locs ls C hP hz hS hl)
theorem go_sipush {a : Int} {v : Int32} (hd : decode Y.2.1 pc = .ok (.sipush a, 3)) (hv : (Int16.ofInt a).toInt32 = v) (kk : Go G Y (pc + 3) L (.int v :: S) sh I k n Q) : Go G Y pc L S sh I k n Q := by
  intro p l e R s m args below meth c H locs ls C hP hz hS hl
  exact lv_sipush C.1.1 C.1.2.1 hd hv (kk p l e R s m args below meth c H locs ls C hP hz hS hl)
theorem go_lconst {a : Fin 2} {v : Int64} (hd : decode Y.2.1 pc = .ok (.lconst a, 1)) (hv : Int64.ofNat (a : Nat) = v) (kk : Go G Y (pc + 1) L (.long v :: S) sh I k n Q) : Go G Y pc L S sh I k n Q := by
  intro p l e R s m args below meth c H locs ls C hP hz hS hl
  exact lv_lconst C.1.1 C.1.2.1 hd hv (kk p l e R s m args below meth c H locs ls C hP hz hS hl)
theorem go_ldc {i : Nat} {v : Int32} (hd : decode Y.2.1 pc = .ok (.ldc i, 2)) (hw : Cond.constant Y.1.cls i v ∈ wG) (kk : Go G Y (pc + 2) L (.int v :: S) sh I k n Q) : Go G Y pc L S sh I k n Q := by
  intro p l e R s m args below meth c H locs ls C hP hz hS hl
  exact lv_ldc C.1.1 C.1.2.1 C.1.2.2.2.1 (C.1.2.2.2.2 _ hw) hd (kk p l e R s m args below meth c H locs ls C hP hz hS hl)
theorem go_ldcw {i : Nat} {v : Int32} (hd : decode Y.2.1 pc = .ok (.ldc_w i, 3)) (hw : Cond.constant Y.1.cls i v ∈ wG) (kk : Go G Y (pc + 3) L (.int v :: S) sh I k n Q) : Go G Y pc L S sh I k n Q := by
  intro p l e R s m args below meth c H locs ls C hP hz hS hl
  exact lv_ldcw C.1.1 C.1.2.1 C.1.2.2.2.1 (C.1.2.2.2.2 _ hw) hd (kk p l e R s m args below meth c H locs ls C hP hz hS hl)
theorem go_ldc2 {i : Nat} {v : Int64} (hd : decode Y.2.1 pc = .ok (.ldc2_w i, 3)) (hw : Cond.constantLong Y.1.cls i v ∈ wG) (kk : Go G Y (pc + 3) L (.long v :: S) sh I k n Q) : Go G Y pc L S sh I k n Q := by
  intro p l e R s m args below meth c H locs ls C hP hz hS hl
  exact lv_ldc2 C.1.1 C.1.2.1 C.1.2.2.2.1 (C.1.2.2.2.2 _ hw) hd (kk p l e R s m args below meth c H locs ls C hP hz hS hl)
theorem go_iload_n {a : Fin 4} {i : Nat} {x : Int32} (hd : decode Y.2.1 pc = .ok (.iload_n a, 1)) (hi : (a : Nat) = i) (q : Nat) (hq : L[q]? = some (i, .int x)) (kk : Go G Y (pc + 1) L (.int x :: S) sh I k n Q) : Go G Y pc L S sh I k n Q := by
  intro p l e R s m args below meth c H locs ls C hP hz hS hl
  exact lv_iload_n C.1.1 C.1.2.1 hd hi (lM_at hl q hq) (kk p l e R s m args below meth c H locs ls C hP hz hS hl)
theorem go_iload {i : Nat} {x : Int32} (hd : decode Y.2.1 pc = .ok (.iload i, 2)) (q : Nat) (hq : L[q]? = some (i, .int x)) (kk : Go G Y (pc + 2) L (.int x :: S) sh I k n Q) : Go G Y pc L S sh I k n Q := by
  intro p l e R s m args below meth c H locs ls C hP hz hS hl
  exact lv_iload C.1.1 C.1.2.1 hd (lM_at hl q hq) (kk p l e R s m args below meth c H locs ls C hP hz hS hl)
theorem go_istore_n {a : Fin 4} {i : Nat} {x : Int32} {L2 : List (Nat × Value)} (hd : decode Y.2.1 pc = .ok (.istore_n a, 1)) (hi : (a : Nat) = i) (hn : i < Y.2.2.1) (hL : ls1 i (.int x) L = L2) (kk : Go G Y (pc + 1) L2 S sh I k n Q) : Go G Y pc L (.int x :: S) sh I k n Q := by
  intro p l e R s m args below meth c H locs ls C hP hz hS hl
  subst hL
  exact lv_istore_n C.1.1 C.1.2.1 hd hi hl hn (lM_1 G i (.int x) L) (fun ls hl => kk p l e R s m args below meth c H locs ls C hP hz hS hl)
theorem go_istore {i : Nat} {x : Int32} {L2 : List (Nat × Value)} (hd : decode Y.2.1 pc = .ok (.istore i, 2)) (hn : i < Y.2.2.1) (hL : ls1 i (.int x) L = L2) (kk : Go G Y (pc + 2) L2 S sh I k n Q) : Go G Y pc L (.int x :: S) sh I k n Q := by
  intro p l e R s m args below meth c H locs ls C hP hz hS hl
  subst hL
  exact lv_istore C.1.1 C.1.2.1 hd hl hn (lM_1 G i (.int x) L) (fun ls hl => kk p l e R s m args below meth c H locs ls C hP hz hS hl)
theorem go_lload_n {a : Fin 4} {i : Nat} {x : Int64} (hd : decode Y.2.1 pc = .ok (.lload_n a, 1)) (hi : (a : Nat) = i) (q : Nat) (hq : L[q]? = some (i, .long x)) (kk : Go G Y (pc + 1) L (.long x :: S) sh I k n Q) : Go G Y pc L S sh I k n Q := by
  intro p l e R s m args below meth c H locs ls C hP hz hS hl
  exact lv_lload_n C.1.1 C.1.2.1 hd hi (lM_at hl q hq) (kk p l e R s m args below meth c H locs ls C hP hz hS hl)
theorem go_lload {i : Nat} {x : Int64} (hd : decode Y.2.1 pc = .ok (.lload i, 2)) (q : Nat) (hq : L[q]? = some (i, .long x)) (kk : Go G Y (pc + 2) L (.long x :: S) sh I k n Q) : Go G Y pc L S sh I k n Q := by
  intro p l e R s m args below meth c H locs ls C hP hz hS hl
  exact lv_lload C.1.1 C.1.2.1 hd (lM_at hl q hq) (kk p l e R s m args below meth c H locs ls C hP hz hS hl)
theorem go_lstore_n {a : Fin 4} {i : Nat} {x : Int64} {L2 : List (Nat × Value)} (hd : decode Y.2.1 pc = .ok (.lstore_n a, 1)) (hi : (a : Nat) = i) (hn : i + 1 < Y.2.2.1) (hL : ls2 i (.long x) L = L2) (kk : Go G Y (pc + 1) L2 S sh I k n Q) : Go G Y pc L (.long x :: S) sh I k n Q := by
  intro p l e R s m args below meth c H locs ls C hP hz hS hl
  subst hL
  exact lv_lstore_n C.1.1 C.1.2.1 hd hi hl hn (lM_2 G i (.long x) L) (fun ls hl => kk p l e R s m args below meth c H locs ls C hP hz hS hl)
theorem go_lstore {i : Nat} {x : Int64} {L2 : List (Nat × Value)} (hd : decode Y.2.1 pc = .ok (.lstore i, 2)) (hn : i + 1 < Y.2.2.1) (hL : ls2 i (.long x) L = L2) (kk : Go G Y (pc + 2) L2 S sh I k n Q) : Go G Y pc L (.long x :: S) sh I k n Q := by
  intro p l e R s m args below meth c H locs ls C hP hz hS hl
  subst hL
  exact lv_lstore C.1.1 C.1.2.1 hd hl hn (lM_2 G i (.long x) L) (fun ls hl => kk p l e R s m args below meth c H locs ls C hP hz hS hl)
theorem go_aload_n {a : Fin 4} {i : Nat} {x : Nat} (hd : decode Y.2.1 pc = .ok (.aload_n a, 1)) (hi : (a : Nat) = i) (q : Nat) (hq : L[q]? = some (i, .ref x)) (kk : Go G Y (pc + 1) L (.ref x :: S) sh I k n Q) : Go G Y pc L S sh I k n Q := by
  intro p l e R s m args below meth c H locs ls C hP hz hS hl
  exact lv_aload_n C.1.1 C.1.2.1 hd hi (lM_at hl q hq) (kk p l e R s m args below meth c H locs ls C hP hz hS hl)
theorem go_aload {i : Nat} {x : Nat} (hd : decode Y.2.1 pc = .ok (.aload i, 2)) (q : Nat) (hq : L[q]? = some (i, .ref x)) (kk : Go G Y (pc + 2) L (.ref x :: S) sh I k n Q) : Go G Y pc L S sh I k n Q := by
  intro p l e R s m args below meth c H locs ls C hP hz hS hl
  exact lv_aload C.1.1 C.1.2.1 hd (lM_at hl q hq) (kk p l e R s m args below meth c H locs ls C hP hz hS hl)
theorem go_astore_n {a : Fin 4} {i : Nat} {x : Nat} {L2 : List (Nat × Value)} (hd : decode Y.2.1 pc = .ok (.astore_n a, 1)) (hi : (a : Nat) = i) (hn : i < Y.2.2.1) (hL : ls1 i (.ref x) L = L2) (kk : Go G Y (pc + 1) L2 S sh I k n Q) : Go G Y pc L (.ref x :: S) sh I k n Q := by
  intro p l e R s m args below meth c H locs ls C hP hz hS hl
  subst hL
  exact lv_astore_n C.1.1 C.1.2.1 hd hi hl hn (lM_1 G i (.ref x) L) (fun ls hl => kk p l e R s m args below meth c H locs ls C hP hz hS hl)
theorem go_astore {i : Nat} {x : Nat} {L2 : List (Nat × Value)} (hd : decode Y.2.1 pc = .ok (.astore i, 2)) (hn : i < Y.2.2.1) (hL : ls1 i (.ref x) L = L2) (kk : Go G Y (pc + 2) L2 S sh I k n Q) : Go G Y pc L (.ref x :: S) sh I k n Q := by
  intro p l e R s m args below meth c H locs ls C hP hz hS hl
  subst hL
  exact lv_astore C.1.1 C.1.2.1 hd hl hn (lM_1 G i (.ref x) L) (fun ls hl => kk p l e R s m args below meth c H locs ls C hP hz hS hl)
theorem go_iinc {i : Nat} {a : Int} {x v : Int32} {L2 : List (Nat × Value)} (hd : decode Y.2.1 pc = .ok (.iinc i a, 3)) (q : Nat) (hq : L[q]? = some (i, .int x)) (hv : x + Int32.ofInt a = v) (hn : i < Y.2.2.1) (hL : ls1 i (.int v) L = L2) (kk : Go G Y (pc + 3) L2 S sh I k n Q) : Go G Y pc L S sh I k n Q := by
  intro p l e R s m args below meth c H locs ls C hP hz hS hl
  subst hL
  exact lv_iinc C.1.1 C.1.2.1 hd hl (k := q) (by simp only [lM, List.getElem?_map, hq]; rfl) hv hn (lM_1 G i (.int v) L) (fun ls hl => kk p l e R s m args below meth c H locs ls C hP hz hS hl)
theorem go_iadd {x y : Int32} (hd : decode Y.2.1 pc = .ok (.iadd, 1)) (kk : Go G Y (pc + 1) L (.int (x + y) :: S) sh I k n Q) : Go G Y pc L (.int y :: .int x :: S) sh I k n Q := by
  intro p l e R s m args below meth c H locs ls C hP hz hS hl
  exact lv_iadd C.1.1 C.1.2.1 hd (kk p l e R s m args below meth c H locs ls C hP hz hS hl)
theorem go_isub {x y : Int32} (hd : decode Y.2.1 pc = .ok (.isub, 1)) (kk : Go G Y (pc + 1) L (.int (x - y) :: S) sh I k n Q) : Go G Y pc L (.int y :: .int x :: S) sh I k n Q := by
  intro p l e R s m args below meth c H locs ls C hP hz hS hl
  exact lv_isub C.1.1 C.1.2.1 hd (kk p l e R s m args below meth c H locs ls C hP hz hS hl)
theorem go_imul {x y : Int32} (hd : decode Y.2.1 pc = .ok (.imul, 1)) (kk : Go G Y (pc + 1) L (.int (x * y) :: S) sh I k n Q) : Go G Y pc L (.int y :: .int x :: S) sh I k n Q := by
  intro p l e R s m args below meth c H locs ls C hP hz hS hl
  exact lv_imul C.1.1 C.1.2.1 hd (kk p l e R s m args below meth c H locs ls C hP hz hS hl)
theorem go_iand {x y : Int32} (hd : decode Y.2.1 pc = .ok (.iand, 1)) (kk : Go G Y (pc + 1) L (.int (x &&& y) :: S) sh I k n Q) : Go G Y pc L (.int y :: .int x :: S) sh I k n Q := by
  intro p l e R s m args below meth c H locs ls C hP hz hS hl
  exact lv_iand C.1.1 C.1.2.1 hd (kk p l e R s m args below meth c H locs ls C hP hz hS hl)
theorem go_ior {x y : Int32} (hd : decode Y.2.1 pc = .ok (.ior, 1)) (kk : Go G Y (pc + 1) L (.int (x ||| y) :: S) sh I k n Q) : Go G Y pc L (.int y :: .int x :: S) sh I k n Q := by
  intro p l e R s m args below meth c H locs ls C hP hz hS hl
  exact lv_ior C.1.1 C.1.2.1 hd (kk p l e R s m args below meth c H locs ls C hP hz hS hl)
theorem go_ishl {x y : Int32} (hd : decode Y.2.1 pc = .ok (.ishl, 1)) (kk : Go G Y (pc + 1) L (.int (x <<< (y &&& 31)) :: S) sh I k n Q) : Go G Y pc L (.int y :: .int x :: S) sh I k n Q := by
  intro p l e R s m args below meth c H locs ls C hP hz hS hl
  exact lv_ishl C.1.1 C.1.2.1 hd (kk p l e R s m args below meth c H locs ls C hP hz hS hl)
theorem go_ishr {x y : Int32} (hd : decode Y.2.1 pc = .ok (.ishr, 1)) (kk : Go G Y (pc + 1) L (.int (x >>> (y &&& 31)) :: S) sh I k n Q) : Go G Y pc L (.int y :: .int x :: S) sh I k n Q := by
  intro p l e R s m args below meth c H locs ls C hP hz hS hl
  exact lv_ishr C.1.1 C.1.2.1 hd (kk p l e R s m args below meth c H locs ls C hP hz hS hl)
theorem go_idiv {x y : Int32} (hd : decode Y.2.1 pc = .ok (.idiv, 1)) (hne : ¬ y = 0) (kk : Go G Y (pc + 1) L (.int (x / y) :: S) sh I k n Q) : Go G Y pc L (.int y :: .int x :: S) sh I k n Q := by
  intro p l e R s m args below meth c H locs ls C hP hz hS hl
  exact lv_idiv C.1.1 C.1.2.1 hd hne (kk p l e R s m args below meth c H locs ls C hP hz hS hl)
theorem go_irem {x y : Int32} (hd : decode Y.2.1 pc = .ok (.irem, 1)) (hne : ¬ y = 0) (kk : Go G Y (pc + 1) L (.int (x - x / y * y) :: S) sh I k n Q) : Go G Y pc L (.int y :: .int x :: S) sh I k n Q := by
  intro p l e R s m args below meth c H locs ls C hP hz hS hl
  exact lv_irem C.1.1 C.1.2.1 hd hne (kk p l e R s m args below meth c H locs ls C hP hz hS hl)
theorem go_iushr {x y v : Int32} (hd : decode Y.2.1 pc = .ok (.iushr, 1)) (hv : (x.toUInt32 >>> (y.toUInt32 &&& Int32.toUInt32 31)).toInt32 = v) (kk : Go G Y (pc + 1) L (.int v :: S) sh I k n Q) : Go G Y pc L (.int y :: .int x :: S) sh I k n Q := by
  intro p l e R s m args below meth c H locs ls C hP hz hS hl
  exact lv_iushr C.1.1 C.1.2.1 hd hv (kk p l e R s m args below meth c H locs ls C hP hz hS hl)
theorem go_ladd {x y : Int64} (hd : decode Y.2.1 pc = .ok (.ladd, 1)) (kk : Go G Y (pc + 1) L (.long (x + y) :: S) sh I k n Q) : Go G Y pc L (.long y :: .long x :: S) sh I k n Q := by
  intro p l e R s m args below meth c H locs ls C hP hz hS hl
  exact lv_ladd C.1.1 C.1.2.1 hd (kk p l e R s m args below meth c H locs ls C hP hz hS hl)
theorem go_lsub {x y : Int64} (hd : decode Y.2.1 pc = .ok (.lsub, 1)) (kk : Go G Y (pc + 1) L (.long (x - y) :: S) sh I k n Q) : Go G Y pc L (.long y :: .long x :: S) sh I k n Q := by
  intro p l e R s m args below meth c H locs ls C hP hz hS hl
  exact lv_lsub C.1.1 C.1.2.1 hd (kk p l e R s m args below meth c H locs ls C hP hz hS hl)
theorem go_lmul {x y : Int64} (hd : decode Y.2.1 pc = .ok (.lmul, 1)) (kk : Go G Y (pc + 1) L (.long (x * y) :: S) sh I k n Q) : Go G Y pc L (.long y :: .long x :: S) sh I k n Q := by
  intro p l e R s m args below meth c H locs ls C hP hz hS hl
  exact lv_lmul C.1.1 C.1.2.1 hd (kk p l e R s m args below meth c H locs ls C hP hz hS hl)
theorem go_ldiv {x y : Int64} (hd : decode Y.2.1 pc = .ok (.ldiv, 1)) (hne : ¬ y = 0) (kk : Go G Y (pc + 1) L (.long (x / y) :: S) sh I k n Q) : Go G Y pc L (.long y :: .long x :: S) sh I k n Q := by
  intro p l e R s m args below meth c H locs ls C hP hz hS hl
  exact lv_ldiv C.1.1 C.1.2.1 hd hne (kk p l e R s m args below meth c H locs ls C hP hz hS hl)
theorem go_lrem {x y : Int64} (hd : decode Y.2.1 pc = .ok (.lrem, 1)) (hne : ¬ y = 0) (kk : Go G Y (pc + 1) L (.long (x - x / y * y) :: S) sh I k n Q) : Go G Y pc L (.long y :: .long x :: S) sh I k n Q := by
  intro p l e R s m args below meth c H locs ls C hP hz hS hl
  exact lv_lrem C.1.1 C.1.2.1 hd hne (kk p l e R s m args below meth c H locs ls C hP hz hS hl)
theorem go_lcmp {x y : Int64} (hd : decode Y.2.1 pc = .ok (.lcmp, 1)) (kk : Go G Y (pc + 1) L (.int (lg_cmp x y) :: S) sh I k n Q) : Go G Y pc L (.long y :: .long x :: S) sh I k n Q := by
  intro p l e R s m args below meth c H locs ls C hP hz hS hl
  exact W.lcmp C.1.1 C.1.2.1 hd (kk p l e R s m args below meth c H locs ls C hP hz hS hl)
theorem go_i2l {x : Int32} (hd : decode Y.2.1 pc = .ok (.i2l, 1)) (kk : Go G Y (pc + 1) L (.long x.toInt64 :: S) sh I k n Q) : Go G Y pc L (.int x :: S) sh I k n Q := by
  intro p l e R s m args below meth c H locs ls C hP hz hS hl
  exact lv_i2l C.1.1 C.1.2.1 hd rfl (kk p l e R s m args below meth c H locs ls C hP hz hS hl)
theorem go_i2b {x : Int32} (hd : decode Y.2.1 pc = .ok (.i2b, 1)) (kk : Go G Y (pc + 1) L (.int x.toInt8.toInt32 :: S) sh I k n Q) : Go G Y pc L (.int x :: S) sh I k n Q := by
  intro p l e R s m args below meth c H locs ls C hP hz hS hl
  exact lv_i2b C.1.1 C.1.2.1 hd rfl (kk p l e R s m args below meth c H locs ls C hP hz hS hl)
theorem go_i2s {x : Int32} (hd : decode Y.2.1 pc = .ok (.i2s, 1)) (kk : Go G Y (pc + 1) L (.int x.toInt16.toInt32 :: S) sh I k n Q) : Go G Y pc L (.int x :: S) sh I k n Q := by
  intro p l e R s m args below meth c H locs ls C hP hz hS hl
  exact lv_i2s C.1.1 C.1.2.1 hd rfl (kk p l e R s m args below meth c H locs ls C hP hz hS hl)
theorem go_dup {v : Value} (hd : decode Y.2.1 pc = .ok (.dup, 1)) (hc : v.category = 1) (kk : Go G Y (pc + 1) L (v :: v :: S) sh I k n Q) : Go G Y pc L (v :: S) sh I k n Q := by
  intro p l e R s m args below meth c H locs ls C hP hz hS hl
  exact lv_dup C.1.1 C.1.2.1 hd ((av_cat G v).trans hc) (kk p l e R s m args below meth c H locs ls C hP hz hS hl)
theorem go_pop {v : Value} (hd : decode Y.2.1 pc = .ok (.pop, 1)) (hc : v.category = 1) (kk : Go G Y (pc + 1) L S sh I k n Q) : Go G Y pc L (v :: S) sh I k n Q := by
  intro p l e R s m args below meth c H locs ls C hP hz hS hl
  exact lv_pop C.1.1 C.1.2.1 hd ((av_cat G v).trans hc) (kk p l e R s m args below meth c H locs ls C hP hz hS hl)
theorem go_dup2 {v u : Value} (hd : decode Y.2.1 pc = .ok (.dup2, 1)) (hc : v.category = 1) (hu : u.category = 1) (kk : Go G Y (pc + 1) L (v :: u :: v :: u :: S) sh I k n Q) : Go G Y pc L (v :: u :: S) sh I k n Q := by
  intro p l e R s m args below meth c H locs ls C hP hz hS hl
  exact lv_dup2_11 C.1.1 C.1.2.1 hd ((av_cat G v).trans hc) ((av_cat G u).trans hu) (kk p l e R s m args below meth c H locs ls C hP hz hS hl)
theorem go_if_eq {x : Int32} {off : Int} {tgt : Nat} (hd : decode Y.2.1 pc = .ok (.ifCond .eq off, 3)) (ht : (pc : Int) + off = (tgt : Int)) (kt : x = 0 → Go G Y tgt L S sh I k n Q) (kf : ¬ x = 0 → Go G Y (pc + 3) L S sh I k n Q) : Go G Y pc L (.int x :: S) sh I k n Q := by
  intro p l e R s m args below meth c H locs ls C hP hz hS hl
  exact lv_if_eq C.1.1 C.1.2.1 hd ht (fun h => kt h p l e R s m args below meth c H locs ls C hP hz hS hl) (fun h => kf h p l e R s m args below meth c H locs ls C hP hz hS hl)
theorem go_icmp_eq {x y : Int32} {off : Int} {tgt : Nat} (hd : decode Y.2.1 pc = .ok (.if_icmp .eq off, 3)) (ht : (pc : Int) + off = (tgt : Int)) (kt : x = y → Go G Y tgt L S sh I k n Q) (kf : ¬ x = y → Go G Y (pc + 3) L S sh I k n Q) : Go G Y pc L (.int y :: .int x :: S) sh I k n Q := by
  intro p l e R s m args below meth c H locs ls C hP hz hS hl
  exact lv_icmp_eq C.1.1 C.1.2.1 hd ht (fun h => kt h p l e R s m args below meth c H locs ls C hP hz hS hl) (fun h => kf h p l e R s m args below meth c H locs ls C hP hz hS hl)
theorem go_if_ne {x : Int32} {off : Int} {tgt : Nat} (hd : decode Y.2.1 pc = .ok (.ifCond .ne off, 3)) (ht : (pc : Int) + off = (tgt : Int)) (kt : ¬ x = 0 → Go G Y tgt L S sh I k n Q) (kf : x = 0 → Go G Y (pc + 3) L S sh I k n Q) : Go G Y pc L (.int x :: S) sh I k n Q := by
  intro p l e R s m args below meth c H locs ls C hP hz hS hl
  exact lv_if_ne C.1.1 C.1.2.1 hd ht (fun h => kt h p l e R s m args below meth c H locs ls C hP hz hS hl) (fun h => kf h p l e R s m args below meth c H locs ls C hP hz hS hl)
theorem go_icmp_ne {x y : Int32} {off : Int} {tgt : Nat} (hd : decode Y.2.1 pc = .ok (.if_icmp .ne off, 3)) (ht : (pc : Int) + off = (tgt : Int)) (kt : ¬ x = y → Go G Y tgt L S sh I k n Q) (kf : x = y → Go G Y (pc + 3) L S sh I k n Q) : Go G Y pc L (.int y :: .int x :: S) sh I k n Q := by
  intro p l e R s m args below meth c H locs ls C hP hz hS hl
  exact lv_icmp_ne C.1.1 C.1.2.1 hd ht (fun h => kt h p l e R s m args below meth c H locs ls C hP hz hS hl) (fun h => kf h p l e R s m args below meth c H locs ls C hP hz hS hl)
theorem go_if_lt {x : Int32} {off : Int} {tgt : Nat} (hd : decode Y.2.1 pc = .ok (.ifCond .lt off, 3)) (ht : (pc : Int) + off = (tgt : Int)) (kt : x < 0 → Go G Y tgt L S sh I k n Q) (kf : ¬ x < 0 → Go G Y (pc + 3) L S sh I k n Q) : Go G Y pc L (.int x :: S) sh I k n Q := by
  intro p l e R s m args below meth c H locs ls C hP hz hS hl
  exact lv_if_lt C.1.1 C.1.2.1 hd ht (fun h => kt h p l e R s m args below meth c H locs ls C hP hz hS hl) (fun h => kf h p l e R s m args below meth c H locs ls C hP hz hS hl)
theorem go_icmp_lt {x y : Int32} {off : Int} {tgt : Nat} (hd : decode Y.2.1 pc = .ok (.if_icmp .lt off, 3)) (ht : (pc : Int) + off = (tgt : Int)) (kt : x < y → Go G Y tgt L S sh I k n Q) (kf : ¬ x < y → Go G Y (pc + 3) L S sh I k n Q) : Go G Y pc L (.int y :: .int x :: S) sh I k n Q := by
  intro p l e R s m args below meth c H locs ls C hP hz hS hl
  exact lv_icmp_lt C.1.1 C.1.2.1 hd ht (fun h => kt h p l e R s m args below meth c H locs ls C hP hz hS hl) (fun h => kf h p l e R s m args below meth c H locs ls C hP hz hS hl)
theorem go_if_ge {x : Int32} {off : Int} {tgt : Nat} (hd : decode Y.2.1 pc = .ok (.ifCond .ge off, 3)) (ht : (pc : Int) + off = (tgt : Int)) (kt : 0 ≤ x → Go G Y tgt L S sh I k n Q) (kf : ¬ 0 ≤ x → Go G Y (pc + 3) L S sh I k n Q) : Go G Y pc L (.int x :: S) sh I k n Q := by
  intro p l e R s m args below meth c H locs ls C hP hz hS hl
  exact lv_if_ge C.1.1 C.1.2.1 hd ht (fun h => kt h p l e R s m args below meth c H locs ls C hP hz hS hl) (fun h => kf h p l e R s m args below meth c H locs ls C hP hz hS hl)
theorem go_icmp_ge {x y : Int32} {off : Int} {tgt : Nat} (hd : decode Y.2.1 pc = .ok (.if_icmp .ge off, 3)) (ht : (pc : Int) + off = (tgt : Int)) (kt : y ≤ x → Go G Y tgt L S sh I k n Q) (kf : ¬ y ≤ x → Go G Y (pc + 3) L S sh I k n Q) : Go G Y pc L (.int y :: .int x :: S) sh I k n Q := by
  intro p l e R s m args below meth c H locs ls C hP hz hS hl
  exact lv_icmp_ge C.1.1 C.1.2.1 hd ht (fun h => kt h p l e R s m args below meth c H locs ls C hP hz hS hl) (fun h => kf h p l e R s m args below meth c H locs ls C hP hz hS hl)
theorem go_if_gt {x : Int32} {off : Int} {tgt : Nat} (hd : decode Y.2.1 pc = .ok (.ifCond .gt off, 3)) (ht : (pc : Int) + off = (tgt : Int)) (kt : 0 < x → Go G Y tgt L S sh I k n Q) (kf : ¬ 0 < x → Go G Y (pc + 3) L S sh I k n Q) : Go G Y pc L (.int x :: S) sh I k n Q := by
  intro p l e R s m args below meth c H locs ls C hP hz hS hl
  exact lv_if_gt C.1.1 C.1.2.1 hd ht (fun h => kt h p l e R s m args below meth c H locs ls C hP hz hS hl) (fun h => kf h p l e R s m args below meth c H locs ls C hP hz hS hl)
theorem go_icmp_gt {x y : Int32} {off : Int} {tgt : Nat} (hd : decode Y.2.1 pc = .ok (.if_icmp .gt off, 3)) (ht : (pc : Int) + off = (tgt : Int)) (kt : y < x → Go G Y tgt L S sh I k n Q) (kf : ¬ y < x → Go G Y (pc + 3) L S sh I k n Q) : Go G Y pc L (.int y :: .int x :: S) sh I k n Q := by
  intro p l e R s m args below meth c H locs ls C hP hz hS hl
  exact lv_icmp_gt C.1.1 C.1.2.1 hd ht (fun h => kt h p l e R s m args below meth c H locs ls C hP hz hS hl) (fun h => kf h p l e R s m args below meth c H locs ls C hP hz hS hl)
theorem go_if_le {x : Int32} {off : Int} {tgt : Nat} (hd : decode Y.2.1 pc = .ok (.ifCond .le off, 3)) (ht : (pc : Int) + off = (tgt : Int)) (kt : x ≤ 0 → Go G Y tgt L S sh I k n Q) (kf : ¬ x ≤ 0 → Go G Y (pc + 3) L S sh I k n Q) : Go G Y pc L (.int x :: S) sh I k n Q := by
  intro p l e R s m args below meth c H locs ls C hP hz hS hl
  exact lv_if_le C.1.1 C.1.2.1 hd ht (fun h => kt h p l e R s m args below meth c H locs ls C hP hz hS hl) (fun h => kf h p l e R s m args below meth c H locs ls C hP hz hS hl)
theorem go_icmp_le {x y : Int32} {off : Int} {tgt : Nat} (hd : decode Y.2.1 pc = .ok (.if_icmp .le off, 3)) (ht : (pc : Int) + off = (tgt : Int)) (kt : x ≤ y → Go G Y tgt L S sh I k n Q) (kf : ¬ x ≤ y → Go G Y (pc + 3) L S sh I k n Q) : Go G Y pc L (.int y :: .int x :: S) sh I k n Q := by
  intro p l e R s m args below meth c H locs ls C hP hz hS hl
  exact lv_icmp_le C.1.1 C.1.2.1 hd ht (fun h => kt h p l e R s m args below meth c H locs ls C hP hz hS hl) (fun h => kf h p l e R s m args below meth c H locs ls C hP hz hS hl)
theorem go_goto {off : Int} {tgt : Nat} (hd : decode Y.2.1 pc = .ok (.goto off, 3)) (ht : (pc : Int) + off = (tgt : Int)) (kk : Go G Y tgt L S sh I k n Q) : Go G Y pc L S sh I k n Q := by
  intro p l e R s m args below meth c H locs ls C hP hz hS hl
  exact lv_goto C.1.1 C.1.2.1 hd ht (kk p l e R s m args below meth c H locs ls C hP hz hS hl)
theorem go_tOut {dflt lo hi : Int} {offs : Array Int} {len : Nat} {x : Int32} {tgt : Nat} (hd : decode Y.2.1 pc = .ok (.tableswitch dflt lo hi offs, len)) (h : x.toInt < lo ∨ hi < x.toInt) (ht : (pc : Int) + dflt = (tgt : Int)) (kk : Go G Y tgt L S sh I k n Q) : Go G Y pc L (.int x :: S) sh I k n Q := by
  intro p l e R s m args below meth c H locs ls C hP hz hS hl
  exact lv_tableOut C.1.1 C.1.2.1 hd h ht (kk p l e R s m args below meth c H locs ls C hP hz hS hl)
theorem go_tIn {dflt lo hi : Int} {offs : Array Int} {len : Nat} {x : Int32} {off : Int} {tgt : Nat} (hd : decode Y.2.1 pc = .ok (.tableswitch dflt lo hi offs, len)) (h1 : ¬ x.toInt < lo) (h2 : ¬ hi < x.toInt) (ho : offs[(x.toInt - lo).toNat]? = some off) (ht : (pc : Int) + off = (tgt : Int)) (kk : Go G Y tgt L S sh I k n Q) : Go G Y pc L (.int x :: S) sh I k n Q := by
  intro p l e R s m args below meth c H locs ls C hP hz hS hl
  exact lv_tableIn C.1.1 C.1.2.1 hd h1 h2 ho ht (kk p l e R s m args below meth c H locs ls C hP hz hS hl)
theorem go_look {dflt : Int} {ps : Array (Int × Int)} {len : Nat} {x : Int32} {off : Int} {tgt : Nat} (hd : decode Y.2.1 pc = .ok (.lookupswitch dflt ps, len)) (hp : (ps.toList.zip (ps.toList.drop 1)).all (fun (a, next) => a.1 < next.1) = true) (ho : Op.lookupswitch.offset ps.toList dflt x.toInt = off) (ht : (pc : Int) + off = (tgt : Int)) (kk : Go G Y tgt L S sh I k n Q) : Go G Y pc L (.int x :: S) sh I k n Q := by
  intro p l e R s m args below meth c H locs ls C hP hz hS hl
  exact lv_lookup C.1.1 C.1.2.1 hd hp ho ht (kk p l e R s m args below meth c H locs ls C hP hz hS hl)
end Rows
end
section
/-! ===== rows of fields, arrays, calls, answers ===== -/
def FL (own : String) (idx ci j : Nat) : Prop := ∃ (C : String) (T : u_T) (N : Nat), vwCl[ci]? = some (C, T, N) ∧ (∀ w ∈ u_ws C T N, w ∈ wG) ∧ j < N ∧ Cond.fieldLink own idx (T j).1 (T j).2.1 (T j).2.2.1 ∈ wG
def FP (own : String) (idx ci j : Nat) (ty : FieldType) (fin : Bool) : Prop := ∃ (C : String) (T : u_T) (N : Nat) (ty0 : Nat → FieldType), vwCl[ci]? = some (C, T, N) ∧ (∀ w ∈ u_ws C T N, w ∈ wG) ∧ j < N ∧ Cond.fieldLink own idx (T j).1 (T j).2.1 (T j).2.2.1 ∈ wG ∧ (∀ k, k < N → parseFieldDescriptor (T k).2.2.1 = some (ty0 k)) ∧ (∀ a, a < N → ∀ b, b < N → a ≠ b → (T a).2.1 ≠ (T b).2.1) ∧ (T j).2.2.2 = fin ∧ (fin = true → (T j).1 = own) ∧ parseFieldDescriptor (T j).2.2.1 = some ty
def okM (Z : YY) (np : Nat) : Prop := Cond.code Z.1 Z.2.1 Z.2.2.1 Z.2.2.2.1 ∈ wG ∧ Cond.initialized Z.1.cls ∈ wG ∧ (Z.1.cls ≠ "java/lang/invoke/MethodHandle" ∧ Z.1.cls ≠ "java/lang/invoke/VarHandle" ∧ (parseMethodDescriptor Z.1.desc).map (fun d => d.parameters.length) = some np) ∧ Z.2.2.1 ≤ 41
def okV (Z : YY) (np : Nat) : Prop := okM Z np ∧ Cond.instanceMethod Z.1 ∈ wG ∧ Cond.selects Z.1.cls Z.1 Z.1 ∈ wG
def okS (Z : YY) (np : Nat) : Prop := okM Z np ∧ Cond.static Z.1 ∈ wG
def okI (Z : YY) (np : Nat) : Prop := okM Z np ∧ Cond.instanceMethod Z.1 ∈ wG ∧ Z.1.name = "<init>" ∧ Z.2.2.2.1 = none
theorem yW_good (Z : YY) (h : Cond.code Z.1 Z.2.1 Z.2.2.1 Z.2.2.2.1 ∈ wG) : GoodIn wG (yW Z) := fun w hw => by
  rcases List.mem_cons.mp hw with e | e
  · subst e
    exact ⟨h, good_of_word (List.mem_filter.mp h).2⟩
  · exact ⟨e, good_of_word (List.mem_filter.mp e).2⟩
theorem cat_sum (G : CX) (S : List Value) : ((S.map (av G)).map (fun v => v.category)).sum = (S.map (fun v => v.category)).sum := by
  rw [List.map_map]
  congr 1
  apply List.map_congr_left
  intro v _
  exact av_cat G v
theorem lM_args (G : CX) : ∀ (As : List Value) (i : Nat), lM G (lv_args i As) = lv_args i (As.map (av G))
  | [], _ => rfl
  | v :: vs, i => by
    have ih := lM_args G vs (if v.category = 2 then i + 2 else i + 1)
    simp only [lM, lv_args, List.map_cons, av_cat] at ih ⊢
    rw [ih]
theorem lg_sl_len (G : CX) (As : List Value) : (lg_sl (As.map (av G))).length = (lg_sl As).length := by
  induction As with
  | nil => rfl
  | cons v vs ih =>
    simp only [lg_sl, List.map_cons, List.flatMap_cons, List.length_append, av_cat] at ih ⊢
    rw [ih]
    split <;> rfl
theorem rO_at {G : CX} {Y : YY} {p : Program} {R : Room} {s : State} {m : MethodId} {args : Array Value} {meth : Method} {c : Code} {H : Heap} {locs : List Loc} (C : CT G Y p R s m args meth c) (hS : va_S (gA G) s.heap H locs) : rO G s H :=
  rO_kept C.2.2.2.2.1 (fun q h1 h2 => hS.2.1 q h1 h2) C.2.2.2.2.2
theorem rW_blind {G : CX} {sh : Sh} {I : HP} {As : List Value} : FrameBlind (va_Pc As (rW G sh I)) := by
  intro a U g mk h
  obtain ⟨h1, h2, h3, h4, h5⟩ := h
  exact ⟨h1, h2, h3, va_K.moved (u := U) (U := U.calling g mk a) (Vm.Alike.refl U.vm) h4, rO_same rfl h5⟩
set_option maxHeartbeats 1000000 in
/-- a method's contract out of its walk -/
theorem ret_of {G : CX} {Y : YY} {As : List Value} {sh : Sh} {I : HP} {Q : Sh → HP → Option Value → Prop} (hpl : plainName Y.1.cls = true) (hn : (lg_sl As).length ≤ Y.2.2.1) (h : Go G Y 0 (lv_args 0 As) [] sh I 0 0 Q) : Ret G Y As sh I Q := by
  intro l
  refine Met.ofW (cc := Y.2.1) (maxL := Y.2.2.1) (ret := Y.2.2.2.1) hpl rfl ?_
  intro p e s m args below meth c s₁ B hml hv
  obtain ⟨rfl, hP, hz, hK, hO⟩ := hv
  have hl := lv_entry (As.map (av G)) (n := Y.2.2.1) (by rw [lg_sl_len]; exact hn)
  rw [lg_entry_eq]
  rw [← lM_args] at hl
  exact h p l e _ s m _ below meth c s.heap [] _ ⟨⟨B.exec, B.bytes, hml, findClass_of_methodNamed B.named, fun w hw => atoms_spec (ws := yW Y) B.pre w (List.mem_cons_of_mem _ hw)⟩, ⟨B.returns, B.notSynchronized, (name_of_methodNamed B.named B.method).1⟩, ⟨Nat.le_refl _, Nat.le_refl _, Nat.le_refl _, Nat.le_refl _⟩, hK, hO, by rw [hz]; exact Nat.le_add_right _ _⟩ hP hz va_S.rf hl
section Rows
variable {G : CX} {Y : YY} {pc : Nat} {L : List (Nat × Value)} {S : List Value} {sh : Sh} {I : HP} {k n : Nat} {Q : Sh → HP → Option Value → Prop}
theorem ad_lt {r : Nat} (h : r < 1000) : ad G r = gB G + r := if_pos h
theorem go_getI {r j idx : Nat} {c : Nat × Nat × List (Option Nat)} (hd : decode Y.2.1 pc = .ok (.getfield idx, 3)) (hsh : sh[r]? = some c) (hr : r < 1000) (hF : FL Y.1.cls idx c.1 j) (h9 : c.1 < 9 ∧ j < c.2.1 ∧ rK c.1 j = false) (kk : Go G Y (pc + 3) L (.int (I r j) :: S) sh I k n Q) : Go G Y pc L (.ref r :: S) sh I k n Q := by
  intro p l e R s m args below meth c H locs ls C hP hz hS hl
  obtain ⟨C', T, N, hc, hin, hj, hlk⟩ := hF
  have hw := wO_at (G := G) (I := I) hsh
  rw [cE_obj h9.1] at hw
  show W p l e R s m args below meth _ H locs k n _ (F0 m pc ls (.ref (ad G r) :: S.map (av G)))
  rw [ad_lt hr]
  exact va_get C.1.1 C.1.2.1 (Ts := wG) C.1.2.2.2.2 hin C.1.2.2.2.1 C.2.2.2.1 hP r hw hc j hj (C.1.2.2.2.2 _ hlk) (fun x hx => hx) (v := .int (I r j)) (by rw [fV_get h9.2.1]; simp [fV, h9.2.2]) hd (kk p l e R s m args below meth _ H locs ls C hP hz hS hl)
theorem go_getR {r j idx x : Nat} {c : Nat × Nat × List (Option Nat)} (hd : decode Y.2.1 pc = .ok (.getfield idx, 3)) (hsh : sh[r]? = some c) (hr : r < 1000) (hF : FL Y.1.cls idx c.1 j) (h9 : c.1 < 9 ∧ j < c.2.1 ∧ rK c.1 j = true) (hx : c.2.2.getD j none = some x) (kk : Go G Y (pc + 3) L (.ref x :: S) sh I k n Q) : Go G Y pc L (.ref r :: S) sh I k n Q := by
  intro p l e R s m args below meth c H locs ls C hP hz hS hl
  obtain ⟨C', T, N, hc, hin, hj, hlk⟩ := hF
  have hw := wO_at (G := G) (I := I) hsh
  rw [cE_obj h9.1] at hw
  show W p l e R s m args below meth _ H locs k n _ (F0 m pc ls (.ref (ad G r) :: S.map (av G)))
  rw [ad_lt hr]
  exact va_get C.1.1 C.1.2.1 (Ts := wG) C.1.2.2.2.2 hin C.1.2.2.2.1 C.2.2.2.1 hP r hw hc j hj (C.1.2.2.2.2 _ hlk) (fun x hx => hx) (v := .ref (ad G x)) (by rw [fV_get h9.2.1]; simp only [fV, h9.2.2, if_true, hx]; rfl) hd (kk p l e R s m args below meth _ H locs ls C hP hz hS hl)
theorem go_putT {r j idx : Nat} {v : Int32} {ty : FieldType} {c : Nat × Nat × List (Option Nat)} (hd : decode Y.2.1 pc = .ok (.putfield idx, 3)) (hsh : sh[r]? = some c) (hr : r < 1000) (hF : FP Y.1.cls idx c.1 j ty false) (h9 : c.1 < 9 ∧ j < c.2.1 ∧ rK c.1 j = false) (hn : narrow ty (.int v) = .int v) (hf : fits ty (.int v) = true) (kk : Go G Y (pc + 3) L S sh (st I r j v) k n Q) : Go G Y pc L (.int v :: .ref r :: S) sh I k n Q := by
  intro p l e R s m args below meth c0 H locs ls C hP hz hS hl
  obtain ⟨C', T, N, ty0, hc, hin, hj, hlk, hty, hnm, hfin, -, hpd⟩ := hF
  have hw := wO_at (G := G) (I := I) hsh
  rw [cE_obj h9.1] at hw
  show W p l e R s m args below meth _ H locs k n _ (F0 m pc ls (.int v :: .ref (ad G r) :: S.map (av G)))
  rw [ad_lt hr]
  refine va_put C.1.1 C.1.2.1 (Ts := wG) C.1.2.2.2.2 hin ty0 hty hnm C.1.2.2.2.1 C.2.2.2.1 hP wO_D hS r hw hc j hj (C.1.2.2.2.2 _ hlk) (fun x hx => hx) hfin hpd hn hf (by simpa using h9.2.1) hd (fun H1 locs1 hP1 _ hS1 => ?_)
  have e1 : (wO G sh I).set r (gB G + r, .inr (c.1, ((List.range c.2.1).map (fV G r c I)).set j (.int v))) = wO G sh (st I r j v) := wO_set hsh (by rw [cE_obj h9.1, fV_set h9.2.2]) (fun a ha => st_off ha)
  rw [e1] at hP1
  exact kk p l e R s m args below meth _ H1 locs1 ls C hP1 hz hS1 hl
theorem W_sz {p : Program} {l : Launch} {e : Env} {R : Room} {s : State} {m : MethodId} {args : Array Value} {below : List Frame} {meth : Method} {c : Code} {H : Heap} {locs : List Loc} {cells slots : Nat} {Qw : State → Prop} {g : JFrame} (h : H.size ≤ s.heap.size + cells → W p l e R s m args below meth c H locs cells slots Qw g) : W p l e R s m args below meth c H locs cells slots Qw g := by
  intro T hT X
  exact h (by rw [← hT]; exact X.same.2.2.1) T hT X
theorem wO_sz {H H0 : Heap} {locs : List Loc} (hP : va_P G.1 vwCl (wO G sh I) H) (hS : va_S (gA G) H0 H locs) (hk : H0.size + k = gB G + sh.length) (hB : gB G ≤ H0.size) (hle : H.size ≤ H0.size + k) : H.size = gB G + sh.length := by
  by_cases h0 : sh.length = 0
  · have := hS.1
    omega
  · obtain ⟨c, hc⟩ : ∃ c, sh[sh.length - 1]? = some c := ⟨sh[sh.length - 1], List.getElem?_eq_getElem (by omega)⟩
    have := (hP _ _ (wO_at (G := G) (I := I) hc)).lt
    have h2 : gB G + (sh.length - 1) < H.size := this
    omega
/-! arrays of ints -/
theorem go_iald {r len : Nat} {i : Int32} {rf : List (Option Nat)} (hd : decode Y.2.1 pc = .ok (.iaload, 1)) (hsh : sh[r]? = some (9, len, rf)) (hr : r < 1000) (hin : vp_in i len) (kk : Go G Y (pc + 1) L (.int (I r i.toNatClampNeg) :: S) sh I k n Q) : Go G Y pc L (.int i :: .ref r :: S) sh I k n Q := by
  intro p l e R s m args below meth c H locs ls C hP hz hS hl
  have hw := wO_at (G := G) (I := I) hsh
  rw [cE_int] at hw
  show W p l e R s m args below meth _ H locs k n _ (F0 m pc ls (.int i :: .ref (ad G r) :: S.map (av G)))
  rw [ad_lt hr]
  exact va_iald C.1.1 C.1.2.1 C.2.2.2.1 hP r 0 hw rfl hin hd (kk p l e R s m args below meth _ H locs ls C hP hz hS hl)
theorem go_iast {r len : Nat} {i x : Int32} {rf : List (Option Nat)} (hd : decode Y.2.1 pc = .ok (.iastore, 1)) (hsh : sh[r]? = some (9, len, rf)) (hr : r < 1000) (hin : vp_in i len) (kk : Go G Y (pc + 1) L S sh (st I r i.toNatClampNeg x) k n Q) : Go G Y pc L (.int x :: .int i :: .ref r :: S) sh I k n Q := by
  intro p l e R s m args below meth c H locs ls C hP hz hS hl
  have hw := wO_at (G := G) (I := I) hsh
  rw [cE_int] at hw
  show W p l e R s m args below meth _ H locs k n _ (F0 m pc ls (.int x :: .int i :: .ref (ad G r) :: S.map (av G)))
  rw [ad_lt hr]
  refine va_iast C.1.1 C.1.2.1 C.2.2.2.1 hP wO_D hS r 0 hw rfl hin hd (fun H1 locs1 hP1 _ hS1 => ?_)
  have e1 : (wO G sh I).set r (gB G + r, .inl (G.2.1 9, len, .inl (upd (I r) i.toNatClampNeg x))) = wO G sh (st I r i.toNatClampNeg x) := wO_set hsh (by rw [cE_int, st_row]) (fun a ha => st_off ha)
  rw [e1] at hP1
  exact kk p l e R s m args below meth _ H1 locs1 ls C hP1 hz hS1 hl
/-! arrays of booleans -/
theorem go_zald {r len : Nat} {i : Int32} {rf : List (Option Nat)} (hd : decode Y.2.1 pc = .ok (.baload, 1)) (hsh : sh[r]? = some (10, len, rf)) (hr : r < 1000) (hin : vp_in i len) (kk : Go G Y (pc + 1) L (.int (I r i.toNatClampNeg) :: S) sh I k n Q) : Go G Y pc L (.int i :: .ref r :: S) sh I k n Q := by
  intro p l e R s m args below meth c H locs ls C hP hz hS hl
  have hw := wO_at (G := G) (I := I) hsh
  rw [cE_bool] at hw
  show W p l e R s m args below meth _ H locs k n _ (F0 m pc ls (.int i :: .ref (ad G r) :: S.map (av G)))
  rw [ad_lt hr]
  exact va_zald C.1.1 C.1.2.1 C.2.2.2.1 hP r 1 hw rfl hin hd (kk p l e R s m args below meth _ H locs ls C hP hz hS hl)
theorem go_zast {r len : Nat} {i x : Int32} {rf : List (Option Nat)} (hd : decode Y.2.1 pc = .ok (.bastore, 1)) (hsh : sh[r]? = some (10, len, rf)) (hr : r < 1000) (hin : vp_in i len) (hx : vp_nar .boolean x = x) (kk : Go G Y (pc + 1) L S sh (st I r i.toNatClampNeg x) k n Q) : Go G Y pc L (.int x :: .int i :: .ref r :: S) sh I k n Q := by
  intro p l e R s m args below meth c H locs ls C hP hz hS hl
  have hw := wO_at (G := G) (I := I) hsh
  rw [cE_bool] at hw
  show W p l e R s m args below meth _ H locs k n _ (F0 m pc ls (.int x :: .int i :: .ref (ad G r) :: S.map (av G)))
  rw [ad_lt hr]
  refine va_zast C.1.1 C.1.2.1 C.2.2.2.1 hP wO_D hS r 1 hw rfl hin hd (fun H1 locs1 hP1 _ hS1 => ?_)
  have e1 : (wO G sh I).set r (gB G + r, .inl (G.2.1 10, len, .inl (upd (I r) i.toNatClampNeg (vp_nar .boolean x)))) = wO G sh (st I r i.toNatClampNeg x) := wO_set hsh (by rw [cE_bool, st_row, hx]) (fun a ha => st_off ha)
  rw [e1] at hP1
  exact kk p l e R s m args below meth _ H1 locs1 ls C hP1 hz hS1 hl
/-! arrays of references, lengths -/
theorem go_aald {r len x t : Nat} {i : Int32} {rf : List (Option Nat)} (hd : decode Y.2.1 pc = .ok (.aaload, 1)) (hsh : sh[r]? = some (t, len, rf)) (ht : t = 11 ∨ t = 12) (hr : r < 1000) (hin : vp_in i len) (hx : rf.getD i.toNatClampNeg none = some x) (kk : Go G Y (pc + 1) L (.ref x :: S) sh I k n Q) : Go G Y pc L (.int i :: .ref r :: S) sh I k n Q := by
  intro p l e R s m args below meth c H locs ls C hP hz hS hl
  have hw := wO_at (G := G) (I := I) hsh
  show W p l e R s m args below meth _ H locs k n _ (F0 m pc ls (.int i :: .ref (ad G r) :: S.map (av G)))
  rw [ad_lt hr]
  have kk' := kk p l e R s m args below meth _ H locs ls C hP hz hS hl
  have e : va_rf ((rf.getD i.toNatClampNeg none).map (ad G)) = .ref (ad G x) := by rw [hx]; rfl
  rcases ht with rfl | rfl
  · refine va_aldq C.1.1 C.1.2.1 C.2.2.2.1 hP r 2 hw rfl hin hd ?_
    rw [e]
    exact kk'
  · refine va_aldq C.1.1 C.1.2.1 C.2.2.2.1 hP r 3 hw rfl hin hd ?_
    rw [e]
    exact kk'
theorem go_alen {r len t : Nat} {v : Int32} {rf : List (Option Nat)} (hd : decode Y.2.1 pc = .ok (.arraylength, 1)) (hsh : sh[r]? = some (t, len, rf)) (ht : t = 9 ∨ t = 10 ∨ t = 11 ∨ t = 12) (hr : r < 1000) (hv : Int32.ofNat len = v) (kk : Go G Y (pc + 1) L (.int v :: S) sh I k n Q) : Go G Y pc L (.ref r :: S) sh I k n Q := by
  intro p l e R s m args below meth c H locs ls C hP hz hS hl
  have hw := wO_at (G := G) (I := I) hsh
  show W p l e R s m args below meth _ H locs k n _ (F0 m pc ls (.ref (ad G r) :: S.map (av G)))
  rw [ad_lt hr]
  have kk' := kk p l e R s m args below meth _ H locs ls C hP hz hS hl
  rcases ht with rfl | rfl | rfl | rfl
  · exact va_alen C.1.1 C.1.2.1 C.2.2.2.1 hP r 0 hw rfl hv hd kk'
  · exact va_alen C.1.1 C.1.2.1 C.2.2.2.1 hP r 1 hw rfl hv hd kk'
  · exact va_alen C.1.1 C.1.2.1 C.2.2.2.1 hP r 2 hw rfl hv hd kk'
  · exact va_alen C.1.1 C.1.2.1 C.2.2.2.1 hP r 3 hw rfl hv hd kk'
/-! the script, the tables -/
theorem go_sald {i : Int32} (hd : decode Y.2.1 pc = .ok (.iaload, 1)) (hin : vp_in i (gL G)) (kk : Go G Y (pc + 1) L (.int (gXs G i.toNatClampNeg) :: S) sh I k n Q) : Go G Y pc L (.int i :: .ref 1000 :: S) sh I k n Q := by
  intro p l e R s m args below meth c H locs ls C hP hz hS hl
  obtain ⟨hX, hb⟩ := C.2.2.2.2.1.1
  exact va_sld C.1.1 C.1.2.1 hX (Nat.lt_of_lt_of_le hb C.2.2.2.2.2) (Nat.not_le.mpr hb) hS hin hd (kk p l e R s m args below meth _ H locs ls C hP hz hS hl)
theorem go_slen {v : Int32} (hd : decode Y.2.1 pc = .ok (.arraylength, 1)) (hv : Int32.ofNat (gL G) = v) (kk : Go G Y (pc + 1) L (.int v :: S) sh I k n Q) : Go G Y pc L (.ref 1000 :: S) sh I k n Q := by
  intro p l e R s m args below meth c H locs ls C hP hz hS hl
  subst hv
  obtain ⟨hX, hb⟩ := C.2.2.2.2.1.1
  exact va_slen C.1.1 C.1.2.1 hX (Nat.lt_of_lt_of_le hb C.2.2.2.2.2) (Nat.not_le.mpr hb) hS hd (kk p l e R s m args below meth _ H locs ls C hP hz hS hl)
theorem go_tald1 {i : Int32} (hd : decode Y.2.1 pc = .ok (.iaload, 1)) (hin : vp_in i 6) (kk : Go G Y (pc + 1) L (.int (lsF i.toNatClampNeg) :: S) sh I k n Q) : Go G Y pc L (.int i :: .ref 1001 :: S) sh I k n Q := by
  intro p l e R s m args below meth c H locs ls C hP hz hS hl
  obtain ⟨hX, hb⟩ := C.2.2.2.2.1.2.1
  exact va_sld C.1.1 C.1.2.1 hX (Nat.lt_of_lt_of_le hb C.2.2.2.2.2) (Nat.not_le.mpr hb) hS hin hd (kk p l e R s m args below meth _ H locs ls C hP hz hS hl)
theorem go_tald2 {i : Int32} (hd : decode Y.2.1 pc = .ok (.iaload, 1)) (hin : vp_in i 6) (kk : Go G Y (pc + 1) L (.int (msF i.toNatClampNeg) :: S) sh I k n Q) : Go G Y pc L (.int i :: .ref 1002 :: S) sh I k n Q := by
  intro p l e R s m args below meth c H locs ls C hP hz hS hl
  obtain ⟨hX, hb⟩ := C.2.2.2.2.1.2.2.1
  exact va_sld C.1.1 C.1.2.1 hX (Nat.lt_of_lt_of_le hb C.2.2.2.2.2) (Nat.not_le.mpr hb) hS hin hd (kk p l e R s m args below meth _ H locs ls C hP hz hS hl)
theorem go_gets1 {idx : Nat} (hd : decode Y.2.1 pc = .ok (.getstatic idx, 3)) (hw : Cond.fieldLink Y.1.cls idx "MayNotPause" "LEAST_SETTING" "[I" ∈ wG) (kk : Go G Y (pc + 3) L (.ref 1001 :: S) sh I k n Q) : Go G Y pc L S sh I k n Q := by
  intro p l e R s m args below meth c H locs ls C hP hz hS hl
  exact va_gets C.1.1 C.1.2.1 C.2.2.2.2.1.2.2.2.1 hS C.1.2.2.2.1 (C.1.2.2.2.2 _ hw) (fun x hx => hx) hd (kk p l e R s m args below meth _ H locs ls C hP hz hS hl)
theorem go_gets2 {idx : Nat} (hd : decode Y.2.1 pc = .ok (.getstatic idx, 3)) (hw : Cond.fieldLink Y.1.cls idx "MayNotPause" "MOST_SETTING" "[I" ∈ wG) (kk : Go G Y (pc + 3) L (.ref 1002 :: S) sh I k n Q) : Go G Y pc L S sh I k n Q := by
  intro p l e R s m args below meth c H locs ls C hP hz hS hl
  exact va_gets C.1.1 C.1.2.1 C.2.2.2.2.1.2.2.2.2.1 hS C.1.2.2.2.1 (C.1.2.2.2.2 _ hw) (fun x hx => hx) hd (kk p l e R s m args below meth _ H locs ls C hP hz hS hl)
/-! answers -/
theorem go_iret {v : Int32} (hd : decode Y.2.1 pc = .ok (.ireturn, 1)) (hr : Y.2.2.2.1 = some .int) (hk : k = yC Y) (hn : n ≤ yS Y) (h : Q sh I (some (.int v))) : Go G Y pc L [.int v] sh I k n Q := by
  intro p l e R s m args below meth c H locs ls C hP hz hS hl
  subst hk
  refine W.widen (k := yC Y) (n := yS Y) (Nat.le_refl _) hn ?_
  exact W.iret C.1.1 C.1.2.1 (C.2.1.1.trans hr) (fun t ht _ => ⟨sh, I, some (.int v), rfl, h, by rw [ht]; exact hP, hz, hS.F ht⟩) hS.2.2 hd C.2.1.2.1
theorem go_zret {v : Int32} (hd : decode Y.2.1 pc = .ok (.ireturn, 1)) (hr : Y.2.2.2.1 = some .boolean) (hb : narrow .boolean (.int v) = .int v) (hk : k = yC Y) (hn : n ≤ yS Y) (h : Q sh I (some (.int v))) : Go G Y pc L [.int v] sh I k n Q := by
  intro p l e R s m args below meth c H locs ls C hP hz hS hl
  subst hk
  refine W.widen (k := yC Y) (n := yS Y) (Nat.le_refl _) hn ?_
  exact W.zret C.1.1 C.1.2.1 (C.2.1.1.trans hr) hb (fun t ht _ => ⟨sh, I, some (.int v), rfl, h, by rw [ht]; exact hP, hz, hS.F ht⟩) hS.2.2 hd C.2.1.2.1
theorem go_lret {v : Int64} (hd : decode Y.2.1 pc = .ok (.lreturn, 1)) (hr : Y.2.2.2.1 = some .long) (hk : k = yC Y) (hn : n ≤ yS Y) (h : Q sh I (some (.long v))) : Go G Y pc L [.long v] sh I k n Q := by
  intro p l e R s m args below meth c H locs ls C hP hz hS hl
  subst hk
  refine W.widen (k := yC Y) (n := yS Y) (Nat.le_refl _) hn ?_
  exact W.lret C.1.1 C.1.2.1 (C.2.1.1.trans hr) (fun t ht _ => ⟨sh, I, some (.long v), rfl, h, by rw [ht]; exact hP, hz, hS.F ht⟩) hS.2.2 hd C.2.1.2.1
theorem go_aret {v : Nat} {C0 : String} (hd : decode Y.2.1 pc = .ok (.areturn, 1)) (hr : Y.2.2.2.1 = some (.object C0)) (hk : k = yC Y) (hn : n ≤ yS Y) (h : Q sh I (some (.ref v))) : Go G Y pc L [.ref v] sh I k n Q := by
  intro p l e R s m args below meth c H locs ls C hP hz hS hl
  subst hk
  refine W.widen (k := yC Y) (n := yS Y) (Nat.le_refl _) hn ?_
  exact W.aret C.1.1 C.1.2.1 (C.2.1.1.trans hr) (Or.inl ⟨_, rfl⟩) (Or.inr ⟨_, rfl⟩) (fun t ht _ => ⟨sh, I, some (.ref v), rfl, h, by rw [ht]; exact hP, hz, hS.F ht⟩) hS.2.2 hd C.2.1.2.1
theorem go_vret (hd : decode Y.2.1 pc = .ok (.return_, 1)) (hr : Y.2.2.2.1 = none) (hk : k = yC Y) (hn : n ≤ yS Y) (h : Q sh I none) : Go G Y pc L [] sh I k n Q := by
  intro p l e R s m args below meth c H locs ls C hP hz hS hl
  subst hk
  refine W.widen (k := yC Y) (n := yS Y) (Nat.le_refl _) hn ?_
  exact W.vret C.1.1 C.1.2.1 (C.2.1.1.trans hr) (fun t ht _ => ⟨sh, I, none, rfl, h, by rw [ht]; exact hP, hz, hS.F ht⟩) hS.2.2 hd C.2.1.2.1
/-! calls -/
theorem go_run {Z : YY} {St : List Value} {Qc : Sh → HP → Option Value → Prop} (hrun : ∀ (p : Program) (l : Launch) (e : Env) (R : Room) (s : State) (m : MethodId) (args : Array Value) (below : List Frame) (meth : Method) (c : Code) (H : Heap) (locs : List Loc) (ls : Array Slot),
    CT G Y p R s m args meth c → va_P G.1 vwCl (wO G sh I) H → H.size = gB G + sh.length → va_S (gA G) s.heap H locs → lv_has ls Y.2.2.1 (lM G L) →
    ∃ a, va_Run p l e R s m args below meth c H locs k n (yC Z) (yS Z) (F0 m pc ls (St.map (av G))) (S.map (av G)) (QC G (yC Z) Qc a) (gA G))
    (hK : ∀ sh' I' v, Qc sh' I' v → Go G Y (pc + 3) L (v.toList ++ S) sh' I' (k + yC Z) (n + yS Z) Q) : Go G Y pc L St sh I k n Q := by
  intro p l e R s m args below meth c H locs ls C hP hz hS hl
  refine W_sz (fun hle => ?_)
  have hsz := wO_sz hP hS hz C.2.2.2.2.2 hle
  obtain ⟨a, hrun⟩ := hrun p l e R s m args below meth c H locs ls C hP hsz hS hl
  intro T hT X
  obtain ⟨v, s0, t, T', L1, h0, X', hL1, e1, e2, ⟨sh', I', v', hv, hq, hP', hz', hF⟩, hst⟩ := hrun T hT X
  have hv' : v = v'.map (av G) := by injection hv
  subst hv'
  have hF' : H.size ≤ t.heap.size ∧ ∀ q : Nat, q < H.size → ¬ gA G q → t.heap[q]? = H[q]? := by
    have := hF
    unfold va_F at this
    rw [h0] at this
    exact this
  rw [h0] at hz'
  have hS' : va_S (gA G) s.heap T'.heap (locs ++ L1) := by
    refine ⟨Nat.le_trans hS.1 (by rw [e1]; exact hF'.1), fun q h1 h2 => ?_, fun q hq' => ?_⟩
    · rw [e1, hF'.2 q (Nat.lt_of_lt_of_le h1 hS.1) h2]
      exact hS.2.1 q h1 h2
    · rcases List.mem_append.mp hq' with h | h
      · exact hS.2.2 q h
      · exact hL1 q h
  obtain ⟨t2, a1, b1⟩ := hK sh' I' v' hq p l e R s m args below meth c T'.heap (locs ++ L1) ls C (by rw [e1]; exact hP') (by omega) hS' hl T' rfl X'
  refine ⟨t2, hst t2 ?_, b1⟩
  have e3 : (v'.map (av G)).toList ++ S.map (av G) = (v'.toList ++ S).map (av G) := by cases v' <;> rfl
  rw [e3]
  exact a1
theorem pre_of {p : Program} {R : Room} {s : State} {m : MethodId} {args : Array Value} {meth : Method} {c : Code} {H : Heap} {locs : List Loc} {As : List Value} (C : CT G Y p R s m args meth c) (hP : va_P G.1 vwCl (wO G sh I) H) (hsz : H.size = gB G + sh.length) (hS : va_S (gA G) s.heap H locs) : ∀ U : State, U.heap = H → s.WarmedH U.vm → va_Pc As (rW G sh I) As.toArray U := by
  intro U hU hW
  refine ⟨rfl, by rw [hU]; exact hP, by rw [hU]; exact hsz, va_K.moved hW.alike C.2.2.2.1, ?_⟩
  rw [hU]
  exact rO_warm hW (rO_at C hS)
theorem callB_Z {p : Program} {R : Room} {s : State} {m : MethodId} {args : Array Value} {meth : Method} {c : Code} {Z : YY} {np idx : Nat} (C : CT G Y p R s m args meth c) (hZ : okM Z np) (hlk : Cond.methodLink Y.1.cls idx Z.1 ∈ wG) (hh : yH Z + 1 ≤ yH Y) : CallB R s args Y.1.cls idx Z.1 Z.2.1 Z.2.2.1 Z.2.2.2.1 (yW Z) (yR Z) (yC Z) (yS Z) np := by
  obtain ⟨h1, h2, h3, h4⟩ := hZ
  obtain ⟨⟨-, -, -, -, hts⟩, -, ⟨r1, r2, r3, r4⟩, -⟩ := C
  refine callB_of np hts (yW_good Z h1) rfl rfl rfl (hts _ h2) (hts _ hlk) h3 ⟨?_, ?_⟩
  · show yH Z + 1 ≤ R.frames
    omega
  · show 8 + (Z.2.2.1 + 11) + 60 * yH Z ≤ R.locals
    omega
theorem go_vcall {Z : YY} {np idx r : Nat} {As St : List Value} {c : Nat × Nat × List (Option Nat)} {T : u_T} {N : Nat} {Qc : Sh → HP → Option Value → Prop} (hd : decode Y.2.1 pc = .ok (.invokevirtual idx, 3)) (hZ : okV Z np) (hlk : Cond.methodLink Y.1.cls idx Z.1 ∈ wG) (hh : yH Z + 1 ≤ yH Y ∧ k + yC Z ≤ yC Y ∧ n + yS Z ≤ yS Y) (hsh : sh[r]? = some c) (hr : r < 1000) (h9 : c.1 < 9) (hc : vwCl[c.1]? = some (Z.1.cls, T, N)) (hn : As.length = np) (hs : St = As.reverse ++ .ref r :: S) (hcat : (S.map (fun v => v.category)).sum ≤ 8) (hR : Ret G Z (.ref r :: As) sh I Qc)
    (hK : ∀ sh' I' v, Qc sh' I' v → Go G Y (pc + 3) L (v.toList ++ S) sh' I' (k + yC Z) (n + yS Z) Q) : Go G Y pc L St sh I k n Q := by
  refine go_run (Z := Z) (Qc := Qc) (S := S) ?_ hK
  intro p l e R s m args below meth c0 H locs ls C hP hsz hS hl
  subst hs
  have hw := wO_at (G := G) (I := I) hsh
  rw [cE_obj h9] at hw
  refine ⟨_, va_runV (As := As.map (av G)) (b := ad G r) C.1 (hR l) ⟨callB_Z C hZ.1 hlk hh.1, C.1.2.2.2.2 _ hZ.2.1, C.1.2.2.2.2 _ hZ.2.2⟩ ⟨rW_blind, ?_, pre_of (As := av G (.ref r) :: As.map (av G)) C hP hsz hS⟩ rfl (by simpa using hn) hl.1 ?_ (lv_room (by rw [cat_sum]; exact hcat)) hd ⟨Nat.le_trans hh.2.1 C.2.2.1.2.2.1, Nat.le_trans hh.2.2 C.2.2.1.2.2.2⟩⟩
  · rw [ad_lt hr]
    exact va_recv C.2.2.2.1 hP hc hw
  · simp [List.map_append, List.map_reverse, av]
theorem go_scall {Z : YY} {np idx : Nat} {As St : List Value} {Qc : Sh → HP → Option Value → Prop} (hd : decode Y.2.1 pc = .ok (.invokestatic idx, 3)) (hZ : okS Z np) (hlk : Cond.methodLink Y.1.cls idx Z.1 ∈ wG) (hh : yH Z + 1 ≤ yH Y ∧ k + yC Z ≤ yC Y ∧ n + yS Z ≤ yS Y) (hn : As.length = np) (hs : St = As.reverse ++ S) (hcat : (S.map (fun v => v.category)).sum ≤ 8) (hR : Ret G Z As sh I Qc)
    (hK : ∀ sh' I' v, Qc sh' I' v → Go G Y (pc + 3) L (v.toList ++ S) sh' I' (k + yC Z) (n + yS Z) Q) : Go G Y pc L St sh I k n Q := by
  refine go_run (Z := Z) (Qc := Qc) (S := S) ?_ hK
  intro p l e R s m args below meth c0 H locs ls C hP hsz hS hl
  subst hs
  exact ⟨_, va_runS (As := As.map (av G)) C.1 (hR l) ⟨callB_Z C hZ.1 hlk hh.1, C.1.2.2.2.2 _ hZ.2⟩ ⟨rW_blind, pre_of (As := As.map (av G)) C hP hsz hS⟩ rfl (by simpa using hn) hl.1 (by simp [List.map_append, List.map_reverse]) (lv_room (by rw [cat_sum]; exact hcat)) hd ⟨Nat.le_trans hh.2.1 C.2.2.1.2.2.1, Nat.le_trans hh.2.2 C.2.2.1.2.2.2⟩⟩
theorem go_icall {Z : YY} {np idx r : Nat} {As St : List Value} {Qc : Sh → HP → Option Value → Prop} (hd : decode Y.2.1 pc = .ok (.invokespecial idx, 3)) (hZ : okI Z np) (hlk : Cond.methodLink Y.1.cls idx Z.1 ∈ wG) (hh : yH Z + 1 ≤ yH Y ∧ k + yC Z ≤ yC Y ∧ n + yS Z ≤ yS Y) (hn : As.length = np) (hs : St = As.reverse ++ .ref r :: S) (hcat : (S.map (fun v => v.category)).sum ≤ 8) (hR : Ret G Z (.ref r :: As) sh I Qc)
    (hK : ∀ sh' I' v, Qc sh' I' v → Go G Y (pc + 3) L (v.toList ++ S) sh' I' (k + yC Z) (n + yS Z) Q) : Go G Y pc L St sh I k n Q := by
  refine go_run (Z := Z) (Qc := Qc) (S := S) ?_ hK
  intro p l e R s m args below meth c0 H locs ls C hP hsz hS hl
  subst hs
  obtain ⟨hZ1, hZ2, hZ3, hZ4⟩ := hZ
  have hB := callB_Z C hZ1 hlk hh.1
  rw [hZ4] at hB
  exact ⟨_, va_runI (As := As.map (av G)) (b := ad G r) C.1 (hR l) ⟨hB, hZ3, C.1.2.2.2.2 _ hZ2⟩ ⟨rW_blind, pre_of (As := av G (.ref r) :: As.map (av G)) C hP hsz hS⟩ rfl (by simpa using hn) hl.1 (by simp [List.map_append, List.map_reverse, av]) (lv_room (by rw [cat_sum]; exact hcat)) hd ⟨Nat.le_trans hh.2.1 C.2.2.1.2.2.1, Nat.le_trans hh.2.2 C.2.2.1.2.2.2⟩⟩
end Rows
end
section
/-! ===== Math, arraycopy; what constructors do: new cells, final fields, arrays of references ===== -/
def sr (I : HP) (k : Nat) (f : Nat → Int32) : HP := fun a => if a = k then f else I a
def nw (I : HP) (k : Nat) : HP := fun a b => if a = k then 0 else I a b
section Rows
variable {G : CX} {Y : YY} {pc : Nat} {L : List (Nat × Value)} {S : List Value} {sh : Sh} {I : HP} {k n : Nat} {Q : Sh → HP → Option Value → Prop}
theorem go_max {x y : Int32} {idx : Nat} (hd : decode Y.2.1 pc = .ok (.invokestatic idx, 3)) (hw : Cond.methodLink Y.1.cls idx Lib.Math.max.name ∈ wG ∧ Cond.static Lib.Math.max.name ∈ wG ∧ Cond.initialized "java/lang/Math" ∈ wG ∧ Cond.code Lib.Math.max.name Lib.Math.max.code 2 (some .int) ∈ wG) (hh : 1 ≤ yH Y ∧ k ≤ yC Y ∧ n ≤ yS Y) (hcat : (S.map (fun v => v.category)).sum ≤ 8) (kk : Go G Y (pc + 3) L (.int (if x < y then y else x) :: S) sh I k n Q) : Go G Y pc L (.int y :: .int x :: S) sh I k n Q := by
  intro p l e R s m args below meth c H locs ls C hP hz hS hl
  obtain ⟨r1, r2, r3, r4⟩ := C.2.2.1
  exact va_mmax C.1.1 C.1.2.1 (C.1.2.2.1.trans hl.1.symm) C.1.2.2.2.1 (C.1.2.2.2.2 _ hw.1) (C.1.2.2.2.2 _ hw.2.1) (C.1.2.2.2.2 _ hw.2.2.1) (C.1.2.2.2.2 _ hw.2.2.2) (Nat.le_trans hh.1 r1) (by rw [cat_sum]; omega) (Nat.le_trans hh.2.1 r3) (Nat.le_trans hh.2.2 r4) hd (kk p l e R s m args below meth c H locs ls C hP hz hS hl)
theorem go_min {x y : Int32} {idx : Nat} (hd : decode Y.2.1 pc = .ok (.invokestatic idx, 3)) (hw : Cond.methodLink Y.1.cls idx Lib.Math.min.name ∈ wG ∧ Cond.static Lib.Math.min.name ∈ wG ∧ Cond.initialized "java/lang/Math" ∈ wG ∧ Cond.code Lib.Math.min.name Lib.Math.min.code 2 (some .int) ∈ wG) (hh : 1 ≤ yH Y ∧ k ≤ yC Y ∧ n ≤ yS Y) (hcat : (S.map (fun v => v.category)).sum ≤ 8) (kk : Go G Y (pc + 3) L (.int (if y < x then y else x) :: S) sh I k n Q) : Go G Y pc L (.int y :: .int x :: S) sh I k n Q := by
  intro p l e R s m args below meth c H locs ls C hP hz hS hl
  obtain ⟨r1, r2, r3, r4⟩ := C.2.2.1
  exact va_mmin C.1.1 C.1.2.1 (C.1.2.2.1.trans hl.1.symm) C.1.2.2.2.1 (C.1.2.2.2.2 _ hw.1) (C.1.2.2.2.2 _ hw.2.1) (C.1.2.2.2.2 _ hw.2.2.1) (C.1.2.2.2.2 _ hw.2.2.2) (Nat.le_trans hh.1 r1) (by rw [cat_sum]; omega) (Nat.le_trans hh.2.1 r3) (Nat.le_trans hh.2.2 r4) hd (kk p l e R s m args below meth c H locs ls C hP hz hS hl)
theorem go_copy {r0 r1 n0 n1 idx : Nat} {sp dp a : Int32} {f0 f1 : List (Option Nat)} (hd : decode Y.2.1 pc = .ok (.invokestatic idx, 3)) (hw : Cond.methodLink Y.1.cls idx arraycopyName ∈ wG ∧ Cond.native arraycopyName ∈ wG ∧ Cond.static arraycopyName ∈ wG ∧ Cond.initialized "java/lang/System" ∈ wG) (hh : 1 ≤ yH Y) (hcat : (S.map (fun v => v.category)).sum ≤ 8) (h0 : sh[r0]? = some (9, n0, f0)) (h1 : sh[r1]? = some (9, n1, f1)) (hr : r0 < 1000 ∧ r1 < 1000) (hb : ¬ sp < 0 ∧ ¬ dp < 0 ∧ ¬ a < 0 ∧ sp.toNatClampNeg + a.toNatClampNeg ≤ n0 ∧ dp.toNatClampNeg + a.toNatClampNeg ≤ n1) (kk : Go G Y (pc + 3) L S sh (sr I r1 (va_cpy (I r0) (I r1) sp.toNatClampNeg dp.toNatClampNeg a.toNatClampNeg)) k n Q) : Go G Y pc L (.int a :: .int dp :: .ref r1 :: .int sp :: .ref r0 :: S) sh I k n Q := by
  intro p l e R s m args below meth c H locs ls C hP hz hS hl
  obtain ⟨q1, q2, q3, q4⟩ := C.2.2.1
  have w0 := wO_at (G := G) (I := I) h0
  have w1 := wO_at (G := G) (I := I) h1
  rw [cE_int] at w0 w1
  show W p l e R s m args below meth _ H locs k n _ (F0 m pc ls (.int a :: .int dp :: .ref (ad G r1) :: .int sp :: .ref (ad G r0) :: S.map (av G)))
  rw [ad_lt hr.1, ad_lt hr.2]
  refine va_copyi C.1.1 C.1.2.1 (C.1.2.2.1.trans hl.1.symm) C.1.2.2.2.1 (C.1.2.2.2.2 _ hw.1) (C.1.2.2.2.2 _ hw.2.1) (C.1.2.2.2.2 _ hw.2.2.1) (C.1.2.2.2.2 _ hw.2.2.2) C.2.2.2.1 hP wO_D hS r0 r1 0 0 w0 w1 rfl rfl rfl hb.1 hb.2.1 hb.2.2.1 hb.2.2.2.1 hb.2.2.2.2 (fun _ _ => rfl) (Nat.le_trans hh q1) ?_ hd (fun H1 locs1 hP1 _ hS1 => ?_)
  · rw [cat_sum]
    have : nativeFrameWords "java/lang/System" "arraycopy" 5 + 11 ≤ 40 := by decide +kernel
    omega
  · have e1 : (wO G sh I).set r1 (gB G + r1, .inl (G.2.1 9, n1, .inl (va_cpy (I r0) (I r1) sp.toNatClampNeg dp.toNatClampNeg a.toNatClampNeg))) = wO G sh (sr I r1 (va_cpy (I r0) (I r1) sp.toNatClampNeg dp.toNatClampNeg a.toNatClampNeg)) := wO_set h1 (by rw [cE_int]; simp [sr]) (fun a ha => by simp [sr, ha])
    rw [e1] at hP1
    exact kk p l e R s m args below meth _ H1 locs1 ls C hP1 hz hS1 hl
theorem go_oinit {idx r : Nat} (hd : decode Y.2.1 pc = .ok (.invokespecial idx, 3)) (hw : Cond.methodLink Y.1.cls idx Lib.objectInit ∈ wG ∧ Cond.instanceMethod Lib.objectInit ∈ wG ∧ Cond.code Lib.objectInit ⟨#[0xb1]⟩ 1 none ∈ wG) (hh : 1 ≤ yH Y) (hcat : (S.map (fun v => v.category)).sum ≤ 8) (kk : Go G Y (pc + 3) L S sh I k n Q) : Go G Y pc L (.ref r :: S) sh I k n Q := by
  intro p l e R s m args below meth c H locs ls C hP hz hS hl
  obtain ⟨q1, q2, q3, q4⟩ := C.2.2.1
  refine W.objInit C.1.1 C.1.2.1 C.1.2.2.2.1 (C.1.2.2.2.2 _ hw.1) (C.1.2.2.2.2 _ hw.2.1) (C.1.2.2.2.2 _ hw.2.2) rfl (hl.1.trans C.1.2.2.1.symm) rfl hd (Nat.le_trans hh q1) ?_ (kk p l e R s m args below meth c H locs ls C hP hz hS hl)
  show 2 * 0 + _ + 12 ≤ R.locals
  rw [cat_sum]
  omega
theorem go_iNcall {Z : YY} {np idx r : Nat} {host : String} {As St : List Value} {Qc : Sh → HP → Option Value → Prop} (hd : decode Y.2.1 pc = .ok (.invokespecial idx, 3)) (hZ : okI Z np) (hlk : ∀ (s : State) (H : Heap), rO G s H → va_Nw (.methodLinkNest Y.1.cls idx Z.1 host) s) (hh : yH Z + 1 ≤ yH Y ∧ k + yC Z ≤ yC Y ∧ n + yS Z ≤ yS Y) (hn : As.length = np) (hs : St = As.reverse ++ .ref r :: S) (hcat : (S.map (fun v => v.category)).sum ≤ 8) (hR : Ret G Z (.ref r :: As) sh I Qc)
    (hK : ∀ sh' I' v, Qc sh' I' v → Go G Y (pc + 3) L (v.toList ++ S) sh' I' (k + yC Z) (n + yS Z) Q) : Go G Y pc L St sh I k n Q := by
  refine go_run (Z := Z) (Qc := Qc) (S := S) ?_ hK
  intro p l e R s m args below meth c0 H locs ls C hP hsz hS hl
  subst hs
  obtain ⟨⟨h1, h2, h3, h4⟩, hZ2, hZ3, hZ4⟩ := hZ
  obtain ⟨q1, q2, q3, q4⟩ := C.2.2.1
  have hB : va_CN R s args Y.1.cls idx Z.1 host Z.2.1 Z.2.2.1 Z.2.2.2.1 (yW Z) (yR Z) (yC Z) (yS Z) np := va_cnB np C.1.2.2.2.2 (yW_good Z h1) rfl rfl rfl (hlk s _ C.2.2.2.2.1) (C.1.2.2.2.2 _ h2) h3 ⟨by show yH Z + 1 ≤ R.frames; omega, by show 8 + (Z.2.2.1 + 11) + 60 * yH Z ≤ R.locals; omega⟩
  rw [hZ4] at hB
  exact ⟨_, va_runIN (As := As.map (av G)) (b := ad G r) C.1 (hR l) ⟨hB, hZ3, C.1.2.2.2.2 _ hZ2⟩ ⟨rW_blind, pre_of (As := av G (.ref r) :: As.map (av G)) C hP hsz hS⟩ rfl (by simpa using hn) hl.1 (by simp [List.map_append, List.map_reverse, av]) (lv_room (by rw [cat_sum]; exact hcat)) hd ⟨Nat.le_trans hh.2.1 C.2.2.1.2.2.1, Nat.le_trans hh.2.2 C.2.2.1.2.2.2⟩⟩
theorem wO_len : (wO G sh I).length = sh.length := by simp [wO]
theorem wO_push {c : Nat × Nat × List (Option Nat)} : wO G (sh ++ [c]) (nw I sh.length) = wO G sh I ++ [(gB G + sh.length, cE G sh.length c (nw I sh.length))] := by
  apply List.ext_getElem?
  intro i
  rcases Nat.lt_trichotomy i sh.length with h | h | h
  · obtain ⟨d, hd⟩ : ∃ d, sh[i]? = some d := ⟨sh[i], List.getElem?_eq_getElem h⟩
    rw [List.getElem?_append_left (by rw [wO_len]; exact h), wO_at hd, wO_at (by rw [List.getElem?_append_left h]; exact hd), cE_off]
    funext b
    simp [nw, Nat.ne_of_lt h]
  · subst h
    rw [wO_at (c := c) (by simp), List.getElem?_append_right (by rw [wO_len]; exact Nat.le_refl _), wO_len]
    simp
  · rw [List.getElem?_eq_none (by rw [wO_len]; simp; omega), List.getElem?_eq_none (by simp [wO_len]; omega)]
theorem wO_grow {c : Nat × Nat × List (Option Nat)} {H H1 : Heap} (hP : va_P G.1 vwCl (wO G sh I) H) (hk : ∀ q, q < H.size → H1[q]? = H[q]?) (hc : va_at G.1 vwCl (gB G + sh.length, cE G sh.length c (nw I sh.length)) H1) : va_P G.1 vwCl (wO G (sh ++ [c]) (nw I sh.length)) H1 := by
  rw [wO_push]
  refine va_P.app (hP.kept (fun j q hj => hk q.1 ((hP j q hj).lt))) (fun j q hj => ?_)
  have hz : j < 1 := (List.getElem?_eq_some_iff.mp hj).1
  rw [show j = 0 by omega] at hj
  cases hj
  exact hc
theorem S_grow {H0 H H1 : Heap} {locs : List Loc} {A : Nat → Prop} (hS : va_S A H0 H locs) (hz : H1.size = H.size + 1) (hk : ∀ q, q < H.size → H1[q]? = H[q]?) : va_S A H0 H1 locs :=
  ⟨Nat.le_trans hS.1 (by omega), fun q h1 h2 => (hk q (Nat.lt_of_lt_of_le h1 hS.1)).trans (hS.2.1 q h1 h2), hS.2.2⟩
theorem go_new {idx ci N : Nat} {C0 : String} {T : u_T} (ty : Nat → FieldType) (hd : decode Y.2.1 pc = .ok (.new idx, 3)) (hc : vwCl[ci]? = some (C0, T, N)) (h9 : ci < 9) (hin : ∀ w ∈ u_ws C0 T N, w ∈ wG) (hw : Cond.classLink Y.1.cls idx C0 ∈ wG ∧ Cond.instantiable C0 N ∈ wG ∧ Cond.initialized C0 ∈ wG) (hty : ∀ j, j < N → parseFieldDescriptor (T j).2.2.1 = some (ty j)) (hdf : ∀ j, j < N → defaultValue (ty j) = if rK ci j = true then .null else .int 0) (hh : k + 1 ≤ yC Y ∧ n + N ≤ yS Y) (hlt : sh.length < 1000) (kk : Go G Y (pc + 3) L (.ref sh.length :: S) (sh ++ [(ci, N, List.replicate N none)]) (nw I sh.length) (k + 1) (n + N) Q) : Go G Y pc L S sh I k n Q := by
  intro p l e R s m args below meth c H locs ls C hP hz hS hl
  obtain ⟨q1, q2, q3, q4⟩ := C.2.2.1
  refine W_sz (fun hle => ?_)
  have hsz := wO_sz hP hS hz C.2.2.2.2.2 hle
  have hKn := C.2.2.2.1.1 ci _ hc
  refine W.newcK C.1.1 C.1.2.1 C.1.2.2.2.1 (C.1.2.2.2.2 _ hw.1) (C.1.2.2.2.2 _ hw.2.1) (C.1.2.2.2.2 _ hw.2.2) rfl hd (Nat.le_trans hh.1 q3) (Nat.le_trans hh.2 q4) hKn.2.1 hsz (fun H1 kC hkC e1 z1 o1 => ?_)
  have o1' : ∀ q, q < H.size → H1[q]? = H[q]? := fun q hq => o1 q (by rw [← hsz]; exact hq)
  have hP1 : va_P G.1 vwCl (wO G (sh ++ [(ci, N, List.replicate N none)]) (nw I sh.length)) H1 := by
    refine wO_grow hP o1' ?_
    rw [cE_obj h9]
    refine ⟨_, hc, (u_born ty C.1.2.2.2.2 hin hKn hkC e1 hty).to (fun j hj => ?_)⟩
    rw [hdf j hj]
    simp only [vp_V, List.getD_eq_getElem?_getD, fV_get hj, Option.getD_some, fV]
    by_cases hr : rK ci j = true
    · simp only [hr, if_true]
      simp [List.getElem?_replicate, hj, va_rf]
    · simp [hr, nw]
  have := kk p l e R s m args below meth c H1 locs ls C hP1 (by simp; omega) (S_grow hS (by rw [z1, hsz]) o1') hl
  simp only [List.map_cons, av, ad_lt hlt] at this
  exact this
theorem go_newI {len : Nat} {a : Int32} (hd : decode Y.2.1 pc = .ok (.newarray .int, 2)) (hw : Cond.arrayClass .int ∈ wG) (ha : ¬ a < 0 ∧ a.toNatClampNeg = len ∧ len ≤ 1000) (hh : k + 1 ≤ yC Y ∧ n + len ≤ yS Y) (hlt : sh.length < 1000) (kk : Go G Y (pc + 2) L (.ref sh.length :: S) (sh ++ [(9, len, [])]) (nw I sh.length) (k + 1) (n + len) Q) : Go G Y pc L (.int a :: S) sh I k n Q := by
  intro p l e R s m args below meth c H locs ls C hP hz hS hl
  obtain ⟨q1, q2, q3, q4⟩ := C.2.2.1
  refine W_sz (fun hle => ?_)
  have hsz := wO_sz hP hS hz C.2.2.2.2.2 hle
  refine va_newaK (atype := .int) C.1.1 C.1.2.1 (C.1.2.2.2.2 _ hw) rfl hd rfl ha.1 ha.2.1 (by show len * 4 ≤ _; omega) (Nat.le_trans hh.1 q3) (Nat.le_trans hh.2 q4) hsz (fun H1 cA e1 z1 o1 hAr hNm => ?_)
  have o1' : ∀ q, q < H.size → H1[q]? = H[q]? := fun q hq => o1 q (by rw [← hsz]; exact hq)
  have hcA : G.2.1 9 = cA := Option.some.inj ((show s.vm.findClass ("[" ++ FieldType.int.toString) = some (G.2.1 9) from (C.2.2.2.1.2 0 _ rfl).2).symm.trans hNm)
  have hP1 : va_P G.1 vwCl (wO G (sh ++ [(9, len, [])]) (nw I sh.length)) H1 := by
    refine wO_grow hP o1' ?_
    rw [cE_int, hcA]
    show H1[_]? = some (vp_cell _ _)
    rw [vp_cell_i]
    refine e1.trans ?_
    congr 2
    funext j
    simp [nw]
    rfl
  have := kk p l e R s m args below meth c H1 locs ls C hP1 (by simp; omega) (S_grow hS (by rw [z1, hsz]) o1') hl
  simp only [List.map_cons, av, ad_lt hlt] at this
  exact this
theorem go_newZ {len : Nat} {a : Int32} (hd : decode Y.2.1 pc = .ok (.newarray .boolean, 2)) (hw : Cond.arrayClass .boolean ∈ wG) (ha : ¬ a < 0 ∧ a.toNatClampNeg = len ∧ len ≤ 1000) (hh : k + 1 ≤ yC Y ∧ n + len ≤ yS Y) (hlt : sh.length < 1000) (kk : Go G Y (pc + 2) L (.ref sh.length :: S) (sh ++ [(10, len, [])]) (nw I sh.length) (k + 1) (n + len) Q) : Go G Y pc L (.int a :: S) sh I k n Q := by
  intro p l e R s m args below meth c H locs ls C hP hz hS hl
  obtain ⟨q1, q2, q3, q4⟩ := C.2.2.1
  refine W_sz (fun hle => ?_)
  have hsz := wO_sz hP hS hz C.2.2.2.2.2 hle
  refine va_newaK (atype := .boolean) C.1.1 C.1.2.1 (C.1.2.2.2.2 _ hw) rfl hd rfl ha.1 ha.2.1 (by show len * 1 ≤ _; omega) (Nat.le_trans hh.1 q3) (Nat.le_trans hh.2 q4) hsz (fun H1 cA e1 z1 o1 hAr hNm => ?_)
  have o1' : ∀ q, q < H.size → H1[q]? = H[q]? := fun q hq => o1 q (by rw [← hsz]; exact hq)
  have hcA : G.2.1 10 = cA := Option.some.inj ((show s.vm.findClass ("[" ++ FieldType.boolean.toString) = some (G.2.1 10) from (C.2.2.2.1.2 1 _ rfl).2).symm.trans hNm)
  have hP1 : va_P G.1 vwCl (wO G (sh ++ [(10, len, [])]) (nw I sh.length)) H1 := by
    refine wO_grow hP o1' ?_
    rw [cE_bool, hcA]
    show H1[_]? = some (vp_cell _ _)
    rw [vp_cell_i]
    refine e1.trans ?_
    congr 2
    funext j
    simp [nw]
    rfl
  have := kk p l e R s m args below meth c H1 locs ls C hP1 (by simp; omega) (S_grow hS (by rw [z1, hsz]) o1') hl
  simp only [List.map_cons, av, ad_lt hlt] at this
  exact this
theorem wO_sh {r : Nat} {c c2 : Nat × Nat × List (Option Nat)} (hr : sh[r]? = some c) : (wO G sh I).set r (gB G + r, cE G r c2 I) = wO G (sh.set r c2) I := by
  apply List.ext_getElem?
  intro i
  have hlt := (List.getElem?_eq_some_iff.mp hr).1
  by_cases h : i = r
  · subst h
    rw [List.getElem?_set_self (by rw [wO_len]; exact hlt), wO_at (c := c2) (by simp [hlt])]
  · rw [List.getElem?_set_ne (Ne.symm h)]
    simp only [wO, List.getElem?_mapIdx, List.getElem?_set_ne (Ne.symm h)]
theorem go_newq {idx len t : Nat} {a : Int32} {C0 : String} (hd : decode Y.2.1 pc = .ok (.anewarray idx, 3)) (hw : Cond.classLink Y.1.cls idx C0 ∈ wG) (ht : (t = 11 ∧ C0 = "MayNotPause$Turn") ∨ (t = 12 ∧ C0 = "MayNotPause$Sheet")) (ha : ¬ a < 0 ∧ a.toNatClampNeg = len ∧ len ≤ 1000) (hh : k + 1 ≤ yC Y ∧ n + len ≤ yS Y) (hlt : sh.length < 1000) (kk : Go G Y (pc + 3) L (.ref sh.length :: S) (sh ++ [(t, len, List.replicate len none)]) (nw I sh.length) (k + 1) (n + len) Q) : Go G Y pc L (.int a :: S) sh I k n Q := by
  intro p l e R s m args below meth c H locs ls C hP hz hS hl
  obtain ⟨q1, q2, q3, q4⟩ := C.2.2.1
  refine W_sz (fun hle => ?_)
  have hsz := wO_sz hP hS hz C.2.2.2.2.2 hle
  have hO := C.2.2.2.2.1.2.2.2.2.2.2
  have hover : va_AO C0 s := by rcases ht with ⟨-, rfl⟩ | ⟨-, rfl⟩; exact hO.1; exact hO.2
  obtain ⟨ha1, rfl, ha3⟩ := ha
  refine W.anew C.1.1 C.1.2.1 C.1.2.2.2.1 (C.1.2.2.2.2 _ hw) (va_AO.use hover) rfl hd rfl ha1 (by omega) (Nat.le_trans hh.1 q3) (Nat.le_trans hh.2 q4) (fun cA kA comp f1 f2 f3 f4 => ?_)
  generalize hH1 : H.push ({ cls := cA, slots := Array.replicate a.toNatClampNeg .null, vm := .none } : Cell) = H1
  have z1 : H1.size = H.size + 1 := by rw [← hH1, Array.size_push]
  have e1 : H1[H.size]? = some (arrV cA a.toNatClampNeg (fun _ => .null)) := by rw [← hH1, Array.getElem?_push_size, ← arrV_new]
  have o1' : ∀ q : Nat, q < H.size → H1[q]? = H[q]? := fun q hq => by rw [← hH1, Array.getElem?_push, if_neg (Nat.ne_of_lt hq)]
  have hP1 : va_P G.1 vwCl (wO G (sh ++ [(t, a.toNatClampNeg, List.replicate a.toNatClampNeg none)]) (nw I sh.length)) H1 := by
    refine wO_grow hP o1' ?_
    have hcA : G.2.1 t = cA := by
      rcases ht with ⟨rfl, rfl⟩ | ⟨rfl, rfl⟩
      · obtain ⟨_, _, -, -, -, h⟩ := (show va_RA s (G.2.1 11) (.object "MayNotPause$Turn") from (C.2.2.2.1.2 2 _ rfl).2)
        exact Option.some.inj (h.symm.trans f1)
      · obtain ⟨_, _, -, -, -, h⟩ := (show va_RA s (G.2.1 12) (.object "MayNotPause$Sheet") from (C.2.2.2.1.2 3 _ rfl).2)
        exact Option.some.inj (h.symm.trans f1)
    have hcell : cE G sh.length (t, a.toNatClampNeg, List.replicate a.toNatClampNeg none) (nw I sh.length) = .inl (cA, a.toNatClampNeg, .inr (.inr (.inr (.inr (fun _ => none))))) := by
      have h11 : ¬ t < 9 ∧ ¬ t < 11 := by rcases ht with ⟨rfl, -⟩ | ⟨rfl, -⟩ <;> decide
      unfold cE
      rw [if_neg h11.1, if_neg h11.2, hcA]
      congr 7
      funext j
      simp [List.getD_eq_getElem?_getD, List.getElem?_replicate]
      split <;> rfl
    rw [hcell]
    show H1[_]? = some (vp_cell _ _)
    rw [vp_cell_q, ← hsz]
    exact e1
  have := kk p l e R s m args below meth c H1 locs ls C hP1 (by simp; omega) (S_grow hS z1 o1') hl
  simp only [List.map_cons, av, ad_lt hlt] at this
  rw [hsz]
  exact this
theorem fV_setR {r j x : Nat} {c : Nat × Nat × List (Option Nat)} (hr : rK c.1 j = true) (hj : j < c.2.2.length) : ((List.range c.2.1).map (fV G r c I)).set j (.ref (ad G x)) = (List.range c.2.1).map (fV G r (c.1, c.2.1, c.2.2.set j (some x)) I) := by
  apply List.ext_getElem?
  intro i
  by_cases h : i = j
  · subst h
    by_cases hn : i < c.2.1
    · rw [List.getElem?_set_self (by simpa using hn), fV_get hn]
      simp [fV, hr, List.getD_eq_getElem?_getD, hj, va_rf]
    · rw [List.getElem?_eq_none (by simpa using Nat.not_lt.mp hn), List.getElem?_eq_none (by simpa using Nat.not_lt.mp hn)]
  · rw [List.getElem?_set_ne (Ne.symm h)]
    by_cases hn : i < c.2.1
    · rw [fV_get hn, fV_get hn]
      simp only [fV, List.getD_eq_getElem?_getD, List.getElem?_set_ne (Ne.symm h)]
    · rw [List.getElem?_eq_none (by simpa using Nat.not_lt.mp hn), List.getElem?_eq_none (by simpa using Nat.not_lt.mp hn)]
theorem go_putR {r j idx x : Nat} {ty : FieldType} {c : Nat × Nat × List (Option Nat)} (hd : decode Y.2.1 pc = .ok (.putfield idx, 3)) (hsh : sh[r]? = some c) (hr : r < 1000) (hF : FP Y.1.cls idx c.1 j ty true) (h9 : c.1 < 9 ∧ j < c.2.1 ∧ rK c.1 j = true ∧ j < c.2.2.length) (hY : Y.1.name = "<init>") (hn : ∀ a, narrow ty (.ref a) = .ref a ∧ fits ty (.ref a) = true) (kk : Go G Y (pc + 3) L S (sh.set r (c.1, c.2.1, c.2.2.set j (some x))) I k n Q) : Go G Y pc L (.ref x :: .ref r :: S) sh I k n Q := by
  intro p l e R s m args below meth c0 H locs ls C hP hz hS hl
  obtain ⟨C', T, N, ty0, hc, hin, hj, hlk, hty, hnm, hfin, hde, hpd⟩ := hF
  have hw := wO_at (G := G) (I := I) hsh
  rw [cE_obj h9.1] at hw
  show W p l e R s m args below meth _ H locs k n _ (F0 m pc ls (.ref (ad G x) :: .ref (ad G r) :: S.map (av G)))
  rw [ad_lt hr]
  refine va_putF C.1.1 C.1.2.1 (Ts := wG) C.1.2.2.2.2 hin ty0 hty hnm C.1.2.2.2.1 C.2.2.2.1 hP wO_D hS r hw hc j hj (C.1.2.2.2.2 _ hlk) (fun x hx => hx) hfin (C.2.1.2.2.trans hY) (hde rfl) hpd (hn _).1 (hn _).2 (by simpa using h9.2.1) hd (fun H1 locs1 hP1 _ hS1 => ?_)
  have e1 : (wO G sh I).set r (gB G + r, .inr (c.1, ((List.range c.2.1).map (fV G r c I)).set j (.ref (ad G x)))) = wO G (sh.set r (c.1, c.2.1, c.2.2.set j (some x))) I := by
    rw [fV_setR h9.2.2.1 h9.2.2.2, ← wO_sh hsh, cE_obj (c := (c.1, c.2.1, c.2.2.set j (some x))) h9.1]
  rw [e1] at hP1
  exact kk p l e R s m args below meth _ H1 locs1 ls C hP1 (by rw [List.length_set]; exact hz) hS1 hl
theorem go_aast {r len x t ci : Nat} {i : Int32} {rf : List (Option Nat)} {cx : Nat × Nat × List (Option Nat)} (hd : decode Y.2.1 pc = .ok (.aastore, 1)) (hsh : sh[r]? = some (t, len, rf)) (ht : (t = 11 ∧ ci = 6) ∨ (t = 12 ∧ ci = 3)) (hr : r < 1000 ∧ x < 1000) (hx : sh[x]? = some cx) (hcx : cx.1 = ci) (hin : vp_in i len) (hl2 : i.toNatClampNeg < rf.length) (kk : Go G Y (pc + 1) L S (sh.set r (t, len, rf.set i.toNatClampNeg (some x))) I k n Q) : Go G Y pc L (.ref x :: .int i :: .ref r :: S) sh I k n Q := by
  intro p l e R s m args below meth c0 H locs ls C hP hz hS hl
  have hw := wO_at (G := G) (I := I) hsh
  have hwx := wO_at (G := G) (I := I) hx
  have h11 : ¬ t < 9 ∧ ¬ t < 11 ∧ cx.1 < 9 := by rcases ht with ⟨rfl, rfl⟩ | ⟨rfl, rfl⟩ <;> (rw [hcx]; decide)
  have hcell : ∀ f : List (Option Nat), cE G r (t, len, f) I = .inl (G.2.1 t, len, .inr (.inr (.inr (.inr (fun j => (f.getD j none).map (ad G)))))) := by
    intro f
    unfold cE
    rw [if_neg h11.1, if_neg h11.2.1]
  rw [hcell] at hw
  rw [cE_obj h11.2.2] at hwx
  show W p l e R s m args below meth _ H locs k n _ (F0 m pc ls (.ref (ad G x) :: .int i :: .ref (ad G r) :: S.map (av G)))
  rw [ad_lt hr.1, ad_lt hr.2]
  have hup : va_up (fun j => (rf.getD j none).map (ad G)) i.toNatClampNeg (some (gB G + x)) = fun j => ((rf.set i.toNatClampNeg (some x)).getD j none).map (ad G) := by
    funext j
    unfold va_up
    by_cases h : j = i.toNatClampNeg
    · subst h
      simp [List.getD_eq_getElem?_getD, hl2, ad_lt hr.2]
    · simp [List.getD_eq_getElem?_getD, h, List.getElem?_set_ne (Ne.symm h)]
  have fin : ∀ (H1 : Heap) (locs1 : List Loc), va_P G.1 vwCl ((wO G sh I).set r (gB G + r, .inl (G.2.1 t, len, .inr (.inr (.inr (.inr (va_up (fun j => (rf.getD j none).map (ad G)) i.toNatClampNeg (some (gB G + x))))))))) H1 → va_S (gA G) s.heap H1 locs1 → W p l e R s m args below meth c0 H1 locs1 k n (MQ below (QC G (yC Y) Q) args s (yC Y) (yS Y) (gA G)) (F0 m (pc + 1) ls (S.map (av G))) := by
    intro H1 locs1 hP1 hS1
    rw [hup, ← hcell, wO_sh hsh] at hP1
    exact kk p l e R s m args below meth _ H1 locs1 ls C hP1 (by rw [List.length_set]; exact hz) hS1 hl
  rcases ht with ⟨rfl, rfl⟩ | ⟨rfl, rfl⟩
  · exact va_astq C.1.1 C.1.2.1 C.2.2.2.1 hP wO_D hS r 2 x 6 (r := (RX6, TX6, 15)) hw rfl (by rw [← hcx]; exact hwx) rfl hin hd (fun H1 locs1 hP1 _ hS1 => fin H1 locs1 hP1 hS1)
  · exact va_astq C.1.1 C.1.2.1 C.2.2.2.1 hP wO_D hS r 3 x 3 (r := (RX3, TX3, 4)) hw rfl (by rw [← hcx]; exact hwx) rfl hin hd (fun H1 locs1 hP1 _ hS1 => fin H1 locs1 hP1 hS1)
end Rows
end
section
/-! ===== the heap behind the two constructors; links; methods ===== -/
def SH : Sh := [(7, 12, [some 1, some 2, some 4, some 6, some 22, some 40, some 42, some 46, some 49, none, none, none]), (9, 6, []), (2, 4, [some 3, none, none, none]), (9, 59, []), (2, 4, [some 5, none, none, none]), (9, 19, []), (5, 4, [some 7, some 8, some 9, none]), (9, 5, []), (6, 15, [none, none, none, none, none, none, none, none, none, none, none, none, none, none, none]), (11, 12, [some 10, some 11, some 12, some 13, some 14, some 15, some 16, some 17, some 18, some 19, some 20, some 21]), (6, 15, [none, none, none, none, none, none, none, none, none, none, none, none, none, none, none]), (6, 15, [none, none, none, none, none, none, none, none, none, none, none, none, none, none, none]), (6, 15, [none, none, none, none, none, none, none, none, none, none, none, none, none, none, none]), (6, 15, [none, none, none, none, none, none, none, none, none, none, none, none, none, none, none]), (6, 15, [none, none, none, none, none, none, none, none, none, none, none, none, none, none, none]), (6, 15, [none, none, none, none, none, none, none, none, none, none, none, none, none, none, none]), (6, 15, [none, none, none, none, none, none, none, none, none, none, none, none, none, none, none]), (6, 15, [none, none, none, none, none, none, none, none, none, none, none, none, none, none, none]), (6, 15, [none, none, none, none, none, none, none, none, none, none, none, none, none, none, none]), (6, 15, [none, none, none, none, none, none, none, none, none, none, none, none, none, none, none]), (6, 15, [none, none, none, none, none, none, none, none, none, none, none, none, none, none, none]), (6, 15, [none, none, none, none, none, none, none, none, none, none, none, none, none, none, none]), (5, 4, [some 23, some 24, some 25, none]), (9, 5, []), (6, 15, [none, none, none, none, none, none, none, none, none, none, none, none, none, none, none]), (11, 14, [some 26, some 27, some 28, some 29, some 30, some 31, some 32, some 33, some 34, some 35, some 36, some 37, some 38, some 39]), (6, 15, [none, none, none, none, none, none, none, none, none, none, none, none, none, none, none]), (6, 15, [none, none, none, none, none, none, none, none, none, none, none, none, none, none, none]), (6, 15, [none, none, none, none, none, none, none, none, none, none, none, none, none, none, none]), (6, 15, [none, none, none, none, none, none, none, none, none, none, none, none, none, none, none]), (6, 15, [none, none, none, none, none, none, none, none, none, none, none, none, none, none, none]), (6, 15, [none, none, none, none, none, none, none, none, none, none, none, none, none, none, none]), (6, 15, [none, none, none, none, none, none, none, none, none, none, none, none, none, none, none]), (6, 15, [none, none, none, none, none, none, none, none, none, none, none, none, none, none, none]), (6, 15, [none, none, none, none, none, none, none, none, none, none, none, none, none, none, none]), (6, 15, [none, none, none, none, none, none, none, none, none, none, none, none, none, none, none]), (6, 15, [none, none, none, none, none, none, none, none, none, none, none, none, none, none, none]), (6, 15, [none, none, none, none, none, none, none, none, none, none, none, none, none, none, none]), (6, 15, [none, none, none, none, none, none, none, none, none, none, none, none, none, none, none]), (6, 15, [none, none, none, none, none, none, none, none, none, none, none, none, none, none, none]), (1, 5, [some 22, some 2, some 4, some 1, some 41]), (9, 6, []), (0, 9, [some 22, some 2, some 1, some 43, some 44, some 45, none, none, none]), (9, 7, []), (9, 7, []), (10, 7, []), (4, 3, [some 47, some 48, none]), (9, 8, []), (9, 8, []), (12, 4, [some 50, some 52, some 54, some 56]), (3, 4, [some 51, none, none, none]), (9, 60, []), (3, 4, [some 53, none, none, none]), (9, 60, []), (3, 4, [some 55, none, none, none]), (9, 60, []), (3, 4, [some 57, none, none, none]), (9, 60, []), (8, 30, [some 59, some 60, some 61, some 62, none, some 63, some 64, none, some 65, some 66, some 67, none, some 68, some 69, some 70, some 71, some 72, some 73, some 74, some 75, none, none, none, none, some 76, some 77, none, none, none, some 78]), (9, 4, []), (9, 4, []), (9, 240, []), (9, 60, []), (9, 120, []), (9, 2, []), (9, 2, []), (9, 64, []), (9, 6, []), (9, 14, []), (9, 14, []), (9, 14, []), (9, 14, []), (9, 14, []), (9, 14, []), (9, 14, []), (9, 14, []), (9, 6, []), (9, 7, []), (9, 16, [])]
theorem sh_0 : SH[0]? = some (7, 12, [some 1, some 2, some 4, some 6, some 22, some 40, some 42, some 46, some 49, none, none, none]) := rfl
theorem sh_1 : SH[1]? = some (9, 6, []) := rfl
theorem sh_2 : SH[2]? = some (2, 4, [some 3, none, none, none]) := rfl
theorem sh_3 : SH[3]? = some (9, 59, []) := rfl
theorem sh_4 : SH[4]? = some (2, 4, [some 5, none, none, none]) := rfl
theorem sh_5 : SH[5]? = some (9, 19, []) := rfl
theorem sh_6 : SH[6]? = some (5, 4, [some 7, some 8, some 9, none]) := rfl
theorem sh_7 : SH[7]? = some (9, 5, []) := rfl
theorem sh_8 : SH[8]? = some (6, 15, [none, none, none, none, none, none, none, none, none, none, none, none, none, none, none]) := rfl
theorem sh_9 : SH[9]? = some (11, 12, [some 10, some 11, some 12, some 13, some 14, some 15, some 16, some 17, some 18, some 19, some 20, some 21]) := rfl
theorem sh_10 : SH[10]? = some (6, 15, [none, none, none, none, none, none, none, none, none, none, none, none, none, none, none]) := rfl
theorem sh_11 : SH[11]? = some (6, 15, [none, none, none, none, none, none, none, none, none, none, none, none, none, none, none]) := rfl
theorem sh_12 : SH[12]? = some (6, 15, [none, none, none, none, none, none, none, none, none, none, none, none, none, none, none]) := rfl
theorem sh_13 : SH[13]? = some (6, 15, [none, none, none, none, none, none, none, none, none, none, none, none, none, none, none]) := rfl
theorem sh_14 : SH[14]? = some (6, 15, [none, none, none, none, none, none, none, none, none, none, none, none, none, none, none]) := rfl
theorem sh_15 : SH[15]? = some (6, 15, [none, none, none, none, none, none, none, none, none, none, none, none, none, none, none]) := rfl
theorem sh_16 : SH[16]? = some (6, 15, [none, none, none, none, none, none, none, none, none, none, none, none, none, none, none]) := rfl
theorem sh_17 : SH[17]? = some (6, 15, [none, none, none, none, none, none, none, none, none, none, none, none, none, none, none]) := rfl
theorem sh_18 : SH[18]? = some (6, 15, [none, none, none, none, none, none, none, none, none, none, none, none, none, none, none]) := rfl
theorem sh_19 : SH[19]? = some (6, 15, [none, none, none, none, none, none, none, none, none, none, none, none, none, none, none]) := rfl
theorem sh_20 : SH[20]? = some (6, 15, [none, none, none, none, none, none, none, none, none, none, none, none, none, none, none]) := rfl
theorem sh_21 : SH[21]? = some (6, 15, [none, none, none, none, none, none, none, none, none, none, none, none, none, none, none]) := rfl
theorem sh_22 : SH[22]? = some (5, 4, [some 23, some 24, some 25, none]) := rfl
theorem sh_23 : SH[23]? = some (9, 5, []) := rfl
theorem sh_24 : SH[24]? = some (6, 15, [none, none, none, none, none, none, none, none, none, none, none, none, none, none, none]) := rfl
theorem sh_25 : SH[25]? = some (11, 14, [some 26, some 27, some 28, some 29, some 30, some 31, some 32, some 33, some 34, some 35, some 36, some 37, some 38, some 39]) := rfl
theorem sh_26 : SH[26]? = some (6, 15, [none, none, none, none, none, none, none, none, none, none, none, none, none, none, none]) := rfl
theorem sh_27 : SH[27]? = some (6, 15, [none, none, none, none, none, none, none, none, none, none, none, none, none, none, none]) := rfl
theorem sh_28 : SH[28]? = some (6, 15, [none, none, none, none, none, none, none, none, none, none, none, none, none, none, none]) := rfl
theorem sh_29 : SH[29]? = some (6, 15, [none, none, none, none, none, none, none, none, none, none, none, none, none, none, none]) := rfl
theorem sh_30 : SH[30]? = some (6, 15, [none, none, none, none, none, none, none, none, none, none, none, none, none, none, none]) := rfl
theorem sh_31 : SH[31]? = some (6, 15, [none, none, none, none, none, none, none, none, none, none, none, none, none, none, none]) := rfl
theorem sh_32 : SH[32]? = some (6, 15, [none, none, none, none, none, none, none, none, none, none, none, none, none, none, none]) := rfl
theorem sh_33 : SH[33]? = some (6, 15, [none, none, none, none, none, none, none, none, none, none, none, none, none, none, none]) := rfl
theorem sh_34 : SH[34]? = some (6, 15, [none, none, none, none, none, none, none, none, none, none, none, none, none, none, none]) := rfl
theorem sh_35 : SH[35]? = some (6, 15, [none, none, none, none, none, none, none, none, none, none, none, none, none, none, none]) := rfl
theorem sh_36 : SH[36]? = some (6, 15, [none, none, none, none, none, none, none, none, none, none, none, none, none, none, none]) := rfl
theorem sh_37 : SH[37]? = some (6, 15, [none, none, none, none, none, none, none, none, none, none, none, none, none, none, none]) := rfl
theorem sh_38 : SH[38]? = some (6, 15, [none, none, none, none, none, none, none, none, none, none, none, none, none, none, none]) := rfl
theorem sh_39 : SH[39]? = some (6, 15, [none, none, none, none, none, none, none, none, none, none, none, none, none, none, none]) := rfl
theorem sh_40 : SH[40]? = some (1, 5, [some 22, some 2, some 4, some 1, some 41]) := rfl
theorem sh_41 : SH[41]? = some (9, 6, []) := rfl
theorem sh_42 : SH[42]? = some (0, 9, [some 22, some 2, some 1, some 43, some 44, some 45, none, none, none]) := rfl
theorem sh_43 : SH[43]? = some (9, 7, []) := rfl
theorem sh_44 : SH[44]? = some (9, 7, []) := rfl
theorem sh_45 : SH[45]? = some (10, 7, []) := rfl
theorem sh_46 : SH[46]? = some (4, 3, [some 47, some 48, none]) := rfl
theorem sh_47 : SH[47]? = some (9, 8, []) := rfl
theorem sh_48 : SH[48]? = some (9, 8, []) := rfl
theorem sh_49 : SH[49]? = some (12, 4, [some 50, some 52, some 54, some 56]) := rfl
theorem sh_50 : SH[50]? = some (3, 4, [some 51, none, none, none]) := rfl
theorem sh_51 : SH[51]? = some (9, 60, []) := rfl
theorem sh_52 : SH[52]? = some (3, 4, [some 53, none, none, none]) := rfl
theorem sh_53 : SH[53]? = some (9, 60, []) := rfl
theorem sh_54 : SH[54]? = some (3, 4, [some 55, none, none, none]) := rfl
theorem sh_55 : SH[55]? = some (9, 60, []) := rfl
theorem sh_56 : SH[56]? = some (3, 4, [some 57, none, none, none]) := rfl
theorem sh_57 : SH[57]? = some (9, 60, []) := rfl
theorem sh_58 : SH[58]? = some (8, 30, [some 59, some 60, some 61, some 62, none, some 63, some 64, none, some 65, some 66, some 67, none, some 68, some 69, some 70, some 71, some 72, some 73, some 74, some 75, none, none, none, none, some 76, some 77, none, none, none, some 78]) := rfl
theorem sh_59 : SH[59]? = some (9, 4, []) := rfl
theorem sh_60 : SH[60]? = some (9, 4, []) := rfl
theorem sh_61 : SH[61]? = some (9, 240, []) := rfl
theorem sh_62 : SH[62]? = some (9, 60, []) := rfl
theorem sh_63 : SH[63]? = some (9, 120, []) := rfl
theorem sh_64 : SH[64]? = some (9, 2, []) := rfl
theorem sh_65 : SH[65]? = some (9, 2, []) := rfl
theorem sh_66 : SH[66]? = some (9, 64, []) := rfl
theorem sh_67 : SH[67]? = some (9, 6, []) := rfl
theorem sh_68 : SH[68]? = some (9, 14, []) := rfl
theorem sh_69 : SH[69]? = some (9, 14, []) := rfl
theorem sh_70 : SH[70]? = some (9, 14, []) := rfl
theorem sh_71 : SH[71]? = some (9, 14, []) := rfl
theorem sh_72 : SH[72]? = some (9, 14, []) := rfl
theorem sh_73 : SH[73]? = some (9, 14, []) := rfl
theorem sh_74 : SH[74]? = some (9, 14, []) := rfl
theorem sh_75 : SH[75]? = some (9, 14, []) := rfl
theorem sh_76 : SH[76]? = some (9, 6, []) := rfl
theorem sh_77 : SH[77]? = some (9, 7, []) := rfl
theorem sh_78 : SH[78]? = some (9, 16, []) := rfl
theorem SH_lt {r : Nat} {c : Nat × Nat × List (Option Nat)} (h : SH[r]? = some c) : r < 1000 := Nat.lt_of_lt_of_le (List.getElem?_eq_some_iff.mp h).1 (by decide)
def isScr (T : Nat) : Prop := T = 2 ∨ T = 4
def scN (T : Nat) : Nat := if T = 2 then 59 else 19
def isTel (T : Nat) : Prop := T = 6 ∨ T = 22
def teN (T : Nat) : Nat := if T = 6 then 12 else 14
def isShe (T : Nat) : Prop := T = 50 ∨ T = 52 ∨ T = 54 ∨ T = 56
def isTur (t : Nat) : Prop := SH[t]? = some (6, 15, [none, none, none, none, none, none, none, none, none, none, none, none, none, none, none])
theorem scr_sh {T : Nat} (h : isScr T) : SH[T]? = some (2, 4, [some (T + 1), none, none, none]) := by rcases h with rfl | rfl <;> rfl
theorem scr_ar {T : Nat} (h : isScr T) : SH[T + 1]? = some (9, scN T, []) := by rcases h with rfl | rfl <;> rfl
theorem tel_sh {T : Nat} (h : isTel T) : SH[T]? = some (5, 4, [some (T + 1), some (T + 2), some (T + 3), none]) := by rcases h with rfl | rfl <;> rfl
theorem tel_ru {T : Nat} (h : isTel T) : SH[T + 1]? = some (9, 5, []) := by rcases h with rfl | rfl <;> rfl
theorem tel_st {T : Nat} (h : isTel T) : isTur (T + 2) := by rcases h with rfl | rfl <;> rfl
theorem tel_ar {T : Nat} (h : isTel T) : SH[T + 3]? = some (11, teN T, (List.range (teN T)).map (fun p => some (T + 4 + p))) := by rcases h with rfl | rfl <;> rfl
theorem tel_at {T p : Nat} (hp : p < teN T) : ((List.range (teN T)).map (fun p => some (T + 4 + p))).getD p none = some (T + 4 + p) := by simp [List.getD_eq_getElem?_getD, hp]
theorem tel_tu {T p : Nat} (h : isTel T) (hp : p < teN T) : isTur (T + 4 + p) := by
  rcases h with rfl | rfl
  · exact (show ∀ p, p < 12 → SH[6 + 4 + p]? = some (6, 15, [none, none, none, none, none, none, none, none, none, none, none, none, none, none, none]) by decide) p hp
  · exact (show ∀ p, p < 14 → SH[22 + 4 + p]? = some (6, 15, [none, none, none, none, none, none, none, none, none, none, none, none, none, none, none]) by decide) p hp
theorem she_sh {T : Nat} (h : isShe T) : SH[T]? = some (3, 4, [some (T + 1), none, none, none]) := by rcases h with rfl | rfl | rfl | rfl <;> rfl
theorem she_ar {T : Nat} (h : isShe T) : SH[T + 1]? = some (9, 60, []) := by rcases h with rfl | rfl | rfl | rfl <;> rfl
theorem she_at {p : Nat} (hp : p < 4) : ([some 50, some 52, some 54, some 56] : List (Option Nat)).getD p none = some (50 + 2 * p) := by
  rcases (show p = 0 ∨ p = 1 ∨ p = 2 ∨ p = 3 by omega) with rfl | rfl | rfl | rfl <;> rfl
theorem she_is {p : Nat} (hp : p < 4) : isShe (50 + 2 * p) := by
  rcases (show p = 0 ∨ p = 1 ∨ p = 2 ∨ p = 3 by omega) with rfl | rfl | rfl | rfl <;> simp [isShe]
abbrev nn (i : Int32) : Nat := i.toNatClampNeg
theorem vp_lt {i : Int32} {n : Nat} (h : vp_in i n) : i.toNatClampNeg < n := Nat.not_le.mp fun q => h (Or.inr q)
def bI (b : Bool) : Int32 := if b then 1 else 0
def pI (Q : HP → Int32 → Prop) : Sh → HP → Option Value → Prop := fun sh I v => sh = SH ∧ ∃ r, v = some (.int r) ∧ Q I r
def pZ (Q : HP → Bool → Prop) : Sh → HP → Option Value → Prop := fun sh I v => sh = SH ∧ ∃ r, v = some (.int (bI r)) ∧ Q I r
def pJ (Q : HP → Int64 → Prop) : Sh → HP → Option Value → Prop := fun sh I v => sh = SH ∧ ∃ r, v = some (.long r) ∧ Q I r
def pA (Q : HP → Nat → Prop) : Sh → HP → Option Value → Prop := fun sh I v => sh = SH ∧ ∃ r, v = some (.ref r) ∧ Q I r
def pV (Q : HP → Prop) : Sh → HP → Option Value → Prop := fun sh I v => sh = SH ∧ v = none ∧ Q I
def RI (G : CX) (Y : YY) (As : List Value) (I : HP) (Q : HP → Int32 → Prop) : Prop := Ret G Y As SH I (pI Q)
def RZ (G : CX) (Y : YY) (As : List Value) (I : HP) (Q : HP → Bool → Prop) : Prop := Ret G Y As SH I (pZ Q)
def RJ (G : CX) (Y : YY) (As : List Value) (I : HP) (Q : HP → Int64 → Prop) : Prop := Ret G Y As SH I (pJ Q)
def RA (G : CX) (Y : YY) (As : List Value) (I : HP) (Q : HP → Nat → Prop) : Prop := Ret G Y As SH I (pA Q)
def RV (G : CX) (Y : YY) (As : List Value) (I : HP) (Q : HP → Prop) : Prop := Ret G Y As SH I (pV Q)
def GI (G : CX) (Y : YY) (pc : Nat) (L : List (Nat × Value)) (I : HP) (Q : HP → Int32 → Prop) : Prop := Go G Y pc L [] SH I 0 0 (pI Q)
def GZ (G : CX) (Y : YY) (pc : Nat) (L : List (Nat × Value)) (I : HP) (Q : HP → Bool → Prop) : Prop := Go G Y pc L [] SH I 0 0 (pZ Q)
def GJ (G : CX) (Y : YY) (pc : Nat) (L : List (Nat × Value)) (I : HP) (Q : HP → Int64 → Prop) : Prop := Go G Y pc L [] SH I 0 0 (pJ Q)
def GA (G : CX) (Y : YY) (pc : Nat) (L : List (Nat × Value)) (I : HP) (Q : HP → Nat → Prop) : Prop := Go G Y pc L [] SH I 0 0 (pA Q)
def GV (G : CX) (Y : YY) (pc : Nat) (L : List (Nat × Value)) (I : HP) (Q : HP → Prop) : Prop := Go G Y pc L [] SH I 0 0 (pV Q)
theorem go_loc {G : CX} {Y : YY} {pc : Nat} {L : List (Nat × Value)} {S : List Value} {sh : Sh} {I : HP} {k n : Nat} {Q : Sh → HP → Option Value → Prop} (L2 : List (Nat × Value)) (ks : List Nat) (hl2 : lv_pick L ks = L2) (kk : Go G Y pc L2 S sh I k n Q) : Go G Y pc L S sh I k n Q := by
  intro p l e R s m args below meth c H locs ls C hP hz hS hl
  refine kk p l e R s m args below meth c H locs ls C hP hz hS (lv_sub hl ks ?_)
  subst hl2
  simp only [lv_pick, lM, List.getElem?_map, List.map_filterMap]
theorem bI_nar (b : Bool) : narrow .boolean (.int (bI b)) = .int (bI b) := by cases b <;> rfl
theorem sw_out {x : Int32} {n : Nat} (hn : n ≤ 1000) (h : ∀ j, j < n → x ≠ nI j) : x.toInt < 0 ∨ ((n : Int) - 1) < x.toInt := by
  by_cases h0 : x.toInt < 0
  · exact Or.inl h0
  · refine Or.inr ?_
    by_cases h1 : ((n : Int) - 1) < x.toInt
    · exact h1
    · exfalso
      refine h x.toInt.toNat (by omega) (Int32.toInt_inj.mp ?_)
      rw [nI_toInt (by omega)]
      omega
theorem wG_at {w : Cond} (i : Nat) (h : lw_tbl[i]? = some w) (hg : goodWord w = true) : w ∈ wG := wG_in (List.mem_of_getElem? h) hg
set_option maxRecDepth 100000 in
theorem a_0 : Cond.selects "MayNotPause" (⟨"MayNotPause", "scriptOf", "(I)LMayNotPause$Script;"⟩ : MethodName) (⟨"MayNotPause", "scriptOf", "(I)LMayNotPause$Script;"⟩ : MethodName) ∈ wG := wG_at 0 rfl rfl
set_option maxRecDepth 100000 in
theorem a_1 : Cond.selects "MayNotPause$Script" (⟨"MayNotPause$Script", "settle", "()V"⟩ : MethodName) (⟨"MayNotPause$Script", "settle", "()V"⟩ : MethodName) ∈ wG := wG_at 1 rfl rfl
set_option maxRecDepth 100000 in
theorem a_2 : Cond.selects "MayNotPause$Script" (⟨"MayNotPause$Script", "firstFlaw", "()I"⟩ : MethodName) (⟨"MayNotPause$Script", "firstFlaw", "()I"⟩ : MethodName) ∈ wG := wG_at 2 rfl rfl
set_option maxRecDepth 100000 in
theorem a_3 : Cond.selects "MayNotPause" (⟨"MayNotPause", "tellAnew", "()V"⟩ : MethodName) (⟨"MayNotPause", "tellAnew", "()V"⟩ : MethodName) ∈ wG := wG_at 3 rfl rfl
set_option maxRecDepth 100000 in
theorem a_4 : Cond.selects "MayNotPause$Turn" (⟨"MayNotPause$Turn", "comeToNothing", "()V"⟩ : MethodName) (⟨"MayNotPause$Turn", "comeToNothing", "()V"⟩ : MethodName) ∈ wG := wG_at 4 rfl rfl
set_option maxRecDepth 100000 in
theorem a_5 : Cond.selects "MayNotPause$Telling" (⟨"MayNotPause$Telling", "howManyOf", "(I)I"⟩ : MethodName) (⟨"MayNotPause$Telling", "howManyOf", "(I)I"⟩ : MethodName) ∈ wG := wG_at 5 rfl rfl
set_option maxRecDepth 100000 in
theorem a_6 : Cond.selects "MayNotPause" (⟨"MayNotPause", "isVerse", "(I)Z"⟩ : MethodName) (⟨"MayNotPause", "isVerse", "(I)Z"⟩ : MethodName) ∈ wG := wG_at 6 rfl rfl
set_option maxRecDepth 100000 in
theorem a_7 : Cond.selects "MayNotPause$PutSearch" (⟨"MayNotPause$PutSearch", "attempt", "(IIIII)V"⟩ : MethodName) (⟨"MayNotPause$PutSearch", "attempt", "(IIIII)V"⟩ : MethodName) ∈ wG := wG_at 7 rfl rfl
set_option maxRecDepth 100000 in
theorem a_8 : Cond.selects "MayNotPause$PutSearch" (⟨"MayNotPause$PutSearch", "seekOne", "()V"⟩ : MethodName) (⟨"MayNotPause$PutSearch", "seekOne", "()V"⟩ : MethodName) ∈ wG := wG_at 8 rfl rfl
set_option maxRecDepth 100000 in
theorem a_9 : Cond.selects "MayNotPause$PutSearch" (⟨"MayNotPause$PutSearch", "seekTwo", "()V"⟩ : MethodName) (⟨"MayNotPause$PutSearch", "seekTwo", "()V"⟩ : MethodName) ∈ wG := wG_at 9 rfl rfl
set_option maxRecDepth 100000 in
theorem a_10 : Cond.selects "MayNotPause$OrderSearch" (⟨"MayNotPause$OrderSearch", "keep", "()V"⟩ : MethodName) (⟨"MayNotPause$OrderSearch", "keep", "()V"⟩ : MethodName) ∈ wG := wG_at 10 rfl rfl
set_option maxRecDepth 100000 in
theorem a_11 : Cond.selects "MayNotPause$OrderSearch" (⟨"MayNotPause$OrderSearch", "mayBeBest", "()Z"⟩ : MethodName) (⟨"MayNotPause$OrderSearch", "mayBeBest", "()Z"⟩ : MethodName) ∈ wG := wG_at 11 rfl rfl
set_option maxRecDepth 100000 in
theorem a_12 : Cond.selects "MayNotPause" (⟨"MayNotPause", "sixteenths", "(I)I"⟩ : MethodName) (⟨"MayNotPause", "sixteenths", "(I)I"⟩ : MethodName) ∈ wG := wG_at 12 rfl rfl
set_option maxRecDepth 100000 in
theorem a_13 : Cond.selects "MayNotPause" (⟨"MayNotPause", "errorsBy", "(II)I"⟩ : MethodName) (⟨"MayNotPause", "errorsBy", "(II)I"⟩ : MethodName) ∈ wG := wG_at 13 rfl rfl
set_option maxRecDepth 100000 in
theorem a_14 : Cond.selects "MayNotPause" (⟨"MayNotPause", "bestLine", "()I"⟩ : MethodName) (⟨"MayNotPause", "bestLine", "()I"⟩ : MethodName) ∈ wG := wG_at 14 rfl rfl
set_option maxRecDepth 100000 in
theorem a_15 : Cond.selects "MayNotPause" (⟨"MayNotPause", "found", "(I)I"⟩ : MethodName) (⟨"MayNotPause", "found", "(I)I"⟩ : MethodName) ∈ wG := wG_at 15 rfl rfl
set_option maxRecDepth 100000 in
theorem a_16 : Cond.selects "MayNotPause" (⟨"MayNotPause", "digestOfVerse", "(JI)J"⟩ : MethodName) (⟨"MayNotPause", "digestOfVerse", "(JI)J"⟩ : MethodName) ∈ wG := wG_at 16 rfl rfl
set_option maxRecDepth 100000 in
theorem a_17 : Cond.selects "MayNotPause" (⟨"MayNotPause", "digestOfBreaths", "(J)J"⟩ : MethodName) (⟨"MayNotPause", "digestOfBreaths", "(J)J"⟩ : MethodName) ∈ wG := wG_at 17 rfl rfl
set_option maxRecDepth 100000 in
theorem a_18 : Cond.selects "MayNotPauseModel" (⟨"MayNotPauseModel", "met", "(I)I"⟩ : MethodName) (⟨"MayNotPauseModel", "met", "(I)I"⟩ : MethodName) ∈ wG := wG_at 18 rfl rfl
set_option maxRecDepth 100000 in
theorem a_19 : Cond.selects "MayNotPauseModel" (⟨"MayNotPauseModel", "lacks", "(III)I"⟩ : MethodName) (⟨"MayNotPauseModel", "lacks", "(III)I"⟩ : MethodName) ∈ wG := wG_at 19 rfl rfl
set_option maxRecDepth 100000 in
theorem a_20 : Cond.selects "MayNotPauseModel" (⟨"MayNotPauseModel", "readsText", "(I)I"⟩ : MethodName) (⟨"MayNotPauseModel", "readsText", "(I)I"⟩ : MethodName) ∈ wG := wG_at 20 rfl rfl
set_option maxRecDepth 100000 in
theorem a_21 : Cond.selects "MayNotPauseModel" (⟨"MayNotPauseModel", "readsVerse", "(I)Z"⟩ : MethodName) (⟨"MayNotPauseModel", "readsVerse", "(I)Z"⟩ : MethodName) ∈ wG := wG_at 21 rfl rfl
set_option maxRecDepth 100000 in
theorem a_22 : Cond.selects "MayNotPauseModel" (⟨"MayNotPauseModel", "here", "(I)I"⟩ : MethodName) (⟨"MayNotPauseModel", "here", "(I)I"⟩ : MethodName) ∈ wG := wG_at 22 rfl rfl
set_option maxRecDepth 100000 in
theorem a_23 : Cond.selects "MayNotPauseModel" (⟨"MayNotPauseModel", "find", "()V"⟩ : MethodName) (⟨"MayNotPauseModel", "find", "()V"⟩ : MethodName) ∈ wG := wG_at 23 rfl rfl
set_option maxRecDepth 100000 in
theorem a_24 : Cond.selects "MayNotPauseModel" (⟨"MayNotPauseModel", "plain", "()V"⟩ : MethodName) (⟨"MayNotPauseModel", "plain", "()V"⟩ : MethodName) ∈ wG := wG_at 24 rfl rfl
set_option maxRecDepth 100000 in
theorem a_25 : Cond.selects "MayNotPauseModel" (⟨"MayNotPauseModel", "says", "(III)V"⟩ : MethodName) (⟨"MayNotPauseModel", "says", "(III)V"⟩ : MethodName) ∈ wG := wG_at 25 rfl rfl
set_option maxRecDepth 100000 in
theorem a_26 : Cond.selects "MayNotPauseModel" (⟨"MayNotPauseModel", "counts", "()V"⟩ : MethodName) (⟨"MayNotPauseModel", "counts", "()V"⟩ : MethodName) ∈ wG := wG_at 26 rfl rfl
set_option maxRecDepth 100000 in
theorem a_27 : Cond.selects "MayNotPauseModel" (⟨"MayNotPauseModel", "kindAt", "(I)I"⟩ : MethodName) (⟨"MayNotPauseModel", "kindAt", "(I)I"⟩ : MethodName) ∈ wG := wG_at 27 rfl rfl
set_option maxRecDepth 100000 in
theorem a_28 : Cond.selects "MayNotPauseModel" (⟨"MayNotPauseModel", "sayAt", "(I)I"⟩ : MethodName) (⟨"MayNotPauseModel", "sayAt", "(I)I"⟩ : MethodName) ∈ wG := wG_at 28 rfl rfl
set_option maxRecDepth 100000 in
theorem a_29 : Cond.selects "MayNotPauseModel" (⟨"MayNotPauseModel", "isVerse", "(I)Z"⟩ : MethodName) (⟨"MayNotPauseModel", "isVerse", "(I)Z"⟩ : MethodName) ∈ wG := wG_at 29 rfl rfl
set_option maxRecDepth 100000 in
theorem a_30 : Cond.selects "MayNotPauseModel" (⟨"MayNotPauseModel", "verseOf", "(II)I"⟩ : MethodName) (⟨"MayNotPauseModel", "verseOf", "(II)I"⟩ : MethodName) ∈ wG := wG_at 30 rfl rfl
set_option maxRecDepth 100000 in
theorem a_31 : Cond.selects "MayNotPauseModel" (⟨"MayNotPauseModel", "whenOf", "(II)I"⟩ : MethodName) (⟨"MayNotPauseModel", "whenOf", "(II)I"⟩ : MethodName) ∈ wG := wG_at 31 rfl rfl
set_option maxRecDepth 100000 in
theorem a_32 : Cond.selects "MayNotPauseModel" (⟨"MayNotPauseModel", "poemOf", "(I)I"⟩ : MethodName) (⟨"MayNotPauseModel", "poemOf", "(I)I"⟩ : MethodName) ∈ wG := wG_at 32 rfl rfl
set_option maxRecDepth 100000 in
theorem a_33 : Cond.selects "MayNotPauseModel" (⟨"MayNotPauseModel", "judgedNow", "()I"⟩ : MethodName) (⟨"MayNotPauseModel", "judgedNow", "()I"⟩ : MethodName) ∈ wG := wG_at 33 rfl rfl
set_option maxRecDepth 100000 in
theorem a_34 : Cond.selects "MayNotPauseModel" (⟨"MayNotPauseModel", "restOf", "(I)I"⟩ : MethodName) (⟨"MayNotPauseModel", "restOf", "(I)I"⟩ : MethodName) ∈ wG := wG_at 34 rfl rfl
set_option maxRecDepth 100000 in
theorem a_35 : Cond.selects "MayNotPauseModel" (⟨"MayNotPauseModel", "freeAhead", "(II)I"⟩ : MethodName) (⟨"MayNotPauseModel", "freeAhead", "(II)I"⟩ : MethodName) ∈ wG := wG_at 35 rfl rfl
set_option maxRecDepth 100000 in
theorem a_36 : Cond.selects "MayNotPauseModel" (⟨"MayNotPauseModel", "isFree", "(I)Z"⟩ : MethodName) (⟨"MayNotPauseModel", "isFree", "(I)Z"⟩ : MethodName) ∈ wG := wG_at 36 rfl rfl
set_option maxRecDepth 100000 in
theorem a_37 : Cond.selects "MayNotPauseModel" (⟨"MayNotPauseModel", "doingOf", "(II)I"⟩ : MethodName) (⟨"MayNotPauseModel", "doingOf", "(II)I"⟩ : MethodName) ∈ wG := wG_at 37 rfl rfl
set_option maxRecDepth 100000 in
theorem a_38 : Cond.selects "MayNotPauseModel" (⟨"MayNotPauseModel", "saysIn", "(I)I"⟩ : MethodName) (⟨"MayNotPauseModel", "saysIn", "(I)I"⟩ : MethodName) ∈ wG := wG_at 38 rfl rfl
set_option maxRecDepth 100000 in
theorem a_39 : Cond.selects "MayNotPauseModel" (⟨"MayNotPauseModel", "makesIn", "(II)I"⟩ : MethodName) (⟨"MayNotPauseModel", "makesIn", "(II)I"⟩ : MethodName) ∈ wG := wG_at 39 rfl rfl
set_option maxRecDepth 100000 in
theorem a_40 : Cond.selects "MayNotPauseModel" (⟨"MayNotPauseModel", "hasIn", "(I)I"⟩ : MethodName) (⟨"MayNotPauseModel", "hasIn", "(I)I"⟩ : MethodName) ∈ wG := wG_at 40 rfl rfl
set_option maxRecDepth 100000 in
theorem a_41 : Cond.selects "MayNotPauseModel" (⟨"MayNotPauseModel", "findPut", "()V"⟩ : MethodName) (⟨"MayNotPauseModel", "findPut", "()V"⟩ : MethodName) ∈ wG := wG_at 41 rfl rfl
set_option maxRecDepth 100000 in
theorem a_42 : Cond.selects "MayNotPauseModel" (⟨"MayNotPauseModel", "looks", "(IIIII)V"⟩ : MethodName) (⟨"MayNotPauseModel", "looks", "(IIIII)V"⟩ : MethodName) ∈ wG := wG_at 42 rfl rfl
set_option maxRecDepth 100000 in
theorem a_43 : Cond.selects "MayNotPauseModel" (⟨"MayNotPauseModel", "lays", "(IIII)V"⟩ : MethodName) (⟨"MayNotPauseModel", "lays", "(IIII)V"⟩ : MethodName) ∈ wG := wG_at 43 rfl rfl
set_option maxRecDepth 100000 in
theorem a_44 : Cond.selects "MayNotPauseModel" (⟨"MayNotPauseModel", "findOrder", "()V"⟩ : MethodName) (⟨"MayNotPauseModel", "findOrder", "()V"⟩ : MethodName) ∈ wG := wG_at 44 rfl rfl
set_option maxRecDepth 100000 in
theorem a_45 : Cond.selects "MayNotPauseModel" (⟨"MayNotPauseModel", "unfolds", "(II)V"⟩ : MethodName) (⟨"MayNotPauseModel", "unfolds", "(II)V"⟩ : MethodName) ∈ wG := wG_at 45 rfl rfl
set_option maxRecDepth 100000 in
theorem a_46 : Cond.selects "MayNotPauseModel" (⟨"MayNotPauseModel", "tellsOrder", "(I)I"⟩ : MethodName) (⟨"MayNotPauseModel", "tellsOrder", "(I)I"⟩ : MethodName) ∈ wG := wG_at 46 rfl rfl
set_option maxRecDepth 100000 in
theorem a_47 : Cond.selects "MayNotPauseModel" (⟨"MayNotPauseModel", "leadNow", "()I"⟩ : MethodName) (⟨"MayNotPauseModel", "leadNow", "()I"⟩ : MethodName) ∈ wG := wG_at 47 rfl rfl
set_option maxRecDepth 100000 in
theorem a_48 : Cond.selects "MayNotPauseModel" (⟨"MayNotPauseModel", "oddsOf", "(I)J"⟩ : MethodName) (⟨"MayNotPauseModel", "oddsOf", "(I)J"⟩ : MethodName) ∈ wG := wG_at 48 rfl rfl
set_option maxRecDepth 100000 in
theorem a_49 : Cond.selects "MayNotPauseModel" (⟨"MayNotPauseModel", "drawnOf", "(I)I"⟩ : MethodName) (⟨"MayNotPauseModel", "drawnOf", "(I)I"⟩ : MethodName) ∈ wG := wG_at 49 rfl rfl
set_option maxRecDepth 100000 in
theorem a_50 : Cond.selects "MayNotPauseModel" (⟨"MayNotPauseModel", "lineOf", "(II)I"⟩ : MethodName) (⟨"MayNotPauseModel", "lineOf", "(II)I"⟩ : MethodName) ∈ wG := wG_at 50 rfl rfl
set_option maxRecDepth 100000 in
theorem a_51 : Cond.selects "MayNotPauseModel" (⟨"MayNotPauseModel", "errors", "(II)I"⟩ : MethodName) (⟨"MayNotPauseModel", "errors", "(II)I"⟩ : MethodName) ∈ wG := wG_at 51 rfl rfl
set_option maxRecDepth 100000 in
theorem a_52 : Cond.selects "MayNotPauseModel" (⟨"MayNotPauseModel", "leadsNow", "()I"⟩ : MethodName) (⟨"MayNotPauseModel", "leadsNow", "()I"⟩ : MethodName) ∈ wG := wG_at 52 rfl rfl
set_option maxRecDepth 100000 in
theorem a_54 : Cond.initialized "MayNotPause" ∈ wG := wG_at 54 rfl rfl
set_option maxRecDepth 100000 in
theorem a_55 : Cond.initialized "MayNotPause$Script" ∈ wG := wG_at 55 rfl rfl
set_option maxRecDepth 100000 in
theorem a_56 : Cond.initialized "MayNotPause$Telling" ∈ wG := wG_at 56 rfl rfl
set_option maxRecDepth 100000 in
theorem a_57 : Cond.initialized "MayNotPause$Turn" ∈ wG := wG_at 57 rfl rfl
set_option maxRecDepth 100000 in
theorem a_58 : Cond.initialized "MayNotPause$PutSearch" ∈ wG := wG_at 58 rfl rfl
set_option maxRecDepth 100000 in
theorem a_59 : Cond.initialized "MayNotPause$OrderSearch" ∈ wG := wG_at 59 rfl rfl
set_option maxRecDepth 100000 in
theorem a_60 : Cond.initialized "MayNotPause$Sightings" ∈ wG := wG_at 60 rfl rfl
set_option maxRecDepth 100000 in
theorem a_61 : Cond.initialized "MayNotPause$Sheet" ∈ wG := wG_at 61 rfl rfl
set_option maxRecDepth 100000 in
theorem a_62 : Cond.initialized "MayNotPauseModel" ∈ wG := wG_at 62 rfl rfl
set_option maxRecDepth 100000 in
theorem a_65 : Cond.initialized "java/lang/Integer" ∈ wG := wG_at 65 rfl rfl
set_option maxRecDepth 100000 in
theorem a_68 : Cond.methodLink "MayNotPauseLaw" 9 (⟨"MayNotPause", "<init>", "()V"⟩ : MethodName) ∈ wG := wG_at 68 rfl rfl
set_option maxRecDepth 100000 in
theorem a_69 : Cond.instanceMethod (⟨"MayNotPause", "<init>", "()V"⟩ : MethodName) ∈ wG := wG_at 69 rfl rfl
set_option maxRecDepth 100000 in
theorem a_70 : Cond.code (⟨"MayNotPause", "<init>", "()V"⟩ : MethodName) cX7_init 2 none ∈ wG := wG_at 70 rfl rfl
set_option maxRecDepth 100000 in
theorem a_71 : Cond.methodLink "MayNotPause" 1 (⟨"java/lang/Object", "<init>", "()V"⟩ : MethodName) ∈ wG := wG_at 71 rfl rfl
set_option maxRecDepth 100000 in
theorem a_76 : Cond.methodLink "MayNotPause" 15 (⟨"MayNotPause$Script", "<init>", "(I)V"⟩ : MethodName) ∈ wG := wG_at 76 rfl rfl
set_option maxRecDepth 100000 in
theorem a_77 : Cond.instanceMethod (⟨"MayNotPause$Script", "<init>", "(I)V"⟩ : MethodName) ∈ wG := wG_at 77 rfl rfl
set_option maxRecDepth 100000 in
theorem a_78 : Cond.code (⟨"MayNotPause$Script", "<init>", "(I)V"⟩ : MethodName) cX2_init 2 none ∈ wG := wG_at 78 rfl rfl
set_option maxRecDepth 100000 in
theorem a_79 : Cond.methodLink "MayNotPause$Script" 3 (⟨"java/lang/Object", "<init>", "()V"⟩ : MethodName) ∈ wG := wG_at 79 rfl rfl
set_option maxRecDepth 100000 in
theorem a_80 : Cond.fieldLink "MayNotPause$Script" 15 "MayNotPause$Script" "bytes" "[I" ∈ wG := wG_at 80 rfl rfl
set_option maxRecDepth 100000 in
theorem a_81 : Cond.fieldLink "MayNotPause$Script" 19 "MayNotPause$Script" "length" "I" ∈ wG := wG_at 81 rfl rfl
set_option maxRecDepth 100000 in
theorem a_82 : Cond.fieldLink "MayNotPause" 85 "MayNotPause$Script" "length" "I" ∈ wG := wG_at 82 rfl rfl
set_option maxRecDepth 100000 in
theorem a_83 : Cond.fieldLink "MayNotPause$Script" 9 "MayNotPause$Script" "flaw" "I" ∈ wG := wG_at 83 rfl rfl
set_option maxRecDepth 100000 in
theorem a_84 : Cond.fieldLink "MayNotPause" 98 "MayNotPause$Script" "flaw" "I" ∈ wG := wG_at 84 rfl rfl
set_option maxRecDepth 100000 in
theorem a_85 : Cond.fieldLink "MayNotPause$OrderSearch" 33 "MayNotPause$Script" "size" "I" ∈ wG := wG_at 85 rfl rfl
set_option maxRecDepth 100000 in
theorem a_86 : Cond.fieldLink "MayNotPause$PutSearch" 39 "MayNotPause$Script" "size" "I" ∈ wG := wG_at 86 rfl rfl
set_option maxRecDepth 100000 in
theorem a_87 : Cond.fieldLink "MayNotPause" 92 "MayNotPause$Script" "size" "I" ∈ wG := wG_at 87 rfl rfl
set_option maxRecDepth 100000 in
theorem a_88 : Cond.fieldLink "MayNotPause$Script" 29 "MayNotPause$Script" "size" "I" ∈ wG := wG_at 88 rfl rfl
set_option maxRecDepth 100000 in
theorem a_89 : Cond.fieldLink "MayNotPause$Telling" 34 "MayNotPause$Script" "size" "I" ∈ wG := wG_at 89 rfl rfl
set_option maxRecDepth 100000 in
theorem a_102 : Cond.methodLink "MayNotPause" 27 (⟨"MayNotPause$Telling", "<init>", "(I)V"⟩ : MethodName) ∈ wG := wG_at 102 rfl rfl
set_option maxRecDepth 100000 in
theorem a_103 : Cond.instanceMethod (⟨"MayNotPause$Telling", "<init>", "(I)V"⟩ : MethodName) ∈ wG := wG_at 103 rfl rfl
set_option maxRecDepth 100000 in
theorem a_104 : Cond.code (⟨"MayNotPause$Telling", "<init>", "(I)V"⟩ : MethodName) cX5_init 3 none ∈ wG := wG_at 104 rfl rfl
set_option maxRecDepth 100000 in
theorem a_105 : Cond.methodLink "MayNotPause$Telling" 3 (⟨"java/lang/Object", "<init>", "()V"⟩ : MethodName) ∈ wG := wG_at 105 rfl rfl
set_option maxRecDepth 100000 in
theorem a_109 : Cond.instanceMethod (⟨"MayNotPause$Turn", "<init>", "()V"⟩ : MethodName) ∈ wG := wG_at 109 rfl rfl
set_option maxRecDepth 100000 in
theorem a_110 : Cond.code (⟨"MayNotPause$Turn", "<init>", "()V"⟩ : MethodName) cX6_init 1 none ∈ wG := wG_at 110 rfl rfl
set_option maxRecDepth 100000 in
theorem a_111 : Cond.methodLink "MayNotPause$Turn" 3 (⟨"java/lang/Object", "<init>", "()V"⟩ : MethodName) ∈ wG := wG_at 111 rfl rfl
set_option maxRecDepth 100000 in
theorem a_112 : Cond.fieldLink "MayNotPause$Turn" 60 "MayNotPause$Turn" "kind" "I" ∈ wG := wG_at 112 rfl rfl
set_option maxRecDepth 100000 in
theorem a_113 : Cond.fieldLink "MayNotPause$Telling" 45 "MayNotPause$Turn" "kind" "I" ∈ wG := wG_at 113 rfl rfl
set_option maxRecDepth 100000 in
theorem a_114 : Cond.fieldLink "MayNotPause" 118 "MayNotPause$Turn" "kind" "I" ∈ wG := wG_at 114 rfl rfl
set_option maxRecDepth 100000 in
theorem a_115 : Cond.fieldLink "MayNotPause$Turn" 24 "MayNotPause$Turn" "make" "I" ∈ wG := wG_at 115 rfl rfl
set_option maxRecDepth 100000 in
theorem a_116 : Cond.fieldLink "MayNotPause$Telling" 58 "MayNotPause$Turn" "make" "I" ∈ wG := wG_at 116 rfl rfl
set_option maxRecDepth 100000 in
theorem a_117 : Cond.fieldLink "MayNotPause" 123 "MayNotPause$Turn" "make" "I" ∈ wG := wG_at 117 rfl rfl
set_option maxRecDepth 100000 in
theorem a_118 : Cond.fieldLink "MayNotPause$Turn" 57 "MayNotPause$Turn" "say" "I" ∈ wG := wG_at 118 rfl rfl
set_option maxRecDepth 100000 in
theorem a_119 : Cond.fieldLink "MayNotPause$Telling" 52 "MayNotPause$Turn" "say" "I" ∈ wG := wG_at 119 rfl rfl
set_option maxRecDepth 100000 in
theorem a_120 : Cond.fieldLink "MayNotPause$Turn" 63 "MayNotPause$Turn" "knot" "I" ∈ wG := wG_at 120 rfl rfl
set_option maxRecDepth 100000 in
theorem a_121 : Cond.fieldLink "MayNotPause$Telling" 66 "MayNotPause$Turn" "knot" "I" ∈ wG := wG_at 121 rfl rfl
set_option maxRecDepth 100000 in
theorem a_122 : Cond.fieldLink "MayNotPause" 126 "MayNotPause$Turn" "knot" "I" ∈ wG := wG_at 122 rfl rfl
set_option maxRecDepth 100000 in
theorem a_123 : Cond.fieldLink "MayNotPause$Turn" 36 "MayNotPause$Turn" "begins" "I" ∈ wG := wG_at 123 rfl rfl
set_option maxRecDepth 100000 in
theorem a_124 : Cond.fieldLink "MayNotPause" 129 "MayNotPause$Turn" "begins" "I" ∈ wG := wG_at 124 rfl rfl
set_option maxRecDepth 100000 in
theorem a_125 : Cond.fieldLink "MayNotPause$Telling" 108 "MayNotPause$Turn" "begins" "I" ∈ wG := wG_at 125 rfl rfl
set_option maxRecDepth 100000 in
theorem a_126 : Cond.fieldLink "MayNotPause$Turn" 39 "MayNotPause$Turn" "said" "I" ∈ wG := wG_at 126 rfl rfl
set_option maxRecDepth 100000 in
theorem a_127 : Cond.fieldLink "MayNotPause" 132 "MayNotPause$Turn" "said" "I" ∈ wG := wG_at 127 rfl rfl
set_option maxRecDepth 100000 in
theorem a_128 : Cond.fieldLink "MayNotPause$Telling" 111 "MayNotPause$Turn" "said" "I" ∈ wG := wG_at 128 rfl rfl
set_option maxRecDepth 100000 in
theorem a_129 : Cond.fieldLink "MayNotPause$Turn" 42 "MayNotPause$Turn" "understood" "I" ∈ wG := wG_at 129 rfl rfl
set_option maxRecDepth 100000 in
theorem a_130 : Cond.fieldLink "MayNotPause" 135 "MayNotPause$Turn" "understood" "I" ∈ wG := wG_at 130 rfl rfl
set_option maxRecDepth 100000 in
theorem a_131 : Cond.fieldLink "MayNotPause$Telling" 114 "MayNotPause$Turn" "understood" "I" ∈ wG := wG_at 131 rfl rfl
set_option maxRecDepth 100000 in
theorem a_132 : Cond.fieldLink "MayNotPause$Turn" 14 "MayNotPause$Turn" "written" "I" ∈ wG := wG_at 132 rfl rfl
set_option maxRecDepth 100000 in
theorem a_133 : Cond.fieldLink "MayNotPause$OrderSearch" 89 "MayNotPause$Turn" "written" "I" ∈ wG := wG_at 133 rfl rfl
set_option maxRecDepth 100000 in
theorem a_134 : Cond.fieldLink "MayNotPause$PutSearch" 63 "MayNotPause$Turn" "written" "I" ∈ wG := wG_at 134 rfl rfl
set_option maxRecDepth 100000 in
theorem a_135 : Cond.fieldLink "MayNotPause$Telling" 83 "MayNotPause$Turn" "written" "I" ∈ wG := wG_at 135 rfl rfl
set_option maxRecDepth 100000 in
theorem a_136 : Cond.fieldLink "MayNotPause" 138 "MayNotPause$Turn" "written" "I" ∈ wG := wG_at 136 rfl rfl
set_option maxRecDepth 100000 in
theorem a_137 : Cond.fieldLink "MayNotPause$Turn" 45 "MayNotPause$Turn" "pause" "I" ∈ wG := wG_at 137 rfl rfl
set_option maxRecDepth 100000 in
theorem a_138 : Cond.fieldLink "MayNotPause" 141 "MayNotPause$Turn" "pause" "I" ∈ wG := wG_at 138 rfl rfl
set_option maxRecDepth 100000 in
theorem a_139 : Cond.fieldLink "MayNotPause$Turn" 21 "MayNotPause$Turn" "needed" "I" ∈ wG := wG_at 139 rfl rfl
set_option maxRecDepth 100000 in
theorem a_140 : Cond.fieldLink "MayNotPause$Telling" 77 "MayNotPause$Turn" "needed" "I" ∈ wG := wG_at 140 rfl rfl
set_option maxRecDepth 100000 in
theorem a_141 : Cond.fieldLink "MayNotPause" 289 "MayNotPause$Turn" "needed" "I" ∈ wG := wG_at 141 rfl rfl
set_option maxRecDepth 100000 in
theorem a_142 : Cond.fieldLink "MayNotPause$Turn" 27 "MayNotPause$Turn" "allPauses" "I" ∈ wG := wG_at 142 rfl rfl
set_option maxRecDepth 100000 in
theorem a_143 : Cond.fieldLink "MayNotPause$OrderSearch" 84 "MayNotPause$Turn" "allPauses" "I" ∈ wG := wG_at 143 rfl rfl
set_option maxRecDepth 100000 in
theorem a_144 : Cond.fieldLink "MayNotPause" 155 "MayNotPause$Turn" "allPauses" "I" ∈ wG := wG_at 144 rfl rfl
set_option maxRecDepth 100000 in
theorem a_145 : Cond.fieldLink "MayNotPause$Telling" 97 "MayNotPause$Turn" "allPauses" "I" ∈ wG := wG_at 145 rfl rfl
set_option maxRecDepth 100000 in
theorem a_146 : Cond.fieldLink "MayNotPause$Turn" 30 "MayNotPause$Turn" "penUsed" "I" ∈ wG := wG_at 146 rfl rfl
set_option maxRecDepth 100000 in
theorem a_147 : Cond.fieldLink "MayNotPause$Turn" 33 "MayNotPause$Turn" "pensTaken" "I" ∈ wG := wG_at 147 rfl rfl
set_option maxRecDepth 100000 in
theorem a_148 : Cond.fieldLink "MayNotPause" 158 "MayNotPause$Turn" "pensTaken" "I" ∈ wG := wG_at 148 rfl rfl
set_option maxRecDepth 100000 in
theorem a_149 : Cond.fieldLink "MayNotPause$Turn" 18 "MayNotPause$Turn" "could" "I" ∈ wG := wG_at 149 rfl rfl
set_option maxRecDepth 100000 in
theorem a_150 : Cond.fieldLink "MayNotPause$Telling" 80 "MayNotPause$Turn" "could" "I" ∈ wG := wG_at 150 rfl rfl
set_option maxRecDepth 100000 in
theorem a_151 : Cond.fieldLink "MayNotPause$Turn" 54 "MayNotPause$Turn" "spare" "I" ∈ wG := wG_at 151 rfl rfl
set_option maxRecDepth 100000 in
theorem a_152 : Cond.fieldLink "MayNotPause" 161 "MayNotPause$Turn" "spare" "I" ∈ wG := wG_at 152 rfl rfl
set_option maxRecDepth 100000 in
theorem a_185 : Cond.fieldLink "MayNotPause$Telling" 9 "MayNotPause$Telling" "rules" "[I" ∈ wG := wG_at 185 rfl rfl
set_option maxRecDepth 100000 in
theorem a_186 : Cond.fieldLink "MayNotPause$Telling" 18 "MayNotPause$Telling" "start" "LMayNotPause$Turn;" ∈ wG := wG_at 186 rfl rfl
set_option maxRecDepth 100000 in
theorem a_187 : Cond.fieldLink "MayNotPause$Telling" 22 "MayNotPause$Telling" "turns" "[LMayNotPause$Turn;" ∈ wG := wG_at 187 rfl rfl
set_option maxRecDepth 100000 in
theorem a_188 : Cond.fieldLink "MayNotPause$Telling" 26 "MayNotPause$Telling" "size" "I" ∈ wG := wG_at 188 rfl rfl
set_option maxRecDepth 100000 in
theorem a_200 : Cond.methodLink "MayNotPause" 37 (⟨"MayNotPause$PutSearch", "<init>", "(LMayNotPause$Telling;LMayNotPause$Script;LMayNotPause$Script;[I)V"⟩ : MethodName) ∈ wG := wG_at 200 rfl rfl
set_option maxRecDepth 100000 in
theorem a_201 : Cond.instanceMethod (⟨"MayNotPause$PutSearch", "<init>", "(LMayNotPause$Telling;LMayNotPause$Script;LMayNotPause$Script;[I)V"⟩ : MethodName) ∈ wG := wG_at 201 rfl rfl
set_option maxRecDepth 100000 in
theorem a_202 : Cond.code (⟨"MayNotPause$PutSearch", "<init>", "(LMayNotPause$Telling;LMayNotPause$Script;LMayNotPause$Script;[I)V"⟩ : MethodName) cX1_init 5 none ∈ wG := wG_at 202 rfl rfl
set_option maxRecDepth 100000 in
theorem a_203 : Cond.methodLink "MayNotPause$PutSearch" 3 (⟨"java/lang/Object", "<init>", "()V"⟩ : MethodName) ∈ wG := wG_at 203 rfl rfl
set_option maxRecDepth 100000 in
theorem a_204 : Cond.fieldLink "MayNotPause$PutSearch" 15 "MayNotPause$PutSearch" "trial" "LMayNotPause$Telling;" ∈ wG := wG_at 204 rfl rfl
set_option maxRecDepth 100000 in
theorem a_205 : Cond.fieldLink "MayNotPause$PutSearch" 19 "MayNotPause$PutSearch" "verses" "LMayNotPause$Script;" ∈ wG := wG_at 205 rfl rfl
set_option maxRecDepth 100000 in
theorem a_206 : Cond.fieldLink "MayNotPause$PutSearch" 23 "MayNotPause$PutSearch" "hards" "LMayNotPause$Script;" ∈ wG := wG_at 206 rfl rfl
set_option maxRecDepth 100000 in
theorem a_207 : Cond.fieldLink "MayNotPause$PutSearch" 26 "MayNotPause$PutSearch" "settings" "[I" ∈ wG := wG_at 207 rfl rfl
set_option maxRecDepth 100000 in
theorem a_208 : Cond.fieldLink "MayNotPause$PutSearch" 11 "MayNotPause$PutSearch" "best" "[I" ∈ wG := wG_at 208 rfl rfl
set_option maxRecDepth 100000 in
theorem a_209 : Cond.fieldLink "MayNotPause" 181 "MayNotPause$PutSearch" "best" "[I" ∈ wG := wG_at 209 rfl rfl
set_option maxRecDepth 100000 in
theorem a_223 : Cond.methodLink "MayNotPause" 46 (⟨"MayNotPause$OrderSearch", "<init>", "(LMayNotPause$Telling;LMayNotPause$Script;[I)V"⟩ : MethodName) ∈ wG := wG_at 223 rfl rfl
set_option maxRecDepth 100000 in
theorem a_224 : Cond.instanceMethod (⟨"MayNotPause$OrderSearch", "<init>", "(LMayNotPause$Telling;LMayNotPause$Script;[I)V"⟩ : MethodName) ∈ wG := wG_at 224 rfl rfl
set_option maxRecDepth 100000 in
theorem a_225 : Cond.code (⟨"MayNotPause$OrderSearch", "<init>", "(LMayNotPause$Telling;LMayNotPause$Script;[I)V"⟩ : MethodName) cX0_init 4 none ∈ wG := wG_at 225 rfl rfl
set_option maxRecDepth 100000 in
theorem a_226 : Cond.methodLink "MayNotPause$OrderSearch" 3 (⟨"java/lang/Object", "<init>", "()V"⟩ : MethodName) ∈ wG := wG_at 226 rfl rfl
set_option maxRecDepth 100000 in
theorem a_227 : Cond.fieldLink "MayNotPause$OrderSearch" 22 "MayNotPause$OrderSearch" "trial" "LMayNotPause$Telling;" ∈ wG := wG_at 227 rfl rfl
set_option maxRecDepth 100000 in
theorem a_228 : Cond.fieldLink "MayNotPause$OrderSearch" 26 "MayNotPause$OrderSearch" "verses" "LMayNotPause$Script;" ∈ wG := wG_at 228 rfl rfl
set_option maxRecDepth 100000 in
theorem a_229 : Cond.fieldLink "MayNotPause$OrderSearch" 30 "MayNotPause$OrderSearch" "settings" "[I" ∈ wG := wG_at 229 rfl rfl
set_option maxRecDepth 100000 in
theorem a_230 : Cond.fieldLink "MayNotPause$OrderSearch" 11 "MayNotPause$OrderSearch" "row" "[I" ∈ wG := wG_at 230 rfl rfl
set_option maxRecDepth 100000 in
theorem a_231 : Cond.fieldLink "MayNotPause$OrderSearch" 15 "MayNotPause$OrderSearch" "best" "[I" ∈ wG := wG_at 231 rfl rfl
set_option maxRecDepth 100000 in
theorem a_232 : Cond.fieldLink "MayNotPause" 194 "MayNotPause$OrderSearch" "best" "[I" ∈ wG := wG_at 232 rfl rfl
set_option maxRecDepth 100000 in
theorem a_233 : Cond.fieldLink "MayNotPause$OrderSearch" 18 "MayNotPause$OrderSearch" "taken" "[Z" ∈ wG := wG_at 233 rfl rfl
set_option maxRecDepth 100000 in
theorem a_234 : Cond.fieldLink "MayNotPause$OrderSearch" 45 "MayNotPause$OrderSearch" "size" "I" ∈ wG := wG_at 234 rfl rfl
set_option maxRecDepth 100000 in
theorem a_235 : Cond.fieldLink "MayNotPause$OrderSearch" 47 "MayNotPause$OrderSearch" "leastPauses" "I" ∈ wG := wG_at 235 rfl rfl
set_option maxRecDepth 100000 in
theorem a_236 : Cond.fieldLink "MayNotPause" 188 "MayNotPause$OrderSearch" "leastPauses" "I" ∈ wG := wG_at 236 rfl rfl
set_option maxRecDepth 100000 in
theorem a_237 : Cond.fieldLink "MayNotPause$OrderSearch" 50 "MayNotPause$OrderSearch" "leastLong" "I" ∈ wG := wG_at 237 rfl rfl
set_option maxRecDepth 100000 in
theorem a_238 : Cond.fieldLink "MayNotPause" 191 "MayNotPause$OrderSearch" "leastLong" "I" ∈ wG := wG_at 238 rfl rfl
set_option maxRecDepth 100000 in
theorem a_262 : Cond.instanceMethod (⟨"MayNotPause$Sightings", "<init>", "()V"⟩ : MethodName) ∈ wG := wG_at 262 rfl rfl
set_option maxRecDepth 100000 in
theorem a_263 : Cond.code (⟨"MayNotPause$Sightings", "<init>", "()V"⟩ : MethodName) cX4_init 1 none ∈ wG := wG_at 263 rfl rfl
set_option maxRecDepth 100000 in
theorem a_264 : Cond.methodLink "MayNotPause$Sightings" 3 (⟨"java/lang/Object", "<init>", "()V"⟩ : MethodName) ∈ wG := wG_at 264 rfl rfl
set_option maxRecDepth 100000 in
theorem a_265 : Cond.fieldLink "MayNotPause$Sightings" 11 "MayNotPause$Sightings" "breaths" "[I" ∈ wG := wG_at 265 rfl rfl
set_option maxRecDepth 100000 in
theorem a_266 : Cond.fieldLink "MayNotPause$Sightings" 15 "MayNotPause$Sightings" "made" "[I" ∈ wG := wG_at 266 rfl rfl
set_option maxRecDepth 100000 in
theorem a_267 : Cond.fieldLink "MayNotPause$Sightings" 18 "MayNotPause$Sightings" "size" "I" ∈ wG := wG_at 267 rfl rfl
set_option maxRecDepth 100000 in
theorem a_268 : Cond.fieldLink "MayNotPause" 234 "MayNotPause$Sightings" "size" "I" ∈ wG := wG_at 268 rfl rfl
set_option maxRecDepth 100000 in
theorem a_280 : Cond.instanceMethod (⟨"MayNotPause$Sheet", "<init>", "()V"⟩ : MethodName) ∈ wG := wG_at 280 rfl rfl
set_option maxRecDepth 100000 in
theorem a_281 : Cond.code (⟨"MayNotPause$Sheet", "<init>", "()V"⟩ : MethodName) cX3_init 1 none ∈ wG := wG_at 281 rfl rfl
set_option maxRecDepth 100000 in
theorem a_282 : Cond.methodLink "MayNotPause$Sheet" 3 (⟨"java/lang/Object", "<init>", "()V"⟩ : MethodName) ∈ wG := wG_at 282 rfl rfl
set_option maxRecDepth 100000 in
theorem a_283 : Cond.fieldLink "MayNotPause$Sheet" 9 "MayNotPause$Sheet" "items" "[I" ∈ wG := wG_at 283 rfl rfl
set_option maxRecDepth 100000 in
theorem a_284 : Cond.fieldLink "MayNotPause" 275 "MayNotPause$Sheet" "items" "[I" ∈ wG := wG_at 284 rfl rfl
set_option maxRecDepth 100000 in
theorem a_285 : Cond.fieldLink "MayNotPause$Sheet" 15 "MayNotPause$Sheet" "lost" "Z" ∈ wG := wG_at 285 rfl rfl
set_option maxRecDepth 100000 in
theorem a_286 : Cond.fieldLink "MayNotPause" 242 "MayNotPause$Sheet" "lost" "Z" ∈ wG := wG_at 286 rfl rfl
set_option maxRecDepth 100000 in
theorem a_287 : Cond.fieldLink "MayNotPause$Sheet" 19 "MayNotPause$Sheet" "form" "I" ∈ wG := wG_at 287 rfl rfl
set_option maxRecDepth 100000 in
theorem a_288 : Cond.fieldLink "MayNotPause" 269 "MayNotPause$Sheet" "form" "I" ∈ wG := wG_at 288 rfl rfl
set_option maxRecDepth 100000 in
theorem a_289 : Cond.fieldLink "MayNotPause$Sheet" 23 "MayNotPause$Sheet" "size" "I" ∈ wG := wG_at 289 rfl rfl
set_option maxRecDepth 100000 in
theorem a_290 : Cond.fieldLink "MayNotPause" 248 "MayNotPause$Sheet" "size" "I" ∈ wG := wG_at 290 rfl rfl
set_option maxRecDepth 100000 in
theorem a_300 : Cond.fieldLink "MayNotPause" 7 "MayNotPause" "settings" "[I" ∈ wG := wG_at 300 rfl rfl
set_option maxRecDepth 100000 in
theorem a_301 : Cond.fieldLink "MayNotPause" 18 "MayNotPause" "verses" "LMayNotPause$Script;" ∈ wG := wG_at 301 rfl rfl
set_option maxRecDepth 100000 in
theorem a_302 : Cond.fieldLink "MayNotPause" 22 "MayNotPause" "hards" "LMayNotPause$Script;" ∈ wG := wG_at 302 rfl rfl
set_option maxRecDepth 100000 in
theorem a_303 : Cond.fieldLink "MayNotPause" 28 "MayNotPause" "told" "LMayNotPause$Telling;" ∈ wG := wG_at 303 rfl rfl
set_option maxRecDepth 100000 in
theorem a_304 : Cond.fieldLink "MayNotPause" 32 "MayNotPause" "trial" "LMayNotPause$Telling;" ∈ wG := wG_at 304 rfl rfl
set_option maxRecDepth 100000 in
theorem a_305 : Cond.fieldLink "MayNotPause" 40 "MayNotPause" "putSearch" "LMayNotPause$PutSearch;" ∈ wG := wG_at 305 rfl rfl
set_option maxRecDepth 100000 in
theorem a_306 : Cond.fieldLink "MayNotPause" 49 "MayNotPause" "orderSearch" "LMayNotPause$OrderSearch;" ∈ wG := wG_at 306 rfl rfl
set_option maxRecDepth 100000 in
theorem a_307 : Cond.fieldLink "MayNotPause" 56 "MayNotPause" "sightings" "LMayNotPause$Sightings;" ∈ wG := wG_at 307 rfl rfl
set_option maxRecDepth 100000 in
theorem a_308 : Cond.fieldLink "MayNotPause" 62 "MayNotPause" "sheets" "[LMayNotPause$Sheet;" ∈ wG := wG_at 308 rfl rfl
set_option maxRecDepth 100000 in
theorem a_309 : Cond.fieldLink "MayNotPause" 174 "MayNotPause" "putIsFound" "Z" ∈ wG := wG_at 309 rfl rfl
set_option maxRecDepth 100000 in
theorem a_310 : Cond.fieldLink "MayNotPause" 184 "MayNotPause" "orderIsFound" "Z" ∈ wG := wG_at 310 rfl rfl
set_option maxRecDepth 100000 in
theorem a_311 : Cond.fieldLink "MayNotPause" 266 "MayNotPause" "latestFinding" "I" ∈ wG := wG_at 311 rfl rfl
set_option maxRecDepth 100000 in
theorem a_337 : Cond.methodLink "MayNotPauseLaw" 13 (⟨"MayNotPause", "type", "(II)I"⟩ : MethodName) ∈ wG := wG_at 337 rfl rfl
set_option maxRecDepth 100000 in
theorem a_338 : Cond.instanceMethod (⟨"MayNotPause", "type", "(II)I"⟩ : MethodName) ∈ wG := wG_at 338 rfl rfl
set_option maxRecDepth 100000 in
theorem a_339 : Cond.selects "MayNotPause" (⟨"MayNotPause", "type", "(II)I"⟩ : MethodName) (⟨"MayNotPause", "type", "(II)I"⟩ : MethodName) ∈ wG := wG_at 339 rfl rfl
set_option maxRecDepth 100000 in
theorem a_340 : Cond.code (⟨"MayNotPause", "type", "(II)I"⟩ : MethodName) cX7_type 4 (some .int) ∈ wG := wG_at 340 rfl rfl
set_option maxRecDepth 100000 in
theorem a_341 : Cond.methodLink "MayNotPause" 67 (⟨"MayNotPause", "isText", "(I)Z"⟩ : MethodName) ∈ wG := wG_at 341 rfl rfl
set_option maxRecDepth 100000 in
theorem a_342 : Cond.static (⟨"MayNotPause", "isText", "(I)Z"⟩ : MethodName) ∈ wG := wG_at 342 rfl rfl
set_option maxRecDepth 100000 in
theorem a_343 : Cond.code (⟨"MayNotPause", "isText", "(I)Z"⟩ : MethodName) cX7_isText 1 (some .boolean) ∈ wG := wG_at 343 rfl rfl
set_option maxRecDepth 100000 in
theorem a_344 : Cond.methodLink "MayNotPause" 71 (⟨"MayNotPause", "scriptOf", "(I)LMayNotPause$Script;"⟩ : MethodName) ∈ wG := wG_at 344 rfl rfl
set_option maxRecDepth 100000 in
theorem a_346 : Cond.instanceMethod (⟨"MayNotPause", "scriptOf", "(I)LMayNotPause$Script;"⟩ : MethodName) ∈ wG := wG_at 346 rfl rfl
set_option maxRecDepth 100000 in
theorem a_347 : Cond.code (⟨"MayNotPause", "scriptOf", "(I)LMayNotPause$Script;"⟩ : MethodName) cX7_scriptOf 2 (some (.object "MayNotPause$Script")) ∈ wG := wG_at 347 rfl rfl
set_option maxRecDepth 100000 in
theorem a_348 : Cond.methodLink "MayNotPause" 75 (⟨"MayNotPause$Script", "isFull", "()Z"⟩ : MethodName) ∈ wG := wG_at 348 rfl rfl
set_option maxRecDepth 100000 in
theorem a_349 : Cond.instanceMethod (⟨"MayNotPause$Script", "isFull", "()Z"⟩ : MethodName) ∈ wG := wG_at 349 rfl rfl
set_option maxRecDepth 100000 in
theorem a_350 : Cond.selects "MayNotPause$Script" (⟨"MayNotPause$Script", "isFull", "()Z"⟩ : MethodName) (⟨"MayNotPause$Script", "isFull", "()Z"⟩ : MethodName) ∈ wG := wG_at 350 rfl rfl
set_option maxRecDepth 100000 in
theorem a_351 : Cond.code (⟨"MayNotPause$Script", "isFull", "()Z"⟩ : MethodName) cX2_isFull 1 (some .boolean) ∈ wG := wG_at 351 rfl rfl
set_option maxRecDepth 100000 in
theorem a_352 : Cond.methodLink "MayNotPause" 79 (⟨"MayNotPause$Script", "append", "(I)V"⟩ : MethodName) ∈ wG := wG_at 352 rfl rfl
set_option maxRecDepth 100000 in
theorem a_353 : Cond.instanceMethod (⟨"MayNotPause$Script", "append", "(I)V"⟩ : MethodName) ∈ wG := wG_at 353 rfl rfl
set_option maxRecDepth 100000 in
theorem a_354 : Cond.selects "MayNotPause$Script" (⟨"MayNotPause$Script", "append", "(I)V"⟩ : MethodName) (⟨"MayNotPause$Script", "append", "(I)V"⟩ : MethodName) ∈ wG := wG_at 354 rfl rfl
set_option maxRecDepth 100000 in
theorem a_355 : Cond.code (⟨"MayNotPause$Script", "append", "(I)V"⟩ : MethodName) cX2_append 2 none ∈ wG := wG_at 355 rfl rfl
set_option maxRecDepth 100000 in
theorem a_356 : Cond.methodLink "MayNotPause$Script" 22 (⟨"MayNotPause$Script", "isFull", "()Z"⟩ : MethodName) ∈ wG := wG_at 356 rfl rfl
set_option maxRecDepth 100000 in
theorem a_357 : Cond.methodLink "MayNotPause$Script" 26 (⟨"MayNotPause$Script", "settle", "()V"⟩ : MethodName) ∈ wG := wG_at 357 rfl rfl
set_option maxRecDepth 100000 in
theorem a_359 : Cond.instanceMethod (⟨"MayNotPause$Script", "settle", "()V"⟩ : MethodName) ∈ wG := wG_at 359 rfl rfl
set_option maxRecDepth 100000 in
theorem a_360 : Cond.code (⟨"MayNotPause$Script", "settle", "()V"⟩ : MethodName) cX2_settle 1 none ∈ wG := wG_at 360 rfl rfl
set_option maxRecDepth 100000 in
theorem a_361 : Cond.methodLink "MayNotPause$Script" 36 (⟨"MayNotPause$Script", "firstFlaw", "()I"⟩ : MethodName) ∈ wG := wG_at 361 rfl rfl
set_option maxRecDepth 100000 in
theorem a_363 : Cond.instanceMethod (⟨"MayNotPause$Script", "firstFlaw", "()I"⟩ : MethodName) ∈ wG := wG_at 363 rfl rfl
set_option maxRecDepth 100000 in
theorem a_364 : Cond.code (⟨"MayNotPause$Script", "firstFlaw", "()I"⟩ : MethodName) cX2_firstFlaw 2 (some .int) ∈ wG := wG_at 364 rfl rfl
set_option maxRecDepth 100000 in
theorem a_365 : Cond.methodLink "MayNotPause$Script" 40 (⟨"MayNotPause$Script", "fits", "(II)Z"⟩ : MethodName) ∈ wG := wG_at 365 rfl rfl
set_option maxRecDepth 100000 in
theorem a_366 : Cond.static (⟨"MayNotPause$Script", "fits", "(II)Z"⟩ : MethodName) ∈ wG := wG_at 366 rfl rfl
set_option maxRecDepth 100000 in
theorem a_367 : Cond.code (⟨"MayNotPause$Script", "fits", "(II)Z"⟩ : MethodName) cX2_fits 2 (some .boolean) ∈ wG := wG_at 367 rfl rfl
set_option maxRecDepth 100000 in
theorem a_368 : Cond.methodLink "MayNotPause$Script" 44 (⟨"MayNotPause$Script", "kindBy", "(I)I"⟩ : MethodName) ∈ wG := wG_at 368 rfl rfl
set_option maxRecDepth 100000 in
theorem a_369 : Cond.static (⟨"MayNotPause$Script", "kindBy", "(I)I"⟩ : MethodName) ∈ wG := wG_at 369 rfl rfl
set_option maxRecDepth 100000 in
theorem a_370 : Cond.code (⟨"MayNotPause$Script", "kindBy", "(I)I"⟩ : MethodName) cX2_kindBy 1 (some .int) ∈ wG := wG_at 370 rfl rfl
set_option maxRecDepth 100000 in
theorem a_371 : Cond.methodLink "MayNotPause" 82 (⟨"MayNotPause", "tellAnew", "()V"⟩ : MethodName) ∈ wG := wG_at 371 rfl rfl
set_option maxRecDepth 100000 in
theorem a_373 : Cond.instanceMethod (⟨"MayNotPause", "tellAnew", "()V"⟩ : MethodName) ∈ wG := wG_at 373 rfl rfl
set_option maxRecDepth 100000 in
theorem a_374 : Cond.code (⟨"MayNotPause", "tellAnew", "()V"⟩ : MethodName) cX7_tellAnew 1 none ∈ wG := wG_at 374 rfl rfl
set_option maxRecDepth 100000 in
theorem a_375 : Cond.methodLink "MayNotPause" 195 (⟨"MayNotPause$Telling", "open", "([I)V"⟩ : MethodName) ∈ wG := wG_at 375 rfl rfl
set_option maxRecDepth 100000 in
theorem a_376 : Cond.instanceMethod (⟨"MayNotPause$Telling", "open", "([I)V"⟩ : MethodName) ∈ wG := wG_at 376 rfl rfl
set_option maxRecDepth 100000 in
theorem a_377 : Cond.selects "MayNotPause$Telling" (⟨"MayNotPause$Telling", "open", "([I)V"⟩ : MethodName) (⟨"MayNotPause$Telling", "open", "([I)V"⟩ : MethodName) ∈ wG := wG_at 377 rfl rfl
set_option maxRecDepth 100000 in
theorem a_378 : Cond.code (⟨"MayNotPause$Telling", "open", "([I)V"⟩ : MethodName) cX5_open 3 none ∈ wG := wG_at 378 rfl rfl
set_option maxRecDepth 100000 in
theorem a_379 : Cond.methodLink "MayNotPause$Telling" 30 (⟨"MayNotPause$Turn", "beStart", "(I)V"⟩ : MethodName) ∈ wG := wG_at 379 rfl rfl
set_option maxRecDepth 100000 in
theorem a_380 : Cond.instanceMethod (⟨"MayNotPause$Turn", "beStart", "(I)V"⟩ : MethodName) ∈ wG := wG_at 380 rfl rfl
set_option maxRecDepth 100000 in
theorem a_381 : Cond.selects "MayNotPause$Turn" (⟨"MayNotPause$Turn", "beStart", "(I)V"⟩ : MethodName) (⟨"MayNotPause$Turn", "beStart", "(I)V"⟩ : MethodName) ∈ wG := wG_at 381 rfl rfl
set_option maxRecDepth 100000 in
theorem a_382 : Cond.code (⟨"MayNotPause$Turn", "beStart", "(I)V"⟩ : MethodName) cX6_beStart 2 none ∈ wG := wG_at 382 rfl rfl
set_option maxRecDepth 100000 in
theorem a_383 : Cond.methodLink "MayNotPause$Turn" 9 (⟨"MayNotPause$Turn", "comeToNothing", "()V"⟩ : MethodName) ∈ wG := wG_at 383 rfl rfl
set_option maxRecDepth 100000 in
theorem a_385 : Cond.instanceMethod (⟨"MayNotPause$Turn", "comeToNothing", "()V"⟩ : MethodName) ∈ wG := wG_at 385 rfl rfl
set_option maxRecDepth 100000 in
theorem a_386 : Cond.code (⟨"MayNotPause$Turn", "comeToNothing", "()V"⟩ : MethodName) cX6_comeToNothing 1 none ∈ wG := wG_at 386 rfl rfl
set_option maxRecDepth 100000 in
theorem a_387 : Cond.methodLink "MayNotPause" 202 (⟨"MayNotPause$Telling", "addAll", "(LMayNotPause$Script;)V"⟩ : MethodName) ∈ wG := wG_at 387 rfl rfl
set_option maxRecDepth 100000 in
theorem a_388 : Cond.instanceMethod (⟨"MayNotPause$Telling", "addAll", "(LMayNotPause$Script;)V"⟩ : MethodName) ∈ wG := wG_at 388 rfl rfl
set_option maxRecDepth 100000 in
theorem a_389 : Cond.selects "MayNotPause$Telling" (⟨"MayNotPause$Telling", "addAll", "(LMayNotPause$Script;)V"⟩ : MethodName) (⟨"MayNotPause$Telling", "addAll", "(LMayNotPause$Script;)V"⟩ : MethodName) ∈ wG := wG_at 389 rfl rfl
set_option maxRecDepth 100000 in
theorem a_390 : Cond.code (⟨"MayNotPause$Telling", "addAll", "(LMayNotPause$Script;)V"⟩ : MethodName) cX5_addAll 3 none ∈ wG := wG_at 390 rfl rfl
set_option maxRecDepth 100000 in
theorem a_391 : Cond.methodLink "MayNotPause$Telling" 37 (⟨"MayNotPause$Telling", "add", "(LMayNotPause$Script;I)V"⟩ : MethodName) ∈ wG := wG_at 391 rfl rfl
set_option maxRecDepth 100000 in
theorem a_392 : Cond.instanceMethod (⟨"MayNotPause$Telling", "add", "(LMayNotPause$Script;I)V"⟩ : MethodName) ∈ wG := wG_at 392 rfl rfl
set_option maxRecDepth 100000 in
theorem a_393 : Cond.selects "MayNotPause$Telling" (⟨"MayNotPause$Telling", "add", "(LMayNotPause$Script;I)V"⟩ : MethodName) (⟨"MayNotPause$Telling", "add", "(LMayNotPause$Script;I)V"⟩ : MethodName) ∈ wG := wG_at 393 rfl rfl
set_option maxRecDepth 100000 in
theorem a_394 : Cond.code (⟨"MayNotPause$Telling", "add", "(LMayNotPause$Script;I)V"⟩ : MethodName) cX5_add 8 none ∈ wG := wG_at 394 rfl rfl
set_option maxRecDepth 100000 in
theorem a_395 : Cond.methodLink "MayNotPause$Telling" 41 (⟨"MayNotPause$Script", "kindOf", "(I)I"⟩ : MethodName) ∈ wG := wG_at 395 rfl rfl
set_option maxRecDepth 100000 in
theorem a_396 : Cond.instanceMethod (⟨"MayNotPause$Script", "kindOf", "(I)I"⟩ : MethodName) ∈ wG := wG_at 396 rfl rfl
set_option maxRecDepth 100000 in
theorem a_397 : Cond.selects "MayNotPause$Script" (⟨"MayNotPause$Script", "kindOf", "(I)I"⟩ : MethodName) (⟨"MayNotPause$Script", "kindOf", "(I)I"⟩ : MethodName) ∈ wG := wG_at 397 rfl rfl
set_option maxRecDepth 100000 in
theorem a_398 : Cond.code (⟨"MayNotPause$Script", "kindOf", "(I)I"⟩ : MethodName) cX2_kindOf 2 (some .int) ∈ wG := wG_at 398 rfl rfl
set_option maxRecDepth 100000 in
theorem a_399 : Cond.methodLink "MayNotPause$Telling" 48 (⟨"MayNotPause$Script", "figure", "(II)I"⟩ : MethodName) ∈ wG := wG_at 399 rfl rfl
set_option maxRecDepth 100000 in
theorem a_400 : Cond.instanceMethod (⟨"MayNotPause$Script", "figure", "(II)I"⟩ : MethodName) ∈ wG := wG_at 400 rfl rfl
set_option maxRecDepth 100000 in
theorem a_401 : Cond.selects "MayNotPause$Script" (⟨"MayNotPause$Script", "figure", "(II)I"⟩ : MethodName) (⟨"MayNotPause$Script", "figure", "(II)I"⟩ : MethodName) ∈ wG := wG_at 401 rfl rfl
set_option maxRecDepth 100000 in
theorem a_402 : Cond.code (⟨"MayNotPause$Script", "figure", "(II)I"⟩ : MethodName) cX2_figure 3 (some .int) ∈ wG := wG_at 402 rfl rfl
set_option maxRecDepth 100000 in
theorem a_403 : Cond.methodLink "MayNotPause$Telling" 55 (⟨"MayNotPause$Telling", "howManyOf", "(I)I"⟩ : MethodName) ∈ wG := wG_at 403 rfl rfl
set_option maxRecDepth 100000 in
theorem a_405 : Cond.instanceMethod (⟨"MayNotPause$Telling", "howManyOf", "(I)I"⟩ : MethodName) ∈ wG := wG_at 405 rfl rfl
set_option maxRecDepth 100000 in
theorem a_406 : Cond.code (⟨"MayNotPause$Telling", "howManyOf", "(I)I"⟩ : MethodName) cX5_howManyOf 4 (some .int) ∈ wG := wG_at 406 rfl rfl
set_option maxRecDepth 100000 in
theorem a_407 : Cond.methodLink "MayNotPause$Telling" 61 (⟨"java/lang/Math", "max", "(II)I"⟩ : MethodName) ∈ wG := wG_at 407 rfl rfl
set_option maxRecDepth 100000 in
theorem a_410 : Cond.methodLink "MayNotPause$Telling" 69 (⟨"MayNotPause$Telling", "last", "()LMayNotPause$Turn;"⟩ : MethodName) ∈ wG := wG_at 410 rfl rfl
set_option maxRecDepth 100000 in
theorem a_411 : Cond.instanceMethod (⟨"MayNotPause$Telling", "last", "()LMayNotPause$Turn;"⟩ : MethodName) ∈ wG := wG_at 411 rfl rfl
set_option maxRecDepth 100000 in
theorem a_412 : Cond.selects "MayNotPause$Telling" (⟨"MayNotPause$Telling", "last", "()LMayNotPause$Turn;"⟩ : MethodName) (⟨"MayNotPause$Telling", "last", "()LMayNotPause$Turn;"⟩ : MethodName) ∈ wG := wG_at 412 rfl rfl
set_option maxRecDepth 100000 in
theorem a_413 : Cond.code (⟨"MayNotPause$Telling", "last", "()LMayNotPause$Turn;"⟩ : MethodName) cX5_last 1 (some (.object "MayNotPause$Turn")) ∈ wG := wG_at 413 rfl rfl
set_option maxRecDepth 100000 in
theorem a_414 : Cond.methodLink "MayNotPause$Telling" 93 (⟨"MayNotPause$Telling", "turnAt", "(I)LMayNotPause$Turn;"⟩ : MethodName) ∈ wG := wG_at 414 rfl rfl
set_option maxRecDepth 100000 in
theorem a_415 : Cond.instanceMethod (⟨"MayNotPause$Telling", "turnAt", "(I)LMayNotPause$Turn;"⟩ : MethodName) ∈ wG := wG_at 415 rfl rfl
set_option maxRecDepth 100000 in
theorem a_416 : Cond.selects "MayNotPause$Telling" (⟨"MayNotPause$Telling", "turnAt", "(I)LMayNotPause$Turn;"⟩ : MethodName) (⟨"MayNotPause$Telling", "turnAt", "(I)LMayNotPause$Turn;"⟩ : MethodName) ∈ wG := wG_at 416 rfl rfl
set_option maxRecDepth 100000 in
theorem a_417 : Cond.code (⟨"MayNotPause$Telling", "turnAt", "(I)LMayNotPause$Turn;"⟩ : MethodName) cX5_turnAt 2 (some (.object "MayNotPause$Turn")) ∈ wG := wG_at 417 rfl rfl
set_option maxRecDepth 100000 in
theorem a_418 : Cond.methodLink "MayNotPause$Telling" 73 (⟨"MayNotPause$Turn", "follow", "(LMayNotPause$Turn;)V"⟩ : MethodName) ∈ wG := wG_at 418 rfl rfl
set_option maxRecDepth 100000 in
theorem a_419 : Cond.instanceMethod (⟨"MayNotPause$Turn", "follow", "(LMayNotPause$Turn;)V"⟩ : MethodName) ∈ wG := wG_at 419 rfl rfl
set_option maxRecDepth 100000 in
theorem a_420 : Cond.selects "MayNotPause$Turn" (⟨"MayNotPause$Turn", "follow", "(LMayNotPause$Turn;)V"⟩ : MethodName) (⟨"MayNotPause$Turn", "follow", "(LMayNotPause$Turn;)V"⟩ : MethodName) ∈ wG := wG_at 420 rfl rfl
set_option maxRecDepth 100000 in
theorem a_421 : Cond.code (⟨"MayNotPause$Turn", "follow", "(LMayNotPause$Turn;)V"⟩ : MethodName) cX6_follow 2 none ∈ wG := wG_at 421 rfl rfl
set_option maxRecDepth 100000 in
theorem a_422 : Cond.methodLink "MayNotPause$Telling" 86 (⟨"MayNotPause$Turn", "beSaid", "(I)V"⟩ : MethodName) ∈ wG := wG_at 422 rfl rfl
set_option maxRecDepth 100000 in
theorem a_423 : Cond.instanceMethod (⟨"MayNotPause$Turn", "beSaid", "(I)V"⟩ : MethodName) ∈ wG := wG_at 423 rfl rfl
set_option maxRecDepth 100000 in
theorem a_424 : Cond.selects "MayNotPause$Turn" (⟨"MayNotPause$Turn", "beSaid", "(I)V"⟩ : MethodName) (⟨"MayNotPause$Turn", "beSaid", "(I)V"⟩ : MethodName) ∈ wG := wG_at 424 rfl rfl
set_option maxRecDepth 100000 in
theorem a_425 : Cond.code (⟨"MayNotPause$Turn", "beSaid", "(I)V"⟩ : MethodName) cX6_beSaid 2 none ∈ wG := wG_at 425 rfl rfl
set_option maxRecDepth 100000 in
theorem a_426 : Cond.methodLink "MayNotPause$Turn" 48 (⟨"java/lang/Math", "max", "(II)I"⟩ : MethodName) ∈ wG := wG_at 426 rfl rfl
set_option maxRecDepth 100000 in
theorem a_427 : Cond.methodLink "MayNotPause$Telling" 89 (⟨"MayNotPause$Turn", "beWritten", "(III)V"⟩ : MethodName) ∈ wG := wG_at 427 rfl rfl
set_option maxRecDepth 100000 in
theorem a_428 : Cond.instanceMethod (⟨"MayNotPause$Turn", "beWritten", "(III)V"⟩ : MethodName) ∈ wG := wG_at 428 rfl rfl
set_option maxRecDepth 100000 in
theorem a_429 : Cond.selects "MayNotPause$Turn" (⟨"MayNotPause$Turn", "beWritten", "(III)V"⟩ : MethodName) (⟨"MayNotPause$Turn", "beWritten", "(III)V"⟩ : MethodName) ∈ wG := wG_at 429 rfl rfl
set_option maxRecDepth 100000 in
theorem a_430 : Cond.code (⟨"MayNotPause$Turn", "beWritten", "(III)V"⟩ : MethodName) cX6_beWritten 6 none ∈ wG := wG_at 430 rfl rfl
set_option maxRecDepth 100000 in
theorem a_431 : Cond.methodLink "MayNotPauseLaw" 18 (⟨"MayNotPause", "wipe", "(I)I"⟩ : MethodName) ∈ wG := wG_at 431 rfl rfl
set_option maxRecDepth 100000 in
theorem a_432 : Cond.instanceMethod (⟨"MayNotPause", "wipe", "(I)I"⟩ : MethodName) ∈ wG := wG_at 432 rfl rfl
set_option maxRecDepth 100000 in
theorem a_433 : Cond.selects "MayNotPause" (⟨"MayNotPause", "wipe", "(I)I"⟩ : MethodName) (⟨"MayNotPause", "wipe", "(I)I"⟩ : MethodName) ∈ wG := wG_at 433 rfl rfl
set_option maxRecDepth 100000 in
theorem a_434 : Cond.code (⟨"MayNotPause", "wipe", "(I)I"⟩ : MethodName) cX7_wipe 4 (some .int) ∈ wG := wG_at 434 rfl rfl
set_option maxRecDepth 100000 in
theorem a_435 : Cond.methodLink "MayNotPause" 89 (⟨"MayNotPause$Script", "shorten", "(I)V"⟩ : MethodName) ∈ wG := wG_at 435 rfl rfl
set_option maxRecDepth 100000 in
theorem a_436 : Cond.instanceMethod (⟨"MayNotPause$Script", "shorten", "(I)V"⟩ : MethodName) ∈ wG := wG_at 436 rfl rfl
set_option maxRecDepth 100000 in
theorem a_437 : Cond.selects "MayNotPause$Script" (⟨"MayNotPause$Script", "shorten", "(I)V"⟩ : MethodName) (⟨"MayNotPause$Script", "shorten", "(I)V"⟩ : MethodName) ∈ wG := wG_at 437 rfl rfl
set_option maxRecDepth 100000 in
theorem a_438 : Cond.code (⟨"MayNotPause$Script", "shorten", "(I)V"⟩ : MethodName) cX2_shorten 2 none ∈ wG := wG_at 438 rfl rfl
set_option maxRecDepth 100000 in
theorem a_439 : Cond.methodLink "MayNotPauseLaw" 23 (⟨"MayNotPause", "undo", "(I)I"⟩ : MethodName) ∈ wG := wG_at 439 rfl rfl
set_option maxRecDepth 100000 in
theorem a_440 : Cond.instanceMethod (⟨"MayNotPause", "undo", "(I)I"⟩ : MethodName) ∈ wG := wG_at 440 rfl rfl
set_option maxRecDepth 100000 in
theorem a_441 : Cond.selects "MayNotPause" (⟨"MayNotPause", "undo", "(I)I"⟩ : MethodName) (⟨"MayNotPause", "undo", "(I)I"⟩ : MethodName) ∈ wG := wG_at 441 rfl rfl
set_option maxRecDepth 100000 in
theorem a_442 : Cond.code (⟨"MayNotPause", "undo", "(I)I"⟩ : MethodName) cX7_undo 3 (some .int) ∈ wG := wG_at 442 rfl rfl
set_option maxRecDepth 100000 in
theorem a_443 : Cond.methodLink "MayNotPause" 95 (⟨"MayNotPause$Script", "dropLastVerse", "()V"⟩ : MethodName) ∈ wG := wG_at 443 rfl rfl
set_option maxRecDepth 100000 in
theorem a_444 : Cond.instanceMethod (⟨"MayNotPause$Script", "dropLastVerse", "()V"⟩ : MethodName) ∈ wG := wG_at 444 rfl rfl
set_option maxRecDepth 100000 in
theorem a_445 : Cond.selects "MayNotPause$Script" (⟨"MayNotPause$Script", "dropLastVerse", "()V"⟩ : MethodName) (⟨"MayNotPause$Script", "dropLastVerse", "()V"⟩ : MethodName) ∈ wG := wG_at 445 rfl rfl
set_option maxRecDepth 100000 in
theorem a_446 : Cond.code (⟨"MayNotPause$Script", "dropLastVerse", "()V"⟩ : MethodName) cX2_dropLastVerse 1 none ∈ wG := wG_at 446 rfl rfl
set_option maxRecDepth 100000 in
theorem a_447 : Cond.methodLink "MayNotPause$Script" 32 (⟨"MayNotPause$Script", "shorten", "(I)V"⟩ : MethodName) ∈ wG := wG_at 447 rfl rfl
set_option maxRecDepth 100000 in
theorem a_448 : Cond.methodLink "MayNotPauseLaw" 27 (⟨"MayNotPause", "fault", "(I)I"⟩ : MethodName) ∈ wG := wG_at 448 rfl rfl
set_option maxRecDepth 100000 in
theorem a_449 : Cond.instanceMethod (⟨"MayNotPause", "fault", "(I)I"⟩ : MethodName) ∈ wG := wG_at 449 rfl rfl
set_option maxRecDepth 100000 in
theorem a_450 : Cond.selects "MayNotPause" (⟨"MayNotPause", "fault", "(I)I"⟩ : MethodName) (⟨"MayNotPause", "fault", "(I)I"⟩ : MethodName) ∈ wG := wG_at 450 rfl rfl
set_option maxRecDepth 100000 in
theorem a_451 : Cond.code (⟨"MayNotPause", "fault", "(I)I"⟩ : MethodName) cX7_fault 2 (some .int) ∈ wG := wG_at 451 rfl rfl
set_option maxRecDepth 100000 in
theorem a_452 : Cond.methodLink "MayNotPauseLaw" 31 (⟨"MayNotPause", "set", "(II)I"⟩ : MethodName) ∈ wG := wG_at 452 rfl rfl
set_option maxRecDepth 100000 in
theorem a_453 : Cond.instanceMethod (⟨"MayNotPause", "set", "(II)I"⟩ : MethodName) ∈ wG := wG_at 453 rfl rfl
set_option maxRecDepth 100000 in
theorem a_454 : Cond.selects "MayNotPause" (⟨"MayNotPause", "set", "(II)I"⟩ : MethodName) (⟨"MayNotPause", "set", "(II)I"⟩ : MethodName) ∈ wG := wG_at 454 rfl rfl
set_option maxRecDepth 100000 in
theorem a_455 : Cond.code (⟨"MayNotPause", "set", "(II)I"⟩ : MethodName) cX7_set 4 (some .int) ∈ wG := wG_at 455 rfl rfl
set_option maxRecDepth 100000 in
theorem a_456 : Cond.fieldLink "MayNotPause" 101 "MayNotPause" "LEAST_SETTING" "[I" ∈ wG := wG_at 456 rfl rfl
set_option maxRecDepth 100000 in
theorem a_458 : Cond.fieldLink "MayNotPause" 104 "MayNotPause" "MOST_SETTING" "[I" ∈ wG := wG_at 458 rfl rfl
set_option maxRecDepth 100000 in
theorem a_460 : Cond.methodLink "MayNotPauseLaw" 35 (⟨"MayNotPause", "verse", "(II)I"⟩ : MethodName) ∈ wG := wG_at 460 rfl rfl
set_option maxRecDepth 100000 in
theorem a_461 : Cond.instanceMethod (⟨"MayNotPause", "verse", "(II)I"⟩ : MethodName) ∈ wG := wG_at 461 rfl rfl
set_option maxRecDepth 100000 in
theorem a_462 : Cond.selects "MayNotPause" (⟨"MayNotPause", "verse", "(II)I"⟩ : MethodName) (⟨"MayNotPause", "verse", "(II)I"⟩ : MethodName) ∈ wG := wG_at 462 rfl rfl
set_option maxRecDepth 100000 in
theorem a_463 : Cond.code (⟨"MayNotPause", "verse", "(II)I"⟩ : MethodName) cX7_verse 4 (some .int) ∈ wG := wG_at 463 rfl rfl
set_option maxRecDepth 100000 in
theorem a_464 : Cond.methodLink "MayNotPause" 107 (⟨"MayNotPause", "isVerse", "(I)Z"⟩ : MethodName) ∈ wG := wG_at 464 rfl rfl
set_option maxRecDepth 100000 in
theorem a_466 : Cond.instanceMethod (⟨"MayNotPause", "isVerse", "(I)Z"⟩ : MethodName) ∈ wG := wG_at 466 rfl rfl
set_option maxRecDepth 100000 in
theorem a_467 : Cond.code (⟨"MayNotPause", "isVerse", "(I)Z"⟩ : MethodName) cX7_isVerse 2 (some .boolean) ∈ wG := wG_at 467 rfl rfl
set_option maxRecDepth 100000 in
theorem a_468 : Cond.methodLink "MayNotPause" 110 (⟨"MayNotPause$Telling", "turnAt", "(I)LMayNotPause$Turn;"⟩ : MethodName) ∈ wG := wG_at 468 rfl rfl
set_option maxRecDepth 100000 in
theorem a_469 : Cond.methodLink "MayNotPause" 114 (⟨"MayNotPause$Script", "figure", "(II)I"⟩ : MethodName) ∈ wG := wG_at 469 rfl rfl
set_option maxRecDepth 100000 in
theorem a_470 : Cond.methodLink "MayNotPauseLaw" 39 (⟨"MayNotPause", "when", "(II)I"⟩ : MethodName) ∈ wG := wG_at 470 rfl rfl
set_option maxRecDepth 100000 in
theorem a_471 : Cond.instanceMethod (⟨"MayNotPause", "when", "(II)I"⟩ : MethodName) ∈ wG := wG_at 471 rfl rfl
set_option maxRecDepth 100000 in
theorem a_472 : Cond.selects "MayNotPause" (⟨"MayNotPause", "when", "(II)I"⟩ : MethodName) (⟨"MayNotPause", "when", "(II)I"⟩ : MethodName) ∈ wG := wG_at 472 rfl rfl
set_option maxRecDepth 100000 in
theorem a_473 : Cond.code (⟨"MayNotPause", "when", "(II)I"⟩ : MethodName) cX7_when 4 (some .int) ∈ wG := wG_at 473 rfl rfl
set_option maxRecDepth 100000 in
theorem a_474 : Cond.methodLink "MayNotPauseLaw" 43 (⟨"MayNotPause", "poem", "(I)I"⟩ : MethodName) ∈ wG := wG_at 474 rfl rfl
set_option maxRecDepth 100000 in
theorem a_475 : Cond.instanceMethod (⟨"MayNotPause", "poem", "(I)I"⟩ : MethodName) ∈ wG := wG_at 475 rfl rfl
set_option maxRecDepth 100000 in
theorem a_476 : Cond.selects "MayNotPause" (⟨"MayNotPause", "poem", "(I)I"⟩ : MethodName) (⟨"MayNotPause", "poem", "(I)I"⟩ : MethodName) ∈ wG := wG_at 476 rfl rfl
set_option maxRecDepth 100000 in
theorem a_477 : Cond.code (⟨"MayNotPause", "poem", "(I)I"⟩ : MethodName) cX7_poem 2 (some .int) ∈ wG := wG_at 477 rfl rfl
set_option maxRecDepth 100000 in
theorem a_478 : Cond.methodLink "MayNotPause" 144 (⟨"MayNotPause$Telling", "howManyWritten", "()I"⟩ : MethodName) ∈ wG := wG_at 478 rfl rfl
set_option maxRecDepth 100000 in
theorem a_479 : Cond.instanceMethod (⟨"MayNotPause$Telling", "howManyWritten", "()I"⟩ : MethodName) ∈ wG := wG_at 479 rfl rfl
set_option maxRecDepth 100000 in
theorem a_480 : Cond.selects "MayNotPause$Telling" (⟨"MayNotPause$Telling", "howManyWritten", "()I"⟩ : MethodName) (⟨"MayNotPause$Telling", "howManyWritten", "()I"⟩ : MethodName) ∈ wG := wG_at 480 rfl rfl
set_option maxRecDepth 100000 in
theorem a_481 : Cond.code (⟨"MayNotPause$Telling", "howManyWritten", "()I"⟩ : MethodName) cX5_howManyWritten 2 (some .int) ∈ wG := wG_at 481 rfl rfl
set_option maxRecDepth 100000 in
theorem a_482 : Cond.methodLink "MayNotPause" 148 (⟨"MayNotPause$Telling", "lastWritten", "()I"⟩ : MethodName) ∈ wG := wG_at 482 rfl rfl
set_option maxRecDepth 100000 in
theorem a_483 : Cond.instanceMethod (⟨"MayNotPause$Telling", "lastWritten", "()I"⟩ : MethodName) ∈ wG := wG_at 483 rfl rfl
set_option maxRecDepth 100000 in
theorem a_484 : Cond.selects "MayNotPause$Telling" (⟨"MayNotPause$Telling", "lastWritten", "()I"⟩ : MethodName) (⟨"MayNotPause$Telling", "lastWritten", "()I"⟩ : MethodName) ∈ wG := wG_at 484 rfl rfl
set_option maxRecDepth 100000 in
theorem a_485 : Cond.code (⟨"MayNotPause$Telling", "lastWritten", "()I"⟩ : MethodName) cX5_lastWritten 1 (some .int) ∈ wG := wG_at 485 rfl rfl
set_option maxRecDepth 100000 in
theorem a_486 : Cond.methodLink "MayNotPause$Telling" 100 (⟨"MayNotPause$Telling", "howManyWritten", "()I"⟩ : MethodName) ∈ wG := wG_at 486 rfl rfl
set_option maxRecDepth 100000 in
theorem a_487 : Cond.methodLink "MayNotPause" 151 (⟨"MayNotPause$Telling", "last", "()LMayNotPause$Turn;"⟩ : MethodName) ∈ wG := wG_at 487 rfl rfl
set_option maxRecDepth 100000 in
theorem a_488 : Cond.methodLink "MayNotPauseLaw" 47 (⟨"MayNotPause", "judged", "()I"⟩ : MethodName) ∈ wG := wG_at 488 rfl rfl
set_option maxRecDepth 100000 in
theorem a_489 : Cond.instanceMethod (⟨"MayNotPause", "judged", "()I"⟩ : MethodName) ∈ wG := wG_at 489 rfl rfl
set_option maxRecDepth 100000 in
theorem a_490 : Cond.selects "MayNotPause" (⟨"MayNotPause", "judged", "()I"⟩ : MethodName) (⟨"MayNotPause", "judged", "()I"⟩ : MethodName) ∈ wG := wG_at 490 rfl rfl
set_option maxRecDepth 100000 in
theorem a_491 : Cond.code (⟨"MayNotPause", "judged", "()I"⟩ : MethodName) cX7_judged 3 (some .int) ∈ wG := wG_at 491 rfl rfl
set_option maxRecDepth 100000 in
theorem a_492 : Cond.methodLink "MayNotPauseLaw" 52 (⟨"MayNotPause", "rest", "(I)I"⟩ : MethodName) ∈ wG := wG_at 492 rfl rfl
set_option maxRecDepth 100000 in
theorem a_493 : Cond.instanceMethod (⟨"MayNotPause", "rest", "(I)I"⟩ : MethodName) ∈ wG := wG_at 493 rfl rfl
set_option maxRecDepth 100000 in
theorem a_494 : Cond.selects "MayNotPause" (⟨"MayNotPause", "rest", "(I)I"⟩ : MethodName) (⟨"MayNotPause", "rest", "(I)I"⟩ : MethodName) ∈ wG := wG_at 494 rfl rfl
set_option maxRecDepth 100000 in
theorem a_495 : Cond.code (⟨"MayNotPause", "rest", "(I)I"⟩ : MethodName) cX7_rest 3 (some .int) ∈ wG := wG_at 495 rfl rfl
set_option maxRecDepth 100000 in
theorem a_496 : Cond.methodLink "MayNotPauseLaw" 56 (⟨"MayNotPause", "doing", "(II)I"⟩ : MethodName) ∈ wG := wG_at 496 rfl rfl
set_option maxRecDepth 100000 in
theorem a_497 : Cond.instanceMethod (⟨"MayNotPause", "doing", "(II)I"⟩ : MethodName) ∈ wG := wG_at 497 rfl rfl
set_option maxRecDepth 100000 in
theorem a_498 : Cond.selects "MayNotPause" (⟨"MayNotPause", "doing", "(II)I"⟩ : MethodName) (⟨"MayNotPause", "doing", "(II)I"⟩ : MethodName) ∈ wG := wG_at 498 rfl rfl
set_option maxRecDepth 100000 in
theorem a_499 : Cond.code (⟨"MayNotPause", "doing", "(II)I"⟩ : MethodName) cX7_doing 3 (some .int) ∈ wG := wG_at 499 rfl rfl
set_option maxRecDepth 100000 in
theorem a_500 : Cond.methodLink "MayNotPause" 164 (⟨"MayNotPause$Telling", "saidIn", "(I)I"⟩ : MethodName) ∈ wG := wG_at 500 rfl rfl
set_option maxRecDepth 100000 in
theorem a_501 : Cond.instanceMethod (⟨"MayNotPause$Telling", "saidIn", "(I)I"⟩ : MethodName) ∈ wG := wG_at 501 rfl rfl
set_option maxRecDepth 100000 in
theorem a_502 : Cond.selects "MayNotPause$Telling" (⟨"MayNotPause$Telling", "saidIn", "(I)I"⟩ : MethodName) (⟨"MayNotPause$Telling", "saidIn", "(I)I"⟩ : MethodName) ∈ wG := wG_at 502 rfl rfl
set_option maxRecDepth 100000 in
theorem a_503 : Cond.code (⟨"MayNotPause$Telling", "saidIn", "(I)I"⟩ : MethodName) cX5_saidIn 3 (some .int) ∈ wG := wG_at 503 rfl rfl
set_option maxRecDepth 100000 in
theorem a_504 : Cond.methodLink "MayNotPause$Telling" 104 (⟨"MayNotPause$Telling", "isSaidIn", "(LMayNotPause$Turn;I)Z"⟩ : MethodName) ∈ wG := wG_at 504 rfl rfl
set_option maxRecDepth 100000 in
theorem a_505 : Cond.static (⟨"MayNotPause$Telling", "isSaidIn", "(LMayNotPause$Turn;I)Z"⟩ : MethodName) ∈ wG := wG_at 505 rfl rfl
set_option maxRecDepth 100000 in
theorem a_506 : Cond.code (⟨"MayNotPause$Telling", "isSaidIn", "(LMayNotPause$Turn;I)Z"⟩ : MethodName) cX5_isSaidIn 2 (some .boolean) ∈ wG := wG_at 506 rfl rfl
set_option maxRecDepth 100000 in
theorem a_507 : Cond.methodLink "MayNotPause" 168 (⟨"MayNotPause$Telling", "madeIn", "(I)I"⟩ : MethodName) ∈ wG := wG_at 507 rfl rfl
set_option maxRecDepth 100000 in
theorem a_508 : Cond.instanceMethod (⟨"MayNotPause$Telling", "madeIn", "(I)I"⟩ : MethodName) ∈ wG := wG_at 508 rfl rfl
set_option maxRecDepth 100000 in
theorem a_509 : Cond.selects "MayNotPause$Telling" (⟨"MayNotPause$Telling", "madeIn", "(I)I"⟩ : MethodName) (⟨"MayNotPause$Telling", "madeIn", "(I)I"⟩ : MethodName) ∈ wG := wG_at 509 rfl rfl
set_option maxRecDepth 100000 in
theorem a_510 : Cond.code (⟨"MayNotPause$Telling", "madeIn", "(I)I"⟩ : MethodName) cX5_madeIn 5 (some .int) ∈ wG := wG_at 510 rfl rfl
set_option maxRecDepth 100000 in
theorem a_511 : Cond.methodLink "MayNotPause" 171 (⟨"MayNotPause$Telling", "inHandIn", "(I)I"⟩ : MethodName) ∈ wG := wG_at 511 rfl rfl
set_option maxRecDepth 100000 in
theorem a_512 : Cond.instanceMethod (⟨"MayNotPause$Telling", "inHandIn", "(I)I"⟩ : MethodName) ∈ wG := wG_at 512 rfl rfl
set_option maxRecDepth 100000 in
theorem a_513 : Cond.selects "MayNotPause$Telling" (⟨"MayNotPause$Telling", "inHandIn", "(I)I"⟩ : MethodName) (⟨"MayNotPause$Telling", "inHandIn", "(I)I"⟩ : MethodName) ∈ wG := wG_at 513 rfl rfl
set_option maxRecDepth 100000 in
theorem a_514 : Cond.code (⟨"MayNotPause$Telling", "inHandIn", "(I)I"⟩ : MethodName) cX5_inHandIn 5 (some .int) ∈ wG := wG_at 514 rfl rfl
set_option maxRecDepth 100000 in
theorem a_515 : Cond.methodLink "MayNotPauseLaw" 60 (⟨"MayNotPause", "put", "(I)I"⟩ : MethodName) ∈ wG := wG_at 515 rfl rfl
set_option maxRecDepth 100000 in
theorem a_516 : Cond.instanceMethod (⟨"MayNotPause", "put", "(I)I"⟩ : MethodName) ∈ wG := wG_at 516 rfl rfl
set_option maxRecDepth 100000 in
theorem a_517 : Cond.selects "MayNotPause" (⟨"MayNotPause", "put", "(I)I"⟩ : MethodName) (⟨"MayNotPause", "put", "(I)I"⟩ : MethodName) ∈ wG := wG_at 517 rfl rfl
set_option maxRecDepth 100000 in
theorem a_518 : Cond.code (⟨"MayNotPause", "put", "(I)I"⟩ : MethodName) cX7_put 2 (some .int) ∈ wG := wG_at 518 rfl rfl
set_option maxRecDepth 100000 in
theorem a_519 : Cond.methodLink "MayNotPause" 178 (⟨"MayNotPause$PutSearch", "seek", "()V"⟩ : MethodName) ∈ wG := wG_at 519 rfl rfl
set_option maxRecDepth 100000 in
theorem a_520 : Cond.instanceMethod (⟨"MayNotPause$PutSearch", "seek", "()V"⟩ : MethodName) ∈ wG := wG_at 520 rfl rfl
set_option maxRecDepth 100000 in
theorem a_521 : Cond.selects "MayNotPause$PutSearch" (⟨"MayNotPause$PutSearch", "seek", "()V"⟩ : MethodName) (⟨"MayNotPause$PutSearch", "seek", "()V"⟩ : MethodName) ∈ wG := wG_at 521 rfl rfl
set_option maxRecDepth 100000 in
theorem a_522 : Cond.code (⟨"MayNotPause$PutSearch", "seek", "()V"⟩ : MethodName) cX1_seek 2 none ∈ wG := wG_at 522 rfl rfl
set_option maxRecDepth 100000 in
theorem a_523 : Cond.methodLink "MayNotPause$PutSearch" 29 (⟨"MayNotPause$PutSearch", "attempt", "(IIIII)V"⟩ : MethodName) ∈ wG := wG_at 523 rfl rfl
set_option maxRecDepth 100000 in
theorem a_525 : Cond.instanceMethod (⟨"MayNotPause$PutSearch", "attempt", "(IIIII)V"⟩ : MethodName) ∈ wG := wG_at 525 rfl rfl
set_option maxRecDepth 100000 in
theorem a_526 : Cond.code (⟨"MayNotPause$PutSearch", "attempt", "(IIIII)V"⟩ : MethodName) cX1_attempt 7 none ∈ wG := wG_at 526 rfl rfl
set_option maxRecDepth 100000 in
theorem a_527 : Cond.methodLink "MayNotPause$PutSearch" 45 (⟨"MayNotPause$Telling", "open", "([I)V"⟩ : MethodName) ∈ wG := wG_at 527 rfl rfl
set_option maxRecDepth 100000 in
theorem a_528 : Cond.methodLink "MayNotPause$PutSearch" 51 (⟨"MayNotPause$Telling", "isWholeWithoutPause", "()Z"⟩ : MethodName) ∈ wG := wG_at 528 rfl rfl
set_option maxRecDepth 100000 in
theorem a_529 : Cond.instanceMethod (⟨"MayNotPause$Telling", "isWholeWithoutPause", "()Z"⟩ : MethodName) ∈ wG := wG_at 529 rfl rfl
set_option maxRecDepth 100000 in
theorem a_530 : Cond.selects "MayNotPause$Telling" (⟨"MayNotPause$Telling", "isWholeWithoutPause", "()Z"⟩ : MethodName) (⟨"MayNotPause$Telling", "isWholeWithoutPause", "()Z"⟩ : MethodName) ∈ wG := wG_at 530 rfl rfl
set_option maxRecDepth 100000 in
theorem a_531 : Cond.code (⟨"MayNotPause$Telling", "isWholeWithoutPause", "()Z"⟩ : MethodName) cX5_isWholeWithoutPause 1 (some .boolean) ∈ wG := wG_at 531 rfl rfl
set_option maxRecDepth 100000 in
theorem a_532 : Cond.methodLink "MayNotPause$PutSearch" 55 (⟨"MayNotPause$Telling", "add", "(LMayNotPause$Script;I)V"⟩ : MethodName) ∈ wG := wG_at 532 rfl rfl
set_option maxRecDepth 100000 in
theorem a_533 : Cond.methodLink "MayNotPause$PutSearch" 59 (⟨"MayNotPause$Telling", "last", "()LMayNotPause$Turn;"⟩ : MethodName) ∈ wG := wG_at 533 rfl rfl
set_option maxRecDepth 100000 in
theorem a_534 : Cond.methodLink "MayNotPause$PutSearch" 33 (⟨"MayNotPause$PutSearch", "seekOne", "()V"⟩ : MethodName) ∈ wG := wG_at 534 rfl rfl
set_option maxRecDepth 100000 in
theorem a_536 : Cond.instanceMethod (⟨"MayNotPause$PutSearch", "seekOne", "()V"⟩ : MethodName) ∈ wG := wG_at 536 rfl rfl
set_option maxRecDepth 100000 in
theorem a_537 : Cond.code (⟨"MayNotPause$PutSearch", "seekOne", "()V"⟩ : MethodName) cX1_seekOne 3 none ∈ wG := wG_at 537 rfl rfl
set_option maxRecDepth 100000 in
theorem a_538 : Cond.methodLink "MayNotPause$PutSearch" 36 (⟨"MayNotPause$PutSearch", "seekTwo", "()V"⟩ : MethodName) ∈ wG := wG_at 538 rfl rfl
set_option maxRecDepth 100000 in
theorem a_540 : Cond.instanceMethod (⟨"MayNotPause$PutSearch", "seekTwo", "()V"⟩ : MethodName) ∈ wG := wG_at 540 rfl rfl
set_option maxRecDepth 100000 in
theorem a_541 : Cond.code (⟨"MayNotPause$PutSearch", "seekTwo", "()V"⟩ : MethodName) cX1_seekTwo 5 none ∈ wG := wG_at 541 rfl rfl
set_option maxRecDepth 100000 in
theorem a_542 : Cond.methodLink "MayNotPauseLaw" 64 (⟨"MayNotPause", "order", "(I)I"⟩ : MethodName) ∈ wG := wG_at 542 rfl rfl
set_option maxRecDepth 100000 in
theorem a_543 : Cond.instanceMethod (⟨"MayNotPause", "order", "(I)I"⟩ : MethodName) ∈ wG := wG_at 543 rfl rfl
set_option maxRecDepth 100000 in
theorem a_544 : Cond.selects "MayNotPause" (⟨"MayNotPause", "order", "(I)I"⟩ : MethodName) (⟨"MayNotPause", "order", "(I)I"⟩ : MethodName) ∈ wG := wG_at 544 rfl rfl
set_option maxRecDepth 100000 in
theorem a_545 : Cond.code (⟨"MayNotPause", "order", "(I)I"⟩ : MethodName) cX7_order 2 (some .int) ∈ wG := wG_at 545 rfl rfl
set_option maxRecDepth 100000 in
theorem a_546 : Cond.methodLink "MayNotPause" 187 (⟨"MayNotPause$OrderSearch", "seek", "()V"⟩ : MethodName) ∈ wG := wG_at 546 rfl rfl
set_option maxRecDepth 100000 in
theorem a_547 : Cond.instanceMethod (⟨"MayNotPause$OrderSearch", "seek", "()V"⟩ : MethodName) ∈ wG := wG_at 547 rfl rfl
set_option maxRecDepth 100000 in
theorem a_548 : Cond.selects "MayNotPause$OrderSearch" (⟨"MayNotPause$OrderSearch", "seek", "()V"⟩ : MethodName) (⟨"MayNotPause$OrderSearch", "seek", "()V"⟩ : MethodName) ∈ wG := wG_at 548 rfl rfl
set_option maxRecDepth 100000 in
theorem a_549 : Cond.code (⟨"MayNotPause$OrderSearch", "seek", "()V"⟩ : MethodName) cX0_seek 2 none ∈ wG := wG_at 549 rfl rfl
set_option maxRecDepth 100000 in
theorem a_550 : Cond.methodLink "MayNotPause$OrderSearch" 39 (⟨"java/lang/Math", "min", "(II)I"⟩ : MethodName) ∈ wG := wG_at 550 rfl rfl
set_option maxRecDepth 100000 in
theorem a_553 : Cond.constant "MayNotPause$OrderSearch" 46 1000000 ∈ wG := wG_at 553 rfl rfl
set_option maxRecDepth 100000 in
theorem a_554 : Cond.methodLink "MayNotPause$OrderSearch" 53 (⟨"MayNotPause$Telling", "open", "([I)V"⟩ : MethodName) ∈ wG := wG_at 554 rfl rfl
set_option maxRecDepth 100000 in
theorem a_555 : Cond.methodLink "MayNotPause$OrderSearch" 59 (⟨"MayNotPause$Telling", "letHimPause", "()V"⟩ : MethodName) ∈ wG := wG_at 555 rfl rfl
set_option maxRecDepth 100000 in
theorem a_556 : Cond.instanceMethod (⟨"MayNotPause$Telling", "letHimPause", "()V"⟩ : MethodName) ∈ wG := wG_at 556 rfl rfl
set_option maxRecDepth 100000 in
theorem a_557 : Cond.selects "MayNotPause$Telling" (⟨"MayNotPause$Telling", "letHimPause", "()V"⟩ : MethodName) (⟨"MayNotPause$Telling", "letHimPause", "()V"⟩ : MethodName) ∈ wG := wG_at 557 rfl rfl
set_option maxRecDepth 100000 in
theorem a_558 : Cond.code (⟨"MayNotPause$Telling", "letHimPause", "()V"⟩ : MethodName) cX5_letHimPause 1 none ∈ wG := wG_at 558 rfl rfl
set_option maxRecDepth 100000 in
theorem a_559 : Cond.methodLink "MayNotPause$OrderSearch" 62 (⟨"MayNotPause$OrderSearch", "placeFrom", "(LMayNotPause$OrderSearch;I)V"⟩ : MethodName) ∈ wG := wG_at 559 rfl rfl
set_option maxRecDepth 100000 in
theorem a_560 : Cond.static (⟨"MayNotPause$OrderSearch", "placeFrom", "(LMayNotPause$OrderSearch;I)V"⟩ : MethodName) ∈ wG := wG_at 560 rfl rfl
set_option maxRecDepth 100000 in
theorem a_561 : Cond.code (⟨"MayNotPause$OrderSearch", "placeFrom", "(LMayNotPause$OrderSearch;I)V"⟩ : MethodName) cX0_placeFrom 3 none ∈ wG := wG_at 561 rfl rfl
set_option maxRecDepth 100000 in
theorem a_562 : Cond.methodLink "MayNotPause$OrderSearch" 66 (⟨"MayNotPause$OrderSearch", "keep", "()V"⟩ : MethodName) ∈ wG := wG_at 562 rfl rfl
set_option maxRecDepth 100000 in
theorem a_564 : Cond.instanceMethod (⟨"MayNotPause$OrderSearch", "keep", "()V"⟩ : MethodName) ∈ wG := wG_at 564 rfl rfl
set_option maxRecDepth 100000 in
theorem a_565 : Cond.code (⟨"MayNotPause$OrderSearch", "keep", "()V"⟩ : MethodName) cX0_keep 2 none ∈ wG := wG_at 565 rfl rfl
set_option maxRecDepth 100000 in
theorem a_566 : Cond.methodLink "MayNotPause$OrderSearch" 80 (⟨"MayNotPause$Telling", "last", "()LMayNotPause$Turn;"⟩ : MethodName) ∈ wG := wG_at 566 rfl rfl
set_option maxRecDepth 100000 in
theorem a_567 : Cond.methodLink "MayNotPause$OrderSearch" 69 (⟨"MayNotPause$Telling", "add", "(LMayNotPause$Script;I)V"⟩ : MethodName) ∈ wG := wG_at 567 rfl rfl
set_option maxRecDepth 100000 in
theorem a_568 : Cond.methodLink "MayNotPause$OrderSearch" 73 (⟨"MayNotPause$OrderSearch", "mayBeBest", "()Z"⟩ : MethodName) ∈ wG := wG_at 568 rfl rfl
set_option maxRecDepth 100000 in
theorem a_570 : Cond.instanceMethod (⟨"MayNotPause$OrderSearch", "mayBeBest", "()Z"⟩ : MethodName) ∈ wG := wG_at 570 rfl rfl
set_option maxRecDepth 100000 in
theorem a_571 : Cond.code (⟨"MayNotPause$OrderSearch", "mayBeBest", "()Z"⟩ : MethodName) cX0_mayBeBest 2 (some .boolean) ∈ wG := wG_at 571 rfl rfl
set_option maxRecDepth 100000 in
theorem a_572 : Cond.methodLink "MayNotPause$OrderSearch" 77 (⟨"MayNotPause$Telling", "dropLast", "()V"⟩ : MethodName) ∈ wG := wG_at 572 rfl rfl
set_option maxRecDepth 100000 in
theorem a_573 : Cond.instanceMethod (⟨"MayNotPause$Telling", "dropLast", "()V"⟩ : MethodName) ∈ wG := wG_at 573 rfl rfl
set_option maxRecDepth 100000 in
theorem a_574 : Cond.selects "MayNotPause$Telling" (⟨"MayNotPause$Telling", "dropLast", "()V"⟩ : MethodName) (⟨"MayNotPause$Telling", "dropLast", "()V"⟩ : MethodName) ∈ wG := wG_at 574 rfl rfl
set_option maxRecDepth 100000 in
theorem a_575 : Cond.code (⟨"MayNotPause$Telling", "dropLast", "()V"⟩ : MethodName) cX5_dropLast 1 none ∈ wG := wG_at 575 rfl rfl
set_option maxRecDepth 100000 in
theorem a_576 : Cond.methodLink "MayNotPauseLaw" 68 (⟨"MayNotPause", "lead", "()I"⟩ : MethodName) ∈ wG := wG_at 576 rfl rfl
set_option maxRecDepth 100000 in
theorem a_577 : Cond.instanceMethod (⟨"MayNotPause", "lead", "()I"⟩ : MethodName) ∈ wG := wG_at 577 rfl rfl
set_option maxRecDepth 100000 in
theorem a_578 : Cond.selects "MayNotPause" (⟨"MayNotPause", "lead", "()I"⟩ : MethodName) (⟨"MayNotPause", "lead", "()I"⟩ : MethodName) ∈ wG := wG_at 578 rfl rfl
set_option maxRecDepth 100000 in
theorem a_579 : Cond.code (⟨"MayNotPause", "lead", "()I"⟩ : MethodName) cX7_lead 2 (some .int) ∈ wG := wG_at 579 rfl rfl
set_option maxRecDepth 100000 in
theorem a_580 : Cond.methodLink "MayNotPause" 199 (⟨"MayNotPause$Telling", "changeLead", "(I)V"⟩ : MethodName) ∈ wG := wG_at 580 rfl rfl
set_option maxRecDepth 100000 in
theorem a_581 : Cond.instanceMethod (⟨"MayNotPause$Telling", "changeLead", "(I)V"⟩ : MethodName) ∈ wG := wG_at 581 rfl rfl
set_option maxRecDepth 100000 in
theorem a_582 : Cond.selects "MayNotPause$Telling" (⟨"MayNotPause$Telling", "changeLead", "(I)V"⟩ : MethodName) (⟨"MayNotPause$Telling", "changeLead", "(I)V"⟩ : MethodName) ∈ wG := wG_at 582 rfl rfl
set_option maxRecDepth 100000 in
theorem a_583 : Cond.code (⟨"MayNotPause$Telling", "changeLead", "(I)V"⟩ : MethodName) cX5_changeLead 2 none ∈ wG := wG_at 583 rfl rfl
set_option maxRecDepth 100000 in
theorem a_584 : Cond.methodLink "MayNotPause" 206 (⟨"MayNotPause$Telling", "isWholeWithoutPause", "()Z"⟩ : MethodName) ∈ wG := wG_at 584 rfl rfl
set_option maxRecDepth 100000 in
theorem a_585 : Cond.methodLink "MayNotPauseLaw" 72 (⟨"MayNotPause", "odds", "(I)J"⟩ : MethodName) ∈ wG := wG_at 585 rfl rfl
set_option maxRecDepth 100000 in
theorem a_586 : Cond.instanceMethod (⟨"MayNotPause", "odds", "(I)J"⟩ : MethodName) ∈ wG := wG_at 586 rfl rfl
set_option maxRecDepth 100000 in
theorem a_587 : Cond.selects "MayNotPause" (⟨"MayNotPause", "odds", "(I)J"⟩ : MethodName) (⟨"MayNotPause", "odds", "(I)J"⟩ : MethodName) ∈ wG := wG_at 587 rfl rfl
set_option maxRecDepth 100000 in
theorem a_588 : Cond.code (⟨"MayNotPause", "odds", "(I)J"⟩ : MethodName) cX7_odds 11 (some .long) ∈ wG := wG_at 588 rfl rfl
set_option maxRecDepth 100000 in
theorem a_589 : Cond.constantLong "MayNotPause" 209 (-9223372036854775806) ∈ wG := wG_at 589 rfl rfl
set_option maxRecDepth 100000 in
theorem a_590 : Cond.methodLink "MayNotPause" 211 (⟨"MayNotPause", "sixteenths", "(I)I"⟩ : MethodName) ∈ wG := wG_at 590 rfl rfl
set_option maxRecDepth 100000 in
theorem a_592 : Cond.instanceMethod (⟨"MayNotPause", "sixteenths", "(I)I"⟩ : MethodName) ∈ wG := wG_at 592 rfl rfl
set_option maxRecDepth 100000 in
theorem a_593 : Cond.code (⟨"MayNotPause", "sixteenths", "(I)I"⟩ : MethodName) cX7_sixteenths 2 (some .int) ∈ wG := wG_at 593 rfl rfl
set_option maxRecDepth 100000 in
theorem a_594 : Cond.methodLink "MayNotPause" 355 (⟨"java/lang/Math", "max", "(II)I"⟩ : MethodName) ∈ wG := wG_at 594 rfl rfl
set_option maxRecDepth 100000 in
theorem a_595 : Cond.constantLong "MayNotPause" 214 16 ∈ wG := wG_at 595 rfl rfl
set_option maxRecDepth 100000 in
theorem a_596 : Cond.constantLong "MayNotPause" 216 2 ∈ wG := wG_at 596 rfl rfl
set_option maxRecDepth 100000 in
theorem a_597 : Cond.methodLink "MayNotPauseLaw" 77 (⟨"MayNotPause", "drawn", "(I)I"⟩ : MethodName) ∈ wG := wG_at 597 rfl rfl
set_option maxRecDepth 100000 in
theorem a_598 : Cond.instanceMethod (⟨"MayNotPause", "drawn", "(I)I"⟩ : MethodName) ∈ wG := wG_at 598 rfl rfl
set_option maxRecDepth 100000 in
theorem a_599 : Cond.selects "MayNotPause" (⟨"MayNotPause", "drawn", "(I)I"⟩ : MethodName) (⟨"MayNotPause", "drawn", "(I)I"⟩ : MethodName) ∈ wG := wG_at 599 rfl rfl
set_option maxRecDepth 100000 in
theorem a_600 : Cond.code (⟨"MayNotPause", "drawn", "(I)I"⟩ : MethodName) cX7_drawn 5 (some .int) ∈ wG := wG_at 600 rfl rfl
set_option maxRecDepth 100000 in
theorem a_601 : Cond.constant "MayNotPause" 218 1103515245 ∈ wG := wG_at 601 rfl rfl
set_option maxRecDepth 100000 in
theorem a_602 : Cond.methodLink "MayNotPauseLaw" 81 (⟨"MayNotPause", "line", "(II)I"⟩ : MethodName) ∈ wG := wG_at 602 rfl rfl
set_option maxRecDepth 100000 in
theorem a_603 : Cond.instanceMethod (⟨"MayNotPause", "line", "(II)I"⟩ : MethodName) ∈ wG := wG_at 603 rfl rfl
set_option maxRecDepth 100000 in
theorem a_604 : Cond.selects "MayNotPause" (⟨"MayNotPause", "line", "(II)I"⟩ : MethodName) (⟨"MayNotPause", "line", "(II)I"⟩ : MethodName) ∈ wG := wG_at 604 rfl rfl
set_option maxRecDepth 100000 in
theorem a_605 : Cond.code (⟨"MayNotPause", "line", "(II)I"⟩ : MethodName) cX7_line 4 (some .int) ∈ wG := wG_at 605 rfl rfl
set_option maxRecDepth 100000 in
theorem a_606 : Cond.methodLink "MayNotPause" 219 (⟨"MayNotPause", "errorsBy", "(II)I"⟩ : MethodName) ∈ wG := wG_at 606 rfl rfl
set_option maxRecDepth 100000 in
theorem a_608 : Cond.instanceMethod (⟨"MayNotPause", "errorsBy", "(II)I"⟩ : MethodName) ∈ wG := wG_at 608 rfl rfl
set_option maxRecDepth 100000 in
theorem a_609 : Cond.code (⟨"MayNotPause", "errorsBy", "(II)I"⟩ : MethodName) cX7_errorsBy 7 (some .int) ∈ wG := wG_at 609 rfl rfl
set_option maxRecDepth 100000 in
theorem a_610 : Cond.methodLink "MayNotPause" 222 (⟨"MayNotPause", "bestLine", "()I"⟩ : MethodName) ∈ wG := wG_at 610 rfl rfl
set_option maxRecDepth 100000 in
theorem a_612 : Cond.instanceMethod (⟨"MayNotPause", "bestLine", "()I"⟩ : MethodName) ∈ wG := wG_at 612 rfl rfl
set_option maxRecDepth 100000 in
theorem a_613 : Cond.code (⟨"MayNotPause", "bestLine", "()I"⟩ : MethodName) cX7_bestLine 5 (some .int) ∈ wG := wG_at 613 rfl rfl
set_option maxRecDepth 100000 in
theorem a_614 : Cond.methodLink "MayNotPauseLaw" 85 (⟨"MayNotPause", "seen", "(II)I"⟩ : MethodName) ∈ wG := wG_at 614 rfl rfl
set_option maxRecDepth 100000 in
theorem a_615 : Cond.instanceMethod (⟨"MayNotPause", "seen", "(II)I"⟩ : MethodName) ∈ wG := wG_at 615 rfl rfl
set_option maxRecDepth 100000 in
theorem a_616 : Cond.selects "MayNotPause" (⟨"MayNotPause", "seen", "(II)I"⟩ : MethodName) (⟨"MayNotPause", "seen", "(II)I"⟩ : MethodName) ∈ wG := wG_at 616 rfl rfl
set_option maxRecDepth 100000 in
theorem a_617 : Cond.code (⟨"MayNotPause", "seen", "(II)I"⟩ : MethodName) cX7_seen 3 (some .int) ∈ wG := wG_at 617 rfl rfl
set_option maxRecDepth 100000 in
theorem a_618 : Cond.methodLink "MayNotPause" 225 (⟨"MayNotPause$Sightings", "mayBe", "(II)Z"⟩ : MethodName) ∈ wG := wG_at 618 rfl rfl
set_option maxRecDepth 100000 in
theorem a_619 : Cond.static (⟨"MayNotPause$Sightings", "mayBe", "(II)Z"⟩ : MethodName) ∈ wG := wG_at 619 rfl rfl
set_option maxRecDepth 100000 in
theorem a_620 : Cond.code (⟨"MayNotPause$Sightings", "mayBe", "(II)Z"⟩ : MethodName) cX4_mayBe 2 (some .boolean) ∈ wG := wG_at 620 rfl rfl
set_option maxRecDepth 100000 in
theorem a_621 : Cond.methodLink "MayNotPause" 229 (⟨"MayNotPause$Sightings", "isFull", "()Z"⟩ : MethodName) ∈ wG := wG_at 621 rfl rfl
set_option maxRecDepth 100000 in
theorem a_622 : Cond.instanceMethod (⟨"MayNotPause$Sightings", "isFull", "()Z"⟩ : MethodName) ∈ wG := wG_at 622 rfl rfl
set_option maxRecDepth 100000 in
theorem a_623 : Cond.selects "MayNotPause$Sightings" (⟨"MayNotPause$Sightings", "isFull", "()Z"⟩ : MethodName) (⟨"MayNotPause$Sightings", "isFull", "()Z"⟩ : MethodName) ∈ wG := wG_at 623 rfl rfl
set_option maxRecDepth 100000 in
theorem a_624 : Cond.code (⟨"MayNotPause$Sightings", "isFull", "()Z"⟩ : MethodName) cX4_isFull 1 (some .boolean) ∈ wG := wG_at 624 rfl rfl
set_option maxRecDepth 100000 in
theorem a_625 : Cond.methodLink "MayNotPause" 230 (⟨"MayNotPause$Sightings", "add", "(II)V"⟩ : MethodName) ∈ wG := wG_at 625 rfl rfl
set_option maxRecDepth 100000 in
theorem a_626 : Cond.instanceMethod (⟨"MayNotPause$Sightings", "add", "(II)V"⟩ : MethodName) ∈ wG := wG_at 626 rfl rfl
set_option maxRecDepth 100000 in
theorem a_627 : Cond.selects "MayNotPause$Sightings" (⟨"MayNotPause$Sightings", "add", "(II)V"⟩ : MethodName) (⟨"MayNotPause$Sightings", "add", "(II)V"⟩ : MethodName) ∈ wG := wG_at 627 rfl rfl
set_option maxRecDepth 100000 in
theorem a_628 : Cond.code (⟨"MayNotPause$Sightings", "add", "(II)V"⟩ : MethodName) cX4_add 3 none ∈ wG := wG_at 628 rfl rfl
set_option maxRecDepth 100000 in
theorem a_629 : Cond.methodLink "MayNotPause$Sightings" 22 (⟨"MayNotPause$Sightings", "isFull", "()Z"⟩ : MethodName) ∈ wG := wG_at 629 rfl rfl
set_option maxRecDepth 100000 in
theorem a_630 : Cond.methodLink "MayNotPauseLaw" 89 (⟨"MayNotPause", "forget", "()I"⟩ : MethodName) ∈ wG := wG_at 630 rfl rfl
set_option maxRecDepth 100000 in
theorem a_631 : Cond.instanceMethod (⟨"MayNotPause", "forget", "()I"⟩ : MethodName) ∈ wG := wG_at 631 rfl rfl
set_option maxRecDepth 100000 in
theorem a_632 : Cond.selects "MayNotPause" (⟨"MayNotPause", "forget", "()I"⟩ : MethodName) (⟨"MayNotPause", "forget", "()I"⟩ : MethodName) ∈ wG := wG_at 632 rfl rfl
set_option maxRecDepth 100000 in
theorem a_633 : Cond.code (⟨"MayNotPause", "forget", "()I"⟩ : MethodName) cX7_forget 2 (some .int) ∈ wG := wG_at 633 rfl rfl
set_option maxRecDepth 100000 in
theorem a_634 : Cond.methodLink "MayNotPauseLaw" 93 (⟨"MayNotPause", "leads", "()I"⟩ : MethodName) ∈ wG := wG_at 634 rfl rfl
set_option maxRecDepth 100000 in
theorem a_635 : Cond.instanceMethod (⟨"MayNotPause", "leads", "()I"⟩ : MethodName) ∈ wG := wG_at 635 rfl rfl
set_option maxRecDepth 100000 in
theorem a_636 : Cond.selects "MayNotPause" (⟨"MayNotPause", "leads", "()I"⟩ : MethodName) (⟨"MayNotPause", "leads", "()I"⟩ : MethodName) ∈ wG := wG_at 636 rfl rfl
set_option maxRecDepth 100000 in
theorem a_637 : Cond.code (⟨"MayNotPause", "leads", "()I"⟩ : MethodName) cX7_leads 3 (some .int) ∈ wG := wG_at 637 rfl rfl
set_option maxRecDepth 100000 in
theorem a_638 : Cond.methodLink "MayNotPause" 235 (⟨"MayNotPause$Sightings", "fit", "(LMayNotPause$Telling;)Z"⟩ : MethodName) ∈ wG := wG_at 638 rfl rfl
set_option maxRecDepth 100000 in
theorem a_639 : Cond.instanceMethod (⟨"MayNotPause$Sightings", "fit", "(LMayNotPause$Telling;)Z"⟩ : MethodName) ∈ wG := wG_at 639 rfl rfl
set_option maxRecDepth 100000 in
theorem a_640 : Cond.selects "MayNotPause$Sightings" (⟨"MayNotPause$Sightings", "fit", "(LMayNotPause$Telling;)Z"⟩ : MethodName) (⟨"MayNotPause$Sightings", "fit", "(LMayNotPause$Telling;)Z"⟩ : MethodName) ∈ wG := wG_at 640 rfl rfl
set_option maxRecDepth 100000 in
theorem a_641 : Cond.code (⟨"MayNotPause$Sightings", "fit", "(LMayNotPause$Telling;)Z"⟩ : MethodName) cX4_fit 3 (some .boolean) ∈ wG := wG_at 641 rfl rfl
set_option maxRecDepth 100000 in
theorem a_642 : Cond.methodLink "MayNotPause$Sightings" 26 (⟨"MayNotPause$Telling", "madeIn", "(I)I"⟩ : MethodName) ∈ wG := wG_at 642 rfl rfl
set_option maxRecDepth 100000 in
theorem a_643 : Cond.methodLink "MayNotPauseLaw" 97 (⟨"MayNotPause", "read", "(I)I"⟩ : MethodName) ∈ wG := wG_at 643 rfl rfl
set_option maxRecDepth 100000 in
theorem a_644 : Cond.instanceMethod (⟨"MayNotPause", "read", "(I)I"⟩ : MethodName) ∈ wG := wG_at 644 rfl rfl
set_option maxRecDepth 100000 in
theorem a_645 : Cond.selects "MayNotPause" (⟨"MayNotPause", "read", "(I)I"⟩ : MethodName) (⟨"MayNotPause", "read", "(I)I"⟩ : MethodName) ∈ wG := wG_at 645 rfl rfl
set_option maxRecDepth 100000 in
theorem a_646 : Cond.code (⟨"MayNotPause", "read", "(I)I"⟩ : MethodName) cX7_read 7 (some .int) ∈ wG := wG_at 646 rfl rfl
set_option maxRecDepth 100000 in
theorem a_647 : Cond.methodLink "MayNotPause" 239 (⟨"MayNotPause", "isSheet", "(I)Z"⟩ : MethodName) ∈ wG := wG_at 647 rfl rfl
set_option maxRecDepth 100000 in
theorem a_648 : Cond.static (⟨"MayNotPause", "isSheet", "(I)Z"⟩ : MethodName) ∈ wG := wG_at 648 rfl rfl
set_option maxRecDepth 100000 in
theorem a_649 : Cond.code (⟨"MayNotPause", "isSheet", "(I)Z"⟩ : MethodName) cX7_isSheet 1 (some .boolean) ∈ wG := wG_at 649 rfl rfl
set_option maxRecDepth 100000 in
theorem a_650 : Cond.methodLink "MayNotPause" 245 (⟨"MayNotPause", "found", "(I)I"⟩ : MethodName) ∈ wG := wG_at 650 rfl rfl
set_option maxRecDepth 100000 in
theorem a_652 : Cond.instanceMethod (⟨"MayNotPause", "found", "(I)I"⟩ : MethodName) ∈ wG := wG_at 652 rfl rfl
set_option maxRecDepth 100000 in
theorem a_653 : Cond.code (⟨"MayNotPause", "found", "(I)I"⟩ : MethodName) cX7_found 2 (some .int) ∈ wG := wG_at 653 rfl rfl
set_option maxRecDepth 100000 in
theorem a_654 : Cond.methodLink "MayNotPause" 249 (⟨"MayNotPause$Sheet", "item", "(I)I"⟩ : MethodName) ∈ wG := wG_at 654 rfl rfl
set_option maxRecDepth 100000 in
theorem a_655 : Cond.instanceMethod (⟨"MayNotPause$Sheet", "item", "(I)I"⟩ : MethodName) ∈ wG := wG_at 655 rfl rfl
set_option maxRecDepth 100000 in
theorem a_656 : Cond.selects "MayNotPause$Sheet" (⟨"MayNotPause$Sheet", "item", "(I)I"⟩ : MethodName) (⟨"MayNotPause$Sheet", "item", "(I)I"⟩ : MethodName) ∈ wG := wG_at 656 rfl rfl
set_option maxRecDepth 100000 in
theorem a_657 : Cond.code (⟨"MayNotPause$Sheet", "item", "(I)I"⟩ : MethodName) cX3_item 2 (some .int) ∈ wG := wG_at 657 rfl rfl
set_option maxRecDepth 100000 in
theorem a_658 : Cond.methodLink "MayNotPause$Sheet" 26 (⟨"MayNotPause$Sheet", "hasItem", "(I)Z"⟩ : MethodName) ∈ wG := wG_at 658 rfl rfl
set_option maxRecDepth 100000 in
theorem a_659 : Cond.instanceMethod (⟨"MayNotPause$Sheet", "hasItem", "(I)Z"⟩ : MethodName) ∈ wG := wG_at 659 rfl rfl
set_option maxRecDepth 100000 in
theorem a_660 : Cond.selects "MayNotPause$Sheet" (⟨"MayNotPause$Sheet", "hasItem", "(I)Z"⟩ : MethodName) (⟨"MayNotPause$Sheet", "hasItem", "(I)Z"⟩ : MethodName) ∈ wG := wG_at 660 rfl rfl
set_option maxRecDepth 100000 in
theorem a_661 : Cond.code (⟨"MayNotPause$Sheet", "hasItem", "(I)Z"⟩ : MethodName) cX3_hasItem 2 (some .boolean) ∈ wG := wG_at 661 rfl rfl
set_option maxRecDepth 100000 in
theorem a_662 : Cond.methodLink "MayNotPauseLaw" 101 (⟨"MayNotPause", "sheet", "(III)I"⟩ : MethodName) ∈ wG := wG_at 662 rfl rfl
set_option maxRecDepth 100000 in
theorem a_663 : Cond.instanceMethod (⟨"MayNotPause", "sheet", "(III)I"⟩ : MethodName) ∈ wG := wG_at 663 rfl rfl
set_option maxRecDepth 100000 in
theorem a_664 : Cond.selects "MayNotPause" (⟨"MayNotPause", "sheet", "(III)I"⟩ : MethodName) (⟨"MayNotPause", "sheet", "(III)I"⟩ : MethodName) ∈ wG := wG_at 664 rfl rfl
set_option maxRecDepth 100000 in
theorem a_665 : Cond.code (⟨"MayNotPause", "sheet", "(III)I"⟩ : MethodName) cX7_sheet 4 (some .int) ∈ wG := wG_at 665 rfl rfl
set_option maxRecDepth 100000 in
theorem a_666 : Cond.methodLink "MayNotPause" 252 (⟨"MayNotPause", "isForm", "(I)Z"⟩ : MethodName) ∈ wG := wG_at 666 rfl rfl
set_option maxRecDepth 100000 in
theorem a_667 : Cond.static (⟨"MayNotPause", "isForm", "(I)Z"⟩ : MethodName) ∈ wG := wG_at 667 rfl rfl
set_option maxRecDepth 100000 in
theorem a_668 : Cond.code (⟨"MayNotPause", "isForm", "(I)Z"⟩ : MethodName) cX7_isForm 1 (some .boolean) ∈ wG := wG_at 668 rfl rfl
set_option maxRecDepth 100000 in
theorem a_669 : Cond.methodLink "MayNotPause" 255 (⟨"MayNotPause$Sheet", "renew", "(II)V"⟩ : MethodName) ∈ wG := wG_at 669 rfl rfl
set_option maxRecDepth 100000 in
theorem a_670 : Cond.instanceMethod (⟨"MayNotPause$Sheet", "renew", "(II)V"⟩ : MethodName) ∈ wG := wG_at 670 rfl rfl
set_option maxRecDepth 100000 in
theorem a_671 : Cond.selects "MayNotPause$Sheet" (⟨"MayNotPause$Sheet", "renew", "(II)V"⟩ : MethodName) (⟨"MayNotPause$Sheet", "renew", "(II)V"⟩ : MethodName) ∈ wG := wG_at 671 rfl rfl
set_option maxRecDepth 100000 in
theorem a_672 : Cond.code (⟨"MayNotPause$Sheet", "renew", "(II)V"⟩ : MethodName) cX3_renew 4 none ∈ wG := wG_at 672 rfl rfl
set_option maxRecDepth 100000 in
theorem a_673 : Cond.methodLink "MayNotPauseLaw" 106 (⟨"MayNotPause", "lose", "(I)I"⟩ : MethodName) ∈ wG := wG_at 673 rfl rfl
set_option maxRecDepth 100000 in
theorem a_674 : Cond.instanceMethod (⟨"MayNotPause", "lose", "(I)I"⟩ : MethodName) ∈ wG := wG_at 674 rfl rfl
set_option maxRecDepth 100000 in
theorem a_675 : Cond.selects "MayNotPause" (⟨"MayNotPause", "lose", "(I)I"⟩ : MethodName) (⟨"MayNotPause", "lose", "(I)I"⟩ : MethodName) ∈ wG := wG_at 675 rfl rfl
set_option maxRecDepth 100000 in
theorem a_676 : Cond.code (⟨"MayNotPause", "lose", "(I)I"⟩ : MethodName) cX7_lose 2 (some .int) ∈ wG := wG_at 676 rfl rfl
set_option maxRecDepth 100000 in
theorem a_677 : Cond.methodLink "MayNotPauseLaw" 110 (⟨"MayNotPause", "lay", "(IIII)I"⟩ : MethodName) ∈ wG := wG_at 677 rfl rfl
set_option maxRecDepth 100000 in
theorem a_678 : Cond.instanceMethod (⟨"MayNotPause", "lay", "(IIII)I"⟩ : MethodName) ∈ wG := wG_at 678 rfl rfl
set_option maxRecDepth 100000 in
theorem a_679 : Cond.selects "MayNotPause" (⟨"MayNotPause", "lay", "(IIII)I"⟩ : MethodName) (⟨"MayNotPause", "lay", "(IIII)I"⟩ : MethodName) ∈ wG := wG_at 679 rfl rfl
set_option maxRecDepth 100000 in
theorem a_680 : Cond.code (⟨"MayNotPause", "lay", "(IIII)I"⟩ : MethodName) cX7_lay 6 (some .int) ∈ wG := wG_at 680 rfl rfl
set_option maxRecDepth 100000 in
theorem a_681 : Cond.methodLink "MayNotPause" 258 (⟨"MayNotPause", "findingAt", "(LMayNotPause$Sheet;II)I"⟩ : MethodName) ∈ wG := wG_at 681 rfl rfl
set_option maxRecDepth 100000 in
theorem a_682 : Cond.static (⟨"MayNotPause", "findingAt", "(LMayNotPause$Sheet;II)I"⟩ : MethodName) ∈ wG := wG_at 682 rfl rfl
set_option maxRecDepth 100000 in
theorem a_683 : Cond.code (⟨"MayNotPause", "findingAt", "(LMayNotPause$Sheet;II)I"⟩ : MethodName) cX7_findingAt 3 (some .int) ∈ wG := wG_at 683 rfl rfl
set_option maxRecDepth 100000 in
theorem a_684 : Cond.methodLink "MayNotPause" 358 (⟨"MayNotPause$Sheet", "hasItem", "(I)Z"⟩ : MethodName) ∈ wG := wG_at 684 rfl rfl
set_option maxRecDepth 100000 in
theorem a_685 : Cond.methodLink "MayNotPause" 262 (⟨"MayNotPause$Sheet", "store", "(II)V"⟩ : MethodName) ∈ wG := wG_at 685 rfl rfl
set_option maxRecDepth 100000 in
theorem a_686 : Cond.instanceMethod (⟨"MayNotPause$Sheet", "store", "(II)V"⟩ : MethodName) ∈ wG := wG_at 686 rfl rfl
set_option maxRecDepth 100000 in
theorem a_687 : Cond.selects "MayNotPause$Sheet" (⟨"MayNotPause$Sheet", "store", "(II)V"⟩ : MethodName) (⟨"MayNotPause$Sheet", "store", "(II)V"⟩ : MethodName) ∈ wG := wG_at 687 rfl rfl
set_option maxRecDepth 100000 in
theorem a_688 : Cond.code (⟨"MayNotPause$Sheet", "store", "(II)V"⟩ : MethodName) cX3_store 3 none ∈ wG := wG_at 688 rfl rfl
set_option maxRecDepth 100000 in
theorem a_689 : Cond.methodLink "MayNotPauseLaw" 115 (⟨"MayNotPause", "get", "(III)I"⟩ : MethodName) ∈ wG := wG_at 689 rfl rfl
set_option maxRecDepth 100000 in
theorem a_690 : Cond.instanceMethod (⟨"MayNotPause", "get", "(III)I"⟩ : MethodName) ∈ wG := wG_at 690 rfl rfl
set_option maxRecDepth 100000 in
theorem a_691 : Cond.selects "MayNotPause" (⟨"MayNotPause", "get", "(III)I"⟩ : MethodName) (⟨"MayNotPause", "get", "(III)I"⟩ : MethodName) ∈ wG := wG_at 691 rfl rfl
set_option maxRecDepth 100000 in
theorem a_692 : Cond.code (⟨"MayNotPause", "get", "(III)I"⟩ : MethodName) cX7_get 5 (some .int) ∈ wG := wG_at 692 rfl rfl
set_option maxRecDepth 100000 in
theorem a_693 : Cond.constant "MayNotPause" 265 (-2147483648) ∈ wG := wG_at 693 rfl rfl
set_option maxRecDepth 100000 in
theorem a_694 : Cond.methodLink "MayNotPauseLaw" 119 (⟨"MayNotPause", "copy", "(IIIII)I"⟩ : MethodName) ∈ wG := wG_at 694 rfl rfl
set_option maxRecDepth 100000 in
theorem a_695 : Cond.instanceMethod (⟨"MayNotPause", "copy", "(IIIII)I"⟩ : MethodName) ∈ wG := wG_at 695 rfl rfl
set_option maxRecDepth 100000 in
theorem a_696 : Cond.selects "MayNotPause" (⟨"MayNotPause", "copy", "(IIIII)I"⟩ : MethodName) (⟨"MayNotPause", "copy", "(IIIII)I"⟩ : MethodName) ∈ wG := wG_at 696 rfl rfl
set_option maxRecDepth 100000 in
theorem a_697 : Cond.code (⟨"MayNotPause", "copy", "(IIIII)I"⟩ : MethodName) cX7_copy 8 (some .int) ∈ wG := wG_at 697 rfl rfl
set_option maxRecDepth 100000 in
theorem a_698 : Cond.methodLink "MayNotPause" 272 (⟨"MayNotPause$Sheet", "hasSpan", "(II)Z"⟩ : MethodName) ∈ wG := wG_at 698 rfl rfl
set_option maxRecDepth 100000 in
theorem a_699 : Cond.instanceMethod (⟨"MayNotPause$Sheet", "hasSpan", "(II)Z"⟩ : MethodName) ∈ wG := wG_at 699 rfl rfl
set_option maxRecDepth 100000 in
theorem a_700 : Cond.selects "MayNotPause$Sheet" (⟨"MayNotPause$Sheet", "hasSpan", "(II)Z"⟩ : MethodName) (⟨"MayNotPause$Sheet", "hasSpan", "(II)Z"⟩ : MethodName) ∈ wG := wG_at 700 rfl rfl
set_option maxRecDepth 100000 in
theorem a_701 : Cond.code (⟨"MayNotPause$Sheet", "hasSpan", "(II)Z"⟩ : MethodName) cX3_hasSpan 3 (some .boolean) ∈ wG := wG_at 701 rfl rfl
set_option maxRecDepth 100000 in
theorem a_702 : Cond.methodLink "MayNotPause" 278 (⟨"java/lang/System", "arraycopy", "(Ljava/lang/Object;ILjava/lang/Object;II)V"⟩ : MethodName) ∈ wG := wG_at 702 rfl rfl
set_option maxRecDepth 100000 in
theorem a_705 : Cond.methodLink "MayNotPauseLaw" 124 (⟨"MayNotPause", "write", "(I)I"⟩ : MethodName) ∈ wG := wG_at 705 rfl rfl
set_option maxRecDepth 100000 in
theorem a_706 : Cond.instanceMethod (⟨"MayNotPause", "write", "(I)I"⟩ : MethodName) ∈ wG := wG_at 706 rfl rfl
set_option maxRecDepth 100000 in
theorem a_707 : Cond.selects "MayNotPause" (⟨"MayNotPause", "write", "(I)I"⟩ : MethodName) (⟨"MayNotPause", "write", "(I)I"⟩ : MethodName) ∈ wG := wG_at 707 rfl rfl
set_option maxRecDepth 100000 in
theorem a_708 : Cond.code (⟨"MayNotPause", "write", "(I)I"⟩ : MethodName) cX7_write 5 (some .int) ∈ wG := wG_at 708 rfl rfl
set_option maxRecDepth 100000 in
theorem a_709 : Cond.methodLink "MayNotPause" 284 (⟨"java/lang/Math", "min", "(II)I"⟩ : MethodName) ∈ wG := wG_at 709 rfl rfl
set_option maxRecDepth 100000 in
theorem a_710 : Cond.methodLink "MayNotPauseLaw" 128 (⟨"MayNotPause", "count", "(I)I"⟩ : MethodName) ∈ wG := wG_at 710 rfl rfl
set_option maxRecDepth 100000 in
theorem a_711 : Cond.instanceMethod (⟨"MayNotPause", "count", "(I)I"⟩ : MethodName) ∈ wG := wG_at 711 rfl rfl
set_option maxRecDepth 100000 in
theorem a_712 : Cond.selects "MayNotPause" (⟨"MayNotPause", "count", "(I)I"⟩ : MethodName) (⟨"MayNotPause", "count", "(I)I"⟩ : MethodName) ∈ wG := wG_at 712 rfl rfl
set_option maxRecDepth 100000 in
theorem a_713 : Cond.code (⟨"MayNotPause", "count", "(I)I"⟩ : MethodName) cX7_count 2 (some .int) ∈ wG := wG_at 713 rfl rfl
set_option maxRecDepth 100000 in
theorem a_714 : Cond.methodLink "MayNotPause" 292 (⟨"java/lang/Integer", "bitCount", "(I)I"⟩ : MethodName) ∈ wG := wG_at 714 rfl rfl
set_option maxRecDepth 100000 in
theorem a_715 : Cond.static (⟨"java/lang/Integer", "bitCount", "(I)I"⟩ : MethodName) ∈ wG := wG_at 715 rfl rfl
set_option maxRecDepth 100000 in
theorem a_716 : Cond.code (⟨"java/lang/Integer", "bitCount", "(I)I"⟩ : MethodName) cJ6_bitCount_0f7a4 1 (some .int) ∈ wG := wG_at 716 rfl rfl
set_option maxRecDepth 100000 in
theorem a_717 : Cond.constant "java/lang/Integer" 265 1431655765 ∈ wG := wG_at 717 rfl rfl
set_option maxRecDepth 100000 in
theorem a_718 : Cond.constant "java/lang/Integer" 266 858993459 ∈ wG := wG_at 718 rfl rfl
set_option maxRecDepth 100000 in
theorem a_719 : Cond.constant "java/lang/Integer" 267 252645135 ∈ wG := wG_at 719 rfl rfl
set_option maxRecDepth 100000 in
theorem a_720 : Cond.methodLink "MayNotPauseLaw" 132 (⟨"MayNotPause", "digest", "()J"⟩ : MethodName) ∈ wG := wG_at 720 rfl rfl
set_option maxRecDepth 100000 in
theorem a_721 : Cond.instanceMethod (⟨"MayNotPause", "digest", "()J"⟩ : MethodName) ∈ wG := wG_at 721 rfl rfl
set_option maxRecDepth 100000 in
theorem a_722 : Cond.selects "MayNotPause" (⟨"MayNotPause", "digest", "()J"⟩ : MethodName) (⟨"MayNotPause", "digest", "()J"⟩ : MethodName) ∈ wG := wG_at 722 rfl rfl
set_option maxRecDepth 100000 in
theorem a_723 : Cond.code (⟨"MayNotPause", "digest", "()J"⟩ : MethodName) cX7_digest 4 (some .long) ∈ wG := wG_at 723 rfl rfl
set_option maxRecDepth 100000 in
theorem a_724 : Cond.constantLong "MayNotPause" 297 17 ∈ wG := wG_at 724 rfl rfl
set_option maxRecDepth 100000 in
theorem a_725 : Cond.constantLong "MayNotPause" 299 31 ∈ wG := wG_at 725 rfl rfl
set_option maxRecDepth 100000 in
theorem a_726 : Cond.methodLink "MayNotPause" 301 (⟨"MayNotPause", "count", "(I)I"⟩ : MethodName) ∈ wG := wG_at 726 rfl rfl
set_option maxRecDepth 100000 in
theorem a_727 : Cond.methodLink "MayNotPause" 304 (⟨"MayNotPause", "fault", "(I)I"⟩ : MethodName) ∈ wG := wG_at 727 rfl rfl
set_option maxRecDepth 100000 in
theorem a_728 : Cond.methodLink "MayNotPause" 307 (⟨"MayNotPause", "digestOfVerse", "(JI)J"⟩ : MethodName) ∈ wG := wG_at 728 rfl rfl
set_option maxRecDepth 100000 in
theorem a_730 : Cond.instanceMethod (⟨"MayNotPause", "digestOfVerse", "(JI)J"⟩ : MethodName) ∈ wG := wG_at 730 rfl rfl
set_option maxRecDepth 100000 in
theorem a_731 : Cond.code (⟨"MayNotPause", "digestOfVerse", "(JI)J"⟩ : MethodName) cX7_digestOfVerse 7 (some .long) ∈ wG := wG_at 731 rfl rfl
set_option maxRecDepth 100000 in
theorem a_732 : Cond.methodLink "MayNotPause" 337 (⟨"MayNotPause", "verse", "(II)I"⟩ : MethodName) ∈ wG := wG_at 732 rfl rfl
set_option maxRecDepth 100000 in
theorem a_733 : Cond.methodLink "MayNotPause" 340 (⟨"MayNotPause", "when", "(II)I"⟩ : MethodName) ∈ wG := wG_at 733 rfl rfl
set_option maxRecDepth 100000 in
theorem a_734 : Cond.methodLink "MayNotPause" 343 (⟨"MayNotPause", "rest", "(I)I"⟩ : MethodName) ∈ wG := wG_at 734 rfl rfl
set_option maxRecDepth 100000 in
theorem a_735 : Cond.methodLink "MayNotPause" 311 (⟨"MayNotPause", "digestOfBreaths", "(J)J"⟩ : MethodName) ∈ wG := wG_at 735 rfl rfl
set_option maxRecDepth 100000 in
theorem a_737 : Cond.instanceMethod (⟨"MayNotPause", "digestOfBreaths", "(J)J"⟩ : MethodName) ∈ wG := wG_at 737 rfl rfl
set_option maxRecDepth 100000 in
theorem a_738 : Cond.code (⟨"MayNotPause", "digestOfBreaths", "(J)J"⟩ : MethodName) cX7_digestOfBreaths 7 (some .long) ∈ wG := wG_at 738 rfl rfl
set_option maxRecDepth 100000 in
theorem a_739 : Cond.methodLink "MayNotPause" 346 (⟨"MayNotPause", "poem", "(I)I"⟩ : MethodName) ∈ wG := wG_at 739 rfl rfl
set_option maxRecDepth 100000 in
theorem a_740 : Cond.methodLink "MayNotPause" 349 (⟨"MayNotPause", "judged", "()I"⟩ : MethodName) ∈ wG := wG_at 740 rfl rfl
set_option maxRecDepth 100000 in
theorem a_741 : Cond.methodLink "MayNotPause" 352 (⟨"MayNotPause", "doing", "(II)I"⟩ : MethodName) ∈ wG := wG_at 741 rfl rfl
set_option maxRecDepth 100000 in
theorem a_742 : Cond.methodLink "MayNotPause" 315 (⟨"MayNotPause", "put", "(I)I"⟩ : MethodName) ∈ wG := wG_at 742 rfl rfl
set_option maxRecDepth 100000 in
theorem a_743 : Cond.methodLink "MayNotPause" 318 (⟨"MayNotPause", "order", "(I)I"⟩ : MethodName) ∈ wG := wG_at 743 rfl rfl
set_option maxRecDepth 100000 in
theorem a_744 : Cond.methodLink "MayNotPause" 321 (⟨"MayNotPause", "lead", "()I"⟩ : MethodName) ∈ wG := wG_at 744 rfl rfl
set_option maxRecDepth 100000 in
theorem a_745 : Cond.methodLink "MayNotPause" 324 (⟨"MayNotPause", "odds", "(I)J"⟩ : MethodName) ∈ wG := wG_at 745 rfl rfl
set_option maxRecDepth 100000 in
theorem a_746 : Cond.methodLink "MayNotPause" 328 (⟨"MayNotPause", "drawn", "(I)I"⟩ : MethodName) ∈ wG := wG_at 746 rfl rfl
set_option maxRecDepth 100000 in
theorem a_747 : Cond.methodLink "MayNotPause" 331 (⟨"MayNotPause", "line", "(II)I"⟩ : MethodName) ∈ wG := wG_at 747 rfl rfl
set_option maxRecDepth 100000 in
theorem a_748 : Cond.methodLink "MayNotPause" 334 (⟨"MayNotPause", "leads", "()I"⟩ : MethodName) ∈ wG := wG_at 748 rfl rfl
set_option maxRecDepth 100000 in
theorem a_751 : Cond.methodLink "MayNotPauseLaw" 12 (⟨"MayNotPauseModel", "<init>", "()V"⟩ : MethodName) ∈ wG := wG_at 751 rfl rfl
set_option maxRecDepth 100000 in
theorem a_752 : Cond.instanceMethod (⟨"MayNotPauseModel", "<init>", "()V"⟩ : MethodName) ∈ wG := wG_at 752 rfl rfl
set_option maxRecDepth 100000 in
theorem a_753 : Cond.code (⟨"MayNotPauseModel", "<init>", "()V"⟩ : MethodName) cX8_init 2 none ∈ wG := wG_at 753 rfl rfl
set_option maxRecDepth 100000 in
theorem a_754 : Cond.methodLink "MayNotPauseModel" 1 (⟨"java/lang/Object", "<init>", "()V"⟩ : MethodName) ∈ wG := wG_at 754 rfl rfl
set_option maxRecDepth 100000 in
theorem a_755 : Cond.fieldLink "MayNotPauseModel" 7 "MayNotPauseModel" "forms" "[I" ∈ wG := wG_at 755 rfl rfl
set_option maxRecDepth 100000 in
theorem a_756 : Cond.fieldLink "MayNotPauseModel" 13 "MayNotPauseModel" "sizes" "[I" ∈ wG := wG_at 756 rfl rfl
set_option maxRecDepth 100000 in
theorem a_757 : Cond.fieldLink "MayNotPauseModel" 16 "MayNotPauseModel" "items" "[I" ∈ wG := wG_at 757 rfl rfl
set_option maxRecDepth 100000 in
theorem a_758 : Cond.fieldLink "MayNotPauseModel" 19 "MayNotPauseModel" "moved" "[I" ∈ wG := wG_at 758 rfl rfl
set_option maxRecDepth 100000 in
theorem a_759 : Cond.fieldLink "MayNotPauseModel" 76 "MayNotPauseModel" "latest" "I" ∈ wG := wG_at 759 rfl rfl
set_option maxRecDepth 100000 in
theorem a_760 : Cond.fieldLink "MayNotPauseModel" 22 "MayNotPauseModel" "bytes" "[I" ∈ wG := wG_at 760 rfl rfl
set_option maxRecDepth 100000 in
theorem a_761 : Cond.fieldLink "MayNotPauseModel" 25 "MayNotPauseModel" "typed" "[I" ∈ wG := wG_at 761 rfl rfl
set_option maxRecDepth 100000 in
theorem a_762 : Cond.fieldLink "MayNotPauseModel" 106 "MayNotPauseModel" "at" "I" ∈ wG := wG_at 762 rfl rfl
set_option maxRecDepth 100000 in
theorem a_763 : Cond.fieldLink "MayNotPauseModel" 28 "MayNotPauseModel" "many" "[I" ∈ wG := wG_at 763 rfl rfl
set_option maxRecDepth 100000 in
theorem a_764 : Cond.fieldLink "MayNotPauseModel" 31 "MayNotPauseModel" "told" "[I" ∈ wG := wG_at 764 rfl rfl
set_option maxRecDepth 100000 in
theorem a_765 : Cond.fieldLink "MayNotPauseModel" 34 "MayNotPauseModel" "settings" "[I" ∈ wG := wG_at 765 rfl rfl
set_option maxRecDepth 100000 in
theorem a_766 : Cond.fieldLink "MayNotPauseModel" 128 "MayNotPauseModel" "length" "I" ∈ wG := wG_at 766 rfl rfl
set_option maxRecDepth 100000 in
theorem a_767 : Cond.fieldLink "MayNotPauseModel" 37 "MayNotPauseModel" "row" "[I" ∈ wG := wG_at 767 rfl rfl
set_option maxRecDepth 100000 in
theorem a_768 : Cond.fieldLink "MayNotPauseModel" 40 "MayNotPauseModel" "makes" "[I" ∈ wG := wG_at 768 rfl rfl
set_option maxRecDepth 100000 in
theorem a_769 : Cond.fieldLink "MayNotPauseModel" 43 "MayNotPauseModel" "knots" "[I" ∈ wG := wG_at 769 rfl rfl
set_option maxRecDepth 100000 in
theorem a_770 : Cond.fieldLink "MayNotPauseModel" 46 "MayNotPauseModel" "begins" "[I" ∈ wG := wG_at 770 rfl rfl
set_option maxRecDepth 100000 in
theorem a_771 : Cond.fieldLink "MayNotPauseModel" 49 "MayNotPauseModel" "said" "[I" ∈ wG := wG_at 771 rfl rfl
set_option maxRecDepth 100000 in
theorem a_772 : Cond.fieldLink "MayNotPauseModel" 52 "MayNotPauseModel" "understood" "[I" ∈ wG := wG_at 772 rfl rfl
set_option maxRecDepth 100000 in
theorem a_773 : Cond.fieldLink "MayNotPauseModel" 55 "MayNotPauseModel" "written" "[I" ∈ wG := wG_at 773 rfl rfl
set_option maxRecDepth 100000 in
theorem a_774 : Cond.fieldLink "MayNotPauseModel" 58 "MayNotPauseModel" "pauses" "[I" ∈ wG := wG_at 774 rfl rfl
set_option maxRecDepth 100000 in
theorem a_775 : Cond.fieldLink "MayNotPauseModel" 140 "MayNotPauseModel" "end" "I" ∈ wG := wG_at 775 rfl rfl
set_option maxRecDepth 100000 in
theorem a_776 : Cond.fieldLink "MayNotPauseModel" 143 "MayNotPauseModel" "allPauses" "I" ∈ wG := wG_at 776 rfl rfl
set_option maxRecDepth 100000 in
theorem a_777 : Cond.fieldLink "MayNotPauseModel" 146 "MayNotPauseModel" "writtenMany" "I" ∈ wG := wG_at 777 rfl rfl
set_option maxRecDepth 100000 in
theorem a_778 : Cond.fieldLink "MayNotPauseModel" 149 "MayNotPauseModel" "newPens" "I" ∈ wG := wG_at 778 rfl rfl
set_option maxRecDepth 100000 in
theorem a_779 : Cond.fieldLink "MayNotPauseModel" 61 "MayNotPauseModel" "best" "[I" ∈ wG := wG_at 779 rfl rfl
set_option maxRecDepth 100000 in
theorem a_780 : Cond.fieldLink "MayNotPauseModel" 64 "MayNotPauseModel" "bestRow" "[I" ∈ wG := wG_at 780 rfl rfl
set_option maxRecDepth 100000 in
theorem a_781 : Cond.fieldLink "MayNotPauseModel" 220 "MayNotPauseModel" "leastPauses" "I" ∈ wG := wG_at 781 rfl rfl
set_option maxRecDepth 100000 in
theorem a_782 : Cond.fieldLink "MayNotPauseModel" 223 "MayNotPauseModel" "leastLong" "I" ∈ wG := wG_at 782 rfl rfl
set_option maxRecDepth 100000 in
theorem a_783 : Cond.fieldLink "MayNotPauseModel" 276 "MayNotPauseModel" "sights" "I" ∈ wG := wG_at 783 rfl rfl
set_option maxRecDepth 100000 in
theorem a_784 : Cond.fieldLink "MayNotPauseModel" 67 "MayNotPauseModel" "seen" "[I" ∈ wG := wG_at 784 rfl rfl
set_option maxRecDepth 100000 in
theorem a_846 : Cond.methodLink "MayNotPauseLaw" 105 (⟨"MayNotPauseModel", "sheet", "(III)I"⟩ : MethodName) ∈ wG := wG_at 846 rfl rfl
set_option maxRecDepth 100000 in
theorem a_847 : Cond.instanceMethod (⟨"MayNotPauseModel", "sheet", "(III)I"⟩ : MethodName) ∈ wG := wG_at 847 rfl rfl
set_option maxRecDepth 100000 in
theorem a_848 : Cond.selects "MayNotPauseModel" (⟨"MayNotPauseModel", "sheet", "(III)I"⟩ : MethodName) (⟨"MayNotPauseModel", "sheet", "(III)I"⟩ : MethodName) ∈ wG := wG_at 848 rfl rfl
set_option maxRecDepth 100000 in
theorem a_849 : Cond.code (⟨"MayNotPauseModel", "sheet", "(III)I"⟩ : MethodName) cX8_sheet 5 (some .int) ∈ wG := wG_at 849 rfl rfl
set_option maxRecDepth 100000 in
theorem a_850 : Cond.methodLink "MayNotPauseModel" 82 (⟨"MayNotPauseModel", "isSheet", "(I)Z"⟩ : MethodName) ∈ wG := wG_at 850 rfl rfl
set_option maxRecDepth 100000 in
theorem a_851 : Cond.static (⟨"MayNotPauseModel", "isSheet", "(I)Z"⟩ : MethodName) ∈ wG := wG_at 851 rfl rfl
set_option maxRecDepth 100000 in
theorem a_852 : Cond.code (⟨"MayNotPauseModel", "isSheet", "(I)Z"⟩ : MethodName) cX8_isSheet 1 (some .boolean) ∈ wG := wG_at 852 rfl rfl
set_option maxRecDepth 100000 in
theorem a_853 : Cond.constantLong "MayNotPauseModel" 80 3 ∈ wG := wG_at 853 rfl rfl
set_option maxRecDepth 100000 in
theorem a_854 : Cond.methodLink "MayNotPauseModel" 72 (⟨"MayNotPauseModel", "in", "(JJJ)Z"⟩ : MethodName) ∈ wG := wG_at 854 rfl rfl
set_option maxRecDepth 100000 in
theorem a_855 : Cond.static (⟨"MayNotPauseModel", "in", "(JJJ)Z"⟩ : MethodName) ∈ wG := wG_at 855 rfl rfl
set_option maxRecDepth 100000 in
theorem a_856 : Cond.code (⟨"MayNotPauseModel", "in", "(JJJ)Z"⟩ : MethodName) cX8_in 6 (some .boolean) ∈ wG := wG_at 856 rfl rfl
set_option maxRecDepth 100000 in
theorem a_857 : Cond.constantLong "MayNotPauseModel" 86 2 ∈ wG := wG_at 857 rfl rfl
set_option maxRecDepth 100000 in
theorem a_858 : Cond.methodLink "MayNotPauseModel" 88 (⟨"MayNotPauseModel", "met", "(I)I"⟩ : MethodName) ∈ wG := wG_at 858 rfl rfl
set_option maxRecDepth 100000 in
theorem a_860 : Cond.instanceMethod (⟨"MayNotPauseModel", "met", "(I)I"⟩ : MethodName) ∈ wG := wG_at 860 rfl rfl
set_option maxRecDepth 100000 in
theorem a_861 : Cond.code (⟨"MayNotPauseModel", "met", "(I)I"⟩ : MethodName) cX8_met 2 (some .int) ∈ wG := wG_at 861 rfl rfl
set_option maxRecDepth 100000 in
theorem a_862 : Cond.methodLink "MayNotPauseLaw" 109 (⟨"MayNotPauseModel", "lose", "(I)I"⟩ : MethodName) ∈ wG := wG_at 862 rfl rfl
set_option maxRecDepth 100000 in
theorem a_863 : Cond.instanceMethod (⟨"MayNotPauseModel", "lose", "(I)I"⟩ : MethodName) ∈ wG := wG_at 863 rfl rfl
set_option maxRecDepth 100000 in
theorem a_864 : Cond.selects "MayNotPauseModel" (⟨"MayNotPauseModel", "lose", "(I)I"⟩ : MethodName) (⟨"MayNotPauseModel", "lose", "(I)I"⟩ : MethodName) ∈ wG := wG_at 864 rfl rfl
set_option maxRecDepth 100000 in
theorem a_865 : Cond.code (⟨"MayNotPauseModel", "lose", "(I)I"⟩ : MethodName) cX8_lose 2 (some .int) ∈ wG := wG_at 865 rfl rfl
set_option maxRecDepth 100000 in
theorem a_866 : Cond.methodLink "MayNotPauseLaw" 114 (⟨"MayNotPauseModel", "lay", "(IIII)I"⟩ : MethodName) ∈ wG := wG_at 866 rfl rfl
set_option maxRecDepth 100000 in
theorem a_867 : Cond.instanceMethod (⟨"MayNotPauseModel", "lay", "(IIII)I"⟩ : MethodName) ∈ wG := wG_at 867 rfl rfl
set_option maxRecDepth 100000 in
theorem a_868 : Cond.selects "MayNotPauseModel" (⟨"MayNotPauseModel", "lay", "(IIII)I"⟩ : MethodName) (⟨"MayNotPauseModel", "lay", "(IIII)I"⟩ : MethodName) ∈ wG := wG_at 868 rfl rfl
set_option maxRecDepth 100000 in
theorem a_869 : Cond.code (⟨"MayNotPauseModel", "lay", "(IIII)I"⟩ : MethodName) cX8_lay 6 (some .int) ∈ wG := wG_at 869 rfl rfl
set_option maxRecDepth 100000 in
theorem a_870 : Cond.methodLink "MayNotPauseModel" 92 (⟨"MayNotPauseModel", "lacks", "(III)I"⟩ : MethodName) ∈ wG := wG_at 870 rfl rfl
set_option maxRecDepth 100000 in
theorem a_872 : Cond.instanceMethod (⟨"MayNotPauseModel", "lacks", "(III)I"⟩ : MethodName) ∈ wG := wG_at 872 rfl rfl
set_option maxRecDepth 100000 in
theorem a_873 : Cond.code (⟨"MayNotPauseModel", "lacks", "(III)I"⟩ : MethodName) cX8_lacks 4 (some .int) ∈ wG := wG_at 873 rfl rfl
set_option maxRecDepth 100000 in
theorem a_874 : Cond.methodLink "MayNotPauseModel" 96 (⟨"MayNotPauseModel", "cut", "(II)I"⟩ : MethodName) ∈ wG := wG_at 874 rfl rfl
set_option maxRecDepth 100000 in
theorem a_875 : Cond.static (⟨"MayNotPauseModel", "cut", "(II)I"⟩ : MethodName) ∈ wG := wG_at 875 rfl rfl
set_option maxRecDepth 100000 in
theorem a_876 : Cond.code (⟨"MayNotPauseModel", "cut", "(II)I"⟩ : MethodName) cX8_cut 2 (some .int) ∈ wG := wG_at 876 rfl rfl
set_option maxRecDepth 100000 in
theorem a_877 : Cond.methodLink "MayNotPauseLaw" 118 (⟨"MayNotPauseModel", "get", "(III)I"⟩ : MethodName) ∈ wG := wG_at 877 rfl rfl
set_option maxRecDepth 100000 in
theorem a_878 : Cond.instanceMethod (⟨"MayNotPauseModel", "get", "(III)I"⟩ : MethodName) ∈ wG := wG_at 878 rfl rfl
set_option maxRecDepth 100000 in
theorem a_879 : Cond.selects "MayNotPauseModel" (⟨"MayNotPauseModel", "get", "(III)I"⟩ : MethodName) (⟨"MayNotPauseModel", "get", "(III)I"⟩ : MethodName) ∈ wG := wG_at 879 rfl rfl
set_option maxRecDepth 100000 in
theorem a_880 : Cond.code (⟨"MayNotPauseModel", "get", "(III)I"⟩ : MethodName) cX8_get 4 (some .int) ∈ wG := wG_at 880 rfl rfl
set_option maxRecDepth 100000 in
theorem a_881 : Cond.constant "MayNotPauseModel" 100 (-2147483648) ∈ wG := wG_at 881 rfl rfl
set_option maxRecDepth 100000 in
theorem a_882 : Cond.methodLink "MayNotPauseLaw" 123 (⟨"MayNotPauseModel", "copy", "(IIIII)I"⟩ : MethodName) ∈ wG := wG_at 882 rfl rfl
set_option maxRecDepth 100000 in
theorem a_883 : Cond.instanceMethod (⟨"MayNotPauseModel", "copy", "(IIIII)I"⟩ : MethodName) ∈ wG := wG_at 883 rfl rfl
set_option maxRecDepth 100000 in
theorem a_884 : Cond.selects "MayNotPauseModel" (⟨"MayNotPauseModel", "copy", "(IIIII)I"⟩ : MethodName) (⟨"MayNotPauseModel", "copy", "(IIIII)I"⟩ : MethodName) ∈ wG := wG_at 884 rfl rfl
set_option maxRecDepth 100000 in
theorem a_885 : Cond.code (⟨"MayNotPauseModel", "copy", "(IIIII)I"⟩ : MethodName) cX8_copy 7 (some .int) ∈ wG := wG_at 885 rfl rfl
set_option maxRecDepth 100000 in
theorem a_886 : Cond.methodLink "MayNotPauseLaw" 17 (⟨"MayNotPauseModel", "type", "(II)I"⟩ : MethodName) ∈ wG := wG_at 886 rfl rfl
set_option maxRecDepth 100000 in
theorem a_887 : Cond.instanceMethod (⟨"MayNotPauseModel", "type", "(II)I"⟩ : MethodName) ∈ wG := wG_at 887 rfl rfl
set_option maxRecDepth 100000 in
theorem a_888 : Cond.selects "MayNotPauseModel" (⟨"MayNotPauseModel", "type", "(II)I"⟩ : MethodName) (⟨"MayNotPauseModel", "type", "(II)I"⟩ : MethodName) ∈ wG := wG_at 888 rfl rfl
set_option maxRecDepth 100000 in
theorem a_889 : Cond.code (⟨"MayNotPauseModel", "type", "(II)I"⟩ : MethodName) cX8_type 3 (some .int) ∈ wG := wG_at 889 rfl rfl
set_option maxRecDepth 100000 in
theorem a_890 : Cond.methodLink "MayNotPauseModel" 101 (⟨"MayNotPauseModel", "isTwo", "(I)Z"⟩ : MethodName) ∈ wG := wG_at 890 rfl rfl
set_option maxRecDepth 100000 in
theorem a_891 : Cond.static (⟨"MayNotPauseModel", "isTwo", "(I)Z"⟩ : MethodName) ∈ wG := wG_at 891 rfl rfl
set_option maxRecDepth 100000 in
theorem a_892 : Cond.code (⟨"MayNotPauseModel", "isTwo", "(I)Z"⟩ : MethodName) cX8_isTwo 1 (some .boolean) ∈ wG := wG_at 892 rfl rfl
set_option maxRecDepth 100000 in
theorem a_893 : Cond.constantLong "MayNotPauseModel" 104 255 ∈ wG := wG_at 893 rfl rfl
set_option maxRecDepth 100000 in
theorem a_894 : Cond.methodLink "MayNotPauseLaw" 22 (⟨"MayNotPauseModel", "wipe", "(I)I"⟩ : MethodName) ∈ wG := wG_at 894 rfl rfl
set_option maxRecDepth 100000 in
theorem a_895 : Cond.instanceMethod (⟨"MayNotPauseModel", "wipe", "(I)I"⟩ : MethodName) ∈ wG := wG_at 895 rfl rfl
set_option maxRecDepth 100000 in
theorem a_896 : Cond.selects "MayNotPauseModel" (⟨"MayNotPauseModel", "wipe", "(I)I"⟩ : MethodName) (⟨"MayNotPauseModel", "wipe", "(I)I"⟩ : MethodName) ∈ wG := wG_at 896 rfl rfl
set_option maxRecDepth 100000 in
theorem a_897 : Cond.code (⟨"MayNotPauseModel", "wipe", "(I)I"⟩ : MethodName) cX8_wipe 3 (some .int) ∈ wG := wG_at 897 rfl rfl
set_option maxRecDepth 100000 in
theorem a_898 : Cond.methodLink "MayNotPauseLaw" 30 (⟨"MayNotPauseModel", "fault", "(I)I"⟩ : MethodName) ∈ wG := wG_at 898 rfl rfl
set_option maxRecDepth 100000 in
theorem a_899 : Cond.instanceMethod (⟨"MayNotPauseModel", "fault", "(I)I"⟩ : MethodName) ∈ wG := wG_at 899 rfl rfl
set_option maxRecDepth 100000 in
theorem a_900 : Cond.selects "MayNotPauseModel" (⟨"MayNotPauseModel", "fault", "(I)I"⟩ : MethodName) (⟨"MayNotPauseModel", "fault", "(I)I"⟩ : MethodName) ∈ wG := wG_at 900 rfl rfl
set_option maxRecDepth 100000 in
theorem a_901 : Cond.code (⟨"MayNotPauseModel", "fault", "(I)I"⟩ : MethodName) cX8_fault 2 (some .int) ∈ wG := wG_at 901 rfl rfl
set_option maxRecDepth 100000 in
theorem a_902 : Cond.methodLink "MayNotPauseModel" 120 (⟨"MayNotPauseModel", "readsText", "(I)I"⟩ : MethodName) ∈ wG := wG_at 902 rfl rfl
set_option maxRecDepth 100000 in
theorem a_904 : Cond.instanceMethod (⟨"MayNotPauseModel", "readsText", "(I)I"⟩ : MethodName) ∈ wG := wG_at 904 rfl rfl
set_option maxRecDepth 100000 in
theorem a_905 : Cond.code (⟨"MayNotPauseModel", "readsText", "(I)I"⟩ : MethodName) cX8_readsText 4 (some .int) ∈ wG := wG_at 905 rfl rfl
set_option maxRecDepth 100000 in
theorem a_906 : Cond.methodLink "MayNotPauseModel" 117 (⟨"MayNotPauseModel", "readsVerse", "(I)Z"⟩ : MethodName) ∈ wG := wG_at 906 rfl rfl
set_option maxRecDepth 100000 in
theorem a_908 : Cond.instanceMethod (⟨"MayNotPauseModel", "readsVerse", "(I)Z"⟩ : MethodName) ∈ wG := wG_at 908 rfl rfl
set_option maxRecDepth 100000 in
theorem a_909 : Cond.code (⟨"MayNotPauseModel", "readsVerse", "(I)Z"⟩ : MethodName) cX8_readsVerse 6 (some .boolean) ∈ wG := wG_at 909 rfl rfl
set_option maxRecDepth 100000 in
theorem a_910 : Cond.methodLink "MayNotPauseModel" 109 (⟨"MayNotPauseModel", "here", "(I)I"⟩ : MethodName) ∈ wG := wG_at 910 rfl rfl
set_option maxRecDepth 100000 in
theorem a_912 : Cond.instanceMethod (⟨"MayNotPauseModel", "here", "(I)I"⟩ : MethodName) ∈ wG := wG_at 912 rfl rfl
set_option maxRecDepth 100000 in
theorem a_913 : Cond.code (⟨"MayNotPauseModel", "here", "(I)I"⟩ : MethodName) cX8_here 2 (some .int) ∈ wG := wG_at 913 rfl rfl
set_option maxRecDepth 100000 in
theorem a_914 : Cond.methodLink "MayNotPauseModel" 112 (⟨"MayNotPauseModel", "kindOf", "(I)I"⟩ : MethodName) ∈ wG := wG_at 914 rfl rfl
set_option maxRecDepth 100000 in
theorem a_915 : Cond.static (⟨"MayNotPauseModel", "kindOf", "(I)I"⟩ : MethodName) ∈ wG := wG_at 915 rfl rfl
set_option maxRecDepth 100000 in
theorem a_916 : Cond.code (⟨"MayNotPauseModel", "kindOf", "(I)I"⟩ : MethodName) cX8_kindOf 1 (some .int) ∈ wG := wG_at 916 rfl rfl
set_option maxRecDepth 100000 in
theorem a_917 : Cond.constantLong "MayNotPauseModel" 115 9 ∈ wG := wG_at 917 rfl rfl
set_option maxRecDepth 100000 in
theorem a_918 : Cond.methodLink "MayNotPauseLaw" 26 (⟨"MayNotPauseModel", "undo", "(I)I"⟩ : MethodName) ∈ wG := wG_at 918 rfl rfl
set_option maxRecDepth 100000 in
theorem a_919 : Cond.instanceMethod (⟨"MayNotPauseModel", "undo", "(I)I"⟩ : MethodName) ∈ wG := wG_at 919 rfl rfl
set_option maxRecDepth 100000 in
theorem a_920 : Cond.selects "MayNotPauseModel" (⟨"MayNotPauseModel", "undo", "(I)I"⟩ : MethodName) (⟨"MayNotPauseModel", "undo", "(I)I"⟩ : MethodName) ∈ wG := wG_at 920 rfl rfl
set_option maxRecDepth 100000 in
theorem a_921 : Cond.code (⟨"MayNotPauseModel", "undo", "(I)I"⟩ : MethodName) cX8_undo 2 (some .int) ∈ wG := wG_at 921 rfl rfl
set_option maxRecDepth 100000 in
theorem a_922 : Cond.methodLink "MayNotPauseLaw" 34 (⟨"MayNotPauseModel", "set", "(II)I"⟩ : MethodName) ∈ wG := wG_at 922 rfl rfl
set_option maxRecDepth 100000 in
theorem a_923 : Cond.instanceMethod (⟨"MayNotPauseModel", "set", "(II)I"⟩ : MethodName) ∈ wG := wG_at 923 rfl rfl
set_option maxRecDepth 100000 in
theorem a_924 : Cond.selects "MayNotPauseModel" (⟨"MayNotPauseModel", "set", "(II)I"⟩ : MethodName) (⟨"MayNotPauseModel", "set", "(II)I"⟩ : MethodName) ∈ wG := wG_at 924 rfl rfl
set_option maxRecDepth 100000 in
theorem a_925 : Cond.code (⟨"MayNotPauseModel", "set", "(II)I"⟩ : MethodName) cX8_set 4 (some .int) ∈ wG := wG_at 925 rfl rfl
set_option maxRecDepth 100000 in
theorem a_926 : Cond.constantLong "MayNotPauseModel" 123 5 ∈ wG := wG_at 926 rfl rfl
set_option maxRecDepth 100000 in
theorem a_927 : Cond.methodLink "MayNotPauseModel" 125 (⟨"MayNotPauseModel", "most", "(I)I"⟩ : MethodName) ∈ wG := wG_at 927 rfl rfl
set_option maxRecDepth 100000 in
theorem a_928 : Cond.static (⟨"MayNotPauseModel", "most", "(I)I"⟩ : MethodName) ∈ wG := wG_at 928 rfl rfl
set_option maxRecDepth 100000 in
theorem a_929 : Cond.code (⟨"MayNotPauseModel", "most", "(I)I"⟩ : MethodName) cX8_most 1 (some .int) ∈ wG := wG_at 929 rfl rfl
set_option maxRecDepth 100000 in
theorem a_930 : Cond.methodLink "MayNotPauseLaw" 38 (⟨"MayNotPauseModel", "verse", "(II)I"⟩ : MethodName) ∈ wG := wG_at 930 rfl rfl
set_option maxRecDepth 100000 in
theorem a_931 : Cond.instanceMethod (⟨"MayNotPauseModel", "verse", "(II)I"⟩ : MethodName) ∈ wG := wG_at 931 rfl rfl
set_option maxRecDepth 100000 in
theorem a_932 : Cond.selects "MayNotPauseModel" (⟨"MayNotPauseModel", "verse", "(II)I"⟩ : MethodName) (⟨"MayNotPauseModel", "verse", "(II)I"⟩ : MethodName) ∈ wG := wG_at 932 rfl rfl
set_option maxRecDepth 100000 in
theorem a_933 : Cond.code (⟨"MayNotPauseModel", "verse", "(II)I"⟩ : MethodName) cX8_verse 3 (some .int) ∈ wG := wG_at 933 rfl rfl
set_option maxRecDepth 100000 in
theorem a_934 : Cond.methodLink "MayNotPauseModel" 162 (⟨"MayNotPauseModel", "find", "()V"⟩ : MethodName) ∈ wG := wG_at 934 rfl rfl
set_option maxRecDepth 100000 in
theorem a_936 : Cond.instanceMethod (⟨"MayNotPauseModel", "find", "()V"⟩ : MethodName) ∈ wG := wG_at 936 rfl rfl
set_option maxRecDepth 100000 in
theorem a_937 : Cond.code (⟨"MayNotPauseModel", "find", "()V"⟩ : MethodName) cX8_find 1 none ∈ wG := wG_at 937 rfl rfl
set_option maxRecDepth 100000 in
theorem a_938 : Cond.methodLink "MayNotPauseModel" 155 (⟨"MayNotPauseModel", "plain", "()V"⟩ : MethodName) ∈ wG := wG_at 938 rfl rfl
set_option maxRecDepth 100000 in
theorem a_940 : Cond.instanceMethod (⟨"MayNotPauseModel", "plain", "()V"⟩ : MethodName) ∈ wG := wG_at 940 rfl rfl
set_option maxRecDepth 100000 in
theorem a_941 : Cond.code (⟨"MayNotPauseModel", "plain", "()V"⟩ : MethodName) cX8_plain 2 none ∈ wG := wG_at 941 rfl rfl
set_option maxRecDepth 100000 in
theorem a_942 : Cond.methodLink "MayNotPauseModel" 158 (⟨"MayNotPauseModel", "says", "(III)V"⟩ : MethodName) ∈ wG := wG_at 942 rfl rfl
set_option maxRecDepth 100000 in
theorem a_944 : Cond.instanceMethod (⟨"MayNotPauseModel", "says", "(III)V"⟩ : MethodName) ∈ wG := wG_at 944 rfl rfl
set_option maxRecDepth 100000 in
theorem a_945 : Cond.code (⟨"MayNotPauseModel", "says", "(III)V"⟩ : MethodName) cX8_says 14 none ∈ wG := wG_at 945 rfl rfl
set_option maxRecDepth 100000 in
theorem a_946 : Cond.methodLink "MayNotPauseModel" 137 (⟨"MayNotPauseModel", "counts", "()V"⟩ : MethodName) ∈ wG := wG_at 946 rfl rfl
set_option maxRecDepth 100000 in
theorem a_948 : Cond.instanceMethod (⟨"MayNotPauseModel", "counts", "()V"⟩ : MethodName) ∈ wG := wG_at 948 rfl rfl
set_option maxRecDepth 100000 in
theorem a_949 : Cond.code (⟨"MayNotPauseModel", "counts", "()V"⟩ : MethodName) cX8_counts 4 none ∈ wG := wG_at 949 rfl rfl
set_option maxRecDepth 100000 in
theorem a_950 : Cond.methodLink "MayNotPauseModel" 131 (⟨"MayNotPauseModel", "kindAt", "(I)I"⟩ : MethodName) ∈ wG := wG_at 950 rfl rfl
set_option maxRecDepth 100000 in
theorem a_952 : Cond.instanceMethod (⟨"MayNotPauseModel", "kindAt", "(I)I"⟩ : MethodName) ∈ wG := wG_at 952 rfl rfl
set_option maxRecDepth 100000 in
theorem a_953 : Cond.code (⟨"MayNotPauseModel", "kindAt", "(I)I"⟩ : MethodName) cX8_kindAt 2 (some .int) ∈ wG := wG_at 953 rfl rfl
set_option maxRecDepth 100000 in
theorem a_954 : Cond.methodLink "MayNotPauseModel" 134 (⟨"MayNotPauseModel", "greater", "(II)I"⟩ : MethodName) ∈ wG := wG_at 954 rfl rfl
set_option maxRecDepth 100000 in
theorem a_955 : Cond.static (⟨"MayNotPauseModel", "greater", "(II)I"⟩ : MethodName) ∈ wG := wG_at 955 rfl rfl
set_option maxRecDepth 100000 in
theorem a_956 : Cond.code (⟨"MayNotPauseModel", "greater", "(II)I"⟩ : MethodName) cX8_greater 2 (some .int) ∈ wG := wG_at 956 rfl rfl
set_option maxRecDepth 100000 in
theorem a_957 : Cond.methodLink "MayNotPauseModel" 152 (⟨"MayNotPauseModel", "sayAt", "(I)I"⟩ : MethodName) ∈ wG := wG_at 957 rfl rfl
set_option maxRecDepth 100000 in
theorem a_959 : Cond.instanceMethod (⟨"MayNotPauseModel", "sayAt", "(I)I"⟩ : MethodName) ∈ wG := wG_at 959 rfl rfl
set_option maxRecDepth 100000 in
theorem a_960 : Cond.code (⟨"MayNotPauseModel", "sayAt", "(I)I"⟩ : MethodName) cX8_sayAt 2 (some .int) ∈ wG := wG_at 960 rfl rfl
set_option maxRecDepth 100000 in
theorem a_961 : Cond.methodLink "MayNotPauseModel" 165 (⟨"MayNotPauseModel", "isVerse", "(I)Z"⟩ : MethodName) ∈ wG := wG_at 961 rfl rfl
set_option maxRecDepth 100000 in
theorem a_963 : Cond.instanceMethod (⟨"MayNotPauseModel", "isVerse", "(I)Z"⟩ : MethodName) ∈ wG := wG_at 963 rfl rfl
set_option maxRecDepth 100000 in
theorem a_964 : Cond.code (⟨"MayNotPauseModel", "isVerse", "(I)Z"⟩ : MethodName) cX8_isVerse 2 (some .boolean) ∈ wG := wG_at 964 rfl rfl
set_option maxRecDepth 100000 in
theorem a_965 : Cond.methodLink "MayNotPauseModel" 168 (⟨"MayNotPauseModel", "verseOf", "(II)I"⟩ : MethodName) ∈ wG := wG_at 965 rfl rfl
set_option maxRecDepth 100000 in
theorem a_967 : Cond.instanceMethod (⟨"MayNotPauseModel", "verseOf", "(II)I"⟩ : MethodName) ∈ wG := wG_at 967 rfl rfl
set_option maxRecDepth 100000 in
theorem a_968 : Cond.code (⟨"MayNotPauseModel", "verseOf", "(II)I"⟩ : MethodName) cX8_verseOf 3 (some .int) ∈ wG := wG_at 968 rfl rfl
set_option maxRecDepth 100000 in
theorem a_969 : Cond.methodLink "MayNotPauseLaw" 42 (⟨"MayNotPauseModel", "when", "(II)I"⟩ : MethodName) ∈ wG := wG_at 969 rfl rfl
set_option maxRecDepth 100000 in
theorem a_970 : Cond.instanceMethod (⟨"MayNotPauseModel", "when", "(II)I"⟩ : MethodName) ∈ wG := wG_at 970 rfl rfl
set_option maxRecDepth 100000 in
theorem a_971 : Cond.selects "MayNotPauseModel" (⟨"MayNotPauseModel", "when", "(II)I"⟩ : MethodName) (⟨"MayNotPauseModel", "when", "(II)I"⟩ : MethodName) ∈ wG := wG_at 971 rfl rfl
set_option maxRecDepth 100000 in
theorem a_972 : Cond.code (⟨"MayNotPauseModel", "when", "(II)I"⟩ : MethodName) cX8_when 3 (some .int) ∈ wG := wG_at 972 rfl rfl
set_option maxRecDepth 100000 in
theorem a_973 : Cond.constantLong "MayNotPauseModel" 171 4 ∈ wG := wG_at 973 rfl rfl
set_option maxRecDepth 100000 in
theorem a_974 : Cond.methodLink "MayNotPauseModel" 173 (⟨"MayNotPauseModel", "whenOf", "(II)I"⟩ : MethodName) ∈ wG := wG_at 974 rfl rfl
set_option maxRecDepth 100000 in
theorem a_976 : Cond.instanceMethod (⟨"MayNotPauseModel", "whenOf", "(II)I"⟩ : MethodName) ∈ wG := wG_at 976 rfl rfl
set_option maxRecDepth 100000 in
theorem a_977 : Cond.code (⟨"MayNotPauseModel", "whenOf", "(II)I"⟩ : MethodName) cX8_whenOf 3 (some .int) ∈ wG := wG_at 977 rfl rfl
set_option maxRecDepth 100000 in
theorem a_978 : Cond.methodLink "MayNotPauseLaw" 46 (⟨"MayNotPauseModel", "poem", "(I)I"⟩ : MethodName) ∈ wG := wG_at 978 rfl rfl
set_option maxRecDepth 100000 in
theorem a_979 : Cond.instanceMethod (⟨"MayNotPauseModel", "poem", "(I)I"⟩ : MethodName) ∈ wG := wG_at 979 rfl rfl
set_option maxRecDepth 100000 in
theorem a_980 : Cond.selects "MayNotPauseModel" (⟨"MayNotPauseModel", "poem", "(I)I"⟩ : MethodName) (⟨"MayNotPauseModel", "poem", "(I)I"⟩ : MethodName) ∈ wG := wG_at 980 rfl rfl
set_option maxRecDepth 100000 in
theorem a_981 : Cond.code (⟨"MayNotPauseModel", "poem", "(I)I"⟩ : MethodName) cX8_poem 2 (some .int) ∈ wG := wG_at 981 rfl rfl
set_option maxRecDepth 100000 in
theorem a_982 : Cond.methodLink "MayNotPauseModel" 176 (⟨"MayNotPauseModel", "poemOf", "(I)I"⟩ : MethodName) ∈ wG := wG_at 982 rfl rfl
set_option maxRecDepth 100000 in
theorem a_984 : Cond.instanceMethod (⟨"MayNotPauseModel", "poemOf", "(I)I"⟩ : MethodName) ∈ wG := wG_at 984 rfl rfl
set_option maxRecDepth 100000 in
theorem a_985 : Cond.code (⟨"MayNotPauseModel", "poemOf", "(I)I"⟩ : MethodName) cX8_poemOf 2 (some .int) ∈ wG := wG_at 985 rfl rfl
set_option maxRecDepth 100000 in
theorem a_986 : Cond.methodLink "MayNotPauseLaw" 51 (⟨"MayNotPauseModel", "judged", "()I"⟩ : MethodName) ∈ wG := wG_at 986 rfl rfl
set_option maxRecDepth 100000 in
theorem a_987 : Cond.instanceMethod (⟨"MayNotPauseModel", "judged", "()I"⟩ : MethodName) ∈ wG := wG_at 987 rfl rfl
set_option maxRecDepth 100000 in
theorem a_988 : Cond.selects "MayNotPauseModel" (⟨"MayNotPauseModel", "judged", "()I"⟩ : MethodName) (⟨"MayNotPauseModel", "judged", "()I"⟩ : MethodName) ∈ wG := wG_at 988 rfl rfl
set_option maxRecDepth 100000 in
theorem a_989 : Cond.code (⟨"MayNotPauseModel", "judged", "()I"⟩ : MethodName) cX8_judged 1 (some .int) ∈ wG := wG_at 989 rfl rfl
set_option maxRecDepth 100000 in
theorem a_990 : Cond.methodLink "MayNotPauseModel" 179 (⟨"MayNotPauseModel", "judgedNow", "()I"⟩ : MethodName) ∈ wG := wG_at 990 rfl rfl
set_option maxRecDepth 100000 in
theorem a_992 : Cond.instanceMethod (⟨"MayNotPauseModel", "judgedNow", "()I"⟩ : MethodName) ∈ wG := wG_at 992 rfl rfl
set_option maxRecDepth 100000 in
theorem a_993 : Cond.code (⟨"MayNotPauseModel", "judgedNow", "()I"⟩ : MethodName) cX8_judgedNow 2 (some .int) ∈ wG := wG_at 993 rfl rfl
set_option maxRecDepth 100000 in
theorem a_994 : Cond.methodLink "MayNotPauseLaw" 55 (⟨"MayNotPauseModel", "rest", "(I)I"⟩ : MethodName) ∈ wG := wG_at 994 rfl rfl
set_option maxRecDepth 100000 in
theorem a_995 : Cond.instanceMethod (⟨"MayNotPauseModel", "rest", "(I)I"⟩ : MethodName) ∈ wG := wG_at 995 rfl rfl
set_option maxRecDepth 100000 in
theorem a_996 : Cond.selects "MayNotPauseModel" (⟨"MayNotPauseModel", "rest", "(I)I"⟩ : MethodName) (⟨"MayNotPauseModel", "rest", "(I)I"⟩ : MethodName) ∈ wG := wG_at 996 rfl rfl
set_option maxRecDepth 100000 in
theorem a_997 : Cond.code (⟨"MayNotPauseModel", "rest", "(I)I"⟩ : MethodName) cX8_rest 2 (some .int) ∈ wG := wG_at 997 rfl rfl
set_option maxRecDepth 100000 in
theorem a_998 : Cond.methodLink "MayNotPauseModel" 189 (⟨"MayNotPauseModel", "restOf", "(I)I"⟩ : MethodName) ∈ wG := wG_at 998 rfl rfl
set_option maxRecDepth 100000 in
theorem a_1000 : Cond.instanceMethod (⟨"MayNotPauseModel", "restOf", "(I)I"⟩ : MethodName) ∈ wG := wG_at 1000 rfl rfl
set_option maxRecDepth 100000 in
theorem a_1001 : Cond.code (⟨"MayNotPauseModel", "restOf", "(I)I"⟩ : MethodName) cX8_restOf 4 (some .int) ∈ wG := wG_at 1001 rfl rfl
set_option maxRecDepth 100000 in
theorem a_1002 : Cond.methodLink "MayNotPauseModel" 186 (⟨"MayNotPauseModel", "freeAhead", "(II)I"⟩ : MethodName) ∈ wG := wG_at 1002 rfl rfl
set_option maxRecDepth 100000 in
theorem a_1004 : Cond.instanceMethod (⟨"MayNotPauseModel", "freeAhead", "(II)I"⟩ : MethodName) ∈ wG := wG_at 1004 rfl rfl
set_option maxRecDepth 100000 in
theorem a_1005 : Cond.code (⟨"MayNotPauseModel", "freeAhead", "(II)I"⟩ : MethodName) cX8_freeAhead 5 (some .int) ∈ wG := wG_at 1005 rfl rfl
set_option maxRecDepth 100000 in
theorem a_1006 : Cond.methodLink "MayNotPauseModel" 183 (⟨"MayNotPauseModel", "isFree", "(I)Z"⟩ : MethodName) ∈ wG := wG_at 1006 rfl rfl
set_option maxRecDepth 100000 in
theorem a_1008 : Cond.instanceMethod (⟨"MayNotPauseModel", "isFree", "(I)Z"⟩ : MethodName) ∈ wG := wG_at 1008 rfl rfl
set_option maxRecDepth 100000 in
theorem a_1009 : Cond.code (⟨"MayNotPauseModel", "isFree", "(I)Z"⟩ : MethodName) cX8_isFree 5 (some .boolean) ∈ wG := wG_at 1009 rfl rfl
set_option maxRecDepth 100000 in
theorem a_1010 : Cond.methodLink "MayNotPauseLaw" 59 (⟨"MayNotPauseModel", "doing", "(II)I"⟩ : MethodName) ∈ wG := wG_at 1010 rfl rfl
set_option maxRecDepth 100000 in
theorem a_1011 : Cond.instanceMethod (⟨"MayNotPauseModel", "doing", "(II)I"⟩ : MethodName) ∈ wG := wG_at 1011 rfl rfl
set_option maxRecDepth 100000 in
theorem a_1012 : Cond.selects "MayNotPauseModel" (⟨"MayNotPauseModel", "doing", "(II)I"⟩ : MethodName) (⟨"MayNotPauseModel", "doing", "(II)I"⟩ : MethodName) ∈ wG := wG_at 1012 rfl rfl
set_option maxRecDepth 100000 in
theorem a_1013 : Cond.code (⟨"MayNotPauseModel", "doing", "(II)I"⟩ : MethodName) cX8_doing 3 (some .int) ∈ wG := wG_at 1013 rfl rfl
set_option maxRecDepth 100000 in
theorem a_1014 : Cond.constantLong "MayNotPauseModel" 201 299 ∈ wG := wG_at 1014 rfl rfl
set_option maxRecDepth 100000 in
theorem a_1015 : Cond.methodLink "MayNotPauseModel" 203 (⟨"MayNotPauseModel", "doingOf", "(II)I"⟩ : MethodName) ∈ wG := wG_at 1015 rfl rfl
set_option maxRecDepth 100000 in
theorem a_1017 : Cond.instanceMethod (⟨"MayNotPauseModel", "doingOf", "(II)I"⟩ : MethodName) ∈ wG := wG_at 1017 rfl rfl
set_option maxRecDepth 100000 in
theorem a_1018 : Cond.code (⟨"MayNotPauseModel", "doingOf", "(II)I"⟩ : MethodName) cX8_doingOf 3 (some .int) ∈ wG := wG_at 1018 rfl rfl
set_option maxRecDepth 100000 in
theorem a_1019 : Cond.methodLink "MayNotPauseModel" 192 (⟨"MayNotPauseModel", "saysIn", "(I)I"⟩ : MethodName) ∈ wG := wG_at 1019 rfl rfl
set_option maxRecDepth 100000 in
theorem a_1021 : Cond.instanceMethod (⟨"MayNotPauseModel", "saysIn", "(I)I"⟩ : MethodName) ∈ wG := wG_at 1021 rfl rfl
set_option maxRecDepth 100000 in
theorem a_1022 : Cond.code (⟨"MayNotPauseModel", "saysIn", "(I)I"⟩ : MethodName) cX8_saysIn 3 (some .int) ∈ wG := wG_at 1022 rfl rfl
set_option maxRecDepth 100000 in
theorem a_1023 : Cond.methodLink "MayNotPauseModel" 195 (⟨"MayNotPauseModel", "makesIn", "(II)I"⟩ : MethodName) ∈ wG := wG_at 1023 rfl rfl
set_option maxRecDepth 100000 in
theorem a_1025 : Cond.instanceMethod (⟨"MayNotPauseModel", "makesIn", "(II)I"⟩ : MethodName) ∈ wG := wG_at 1025 rfl rfl
set_option maxRecDepth 100000 in
theorem a_1026 : Cond.code (⟨"MayNotPauseModel", "makesIn", "(II)I"⟩ : MethodName) cX8_makesIn 5 (some .int) ∈ wG := wG_at 1026 rfl rfl
set_option maxRecDepth 100000 in
theorem a_1027 : Cond.methodLink "MayNotPauseModel" 198 (⟨"MayNotPauseModel", "hasIn", "(I)I"⟩ : MethodName) ∈ wG := wG_at 1027 rfl rfl
set_option maxRecDepth 100000 in
theorem a_1029 : Cond.instanceMethod (⟨"MayNotPauseModel", "hasIn", "(I)I"⟩ : MethodName) ∈ wG := wG_at 1029 rfl rfl
set_option maxRecDepth 100000 in
theorem a_1030 : Cond.code (⟨"MayNotPauseModel", "hasIn", "(I)I"⟩ : MethodName) cX8_hasIn 4 (some .int) ∈ wG := wG_at 1030 rfl rfl
set_option maxRecDepth 100000 in
theorem a_1031 : Cond.methodLink "MayNotPauseLaw" 63 (⟨"MayNotPauseModel", "put", "(I)I"⟩ : MethodName) ∈ wG := wG_at 1031 rfl rfl
set_option maxRecDepth 100000 in
theorem a_1032 : Cond.instanceMethod (⟨"MayNotPauseModel", "put", "(I)I"⟩ : MethodName) ∈ wG := wG_at 1032 rfl rfl
set_option maxRecDepth 100000 in
theorem a_1033 : Cond.selects "MayNotPauseModel" (⟨"MayNotPauseModel", "put", "(I)I"⟩ : MethodName) (⟨"MayNotPauseModel", "put", "(I)I"⟩ : MethodName) ∈ wG := wG_at 1033 rfl rfl
set_option maxRecDepth 100000 in
theorem a_1034 : Cond.code (⟨"MayNotPauseModel", "put", "(I)I"⟩ : MethodName) cX8_put 2 (some .int) ∈ wG := wG_at 1034 rfl rfl
set_option maxRecDepth 100000 in
theorem a_1035 : Cond.methodLink "MayNotPauseModel" 214 (⟨"MayNotPauseModel", "findPut", "()V"⟩ : MethodName) ∈ wG := wG_at 1035 rfl rfl
set_option maxRecDepth 100000 in
theorem a_1037 : Cond.instanceMethod (⟨"MayNotPauseModel", "findPut", "()V"⟩ : MethodName) ∈ wG := wG_at 1037 rfl rfl
set_option maxRecDepth 100000 in
theorem a_1038 : Cond.code (⟨"MayNotPauseModel", "findPut", "()V"⟩ : MethodName) cX8_findPut 5 none ∈ wG := wG_at 1038 rfl rfl
set_option maxRecDepth 100000 in
theorem a_1039 : Cond.methodLink "MayNotPauseModel" 210 (⟨"MayNotPauseModel", "looks", "(IIIII)V"⟩ : MethodName) ∈ wG := wG_at 1039 rfl rfl
set_option maxRecDepth 100000 in
theorem a_1041 : Cond.instanceMethod (⟨"MayNotPauseModel", "looks", "(IIIII)V"⟩ : MethodName) ∈ wG := wG_at 1041 rfl rfl
set_option maxRecDepth 100000 in
theorem a_1042 : Cond.code (⟨"MayNotPauseModel", "looks", "(IIIII)V"⟩ : MethodName) cX8_looks 6 none ∈ wG := wG_at 1042 rfl rfl
set_option maxRecDepth 100000 in
theorem a_1043 : Cond.methodLink "MayNotPauseModel" 206 (⟨"MayNotPauseModel", "lays", "(IIII)V"⟩ : MethodName) ∈ wG := wG_at 1043 rfl rfl
set_option maxRecDepth 100000 in
theorem a_1045 : Cond.instanceMethod (⟨"MayNotPauseModel", "lays", "(IIII)V"⟩ : MethodName) ∈ wG := wG_at 1045 rfl rfl
set_option maxRecDepth 100000 in
theorem a_1046 : Cond.code (⟨"MayNotPauseModel", "lays", "(IIII)V"⟩ : MethodName) cX8_lays 6 none ∈ wG := wG_at 1046 rfl rfl
set_option maxRecDepth 100000 in
theorem a_1047 : Cond.methodLink "MayNotPauseLaw" 67 (⟨"MayNotPauseModel", "order", "(I)I"⟩ : MethodName) ∈ wG := wG_at 1047 rfl rfl
set_option maxRecDepth 100000 in
theorem a_1048 : Cond.instanceMethod (⟨"MayNotPauseModel", "order", "(I)I"⟩ : MethodName) ∈ wG := wG_at 1048 rfl rfl
set_option maxRecDepth 100000 in
theorem a_1049 : Cond.selects "MayNotPauseModel" (⟨"MayNotPauseModel", "order", "(I)I"⟩ : MethodName) (⟨"MayNotPauseModel", "order", "(I)I"⟩ : MethodName) ∈ wG := wG_at 1049 rfl rfl
set_option maxRecDepth 100000 in
theorem a_1050 : Cond.code (⟨"MayNotPauseModel", "order", "(I)I"⟩ : MethodName) cX8_order 2 (some .int) ∈ wG := wG_at 1050 rfl rfl
set_option maxRecDepth 100000 in
theorem a_1051 : Cond.constantLong "MayNotPauseModel" 230 (-2) ∈ wG := wG_at 1051 rfl rfl
set_option maxRecDepth 100000 in
theorem a_1052 : Cond.constantLong "MayNotPauseModel" 232 6 ∈ wG := wG_at 1052 rfl rfl
set_option maxRecDepth 100000 in
theorem a_1053 : Cond.methodLink "MayNotPauseModel" 234 (⟨"MayNotPauseModel", "findOrder", "()V"⟩ : MethodName) ∈ wG := wG_at 1053 rfl rfl
set_option maxRecDepth 100000 in
theorem a_1055 : Cond.instanceMethod (⟨"MayNotPauseModel", "findOrder", "()V"⟩ : MethodName) ∈ wG := wG_at 1055 rfl rfl
set_option maxRecDepth 100000 in
theorem a_1056 : Cond.code (⟨"MayNotPauseModel", "findOrder", "()V"⟩ : MethodName) cX8_findOrder 6 none ∈ wG := wG_at 1056 rfl rfl
set_option maxRecDepth 100000 in
theorem a_1057 : Cond.methodLink "MayNotPauseModel" 217 (⟨"MayNotPauseModel", "lesser", "(II)I"⟩ : MethodName) ∈ wG := wG_at 1057 rfl rfl
set_option maxRecDepth 100000 in
theorem a_1058 : Cond.static (⟨"MayNotPauseModel", "lesser", "(II)I"⟩ : MethodName) ∈ wG := wG_at 1058 rfl rfl
set_option maxRecDepth 100000 in
theorem a_1059 : Cond.code (⟨"MayNotPauseModel", "lesser", "(II)I"⟩ : MethodName) cX8_lesser 2 (some .int) ∈ wG := wG_at 1059 rfl rfl
set_option maxRecDepth 100000 in
theorem a_1060 : Cond.methodLink "MayNotPauseModel" 226 (⟨"MayNotPauseModel", "unfolds", "(II)V"⟩ : MethodName) ∈ wG := wG_at 1060 rfl rfl
set_option maxRecDepth 100000 in
theorem a_1062 : Cond.instanceMethod (⟨"MayNotPauseModel", "unfolds", "(II)V"⟩ : MethodName) ∈ wG := wG_at 1062 rfl rfl
set_option maxRecDepth 100000 in
theorem a_1063 : Cond.code (⟨"MayNotPauseModel", "unfolds", "(II)V"⟩ : MethodName) cX8_unfolds 6 none ∈ wG := wG_at 1063 rfl rfl
set_option maxRecDepth 100000 in
theorem a_1064 : Cond.methodLink "MayNotPauseModel" 237 (⟨"MayNotPauseModel", "tellsOrder", "(I)I"⟩ : MethodName) ∈ wG := wG_at 1064 rfl rfl
set_option maxRecDepth 100000 in
theorem a_1066 : Cond.instanceMethod (⟨"MayNotPauseModel", "tellsOrder", "(I)I"⟩ : MethodName) ∈ wG := wG_at 1066 rfl rfl
set_option maxRecDepth 100000 in
theorem a_1067 : Cond.code (⟨"MayNotPauseModel", "tellsOrder", "(I)I"⟩ : MethodName) cX8_tellsOrder 2 (some .int) ∈ wG := wG_at 1067 rfl rfl
set_option maxRecDepth 100000 in
theorem a_1068 : Cond.methodLink "MayNotPauseLaw" 71 (⟨"MayNotPauseModel", "lead", "()I"⟩ : MethodName) ∈ wG := wG_at 1068 rfl rfl
set_option maxRecDepth 100000 in
theorem a_1069 : Cond.instanceMethod (⟨"MayNotPauseModel", "lead", "()I"⟩ : MethodName) ∈ wG := wG_at 1069 rfl rfl
set_option maxRecDepth 100000 in
theorem a_1070 : Cond.selects "MayNotPauseModel" (⟨"MayNotPauseModel", "lead", "()I"⟩ : MethodName) (⟨"MayNotPauseModel", "lead", "()I"⟩ : MethodName) ∈ wG := wG_at 1070 rfl rfl
set_option maxRecDepth 100000 in
theorem a_1071 : Cond.code (⟨"MayNotPauseModel", "lead", "()I"⟩ : MethodName) cX8_lead 1 (some .int) ∈ wG := wG_at 1071 rfl rfl
set_option maxRecDepth 100000 in
theorem a_1072 : Cond.methodLink "MayNotPauseModel" 240 (⟨"MayNotPauseModel", "leadNow", "()I"⟩ : MethodName) ∈ wG := wG_at 1072 rfl rfl
set_option maxRecDepth 100000 in
theorem a_1074 : Cond.instanceMethod (⟨"MayNotPauseModel", "leadNow", "()I"⟩ : MethodName) ∈ wG := wG_at 1074 rfl rfl
set_option maxRecDepth 100000 in
theorem a_1075 : Cond.code (⟨"MayNotPauseModel", "leadNow", "()I"⟩ : MethodName) cX8_leadNow 2 (some .int) ∈ wG := wG_at 1075 rfl rfl
set_option maxRecDepth 100000 in
theorem a_1076 : Cond.methodLink "MayNotPauseLaw" 76 (⟨"MayNotPauseModel", "odds", "(I)J"⟩ : MethodName) ∈ wG := wG_at 1076 rfl rfl
set_option maxRecDepth 100000 in
theorem a_1077 : Cond.instanceMethod (⟨"MayNotPauseModel", "odds", "(I)J"⟩ : MethodName) ∈ wG := wG_at 1077 rfl rfl
set_option maxRecDepth 100000 in
theorem a_1078 : Cond.selects "MayNotPauseModel" (⟨"MayNotPauseModel", "odds", "(I)J"⟩ : MethodName) (⟨"MayNotPauseModel", "odds", "(I)J"⟩ : MethodName) ∈ wG := wG_at 1078 rfl rfl
set_option maxRecDepth 100000 in
theorem a_1079 : Cond.code (⟨"MayNotPauseModel", "odds", "(I)J"⟩ : MethodName) cX8_odds 2 (some .long) ∈ wG := wG_at 1079 rfl rfl
set_option maxRecDepth 100000 in
theorem a_1080 : Cond.methodLink "MayNotPauseModel" 249 (⟨"MayNotPauseModel", "oddsOf", "(I)J"⟩ : MethodName) ∈ wG := wG_at 1080 rfl rfl
set_option maxRecDepth 100000 in
theorem a_1082 : Cond.instanceMethod (⟨"MayNotPauseModel", "oddsOf", "(I)J"⟩ : MethodName) ∈ wG := wG_at 1082 rfl rfl
set_option maxRecDepth 100000 in
theorem a_1083 : Cond.code (⟨"MayNotPauseModel", "oddsOf", "(I)J"⟩ : MethodName) cX8_oddsOf 9 (some .long) ∈ wG := wG_at 1083 rfl rfl
set_option maxRecDepth 100000 in
theorem a_1084 : Cond.constantLong "MayNotPauseModel" 243 16 ∈ wG := wG_at 1084 rfl rfl
set_option maxRecDepth 100000 in
theorem a_1085 : Cond.methodLink "MayNotPauseModel" 245 (⟨"MayNotPauseModel", "part", "(JJI)J"⟩ : MethodName) ∈ wG := wG_at 1085 rfl rfl
set_option maxRecDepth 100000 in
theorem a_1086 : Cond.static (⟨"MayNotPauseModel", "part", "(JJI)J"⟩ : MethodName) ∈ wG := wG_at 1086 rfl rfl
set_option maxRecDepth 100000 in
theorem a_1087 : Cond.code (⟨"MayNotPauseModel", "part", "(JJI)J"⟩ : MethodName) cX8_part 11 (some .long) ∈ wG := wG_at 1087 rfl rfl
set_option maxRecDepth 100000 in
theorem a_1088 : Cond.methodLink "MayNotPauseModel" 253 (⟨"MayNotPauseModel", "no", "(I)J"⟩ : MethodName) ∈ wG := wG_at 1088 rfl rfl
set_option maxRecDepth 100000 in
theorem a_1089 : Cond.static (⟨"MayNotPauseModel", "no", "(I)J"⟩ : MethodName) ∈ wG := wG_at 1089 rfl rfl
set_option maxRecDepth 100000 in
theorem a_1090 : Cond.code (⟨"MayNotPauseModel", "no", "(I)J"⟩ : MethodName) cX8_no 1 (some .long) ∈ wG := wG_at 1090 rfl rfl
set_option maxRecDepth 100000 in
theorem a_1091 : Cond.constantLong "MayNotPauseModel" 70 (-9223372036854775808) ∈ wG := wG_at 1091 rfl rfl
set_option maxRecDepth 100000 in
theorem a_1092 : Cond.methodLink "MayNotPauseLaw" 80 (⟨"MayNotPauseModel", "drawn", "(I)I"⟩ : MethodName) ∈ wG := wG_at 1092 rfl rfl
set_option maxRecDepth 100000 in
theorem a_1093 : Cond.instanceMethod (⟨"MayNotPauseModel", "drawn", "(I)I"⟩ : MethodName) ∈ wG := wG_at 1093 rfl rfl
set_option maxRecDepth 100000 in
theorem a_1094 : Cond.selects "MayNotPauseModel" (⟨"MayNotPauseModel", "drawn", "(I)I"⟩ : MethodName) (⟨"MayNotPauseModel", "drawn", "(I)I"⟩ : MethodName) ∈ wG := wG_at 1094 rfl rfl
set_option maxRecDepth 100000 in
theorem a_1095 : Cond.code (⟨"MayNotPauseModel", "drawn", "(I)I"⟩ : MethodName) cX8_drawn 2 (some .int) ∈ wG := wG_at 1095 rfl rfl
set_option maxRecDepth 100000 in
theorem a_1096 : Cond.methodLink "MayNotPauseModel" 257 (⟨"MayNotPauseModel", "drawnOf", "(I)I"⟩ : MethodName) ∈ wG := wG_at 1096 rfl rfl
set_option maxRecDepth 100000 in
theorem a_1098 : Cond.instanceMethod (⟨"MayNotPauseModel", "drawnOf", "(I)I"⟩ : MethodName) ∈ wG := wG_at 1098 rfl rfl
set_option maxRecDepth 100000 in
theorem a_1099 : Cond.code (⟨"MayNotPauseModel", "drawnOf", "(I)I"⟩ : MethodName) cX8_drawnOf 4 (some .int) ∈ wG := wG_at 1099 rfl rfl
set_option maxRecDepth 100000 in
theorem a_1100 : Cond.constant "MayNotPauseModel" 256 1103515245 ∈ wG := wG_at 1100 rfl rfl
set_option maxRecDepth 100000 in
theorem a_1101 : Cond.methodLink "MayNotPauseLaw" 84 (⟨"MayNotPauseModel", "line", "(II)I"⟩ : MethodName) ∈ wG := wG_at 1101 rfl rfl
set_option maxRecDepth 100000 in
theorem a_1102 : Cond.instanceMethod (⟨"MayNotPauseModel", "line", "(II)I"⟩ : MethodName) ∈ wG := wG_at 1102 rfl rfl
set_option maxRecDepth 100000 in
theorem a_1103 : Cond.selects "MayNotPauseModel" (⟨"MayNotPauseModel", "line", "(II)I"⟩ : MethodName) (⟨"MayNotPauseModel", "line", "(II)I"⟩ : MethodName) ∈ wG := wG_at 1103 rfl rfl
set_option maxRecDepth 100000 in
theorem a_1104 : Cond.code (⟨"MayNotPauseModel", "line", "(II)I"⟩ : MethodName) cX8_line 3 (some .int) ∈ wG := wG_at 1104 rfl rfl
set_option maxRecDepth 100000 in
theorem a_1105 : Cond.constantLong "MayNotPauseModel" 267 (-1) ∈ wG := wG_at 1105 rfl rfl
set_option maxRecDepth 100000 in
theorem a_1106 : Cond.constantLong "MayNotPauseModel" 269 10 ∈ wG := wG_at 1106 rfl rfl
set_option maxRecDepth 100000 in
theorem a_1107 : Cond.methodLink "MayNotPauseModel" 271 (⟨"MayNotPauseModel", "lineOf", "(II)I"⟩ : MethodName) ∈ wG := wG_at 1107 rfl rfl
set_option maxRecDepth 100000 in
theorem a_1109 : Cond.instanceMethod (⟨"MayNotPauseModel", "lineOf", "(II)I"⟩ : MethodName) ∈ wG := wG_at 1109 rfl rfl
set_option maxRecDepth 100000 in
theorem a_1110 : Cond.code (⟨"MayNotPauseModel", "lineOf", "(II)I"⟩ : MethodName) cX8_lineOf 5 (some .int) ∈ wG := wG_at 1110 rfl rfl
set_option maxRecDepth 100000 in
theorem a_1111 : Cond.methodLink "MayNotPauseModel" 264 (⟨"MayNotPauseModel", "errors", "(II)I"⟩ : MethodName) ∈ wG := wG_at 1111 rfl rfl
set_option maxRecDepth 100000 in
theorem a_1113 : Cond.instanceMethod (⟨"MayNotPauseModel", "errors", "(II)I"⟩ : MethodName) ∈ wG := wG_at 1113 rfl rfl
set_option maxRecDepth 100000 in
theorem a_1114 : Cond.code (⟨"MayNotPauseModel", "errors", "(II)I"⟩ : MethodName) cX8_errors 7 (some .int) ∈ wG := wG_at 1114 rfl rfl
set_option maxRecDepth 100000 in
theorem a_1115 : Cond.methodLink "MayNotPauseModel" 260 (⟨"MayNotPauseModel", "isIn", "(II)Z"⟩ : MethodName) ∈ wG := wG_at 1115 rfl rfl
set_option maxRecDepth 100000 in
theorem a_1116 : Cond.static (⟨"MayNotPauseModel", "isIn", "(II)Z"⟩ : MethodName) ∈ wG := wG_at 1116 rfl rfl
set_option maxRecDepth 100000 in
theorem a_1117 : Cond.code (⟨"MayNotPauseModel", "isIn", "(II)Z"⟩ : MethodName) cX8_isIn 2 (some .boolean) ∈ wG := wG_at 1117 rfl rfl
set_option maxRecDepth 100000 in
theorem a_1118 : Cond.methodLink "MayNotPauseLaw" 88 (⟨"MayNotPauseModel", "seen", "(II)I"⟩ : MethodName) ∈ wG := wG_at 1118 rfl rfl
set_option maxRecDepth 100000 in
theorem a_1119 : Cond.instanceMethod (⟨"MayNotPauseModel", "seen", "(II)I"⟩ : MethodName) ∈ wG := wG_at 1119 rfl rfl
set_option maxRecDepth 100000 in
theorem a_1120 : Cond.selects "MayNotPauseModel" (⟨"MayNotPauseModel", "seen", "(II)I"⟩ : MethodName) (⟨"MayNotPauseModel", "seen", "(II)I"⟩ : MethodName) ∈ wG := wG_at 1120 rfl rfl
set_option maxRecDepth 100000 in
theorem a_1121 : Cond.code (⟨"MayNotPauseModel", "seen", "(II)I"⟩ : MethodName) cX8_seen 3 (some .int) ∈ wG := wG_at 1121 rfl rfl
set_option maxRecDepth 100000 in
theorem a_1122 : Cond.constantLong "MayNotPauseModel" 274 11 ∈ wG := wG_at 1122 rfl rfl
set_option maxRecDepth 100000 in
theorem a_1123 : Cond.methodLink "MayNotPauseLaw" 92 (⟨"MayNotPauseModel", "forget", "()I"⟩ : MethodName) ∈ wG := wG_at 1123 rfl rfl
set_option maxRecDepth 100000 in
theorem a_1124 : Cond.instanceMethod (⟨"MayNotPauseModel", "forget", "()I"⟩ : MethodName) ∈ wG := wG_at 1124 rfl rfl
set_option maxRecDepth 100000 in
theorem a_1125 : Cond.selects "MayNotPauseModel" (⟨"MayNotPauseModel", "forget", "()I"⟩ : MethodName) (⟨"MayNotPauseModel", "forget", "()I"⟩ : MethodName) ∈ wG := wG_at 1125 rfl rfl
set_option maxRecDepth 100000 in
theorem a_1126 : Cond.code (⟨"MayNotPauseModel", "forget", "()I"⟩ : MethodName) cX8_forget 2 (some .int) ∈ wG := wG_at 1126 rfl rfl
set_option maxRecDepth 100000 in
theorem a_1127 : Cond.methodLink "MayNotPauseLaw" 100 (⟨"MayNotPauseModel", "read", "(I)I"⟩ : MethodName) ∈ wG := wG_at 1127 rfl rfl
set_option maxRecDepth 100000 in
theorem a_1128 : Cond.instanceMethod (⟨"MayNotPauseModel", "read", "(I)I"⟩ : MethodName) ∈ wG := wG_at 1128 rfl rfl
set_option maxRecDepth 100000 in
theorem a_1129 : Cond.selects "MayNotPauseModel" (⟨"MayNotPauseModel", "read", "(I)I"⟩ : MethodName) (⟨"MayNotPauseModel", "read", "(I)I"⟩ : MethodName) ∈ wG := wG_at 1129 rfl rfl
set_option maxRecDepth 100000 in
theorem a_1130 : Cond.code (⟨"MayNotPauseModel", "read", "(I)I"⟩ : MethodName) cX8_read 4 (some .int) ∈ wG := wG_at 1130 rfl rfl
set_option maxRecDepth 100000 in
theorem a_1131 : Cond.methodLink "MayNotPauseModel" 279 (⟨"MayNotPauseModel", "seen", "(II)I"⟩ : MethodName) ∈ wG := wG_at 1131 rfl rfl
set_option maxRecDepth 100000 in
theorem a_1132 : Cond.methodLink "MayNotPauseLaw" 96 (⟨"MayNotPauseModel", "leads", "()I"⟩ : MethodName) ∈ wG := wG_at 1132 rfl rfl
set_option maxRecDepth 100000 in
theorem a_1133 : Cond.instanceMethod (⟨"MayNotPauseModel", "leads", "()I"⟩ : MethodName) ∈ wG := wG_at 1133 rfl rfl
set_option maxRecDepth 100000 in
theorem a_1134 : Cond.selects "MayNotPauseModel" (⟨"MayNotPauseModel", "leads", "()I"⟩ : MethodName) (⟨"MayNotPauseModel", "leads", "()I"⟩ : MethodName) ∈ wG := wG_at 1134 rfl rfl
set_option maxRecDepth 100000 in
theorem a_1135 : Cond.code (⟨"MayNotPauseModel", "leads", "()I"⟩ : MethodName) cX8_leads 1 (some .int) ∈ wG := wG_at 1135 rfl rfl
set_option maxRecDepth 100000 in
theorem a_1136 : Cond.methodLink "MayNotPauseModel" 281 (⟨"MayNotPauseModel", "leadsNow", "()I"⟩ : MethodName) ∈ wG := wG_at 1136 rfl rfl
set_option maxRecDepth 100000 in
theorem a_1138 : Cond.instanceMethod (⟨"MayNotPauseModel", "leadsNow", "()I"⟩ : MethodName) ∈ wG := wG_at 1138 rfl rfl
set_option maxRecDepth 100000 in
theorem a_1139 : Cond.code (⟨"MayNotPauseModel", "leadsNow", "()I"⟩ : MethodName) cX8_leadsNow 5 (some .int) ∈ wG := wG_at 1139 rfl rfl
set_option maxRecDepth 100000 in
theorem a_1140 : Cond.methodLink "MayNotPauseLaw" 127 (⟨"MayNotPauseModel", "write", "(I)I"⟩ : MethodName) ∈ wG := wG_at 1140 rfl rfl
set_option maxRecDepth 100000 in
theorem a_1141 : Cond.instanceMethod (⟨"MayNotPauseModel", "write", "(I)I"⟩ : MethodName) ∈ wG := wG_at 1141 rfl rfl
set_option maxRecDepth 100000 in
theorem a_1142 : Cond.selects "MayNotPauseModel" (⟨"MayNotPauseModel", "write", "(I)I"⟩ : MethodName) (⟨"MayNotPauseModel", "write", "(I)I"⟩ : MethodName) ∈ wG := wG_at 1142 rfl rfl
set_option maxRecDepth 100000 in
theorem a_1143 : Cond.code (⟨"MayNotPauseModel", "write", "(I)I"⟩ : MethodName) cX8_write 4 (some .int) ∈ wG := wG_at 1143 rfl rfl
set_option maxRecDepth 100000 in
theorem a_1144 : Cond.methodLink "MayNotPauseLaw" 131 (⟨"MayNotPauseModel", "count", "(I)I"⟩ : MethodName) ∈ wG := wG_at 1144 rfl rfl
set_option maxRecDepth 100000 in
theorem a_1145 : Cond.instanceMethod (⟨"MayNotPauseModel", "count", "(I)I"⟩ : MethodName) ∈ wG := wG_at 1145 rfl rfl
set_option maxRecDepth 100000 in
theorem a_1146 : Cond.selects "MayNotPauseModel" (⟨"MayNotPauseModel", "count", "(I)I"⟩ : MethodName) (⟨"MayNotPauseModel", "count", "(I)I"⟩ : MethodName) ∈ wG := wG_at 1146 rfl rfl
set_option maxRecDepth 100000 in
theorem a_1147 : Cond.code (⟨"MayNotPauseModel", "count", "(I)I"⟩ : MethodName) cX8_count 4 (some .int) ∈ wG := wG_at 1147 rfl rfl
set_option maxRecDepth 100000 in
theorem a_1148 : Cond.methodLink "MayNotPauseLaw" 136 (⟨"MayNotPauseModel", "digest", "()J"⟩ : MethodName) ∈ wG := wG_at 1148 rfl rfl
set_option maxRecDepth 100000 in
theorem a_1149 : Cond.instanceMethod (⟨"MayNotPauseModel", "digest", "()J"⟩ : MethodName) ∈ wG := wG_at 1149 rfl rfl
set_option maxRecDepth 100000 in
theorem a_1150 : Cond.selects "MayNotPauseModel" (⟨"MayNotPauseModel", "digest", "()J"⟩ : MethodName) (⟨"MayNotPauseModel", "digest", "()J"⟩ : MethodName) ∈ wG := wG_at 1150 rfl rfl
set_option maxRecDepth 100000 in
theorem a_1151 : Cond.code (⟨"MayNotPauseModel", "digest", "()J"⟩ : MethodName) cX8_digest 5 (some .long) ∈ wG := wG_at 1151 rfl rfl
set_option maxRecDepth 100000 in
theorem a_1152 : Cond.constantLong "MayNotPauseModel" 284 17 ∈ wG := wG_at 1152 rfl rfl
set_option maxRecDepth 100000 in
theorem a_1153 : Cond.constantLong "MayNotPauseModel" 286 31 ∈ wG := wG_at 1153 rfl rfl
set_option maxRecDepth 100000 in
theorem a_1154 : Cond.methodLink "MayNotPauseModel" 288 (⟨"MayNotPauseModel", "count", "(I)I"⟩ : MethodName) ∈ wG := wG_at 1154 rfl rfl
theorem gX0 : ∀ w ∈ u_ws RX0 TX0 9, w ∈ wG := fun w h => wG_in (inX0 w h) (List.all_eq_true.mp (by decide +kernel : (u_ws RX0 TX0 9).all goodWord = true) w h)
theorem gX1 : ∀ w ∈ u_ws RX1 TX1 5, w ∈ wG := fun w h => wG_in (inX1 w h) (List.all_eq_true.mp (by decide +kernel : (u_ws RX1 TX1 5).all goodWord = true) w h)
theorem gX2 : ∀ w ∈ u_ws RX2 TX2 4, w ∈ wG := fun w h => wG_in (inX2 w h) (List.all_eq_true.mp (by decide +kernel : (u_ws RX2 TX2 4).all goodWord = true) w h)
theorem gX3 : ∀ w ∈ u_ws RX3 TX3 4, w ∈ wG := fun w h => wG_in (inX3 w h) (List.all_eq_true.mp (by decide +kernel : (u_ws RX3 TX3 4).all goodWord = true) w h)
theorem gX4 : ∀ w ∈ u_ws RX4 TX4 3, w ∈ wG := fun w h => wG_in (inX4 w h) (List.all_eq_true.mp (by decide +kernel : (u_ws RX4 TX4 3).all goodWord = true) w h)
theorem gX5 : ∀ w ∈ u_ws RX5 TX5 4, w ∈ wG := fun w h => wG_in (inX5 w h) (List.all_eq_true.mp (by decide +kernel : (u_ws RX5 TX5 4).all goodWord = true) w h)
theorem gX6 : ∀ w ∈ u_ws RX6 TX6 15, w ∈ wG := fun w h => wG_in (inX6 w h) (List.all_eq_true.mp (by decide +kernel : (u_ws RX6 TX6 15).all goodWord = true) w h)
theorem gX7 : ∀ w ∈ u_ws RX7 TX7 12, w ∈ wG := fun w h => wG_in (inX7 w h) (List.all_eq_true.mp (by decide +kernel : (u_ws RX7 TX7 12).all goodWord = true) w h)
theorem gX8 : ∀ w ∈ u_ws RX8 TX8 30, w ∈ wG := fun w h => wG_in (inX8 w h) (List.all_eq_true.mp (by decide +kernel : (u_ws RX8 TX8 30).all goodWord = true) w h)
theorem f_X0_11 : FL RX0 11 0 3 := ⟨_, _, _, rfl, gX0, by decide, a_230⟩
theorem p_X0_11 : FP RX0 11 0 3 (tyX0 3) true := ⟨_, _, _, tyX0, rfl, gX0, by decide, a_230, tyX0_ok, nmX0, rfl, (fun _ => rfl), tyX0_ok 3 (by decide)⟩
theorem f_X0_15 : FL RX0 15 0 4 := ⟨_, _, _, rfl, gX0, by decide, a_231⟩
theorem p_X0_15 : FP RX0 15 0 4 (tyX0 4) true := ⟨_, _, _, tyX0, rfl, gX0, by decide, a_231, tyX0_ok, nmX0, rfl, (fun _ => rfl), tyX0_ok 4 (by decide)⟩
theorem f_X0_18 : FL RX0 18 0 5 := ⟨_, _, _, rfl, gX0, by decide, a_233⟩
theorem p_X0_18 : FP RX0 18 0 5 (tyX0 5) true := ⟨_, _, _, tyX0, rfl, gX0, by decide, a_233, tyX0_ok, nmX0, rfl, (fun _ => rfl), tyX0_ok 5 (by decide)⟩
theorem f_X0_22 : FL RX0 22 0 0 := ⟨_, _, _, rfl, gX0, by decide, a_227⟩
theorem p_X0_22 : FP RX0 22 0 0 (tyX0 0) true := ⟨_, _, _, tyX0, rfl, gX0, by decide, a_227, tyX0_ok, nmX0, rfl, (fun _ => rfl), tyX0_ok 0 (by decide)⟩
theorem f_X0_26 : FL RX0 26 0 1 := ⟨_, _, _, rfl, gX0, by decide, a_228⟩
theorem p_X0_26 : FP RX0 26 0 1 (tyX0 1) true := ⟨_, _, _, tyX0, rfl, gX0, by decide, a_228, tyX0_ok, nmX0, rfl, (fun _ => rfl), tyX0_ok 1 (by decide)⟩
theorem f_X0_30 : FL RX0 30 0 2 := ⟨_, _, _, rfl, gX0, by decide, a_229⟩
theorem p_X0_30 : FP RX0 30 0 2 (tyX0 2) true := ⟨_, _, _, tyX0, rfl, gX0, by decide, a_229, tyX0_ok, nmX0, rfl, (fun _ => rfl), tyX0_ok 2 (by decide)⟩
theorem f_X0_33 : FL RX0 33 2 3 := ⟨_, _, _, rfl, gX2, by decide, a_85⟩
theorem p_X0_33 : FP RX0 33 2 3 (tyX2 3) false := ⟨_, _, _, tyX2, rfl, gX2, by decide, a_85, tyX2_ok, nmX2, rfl, (fun h => by cases h), tyX2_ok 3 (by decide)⟩
theorem f_X0_45 : FL RX0 45 0 6 := ⟨_, _, _, rfl, gX0, by decide, a_234⟩
theorem p_X0_45 : FP RX0 45 0 6 (tyX0 6) false := ⟨_, _, _, tyX0, rfl, gX0, by decide, a_234, tyX0_ok, nmX0, rfl, (fun h => by cases h), tyX0_ok 6 (by decide)⟩
theorem f_X0_47 : FL RX0 47 0 7 := ⟨_, _, _, rfl, gX0, by decide, a_235⟩
theorem p_X0_47 : FP RX0 47 0 7 (tyX0 7) false := ⟨_, _, _, tyX0, rfl, gX0, by decide, a_235, tyX0_ok, nmX0, rfl, (fun h => by cases h), tyX0_ok 7 (by decide)⟩
theorem f_X0_50 : FL RX0 50 0 8 := ⟨_, _, _, rfl, gX0, by decide, a_237⟩
theorem p_X0_50 : FP RX0 50 0 8 (tyX0 8) false := ⟨_, _, _, tyX0, rfl, gX0, by decide, a_237, tyX0_ok, nmX0, rfl, (fun h => by cases h), tyX0_ok 8 (by decide)⟩
theorem f_X0_84 : FL RX0 84 6 10 := ⟨_, _, _, rfl, gX6, by decide, a_143⟩
theorem p_X0_84 : FP RX0 84 6 10 (tyX6 10) false := ⟨_, _, _, tyX6, rfl, gX6, by decide, a_143, tyX6_ok, nmX6, rfl, (fun h => by cases h), tyX6_ok 10 (by decide)⟩
theorem f_X0_89 : FL RX0 89 6 7 := ⟨_, _, _, rfl, gX6, by decide, a_133⟩
theorem p_X0_89 : FP RX0 89 6 7 (tyX6 7) false := ⟨_, _, _, tyX6, rfl, gX6, by decide, a_133, tyX6_ok, nmX6, rfl, (fun h => by cases h), tyX6_ok 7 (by decide)⟩
theorem f_X1_11 : FL RX1 11 1 4 := ⟨_, _, _, rfl, gX1, by decide, a_208⟩
theorem p_X1_11 : FP RX1 11 1 4 (tyX1 4) true := ⟨_, _, _, tyX1, rfl, gX1, by decide, a_208, tyX1_ok, nmX1, rfl, (fun _ => rfl), tyX1_ok 4 (by decide)⟩
theorem f_X1_15 : FL RX1 15 1 0 := ⟨_, _, _, rfl, gX1, by decide, a_204⟩
theorem p_X1_15 : FP RX1 15 1 0 (tyX1 0) true := ⟨_, _, _, tyX1, rfl, gX1, by decide, a_204, tyX1_ok, nmX1, rfl, (fun _ => rfl), tyX1_ok 0 (by decide)⟩
theorem f_X1_19 : FL RX1 19 1 1 := ⟨_, _, _, rfl, gX1, by decide, a_205⟩
theorem p_X1_19 : FP RX1 19 1 1 (tyX1 1) true := ⟨_, _, _, tyX1, rfl, gX1, by decide, a_205, tyX1_ok, nmX1, rfl, (fun _ => rfl), tyX1_ok 1 (by decide)⟩
theorem f_X1_23 : FL RX1 23 1 2 := ⟨_, _, _, rfl, gX1, by decide, a_206⟩
theorem p_X1_23 : FP RX1 23 1 2 (tyX1 2) true := ⟨_, _, _, tyX1, rfl, gX1, by decide, a_206, tyX1_ok, nmX1, rfl, (fun _ => rfl), tyX1_ok 2 (by decide)⟩
theorem f_X1_26 : FL RX1 26 1 3 := ⟨_, _, _, rfl, gX1, by decide, a_207⟩
theorem p_X1_26 : FP RX1 26 1 3 (tyX1 3) true := ⟨_, _, _, tyX1, rfl, gX1, by decide, a_207, tyX1_ok, nmX1, rfl, (fun _ => rfl), tyX1_ok 3 (by decide)⟩
theorem f_X1_39 : FL RX1 39 2 3 := ⟨_, _, _, rfl, gX2, by decide, a_86⟩
theorem p_X1_39 : FP RX1 39 2 3 (tyX2 3) false := ⟨_, _, _, tyX2, rfl, gX2, by decide, a_86, tyX2_ok, nmX2, rfl, (fun h => by cases h), tyX2_ok 3 (by decide)⟩
theorem f_X1_63 : FL RX1 63 6 7 := ⟨_, _, _, rfl, gX6, by decide, a_134⟩
theorem p_X1_63 : FP RX1 63 6 7 (tyX6 7) false := ⟨_, _, _, tyX6, rfl, gX6, by decide, a_134, tyX6_ok, nmX6, rfl, (fun h => by cases h), tyX6_ok 7 (by decide)⟩
theorem f_X2_9 : FL RX2 9 2 2 := ⟨_, _, _, rfl, gX2, by decide, a_83⟩
theorem p_X2_9 : FP RX2 9 2 2 (tyX2 2) false := ⟨_, _, _, tyX2, rfl, gX2, by decide, a_83, tyX2_ok, nmX2, rfl, (fun h => by cases h), tyX2_ok 2 (by decide)⟩
theorem f_X2_15 : FL RX2 15 2 0 := ⟨_, _, _, rfl, gX2, by decide, a_80⟩
theorem p_X2_15 : FP RX2 15 2 0 (tyX2 0) true := ⟨_, _, _, tyX2, rfl, gX2, by decide, a_80, tyX2_ok, nmX2, rfl, (fun _ => rfl), tyX2_ok 0 (by decide)⟩
theorem f_X2_19 : FL RX2 19 2 1 := ⟨_, _, _, rfl, gX2, by decide, a_81⟩
theorem p_X2_19 : FP RX2 19 2 1 (tyX2 1) false := ⟨_, _, _, tyX2, rfl, gX2, by decide, a_81, tyX2_ok, nmX2, rfl, (fun h => by cases h), tyX2_ok 1 (by decide)⟩
theorem f_X2_29 : FL RX2 29 2 3 := ⟨_, _, _, rfl, gX2, by decide, a_88⟩
theorem p_X2_29 : FP RX2 29 2 3 (tyX2 3) false := ⟨_, _, _, tyX2, rfl, gX2, by decide, a_88, tyX2_ok, nmX2, rfl, (fun h => by cases h), tyX2_ok 3 (by decide)⟩
theorem f_X3_9 : FL RX3 9 3 0 := ⟨_, _, _, rfl, gX3, by decide, a_283⟩
theorem p_X3_9 : FP RX3 9 3 0 (tyX3 0) true := ⟨_, _, _, tyX3, rfl, gX3, by decide, a_283, tyX3_ok, nmX3, rfl, (fun _ => rfl), tyX3_ok 0 (by decide)⟩
theorem f_X3_15 : FL RX3 15 3 1 := ⟨_, _, _, rfl, gX3, by decide, a_285⟩
theorem p_X3_15 : FP RX3 15 3 1 (tyX3 1) false := ⟨_, _, _, tyX3, rfl, gX3, by decide, a_285, tyX3_ok, nmX3, rfl, (fun h => by cases h), tyX3_ok 1 (by decide)⟩
theorem f_X3_19 : FL RX3 19 3 2 := ⟨_, _, _, rfl, gX3, by decide, a_287⟩
theorem p_X3_19 : FP RX3 19 3 2 (tyX3 2) false := ⟨_, _, _, tyX3, rfl, gX3, by decide, a_287, tyX3_ok, nmX3, rfl, (fun h => by cases h), tyX3_ok 2 (by decide)⟩
theorem f_X3_23 : FL RX3 23 3 3 := ⟨_, _, _, rfl, gX3, by decide, a_289⟩
theorem p_X3_23 : FP RX3 23 3 3 (tyX3 3) false := ⟨_, _, _, tyX3, rfl, gX3, by decide, a_289, tyX3_ok, nmX3, rfl, (fun h => by cases h), tyX3_ok 3 (by decide)⟩
theorem f_X4_11 : FL RX4 11 4 0 := ⟨_, _, _, rfl, gX4, by decide, a_265⟩
theorem p_X4_11 : FP RX4 11 4 0 (tyX4 0) true := ⟨_, _, _, tyX4, rfl, gX4, by decide, a_265, tyX4_ok, nmX4, rfl, (fun _ => rfl), tyX4_ok 0 (by decide)⟩
theorem f_X4_15 : FL RX4 15 4 1 := ⟨_, _, _, rfl, gX4, by decide, a_266⟩
theorem p_X4_15 : FP RX4 15 4 1 (tyX4 1) true := ⟨_, _, _, tyX4, rfl, gX4, by decide, a_266, tyX4_ok, nmX4, rfl, (fun _ => rfl), tyX4_ok 1 (by decide)⟩
theorem f_X4_18 : FL RX4 18 4 2 := ⟨_, _, _, rfl, gX4, by decide, a_267⟩
theorem p_X4_18 : FP RX4 18 4 2 (tyX4 2) false := ⟨_, _, _, tyX4, rfl, gX4, by decide, a_267, tyX4_ok, nmX4, rfl, (fun h => by cases h), tyX4_ok 2 (by decide)⟩
theorem f_X5_9 : FL RX5 9 5 0 := ⟨_, _, _, rfl, gX5, by decide, a_185⟩
theorem p_X5_9 : FP RX5 9 5 0 (tyX5 0) true := ⟨_, _, _, tyX5, rfl, gX5, by decide, a_185, tyX5_ok, nmX5, rfl, (fun _ => rfl), tyX5_ok 0 (by decide)⟩
theorem f_X5_18 : FL RX5 18 5 1 := ⟨_, _, _, rfl, gX5, by decide, a_186⟩
theorem p_X5_18 : FP RX5 18 5 1 (tyX5 1) true := ⟨_, _, _, tyX5, rfl, gX5, by decide, a_186, tyX5_ok, nmX5, rfl, (fun _ => rfl), tyX5_ok 1 (by decide)⟩
theorem f_X5_22 : FL RX5 22 5 2 := ⟨_, _, _, rfl, gX5, by decide, a_187⟩
theorem p_X5_22 : FP RX5 22 5 2 (tyX5 2) true := ⟨_, _, _, tyX5, rfl, gX5, by decide, a_187, tyX5_ok, nmX5, rfl, (fun _ => rfl), tyX5_ok 2 (by decide)⟩
theorem f_X5_26 : FL RX5 26 5 3 := ⟨_, _, _, rfl, gX5, by decide, a_188⟩
theorem p_X5_26 : FP RX5 26 5 3 (tyX5 3) false := ⟨_, _, _, tyX5, rfl, gX5, by decide, a_188, tyX5_ok, nmX5, rfl, (fun h => by cases h), tyX5_ok 3 (by decide)⟩
theorem f_X5_34 : FL RX5 34 2 3 := ⟨_, _, _, rfl, gX2, by decide, a_89⟩
theorem p_X5_34 : FP RX5 34 2 3 (tyX2 3) false := ⟨_, _, _, tyX2, rfl, gX2, by decide, a_89, tyX2_ok, nmX2, rfl, (fun h => by cases h), tyX2_ok 3 (by decide)⟩
theorem f_X5_45 : FL RX5 45 6 0 := ⟨_, _, _, rfl, gX6, by decide, a_113⟩
theorem p_X5_45 : FP RX5 45 6 0 (tyX6 0) false := ⟨_, _, _, tyX6, rfl, gX6, by decide, a_113, tyX6_ok, nmX6, rfl, (fun h => by cases h), tyX6_ok 0 (by decide)⟩
theorem f_X5_52 : FL RX5 52 6 2 := ⟨_, _, _, rfl, gX6, by decide, a_119⟩
theorem p_X5_52 : FP RX5 52 6 2 (tyX6 2) false := ⟨_, _, _, tyX6, rfl, gX6, by decide, a_119, tyX6_ok, nmX6, rfl, (fun h => by cases h), tyX6_ok 2 (by decide)⟩
theorem f_X5_58 : FL RX5 58 6 1 := ⟨_, _, _, rfl, gX6, by decide, a_116⟩
theorem p_X5_58 : FP RX5 58 6 1 (tyX6 1) false := ⟨_, _, _, tyX6, rfl, gX6, by decide, a_116, tyX6_ok, nmX6, rfl, (fun h => by cases h), tyX6_ok 1 (by decide)⟩
theorem f_X5_66 : FL RX5 66 6 3 := ⟨_, _, _, rfl, gX6, by decide, a_121⟩
theorem p_X5_66 : FP RX5 66 6 3 (tyX6 3) false := ⟨_, _, _, tyX6, rfl, gX6, by decide, a_121, tyX6_ok, nmX6, rfl, (fun h => by cases h), tyX6_ok 3 (by decide)⟩
theorem f_X5_77 : FL RX5 77 6 9 := ⟨_, _, _, rfl, gX6, by decide, a_140⟩
theorem p_X5_77 : FP RX5 77 6 9 (tyX6 9) false := ⟨_, _, _, tyX6, rfl, gX6, by decide, a_140, tyX6_ok, nmX6, rfl, (fun h => by cases h), tyX6_ok 9 (by decide)⟩
theorem f_X5_80 : FL RX5 80 6 13 := ⟨_, _, _, rfl, gX6, by decide, a_150⟩
theorem p_X5_80 : FP RX5 80 6 13 (tyX6 13) false := ⟨_, _, _, tyX6, rfl, gX6, by decide, a_150, tyX6_ok, nmX6, rfl, (fun h => by cases h), tyX6_ok 13 (by decide)⟩
theorem f_X5_83 : FL RX5 83 6 7 := ⟨_, _, _, rfl, gX6, by decide, a_135⟩
theorem p_X5_83 : FP RX5 83 6 7 (tyX6 7) false := ⟨_, _, _, tyX6, rfl, gX6, by decide, a_135, tyX6_ok, nmX6, rfl, (fun h => by cases h), tyX6_ok 7 (by decide)⟩
theorem f_X5_97 : FL RX5 97 6 10 := ⟨_, _, _, rfl, gX6, by decide, a_145⟩
theorem p_X5_97 : FP RX5 97 6 10 (tyX6 10) false := ⟨_, _, _, tyX6, rfl, gX6, by decide, a_145, tyX6_ok, nmX6, rfl, (fun h => by cases h), tyX6_ok 10 (by decide)⟩
theorem f_X5_108 : FL RX5 108 6 4 := ⟨_, _, _, rfl, gX6, by decide, a_125⟩
theorem p_X5_108 : FP RX5 108 6 4 (tyX6 4) false := ⟨_, _, _, tyX6, rfl, gX6, by decide, a_125, tyX6_ok, nmX6, rfl, (fun h => by cases h), tyX6_ok 4 (by decide)⟩
theorem f_X5_111 : FL RX5 111 6 5 := ⟨_, _, _, rfl, gX6, by decide, a_128⟩
theorem p_X5_111 : FP RX5 111 6 5 (tyX6 5) false := ⟨_, _, _, tyX6, rfl, gX6, by decide, a_128, tyX6_ok, nmX6, rfl, (fun h => by cases h), tyX6_ok 5 (by decide)⟩
theorem f_X5_114 : FL RX5 114 6 6 := ⟨_, _, _, rfl, gX6, by decide, a_131⟩
theorem p_X5_114 : FP RX5 114 6 6 (tyX6 6) false := ⟨_, _, _, tyX6, rfl, gX6, by decide, a_131, tyX6_ok, nmX6, rfl, (fun h => by cases h), tyX6_ok 6 (by decide)⟩
theorem f_X6_14 : FL RX6 14 6 7 := ⟨_, _, _, rfl, gX6, by decide, a_132⟩
theorem p_X6_14 : FP RX6 14 6 7 (tyX6 7) false := ⟨_, _, _, tyX6, rfl, gX6, by decide, a_132, tyX6_ok, nmX6, rfl, (fun h => by cases h), tyX6_ok 7 (by decide)⟩
theorem f_X6_18 : FL RX6 18 6 13 := ⟨_, _, _, rfl, gX6, by decide, a_149⟩
theorem p_X6_18 : FP RX6 18 6 13 (tyX6 13) false := ⟨_, _, _, tyX6, rfl, gX6, by decide, a_149, tyX6_ok, nmX6, rfl, (fun h => by cases h), tyX6_ok 13 (by decide)⟩
theorem f_X6_21 : FL RX6 21 6 9 := ⟨_, _, _, rfl, gX6, by decide, a_139⟩
theorem p_X6_21 : FP RX6 21 6 9 (tyX6 9) false := ⟨_, _, _, tyX6, rfl, gX6, by decide, a_139, tyX6_ok, nmX6, rfl, (fun h => by cases h), tyX6_ok 9 (by decide)⟩
theorem f_X6_24 : FL RX6 24 6 1 := ⟨_, _, _, rfl, gX6, by decide, a_115⟩
theorem p_X6_24 : FP RX6 24 6 1 (tyX6 1) false := ⟨_, _, _, tyX6, rfl, gX6, by decide, a_115, tyX6_ok, nmX6, rfl, (fun h => by cases h), tyX6_ok 1 (by decide)⟩
theorem f_X6_27 : FL RX6 27 6 10 := ⟨_, _, _, rfl, gX6, by decide, a_142⟩
theorem p_X6_27 : FP RX6 27 6 10 (tyX6 10) false := ⟨_, _, _, tyX6, rfl, gX6, by decide, a_142, tyX6_ok, nmX6, rfl, (fun h => by cases h), tyX6_ok 10 (by decide)⟩
theorem f_X6_30 : FL RX6 30 6 11 := ⟨_, _, _, rfl, gX6, by decide, a_146⟩
theorem p_X6_30 : FP RX6 30 6 11 (tyX6 11) false := ⟨_, _, _, tyX6, rfl, gX6, by decide, a_146, tyX6_ok, nmX6, rfl, (fun h => by cases h), tyX6_ok 11 (by decide)⟩
theorem f_X6_33 : FL RX6 33 6 12 := ⟨_, _, _, rfl, gX6, by decide, a_147⟩
theorem p_X6_33 : FP RX6 33 6 12 (tyX6 12) false := ⟨_, _, _, tyX6, rfl, gX6, by decide, a_147, tyX6_ok, nmX6, rfl, (fun h => by cases h), tyX6_ok 12 (by decide)⟩
theorem f_X6_36 : FL RX6 36 6 4 := ⟨_, _, _, rfl, gX6, by decide, a_123⟩
theorem p_X6_36 : FP RX6 36 6 4 (tyX6 4) false := ⟨_, _, _, tyX6, rfl, gX6, by decide, a_123, tyX6_ok, nmX6, rfl, (fun h => by cases h), tyX6_ok 4 (by decide)⟩
theorem f_X6_39 : FL RX6 39 6 5 := ⟨_, _, _, rfl, gX6, by decide, a_126⟩
theorem p_X6_39 : FP RX6 39 6 5 (tyX6 5) false := ⟨_, _, _, tyX6, rfl, gX6, by decide, a_126, tyX6_ok, nmX6, rfl, (fun h => by cases h), tyX6_ok 5 (by decide)⟩
theorem f_X6_42 : FL RX6 42 6 6 := ⟨_, _, _, rfl, gX6, by decide, a_129⟩
theorem p_X6_42 : FP RX6 42 6 6 (tyX6 6) false := ⟨_, _, _, tyX6, rfl, gX6, by decide, a_129, tyX6_ok, nmX6, rfl, (fun h => by cases h), tyX6_ok 6 (by decide)⟩
theorem f_X6_45 : FL RX6 45 6 8 := ⟨_, _, _, rfl, gX6, by decide, a_137⟩
theorem p_X6_45 : FP RX6 45 6 8 (tyX6 8) false := ⟨_, _, _, tyX6, rfl, gX6, by decide, a_137, tyX6_ok, nmX6, rfl, (fun h => by cases h), tyX6_ok 8 (by decide)⟩
theorem f_X6_54 : FL RX6 54 6 14 := ⟨_, _, _, rfl, gX6, by decide, a_151⟩
theorem p_X6_54 : FP RX6 54 6 14 (tyX6 14) false := ⟨_, _, _, tyX6, rfl, gX6, by decide, a_151, tyX6_ok, nmX6, rfl, (fun h => by cases h), tyX6_ok 14 (by decide)⟩
theorem f_X6_57 : FL RX6 57 6 2 := ⟨_, _, _, rfl, gX6, by decide, a_118⟩
theorem p_X6_57 : FP RX6 57 6 2 (tyX6 2) false := ⟨_, _, _, tyX6, rfl, gX6, by decide, a_118, tyX6_ok, nmX6, rfl, (fun h => by cases h), tyX6_ok 2 (by decide)⟩
theorem f_X6_60 : FL RX6 60 6 0 := ⟨_, _, _, rfl, gX6, by decide, a_112⟩
theorem p_X6_60 : FP RX6 60 6 0 (tyX6 0) false := ⟨_, _, _, tyX6, rfl, gX6, by decide, a_112, tyX6_ok, nmX6, rfl, (fun h => by cases h), tyX6_ok 0 (by decide)⟩
theorem f_X6_63 : FL RX6 63 6 3 := ⟨_, _, _, rfl, gX6, by decide, a_120⟩
theorem p_X6_63 : FP RX6 63 6 3 (tyX6 3) false := ⟨_, _, _, tyX6, rfl, gX6, by decide, a_120, tyX6_ok, nmX6, rfl, (fun h => by cases h), tyX6_ok 3 (by decide)⟩
theorem f_X7_7 : FL RX7 7 7 0 := ⟨_, _, _, rfl, gX7, by decide, a_300⟩
theorem p_X7_7 : FP RX7 7 7 0 (tyX7 0) true := ⟨_, _, _, tyX7, rfl, gX7, by decide, a_300, tyX7_ok, nmX7, rfl, (fun _ => rfl), tyX7_ok 0 (by decide)⟩
theorem f_X7_18 : FL RX7 18 7 1 := ⟨_, _, _, rfl, gX7, by decide, a_301⟩
theorem p_X7_18 : FP RX7 18 7 1 (tyX7 1) true := ⟨_, _, _, tyX7, rfl, gX7, by decide, a_301, tyX7_ok, nmX7, rfl, (fun _ => rfl), tyX7_ok 1 (by decide)⟩
theorem f_X7_22 : FL RX7 22 7 2 := ⟨_, _, _, rfl, gX7, by decide, a_302⟩
theorem p_X7_22 : FP RX7 22 7 2 (tyX7 2) true := ⟨_, _, _, tyX7, rfl, gX7, by decide, a_302, tyX7_ok, nmX7, rfl, (fun _ => rfl), tyX7_ok 2 (by decide)⟩
theorem f_X7_28 : FL RX7 28 7 3 := ⟨_, _, _, rfl, gX7, by decide, a_303⟩
theorem p_X7_28 : FP RX7 28 7 3 (tyX7 3) true := ⟨_, _, _, tyX7, rfl, gX7, by decide, a_303, tyX7_ok, nmX7, rfl, (fun _ => rfl), tyX7_ok 3 (by decide)⟩
theorem f_X7_32 : FL RX7 32 7 4 := ⟨_, _, _, rfl, gX7, by decide, a_304⟩
theorem p_X7_32 : FP RX7 32 7 4 (tyX7 4) true := ⟨_, _, _, tyX7, rfl, gX7, by decide, a_304, tyX7_ok, nmX7, rfl, (fun _ => rfl), tyX7_ok 4 (by decide)⟩
theorem f_X7_40 : FL RX7 40 7 5 := ⟨_, _, _, rfl, gX7, by decide, a_305⟩
theorem p_X7_40 : FP RX7 40 7 5 (tyX7 5) true := ⟨_, _, _, tyX7, rfl, gX7, by decide, a_305, tyX7_ok, nmX7, rfl, (fun _ => rfl), tyX7_ok 5 (by decide)⟩
theorem f_X7_49 : FL RX7 49 7 6 := ⟨_, _, _, rfl, gX7, by decide, a_306⟩
theorem p_X7_49 : FP RX7 49 7 6 (tyX7 6) true := ⟨_, _, _, tyX7, rfl, gX7, by decide, a_306, tyX7_ok, nmX7, rfl, (fun _ => rfl), tyX7_ok 6 (by decide)⟩
theorem f_X7_56 : FL RX7 56 7 7 := ⟨_, _, _, rfl, gX7, by decide, a_307⟩
theorem p_X7_56 : FP RX7 56 7 7 (tyX7 7) true := ⟨_, _, _, tyX7, rfl, gX7, by decide, a_307, tyX7_ok, nmX7, rfl, (fun _ => rfl), tyX7_ok 7 (by decide)⟩
theorem f_X7_62 : FL RX7 62 7 8 := ⟨_, _, _, rfl, gX7, by decide, a_308⟩
theorem p_X7_62 : FP RX7 62 7 8 (tyX7 8) true := ⟨_, _, _, tyX7, rfl, gX7, by decide, a_308, tyX7_ok, nmX7, rfl, (fun _ => rfl), tyX7_ok 8 (by decide)⟩
theorem f_X7_85 : FL RX7 85 2 1 := ⟨_, _, _, rfl, gX2, by decide, a_82⟩
theorem p_X7_85 : FP RX7 85 2 1 (tyX2 1) false := ⟨_, _, _, tyX2, rfl, gX2, by decide, a_82, tyX2_ok, nmX2, rfl, (fun h => by cases h), tyX2_ok 1 (by decide)⟩
theorem f_X7_92 : FL RX7 92 2 3 := ⟨_, _, _, rfl, gX2, by decide, a_87⟩
theorem p_X7_92 : FP RX7 92 2 3 (tyX2 3) false := ⟨_, _, _, tyX2, rfl, gX2, by decide, a_87, tyX2_ok, nmX2, rfl, (fun h => by cases h), tyX2_ok 3 (by decide)⟩
theorem f_X7_98 : FL RX7 98 2 2 := ⟨_, _, _, rfl, gX2, by decide, a_84⟩
theorem p_X7_98 : FP RX7 98 2 2 (tyX2 2) false := ⟨_, _, _, tyX2, rfl, gX2, by decide, a_84, tyX2_ok, nmX2, rfl, (fun h => by cases h), tyX2_ok 2 (by decide)⟩
theorem s_X7_101 : Cond.fieldLink RX7 101 "MayNotPause" "LEAST_SETTING" "[I" ∈ wG := a_456
theorem s_X7_104 : Cond.fieldLink RX7 104 "MayNotPause" "MOST_SETTING" "[I" ∈ wG := a_458
theorem f_X7_118 : FL RX7 118 6 0 := ⟨_, _, _, rfl, gX6, by decide, a_114⟩
theorem p_X7_118 : FP RX7 118 6 0 (tyX6 0) false := ⟨_, _, _, tyX6, rfl, gX6, by decide, a_114, tyX6_ok, nmX6, rfl, (fun h => by cases h), tyX6_ok 0 (by decide)⟩
theorem f_X7_123 : FL RX7 123 6 1 := ⟨_, _, _, rfl, gX6, by decide, a_117⟩
theorem p_X7_123 : FP RX7 123 6 1 (tyX6 1) false := ⟨_, _, _, tyX6, rfl, gX6, by decide, a_117, tyX6_ok, nmX6, rfl, (fun h => by cases h), tyX6_ok 1 (by decide)⟩
theorem f_X7_126 : FL RX7 126 6 3 := ⟨_, _, _, rfl, gX6, by decide, a_122⟩
theorem p_X7_126 : FP RX7 126 6 3 (tyX6 3) false := ⟨_, _, _, tyX6, rfl, gX6, by decide, a_122, tyX6_ok, nmX6, rfl, (fun h => by cases h), tyX6_ok 3 (by decide)⟩
theorem f_X7_129 : FL RX7 129 6 4 := ⟨_, _, _, rfl, gX6, by decide, a_124⟩
theorem p_X7_129 : FP RX7 129 6 4 (tyX6 4) false := ⟨_, _, _, tyX6, rfl, gX6, by decide, a_124, tyX6_ok, nmX6, rfl, (fun h => by cases h), tyX6_ok 4 (by decide)⟩
theorem f_X7_132 : FL RX7 132 6 5 := ⟨_, _, _, rfl, gX6, by decide, a_127⟩
theorem p_X7_132 : FP RX7 132 6 5 (tyX6 5) false := ⟨_, _, _, tyX6, rfl, gX6, by decide, a_127, tyX6_ok, nmX6, rfl, (fun h => by cases h), tyX6_ok 5 (by decide)⟩
theorem f_X7_135 : FL RX7 135 6 6 := ⟨_, _, _, rfl, gX6, by decide, a_130⟩
theorem p_X7_135 : FP RX7 135 6 6 (tyX6 6) false := ⟨_, _, _, tyX6, rfl, gX6, by decide, a_130, tyX6_ok, nmX6, rfl, (fun h => by cases h), tyX6_ok 6 (by decide)⟩
theorem f_X7_138 : FL RX7 138 6 7 := ⟨_, _, _, rfl, gX6, by decide, a_136⟩
theorem p_X7_138 : FP RX7 138 6 7 (tyX6 7) false := ⟨_, _, _, tyX6, rfl, gX6, by decide, a_136, tyX6_ok, nmX6, rfl, (fun h => by cases h), tyX6_ok 7 (by decide)⟩
theorem f_X7_141 : FL RX7 141 6 8 := ⟨_, _, _, rfl, gX6, by decide, a_138⟩
theorem p_X7_141 : FP RX7 141 6 8 (tyX6 8) false := ⟨_, _, _, tyX6, rfl, gX6, by decide, a_138, tyX6_ok, nmX6, rfl, (fun h => by cases h), tyX6_ok 8 (by decide)⟩
theorem f_X7_155 : FL RX7 155 6 10 := ⟨_, _, _, rfl, gX6, by decide, a_144⟩
theorem p_X7_155 : FP RX7 155 6 10 (tyX6 10) false := ⟨_, _, _, tyX6, rfl, gX6, by decide, a_144, tyX6_ok, nmX6, rfl, (fun h => by cases h), tyX6_ok 10 (by decide)⟩
theorem f_X7_158 : FL RX7 158 6 12 := ⟨_, _, _, rfl, gX6, by decide, a_148⟩
theorem p_X7_158 : FP RX7 158 6 12 (tyX6 12) false := ⟨_, _, _, tyX6, rfl, gX6, by decide, a_148, tyX6_ok, nmX6, rfl, (fun h => by cases h), tyX6_ok 12 (by decide)⟩
theorem f_X7_161 : FL RX7 161 6 14 := ⟨_, _, _, rfl, gX6, by decide, a_152⟩
theorem p_X7_161 : FP RX7 161 6 14 (tyX6 14) false := ⟨_, _, _, tyX6, rfl, gX6, by decide, a_152, tyX6_ok, nmX6, rfl, (fun h => by cases h), tyX6_ok 14 (by decide)⟩
theorem f_X7_174 : FL RX7 174 7 9 := ⟨_, _, _, rfl, gX7, by decide, a_309⟩
theorem p_X7_174 : FP RX7 174 7 9 (tyX7 9) false := ⟨_, _, _, tyX7, rfl, gX7, by decide, a_309, tyX7_ok, nmX7, rfl, (fun h => by cases h), tyX7_ok 9 (by decide)⟩
theorem f_X7_181 : FL RX7 181 1 4 := ⟨_, _, _, rfl, gX1, by decide, a_209⟩
theorem f_X7_184 : FL RX7 184 7 10 := ⟨_, _, _, rfl, gX7, by decide, a_310⟩
theorem p_X7_184 : FP RX7 184 7 10 (tyX7 10) false := ⟨_, _, _, tyX7, rfl, gX7, by decide, a_310, tyX7_ok, nmX7, rfl, (fun h => by cases h), tyX7_ok 10 (by decide)⟩
theorem f_X7_188 : FL RX7 188 0 7 := ⟨_, _, _, rfl, gX0, by decide, a_236⟩
theorem p_X7_188 : FP RX7 188 0 7 (tyX0 7) false := ⟨_, _, _, tyX0, rfl, gX0, by decide, a_236, tyX0_ok, nmX0, rfl, (fun h => by cases h), tyX0_ok 7 (by decide)⟩
theorem f_X7_191 : FL RX7 191 0 8 := ⟨_, _, _, rfl, gX0, by decide, a_238⟩
theorem p_X7_191 : FP RX7 191 0 8 (tyX0 8) false := ⟨_, _, _, tyX0, rfl, gX0, by decide, a_238, tyX0_ok, nmX0, rfl, (fun h => by cases h), tyX0_ok 8 (by decide)⟩
theorem f_X7_194 : FL RX7 194 0 4 := ⟨_, _, _, rfl, gX0, by decide, a_232⟩
theorem f_X7_234 : FL RX7 234 4 2 := ⟨_, _, _, rfl, gX4, by decide, a_268⟩
theorem p_X7_234 : FP RX7 234 4 2 (tyX4 2) false := ⟨_, _, _, tyX4, rfl, gX4, by decide, a_268, tyX4_ok, nmX4, rfl, (fun h => by cases h), tyX4_ok 2 (by decide)⟩
theorem f_X7_242 : FL RX7 242 3 1 := ⟨_, _, _, rfl, gX3, by decide, a_286⟩
theorem p_X7_242 : FP RX7 242 3 1 (tyX3 1) false := ⟨_, _, _, tyX3, rfl, gX3, by decide, a_286, tyX3_ok, nmX3, rfl, (fun h => by cases h), tyX3_ok 1 (by decide)⟩
theorem f_X7_248 : FL RX7 248 3 3 := ⟨_, _, _, rfl, gX3, by decide, a_290⟩
theorem p_X7_248 : FP RX7 248 3 3 (tyX3 3) false := ⟨_, _, _, tyX3, rfl, gX3, by decide, a_290, tyX3_ok, nmX3, rfl, (fun h => by cases h), tyX3_ok 3 (by decide)⟩
theorem f_X7_266 : FL RX7 266 7 11 := ⟨_, _, _, rfl, gX7, by decide, a_311⟩
theorem p_X7_266 : FP RX7 266 7 11 (tyX7 11) false := ⟨_, _, _, tyX7, rfl, gX7, by decide, a_311, tyX7_ok, nmX7, rfl, (fun h => by cases h), tyX7_ok 11 (by decide)⟩
theorem f_X7_269 : FL RX7 269 3 2 := ⟨_, _, _, rfl, gX3, by decide, a_288⟩
theorem p_X7_269 : FP RX7 269 3 2 (tyX3 2) false := ⟨_, _, _, tyX3, rfl, gX3, by decide, a_288, tyX3_ok, nmX3, rfl, (fun h => by cases h), tyX3_ok 2 (by decide)⟩
theorem f_X7_275 : FL RX7 275 3 0 := ⟨_, _, _, rfl, gX3, by decide, a_284⟩
theorem f_X7_289 : FL RX7 289 6 9 := ⟨_, _, _, rfl, gX6, by decide, a_141⟩
theorem p_X7_289 : FP RX7 289 6 9 (tyX6 9) false := ⟨_, _, _, tyX6, rfl, gX6, by decide, a_141, tyX6_ok, nmX6, rfl, (fun h => by cases h), tyX6_ok 9 (by decide)⟩
theorem f_X8_7 : FL RX8 7 8 0 := ⟨_, _, _, rfl, gX8, by decide, a_755⟩
theorem p_X8_7 : FP RX8 7 8 0 (tyX8 0) true := ⟨_, _, _, tyX8, rfl, gX8, by decide, a_755, tyX8_ok, nmX8, rfl, (fun _ => rfl), tyX8_ok 0 (by decide)⟩
theorem f_X8_13 : FL RX8 13 8 1 := ⟨_, _, _, rfl, gX8, by decide, a_756⟩
theorem p_X8_13 : FP RX8 13 8 1 (tyX8 1) true := ⟨_, _, _, tyX8, rfl, gX8, by decide, a_756, tyX8_ok, nmX8, rfl, (fun _ => rfl), tyX8_ok 1 (by decide)⟩
theorem f_X8_16 : FL RX8 16 8 2 := ⟨_, _, _, rfl, gX8, by decide, a_757⟩
theorem p_X8_16 : FP RX8 16 8 2 (tyX8 2) true := ⟨_, _, _, tyX8, rfl, gX8, by decide, a_757, tyX8_ok, nmX8, rfl, (fun _ => rfl), tyX8_ok 2 (by decide)⟩
theorem f_X8_19 : FL RX8 19 8 3 := ⟨_, _, _, rfl, gX8, by decide, a_758⟩
theorem p_X8_19 : FP RX8 19 8 3 (tyX8 3) true := ⟨_, _, _, tyX8, rfl, gX8, by decide, a_758, tyX8_ok, nmX8, rfl, (fun _ => rfl), tyX8_ok 3 (by decide)⟩
theorem f_X8_22 : FL RX8 22 8 5 := ⟨_, _, _, rfl, gX8, by decide, a_760⟩
theorem p_X8_22 : FP RX8 22 8 5 (tyX8 5) true := ⟨_, _, _, tyX8, rfl, gX8, by decide, a_760, tyX8_ok, nmX8, rfl, (fun _ => rfl), tyX8_ok 5 (by decide)⟩
theorem f_X8_25 : FL RX8 25 8 6 := ⟨_, _, _, rfl, gX8, by decide, a_761⟩
theorem p_X8_25 : FP RX8 25 8 6 (tyX8 6) true := ⟨_, _, _, tyX8, rfl, gX8, by decide, a_761, tyX8_ok, nmX8, rfl, (fun _ => rfl), tyX8_ok 6 (by decide)⟩
theorem f_X8_28 : FL RX8 28 8 8 := ⟨_, _, _, rfl, gX8, by decide, a_763⟩
theorem p_X8_28 : FP RX8 28 8 8 (tyX8 8) true := ⟨_, _, _, tyX8, rfl, gX8, by decide, a_763, tyX8_ok, nmX8, rfl, (fun _ => rfl), tyX8_ok 8 (by decide)⟩
theorem f_X8_31 : FL RX8 31 8 9 := ⟨_, _, _, rfl, gX8, by decide, a_764⟩
theorem p_X8_31 : FP RX8 31 8 9 (tyX8 9) true := ⟨_, _, _, tyX8, rfl, gX8, by decide, a_764, tyX8_ok, nmX8, rfl, (fun _ => rfl), tyX8_ok 9 (by decide)⟩
theorem f_X8_34 : FL RX8 34 8 10 := ⟨_, _, _, rfl, gX8, by decide, a_765⟩
theorem p_X8_34 : FP RX8 34 8 10 (tyX8 10) true := ⟨_, _, _, tyX8, rfl, gX8, by decide, a_765, tyX8_ok, nmX8, rfl, (fun _ => rfl), tyX8_ok 10 (by decide)⟩
theorem f_X8_37 : FL RX8 37 8 12 := ⟨_, _, _, rfl, gX8, by decide, a_767⟩
theorem p_X8_37 : FP RX8 37 8 12 (tyX8 12) true := ⟨_, _, _, tyX8, rfl, gX8, by decide, a_767, tyX8_ok, nmX8, rfl, (fun _ => rfl), tyX8_ok 12 (by decide)⟩
theorem f_X8_40 : FL RX8 40 8 13 := ⟨_, _, _, rfl, gX8, by decide, a_768⟩
theorem p_X8_40 : FP RX8 40 8 13 (tyX8 13) true := ⟨_, _, _, tyX8, rfl, gX8, by decide, a_768, tyX8_ok, nmX8, rfl, (fun _ => rfl), tyX8_ok 13 (by decide)⟩
theorem f_X8_43 : FL RX8 43 8 14 := ⟨_, _, _, rfl, gX8, by decide, a_769⟩
theorem p_X8_43 : FP RX8 43 8 14 (tyX8 14) true := ⟨_, _, _, tyX8, rfl, gX8, by decide, a_769, tyX8_ok, nmX8, rfl, (fun _ => rfl), tyX8_ok 14 (by decide)⟩
theorem f_X8_46 : FL RX8 46 8 15 := ⟨_, _, _, rfl, gX8, by decide, a_770⟩
theorem p_X8_46 : FP RX8 46 8 15 (tyX8 15) true := ⟨_, _, _, tyX8, rfl, gX8, by decide, a_770, tyX8_ok, nmX8, rfl, (fun _ => rfl), tyX8_ok 15 (by decide)⟩
theorem f_X8_49 : FL RX8 49 8 16 := ⟨_, _, _, rfl, gX8, by decide, a_771⟩
theorem p_X8_49 : FP RX8 49 8 16 (tyX8 16) true := ⟨_, _, _, tyX8, rfl, gX8, by decide, a_771, tyX8_ok, nmX8, rfl, (fun _ => rfl), tyX8_ok 16 (by decide)⟩
theorem f_X8_52 : FL RX8 52 8 17 := ⟨_, _, _, rfl, gX8, by decide, a_772⟩
theorem p_X8_52 : FP RX8 52 8 17 (tyX8 17) true := ⟨_, _, _, tyX8, rfl, gX8, by decide, a_772, tyX8_ok, nmX8, rfl, (fun _ => rfl), tyX8_ok 17 (by decide)⟩
theorem f_X8_55 : FL RX8 55 8 18 := ⟨_, _, _, rfl, gX8, by decide, a_773⟩
theorem p_X8_55 : FP RX8 55 8 18 (tyX8 18) true := ⟨_, _, _, tyX8, rfl, gX8, by decide, a_773, tyX8_ok, nmX8, rfl, (fun _ => rfl), tyX8_ok 18 (by decide)⟩
theorem f_X8_58 : FL RX8 58 8 19 := ⟨_, _, _, rfl, gX8, by decide, a_774⟩
theorem p_X8_58 : FP RX8 58 8 19 (tyX8 19) true := ⟨_, _, _, tyX8, rfl, gX8, by decide, a_774, tyX8_ok, nmX8, rfl, (fun _ => rfl), tyX8_ok 19 (by decide)⟩
theorem f_X8_61 : FL RX8 61 8 24 := ⟨_, _, _, rfl, gX8, by decide, a_779⟩
theorem p_X8_61 : FP RX8 61 8 24 (tyX8 24) true := ⟨_, _, _, tyX8, rfl, gX8, by decide, a_779, tyX8_ok, nmX8, rfl, (fun _ => rfl), tyX8_ok 24 (by decide)⟩
theorem f_X8_64 : FL RX8 64 8 25 := ⟨_, _, _, rfl, gX8, by decide, a_780⟩
theorem p_X8_64 : FP RX8 64 8 25 (tyX8 25) true := ⟨_, _, _, tyX8, rfl, gX8, by decide, a_780, tyX8_ok, nmX8, rfl, (fun _ => rfl), tyX8_ok 25 (by decide)⟩
theorem f_X8_67 : FL RX8 67 8 29 := ⟨_, _, _, rfl, gX8, by decide, a_784⟩
theorem p_X8_67 : FP RX8 67 8 29 (tyX8 29) true := ⟨_, _, _, tyX8, rfl, gX8, by decide, a_784, tyX8_ok, nmX8, rfl, (fun _ => rfl), tyX8_ok 29 (by decide)⟩
theorem f_X8_76 : FL RX8 76 8 4 := ⟨_, _, _, rfl, gX8, by decide, a_759⟩
theorem p_X8_76 : FP RX8 76 8 4 (tyX8 4) false := ⟨_, _, _, tyX8, rfl, gX8, by decide, a_759, tyX8_ok, nmX8, rfl, (fun h => by cases h), tyX8_ok 4 (by decide)⟩
theorem f_X8_106 : FL RX8 106 8 7 := ⟨_, _, _, rfl, gX8, by decide, a_762⟩
theorem p_X8_106 : FP RX8 106 8 7 (tyX8 7) false := ⟨_, _, _, tyX8, rfl, gX8, by decide, a_762, tyX8_ok, nmX8, rfl, (fun h => by cases h), tyX8_ok 7 (by decide)⟩
theorem f_X8_128 : FL RX8 128 8 11 := ⟨_, _, _, rfl, gX8, by decide, a_766⟩
theorem p_X8_128 : FP RX8 128 8 11 (tyX8 11) false := ⟨_, _, _, tyX8, rfl, gX8, by decide, a_766, tyX8_ok, nmX8, rfl, (fun h => by cases h), tyX8_ok 11 (by decide)⟩
theorem f_X8_140 : FL RX8 140 8 20 := ⟨_, _, _, rfl, gX8, by decide, a_775⟩
theorem p_X8_140 : FP RX8 140 8 20 (tyX8 20) false := ⟨_, _, _, tyX8, rfl, gX8, by decide, a_775, tyX8_ok, nmX8, rfl, (fun h => by cases h), tyX8_ok 20 (by decide)⟩
theorem f_X8_143 : FL RX8 143 8 21 := ⟨_, _, _, rfl, gX8, by decide, a_776⟩
theorem p_X8_143 : FP RX8 143 8 21 (tyX8 21) false := ⟨_, _, _, tyX8, rfl, gX8, by decide, a_776, tyX8_ok, nmX8, rfl, (fun h => by cases h), tyX8_ok 21 (by decide)⟩
theorem f_X8_146 : FL RX8 146 8 22 := ⟨_, _, _, rfl, gX8, by decide, a_777⟩
theorem p_X8_146 : FP RX8 146 8 22 (tyX8 22) false := ⟨_, _, _, tyX8, rfl, gX8, by decide, a_777, tyX8_ok, nmX8, rfl, (fun h => by cases h), tyX8_ok 22 (by decide)⟩
theorem f_X8_149 : FL RX8 149 8 23 := ⟨_, _, _, rfl, gX8, by decide, a_778⟩
theorem p_X8_149 : FP RX8 149 8 23 (tyX8 23) false := ⟨_, _, _, tyX8, rfl, gX8, by decide, a_778, tyX8_ok, nmX8, rfl, (fun h => by cases h), tyX8_ok 23 (by decide)⟩
theorem f_X8_220 : FL RX8 220 8 26 := ⟨_, _, _, rfl, gX8, by decide, a_781⟩
theorem p_X8_220 : FP RX8 220 8 26 (tyX8 26) false := ⟨_, _, _, tyX8, rfl, gX8, by decide, a_781, tyX8_ok, nmX8, rfl, (fun h => by cases h), tyX8_ok 26 (by decide)⟩
theorem f_X8_223 : FL RX8 223 8 27 := ⟨_, _, _, rfl, gX8, by decide, a_782⟩
theorem p_X8_223 : FP RX8 223 8 27 (tyX8 27) false := ⟨_, _, _, tyX8, rfl, gX8, by decide, a_782, tyX8_ok, nmX8, rfl, (fun h => by cases h), tyX8_ok 27 (by decide)⟩
theorem f_X8_276 : FL RX8 276 8 28 := ⟨_, _, _, rfl, gX8, by decide, a_783⟩
theorem p_X8_276 : FP RX8 276 8 28 (tyX8 28) false := ⟨_, _, _, tyX8, rfl, gX8, by decide, a_783, tyX8_ok, nmX8, rfl, (fun h => by cases h), tyX8_ok 28 (by decide)⟩
theorem l_L_9 : Cond.methodLink RL 9 yX7_init ∈ wG := a_68
theorem l_L_12 : Cond.methodLink RL 12 yX8_init ∈ wG := a_751
theorem l_L_13 : Cond.methodLink RL 13 yX7_type ∈ wG := a_337
theorem l_L_17 : Cond.methodLink RL 17 yX8_type ∈ wG := a_886
theorem l_L_18 : Cond.methodLink RL 18 yX7_wipe ∈ wG := a_431
theorem l_L_22 : Cond.methodLink RL 22 yX8_wipe ∈ wG := a_894
theorem l_L_23 : Cond.methodLink RL 23 yX7_undo ∈ wG := a_439
theorem l_L_26 : Cond.methodLink RL 26 yX8_undo ∈ wG := a_918
theorem l_L_27 : Cond.methodLink RL 27 yX7_fault ∈ wG := a_448
theorem l_L_30 : Cond.methodLink RL 30 yX8_fault ∈ wG := a_898
theorem l_L_31 : Cond.methodLink RL 31 yX7_set ∈ wG := a_452
theorem l_L_34 : Cond.methodLink RL 34 yX8_set ∈ wG := a_922
theorem l_L_35 : Cond.methodLink RL 35 yX7_verse ∈ wG := a_460
theorem l_L_38 : Cond.methodLink RL 38 yX8_verse ∈ wG := a_930
theorem l_L_39 : Cond.methodLink RL 39 yX7_when ∈ wG := a_470
theorem l_L_42 : Cond.methodLink RL 42 yX8_when ∈ wG := a_969
theorem l_L_43 : Cond.methodLink RL 43 yX7_poem ∈ wG := a_474
theorem l_L_46 : Cond.methodLink RL 46 yX8_poem ∈ wG := a_978
theorem l_L_47 : Cond.methodLink RL 47 yX7_judged ∈ wG := a_488
theorem l_L_51 : Cond.methodLink RL 51 yX8_judged ∈ wG := a_986
theorem l_L_52 : Cond.methodLink RL 52 yX7_rest ∈ wG := a_492
theorem l_L_55 : Cond.methodLink RL 55 yX8_rest ∈ wG := a_994
theorem l_L_56 : Cond.methodLink RL 56 yX7_doing ∈ wG := a_496
theorem l_L_59 : Cond.methodLink RL 59 yX8_doing ∈ wG := a_1010
theorem l_L_60 : Cond.methodLink RL 60 yX7_put ∈ wG := a_515
theorem l_L_63 : Cond.methodLink RL 63 yX8_put ∈ wG := a_1031
theorem l_L_64 : Cond.methodLink RL 64 yX7_order ∈ wG := a_542
theorem l_L_67 : Cond.methodLink RL 67 yX8_order ∈ wG := a_1047
theorem l_L_68 : Cond.methodLink RL 68 yX7_lead ∈ wG := a_576
theorem l_L_71 : Cond.methodLink RL 71 yX8_lead ∈ wG := a_1068
theorem l_L_72 : Cond.methodLink RL 72 yX7_odds ∈ wG := a_585
theorem l_L_76 : Cond.methodLink RL 76 yX8_odds ∈ wG := a_1076
theorem l_L_77 : Cond.methodLink RL 77 yX7_drawn ∈ wG := a_597
theorem l_L_80 : Cond.methodLink RL 80 yX8_drawn ∈ wG := a_1092
theorem l_L_81 : Cond.methodLink RL 81 yX7_line ∈ wG := a_602
theorem l_L_84 : Cond.methodLink RL 84 yX8_line ∈ wG := a_1101
theorem l_L_85 : Cond.methodLink RL 85 yX7_seen ∈ wG := a_614
theorem l_L_88 : Cond.methodLink RL 88 yX8_seen ∈ wG := a_1118
theorem l_L_89 : Cond.methodLink RL 89 yX7_forget ∈ wG := a_630
theorem l_L_92 : Cond.methodLink RL 92 yX8_forget ∈ wG := a_1123
theorem l_L_93 : Cond.methodLink RL 93 yX7_leads ∈ wG := a_634
theorem l_L_96 : Cond.methodLink RL 96 yX8_leads ∈ wG := a_1132
theorem l_L_97 : Cond.methodLink RL 97 yX7_read ∈ wG := a_643
theorem l_L_100 : Cond.methodLink RL 100 yX8_read ∈ wG := a_1127
theorem l_L_101 : Cond.methodLink RL 101 yX7_sheet ∈ wG := a_662
theorem l_L_105 : Cond.methodLink RL 105 yX8_sheet ∈ wG := a_846
theorem l_L_106 : Cond.methodLink RL 106 yX7_lose ∈ wG := a_673
theorem l_L_109 : Cond.methodLink RL 109 yX8_lose ∈ wG := a_862
theorem l_L_110 : Cond.methodLink RL 110 yX7_lay ∈ wG := a_677
theorem l_L_114 : Cond.methodLink RL 114 yX8_lay ∈ wG := a_866
theorem l_L_115 : Cond.methodLink RL 115 yX7_get ∈ wG := a_689
theorem l_L_118 : Cond.methodLink RL 118 yX8_get ∈ wG := a_877
theorem l_L_119 : Cond.methodLink RL 119 yX7_copy ∈ wG := a_694
theorem l_L_123 : Cond.methodLink RL 123 yX8_copy ∈ wG := a_882
theorem l_L_124 : Cond.methodLink RL 124 yX7_write ∈ wG := a_705
theorem l_L_127 : Cond.methodLink RL 127 yX8_write ∈ wG := a_1140
theorem l_L_128 : Cond.methodLink RL 128 yX7_count ∈ wG := a_710
theorem l_L_131 : Cond.methodLink RL 131 yX8_count ∈ wG := a_1144
theorem l_L_132 : Cond.methodLink RL 132 yX7_digest ∈ wG := a_720
theorem l_L_136 : Cond.methodLink RL 136 yX8_digest ∈ wG := a_1148
theorem l_X0_3 : Cond.methodLink RX0 3 Lib.objectInit ∈ wG := a_226
theorem l_X0_39 : Cond.methodLink RX0 39 Lib.Math.min.name ∈ wG := a_550
theorem l_X0_53 : Cond.methodLink RX0 53 yX5_open ∈ wG := a_554
theorem l_X0_59 : Cond.methodLink RX0 59 yX5_letHimPause ∈ wG := a_555
theorem l_X0_62 : Cond.methodLink RX0 62 yX0_placeFrom ∈ wG := a_559
theorem l_X0_66 : Cond.methodLink RX0 66 yX0_keep ∈ wG := a_562
theorem l_X0_69 : Cond.methodLink RX0 69 yX5_add ∈ wG := a_567
theorem l_X0_73 : Cond.methodLink RX0 73 yX0_mayBeBest ∈ wG := a_568
theorem l_X0_77 : Cond.methodLink RX0 77 yX5_dropLast ∈ wG := a_572
theorem l_X0_80 : Cond.methodLink RX0 80 yX5_last ∈ wG := a_566
theorem l_X1_3 : Cond.methodLink RX1 3 Lib.objectInit ∈ wG := a_203
theorem l_X1_29 : Cond.methodLink RX1 29 yX1_attempt ∈ wG := a_523
theorem l_X1_33 : Cond.methodLink RX1 33 yX1_seekOne ∈ wG := a_534
theorem l_X1_36 : Cond.methodLink RX1 36 yX1_seekTwo ∈ wG := a_538
theorem l_X1_45 : Cond.methodLink RX1 45 yX5_open ∈ wG := a_527
theorem l_X1_51 : Cond.methodLink RX1 51 yX5_isWholeWithoutPause ∈ wG := a_528
theorem l_X1_55 : Cond.methodLink RX1 55 yX5_add ∈ wG := a_532
theorem l_X1_59 : Cond.methodLink RX1 59 yX5_last ∈ wG := a_533
theorem l_X2_3 : Cond.methodLink RX2 3 Lib.objectInit ∈ wG := a_79
theorem l_X2_22 : Cond.methodLink RX2 22 yX2_isFull ∈ wG := a_356
theorem l_X2_26 : Cond.methodLink RX2 26 yX2_settle ∈ wG := a_357
theorem l_X2_32 : Cond.methodLink RX2 32 yX2_shorten ∈ wG := a_447
theorem l_X2_36 : Cond.methodLink RX2 36 yX2_firstFlaw ∈ wG := a_361
theorem l_X2_40 : Cond.methodLink RX2 40 yX2_fits ∈ wG := a_365
theorem l_X2_44 : Cond.methodLink RX2 44 yX2_kindBy ∈ wG := a_368
theorem l_X3_3 : Cond.methodLink RX3 3 Lib.objectInit ∈ wG := a_282
theorem l_X3_26 : Cond.methodLink RX3 26 yX3_hasItem ∈ wG := a_658
theorem l_X4_3 : Cond.methodLink RX4 3 Lib.objectInit ∈ wG := a_264
theorem l_X4_22 : Cond.methodLink RX4 22 yX4_isFull ∈ wG := a_629
theorem l_X4_26 : Cond.methodLink RX4 26 yX5_madeIn ∈ wG := a_642
theorem l_X5_3 : Cond.methodLink RX5 3 Lib.objectInit ∈ wG := a_105
theorem l_X5_30 : Cond.methodLink RX5 30 yX6_beStart ∈ wG := a_379
theorem l_X5_37 : Cond.methodLink RX5 37 yX5_add ∈ wG := a_391
theorem l_X5_41 : Cond.methodLink RX5 41 yX2_kindOf ∈ wG := a_395
theorem l_X5_48 : Cond.methodLink RX5 48 yX2_figure ∈ wG := a_399
theorem l_X5_55 : Cond.methodLink RX5 55 yX5_howManyOf ∈ wG := a_403
theorem l_X5_61 : Cond.methodLink RX5 61 Lib.Math.max.name ∈ wG := a_407
theorem l_X5_69 : Cond.methodLink RX5 69 yX5_last ∈ wG := a_410
theorem l_X5_73 : Cond.methodLink RX5 73 yX6_follow ∈ wG := a_418
theorem l_X5_86 : Cond.methodLink RX5 86 yX6_beSaid ∈ wG := a_422
theorem l_X5_89 : Cond.methodLink RX5 89 yX6_beWritten ∈ wG := a_427
theorem l_X5_93 : Cond.methodLink RX5 93 yX5_turnAt ∈ wG := a_414
theorem l_X5_100 : Cond.methodLink RX5 100 yX5_howManyWritten ∈ wG := a_486
theorem l_X5_104 : Cond.methodLink RX5 104 yX5_isSaidIn ∈ wG := a_504
theorem l_X6_3 : Cond.methodLink RX6 3 Lib.objectInit ∈ wG := a_111
theorem l_X6_9 : Cond.methodLink RX6 9 yX6_comeToNothing ∈ wG := a_383
theorem l_X6_48 : Cond.methodLink RX6 48 Lib.Math.max.name ∈ wG := a_426
theorem l_X7_1 : Cond.methodLink RX7 1 Lib.objectInit ∈ wG := a_71
theorem l_X7_15 : Cond.methodLink RX7 15 yX2_init ∈ wG := a_76
theorem l_X7_27 : Cond.methodLink RX7 27 yX5_init ∈ wG := a_102
theorem l_X7_37 : Cond.methodLink RX7 37 yX1_init ∈ wG := a_200
theorem l_X7_46 : Cond.methodLink RX7 46 yX0_init ∈ wG := a_223
theorem l_X7_67 : Cond.methodLink RX7 67 yX7_isText ∈ wG := a_341
theorem l_X7_71 : Cond.methodLink RX7 71 yX7_scriptOf ∈ wG := a_344
theorem l_X7_75 : Cond.methodLink RX7 75 yX2_isFull ∈ wG := a_348
theorem l_X7_79 : Cond.methodLink RX7 79 yX2_append ∈ wG := a_352
theorem l_X7_82 : Cond.methodLink RX7 82 yX7_tellAnew ∈ wG := a_371
theorem l_X7_89 : Cond.methodLink RX7 89 yX2_shorten ∈ wG := a_435
theorem l_X7_95 : Cond.methodLink RX7 95 yX2_dropLastVerse ∈ wG := a_443
theorem l_X7_107 : Cond.methodLink RX7 107 yX7_isVerse ∈ wG := a_464
theorem l_X7_110 : Cond.methodLink RX7 110 yX5_turnAt ∈ wG := a_468
theorem l_X7_114 : Cond.methodLink RX7 114 yX2_figure ∈ wG := a_469
theorem l_X7_144 : Cond.methodLink RX7 144 yX5_howManyWritten ∈ wG := a_478
theorem l_X7_148 : Cond.methodLink RX7 148 yX5_lastWritten ∈ wG := a_482
theorem l_X7_151 : Cond.methodLink RX7 151 yX5_last ∈ wG := a_487
theorem l_X7_164 : Cond.methodLink RX7 164 yX5_saidIn ∈ wG := a_500
theorem l_X7_168 : Cond.methodLink RX7 168 yX5_madeIn ∈ wG := a_507
theorem l_X7_171 : Cond.methodLink RX7 171 yX5_inHandIn ∈ wG := a_511
theorem l_X7_178 : Cond.methodLink RX7 178 yX1_seek ∈ wG := a_519
theorem l_X7_187 : Cond.methodLink RX7 187 yX0_seek ∈ wG := a_546
theorem l_X7_195 : Cond.methodLink RX7 195 yX5_open ∈ wG := a_375
theorem l_X7_199 : Cond.methodLink RX7 199 yX5_changeLead ∈ wG := a_580
theorem l_X7_202 : Cond.methodLink RX7 202 yX5_addAll ∈ wG := a_387
theorem l_X7_206 : Cond.methodLink RX7 206 yX5_isWholeWithoutPause ∈ wG := a_584
theorem l_X7_211 : Cond.methodLink RX7 211 yX7_sixteenths ∈ wG := a_590
theorem l_X7_219 : Cond.methodLink RX7 219 yX7_errorsBy ∈ wG := a_606
theorem l_X7_222 : Cond.methodLink RX7 222 yX7_bestLine ∈ wG := a_610
theorem l_X7_225 : Cond.methodLink RX7 225 yX4_mayBe ∈ wG := a_618
theorem l_X7_229 : Cond.methodLink RX7 229 yX4_isFull ∈ wG := a_621
theorem l_X7_230 : Cond.methodLink RX7 230 yX4_add ∈ wG := a_625
theorem l_X7_235 : Cond.methodLink RX7 235 yX4_fit ∈ wG := a_638
theorem l_X7_239 : Cond.methodLink RX7 239 yX7_isSheet ∈ wG := a_647
theorem l_X7_245 : Cond.methodLink RX7 245 yX7_found ∈ wG := a_650
theorem l_X7_249 : Cond.methodLink RX7 249 yX3_item ∈ wG := a_654
theorem l_X7_252 : Cond.methodLink RX7 252 yX7_isForm ∈ wG := a_666
theorem l_X7_255 : Cond.methodLink RX7 255 yX3_renew ∈ wG := a_669
theorem l_X7_258 : Cond.methodLink RX7 258 yX7_findingAt ∈ wG := a_681
theorem l_X7_262 : Cond.methodLink RX7 262 yX3_store ∈ wG := a_685
theorem l_X7_272 : Cond.methodLink RX7 272 yX3_hasSpan ∈ wG := a_698
theorem l_X7_278 : Cond.methodLink RX7 278 arraycopyName ∈ wG := a_702
theorem l_X7_284 : Cond.methodLink RX7 284 Lib.Math.min.name ∈ wG := a_709
theorem l_X7_292 : Cond.methodLink RX7 292 yJ6_bitCount_0f7a4 ∈ wG := a_714
theorem l_X7_301 : Cond.methodLink RX7 301 yX7_count ∈ wG := a_726
theorem l_X7_304 : Cond.methodLink RX7 304 yX7_fault ∈ wG := a_727
theorem l_X7_307 : Cond.methodLink RX7 307 yX7_digestOfVerse ∈ wG := a_728
theorem l_X7_311 : Cond.methodLink RX7 311 yX7_digestOfBreaths ∈ wG := a_735
theorem l_X7_315 : Cond.methodLink RX7 315 yX7_put ∈ wG := a_742
theorem l_X7_318 : Cond.methodLink RX7 318 yX7_order ∈ wG := a_743
theorem l_X7_321 : Cond.methodLink RX7 321 yX7_lead ∈ wG := a_744
theorem l_X7_324 : Cond.methodLink RX7 324 yX7_odds ∈ wG := a_745
theorem l_X7_328 : Cond.methodLink RX7 328 yX7_drawn ∈ wG := a_746
theorem l_X7_331 : Cond.methodLink RX7 331 yX7_line ∈ wG := a_747
theorem l_X7_334 : Cond.methodLink RX7 334 yX7_leads ∈ wG := a_748
theorem l_X7_337 : Cond.methodLink RX7 337 yX7_verse ∈ wG := a_732
theorem l_X7_340 : Cond.methodLink RX7 340 yX7_when ∈ wG := a_733
theorem l_X7_343 : Cond.methodLink RX7 343 yX7_rest ∈ wG := a_734
theorem l_X7_346 : Cond.methodLink RX7 346 yX7_poem ∈ wG := a_739
theorem l_X7_349 : Cond.methodLink RX7 349 yX7_judged ∈ wG := a_740
theorem l_X7_352 : Cond.methodLink RX7 352 yX7_doing ∈ wG := a_741
theorem l_X7_355 : Cond.methodLink RX7 355 Lib.Math.max.name ∈ wG := a_594
theorem l_X7_358 : Cond.methodLink RX7 358 yX3_hasItem ∈ wG := a_684
theorem l_X8_1 : Cond.methodLink RX8 1 Lib.objectInit ∈ wG := a_754
theorem l_X8_72 : Cond.methodLink RX8 72 yX8_in ∈ wG := a_854
theorem l_X8_82 : Cond.methodLink RX8 82 yX8_isSheet ∈ wG := a_850
theorem l_X8_88 : Cond.methodLink RX8 88 yX8_met ∈ wG := a_858
theorem l_X8_92 : Cond.methodLink RX8 92 yX8_lacks ∈ wG := a_870
theorem l_X8_96 : Cond.methodLink RX8 96 yX8_cut ∈ wG := a_874
theorem l_X8_101 : Cond.methodLink RX8 101 yX8_isTwo ∈ wG := a_890
theorem l_X8_109 : Cond.methodLink RX8 109 yX8_here ∈ wG := a_910
theorem l_X8_112 : Cond.methodLink RX8 112 yX8_kindOf ∈ wG := a_914
theorem l_X8_117 : Cond.methodLink RX8 117 yX8_readsVerse ∈ wG := a_906
theorem l_X8_120 : Cond.methodLink RX8 120 yX8_readsText ∈ wG := a_902
theorem l_X8_125 : Cond.methodLink RX8 125 yX8_most ∈ wG := a_927
theorem l_X8_131 : Cond.methodLink RX8 131 yX8_kindAt ∈ wG := a_950
theorem l_X8_134 : Cond.methodLink RX8 134 yX8_greater ∈ wG := a_954
theorem l_X8_137 : Cond.methodLink RX8 137 yX8_counts ∈ wG := a_946
theorem l_X8_152 : Cond.methodLink RX8 152 yX8_sayAt ∈ wG := a_957
theorem l_X8_155 : Cond.methodLink RX8 155 yX8_plain ∈ wG := a_938
theorem l_X8_158 : Cond.methodLink RX8 158 yX8_says ∈ wG := a_942
theorem l_X8_162 : Cond.methodLink RX8 162 yX8_find ∈ wG := a_934
theorem l_X8_165 : Cond.methodLink RX8 165 yX8_isVerse ∈ wG := a_961
theorem l_X8_168 : Cond.methodLink RX8 168 yX8_verseOf ∈ wG := a_965
theorem l_X8_173 : Cond.methodLink RX8 173 yX8_whenOf ∈ wG := a_974
theorem l_X8_176 : Cond.methodLink RX8 176 yX8_poemOf ∈ wG := a_982
theorem l_X8_179 : Cond.methodLink RX8 179 yX8_judgedNow ∈ wG := a_990
theorem l_X8_183 : Cond.methodLink RX8 183 yX8_isFree ∈ wG := a_1006
theorem l_X8_186 : Cond.methodLink RX8 186 yX8_freeAhead ∈ wG := a_1002
theorem l_X8_189 : Cond.methodLink RX8 189 yX8_restOf ∈ wG := a_998
theorem l_X8_192 : Cond.methodLink RX8 192 yX8_saysIn ∈ wG := a_1019
theorem l_X8_195 : Cond.methodLink RX8 195 yX8_makesIn ∈ wG := a_1023
theorem l_X8_198 : Cond.methodLink RX8 198 yX8_hasIn ∈ wG := a_1027
theorem l_X8_203 : Cond.methodLink RX8 203 yX8_doingOf ∈ wG := a_1015
theorem l_X8_206 : Cond.methodLink RX8 206 yX8_lays ∈ wG := a_1043
theorem l_X8_210 : Cond.methodLink RX8 210 yX8_looks ∈ wG := a_1039
theorem l_X8_214 : Cond.methodLink RX8 214 yX8_findPut ∈ wG := a_1035
theorem l_X8_217 : Cond.methodLink RX8 217 yX8_lesser ∈ wG := a_1057
theorem l_X8_226 : Cond.methodLink RX8 226 yX8_unfolds ∈ wG := a_1060
theorem l_X8_234 : Cond.methodLink RX8 234 yX8_findOrder ∈ wG := a_1053
theorem l_X8_237 : Cond.methodLink RX8 237 yX8_tellsOrder ∈ wG := a_1064
theorem l_X8_240 : Cond.methodLink RX8 240 yX8_leadNow ∈ wG := a_1072
theorem l_X8_245 : Cond.methodLink RX8 245 yX8_part ∈ wG := a_1085
theorem l_X8_249 : Cond.methodLink RX8 249 yX8_oddsOf ∈ wG := a_1080
theorem l_X8_253 : Cond.methodLink RX8 253 yX8_no ∈ wG := a_1088
theorem l_X8_257 : Cond.methodLink RX8 257 yX8_drawnOf ∈ wG := a_1096
theorem l_X8_260 : Cond.methodLink RX8 260 yX8_isIn ∈ wG := a_1115
theorem l_X8_264 : Cond.methodLink RX8 264 yX8_errors ∈ wG := a_1111
theorem l_X8_271 : Cond.methodLink RX8 271 yX8_lineOf ∈ wG := a_1107
theorem l_X8_279 : Cond.methodLink RX8 279 yX8_seen ∈ wG := a_1131
theorem l_X8_281 : Cond.methodLink RX8 281 yX8_leadsNow ∈ wG := a_1136
theorem l_X8_288 : Cond.methodLink RX8 288 yX8_count ∈ wG := a_1154
theorem k_J6_265 : Cond.constant RJ6 265 (1431655765) ∈ wG := a_717
theorem k_J6_266 : Cond.constant RJ6 266 (858993459) ∈ wG := a_718
theorem k_J6_267 : Cond.constant RJ6 267 (252645135) ∈ wG := a_719
theorem k_X0_46 : Cond.constant RX0 46 (1000000) ∈ wG := a_553
theorem k_X7_218 : Cond.constant RX7 218 (1103515245) ∈ wG := a_601
theorem k_X7_265 : Cond.constant RX7 265 (-2147483648) ∈ wG := a_693
theorem k_X8_100 : Cond.constant RX8 100 (-2147483648) ∈ wG := a_881
theorem k_X8_256 : Cond.constant RX8 256 (1103515245) ∈ wG := a_1100
theorem k_X7_209 : Cond.constantLong RX7 209 (-9223372036854775806) ∈ wG := a_589
theorem k_X7_214 : Cond.constantLong RX7 214 (16) ∈ wG := a_595
theorem k_X7_216 : Cond.constantLong RX7 216 (2) ∈ wG := a_596
theorem k_X7_297 : Cond.constantLong RX7 297 (17) ∈ wG := a_724
theorem k_X7_299 : Cond.constantLong RX7 299 (31) ∈ wG := a_725
theorem k_X8_70 : Cond.constantLong RX8 70 (-9223372036854775808) ∈ wG := a_1091
theorem k_X8_80 : Cond.constantLong RX8 80 (3) ∈ wG := a_853
theorem k_X8_86 : Cond.constantLong RX8 86 (2) ∈ wG := a_857
theorem k_X8_104 : Cond.constantLong RX8 104 (255) ∈ wG := a_893
theorem k_X8_115 : Cond.constantLong RX8 115 (9) ∈ wG := a_917
theorem k_X8_123 : Cond.constantLong RX8 123 (5) ∈ wG := a_926
theorem k_X8_171 : Cond.constantLong RX8 171 (4) ∈ wG := a_973
theorem k_X8_201 : Cond.constantLong RX8 201 (299) ∈ wG := a_1014
theorem k_X8_230 : Cond.constantLong RX8 230 (-2) ∈ wG := a_1051
theorem k_X8_232 : Cond.constantLong RX8 232 (6) ∈ wG := a_1052
theorem k_X8_243 : Cond.constantLong RX8 243 (16) ∈ wG := a_1084
theorem k_X8_267 : Cond.constantLong RX8 267 (-1) ∈ wG := a_1105
theorem k_X8_269 : Cond.constantLong RX8 269 (10) ∈ wG := a_1106
theorem k_X8_274 : Cond.constantLong RX8 274 (11) ∈ wG := a_1122
theorem k_X8_284 : Cond.constantLong RX8 284 (17) ∈ wG := a_1152
theorem k_X8_286 : Cond.constantLong RX8 286 (31) ∈ wG := a_1153
theorem bt_max : Cond.static Lib.Math.max.name ∈ wG ∧ Cond.initialized "java/lang/Math" ∈ wG ∧ Cond.code Lib.Math.max.name Lib.Math.max.code 2 (some .int) ∈ wG := ⟨wG_in (by decide +kernel) rfl, wG_in (by decide +kernel) rfl, wG_in (by decide +kernel) rfl⟩
theorem bt_min : Cond.static Lib.Math.min.name ∈ wG ∧ Cond.initialized "java/lang/Math" ∈ wG ∧ Cond.code Lib.Math.min.name Lib.Math.min.code 2 (some .int) ∈ wG := ⟨wG_in (by decide +kernel) rfl, wG_in (by decide +kernel) rfl, wG_in (by decide +kernel) rfl⟩
theorem bt_cpy : Cond.native arraycopyName ∈ wG ∧ Cond.static arraycopyName ∈ wG ∧ Cond.initialized "java/lang/System" ∈ wG := ⟨wG_in (by decide +kernel) rfl, wG_in (by decide +kernel) rfl, wG_in (by decide +kernel) rfl⟩
theorem bt_obj : Cond.instanceMethod Lib.objectInit ∈ wG ∧ Cond.code Lib.objectInit ⟨#[0xb1]⟩ 1 none ∈ wG := ⟨wG_in (by decide +kernel) rfl, wG_in (by decide +kernel) rfl⟩
def Y_J6_bitCount_0f7a4 : YY := (yJ6_bitCount_0f7a4, cJ6_bitCount_0f7a4, 1, (some .int), 1, 0, 0)
theorem ok_J6_bitCount_0f7a4 : okS Y_J6_bitCount_0f7a4 1 := ⟨⟨a_716, a_65, by decide +kernel, by decide⟩, a_715⟩
def Y_X0_init : YY := (yX0_init, cX0_init, 4, none, 1, 3, 21)
theorem ok_X0_init : okI Y_X0_init 3 := ⟨⟨a_225, a_59, by decide +kernel, by decide⟩, a_224, rfl, rfl⟩
def Y_X0_keep : YY := (yX0_keep, cX0_keep, 2, none, 3, 0, 0)
theorem ok_X0_keep : okV Y_X0_keep 0 := ⟨⟨a_565, a_59, by decide +kernel, by decide⟩, a_564, a_10⟩
def Y_X0_mayBeBest : YY := (yX0_mayBeBest, cX0_mayBeBest, 2, (some .boolean), 3, 0, 0)
theorem ok_X0_mayBeBest : okV Y_X0_mayBeBest 0 := ⟨⟨a_571, a_59, by decide +kernel, by decide⟩, a_570, a_11⟩
def Y_X0_placeFrom (d : Nat) : YY := (yX0_placeFrom, cX0_placeFrom, 3, none, 4 + d, 0, 0)
theorem ok_X0_placeFrom (d : Nat) : okS (Y_X0_placeFrom d) 2 := ⟨⟨a_561, a_59, (by decide +kernel : yX0_placeFrom.cls ≠ "java/lang/invoke/MethodHandle" ∧ yX0_placeFrom.cls ≠ "java/lang/invoke/VarHandle" ∧ (parseMethodDescriptor yX0_placeFrom.desc).map (fun d => d.parameters.length) = some 2), (by decide : 3 ≤ 41)⟩, a_560⟩
def Y_X0_seek : YY := (yX0_seek, cX0_seek, 2, none, 14, 0, 0)
theorem ok_X0_seek : okV Y_X0_seek 0 := ⟨⟨a_549, a_59, by decide +kernel, by decide⟩, a_547, a_548⟩
def Y_X1_attempt : YY := (yX1_attempt, cX1_attempt, 7, none, 4, 0, 0)
theorem ok_X1_attempt : okV Y_X1_attempt 5 := ⟨⟨a_526, a_58, by decide +kernel, by decide⟩, a_525, a_7⟩
def Y_X1_init : YY := (yX1_init, cX1_init, 5, none, 1, 1, 6)
theorem ok_X1_init : okI Y_X1_init 4 := ⟨⟨a_202, a_58, by decide +kernel, by decide⟩, a_201, rfl, rfl⟩
def Y_X1_seek : YY := (yX1_seek, cX1_seek, 2, none, 6, 0, 0)
theorem ok_X1_seek : okV Y_X1_seek 0 := ⟨⟨a_522, a_58, by decide +kernel, by decide⟩, a_520, a_521⟩
def Y_X1_seekOne : YY := (yX1_seekOne, cX1_seekOne, 3, none, 5, 0, 0)
theorem ok_X1_seekOne : okV Y_X1_seekOne 0 := ⟨⟨a_537, a_58, by decide +kernel, by decide⟩, a_536, a_8⟩
def Y_X1_seekTwo : YY := (yX1_seekTwo, cX1_seekTwo, 5, none, 5, 0, 0)
theorem ok_X1_seekTwo : okV Y_X1_seekTwo 0 := ⟨⟨a_541, a_58, by decide +kernel, by decide⟩, a_540, a_9⟩
def Y_X2_append : YY := (yX2_append, cX2_append, 2, none, 5, 0, 0)
theorem ok_X2_append : okV Y_X2_append 1 := ⟨⟨a_355, a_55, by decide +kernel, by decide⟩, a_353, a_354⟩
def Y_X2_dropLastVerse : YY := (yX2_dropLastVerse, cX2_dropLastVerse, 1, none, 6, 0, 0)
theorem ok_X2_dropLastVerse : okV Y_X2_dropLastVerse 0 := ⟨⟨a_446, a_55, by decide +kernel, by decide⟩, a_444, a_445⟩
def Y_X2_figure : YY := (yX2_figure, cX2_figure, 3, (some .int), 1, 0, 0)
theorem ok_X2_figure : okV Y_X2_figure 2 := ⟨⟨a_402, a_55, by decide +kernel, by decide⟩, a_400, a_401⟩
def Y_X2_firstFlaw : YY := (yX2_firstFlaw, cX2_firstFlaw, 2, (some .int), 3, 0, 0)
theorem ok_X2_firstFlaw : okV Y_X2_firstFlaw 0 := ⟨⟨a_364, a_55, by decide +kernel, by decide⟩, a_363, a_2⟩
def Y_X2_fits : YY := (yX2_fits, cX2_fits, 2, (some .boolean), 2, 0, 0)
theorem ok_X2_fits : okS Y_X2_fits 2 := ⟨⟨a_367, a_55, by decide +kernel, by decide⟩, a_366⟩
def Y_X2_init59 : YY := (yX2_init, cX2_init, 2, none, 1, 1, 59)
theorem ok_X2_init59 : okI Y_X2_init59 1 := ⟨⟨a_78, a_55, by decide +kernel, by decide⟩, a_77, rfl, rfl⟩
def Y_X2_init19 : YY := (yX2_init, cX2_init, 2, none, 1, 1, 19)
theorem ok_X2_init19 : okI Y_X2_init19 1 := ⟨⟨a_78, a_55, by decide +kernel, by decide⟩, a_77, rfl, rfl⟩
def Y_X2_isFull : YY := (yX2_isFull, cX2_isFull, 1, (some .boolean), 1, 0, 0)
theorem ok_X2_isFull : okV Y_X2_isFull 0 := ⟨⟨a_351, a_55, by decide +kernel, by decide⟩, a_349, a_350⟩
def Y_X2_kindBy : YY := (yX2_kindBy, cX2_kindBy, 1, (some .int), 1, 0, 0)
theorem ok_X2_kindBy : okS Y_X2_kindBy 1 := ⟨⟨a_370, a_55, by decide +kernel, by decide⟩, a_369⟩
def Y_X2_kindOf : YY := (yX2_kindOf, cX2_kindOf, 2, (some .int), 2, 0, 0)
theorem ok_X2_kindOf : okV Y_X2_kindOf 1 := ⟨⟨a_398, a_55, by decide +kernel, by decide⟩, a_396, a_397⟩
def Y_X2_settle : YY := (yX2_settle, cX2_settle, 1, none, 4, 0, 0)
theorem ok_X2_settle : okV Y_X2_settle 0 := ⟨⟨a_360, a_55, by decide +kernel, by decide⟩, a_359, a_1⟩
def Y_X2_shorten : YY := (yX2_shorten, cX2_shorten, 2, none, 5, 0, 0)
theorem ok_X2_shorten : okV Y_X2_shorten 1 := ⟨⟨a_438, a_55, by decide +kernel, by decide⟩, a_436, a_437⟩
def Y_X3_hasItem : YY := (yX3_hasItem, cX3_hasItem, 2, (some .boolean), 1, 0, 0)
theorem ok_X3_hasItem : okV Y_X3_hasItem 1 := ⟨⟨a_661, a_61, by decide +kernel, by decide⟩, a_659, a_660⟩
def Y_X3_hasSpan : YY := (yX3_hasSpan, cX3_hasSpan, 3, (some .boolean), 1, 0, 0)
theorem ok_X3_hasSpan : okV Y_X3_hasSpan 2 := ⟨⟨a_701, a_61, by decide +kernel, by decide⟩, a_699, a_700⟩
def Y_X3_init : YY := (yX3_init, cX3_init, 1, none, 1, 1, 60)
theorem ok_X3_init : okI Y_X3_init 0 := ⟨⟨a_281, a_61, by decide +kernel, by decide⟩, a_280, rfl, rfl⟩
def Y_X3_item : YY := (yX3_item, cX3_item, 2, (some .int), 2, 0, 0)
theorem ok_X3_item : okV Y_X3_item 1 := ⟨⟨a_657, a_61, by decide +kernel, by decide⟩, a_655, a_656⟩
def Y_X3_renew : YY := (yX3_renew, cX3_renew, 4, none, 1, 0, 0)
theorem ok_X3_renew : okV Y_X3_renew 2 := ⟨⟨a_672, a_61, by decide +kernel, by decide⟩, a_670, a_671⟩
def Y_X3_store : YY := (yX3_store, cX3_store, 3, none, 2, 0, 0)
theorem ok_X3_store : okV Y_X3_store 2 := ⟨⟨a_688, a_61, by decide +kernel, by decide⟩, a_686, a_687⟩
def Y_X4_add : YY := (yX4_add, cX4_add, 3, none, 2, 0, 0)
theorem ok_X4_add : okV Y_X4_add 2 := ⟨⟨a_628, a_60, by decide +kernel, by decide⟩, a_626, a_627⟩
def Y_X4_fit : YY := (yX4_fit, cX4_fit, 3, (some .boolean), 3, 0, 0)
theorem ok_X4_fit : okV Y_X4_fit 1 := ⟨⟨a_641, a_60, by decide +kernel, by decide⟩, a_639, a_640⟩
def Y_X4_init : YY := (yX4_init, cX4_init, 1, none, 1, 2, 16)
theorem ok_X4_init : okI Y_X4_init 0 := ⟨⟨a_263, a_60, by decide +kernel, by decide⟩, a_262, rfl, rfl⟩
def Y_X4_isFull : YY := (yX4_isFull, cX4_isFull, 1, (some .boolean), 1, 0, 0)
theorem ok_X4_isFull : okV Y_X4_isFull 0 := ⟨⟨a_624, a_60, by decide +kernel, by decide⟩, a_622, a_623⟩
def Y_X4_mayBe : YY := (yX4_mayBe, cX4_mayBe, 2, (some .boolean), 1, 0, 0)
theorem ok_X4_mayBe : okS Y_X4_mayBe 2 := ⟨⟨a_620, a_60, by decide +kernel, by decide⟩, a_619⟩
def Y_X5_add : YY := (yX5_add, cX5_add, 8, none, 3, 0, 0)
theorem ok_X5_add : okV Y_X5_add 2 := ⟨⟨a_394, a_56, by decide +kernel, by decide⟩, a_392, a_393⟩
def Y_X5_addAll : YY := (yX5_addAll, cX5_addAll, 3, none, 4, 0, 0)
theorem ok_X5_addAll : okV Y_X5_addAll 1 := ⟨⟨a_390, a_56, by decide +kernel, by decide⟩, a_388, a_389⟩
def Y_X5_changeLead : YY := (yX5_changeLead, cX5_changeLead, 2, none, 3, 0, 0)
theorem ok_X5_changeLead : okV Y_X5_changeLead 1 := ⟨⟨a_583, a_56, by decide +kernel, by decide⟩, a_581, a_582⟩
def Y_X5_dropLast : YY := (yX5_dropLast, cX5_dropLast, 1, none, 1, 0, 0)
theorem ok_X5_dropLast : okV Y_X5_dropLast 0 := ⟨⟨a_575, a_56, by decide +kernel, by decide⟩, a_573, a_574⟩
def Y_X5_howManyOf : YY := (yX5_howManyOf, cX5_howManyOf, 4, (some .int), 1, 0, 0)
theorem ok_X5_howManyOf : okV Y_X5_howManyOf 1 := ⟨⟨a_406, a_56, by decide +kernel, by decide⟩, a_405, a_5⟩
def Y_X5_howManyWritten : YY := (yX5_howManyWritten, cX5_howManyWritten, 2, (some .int), 1, 0, 0)
theorem ok_X5_howManyWritten : okV Y_X5_howManyWritten 0 := ⟨⟨a_481, a_56, by decide +kernel, by decide⟩, a_479, a_480⟩
def Y_X5_inHandIn : YY := (yX5_inHandIn, cX5_inHandIn, 5, (some .int), 1, 0, 0)
theorem ok_X5_inHandIn : okV Y_X5_inHandIn 1 := ⟨⟨a_514, a_56, by decide +kernel, by decide⟩, a_512, a_513⟩
def Y_X5_init12 : YY := (yX5_init, cX5_init, 3, none, 2, 15, 212)
theorem ok_X5_init12 : okI Y_X5_init12 1 := ⟨⟨a_104, a_56, by decide +kernel, by decide⟩, a_103, rfl, rfl⟩
def Y_X5_init14 : YY := (yX5_init, cX5_init, 3, none, 2, 17, 244)
theorem ok_X5_init14 : okI Y_X5_init14 1 := ⟨⟨a_104, a_56, by decide +kernel, by decide⟩, a_103, rfl, rfl⟩
def Y_X5_isSaidIn : YY := (yX5_isSaidIn, cX5_isSaidIn, 2, (some .boolean), 1, 0, 0)
theorem ok_X5_isSaidIn : okS Y_X5_isSaidIn 2 := ⟨⟨a_506, a_56, by decide +kernel, by decide⟩, a_505⟩
def Y_X5_isWholeWithoutPause : YY := (yX5_isWholeWithoutPause, cX5_isWholeWithoutPause, 1, (some .boolean), 3, 0, 0)
theorem ok_X5_isWholeWithoutPause : okV Y_X5_isWholeWithoutPause 0 := ⟨⟨a_531, a_56, by decide +kernel, by decide⟩, a_529, a_530⟩
def Y_X5_last : YY := (yX5_last, cX5_last, 1, (some (.object "MayNotPause$Turn")), 2, 0, 0)
theorem ok_X5_last : okV Y_X5_last 0 := ⟨⟨a_413, a_56, by decide +kernel, by decide⟩, a_411, a_412⟩
def Y_X5_lastWritten : YY := (yX5_lastWritten, cX5_lastWritten, 1, (some .int), 2, 0, 0)
theorem ok_X5_lastWritten : okV Y_X5_lastWritten 0 := ⟨⟨a_485, a_56, by decide +kernel, by decide⟩, a_483, a_484⟩
def Y_X5_letHimPause : YY := (yX5_letHimPause, cX5_letHimPause, 1, none, 1, 0, 0)
theorem ok_X5_letHimPause : okV Y_X5_letHimPause 0 := ⟨⟨a_558, a_56, by decide +kernel, by decide⟩, a_556, a_557⟩
def Y_X5_madeIn : YY := (yX5_madeIn, cX5_madeIn, 5, (some .int), 2, 0, 0)
theorem ok_X5_madeIn : okV Y_X5_madeIn 1 := ⟨⟨a_510, a_56, by decide +kernel, by decide⟩, a_508, a_509⟩
def Y_X5_open : YY := (yX5_open, cX5_open, 3, none, 3, 0, 0)
theorem ok_X5_open : okV Y_X5_open 1 := ⟨⟨a_378, a_56, by decide +kernel, by decide⟩, a_376, a_377⟩
def Y_X5_saidIn : YY := (yX5_saidIn, cX5_saidIn, 3, (some .int), 2, 0, 0)
theorem ok_X5_saidIn : okV Y_X5_saidIn 1 := ⟨⟨a_503, a_56, by decide +kernel, by decide⟩, a_501, a_502⟩
def Y_X5_turnAt : YY := (yX5_turnAt, cX5_turnAt, 2, (some (.object "MayNotPause$Turn")), 1, 0, 0)
theorem ok_X5_turnAt : okV Y_X5_turnAt 1 := ⟨⟨a_417, a_56, by decide +kernel, by decide⟩, a_415, a_416⟩
def Y_X6_beSaid : YY := (yX6_beSaid, cX6_beSaid, 2, none, 1, 0, 0)
theorem ok_X6_beSaid : okV Y_X6_beSaid 1 := ⟨⟨a_425, a_57, by decide +kernel, by decide⟩, a_423, a_424⟩
def Y_X6_beStart : YY := (yX6_beStart, cX6_beStart, 2, none, 2, 0, 0)
theorem ok_X6_beStart : okV Y_X6_beStart 1 := ⟨⟨a_382, a_57, by decide +kernel, by decide⟩, a_380, a_381⟩
def Y_X6_beWritten : YY := (yX6_beWritten, cX6_beWritten, 6, none, 1, 0, 0)
theorem ok_X6_beWritten : okV Y_X6_beWritten 3 := ⟨⟨a_430, a_57, by decide +kernel, by decide⟩, a_428, a_429⟩
def Y_X6_comeToNothing : YY := (yX6_comeToNothing, cX6_comeToNothing, 1, none, 1, 0, 0)
theorem ok_X6_comeToNothing : okV Y_X6_comeToNothing 0 := ⟨⟨a_386, a_57, by decide +kernel, by decide⟩, a_385, a_4⟩
def Y_X6_follow : YY := (yX6_follow, cX6_follow, 2, none, 2, 0, 0)
theorem ok_X6_follow : okV Y_X6_follow 1 := ⟨⟨a_421, a_57, by decide +kernel, by decide⟩, a_419, a_420⟩
def Y_X6_init : YY := (yX6_init, cX6_init, 1, none, 1, 0, 0)
theorem ok_X6_init : okI Y_X6_init 0 := ⟨⟨a_110, a_57, by decide +kernel, by decide⟩, a_109, rfl, rfl⟩
def Y_X7_bestLine : YY := (yX7_bestLine, cX7_bestLine, 5, (some .int), 3, 0, 0)
theorem ok_X7_bestLine : okV Y_X7_bestLine 0 := ⟨⟨a_613, a_54, by decide +kernel, by decide⟩, a_612, a_14⟩
def Y_X7_copy : YY := (yX7_copy, cX7_copy, 8, (some .int), 2, 0, 0)
theorem ok_X7_copy : okV Y_X7_copy 5 := ⟨⟨a_697, a_54, by decide +kernel, by decide⟩, a_695, a_696⟩
def Y_X7_count : YY := (yX7_count, cX7_count, 2, (some .int), 3, 0, 0)
theorem ok_X7_count : okV Y_X7_count 1 := ⟨⟨a_713, a_54, by decide +kernel, by decide⟩, a_711, a_712⟩
def Y_X7_digest : YY := (yX7_digest, cX7_digest, 4, (some .long), 16, 0, 0)
theorem ok_X7_digest : okV Y_X7_digest 0 := ⟨⟨a_723, a_54, by decide +kernel, by decide⟩, a_721, a_722⟩
def Y_X7_digestOfBreaths : YY := (yX7_digestOfBreaths, cX7_digestOfBreaths, 7, (some .long), 4, 0, 0)
theorem ok_X7_digestOfBreaths : okV Y_X7_digestOfBreaths 1 := ⟨⟨a_738, a_54, by decide +kernel, by decide⟩, a_737, a_17⟩
def Y_X7_digestOfVerse : YY := (yX7_digestOfVerse, cX7_digestOfVerse, 7, (some .long), 3, 0, 0)
theorem ok_X7_digestOfVerse : okV Y_X7_digestOfVerse 2 := ⟨⟨a_731, a_54, by decide +kernel, by decide⟩, a_730, a_16⟩
def Y_X7_doing : YY := (yX7_doing, cX7_doing, 3, (some .int), 3, 0, 0)
theorem ok_X7_doing : okV Y_X7_doing 2 := ⟨⟨a_499, a_54, by decide +kernel, by decide⟩, a_497, a_498⟩
def Y_X7_drawn : YY := (yX7_drawn, cX7_drawn, 5, (some .int), 3, 0, 0)
theorem ok_X7_drawn : okV Y_X7_drawn 1 := ⟨⟨a_600, a_54, by decide +kernel, by decide⟩, a_598, a_599⟩
def Y_X7_errorsBy : YY := (yX7_errorsBy, cX7_errorsBy, 7, (some .int), 2, 0, 0)
theorem ok_X7_errorsBy : okV Y_X7_errorsBy 2 := ⟨⟨a_609, a_54, by decide +kernel, by decide⟩, a_608, a_13⟩
def Y_X7_fault : YY := (yX7_fault, cX7_fault, 2, (some .int), 2, 0, 0)
theorem ok_X7_fault : okV Y_X7_fault 1 := ⟨⟨a_451, a_54, by decide +kernel, by decide⟩, a_449, a_450⟩
def Y_X7_findingAt : YY := (yX7_findingAt, cX7_findingAt, 3, (some .int), 2, 0, 0)
theorem ok_X7_findingAt : okS Y_X7_findingAt 3 := ⟨⟨a_683, a_54, by decide +kernel, by decide⟩, a_682⟩
def Y_X7_forget : YY := (yX7_forget, cX7_forget, 2, (some .int), 1, 0, 0)
theorem ok_X7_forget : okV Y_X7_forget 0 := ⟨⟨a_633, a_54, by decide +kernel, by decide⟩, a_631, a_632⟩
def Y_X7_found : YY := (yX7_found, cX7_found, 2, (some .int), 1, 0, 0)
theorem ok_X7_found : okV Y_X7_found 1 := ⟨⟨a_653, a_54, by decide +kernel, by decide⟩, a_652, a_15⟩
def Y_X7_get : YY := (yX7_get, cX7_get, 5, (some .int), 3, 0, 0)
theorem ok_X7_get : okV Y_X7_get 3 := ⟨⟨a_692, a_54, by decide +kernel, by decide⟩, a_690, a_691⟩
def Y_X7_init : YY := (yX7_init, cX7_init, 2, none, 3, 57, 876)
theorem ok_X7_init : okI Y_X7_init 0 := ⟨⟨a_70, a_54, by decide +kernel, by decide⟩, a_69, rfl, rfl⟩
def Y_X7_isForm : YY := (yX7_isForm, cX7_isForm, 1, (some .boolean), 1, 0, 0)
theorem ok_X7_isForm : okS Y_X7_isForm 1 := ⟨⟨a_668, a_54, by decide +kernel, by decide⟩, a_667⟩
def Y_X7_isSheet : YY := (yX7_isSheet, cX7_isSheet, 1, (some .boolean), 1, 0, 0)
theorem ok_X7_isSheet : okS Y_X7_isSheet 1 := ⟨⟨a_649, a_54, by decide +kernel, by decide⟩, a_648⟩
def Y_X7_isText : YY := (yX7_isText, cX7_isText, 1, (some .boolean), 1, 0, 0)
theorem ok_X7_isText : okS Y_X7_isText 1 := ⟨⟨a_343, a_54, by decide +kernel, by decide⟩, a_342⟩
def Y_X7_isVerse : YY := (yX7_isVerse, cX7_isVerse, 2, (some .boolean), 1, 0, 0)
theorem ok_X7_isVerse : okV Y_X7_isVerse 1 := ⟨⟨a_467, a_54, by decide +kernel, by decide⟩, a_466, a_6⟩
def Y_X7_judged : YY := (yX7_judged, cX7_judged, 3, (some .int), 2, 0, 0)
theorem ok_X7_judged : okV Y_X7_judged 0 := ⟨⟨a_491, a_54, by decide +kernel, by decide⟩, a_489, a_490⟩
def Y_X7_lay : YY := (yX7_lay, cX7_lay, 6, (some .int), 3, 0, 0)
theorem ok_X7_lay : okV Y_X7_lay 4 := ⟨⟨a_680, a_54, by decide +kernel, by decide⟩, a_678, a_679⟩
def Y_X7_lead : YY := (yX7_lead, cX7_lead, 2, (some .int), 5, 0, 0)
theorem ok_X7_lead : okV Y_X7_lead 0 := ⟨⟨a_579, a_54, by decide +kernel, by decide⟩, a_577, a_578⟩
def Y_X7_leads : YY := (yX7_leads, cX7_leads, 3, (some .int), 5, 0, 0)
theorem ok_X7_leads : okV Y_X7_leads 0 := ⟨⟨a_637, a_54, by decide +kernel, by decide⟩, a_635, a_636⟩
def Y_X7_line : YY := (yX7_line, cX7_line, 4, (some .int), 4, 0, 0)
theorem ok_X7_line : okV Y_X7_line 2 := ⟨⟨a_605, a_54, by decide +kernel, by decide⟩, a_603, a_604⟩
def Y_X7_lose : YY := (yX7_lose, cX7_lose, 2, (some .int), 2, 0, 0)
theorem ok_X7_lose : okV Y_X7_lose 1 := ⟨⟨a_676, a_54, by decide +kernel, by decide⟩, a_674, a_675⟩
def Y_X7_odds : YY := (yX7_odds, cX7_odds, 11, (some .long), 3, 0, 0)
theorem ok_X7_odds : okV Y_X7_odds 1 := ⟨⟨a_588, a_54, by decide +kernel, by decide⟩, a_586, a_587⟩
def Y_X7_order : YY := (yX7_order, cX7_order, 2, (some .int), 15, 0, 0)
theorem ok_X7_order : okV Y_X7_order 1 := ⟨⟨a_545, a_54, by decide +kernel, by decide⟩, a_543, a_544⟩
def Y_X7_poem : YY := (yX7_poem, cX7_poem, 2, (some .int), 3, 0, 0)
theorem ok_X7_poem : okV Y_X7_poem 1 := ⟨⟨a_477, a_54, by decide +kernel, by decide⟩, a_475, a_476⟩
def Y_X7_put : YY := (yX7_put, cX7_put, 2, (some .int), 7, 0, 0)
theorem ok_X7_put : okV Y_X7_put 1 := ⟨⟨a_518, a_54, by decide +kernel, by decide⟩, a_516, a_517⟩
def Y_X7_read : YY := (yX7_read, cX7_read, 7, (some .int), 3, 0, 0)
theorem ok_X7_read : okV Y_X7_read 1 := ⟨⟨a_646, a_54, by decide +kernel, by decide⟩, a_644, a_645⟩
def Y_X7_rest : YY := (yX7_rest, cX7_rest, 3, (some .int), 2, 0, 0)
theorem ok_X7_rest : okV Y_X7_rest 1 := ⟨⟨a_495, a_54, by decide +kernel, by decide⟩, a_493, a_494⟩
def Y_X7_scriptOf : YY := (yX7_scriptOf, cX7_scriptOf, 2, (some (.object "MayNotPause$Script")), 1, 0, 0)
theorem ok_X7_scriptOf : okV Y_X7_scriptOf 1 := ⟨⟨a_347, a_54, by decide +kernel, by decide⟩, a_346, a_0⟩
def Y_X7_seen : YY := (yX7_seen, cX7_seen, 3, (some .int), 3, 0, 0)
theorem ok_X7_seen : okV Y_X7_seen 2 := ⟨⟨a_617, a_54, by decide +kernel, by decide⟩, a_615, a_616⟩
def Y_X7_set : YY := (yX7_set, cX7_set, 4, (some .int), 6, 0, 0)
theorem ok_X7_set : okV Y_X7_set 2 := ⟨⟨a_455, a_54, by decide +kernel, by decide⟩, a_453, a_454⟩
def Y_X7_sheet : YY := (yX7_sheet, cX7_sheet, 4, (some .int), 2, 0, 0)
theorem ok_X7_sheet : okV Y_X7_sheet 3 := ⟨⟨a_665, a_54, by decide +kernel, by decide⟩, a_663, a_664⟩
def Y_X7_sixteenths : YY := (yX7_sixteenths, cX7_sixteenths, 2, (some .int), 2, 0, 0)
theorem ok_X7_sixteenths : okV Y_X7_sixteenths 1 := ⟨⟨a_593, a_54, by decide +kernel, by decide⟩, a_592, a_12⟩
def Y_X7_tellAnew : YY := (yX7_tellAnew, cX7_tellAnew, 1, none, 5, 0, 0)
theorem ok_X7_tellAnew : okV Y_X7_tellAnew 0 := ⟨⟨a_374, a_54, by decide +kernel, by decide⟩, a_373, a_3⟩
def Y_X7_type : YY := (yX7_type, cX7_type, 4, (some .int), 6, 0, 0)
theorem ok_X7_type : okV Y_X7_type 2 := ⟨⟨a_340, a_54, by decide +kernel, by decide⟩, a_338, a_339⟩
def Y_X7_undo : YY := (yX7_undo, cX7_undo, 3, (some .int), 7, 0, 0)
theorem ok_X7_undo : okV Y_X7_undo 1 := ⟨⟨a_442, a_54, by decide +kernel, by decide⟩, a_440, a_441⟩
def Y_X7_verse : YY := (yX7_verse, cX7_verse, 4, (some .int), 2, 0, 0)
theorem ok_X7_verse : okV Y_X7_verse 2 := ⟨⟨a_463, a_54, by decide +kernel, by decide⟩, a_461, a_462⟩
def Y_X7_when : YY := (yX7_when, cX7_when, 4, (some .int), 2, 0, 0)
theorem ok_X7_when : okV Y_X7_when 2 := ⟨⟨a_473, a_54, by decide +kernel, by decide⟩, a_471, a_472⟩
def Y_X7_wipe : YY := (yX7_wipe, cX7_wipe, 4, (some .int), 6, 0, 0)
theorem ok_X7_wipe : okV Y_X7_wipe 1 := ⟨⟨a_434, a_54, by decide +kernel, by decide⟩, a_432, a_433⟩
def Y_X7_write : YY := (yX7_write, cX7_write, 5, (some .int), 3, 0, 0)
theorem ok_X7_write : okV Y_X7_write 1 := ⟨⟨a_708, a_54, by decide +kernel, by decide⟩, a_706, a_707⟩
def Y_X8_copy : YY := (yX8_copy, cX8_copy, 7, (some .int), 3, 0, 0)
theorem ok_X8_copy : okV Y_X8_copy 5 := ⟨⟨a_885, a_62, by decide +kernel, by decide⟩, a_883, a_884⟩
def Y_X8_count : YY := (yX8_count, cX8_count, 4, (some .int), 5, 0, 0)
theorem ok_X8_count : okV Y_X8_count 1 := ⟨⟨a_1147, a_62, by decide +kernel, by decide⟩, a_1145, a_1146⟩
def Y_X8_counts : YY := (yX8_counts, cX8_counts, 4, none, 2, 0, 0)
theorem ok_X8_counts : okV Y_X8_counts 0 := ⟨⟨a_949, a_62, by decide +kernel, by decide⟩, a_948, a_26⟩
def Y_X8_cut : YY := (yX8_cut, cX8_cut, 2, (some .int), 1, 0, 0)
theorem ok_X8_cut : okS Y_X8_cut 2 := ⟨⟨a_876, a_62, by decide +kernel, by decide⟩, a_875⟩
def Y_X8_digest : YY := (yX8_digest, cX8_digest, 5, (some .long), 6, 0, 0)
theorem ok_X8_digest : okV Y_X8_digest 0 := ⟨⟨a_1151, a_62, by decide +kernel, by decide⟩, a_1149, a_1150⟩
def Y_X8_doing : YY := (yX8_doing, cX8_doing, 3, (some .int), 6, 0, 0)
theorem ok_X8_doing : okV Y_X8_doing 2 := ⟨⟨a_1013, a_62, by decide +kernel, by decide⟩, a_1011, a_1012⟩
def Y_X8_doingOf : YY := (yX8_doingOf, cX8_doingOf, 3, (some .int), 5, 0, 0)
theorem ok_X8_doingOf : okV Y_X8_doingOf 2 := ⟨⟨a_1018, a_62, by decide +kernel, by decide⟩, a_1017, a_37⟩
def Y_X8_drawn : YY := (yX8_drawn, cX8_drawn, 2, (some .int), 5, 0, 0)
theorem ok_X8_drawn : okV Y_X8_drawn 1 := ⟨⟨a_1095, a_62, by decide +kernel, by decide⟩, a_1093, a_1094⟩
def Y_X8_drawnOf : YY := (yX8_drawnOf, cX8_drawnOf, 4, (some .int), 1, 0, 0)
theorem ok_X8_drawnOf : okV Y_X8_drawnOf 1 := ⟨⟨a_1099, a_62, by decide +kernel, by decide⟩, a_1098, a_49⟩
def Y_X8_errors : YY := (yX8_errors, cX8_errors, 7, (some .int), 2, 0, 0)
theorem ok_X8_errors : okV Y_X8_errors 2 := ⟨⟨a_1114, a_62, by decide +kernel, by decide⟩, a_1113, a_51⟩
def Y_X8_fault : YY := (yX8_fault, cX8_fault, 2, (some .int), 4, 0, 0)
theorem ok_X8_fault : okV Y_X8_fault 1 := ⟨⟨a_901, a_62, by decide +kernel, by decide⟩, a_899, a_900⟩
def Y_X8_find : YY := (yX8_find, cX8_find, 1, none, 4, 0, 0)
theorem ok_X8_find : okV Y_X8_find 0 := ⟨⟨a_937, a_62, by decide +kernel, by decide⟩, a_936, a_23⟩
def Y_X8_findOrder : YY := (yX8_findOrder, cX8_findOrder, 6, none, 4, 0, 0)
theorem ok_X8_findOrder : okV Y_X8_findOrder 0 := ⟨⟨a_1056, a_62, by decide +kernel, by decide⟩, a_1055, a_44⟩
def Y_X8_findPut : YY := (yX8_findPut, cX8_findPut, 5, none, 5, 0, 0)
theorem ok_X8_findPut : okV Y_X8_findPut 0 := ⟨⟨a_1038, a_62, by decide +kernel, by decide⟩, a_1037, a_41⟩
def Y_X8_forget : YY := (yX8_forget, cX8_forget, 2, (some .int), 1, 0, 0)
theorem ok_X8_forget : okV Y_X8_forget 0 := ⟨⟨a_1126, a_62, by decide +kernel, by decide⟩, a_1124, a_1125⟩
def Y_X8_freeAhead : YY := (yX8_freeAhead, cX8_freeAhead, 5, (some .int), 3, 0, 0)
theorem ok_X8_freeAhead : okV Y_X8_freeAhead 2 := ⟨⟨a_1005, a_62, by decide +kernel, by decide⟩, a_1004, a_35⟩
def Y_X8_get : YY := (yX8_get, cX8_get, 4, (some .int), 3, 0, 0)
theorem ok_X8_get : okV Y_X8_get 3 := ⟨⟨a_880, a_62, by decide +kernel, by decide⟩, a_878, a_879⟩
def Y_X8_greater : YY := (yX8_greater, cX8_greater, 2, (some .int), 1, 0, 0)
theorem ok_X8_greater : okS Y_X8_greater 2 := ⟨⟨a_956, a_62, by decide +kernel, by decide⟩, a_955⟩
def Y_X8_hasIn : YY := (yX8_hasIn, cX8_hasIn, 4, (some .int), 1, 0, 0)
theorem ok_X8_hasIn : okV Y_X8_hasIn 1 := ⟨⟨a_1030, a_62, by decide +kernel, by decide⟩, a_1029, a_40⟩
def Y_X8_here : YY := (yX8_here, cX8_here, 2, (some .int), 1, 0, 0)
theorem ok_X8_here : okV Y_X8_here 1 := ⟨⟨a_913, a_62, by decide +kernel, by decide⟩, a_912, a_22⟩
def Y_X8_in : YY := (yX8_in, cX8_in, 6, (some .boolean), 1, 0, 0)
theorem ok_X8_in : okS Y_X8_in 3 := ⟨⟨a_856, a_62, by decide +kernel, by decide⟩, a_855⟩
def Y_X8_init : YY := (yX8_init, cX8_init, 2, none, 1, 20, 643)
theorem ok_X8_init : okI Y_X8_init 0 := ⟨⟨a_753, a_62, by decide +kernel, by decide⟩, a_752, rfl, rfl⟩
def Y_X8_isFree : YY := (yX8_isFree, cX8_isFree, 5, (some .boolean), 2, 0, 0)
theorem ok_X8_isFree : okV Y_X8_isFree 1 := ⟨⟨a_1009, a_62, by decide +kernel, by decide⟩, a_1008, a_36⟩
def Y_X8_isIn : YY := (yX8_isIn, cX8_isIn, 2, (some .boolean), 1, 0, 0)
theorem ok_X8_isIn : okS Y_X8_isIn 2 := ⟨⟨a_1117, a_62, by decide +kernel, by decide⟩, a_1116⟩
def Y_X8_isSheet : YY := (yX8_isSheet, cX8_isSheet, 1, (some .boolean), 2, 0, 0)
theorem ok_X8_isSheet : okS Y_X8_isSheet 1 := ⟨⟨a_852, a_62, by decide +kernel, by decide⟩, a_851⟩
def Y_X8_isTwo : YY := (yX8_isTwo, cX8_isTwo, 1, (some .boolean), 2, 0, 0)
theorem ok_X8_isTwo : okS Y_X8_isTwo 1 := ⟨⟨a_892, a_62, by decide +kernel, by decide⟩, a_891⟩
def Y_X8_isVerse : YY := (yX8_isVerse, cX8_isVerse, 2, (some .boolean), 2, 0, 0)
theorem ok_X8_isVerse : okV Y_X8_isVerse 1 := ⟨⟨a_964, a_62, by decide +kernel, by decide⟩, a_963, a_29⟩
def Y_X8_judged : YY := (yX8_judged, cX8_judged, 1, (some .int), 5, 0, 0)
theorem ok_X8_judged : okV Y_X8_judged 0 := ⟨⟨a_989, a_62, by decide +kernel, by decide⟩, a_987, a_988⟩
def Y_X8_judgedNow : YY := (yX8_judgedNow, cX8_judgedNow, 2, (some .int), 1, 0, 0)
theorem ok_X8_judgedNow : okV Y_X8_judgedNow 0 := ⟨⟨a_993, a_62, by decide +kernel, by decide⟩, a_992, a_33⟩
def Y_X8_kindAt : YY := (yX8_kindAt, cX8_kindAt, 2, (some .int), 1, 0, 0)
theorem ok_X8_kindAt : okV Y_X8_kindAt 1 := ⟨⟨a_953, a_62, by decide +kernel, by decide⟩, a_952, a_27⟩
def Y_X8_kindOf : YY := (yX8_kindOf, cX8_kindOf, 1, (some .int), 1, 0, 0)
theorem ok_X8_kindOf : okS Y_X8_kindOf 1 := ⟨⟨a_916, a_62, by decide +kernel, by decide⟩, a_915⟩
def Y_X8_lacks : YY := (yX8_lacks, cX8_lacks, 4, (some .int), 2, 0, 0)
theorem ok_X8_lacks : okV Y_X8_lacks 3 := ⟨⟨a_873, a_62, by decide +kernel, by decide⟩, a_872, a_19⟩
def Y_X8_lay : YY := (yX8_lay, cX8_lay, 6, (some .int), 3, 0, 0)
theorem ok_X8_lay : okV Y_X8_lay 4 := ⟨⟨a_869, a_62, by decide +kernel, by decide⟩, a_867, a_868⟩
def Y_X8_lays : YY := (yX8_lays, cX8_lays, 6, none, 1, 0, 0)
theorem ok_X8_lays : okV Y_X8_lays 4 := ⟨⟨a_1046, a_62, by decide +kernel, by decide⟩, a_1045, a_43⟩
def Y_X8_lead : YY := (yX8_lead, cX8_lead, 1, (some .int), 5, 0, 0)
theorem ok_X8_lead : okV Y_X8_lead 0 := ⟨⟨a_1071, a_62, by decide +kernel, by decide⟩, a_1069, a_1070⟩
def Y_X8_leadNow : YY := (yX8_leadNow, cX8_leadNow, 2, (some .int), 4, 0, 0)
theorem ok_X8_leadNow : okV Y_X8_leadNow 0 := ⟨⟨a_1075, a_62, by decide +kernel, by decide⟩, a_1074, a_47⟩
def Y_X8_leads : YY := (yX8_leads, cX8_leads, 1, (some .int), 6, 0, 0)
theorem ok_X8_leads : okV Y_X8_leads 0 := ⟨⟨a_1135, a_62, by decide +kernel, by decide⟩, a_1133, a_1134⟩
def Y_X8_leadsNow : YY := (yX8_leadsNow, cX8_leadsNow, 5, (some .int), 5, 0, 0)
theorem ok_X8_leadsNow : okV Y_X8_leadsNow 0 := ⟨⟨a_1139, a_62, by decide +kernel, by decide⟩, a_1138, a_52⟩
def Y_X8_lesser : YY := (yX8_lesser, cX8_lesser, 2, (some .int), 1, 0, 0)
theorem ok_X8_lesser : okS Y_X8_lesser 2 := ⟨⟨a_1059, a_62, by decide +kernel, by decide⟩, a_1058⟩
def Y_X8_line : YY := (yX8_line, cX8_line, 3, (some .int), 4, 0, 0)
theorem ok_X8_line : okV Y_X8_line 2 := ⟨⟨a_1104, a_62, by decide +kernel, by decide⟩, a_1102, a_1103⟩
def Y_X8_lineOf : YY := (yX8_lineOf, cX8_lineOf, 5, (some .int), 3, 0, 0)
theorem ok_X8_lineOf : okV Y_X8_lineOf 2 := ⟨⟨a_1110, a_62, by decide +kernel, by decide⟩, a_1109, a_50⟩
def Y_X8_looks : YY := (yX8_looks, cX8_looks, 6, none, 4, 0, 0)
theorem ok_X8_looks : okV Y_X8_looks 5 := ⟨⟨a_1042, a_62, by decide +kernel, by decide⟩, a_1041, a_42⟩
def Y_X8_lose : YY := (yX8_lose, cX8_lose, 2, (some .int), 3, 0, 0)
theorem ok_X8_lose : okV Y_X8_lose 1 := ⟨⟨a_865, a_62, by decide +kernel, by decide⟩, a_863, a_864⟩
def Y_X8_makesIn : YY := (yX8_makesIn, cX8_makesIn, 5, (some .int), 4, 0, 0)
theorem ok_X8_makesIn : okV Y_X8_makesIn 2 := ⟨⟨a_1026, a_62, by decide +kernel, by decide⟩, a_1025, a_39⟩
def Y_X8_met : YY := (yX8_met, cX8_met, 2, (some .int), 1, 0, 0)
theorem ok_X8_met : okV Y_X8_met 1 := ⟨⟨a_861, a_62, by decide +kernel, by decide⟩, a_860, a_18⟩
def Y_X8_most : YY := (yX8_most, cX8_most, 1, (some .int), 1, 0, 0)
theorem ok_X8_most : okS Y_X8_most 1 := ⟨⟨a_929, a_62, by decide +kernel, by decide⟩, a_928⟩
def Y_X8_no : YY := (yX8_no, cX8_no, 1, (some .long), 1, 0, 0)
theorem ok_X8_no : okS Y_X8_no 1 := ⟨⟨a_1090, a_62, by decide +kernel, by decide⟩, a_1089⟩
def Y_X8_odds : YY := (yX8_odds, cX8_odds, 2, (some .long), 5, 0, 0)
theorem ok_X8_odds : okV Y_X8_odds 1 := ⟨⟨a_1079, a_62, by decide +kernel, by decide⟩, a_1077, a_1078⟩
def Y_X8_oddsOf : YY := (yX8_oddsOf, cX8_oddsOf, 9, (some .long), 2, 0, 0)
theorem ok_X8_oddsOf : okV Y_X8_oddsOf 1 := ⟨⟨a_1083, a_62, by decide +kernel, by decide⟩, a_1082, a_48⟩
def Y_X8_order : YY := (yX8_order, cX8_order, 2, (some .int), 5, 0, 0)
theorem ok_X8_order : okV Y_X8_order 1 := ⟨⟨a_1050, a_62, by decide +kernel, by decide⟩, a_1048, a_1049⟩
def Y_X8_part : YY := (yX8_part, cX8_part, 11, (some .long), 1, 0, 0)
theorem ok_X8_part : okS Y_X8_part 3 := ⟨⟨a_1087, a_62, by decide +kernel, by decide⟩, a_1086⟩
def Y_X8_plain : YY := (yX8_plain, cX8_plain, 2, none, 1, 0, 0)
theorem ok_X8_plain : okV Y_X8_plain 0 := ⟨⟨a_941, a_62, by decide +kernel, by decide⟩, a_940, a_24⟩
def Y_X8_poem : YY := (yX8_poem, cX8_poem, 2, (some .int), 5, 0, 0)
theorem ok_X8_poem : okV Y_X8_poem 1 := ⟨⟨a_981, a_62, by decide +kernel, by decide⟩, a_979, a_980⟩
def Y_X8_poemOf : YY := (yX8_poemOf, cX8_poemOf, 2, (some .int), 1, 0, 0)
theorem ok_X8_poemOf : okV Y_X8_poemOf 1 := ⟨⟨a_985, a_62, by decide +kernel, by decide⟩, a_984, a_32⟩
def Y_X8_put : YY := (yX8_put, cX8_put, 2, (some .int), 6, 0, 0)
theorem ok_X8_put : okV Y_X8_put 1 := ⟨⟨a_1034, a_62, by decide +kernel, by decide⟩, a_1032, a_1033⟩
def Y_X8_read : YY := (yX8_read, cX8_read, 4, (some .int), 3, 0, 0)
theorem ok_X8_read : okV Y_X8_read 1 := ⟨⟨a_1130, a_62, by decide +kernel, by decide⟩, a_1128, a_1129⟩
def Y_X8_readsText : YY := (yX8_readsText, cX8_readsText, 4, (some .int), 3, 0, 0)
theorem ok_X8_readsText : okV Y_X8_readsText 1 := ⟨⟨a_905, a_62, by decide +kernel, by decide⟩, a_904, a_20⟩
def Y_X8_readsVerse : YY := (yX8_readsVerse, cX8_readsVerse, 6, (some .boolean), 2, 0, 0)
theorem ok_X8_readsVerse : okV Y_X8_readsVerse 1 := ⟨⟨a_909, a_62, by decide +kernel, by decide⟩, a_908, a_21⟩
def Y_X8_rest : YY := (yX8_rest, cX8_rest, 2, (some .int), 5, 0, 0)
theorem ok_X8_rest : okV Y_X8_rest 1 := ⟨⟨a_997, a_62, by decide +kernel, by decide⟩, a_995, a_996⟩
def Y_X8_restOf : YY := (yX8_restOf, cX8_restOf, 4, (some .int), 4, 0, 0)
theorem ok_X8_restOf : okV Y_X8_restOf 1 := ⟨⟨a_1001, a_62, by decide +kernel, by decide⟩, a_1000, a_34⟩
def Y_X8_sayAt : YY := (yX8_sayAt, cX8_sayAt, 2, (some .int), 1, 0, 0)
theorem ok_X8_sayAt : okV Y_X8_sayAt 1 := ⟨⟨a_960, a_62, by decide +kernel, by decide⟩, a_959, a_28⟩
def Y_X8_says : YY := (yX8_says, cX8_says, 14, none, 3, 0, 0)
theorem ok_X8_says : okV Y_X8_says 3 := ⟨⟨a_945, a_62, by decide +kernel, by decide⟩, a_944, a_25⟩
def Y_X8_saysIn : YY := (yX8_saysIn, cX8_saysIn, 3, (some .int), 1, 0, 0)
theorem ok_X8_saysIn : okV Y_X8_saysIn 1 := ⟨⟨a_1022, a_62, by decide +kernel, by decide⟩, a_1021, a_38⟩
def Y_X8_seen : YY := (yX8_seen, cX8_seen, 3, (some .int), 2, 0, 0)
theorem ok_X8_seen : okV Y_X8_seen 2 := ⟨⟨a_1121, a_62, by decide +kernel, by decide⟩, a_1119, a_1120⟩
def Y_X8_set : YY := (yX8_set, cX8_set, 4, (some .int), 2, 0, 0)
theorem ok_X8_set : okV Y_X8_set 2 := ⟨⟨a_925, a_62, by decide +kernel, by decide⟩, a_923, a_924⟩
def Y_X8_sheet : YY := (yX8_sheet, cX8_sheet, 5, (some .int), 3, 0, 0)
theorem ok_X8_sheet : okV Y_X8_sheet 3 := ⟨⟨a_849, a_62, by decide +kernel, by decide⟩, a_847, a_848⟩
def Y_X8_tellsOrder : YY := (yX8_tellsOrder, cX8_tellsOrder, 2, (some .int), 1, 0, 0)
theorem ok_X8_tellsOrder : okV Y_X8_tellsOrder 1 := ⟨⟨a_1067, a_62, by decide +kernel, by decide⟩, a_1066, a_46⟩
def Y_X8_type : YY := (yX8_type, cX8_type, 3, (some .int), 3, 0, 0)
theorem ok_X8_type : okV Y_X8_type 2 := ⟨⟨a_889, a_62, by decide +kernel, by decide⟩, a_887, a_888⟩
def Y_X8_undo : YY := (yX8_undo, cX8_undo, 2, (some .int), 4, 0, 0)
theorem ok_X8_undo : okV Y_X8_undo 1 := ⟨⟨a_921, a_62, by decide +kernel, by decide⟩, a_919, a_920⟩
def Y_X8_unfolds : YY := (yX8_unfolds, cX8_unfolds, 6, none, 1, 0, 0)
theorem ok_X8_unfolds : okV Y_X8_unfolds 2 := ⟨⟨a_1063, a_62, by decide +kernel, by decide⟩, a_1062, a_45⟩
def Y_X8_verse : YY := (yX8_verse, cX8_verse, 3, (some .int), 5, 0, 0)
theorem ok_X8_verse : okV Y_X8_verse 2 := ⟨⟨a_933, a_62, by decide +kernel, by decide⟩, a_931, a_932⟩
def Y_X8_verseOf : YY := (yX8_verseOf, cX8_verseOf, 3, (some .int), 1, 0, 0)
theorem ok_X8_verseOf : okV Y_X8_verseOf 2 := ⟨⟨a_968, a_62, by decide +kernel, by decide⟩, a_967, a_30⟩
def Y_X8_when : YY := (yX8_when, cX8_when, 3, (some .int), 5, 0, 0)
theorem ok_X8_when : okV Y_X8_when 2 := ⟨⟨a_972, a_62, by decide +kernel, by decide⟩, a_970, a_971⟩
def Y_X8_whenOf : YY := (yX8_whenOf, cX8_whenOf, 3, (some .int), 1, 0, 0)
theorem ok_X8_whenOf : okV Y_X8_whenOf 2 := ⟨⟨a_977, a_62, by decide +kernel, by decide⟩, a_976, a_31⟩
def Y_X8_wipe : YY := (yX8_wipe, cX8_wipe, 3, (some .int), 3, 0, 0)
theorem ok_X8_wipe : okV Y_X8_wipe 1 := ⟨⟨a_897, a_62, by decide +kernel, by decide⟩, a_895, a_896⟩
def Y_X8_write : YY := (yX8_write, cX8_write, 4, (some .int), 5, 0, 0)
theorem ok_X8_write : okV Y_X8_write 1 := ⟨⟨a_1143, a_62, by decide +kernel, by decide⟩, a_1141, a_1142⟩
def Y_L_law : YY := (yL_law, cL_law, 4, some .boolean, 17, 79, 1561)
end
