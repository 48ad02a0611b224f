section
-- ===== PART A: goes FIRST, ahead of the names: the tables' words, and 'selects' of the private methods out of them =====
/-- a private method of a class that the tables say can be made, by its rows of tables_1 -/
def lw_okq (q : MethodName × Nat) : Prop := (q.1.cls ≠ "java/lang/invoke/MethodHandle" ∧ q.1.cls ≠ "java/lang/invoke/VarHandle") ∧ Cond.instantiable q.1.cls q.2 ∈ tables_1 ∧ Cond.privateMethod q.1 ∈ tables_1 ∧ Cond.instanceMethod q.1 ∈ tables_1
theorem lw_p0 : lw_okq (⟨"RunWatcher$Reader", "readRule", "()I"⟩, 9) := ⟨⟨by decide +kernel, by decide +kernel⟩, List.mem_of_getElem? (i := 23) (by decide +kernel), List.mem_of_getElem? (i := 306) (by decide +kernel), List.mem_of_getElem? (i := 307) (by decide +kernel)⟩
theorem lw_p1 : lw_okq (⟨"RunWatcher$Reader", "readEither", "()I"⟩, 9) := ⟨⟨by decide +kernel, by decide +kernel⟩, List.mem_of_getElem? (i := 23) (by decide +kernel), List.mem_of_getElem? (i := 310) (by decide +kernel), List.mem_of_getElem? (i := 311) (by decide +kernel)⟩
theorem lw_p2 : lw_okq (⟨"RunWatcher$Reader", "readBoth", "()I"⟩, 9) := ⟨⟨by decide +kernel, by decide +kernel⟩, List.mem_of_getElem? (i := 23) (by decide +kernel), List.mem_of_getElem? (i := 314) (by decide +kernel), List.mem_of_getElem? (i := 315) (by decide +kernel)⟩
theorem lw_p3 : lw_okq (⟨"RunWatcher$Reader", "readPair", "()I"⟩, 9) := ⟨⟨by decide +kernel, by decide +kernel⟩, List.mem_of_getElem? (i := 23) (by decide +kernel), List.mem_of_getElem? (i := 318) (by decide +kernel), List.mem_of_getElem? (i := 319) (by decide +kernel)⟩
theorem lw_p4 : lw_okq (⟨"RunWatcher$Reader", "readOne", "()I"⟩, 9) := ⟨⟨by decide +kernel, by decide +kernel⟩, List.mem_of_getElem? (i := 23) (by decide +kernel), List.mem_of_getElem? (i := 322) (by decide +kernel), List.mem_of_getElem? (i := 323) (by decide +kernel)⟩
theorem lw_p5 : lw_okq (⟨"RunWatcher$Reader", "here", "()I"⟩, 9) := ⟨⟨by decide +kernel, by decide +kernel⟩, List.mem_of_getElem? (i := 23) (by decide +kernel), List.mem_of_getElem? (i := 326) (by decide +kernel), List.mem_of_getElem? (i := 327) (by decide +kernel)⟩
theorem lw_p6 : lw_okq (⟨"RunWatcher$Reader", "readBracket", "()I"⟩, 9) := ⟨⟨by decide +kernel, by decide +kernel⟩, List.mem_of_getElem? (i := 23) (by decide +kernel), List.mem_of_getElem? (i := 333) (by decide +kernel), List.mem_of_getElem? (i := 334) (by decide +kernel)⟩
theorem lw_p7 : lw_okq (⟨"RunWatcher$Reader", "failHere", "()V"⟩, 9) := ⟨⟨by decide +kernel, by decide +kernel⟩, List.mem_of_getElem? (i := 23) (by decide +kernel), List.mem_of_getElem? (i := 337) (by decide +kernel), List.mem_of_getElem? (i := 338) (by decide +kernel)⟩
theorem lw_p8 : lw_okq (⟨"RunWatcher$Reader", "failed", "()Z"⟩, 9) := ⟨⟨by decide +kernel, by decide +kernel⟩, List.mem_of_getElem? (i := 23) (by decide +kernel), List.mem_of_getElem? (i := 341) (by decide +kernel), List.mem_of_getElem? (i := 342) (by decide +kernel)⟩
theorem lw_p9 : lw_okq (⟨"RunWatcher$Reader", "beginsNode", "()Z"⟩, 9) := ⟨⟨by decide +kernel, by decide +kernel⟩, List.mem_of_getElem? (i := 23) (by decide +kernel), List.mem_of_getElem? (i := 354) (by decide +kernel), List.mem_of_getElem? (i := 355) (by decide +kernel)⟩
theorem lw_p10 : lw_okq (⟨"RunWatcher$Reader", "made", "(IIII)I"⟩, 9) := ⟨⟨by decide +kernel, by decide +kernel⟩, List.mem_of_getElem? (i := 23) (by decide +kernel), List.mem_of_getElem? (i := 358) (by decide +kernel), List.mem_of_getElem? (i := 359) (by decide +kernel)⟩
theorem lw_p11 : lw_okq (⟨"RunWatcher$Reader", "takes", "(I)Z"⟩, 9) := ⟨⟨by decide +kernel, by decide +kernel⟩, List.mem_of_getElem? (i := 23) (by decide +kernel), List.mem_of_getElem? (i := 369) (by decide +kernel), List.mem_of_getElem? (i := 370) (by decide +kernel)⟩
theorem lw_p12 : lw_okq (⟨"RunWatcher$Carry", "all", "()I"⟩, 6) := ⟨⟨by decide +kernel, by decide +kernel⟩, List.mem_of_getElem? (i := 93) (by decide +kernel), List.mem_of_getElem? (i := 418) (by decide +kernel), List.mem_of_getElem? (i := 419) (by decide +kernel)⟩
theorem lw_p13 : lw_okq (⟨"RunWatcher$Rule", "holds", "(IIII)Z"⟩, 9) := ⟨⟨by decide +kernel, by decide +kernel⟩, List.mem_of_getElem? (i := 29) (by decide +kernel), List.mem_of_getElem? (i := 429) (by decide +kernel), List.mem_of_getElem? (i := 430) (by decide +kernel)⟩
theorem lw_p14 : lw_okq (⟨"RunWatcher$Carry", "findPossible", "()V"⟩, 6) := ⟨⟨by decide +kernel, by decide +kernel⟩, List.mem_of_getElem? (i := 93) (by decide +kernel), List.mem_of_getElem? (i := 446) (by decide +kernel), List.mem_of_getElem? (i := 447) (by decide +kernel)⟩
theorem lw_p15 : lw_okq (⟨"RunWatcher$Carry", "addPossible", "(I)Z"⟩, 6) := ⟨⟨by decide +kernel, by decide +kernel⟩, List.mem_of_getElem? (i := 93) (by decide +kernel), List.mem_of_getElem? (i := 458) (by decide +kernel), List.mem_of_getElem? (i := 459) (by decide +kernel)⟩
def lw_privs_1 : List (MethodName × Nat) := [(⟨"RunWatcher$Reader", "readRule", "()I"⟩, 9), (⟨"RunWatcher$Reader", "readEither", "()I"⟩, 9), (⟨"RunWatcher$Reader", "readBoth", "()I"⟩, 9), (⟨"RunWatcher$Reader", "readPair", "()I"⟩, 9), (⟨"RunWatcher$Reader", "readOne", "()I"⟩, 9), (⟨"RunWatcher$Reader", "here", "()I"⟩, 9), (⟨"RunWatcher$Reader", "readBracket", "()I"⟩, 9), (⟨"RunWatcher$Reader", "failHere", "()V"⟩, 9), (⟨"RunWatcher$Reader", "failed", "()Z"⟩, 9), (⟨"RunWatcher$Reader", "beginsNode", "()Z"⟩, 9), (⟨"RunWatcher$Reader", "made", "(IIII)I"⟩, 9), (⟨"RunWatcher$Reader", "takes", "(I)Z"⟩, 9), (⟨"RunWatcher$Carry", "all", "()I"⟩, 6), (⟨"RunWatcher$Rule", "holds", "(IIII)Z"⟩, 9), (⟨"RunWatcher$Carry", "findPossible", "()V"⟩, 6), (⟨"RunWatcher$Carry", "addPossible", "(I)Z"⟩, 6)]
theorem lw_r1 : ∀ q ∈ lw_privs_1, lw_okq q := List.forall_mem_cons.mpr ⟨lw_p0, List.forall_mem_cons.mpr ⟨lw_p1, List.forall_mem_cons.mpr ⟨lw_p2, List.forall_mem_cons.mpr ⟨lw_p3, List.forall_mem_cons.mpr ⟨lw_p4, List.forall_mem_cons.mpr ⟨lw_p5, List.forall_mem_cons.mpr ⟨lw_p6, List.forall_mem_cons.mpr ⟨lw_p7, List.forall_mem_cons.mpr ⟨lw_p8, List.forall_mem_cons.mpr ⟨lw_p9, List.forall_mem_cons.mpr ⟨lw_p10, List.forall_mem_cons.mpr ⟨lw_p11, List.forall_mem_cons.mpr ⟨lw_p12, List.forall_mem_cons.mpr ⟨lw_p13, List.forall_mem_cons.mpr ⟨lw_p14, List.forall_mem_cons.mpr ⟨lw_p15, fun _ h => absurd h List.not_mem_nil⟩⟩⟩⟩⟩⟩⟩⟩⟩⟩⟩⟩⟩⟩⟩⟩
theorem lw_p16 : lw_okq (⟨"RunWatcher$Pairs", "begin", "(LRunWatcher$Carry;)V"⟩, 11) := ⟨⟨by decide +kernel, by decide +kernel⟩, List.mem_of_getElem? (i := 118) (by decide +kernel), List.mem_of_getElem? (i := 484) (by decide +kernel), List.mem_of_getElem? (i := 485) (by decide +kernel)⟩
theorem lw_p17 : lw_okq (⟨"RunWatcher$Pairs", "follow", "(LRunWatcher$Carry;II)V"⟩, 11) := ⟨⟨by decide +kernel, by decide +kernel⟩, List.mem_of_getElem? (i := 118) (by decide +kernel), List.mem_of_getElem? (i := 501) (by decide +kernel), List.mem_of_getElem? (i := 502) (by decide +kernel)⟩
theorem lw_p18 : lw_okq (⟨"RunWatcher$Pairs", "isIn", "(II)Z"⟩, 11) := ⟨⟨by decide +kernel, by decide +kernel⟩, List.mem_of_getElem? (i := 118) (by decide +kernel), List.mem_of_getElem? (i := 517) (by decide +kernel), List.mem_of_getElem? (i := 518) (by decide +kernel)⟩
theorem lw_p19 : lw_okq (⟨"RunWatcher$Pairs", "findWork", "()I"⟩, 11) := ⟨⟨by decide +kernel, by decide +kernel⟩, List.mem_of_getElem? (i := 118) (by decide +kernel), List.mem_of_getElem? (i := 525) (by decide +kernel), List.mem_of_getElem? (i := 526) (by decide +kernel)⟩
theorem lw_p20 : lw_okq (⟨"RunWatcher$Pairs", "isWork", "(I)Z"⟩, 11) := ⟨⟨by decide +kernel, by decide +kernel⟩, List.mem_of_getElem? (i := 118) (by decide +kernel), List.mem_of_getElem? (i := 529) (by decide +kernel), List.mem_of_getElem? (i := 530) (by decide +kernel)⟩
theorem lw_p21 : lw_okq (⟨"RunWatcher$Pairs", "addWork", "(LRunWatcher$Carry;)I"⟩, 11) := ⟨⟨by decide +kernel, by decide +kernel⟩, List.mem_of_getElem? (i := 118) (by decide +kernel), List.mem_of_getElem? (i := 533) (by decide +kernel), List.mem_of_getElem? (i := 534) (by decide +kernel)⟩
theorem lw_p22 : lw_okq (⟨"RunWatcher$Lessener", "split", "(LRunWatcher$Pairs;)Z"⟩, 7) := ⟨⟨by decide +kernel, by decide +kernel⟩, List.mem_of_getElem? (i := 159) (by decide +kernel), List.mem_of_getElem? (i := 551) (by decide +kernel), List.mem_of_getElem? (i := 552) (by decide +kernel)⟩
theorem lw_p23 : lw_okq (⟨"RunWatcher$Lessener", "markOf", "(LRunWatcher$Pairs;I)I"⟩, 7) := ⟨⟨by decide +kernel, by decide +kernel⟩, List.mem_of_getElem? (i := 159) (by decide +kernel), List.mem_of_getElem? (i := 555) (by decide +kernel), List.mem_of_getElem? (i := 556) (by decide +kernel)⟩
theorem lw_p24 : lw_okq (⟨"RunWatcher$Lessener", "groupOfMark", "(II)I"⟩, 7) := ⟨⟨by decide +kernel, by decide +kernel⟩, List.mem_of_getElem? (i := 159) (by decide +kernel), List.mem_of_getElem? (i := 564) (by decide +kernel), List.mem_of_getElem? (i := 565) (by decide +kernel)⟩
theorem lw_p25 : lw_okq (⟨"RunWatcher$Lessener", "meet", "(LRunWatcher$Watcher;LRunWatcher$Pairs;I)I"⟩, 7) := ⟨⟨by decide +kernel, by decide +kernel⟩, List.mem_of_getElem? (i := 159) (by decide +kernel), List.mem_of_getElem? (i := 576) (by decide +kernel), List.mem_of_getElem? (i := 577) (by decide +kernel)⟩
theorem lw_p26 : lw_okq (⟨"RunWatcher$Watcher", "markSure", "()V"⟩, 5) := ⟨⟨by decide +kernel, by decide +kernel⟩, List.mem_of_getElem? (i := 187) (by decide +kernel), List.mem_of_getElem? (i := 597) (by decide +kernel), List.mem_of_getElem? (i := 598) (by decide +kernel)⟩
theorem lw_p27 : lw_okq (⟨"RunWatcher$Watcher", "measure", "(I)V"⟩, 5) := ⟨⟨by decide +kernel, by decide +kernel⟩, List.mem_of_getElem? (i := 187) (by decide +kernel), List.mem_of_getElem? (i := 610) (by decide +kernel), List.mem_of_getElem? (i := 611) (by decide +kernel)⟩
theorem lw_p28 : lw_okq (⟨"RunWatcher$Watcher", "stepTo", "(III)I"⟩, 5) := ⟨⟨by decide +kernel, by decide +kernel⟩, List.mem_of_getElem? (i := 187) (by decide +kernel), List.mem_of_getElem? (i := 618) (by decide +kernel), List.mem_of_getElem? (i := 619) (by decide +kernel)⟩
theorem lw_p29 : lw_okq (⟨"RunWatcher$Watcher", "countWays", "()V"⟩, 5) := ⟨⟨by decide +kernel, by decide +kernel⟩, List.mem_of_getElem? (i := 187) (by decide +kernel), List.mem_of_getElem? (i := 622) (by decide +kernel), List.mem_of_getElem? (i := 623) (by decide +kernel)⟩
theorem lw_p30 : lw_okq (⟨"RunWatcher", "refusalOfState", "(I)I"⟩, 11) := ⟨⟨by decide +kernel, by decide +kernel⟩, List.mem_of_getElem? (i := 15) (by decide +kernel), List.mem_of_getElem? (i := 675) (by decide +kernel), List.mem_of_getElem? (i := 676) (by decide +kernel)⟩
theorem lw_p31 : lw_okq (⟨"RunWatcher$Watcher", "firstKeptEvent", "(II)I"⟩, 5) := ⟨⟨by decide +kernel, by decide +kernel⟩, List.mem_of_getElem? (i := 187) (by decide +kernel), List.mem_of_getElem? (i := 713) (by decide +kernel), List.mem_of_getElem? (i := 714) (by decide +kernel)⟩
def lw_privs_2 : List (MethodName × Nat) := [(⟨"RunWatcher$Pairs", "begin", "(LRunWatcher$Carry;)V"⟩, 11), (⟨"RunWatcher$Pairs", "follow", "(LRunWatcher$Carry;II)V"⟩, 11), (⟨"RunWatcher$Pairs", "isIn", "(II)Z"⟩, 11), (⟨"RunWatcher$Pairs", "findWork", "()I"⟩, 11), (⟨"RunWatcher$Pairs", "isWork", "(I)Z"⟩, 11), (⟨"RunWatcher$Pairs", "addWork", "(LRunWatcher$Carry;)I"⟩, 11), (⟨"RunWatcher$Lessener", "split", "(LRunWatcher$Pairs;)Z"⟩, 7), (⟨"RunWatcher$Lessener", "markOf", "(LRunWatcher$Pairs;I)I"⟩, 7), (⟨"RunWatcher$Lessener", "groupOfMark", "(II)I"⟩, 7), (⟨"RunWatcher$Lessener", "meet", "(LRunWatcher$Watcher;LRunWatcher$Pairs;I)I"⟩, 7), (⟨"RunWatcher$Watcher", "markSure", "()V"⟩, 5), (⟨"RunWatcher$Watcher", "measure", "(I)V"⟩, 5), (⟨"RunWatcher$Watcher", "stepTo", "(III)I"⟩, 5), (⟨"RunWatcher$Watcher", "countWays", "()V"⟩, 5), (⟨"RunWatcher", "refusalOfState", "(I)I"⟩, 11), (⟨"RunWatcher$Watcher", "firstKeptEvent", "(II)I"⟩, 5)]
theorem lw_r2 : ∀ q ∈ lw_privs_2, lw_okq q := List.forall_mem_cons.mpr ⟨lw_p16, List.forall_mem_cons.mpr ⟨lw_p17, List.forall_mem_cons.mpr ⟨lw_p18, List.forall_mem_cons.mpr ⟨lw_p19, List.forall_mem_cons.mpr ⟨lw_p20, List.forall_mem_cons.mpr ⟨lw_p21, List.forall_mem_cons.mpr ⟨lw_p22, List.forall_mem_cons.mpr ⟨lw_p23, List.forall_mem_cons.mpr ⟨lw_p24, List.forall_mem_cons.mpr ⟨lw_p25, List.forall_mem_cons.mpr ⟨lw_p26, List.forall_mem_cons.mpr ⟨lw_p27, List.forall_mem_cons.mpr ⟨lw_p28, List.forall_mem_cons.mpr ⟨lw_p29, List.forall_mem_cons.mpr ⟨lw_p30, List.forall_mem_cons.mpr ⟨lw_p31, fun _ h => absurd h List.not_mem_nil⟩⟩⟩⟩⟩⟩⟩⟩⟩⟩⟩⟩⟩⟩⟩⟩
theorem lw_p32 : lw_okq (⟨"RunWatcher", "refusalOfKey", "(I)I"⟩, 11) := ⟨⟨by decide +kernel, by decide +kernel⟩, List.mem_of_getElem? (i := 15) (by decide +kernel), List.mem_of_getElem? (i := 750) (by decide +kernel), List.mem_of_getElem? (i := 751) (by decide +kernel)⟩
theorem lw_p33 : lw_okq (⟨"RunWatcher$Meeting", "walk", "(LRunWatcher$Watcher;LRunWatcher$Watcher;II)V"⟩, 7) := ⟨⟨by decide +kernel, by decide +kernel⟩, List.mem_of_getElem? (i := 209) (by decide +kernel), List.mem_of_getElem? (i := 819) (by decide +kernel), List.mem_of_getElem? (i := 820) (by decide +kernel)⟩
theorem lw_p34 : lw_okq (⟨"RunWatcher$Meeting", "look", "(ZZI)V"⟩, 7) := ⟨⟨by decide +kernel, by decide +kernel⟩, List.mem_of_getElem? (i := 209) (by decide +kernel), List.mem_of_getElem? (i := 826) (by decide +kernel), List.mem_of_getElem? (i := 827) (by decide +kernel)⟩
theorem lw_p35 : lw_okq (⟨"RunWatcherModel", "parse", "()Z"⟩, 59) := ⟨⟨by decide +kernel, by decide +kernel⟩, List.mem_of_getElem? (i := 858) (by decide +kernel), List.mem_of_getElem? (i := 1061) (by decide +kernel), List.mem_of_getElem? (i := 1062) (by decide +kernel)⟩
theorem lw_p36 : lw_okq (⟨"RunWatcherModel", "fail", "(I)Z"⟩, 59) := ⟨⟨by decide +kernel, by decide +kernel⟩, List.mem_of_getElem? (i := 858) (by decide +kernel), List.mem_of_getElem? (i := 1071) (by decide +kernel), List.mem_of_getElem? (i := 1072) (by decide +kernel)⟩
theorem lw_p37 : lw_okq (⟨"RunWatcherModel", "node", "(IIII)V"⟩, 59) := ⟨⟨by decide +kernel, by decide +kernel⟩, List.mem_of_getElem? (i := 858) (by decide +kernel), List.mem_of_getElem? (i := 1075) (by decide +kernel), List.mem_of_getElem? (i := 1076) (by decide +kernel)⟩
theorem lw_p38 : lw_okq (⟨"RunWatcherModel", "reduceTo", "(I)V"⟩, 59) := ⟨⟨by decide +kernel, by decide +kernel⟩, List.mem_of_getElem? (i := 858) (by decide +kernel), List.mem_of_getElem? (i := 1079) (by decide +kernel), List.mem_of_getElem? (i := 1080) (by decide +kernel)⟩
theorem lw_p39 : lw_okq (⟨"RunWatcherModel", "reduce", "()V"⟩, 59) := ⟨⟨by decide +kernel, by decide +kernel⟩, List.mem_of_getElem? (i := 858) (by decide +kernel), List.mem_of_getElem? (i := 1083) (by decide +kernel), List.mem_of_getElem? (i := 1084) (by decide +kernel)⟩
theorem lw_p40 : lw_okq (⟨"RunWatcherModel", "push", "(II)V"⟩, 59) := ⟨⟨by decide +kernel, by decide +kernel⟩, List.mem_of_getElem? (i := 858) (by decide +kernel), List.mem_of_getElem? (i := 1087) (by decide +kernel), List.mem_of_getElem? (i := 1088) (by decide +kernel)⟩
theorem lw_p41 : lw_okq (⟨"RunWatcherModel", "isPure", "()Z"⟩, 59) := ⟨⟨by decide +kernel, by decide +kernel⟩, List.mem_of_getElem? (i := 858) (by decide +kernel), List.mem_of_getElem? (i := 1091) (by decide +kernel), List.mem_of_getElem? (i := 1092) (by decide +kernel)⟩
theorem lw_p42 : lw_okq (⟨"RunWatcherModel", "prepare", "()V"⟩, 59) := ⟨⟨by decide +kernel, by decide +kernel⟩, List.mem_of_getElem? (i := 858) (by decide +kernel), List.mem_of_getElem? (i := 1095) (by decide +kernel), List.mem_of_getElem? (i := 1096) (by decide +kernel)⟩
theorem lw_p43 : lw_okq (⟨"RunWatcherModel", "layBits", "()V"⟩, 59) := ⟨⟨by decide +kernel, by decide +kernel⟩, List.mem_of_getElem? (i := 858) (by decide +kernel), List.mem_of_getElem? (i := 1099) (by decide +kernel), List.mem_of_getElem? (i := 1100) (by decide +kernel)⟩
theorem lw_p44 : lw_okq (⟨"RunWatcherModel", "wide", "()I"⟩, 59) := ⟨⟨by decide +kernel, by decide +kernel⟩, List.mem_of_getElem? (i := 858) (by decide +kernel), List.mem_of_getElem? (i := 1103) (by decide +kernel), List.mem_of_getElem? (i := 1104) (by decide +kernel)⟩
theorem lw_p45 : lw_okq (⟨"RunWatcherModel", "look", "(III)V"⟩, 59) := ⟨⟨by decide +kernel, by decide +kernel⟩, List.mem_of_getElem? (i := 858) (by decide +kernel), List.mem_of_getElem? (i := 1107) (by decide +kernel), List.mem_of_getElem? (i := 1108) (by decide +kernel)⟩
theorem lw_p46 : lw_okq (⟨"RunWatcherModel", "spot", "(III)I"⟩, 59) := ⟨⟨by decide +kernel, by decide +kernel⟩, List.mem_of_getElem? (i := 858) (by decide +kernel), List.mem_of_getElem? (i := 1111) (by decide +kernel), List.mem_of_getElem? (i := 1112) (by decide +kernel)⟩
theorem lw_p47 : lw_okq (⟨"RunWatcherModel", "meet", "()Z"⟩, 59) := ⟨⟨by decide +kernel, by decide +kernel⟩, List.mem_of_getElem? (i := 858) (by decide +kernel), List.mem_of_getElem? (i := 1115) (by decide +kernel), List.mem_of_getElem? (i := 1116) (by decide +kernel)⟩
def lw_privs_3 : List (MethodName × Nat) := [(⟨"RunWatcher", "refusalOfKey", "(I)I"⟩, 11), (⟨"RunWatcher$Meeting", "walk", "(LRunWatcher$Watcher;LRunWatcher$Watcher;II)V"⟩, 7), (⟨"RunWatcher$Meeting", "look", "(ZZI)V"⟩, 7), (⟨"RunWatcherModel", "parse", "()Z"⟩, 59), (⟨"RunWatcherModel", "fail", "(I)Z"⟩, 59), (⟨"RunWatcherModel", "node", "(IIII)V"⟩, 59), (⟨"RunWatcherModel", "reduceTo", "(I)V"⟩, 59), (⟨"RunWatcherModel", "reduce", "()V"⟩, 59), (⟨"RunWatcherModel", "push", "(II)V"⟩, 59), (⟨"RunWatcherModel", "isPure", "()Z"⟩, 59), (⟨"RunWatcherModel", "prepare", "()V"⟩, 59), (⟨"RunWatcherModel", "layBits", "()V"⟩, 59), (⟨"RunWatcherModel", "wide", "()I"⟩, 59), (⟨"RunWatcherModel", "look", "(III)V"⟩, 59), (⟨"RunWatcherModel", "spot", "(III)I"⟩, 59), (⟨"RunWatcherModel", "meet", "()Z"⟩, 59)]
theorem lw_r3 : ∀ q ∈ lw_privs_3, lw_okq q := List.forall_mem_cons.mpr ⟨lw_p32, List.forall_mem_cons.mpr ⟨lw_p33, List.forall_mem_cons.mpr ⟨lw_p34, List.forall_mem_cons.mpr ⟨lw_p35, List.forall_mem_cons.mpr ⟨lw_p36, List.forall_mem_cons.mpr ⟨lw_p37, List.forall_mem_cons.mpr ⟨lw_p38, List.forall_mem_cons.mpr ⟨lw_p39, List.forall_mem_cons.mpr ⟨lw_p40, List.forall_mem_cons.mpr ⟨lw_p41, List.forall_mem_cons.mpr ⟨lw_p42, List.forall_mem_cons.mpr ⟨lw_p43, List.forall_mem_cons.mpr ⟨lw_p44, List.forall_mem_cons.mpr ⟨lw_p45, List.forall_mem_cons.mpr ⟨lw_p46, List.forall_mem_cons.mpr ⟨lw_p47, fun _ h => absurd h List.not_mem_nil⟩⟩⟩⟩⟩⟩⟩⟩⟩⟩⟩⟩⟩⟩⟩⟩
theorem lw_p48 : lw_okq (⟨"RunWatcherModel", "state", "(I)I"⟩, 59) := ⟨⟨by decide +kernel, by decide +kernel⟩, List.mem_of_getElem? (i := 858) (by decide +kernel), List.mem_of_getElem? (i := 1119) (by decide +kernel), List.mem_of_getElem? (i := 1120) (by decide +kernel)⟩
theorem lw_p49 : lw_okq (⟨"RunWatcherModel", "least", "()Z"⟩, 59) := ⟨⟨by decide +kernel, by decide +kernel⟩, List.mem_of_getElem? (i := 858) (by decide +kernel), List.mem_of_getElem? (i := 1123) (by decide +kernel), List.mem_of_getElem? (i := 1124) (by decide +kernel)⟩
theorem lw_p50 : lw_okq (⟨"RunWatcherModel", "isKept", "(I)Z"⟩, 59) := ⟨⟨by decide +kernel, by decide +kernel⟩, List.mem_of_getElem? (i := 858) (by decide +kernel), List.mem_of_getElem? (i := 1127) (by decide +kernel), List.mem_of_getElem? (i := 1128) (by decide +kernel)⟩
theorem lw_p51 : lw_okq (⟨"RunWatcherModel", "part", "()Z"⟩, 59) := ⟨⟨by decide +kernel, by decide +kernel⟩, List.mem_of_getElem? (i := 858) (by decide +kernel), List.mem_of_getElem? (i := 1131) (by decide +kernel), List.mem_of_getElem? (i := 1132) (by decide +kernel)⟩
theorem lw_p52 : lw_okq (⟨"RunWatcherModel", "isLike", "(II)Z"⟩, 59) := ⟨⟨by decide +kernel, by decide +kernel⟩, List.mem_of_getElem? (i := 858) (by decide +kernel), List.mem_of_getElem? (i := 1135) (by decide +kernel), List.mem_of_getElem? (i := 1136) (by decide +kernel)⟩
theorem lw_p53 : lw_okq (⟨"RunWatcherModel", "number", "()V"⟩, 59) := ⟨⟨by decide +kernel, by decide +kernel⟩, List.mem_of_getElem? (i := 858) (by decide +kernel), List.mem_of_getElem? (i := 1139) (by decide +kernel), List.mem_of_getElem? (i := 1140) (by decide +kernel)⟩
theorem lw_p54 : lw_okq (⟨"RunWatcherModel", "spread", "(I)V"⟩, 59) := ⟨⟨by decide +kernel, by decide +kernel⟩, List.mem_of_getElem? (i := 858) (by decide +kernel), List.mem_of_getElem? (i := 1143) (by decide +kernel), List.mem_of_getElem? (i := 1144) (by decide +kernel)⟩
theorem lw_p55 : lw_okq (⟨"RunWatcherModel", "begin", "(I)V"⟩, 59) := ⟨⟨by decide +kernel, by decide +kernel⟩, List.mem_of_getElem? (i := 858) (by decide +kernel), List.mem_of_getElem? (i := 1147) (by decide +kernel), List.mem_of_getElem? (i := 1148) (by decide +kernel)⟩
theorem lw_p56 : lw_okq (⟨"RunWatcherModel", "isState", "(I)Z"⟩, 59) := ⟨⟨by decide +kernel, by decide +kernel⟩, List.mem_of_getElem? (i := 858) (by decide +kernel), List.mem_of_getElem? (i := 1155) (by decide +kernel), List.mem_of_getElem? (i := 1156) (by decide +kernel)⟩
theorem lw_p57 : lw_okq (⟨"RunWatcherModel", "farTo", "(II)I"⟩, 59) := ⟨⟨by decide +kernel, by decide +kernel⟩, List.mem_of_getElem? (i := 858) (by decide +kernel), List.mem_of_getElem? (i := 1171) (by decide +kernel), List.mem_of_getElem? (i := 1172) (by decide +kernel)⟩
theorem lw_p58 : lw_okq (⟨"RunWatcherModel", "countTo", "(I)V"⟩, 59) := ⟨⟨by decide +kernel, by decide +kernel⟩, List.mem_of_getElem? (i := 858) (by decide +kernel), List.mem_of_getElem? (i := 1188) (by decide +kernel), List.mem_of_getElem? (i := 1189) (by decide +kernel)⟩
theorem lw_p59 : lw_okq (⟨"RunWatcherModel", "isGone", "(I)Z"⟩, 59) := ⟨⟨by decide +kernel, by decide +kernel⟩, List.mem_of_getElem? (i := 858) (by decide +kernel), List.mem_of_getElem? (i := 1205) (by decide +kernel), List.mem_of_getElem? (i := 1206) (by decide +kernel)⟩
theorem lw_p60 : lw_okq (⟨"RunWatcherModel", "verdictOf", "(I)I"⟩, 59) := ⟨⟨by decide +kernel, by decide +kernel⟩, List.mem_of_getElem? (i := 858) (by decide +kernel), List.mem_of_getElem? (i := 1209) (by decide +kernel), List.mem_of_getElem? (i := 1210) (by decide +kernel)⟩
theorem lw_p61 : lw_okq (⟨"RunWatcherModel", "step", "(IIIZ)V"⟩, 59) := ⟨⟨by decide +kernel, by decide +kernel⟩, List.mem_of_getElem? (i := 858) (by decide +kernel), List.mem_of_getElem? (i := 1213) (by decide +kernel), List.mem_of_getElem? (i := 1214) (by decide +kernel)⟩
theorem lw_p62 : lw_okq (⟨"RunWatcherModel", "pairUp", "()V"⟩, 59) := ⟨⟨by decide +kernel, by decide +kernel⟩, List.mem_of_getElem? (i := 858) (by decide +kernel), List.mem_of_getElem? (i := 1250) (by decide +kernel), List.mem_of_getElem? (i := 1251) (by decide +kernel)⟩
theorem lw_p63 : lw_okq (⟨"RunWatcherModel", "meetPair", "(II)V"⟩, 59) := ⟨⟨by decide +kernel, by decide +kernel⟩, List.mem_of_getElem? (i := 858) (by decide +kernel), List.mem_of_getElem? (i := 1254) (by decide +kernel), List.mem_of_getElem? (i := 1255) (by decide +kernel)⟩
def lw_privs_4 : List (MethodName × Nat) := [(⟨"RunWatcherModel", "state", "(I)I"⟩, 59), (⟨"RunWatcherModel", "least", "()Z"⟩, 59), (⟨"RunWatcherModel", "isKept", "(I)Z"⟩, 59), (⟨"RunWatcherModel", "part", "()Z"⟩, 59), (⟨"RunWatcherModel", "isLike", "(II)Z"⟩, 59), (⟨"RunWatcherModel", "number", "()V"⟩, 59), (⟨"RunWatcherModel", "spread", "(I)V"⟩, 59), (⟨"RunWatcherModel", "begin", "(I)V"⟩, 59), (⟨"RunWatcherModel", "isState", "(I)Z"⟩, 59), (⟨"RunWatcherModel", "farTo", "(II)I"⟩, 59), (⟨"RunWatcherModel", "countTo", "(I)V"⟩, 59), (⟨"RunWatcherModel", "isGone", "(I)Z"⟩, 59), (⟨"RunWatcherModel", "verdictOf", "(I)I"⟩, 59), (⟨"RunWatcherModel", "step", "(IIIZ)V"⟩, 59), (⟨"RunWatcherModel", "pairUp", "()V"⟩, 59), (⟨"RunWatcherModel", "meetPair", "(II)V"⟩, 59)]
theorem lw_r4 : ∀ q ∈ lw_privs_4, lw_okq q := List.forall_mem_cons.mpr ⟨lw_p48, List.forall_mem_cons.mpr ⟨lw_p49, List.forall_mem_cons.mpr ⟨lw_p50, List.forall_mem_cons.mpr ⟨lw_p51, List.forall_mem_cons.mpr ⟨lw_p52, List.forall_mem_cons.mpr ⟨lw_p53, List.forall_mem_cons.mpr ⟨lw_p54, List.forall_mem_cons.mpr ⟨lw_p55, List.forall_mem_cons.mpr ⟨lw_p56, List.forall_mem_cons.mpr ⟨lw_p57, List.forall_mem_cons.mpr ⟨lw_p58, List.forall_mem_cons.mpr ⟨lw_p59, List.forall_mem_cons.mpr ⟨lw_p60, List.forall_mem_cons.mpr ⟨lw_p61, List.forall_mem_cons.mpr ⟨lw_p62, List.forall_mem_cons.mpr ⟨lw_p63, fun _ h => absurd h List.not_mem_nil⟩⟩⟩⟩⟩⟩⟩⟩⟩⟩⟩⟩⟩⟩⟩⟩
def lw_privs : List (MethodName × Nat) := lw_privs_1 ++ (lw_privs_2 ++ (lw_privs_3 ++ (lw_privs_4)))
def lw_tbl : List Cond := k2_sels lw_privs ++ tables_1
theorem lw_privs_ok : ∀ q ∈ lw_privs, lw_okq q := by
  show ∀ q ∈ lw_privs_1 ++ (lw_privs_2 ++ (lw_privs_3 ++ (lw_privs_4))), lw_okq q
  exact List.forall_mem_append.mpr ⟨lw_r1, List.forall_mem_append.mpr ⟨lw_r2, List.forall_mem_append.mpr ⟨lw_r3, lw_r4⟩⟩⟩
-- ===== end of PART A; then your names; then what follows =====
def RX0 : String := "RunWatcher$Carry"
def TX0 : u_T := fun k => match k with
  | 0 => ("RunWatcher$Carry", "turned", "[I", true)
  | 1 => ("RunWatcher$Carry", "kept", "[Z", true)
  | 2 => ("RunWatcher$Carry", "possible", "[Z", true)
  | 3 => ("RunWatcher$Carry", "futureBits", "I", false)
  | 4 => ("RunWatcher$Carry", "pastBits", "I", false)
  | _ => ("RunWatcher$Carry", "noPlace", "I", false)
def tyX0 : Nat → FieldType := fun k => match k with
  | 0 => .array .int
  | 1 => .array .boolean
  | 2 => .array .boolean
  | 3 => .int
  | 4 => .int
  | _ => .int
abbrev wsX00 : List Cond := u_ws RX0 TX0 6
theorem nmX0 : ∀ a, a < 6 → ∀ b, b < 6 → a ≠ b → (TX0 a).2.1 ≠ (TX0 b).2.1 := by decide +kernel
theorem tyX0_ok : ∀ k, k < 6 → parseFieldDescriptor (TX0 k).2.2.1 = some (tyX0 k) := by decide +kernel
abbrev cX0_init : ByteArray := prog_2_method_1_code
def yX0_init : MethodName := ⟨RX0, "<init>", "()V"⟩
abbrev cX0_make : ByteArray := prog_2_method_2_code
def yX0_make : MethodName := ⟨RX0, "make", "(LRunWatcher$Rule;)V"⟩
abbrev cX0_all : ByteArray := prog_2_method_3_code
def yX0_all : MethodName := ⟨RX0, "all", "()I"⟩
abbrev cX0_futures : ByteArray := prog_2_method_4_code
def yX0_futures : MethodName := ⟨RX0, "futures", "()I"⟩
abbrev cX0_pasts : ByteArray := prog_2_method_5_code
def yX0_pasts : MethodName := ⟨RX0, "pasts", "()I"⟩
abbrev cX0_futureOf : ByteArray := prog_2_method_6_code
def yX0_futureOf : MethodName := ⟨RX0, "futureOf", "(I)I"⟩
abbrev cX0_pastOf : ByteArray := prog_2_method_7_code
def yX0_pastOf : MethodName := ⟨RX0, "pastOf", "(I)I"⟩
abbrev cX0_both : ByteArray := prog_2_method_8_code
def yX0_both : MethodName := ⟨RX0, "both", "(II)I"⟩
abbrev cX0_noPlace : ByteArray := prog_2_method_9_code
def yX0_noPlace : MethodName := ⟨RX0, "noPlace", "()I"⟩
abbrev cX0_turn : ByteArray := prog_2_method_10_code
def yX0_turn : MethodName := ⟨RX0, "turn", "(II)I"⟩
abbrev cX0_keeps : ByteArray := prog_2_method_11_code
def yX0_keeps : MethodName := ⟨RX0, "keeps", "(II)Z"⟩
abbrev cX0_isPossible : ByteArray := prog_2_method_12_code
def yX0_isPossible : MethodName := ⟨RX0, "isPossible", "(I)Z"⟩
abbrev cX0_findPossible : ByteArray := prog_2_method_13_code
def yX0_findPossible : MethodName := ⟨RX0, "findPossible", "()V"⟩
abbrev cX0_addPossible : ByteArray := prog_2_method_14_code
def yX0_addPossible : MethodName := ⟨RX0, "addPossible", "(I)Z"⟩
def RX1 : String := "RunWatcher$Keys"
def TX1 : u_T := fun k => match k with
  | 0 => ("RunWatcher$Keys", "places", "[J", true)
  | _ => ("RunWatcher$Keys", "came", "[I", true)
def tyX1 : Nat → FieldType := fun k => match k with
  | 0 => .array .long
  | _ => .array .int
abbrev wsX10 : List Cond := u_ws RX1 TX1 2
theorem nmX1 : ∀ a, a < 2 → ∀ b, b < 2 → a ≠ b → (TX1 a).2.1 ≠ (TX1 b).2.1 := by decide +kernel
theorem tyX1_ok : ∀ k, k < 2 → parseFieldDescriptor (TX1 k).2.2.1 = some (tyX1 k) := by decide +kernel
abbrev cX1_init : ByteArray := prog_3_method_1_code
def yX1_init : MethodName := ⟨RX1, "<init>", "()V"⟩
abbrev cX1_restart : ByteArray := prog_3_method_2_code
def yX1_restart : MethodName := ⟨RX1, "restart", "()V"⟩
abbrev cX1_restart_ : ByteArray := prog_3_method_3_code
def yX1_restart_ : MethodName := ⟨RX1, "restart", "(I)V"⟩
abbrev cX1_step : ByteArray := prog_3_method_4_code
def yX1_step : MethodName := ⟨RX1, "step", "(LRunWatcher$Watcher;II)I"⟩
abbrev cX1_lose : ByteArray := prog_3_method_5_code
def yX1_lose : MethodName := ⟨RX1, "lose", "(LRunWatcher$Watcher;II)I"⟩
abbrev cX1_stepped : ByteArray := prog_3_method_6_code
def yX1_stepped : MethodName := ⟨RX1, "stepped", "(LRunWatcher$Watcher;JI)J"⟩
abbrev cX1_verdictOf : ByteArray := prog_3_method_7_code
def yX1_verdictOf : MethodName := ⟨RX1, "verdictOf", "(LRunWatcher$Watcher;I)I"⟩
abbrev cX1_isLetGo : ByteArray := prog_3_method_8_code
def yX1_isLetGo : MethodName := ⟨RX1, "isLetGo", "(LRunWatcher$Watcher;I)Z"⟩
abbrev cX1_letGo : ByteArray := prog_3_method_9_code
def yX1_letGo : MethodName := ⟨RX1, "letGo", "(LRunWatcher$Watcher;)I"⟩
abbrev cX1_statesOf : ByteArray := prog_3_method_10_code
def yX1_statesOf : MethodName := ⟨RX1, "statesOf", "(I)I"⟩
abbrev cX1_stateAt : ByteArray := prog_3_method_11_code
def yX1_stateAt : MethodName := ⟨RX1, "stateAt", "(II)I"⟩
abbrev cX1_eventsOf : ByteArray := prog_3_method_12_code
def yX1_eventsOf : MethodName := ⟨RX1, "eventsOf", "(I)I"⟩
def RX2 : String := "RunWatcher$Lessener"
def TX2 : u_T := fun k => match k with
  | 0 => ("RunWatcher$Lessener", "groups", "[I", false)
  | 1 => ("RunWatcher$Lessener", "finer", "[I", false)
  | 2 => ("RunWatcher$Lessener", "marks", "[I", true)
  | 3 => ("RunWatcher$Lessener", "members", "[I", true)
  | 4 => ("RunWatcher$Lessener", "stateOfGroup", "[I", true)
  | 5 => ("RunWatcher$Lessener", "groupOfState", "[I", true)
  | _ => ("RunWatcher$Lessener", "many", "I", false)
def tyX2 : Nat → FieldType := fun k => match k with
  | 0 => .array .int
  | 1 => .array .int
  | 2 => .array .int
  | 3 => .array .int
  | 4 => .array .int
  | 5 => .array .int
  | _ => .int
abbrev wsX20 : List Cond := u_ws RX2 TX2 7
theorem nmX2 : ∀ a, a < 7 → ∀ b, b < 7 → a ≠ b → (TX2 a).2.1 ≠ (TX2 b).2.1 := by decide +kernel
theorem tyX2_ok : ∀ k, k < 7 → parseFieldDescriptor (TX2 k).2.2.1 = some (tyX2 k) := by decide +kernel
abbrev cX2_init : ByteArray := prog_4_method_1_code
def yX2_init : MethodName := ⟨RX2, "<init>", "()V"⟩
abbrev cX2_lessen : ByteArray := prog_4_method_2_code
def yX2_lessen : MethodName := ⟨RX2, "lessen", "(LRunWatcher$Pairs;)Z"⟩
abbrev cX2_split : ByteArray := prog_4_method_3_code
def yX2_split : MethodName := ⟨RX2, "split", "(LRunWatcher$Pairs;)Z"⟩
abbrev cX2_markOf : ByteArray := prog_4_method_4_code
def yX2_markOf : MethodName := ⟨RX2, "markOf", "(LRunWatcher$Pairs;I)I"⟩
abbrev cX2_groupOfMark : ByteArray := prog_4_method_5_code
def yX2_groupOfMark : MethodName := ⟨RX2, "groupOfMark", "(II)I"⟩
abbrev cX2_putInto : ByteArray := prog_4_method_6_code
def yX2_putInto : MethodName := ⟨RX2, "putInto", "(LRunWatcher$Watcher;LRunWatcher$Pairs;)V"⟩
abbrev cX2_meet : ByteArray := prog_4_method_7_code
def yX2_meet : MethodName := ⟨RX2, "meet", "(LRunWatcher$Watcher;LRunWatcher$Pairs;I)I"⟩
def RX3 : String := "RunWatcher$Meeting"
def TX3 : u_T := fun k => match k with
  | 0 => ("RunWatcher$Meeting", "depths", "[I", true)
  | 1 => ("RunWatcher$Meeting", "queue", "[I", true)
  | 2 => ("RunWatcher$Meeting", "queued", "I", false)
  | 3 => ("RunWatcher$Meeting", "both", "Z", false)
  | 4 => ("RunWatcher$Meeting", "thisAlone", "Z", false)
  | 5 => ("RunWatcher$Meeting", "thatAlone", "Z", false)
  | _ => ("RunWatcher$Meeting", "shortest", "I", false)
def tyX3 : Nat → FieldType := fun k => match k with
  | 0 => .array .int
  | 1 => .array .int
  | 2 => .int
  | 3 => .boolean
  | 4 => .boolean
  | 5 => .boolean
  | _ => .int
abbrev wsX30 : List Cond := u_ws RX3 TX3 7
theorem nmX3 : ∀ a, a < 7 → ∀ b, b < 7 → a ≠ b → (TX3 a).2.1 ≠ (TX3 b).2.1 := by decide +kernel
theorem tyX3_ok : ∀ k, k < 7 → parseFieldDescriptor (TX3 k).2.2.1 = some (tyX3 k) := by decide +kernel
abbrev cX3_init : ByteArray := prog_5_method_1_code
def yX3_init : MethodName := ⟨RX3, "<init>", "()V"⟩
abbrev cX3_meet : ByteArray := prog_5_method_2_code
def yX3_meet : MethodName := ⟨RX3, "meet", "(LRunWatcher$Watcher;LRunWatcher$Watcher;)V"⟩
abbrev cX3_walk : ByteArray := prog_5_method_3_code
def yX3_walk : MethodName := ⟨RX3, "walk", "(LRunWatcher$Watcher;LRunWatcher$Watcher;II)V"⟩
abbrev cX3_look : ByteArray := prog_5_method_4_code
def yX3_look : MethodName := ⟨RX3, "look", "(ZZI)V"⟩
abbrev cX3_shortestApart : ByteArray := prog_5_method_5_code
def yX3_shortestApart : MethodName := ⟨RX3, "shortestApart", "()I"⟩
abbrev cX3_relation : ByteArray := prog_5_method_6_code
def yX3_relation : MethodName := ⟨RX3, "relation", "()I"⟩
def RX4 : String := "RunWatcher$Pairs"
def TX4 : u_T := fun k => match k with
  | 0 => ("RunWatcher$Pairs", "pasts", "[I", true)
  | 1 => ("RunWatcher$Pairs", "sets", "[J", true)
  | 2 => ("RunWatcher$Pairs", "leads", "[I", true)
  | 3 => ("RunWatcher$Pairs", "kept", "[Z", true)
  | 4 => ("RunWatcher$Pairs", "latestOfPast", "[I", true)
  | 5 => ("RunWatcher$Pairs", "earlierOfPast", "[I", true)
  | 6 => ("RunWatcher$Pairs", "work", "[J", true)
  | 7 => ("RunWatcher$Pairs", "workPast", "I", false)
  | 8 => ("RunWatcher$Pairs", "words", "I", false)
  | 9 => ("RunWatcher$Pairs", "most", "I", false)
  | _ => ("RunWatcher$Pairs", "size", "I", false)
def tyX4 : Nat → FieldType := fun k => match k with
  | 0 => .array .int
  | 1 => .array .long
  | 2 => .array .int
  | 3 => .array .boolean
  | 4 => .array .int
  | 5 => .array .int
  | 6 => .array .long
  | 7 => .int
  | 8 => .int
  | 9 => .int
  | _ => .int
abbrev wsX40 : List Cond := u_ws RX4 TX4 11
theorem nmX4 : ∀ a, a < 11 → ∀ b, b < 11 → a ≠ b → (TX4 a).2.1 ≠ (TX4 b).2.1 := by decide +kernel
theorem tyX4_ok : ∀ k, k < 11 → parseFieldDescriptor (TX4 k).2.2.1 = some (tyX4 k) := by decide +kernel
abbrev cX4_init : ByteArray := prog_6_method_1_code
def yX4_init : MethodName := ⟨RX4, "<init>", "()V"⟩
abbrev cX4_make : ByteArray := prog_6_method_2_code
def yX4_make : MethodName := ⟨RX4, "make", "(LRunWatcher$Carry;)Z"⟩
abbrev cX4_size : ByteArray := prog_6_method_3_code
def yX4_size : MethodName := ⟨RX4, "size", "()I"⟩
abbrev cX4_next : ByteArray := prog_6_method_4_code
def yX4_next : MethodName := ⟨RX4, "next", "(II)I"⟩
abbrev cX4_isKept : ByteArray := prog_6_method_5_code
def yX4_isKept : MethodName := ⟨RX4, "isKept", "(I)Z"⟩
abbrev cX4_begin : ByteArray := prog_6_method_6_code
def yX4_begin : MethodName := ⟨RX4, "begin", "(LRunWatcher$Carry;)V"⟩
abbrev cX4_follow : ByteArray := prog_6_method_7_code
def yX4_follow : MethodName := ⟨RX4, "follow", "(LRunWatcher$Carry;II)V"⟩
abbrev cX4_isIn : ByteArray := prog_6_method_8_code
def yX4_isIn : MethodName := ⟨RX4, "isIn", "(II)Z"⟩
abbrev cX4_findWork : ByteArray := prog_6_method_9_code
def yX4_findWork : MethodName := ⟨RX4, "findWork", "()I"⟩
abbrev cX4_isWork : ByteArray := prog_6_method_10_code
def yX4_isWork : MethodName := ⟨RX4, "isWork", "(I)Z"⟩
abbrev cX4_addWork : ByteArray := prog_6_method_11_code
def yX4_addWork : MethodName := ⟨RX4, "addWork", "(LRunWatcher$Carry;)I"⟩
def RX5 : String := "RunWatcher$Reader"
def TX5 : u_T := fun k => match k with
  | 0 => ("RunWatcher$Reader", "rule", "LRunWatcher$Rule;", true)
  | 1 => ("RunWatcher$Reader", "tape", "[I", false)
  | 2 => ("RunWatcher$Reader", "length", "I", false)
  | 3 => ("RunWatcher$Reader", "at", "I", false)
  | 4 => ("RunWatcher$Reader", "begun", "I", false)
  | 5 => ("RunWatcher$Reader", "open", "I", false)
  | 6 => ("RunWatcher$Reader", "latestSign", "I", false)
  | 7 => ("RunWatcher$Reader", "faultKind", "I", false)
  | _ => ("RunWatcher$Reader", "faultByte", "I", false)
def tyX5 : Nat → FieldType := fun k => match k with
  | 0 => .object "RunWatcher$Rule"
  | 1 => .array .int
  | 2 => .int
  | 3 => .int
  | 4 => .int
  | 5 => .int
  | 6 => .int
  | 7 => .int
  | _ => .int
abbrev wsX50 : List Cond := u_ws RX5 TX5 9
theorem nmX5 : ∀ a, a < 9 → ∀ b, b < 9 → a ≠ b → (TX5 a).2.1 ≠ (TX5 b).2.1 := by decide +kernel
theorem tyX5_ok : ∀ k, k < 9 → parseFieldDescriptor (TX5 k).2.2.1 = some (tyX5 k) := by decide +kernel
abbrev cX5_init : ByteArray := prog_7_method_1_code
def yX5_init : MethodName := ⟨RX5, "<init>", "()V"⟩
abbrev cX5_rule : ByteArray := prog_7_method_2_code
def yX5_rule : MethodName := ⟨RX5, "rule", "()LRunWatcher$Rule;"⟩
abbrev cX5_faultKind : ByteArray := prog_7_method_3_code
def yX5_faultKind : MethodName := ⟨RX5, "faultKind", "()I"⟩
abbrev cX5_faultByte : ByteArray := prog_7_method_4_code
def yX5_faultByte : MethodName := ⟨RX5, "faultByte", "()I"⟩
abbrev cX5_reads : ByteArray := prog_7_method_5_code
def yX5_reads : MethodName := ⟨RX5, "reads", "([II)Z"⟩
abbrev cX5_failed : ByteArray := prog_7_method_6_code
def yX5_failed : MethodName := ⟨RX5, "failed", "()Z"⟩
abbrev cX5_failHere : ByteArray := prog_7_method_7_code
def yX5_failHere : MethodName := ⟨RX5, "failHere", "()V"⟩
abbrev cX5_here : ByteArray := prog_7_method_8_code
def yX5_here : MethodName := ⟨RX5, "here", "()I"⟩
abbrev cX5_takes : ByteArray := prog_7_method_9_code
def yX5_takes : MethodName := ⟨RX5, "takes", "(I)Z"⟩
abbrev cX5_beginsNode : ByteArray := prog_7_method_10_code
def yX5_beginsNode : MethodName := ⟨RX5, "beginsNode", "()Z"⟩
abbrev cX5_made : ByteArray := prog_7_method_11_code
def yX5_made : MethodName := ⟨RX5, "made", "(IIII)I"⟩
abbrev cX5_readRule : ByteArray := prog_7_method_12_code
def yX5_readRule : MethodName := ⟨RX5, "readRule", "()I"⟩
abbrev cX5_readEither : ByteArray := prog_7_method_13_code
def yX5_readEither : MethodName := ⟨RX5, "readEither", "()I"⟩
abbrev cX5_readBoth : ByteArray := prog_7_method_14_code
def yX5_readBoth : MethodName := ⟨RX5, "readBoth", "()I"⟩
abbrev cX5_readPair : ByteArray := prog_7_method_15_code
def yX5_readPair : MethodName := ⟨RX5, "readPair", "()I"⟩
abbrev cX5_readOne : ByteArray := prog_7_method_16_code
def yX5_readOne : MethodName := ⟨RX5, "readOne", "()I"⟩
abbrev cX5_readBracket : ByteArray := prog_7_method_17_code
def yX5_readBracket : MethodName := ⟨RX5, "readBracket", "()I"⟩
abbrev cX5_standsAheadOfOne : ByteArray := prog_7_method_18_code
def yX5_standsAheadOfOne : MethodName := ⟨RX5, "standsAheadOfOne", "(I)Z"⟩
def RX6 : String := "RunWatcher$Rule"
def TX6 : u_T := fun k => match k with
  | 0 => ("RunWatcher$Rule", "signs", "[I", true)
  | 1 => ("RunWatcher$Rule", "firsts", "[I", true)
  | 2 => ("RunWatcher$Rule", "seconds", "[I", true)
  | 3 => ("RunWatcher$Rule", "places", "[I", true)
  | 4 => ("RunWatcher$Rule", "slots", "[I", true)
  | 5 => ("RunWatcher$Rule", "inPast", "[Z", true)
  | 6 => ("RunWatcher$Rule", "size", "I", false)
  | 7 => ("RunWatcher$Rule", "futureBits", "I", false)
  | _ => ("RunWatcher$Rule", "pastBits", "I", false)
def tyX6 : Nat → FieldType := fun k => match k with
  | 0 => .array .int
  | 1 => .array .int
  | 2 => .array .int
  | 3 => .array .int
  | 4 => .array .int
  | 5 => .array .boolean
  | 6 => .int
  | 7 => .int
  | _ => .int
abbrev wsX60 : List Cond := u_ws RX6 TX6 9
theorem nmX6 : ∀ a, a < 9 → ∀ b, b < 9 → a ≠ b → (TX6 a).2.1 ≠ (TX6 b).2.1 := by decide +kernel
theorem tyX6_ok : ∀ k, k < 9 → parseFieldDescriptor (TX6 k).2.2.1 = some (tyX6 k) := by decide +kernel
abbrev cX6_init : ByteArray := prog_8_method_1_code
def yX6_init : MethodName := ⟨RX6, "<init>", "()V"⟩
abbrev cX6_looksBehind : ByteArray := prog_8_method_2_code
def yX6_looksBehind : MethodName := ⟨RX6, "looksBehind", "(I)Z"⟩
abbrev cX6_looksAhead : ByteArray := prog_8_method_3_code
def yX6_looksAhead : MethodName := ⟨RX6, "looksAhead", "(I)Z"⟩
abbrev cX6_clear : ByteArray := prog_8_method_4_code
def yX6_clear : MethodName := ⟨RX6, "clear", "()V"⟩
abbrev cX6_add : ByteArray := prog_8_method_5_code
def yX6_add : MethodName := ⟨RX6, "add", "(IIII)I"⟩
abbrev cX6_firstPastFault : ByteArray := prog_8_method_6_code
def yX6_firstPastFault : MethodName := ⟨RX6, "firstPastFault", "()I"⟩
abbrev cX6_giveBits : ByteArray := prog_8_method_7_code
def yX6_giveBits : MethodName := ⟨RX6, "giveBits", "()V"⟩
abbrev cX6_futureBits : ByteArray := prog_8_method_8_code
def yX6_futureBits : MethodName := ⟨RX6, "futureBits", "()I"⟩
abbrev cX6_pastBits : ByteArray := prog_8_method_9_code
def yX6_pastBits : MethodName := ⟨RX6, "pastBits", "()I"⟩
abbrev cX6_bitsOfNoPlace : ByteArray := prog_8_method_10_code
def yX6_bitsOfNoPlace : MethodName := ⟨RX6, "bitsOfNoPlace", "()I"⟩
abbrev cX6_valuesAt : ByteArray := prog_8_method_11_code
def yX6_valuesAt : MethodName := ⟨RX6, "valuesAt", "(II)I"⟩
abbrev cX6_holds : ByteArray := prog_8_method_12_code
def yX6_holds : MethodName := ⟨RX6, "holds", "(IIII)Z"⟩
abbrev cX6_bitsBeside : ByteArray := prog_8_method_13_code
def yX6_bitsBeside : MethodName := ⟨RX6, "bitsBeside", "(I)I"⟩
abbrev cX6_wholeHolds : ByteArray := prog_8_method_14_code
def yX6_wholeHolds : MethodName := ⟨RX6, "wholeHolds", "(I)Z"⟩
def RX7 : String := "RunWatcher$Watcher"
def TX7 : u_T := fun k => match k with
  | 0 => ("RunWatcher$Watcher", "leads", "[I", true)
  | 1 => ("RunWatcher$Watcher", "verdicts", "[I", true)
  | 2 => ("RunWatcher$Watcher", "distances", "[I", true)
  | 3 => ("RunWatcher$Watcher", "ways", "[J", true)
  | _ => ("RunWatcher$Watcher", "size", "I", false)
def tyX7 : Nat → FieldType := fun k => match k with
  | 0 => .array .int
  | 1 => .array .int
  | 2 => .array .int
  | 3 => .array .long
  | _ => .int
abbrev wsX70 : List Cond := u_ws RX7 TX7 5
theorem nmX7 : ∀ a, a < 5 → ∀ b, b < 5 → a ≠ b → (TX7 a).2.1 ≠ (TX7 b).2.1 := by decide +kernel
theorem tyX7_ok : ∀ k, k < 5 → parseFieldDescriptor (TX7 k).2.2.1 = some (tyX7 k) := by decide +kernel
abbrev cX7_init : ByteArray := prog_9_method_1_code
def yX7_init : MethodName := ⟨RX7, "<init>", "()V"⟩
abbrev cX7_clear : ByteArray := prog_9_method_2_code
def yX7_clear : MethodName := ⟨RX7, "clear", "()V"⟩
abbrev cX7_add : ByteArray := prog_9_method_3_code
def yX7_add : MethodName := ⟨RX7, "add", "(Z)I"⟩
abbrev cX7_lead : ByteArray := prog_9_method_4_code
def yX7_lead : MethodName := ⟨RX7, "lead", "(III)V"⟩
abbrev cX7_finish : ByteArray := prog_9_method_5_code
def yX7_finish : MethodName := ⟨RX7, "finish", "()V"⟩
abbrev cX7_copyFrom : ByteArray := prog_9_method_6_code
def yX7_copyFrom : MethodName := ⟨RX7, "copyFrom", "(LRunWatcher$Watcher;)V"⟩
abbrev cX7_isThere : ByteArray := prog_9_method_7_code
def yX7_isThere : MethodName := ⟨RX7, "isThere", "()Z"⟩
abbrev cX7_size : ByteArray := prog_9_method_8_code
def yX7_size : MethodName := ⟨RX7, "size", "()I"⟩
abbrev cX7_has : ByteArray := prog_9_method_9_code
def yX7_has : MethodName := ⟨RX7, "has", "(I)Z"⟩
abbrev cX7_next : ByteArray := prog_9_method_10_code
def yX7_next : MethodName := ⟨RX7, "next", "(II)I"⟩
abbrev cX7_verdictOf : ByteArray := prog_9_method_11_code
def yX7_verdictOf : MethodName := ⟨RX7, "verdictOf", "(I)I"⟩
abbrev cX7_keeps : ByteArray := prog_9_method_12_code
def yX7_keeps : MethodName := ⟨RX7, "keeps", "(I)Z"⟩
abbrev cX7_isSure : ByteArray := prog_9_method_13_code
def yX7_isSure : MethodName := ⟨RX7, "isSure", "(I)Z"⟩
abbrev cX7_sureStates : ByteArray := prog_9_method_14_code
def yX7_sureStates : MethodName := ⟨RX7, "sureStates", "()I"⟩
abbrev cX7_markSure : ByteArray := prog_9_method_15_code
def yX7_markSure : MethodName := ⟨RX7, "markSure", "()V"⟩
abbrev cX7_measure : ByteArray := prog_9_method_16_code
def yX7_measure : MethodName := ⟨RX7, "measure", "(I)V"⟩
abbrev cX7_distance : ByteArray := prog_9_method_17_code
def yX7_distance : MethodName := ⟨RX7, "distance", "(II)I"⟩
abbrev cX7_stepTo : ByteArray := prog_9_method_18_code
def yX7_stepTo : MethodName := ⟨RX7, "stepTo", "(III)I"⟩
abbrev cX7_firstStep : ByteArray := prog_9_method_19_code
def yX7_firstStep : MethodName := ⟨RX7, "firstStep", "(II)I"⟩
abbrev cX7_countWays : ByteArray := prog_9_method_20_code
def yX7_countWays : MethodName := ⟨RX7, "countWays", "()V"⟩
abbrev cX7_waysOf : ByteArray := prog_9_method_21_code
def yX7_waysOf : MethodName := ⟨RX7, "waysOf", "(II)J"⟩
abbrev cX7_eventOfFirstRow : ByteArray := prog_9_method_22_code
def yX7_eventOfFirstRow : MethodName := ⟨RX7, "eventOfFirstRow", "(III)I"⟩
abbrev cX7_firstKeptEvent : ByteArray := prog_9_method_23_code
def yX7_firstKeptEvent : MethodName := ⟨RX7, "firstKeptEvent", "(II)I"⟩
def RX8 : String := "RunWatcher"
def TX8 : u_T := fun k => match k with
  | 0 => ("RunWatcher", "tape", "[I", true)
  | 1 => ("RunWatcher", "bytes", "I", false)
  | 2 => ("RunWatcher", "faultKind", "I", false)
  | 3 => ("RunWatcher", "reader", "LRunWatcher$Reader;", true)
  | 4 => ("RunWatcher", "carry", "LRunWatcher$Carry;", true)
  | 5 => ("RunWatcher", "pairs", "LRunWatcher$Pairs;", true)
  | 6 => ("RunWatcher", "lessener", "LRunWatcher$Lessener;", true)
  | 7 => ("RunWatcher", "watcher", "LRunWatcher$Watcher;", true)
  | 8 => ("RunWatcher", "keptWatcher", "LRunWatcher$Watcher;", true)
  | 9 => ("RunWatcher", "meeting", "LRunWatcher$Meeting;", true)
  | _ => ("RunWatcher", "keys", "LRunWatcher$Keys;", true)
def tyX8 : Nat → FieldType := fun k => match k with
  | 0 => .array .int
  | 1 => .int
  | 2 => .int
  | 3 => .object "RunWatcher$Reader"
  | 4 => .object "RunWatcher$Carry"
  | 5 => .object "RunWatcher$Pairs"
  | 6 => .object "RunWatcher$Lessener"
  | 7 => .object "RunWatcher$Watcher"
  | 8 => .object "RunWatcher$Watcher"
  | 9 => .object "RunWatcher$Meeting"
  | _ => .object "RunWatcher$Keys"
abbrev wsX80 : List Cond := u_ws RX8 TX8 11
theorem nmX8 : ∀ a, a < 11 → ∀ b, b < 11 → a ≠ b → (TX8 a).2.1 ≠ (TX8 b).2.1 := by decide +kernel
theorem tyX8_ok : ∀ k, k < 11 → parseFieldDescriptor (TX8 k).2.2.1 = some (tyX8 k) := by decide +kernel
abbrev cX8_init : ByteArray := prog_1_method_1_code
def yX8_init : MethodName := ⟨RX8, "<init>", "()V"⟩
abbrev cX8_feed : ByteArray := prog_1_method_2_code
def yX8_feed : MethodName := ⟨RX8, "feed", "(J)I"⟩
abbrev cX8_read : ByteArray := prog_1_method_3_code
def yX8_read : MethodName := ⟨RX8, "read", "()I"⟩
abbrev cX8_fault : ByteArray := prog_1_method_4_code
def yX8_fault : MethodName := ⟨RX8, "fault", "()I"⟩
abbrev cX8_cut : ByteArray := prog_1_method_5_code
def yX8_cut : MethodName := ⟨RX8, "cut", "()I"⟩
abbrev cX8_leads : ByteArray := prog_1_method_6_code
def yX8_leads : MethodName := ⟨RX8, "leads", "(II)I"⟩
abbrev cX8_verdict : ByteArray := prog_1_method_7_code
def yX8_verdict : MethodName := ⟨RX8, "verdict", "(I)I"⟩
abbrev cX8_far : ByteArray := prog_1_method_8_code
def yX8_far : MethodName := ⟨RX8, "far", "(II)I"⟩
abbrev cX8_toward : ByteArray := prog_1_method_9_code
def yX8_toward : MethodName := ⟨RX8, "toward", "(II)I"⟩
abbrev cX8_runs : ByteArray := prog_1_method_10_code
def yX8_runs : MethodName := ⟨RX8, "runs", "(II)J"⟩
abbrev cX8_run : ByteArray := prog_1_method_11_code
def yX8_run : MethodName := ⟨RX8, "run", "(III)I"⟩
abbrev cX8_event : ByteArray := prog_1_method_12_code
def yX8_event : MethodName := ⟨RX8, "event", "(II)I"⟩
abbrev cX8_lost : ByteArray := prog_1_method_13_code
def yX8_lost : MethodName := ⟨RX8, "lost", "(II)I"⟩
abbrev cX8_told : ByteArray := prog_1_method_14_code
def yX8_told : MethodName := ⟨RX8, "told", "(I)I"⟩
abbrev cX8_may : ByteArray := prog_1_method_15_code
def yX8_may : MethodName := ⟨RX8, "may", "(I)I"⟩
abbrev cX8_state : ByteArray := prog_1_method_16_code
def yX8_state : MethodName := ⟨RX8, "state", "(II)I"⟩
abbrev cX8_events : ByteArray := prog_1_method_17_code
def yX8_events : MethodName := ⟨RX8, "events", "(I)I"⟩
abbrev cX8_anew : ByteArray := prog_1_method_18_code
def yX8_anew : MethodName := ⟨RX8, "anew", "(I)I"⟩
abbrev cX8_keep : ByteArray := prog_1_method_19_code
def yX8_keep : MethodName := ⟨RX8, "keep", "()I"⟩
abbrev cX8_against : ByteArray := prog_1_method_20_code
def yX8_against : MethodName := ⟨RX8, "against", "()I"⟩
abbrev cX8_apart : ByteArray := prog_1_method_21_code
def yX8_apart : MethodName := ⟨RX8, "apart", "()I"⟩
abbrev cX8_count : ByteArray := prog_1_method_22_code
def yX8_count : MethodName := ⟨RX8, "count", "(I)I"⟩
abbrev cX8_refusalOfState : ByteArray := prog_1_method_23_code
def yX8_refusalOfState : MethodName := ⟨RX8, "refusalOfState", "(I)I"⟩
abbrev cX8_refusalOfKey : ByteArray := prog_1_method_24_code
def yX8_refusalOfKey : MethodName := ⟨RX8, "refusalOfKey", "(I)I"⟩
abbrev cX8_isEvent : ByteArray := prog_1_method_25_code
def yX8_isEvent : MethodName := ⟨RX8, "isEvent", "(I)Z"⟩
abbrev cX8_isVerdict : ByteArray := prog_1_method_26_code
def yX8_isVerdict : MethodName := ⟨RX8, "isVerdict", "(I)Z"⟩
abbrev cX8_isKey : ByteArray := prog_1_method_27_code
def yX8_isKey : MethodName := ⟨RX8, "isKey", "(I)Z"⟩
abbrev cX8_isRow : ByteArray := prog_1_method_28_code
def yX8_isRow : MethodName := ⟨RX8, "isRow", "(I)Z"⟩
abbrev cX8_byteOf : ByteArray := prog_1_method_29_code
def yX8_byteOf : MethodName := ⟨RX8, "byteOf", "(JI)I"⟩
abbrev cX8_bytesIn : ByteArray := prog_1_method_30_code
def yX8_bytesIn : MethodName := ⟨RX8, "bytesIn", "(J)I"⟩
abbrev cX8_pick : ByteArray := prog_1_method_31_code
def yX8_pick : MethodName := ⟨RX8, "pick", "([II)I"⟩
abbrev cX8_put : ByteArray := prog_1_method_32_code
def yX8_put : MethodName := ⟨RX8, "put", "([III)V"⟩
abbrev cX8_pickLong : ByteArray := prog_1_method_33_code
def yX8_pickLong : MethodName := ⟨RX8, "pickLong", "([JI)J"⟩
abbrev cX8_putLong : ByteArray := prog_1_method_34_code
def yX8_putLong : MethodName := ⟨RX8, "putLong", "([JIJ)V"⟩
abbrev cX8_isSet : ByteArray := prog_1_method_35_code
def yX8_isSet : MethodName := ⟨RX8, "isSet", "([ZI)Z"⟩
abbrev cX8_set : ByteArray := prog_1_method_36_code
def yX8_set : MethodName := ⟨RX8, "set", "([ZIZ)V"⟩
abbrev cX8_hasBit : ByteArray := prog_1_method_37_code
def yX8_hasBit : MethodName := ⟨RX8, "hasBit", "(JI)Z"⟩
def RX9 : String := "RunWatcherModel"
def TX9 : u_T := fun k => match k with
  | 0 => ("RunWatcherModel", "tape", "[B", true)
  | 1 => ("RunWatcherModel", "bytes", "I", false)
  | 2 => ("RunWatcherModel", "fault", "I", false)
  | 3 => ("RunWatcherModel", "faultAt", "I", false)
  | 4 => ("RunWatcherModel", "nodes", "I", false)
  | 5 => ("RunWatcherModel", "sign", "[I", true)
  | 6 => ("RunWatcherModel", "left", "[I", true)
  | 7 => ("RunWatcherModel", "right", "[I", true)
  | 8 => ("RunWatcherModel", "where", "[I", true)
  | 9 => ("RunWatcherModel", "made", "I", false)
  | 10 => ("RunWatcherModel", "operand", "[I", true)
  | 11 => ("RunWatcherModel", "waits", "I", false)
  | 12 => ("RunWatcherModel", "wait", "[I", true)
  | 13 => ("RunWatcherModel", "waitAt", "[I", true)
  | 14 => ("RunWatcherModel", "within", "[Z", true)
  | 15 => ("RunWatcherModel", "aheads", "I", false)
  | 16 => ("RunWatcherModel", "backs", "I", false)
  | 17 => ("RunWatcherModel", "bit", "[I", true)
  | 18 => ("RunWatcherModel", "atEnd", "I", false)
  | 19 => ("RunWatcherModel", "atFirst", "I", false)
  | 20 => ("RunWatcherModel", "holds", "[Z", true)
  | 21 => ("RunWatcherModel", "nextBack", "I", false)
  | 22 => ("RunWatcherModel", "seen", "I", false)
  | 23 => ("RunWatcherModel", "leadsBack", "[I", true)
  | 24 => ("RunWatcherModel", "tells", "[I", true)
  | 25 => ("RunWatcherModel", "root", "[Z", true)
  | 26 => ("RunWatcherModel", "can", "[Z", true)
  | 27 => ("RunWatcherModel", "raws", "I", false)
  | 28 => ("RunWatcherModel", "rawBack", "[I", true)
  | 29 => ("RunWatcherModel", "rawKept", "[Z", true)
  | 30 => ("RunWatcherModel", "rawTo", "[I", true)
  | 31 => ("RunWatcherModel", "listed", "[I", true)
  | 32 => ("RunWatcherModel", "list", "[I", true)
  | 33 => ("RunWatcherModel", "fresh", "[Z", true)
  | 34 => ("RunWatcherModel", "kind", "[I", true)
  | 35 => ("RunWatcherModel", "newKind", "[I", true)
  | 36 => ("RunWatcherModel", "kinds", "I", false)
  | 37 => ("RunWatcherModel", "example", "[I", true)
  | 38 => ("RunWatcherModel", "isThere", "Z", false)
  | 39 => ("RunWatcherModel", "states", "I", false)
  | 40 => ("RunWatcherModel", "to", "[I", true)
  | 41 => ("RunWatcherModel", "kept", "[Z", true)
  | 42 => ("RunWatcherModel", "verdict", "[I", true)
  | 43 => ("RunWatcherModel", "number", "[I", true)
  | 44 => ("RunWatcherModel", "ofKind", "[I", true)
  | 45 => ("RunWatcherModel", "far", "[I", true)
  | 46 => ("RunWatcherModel", "row", "[I", true)
  | 47 => ("RunWatcherModel", "rows", "[J", true)
  | 48 => ("RunWatcherModel", "may", "[Z", true)
  | 49 => ("RunWatcherModel", "then", "[Z", true)
  | 50 => ("RunWatcherModel", "events", "[I", true)
  | 51 => ("RunWatcherModel", "isOld", "Z", false)
  | 52 => ("RunWatcherModel", "oldStates", "I", false)
  | 53 => ("RunWatcherModel", "oldTo", "[I", true)
  | 54 => ("RunWatcherModel", "oldKept", "[Z", true)
  | 55 => ("RunWatcherModel", "pairs", "I", false)
  | 56 => ("RunWatcherModel", "pair", "[I", true)
  | 57 => ("RunWatcherModel", "pairFar", "[I", true)
  | _ => ("RunWatcherModel", "isMet", "[Z", true)
def tyX9 : Nat → FieldType := fun k => match k with
  | 0 => .array .byte
  | 1 => .int
  | 2 => .int
  | 3 => .int
  | 4 => .int
  | 5 => .array .int
  | 6 => .array .int
  | 7 => .array .int
  | 8 => .array .int
  | 9 => .int
  | 10 => .array .int
  | 11 => .int
  | 12 => .array .int
  | 13 => .array .int
  | 14 => .array .boolean
  | 15 => .int
  | 16 => .int
  | 17 => .array .int
  | 18 => .int
  | 19 => .int
  | 20 => .array .boolean
  | 21 => .int
  | 22 => .int
  | 23 => .array .int
  | 24 => .array .int
  | 25 => .array .boolean
  | 26 => .array .boolean
  | 27 => .int
  | 28 => .array .int
  | 29 => .array .boolean
  | 30 => .array .int
  | 31 => .array .int
  | 32 => .array .int
  | 33 => .array .boolean
  | 34 => .array .int
  | 35 => .array .int
  | 36 => .int
  | 37 => .array .int
  | 38 => .boolean
  | 39 => .int
  | 40 => .array .int
  | 41 => .array .boolean
  | 42 => .array .int
  | 43 => .array .int
  | 44 => .array .int
  | 45 => .array .int
  | 46 => .array .int
  | 47 => .array .long
  | 48 => .array .boolean
  | 49 => .array .boolean
  | 50 => .array .int
  | 51 => .boolean
  | 52 => .int
  | 53 => .array .int
  | 54 => .array .boolean
  | 55 => .int
  | 56 => .array .int
  | 57 => .array .int
  | _ => .array .boolean
abbrev wsX90 : List Cond := u_ws RX9 TX9 59
theorem nmX9 : ∀ a, a < 59 → ∀ b, b < 59 → a ≠ b → (TX9 a).2.1 ≠ (TX9 b).2.1 := by decide +kernel
theorem tyX9_ok : ∀ k, k < 59 → parseFieldDescriptor (TX9 k).2.2.1 = some (tyX9 k) := by decide +kernel
abbrev cX9_init : ByteArray := prog_11_method_1_code
def yX9_init : MethodName := ⟨RX9, "<init>", "()V"⟩
abbrev cX9_in : ByteArray := prog_11_method_3_code
def yX9_in : MethodName := ⟨RX9, "in", "(JJJ)Z"⟩
abbrev cX9_feed : ByteArray := prog_11_method_4_code
def yX9_feed : MethodName := ⟨RX9, "feed", "(J)I"⟩
abbrev cX9_cut : ByteArray := prog_11_method_5_code
def yX9_cut : MethodName := ⟨RX9, "cut", "()I"⟩
abbrev cX9_fault : ByteArray := prog_11_method_6_code
def yX9_fault : MethodName := ⟨RX9, "fault", "()I"⟩
abbrev cX9_isPrefix : ByteArray := prog_11_method_7_code
def yX9_isPrefix : MethodName := ⟨RX9, "isPrefix", "(I)Z"⟩
abbrev cX9_rank : ByteArray := prog_11_method_8_code
def yX9_rank : MethodName := ⟨RX9, "rank", "(I)I"⟩
abbrev cX9_node : ByteArray := prog_11_method_9_code
def yX9_node : MethodName := ⟨RX9, "node", "(IIII)V"⟩
abbrev cX9_reduce : ByteArray := prog_11_method_10_code
def yX9_reduce : MethodName := ⟨RX9, "reduce", "()V"⟩
abbrev cX9_fail : ByteArray := prog_11_method_11_code
def yX9_fail : MethodName := ⟨RX9, "fail", "(I)Z"⟩
abbrev cX9_reduceTo : ByteArray := prog_11_method_12_code
def yX9_reduceTo : MethodName := ⟨RX9, "reduceTo", "(I)V"⟩
abbrev cX9_push : ByteArray := prog_11_method_13_code
def yX9_push : MethodName := ⟨RX9, "push", "(II)V"⟩
abbrev cX9_parse : ByteArray := prog_11_method_14_code
def yX9_parse : MethodName := ⟨RX9, "parse", "()Z"⟩
abbrev cX9_isPure : ByteArray := prog_11_method_15_code
def yX9_isPure : MethodName := ⟨RX9, "isPure", "()Z"⟩
abbrev cX9_layBits : ByteArray := prog_11_method_16_code
def yX9_layBits : MethodName := ⟨RX9, "layBits", "()V"⟩
abbrev cX9_look : ByteArray := prog_11_method_17_code
def yX9_look : MethodName := ⟨RX9, "look", "(III)V"⟩
abbrev cX9_wide : ByteArray := prog_11_method_18_code
def yX9_wide : MethodName := ⟨RX9, "wide", "()I"⟩
abbrev cX9_spot : ByteArray := prog_11_method_19_code
def yX9_spot : MethodName := ⟨RX9, "spot", "(III)I"⟩
abbrev cX9_prepare : ByteArray := prog_11_method_20_code
def yX9_prepare : MethodName := ⟨RX9, "prepare", "()V"⟩
abbrev cX9_state : ByteArray := prog_11_method_21_code
def yX9_state : MethodName := ⟨RX9, "state", "(I)I"⟩
abbrev cX9_meet : ByteArray := prog_11_method_22_code
def yX9_meet : MethodName := ⟨RX9, "meet", "()Z"⟩
abbrev cX9_isKept : ByteArray := prog_11_method_23_code
def yX9_isKept : MethodName := ⟨RX9, "isKept", "(I)Z"⟩
abbrev cX9_isLike : ByteArray := prog_11_method_24_code
def yX9_isLike : MethodName := ⟨RX9, "isLike", "(II)Z"⟩
abbrev cX9_part : ByteArray := prog_11_method_25_code
def yX9_part : MethodName := ⟨RX9, "part", "()Z"⟩
abbrev cX9_least : ByteArray := prog_11_method_26_code
def yX9_least : MethodName := ⟨RX9, "least", "()Z"⟩
abbrev cX9_number : ByteArray := prog_11_method_27_code
def yX9_number : MethodName := ⟨RX9, "number", "()V"⟩
abbrev cX9_spread : ByteArray := prog_11_method_28_code
def yX9_spread : MethodName := ⟨RX9, "spread", "(I)V"⟩
abbrev cX9_read : ByteArray := prog_11_method_29_code
def yX9_read : MethodName := ⟨RX9, "read", "()I"⟩
abbrev cX9_isState : ByteArray := prog_11_method_30_code
def yX9_isState : MethodName := ⟨RX9, "isState", "(I)Z"⟩
abbrev cX9_leads : ByteArray := prog_11_method_31_code
def yX9_leads : MethodName := ⟨RX9, "leads", "(II)I"⟩
abbrev cX9_verdict : ByteArray := prog_11_method_32_code
def yX9_verdict : MethodName := ⟨RX9, "verdict", "(I)I"⟩
abbrev cX9_farTo : ByteArray := prog_11_method_33_code
def yX9_farTo : MethodName := ⟨RX9, "farTo", "(II)I"⟩
abbrev cX9_far : ByteArray := prog_11_method_34_code
def yX9_far : MethodName := ⟨RX9, "far", "(II)I"⟩
abbrev cX9_toward : ByteArray := prog_11_method_35_code
def yX9_toward : MethodName := ⟨RX9, "toward", "(II)I"⟩
abbrev cX9_countTo : ByteArray := prog_11_method_36_code
def yX9_countTo : MethodName := ⟨RX9, "countTo", "(I)V"⟩
abbrev cX9_runs : ByteArray := prog_11_method_37_code
def yX9_runs : MethodName := ⟨RX9, "runs", "(II)J"⟩
abbrev cX9_run : ByteArray := prog_11_method_38_code
def yX9_run : MethodName := ⟨RX9, "run", "(III)I"⟩
abbrev cX9_begin : ByteArray := prog_11_method_39_code
def yX9_begin : MethodName := ⟨RX9, "begin", "(I)V"⟩
abbrev cX9_verdictOf : ByteArray := prog_11_method_40_code
def yX9_verdictOf : MethodName := ⟨RX9, "verdictOf", "(I)I"⟩
abbrev cX9_isGone : ByteArray := prog_11_method_41_code
def yX9_isGone : MethodName := ⟨RX9, "isGone", "(I)Z"⟩
abbrev cX9_isKey : ByteArray := prog_11_method_42_code
def yX9_isKey : MethodName := ⟨RX9, "isKey", "(I)Z"⟩
abbrev cX9_step : ByteArray := prog_11_method_43_code
def yX9_step : MethodName := ⟨RX9, "step", "(IIIZ)V"⟩
abbrev cX9_event : ByteArray := prog_11_method_44_code
def yX9_event : MethodName := ⟨RX9, "event", "(II)I"⟩
abbrev cX9_lost : ByteArray := prog_11_method_45_code
def yX9_lost : MethodName := ⟨RX9, "lost", "(II)I"⟩
abbrev cX9_told : ByteArray := prog_11_method_46_code
def yX9_told : MethodName := ⟨RX9, "told", "(I)I"⟩
abbrev cX9_may : ByteArray := prog_11_method_47_code
def yX9_may : MethodName := ⟨RX9, "may", "(I)I"⟩
abbrev cX9_state_ : ByteArray := prog_11_method_48_code
def yX9_state_ : MethodName := ⟨RX9, "state", "(II)I"⟩
abbrev cX9_events : ByteArray := prog_11_method_49_code
def yX9_events : MethodName := ⟨RX9, "events", "(I)I"⟩
abbrev cX9_anew : ByteArray := prog_11_method_50_code
def yX9_anew : MethodName := ⟨RX9, "anew", "(I)I"⟩
abbrev cX9_keep : ByteArray := prog_11_method_51_code
def yX9_keep : MethodName := ⟨RX9, "keep", "()I"⟩
abbrev cX9_meetPair : ByteArray := prog_11_method_52_code
def yX9_meetPair : MethodName := ⟨RX9, "meetPair", "(II)V"⟩
abbrev cX9_pairUp : ByteArray := prog_11_method_53_code
def yX9_pairUp : MethodName := ⟨RX9, "pairUp", "()V"⟩
abbrev cX9_against : ByteArray := prog_11_method_54_code
def yX9_against : MethodName := ⟨RX9, "against", "()I"⟩
abbrev cX9_apart : ByteArray := prog_11_method_55_code
def yX9_apart : MethodName := ⟨RX9, "apart", "()I"⟩
abbrev cX9_count : ByteArray := prog_11_method_56_code
def yX9_count : MethodName := ⟨RX9, "count", "(I)I"⟩
def RJ13 : String := "java/lang/Long"
def TJ13 : u_T := fun k => match k with
  | _ => ("", "", "", false)
def tyJ13 : Nat → FieldType := fun k => match k with
  | _ => .int
abbrev wsJ130 : List Cond := u_ws RJ13 TJ13 0
theorem nmJ13 : ∀ a, a < 0 → ∀ b, b < 0 → a ≠ b → (TJ13 a).2.1 ≠ (TJ13 b).2.1 := by decide +kernel
theorem tyJ13_ok : ∀ k, k < 0 → parseFieldDescriptor (TJ13 k).2.2.1 = some (tyJ13 k) := by decide +kernel
abbrev cJ13_bitCount_95d88 : ByteArray := prog_12_method_50_code
def yJ13_bitCount_95d88 : MethodName := ⟨RJ13, "bitCount", "(J)I"⟩
def RJ9 : String := "java/lang/Math"
def TJ9 : u_T := fun k => match k with
  | _ => ("", "", "", false)
def tyJ9 : Nat → FieldType := fun k => match k with
  | _ => .int
abbrev wsJ90 : List Cond := u_ws RJ9 TJ9 0
theorem nmJ9 : ∀ a, a < 0 → ∀ b, b < 0 → a ≠ b → (TJ9 a).2.1 ≠ (TJ9 b).2.1 := by decide +kernel
theorem tyJ9_ok : ∀ k, k < 0 → parseFieldDescriptor (TJ9 k).2.2.1 = some (tyJ9 k) := by decide +kernel
abbrev cJ9_min_7cf53 : ByteArray := prog_13_method_69_code
def yJ9_min_7cf53 : MethodName := ⟨RJ9, "min", "(II)I"⟩
def RJ10 : String := "java/lang/System"
def TJ10 : u_T := fun k => match k with
  | _ => ("", "", "", false)
def tyJ10 : Nat → FieldType := fun k => match k with
  | _ => .int
abbrev wsJ100 : List Cond := u_ws RJ10 TJ10 0
theorem nmJ10 : ∀ a, a < 0 → ∀ b, b < 0 → a ≠ b → (TJ10 a).2.1 ≠ (TJ10 b).2.1 := by decide +kernel
theorem tyJ10_ok : ∀ k, k < 0 → parseFieldDescriptor (TJ10 k).2.2.1 = some (tyJ10 k) := by decide +kernel
def RL : String := "RunWatcherLaw"
abbrev cL_law : ByteArray := code
def yL_law : MethodName := ⟨RL, "law", "([I)Z"⟩
abbrev vwCl : List vw_C := [(RX0, TX0, 6), (RX1, TX1, 2), (RX2, TX2, 7), (RX3, TX3, 7), (RX4, TX4, 11), (RX5, TX5, 9), (RX6, TX6, 9), (RX7, TX7, 5), (RX8, TX8, 11), (RX9, TX9, 59)]
/-! the words that every contract bears: the good ones of the tables -/
def wsG : List Cond := lw_tbl.filter goodWord
theorem wsG_in : ∀ w ∈ wsG, w ∈ lw_tbl := fun w h => (List.mem_filter.mp h).1
theorem wsG_good : ∀ w ∈ wsG, (w.onTables && w.keeps) = true ∨ ∃ ty, w = .arrayClass ty := fun w h => good_of_word (List.mem_filter.mp h).2
theorem mT1 {w : Cond} (h : w ∈ tables_1_1) (g : goodWord w = true) : w ∈ wsG := List.mem_filter.mpr ⟨List.mem_append_right _ (List.mem_append_left _ h), g⟩
theorem mN1 {w : Cond} (h : w ∈ tables_1_1) : w ∈ lw_tbl := List.mem_append_right _ (List.mem_append_left _ h)
theorem mT2 {w : Cond} (h : w ∈ tables_1_2) (g : goodWord w = true) : w ∈ wsG := List.mem_filter.mpr ⟨List.mem_append_right _ (List.mem_append_right _ (List.mem_append_left _ h)), g⟩
theorem mN2 {w : Cond} (h : w ∈ tables_1_2) : w ∈ lw_tbl := List.mem_append_right _ (List.mem_append_right _ (List.mem_append_left _ h))
theorem mT3 {w : Cond} (h : w ∈ tables_1_3) (g : goodWord w = true) : w ∈ wsG := List.mem_filter.mpr ⟨List.mem_append_right _ (List.mem_append_right _ (List.mem_append_right _ (List.mem_append_left _ h))), g⟩
theorem mN3 {w : Cond} (h : w ∈ tables_1_3) : w ∈ lw_tbl := List.mem_append_right _ (List.mem_append_right _ (List.mem_append_right _ (List.mem_append_left _ h)))
theorem mT4 {w : Cond} (h : w ∈ tables_1_4) (g : goodWord w = true) : w ∈ wsG := List.mem_filter.mpr ⟨List.mem_append_right _ (List.mem_append_right _ (List.mem_append_right _ (List.mem_append_right _ (List.mem_append_left _ h)))), g⟩
theorem mN4 {w : Cond} (h : w ∈ tables_1_4) : w ∈ lw_tbl := List.mem_append_right _ (List.mem_append_right _ (List.mem_append_right _ (List.mem_append_right _ (List.mem_append_left _ h))))
theorem mT5 {w : Cond} (h : w ∈ tables_1_5) (g : goodWord w = true) : w ∈ wsG := List.mem_filter.mpr ⟨List.mem_append_right _ (List.mem_append_right _ (List.mem_append_right _ (List.mem_append_right _ (List.mem_append_right _ (List.mem_append_left _ h))))), g⟩
theorem mN5 {w : Cond} (h : w ∈ tables_1_5) : w ∈ lw_tbl := List.mem_append_right _ (List.mem_append_right _ (List.mem_append_right _ (List.mem_append_right _ (List.mem_append_right _ (List.mem_append_left _ h)))))
theorem mT6 {w : Cond} (h : w ∈ tables_1_6) (g : goodWord w = true) : w ∈ wsG := List.mem_filter.mpr ⟨List.mem_append_right _ (List.mem_append_right _ (List.mem_append_right _ (List.mem_append_right _ (List.mem_append_right _ (List.mem_append_right _ (h)))))), g⟩
theorem mN6 {w : Cond} (h : w ∈ tables_1_6) : w ∈ lw_tbl := List.mem_append_right _ (List.mem_append_right _ (List.mem_append_right _ (List.mem_append_right _ (List.mem_append_right _ (List.mem_append_right _ (h))))))
theorem mP1 {q : MethodName × Nat} (h : q ∈ lw_privs_1) (g : goodWord (.selects q.1.cls q.1 q.1) = true) : Cond.selects q.1.cls q.1 q.1 ∈ wsG := List.mem_filter.mpr ⟨List.mem_append_left _ (List.mem_map.mpr ⟨q, List.mem_append_left _ h, rfl⟩), g⟩
theorem mP2 {q : MethodName × Nat} (h : q ∈ lw_privs_2) (g : goodWord (.selects q.1.cls q.1 q.1) = true) : Cond.selects q.1.cls q.1 q.1 ∈ wsG := List.mem_filter.mpr ⟨List.mem_append_left _ (List.mem_map.mpr ⟨q, List.mem_append_right _ (List.mem_append_left _ h), rfl⟩), g⟩
theorem mP3 {q : MethodName × Nat} (h : q ∈ lw_privs_3) (g : goodWord (.selects q.1.cls q.1 q.1) = true) : Cond.selects q.1.cls q.1 q.1 ∈ wsG := List.mem_filter.mpr ⟨List.mem_append_left _ (List.mem_map.mpr ⟨q, List.mem_append_right _ (List.mem_append_right _ (List.mem_append_left _ h)), rfl⟩), g⟩
theorem mP4 {q : MethodName × Nat} (h : q ∈ lw_privs_4) (g : goodWord (.selects q.1.cls q.1 q.1) = true) : Cond.selects q.1.cls q.1 q.1 ∈ wsG := List.mem_filter.mpr ⟨List.mem_append_left _ (List.mem_map.mpr ⟨q, List.mem_append_right _ (List.mem_append_right _ (List.mem_append_right _ (h))), rfl⟩), g⟩
set_option maxRecDepth 8000 in
theorem mw_0 : Cond.classLink RL 7 RX8 ∈ wsG := mT1 (List.mem_of_getElem? (i := 14) rfl) rfl
set_option maxRecDepth 8000 in
theorem mw_1 : Cond.instantiable RX8 11 ∈ wsG := mT1 (List.mem_of_getElem? (i := 15) rfl) rfl
set_option maxRecDepth 8000 in
theorem mw_2 : Cond.initialized RX8 ∈ wsG := mT1 (List.mem_of_getElem? (i := 1) rfl) rfl
set_option maxRecDepth 8000 in
theorem mw_3 : Cond.classLink RL 10 RX9 ∈ wsG := mT4 (List.mem_of_getElem? (i := 137) rfl) rfl
set_option maxRecDepth 8000 in
theorem mw_4 : Cond.instantiable RX9 59 ∈ wsG := mT4 (List.mem_of_getElem? (i := 138) rfl) rfl
set_option maxRecDepth 8000 in
theorem mw_5 : Cond.initialized RX9 ∈ wsG := mT1 (List.mem_of_getElem? (i := 10) rfl) rfl
set_option maxRecDepth 8000 in
theorem mw_6 : Cond.constantLong RL 13 (4294967295) ∈ wsG := mT6 (List.mem_of_getElem? (i := 65) rfl) rfl
set_option maxRecDepth 8000 in
theorem mw_7 : Cond.methodLink RL 9 yX8_init ∈ wsG := mT1 (List.mem_of_getElem? (i := 16) rfl) rfl
set_option maxRecDepth 8000 in
theorem mw_8 : Cond.instanceMethod yX8_init ∈ wsG := mT1 (List.mem_of_getElem? (i := 17) rfl) rfl
set_option maxRecDepth 8000 in
theorem mw_9 : Cond.code yX8_init cX8_init 1 none ∈ wsG := mT1 (List.mem_of_getElem? (i := 18) rfl) rfl
set_option maxRecDepth 8000 in
theorem mw_10 : Cond.methodLink RX8 3 objectInit ∈ wsG := mT1 (List.mem_of_getElem? (i := 19) rfl) rfl
set_option maxRecDepth 8000 in
theorem mw_11 : Cond.instanceMethod objectInit ∈ wsG := mT1 (List.mem_of_getElem? (i := 20) rfl) rfl
set_option maxRecDepth 8000 in
theorem mw_12 : Cond.arrayClass .int ∈ wsG := mT1 (List.mem_of_getElem? (i := 62) rfl) rfl
set_option maxRecDepth 8000 in
theorem mw_13 : Cond.fieldLink RX8 9 "RunWatcher" "tape" "[I" ∈ wsG := mT2 (List.mem_of_getElem? (i := 9) rfl) rfl
set_option maxRecDepth 8000 in
theorem mw_14 : Cond.fieldLink RX8 13 "RunWatcher" "bytes" "I" ∈ wsG := mT2 (List.mem_of_getElem? (i := 10) rfl) rfl
set_option maxRecDepth 8000 in
theorem mw_15 : Cond.fieldLink RX8 17 "RunWatcher" "faultKind" "I" ∈ wsG := mT2 (List.mem_of_getElem? (i := 11) rfl) rfl
set_option maxRecDepth 8000 in
theorem mw_16 : Cond.classLink RX8 20 RX5 ∈ wsG := mT1 (List.mem_of_getElem? (i := 22) rfl) rfl
set_option maxRecDepth 8000 in
theorem mw_17 : Cond.instantiable RX5 9 ∈ wsG := mT1 (List.mem_of_getElem? (i := 23) rfl) rfl
set_option maxRecDepth 8000 in
theorem mw_18 : Cond.initialized RX5 ∈ wsG := mT1 (List.mem_of_getElem? (i := 2) rfl) rfl
set_option maxRecDepth 8000 in
theorem mw_19 : Cond.fieldLink RX8 23 "RunWatcher" "reader" "LRunWatcher$Reader;" ∈ wsG := mT2 (List.mem_of_getElem? (i := 12) rfl) rfl
set_option maxRecDepth 8000 in
theorem mw_20 : Cond.classLink RX8 27 RX0 ∈ wsG := mT1 (List.mem_of_getElem? (i := 92) rfl) rfl
set_option maxRecDepth 8000 in
theorem mw_21 : Cond.instantiable RX0 6 ∈ wsG := mT1 (List.mem_of_getElem? (i := 93) rfl) rfl
set_option maxRecDepth 8000 in
theorem mw_22 : Cond.initialized RX0 ∈ wsG := mT1 (List.mem_of_getElem? (i := 4) rfl) rfl
set_option maxRecDepth 8000 in
theorem mw_23 : Cond.fieldLink RX8 30 "RunWatcher" "carry" "LRunWatcher$Carry;" ∈ wsG := mT2 (List.mem_of_getElem? (i := 13) rfl) rfl
set_option maxRecDepth 8000 in
theorem mw_24 : Cond.classLink RX8 34 RX4 ∈ wsG := mT1 (List.mem_of_getElem? (i := 117) rfl) rfl
set_option maxRecDepth 8000 in
theorem mw_25 : Cond.instantiable RX4 11 ∈ wsG := mT1 (List.mem_of_getElem? (i := 118) rfl) rfl
set_option maxRecDepth 8000 in
theorem mw_26 : Cond.initialized RX4 ∈ wsG := mT1 (List.mem_of_getElem? (i := 5) rfl) rfl
set_option maxRecDepth 8000 in
theorem mw_27 : Cond.fieldLink RX8 37 "RunWatcher" "pairs" "LRunWatcher$Pairs;" ∈ wsG := mT2 (List.mem_of_getElem? (i := 14) rfl) rfl
set_option maxRecDepth 8000 in
theorem mw_28 : Cond.classLink RX8 41 RX2 ∈ wsG := mT1 (List.mem_of_getElem? (i := 158) rfl) rfl
set_option maxRecDepth 8000 in
theorem mw_29 : Cond.instantiable RX2 7 ∈ wsG := mT1 (List.mem_of_getElem? (i := 159) rfl) rfl
set_option maxRecDepth 8000 in
theorem mw_30 : Cond.initialized RX2 ∈ wsG := mT1 (List.mem_of_getElem? (i := 6) rfl) rfl
set_option maxRecDepth 8000 in
theorem mw_31 : Cond.fieldLink RX8 44 "RunWatcher" "lessener" "LRunWatcher$Lessener;" ∈ wsG := mT2 (List.mem_of_getElem? (i := 15) rfl) rfl
set_option maxRecDepth 8000 in
theorem mw_32 : Cond.classLink RX8 48 RX7 ∈ wsG := mT1 (List.mem_of_getElem? (i := 186) rfl) rfl
set_option maxRecDepth 8000 in
theorem mw_33 : Cond.instantiable RX7 5 ∈ wsG := mT1 (List.mem_of_getElem? (i := 187) rfl) rfl
set_option maxRecDepth 8000 in
theorem mw_34 : Cond.initialized RX7 ∈ wsG := mT1 (List.mem_of_getElem? (i := 7) rfl) rfl
set_option maxRecDepth 8000 in
theorem mw_35 : Cond.fieldLink RX8 51 "RunWatcher" "watcher" "LRunWatcher$Watcher;" ∈ wsG := mT2 (List.mem_of_getElem? (i := 16) rfl) rfl
set_option maxRecDepth 8000 in
theorem mw_36 : Cond.fieldLink RX8 55 "RunWatcher" "keptWatcher" "LRunWatcher$Watcher;" ∈ wsG := mT2 (List.mem_of_getElem? (i := 17) rfl) rfl
set_option maxRecDepth 8000 in
theorem mw_37 : Cond.classLink RX8 58 RX3 ∈ wsG := mT1 (List.mem_of_getElem? (i := 208) rfl) rfl
set_option maxRecDepth 8000 in
theorem mw_38 : Cond.instantiable RX3 7 ∈ wsG := mT1 (List.mem_of_getElem? (i := 209) rfl) rfl
set_option maxRecDepth 8000 in
theorem mw_39 : Cond.initialized RX3 ∈ wsG := mT1 (List.mem_of_getElem? (i := 8) rfl) rfl
set_option maxRecDepth 8000 in
theorem mw_40 : Cond.fieldLink RX8 61 "RunWatcher" "meeting" "LRunWatcher$Meeting;" ∈ wsG := mT2 (List.mem_of_getElem? (i := 18) rfl) rfl
set_option maxRecDepth 8000 in
theorem mw_41 : Cond.classLink RX8 65 RX1 ∈ wsG := mT1 (List.mem_of_getElem? (i := 236) rfl) rfl
set_option maxRecDepth 8000 in
theorem mw_42 : Cond.instantiable RX1 2 ∈ wsG := mT1 (List.mem_of_getElem? (i := 237) rfl) rfl
set_option maxRecDepth 8000 in
theorem mw_43 : Cond.initialized RX1 ∈ wsG := mT1 (List.mem_of_getElem? (i := 9) rfl) rfl
set_option maxRecDepth 8000 in
theorem mw_44 : Cond.fieldLink RX8 68 "RunWatcher" "keys" "LRunWatcher$Keys;" ∈ wsG := mT2 (List.mem_of_getElem? (i := 19) rfl) rfl
set_option maxRecDepth 8000 in
theorem mw_45 : Cond.methodLink RX8 22 yX5_init ∈ wsG := mT1 (List.mem_of_getElem? (i := 24) rfl) rfl
set_option maxRecDepth 8000 in
theorem mw_46 : Cond.instanceMethod yX5_init ∈ wsG := mT1 (List.mem_of_getElem? (i := 25) rfl) rfl
set_option maxRecDepth 8000 in
theorem mw_47 : Cond.code yX5_init cX5_init 1 none ∈ wsG := mT1 (List.mem_of_getElem? (i := 26) rfl) rfl
set_option maxRecDepth 8000 in
theorem mw_48 : Cond.methodLink RX5 3 objectInit ∈ wsG := mT1 (List.mem_of_getElem? (i := 27) rfl) rfl
set_option maxRecDepth 8000 in
theorem mw_49 : Cond.classLink RX5 9 RX6 ∈ wsG := mT1 (List.mem_of_getElem? (i := 28) rfl) rfl
set_option maxRecDepth 8000 in
theorem mw_50 : Cond.instantiable RX6 9 ∈ wsG := mT1 (List.mem_of_getElem? (i := 29) rfl) rfl
set_option maxRecDepth 8000 in
theorem mw_51 : Cond.initialized RX6 ∈ wsG := mT1 (List.mem_of_getElem? (i := 3) rfl) rfl
set_option maxRecDepth 8000 in
theorem mw_52 : Cond.fieldLink RX5 12 "RunWatcher$Reader" "rule" "LRunWatcher$Rule;" ∈ wsG := mT1 (List.mem_of_getElem? (i := 64) rfl) rfl
set_option maxRecDepth 8000 in
theorem mw_53 : Cond.fieldLink RX5 18 "RunWatcher$Reader" "tape" "[I" ∈ wsG := mT1 (List.mem_of_getElem? (i := 65) rfl) rfl
set_option maxRecDepth 8000 in
theorem mw_54 : Cond.fieldLink RX5 22 "RunWatcher$Reader" "length" "I" ∈ wsG := mT1 (List.mem_of_getElem? (i := 66) rfl) rfl
set_option maxRecDepth 8000 in
theorem mw_55 : Cond.fieldLink RX5 26 "RunWatcher$Reader" "at" "I" ∈ wsG := mT1 (List.mem_of_getElem? (i := 67) rfl) rfl
set_option maxRecDepth 8000 in
theorem mw_56 : Cond.fieldLink RX5 29 "RunWatcher$Reader" "begun" "I" ∈ wsG := mT1 (List.mem_of_getElem? (i := 68) rfl) rfl
set_option maxRecDepth 8000 in
theorem mw_57 : Cond.fieldLink RX5 32 "RunWatcher$Reader" "open" "I" ∈ wsG := mT1 (List.mem_of_getElem? (i := 69) rfl) rfl
set_option maxRecDepth 8000 in
theorem mw_58 : Cond.fieldLink RX5 35 "RunWatcher$Reader" "latestSign" "I" ∈ wsG := mT1 (List.mem_of_getElem? (i := 70) rfl) rfl
set_option maxRecDepth 8000 in
theorem mw_59 : Cond.fieldLink RX5 38 "RunWatcher$Reader" "faultKind" "I" ∈ wsG := mT1 (List.mem_of_getElem? (i := 71) rfl) rfl
set_option maxRecDepth 8000 in
theorem mw_60 : Cond.fieldLink RX5 41 "RunWatcher$Reader" "faultByte" "I" ∈ wsG := mT1 (List.mem_of_getElem? (i := 72) rfl) rfl
set_option maxRecDepth 8000 in
theorem mw_61 : Cond.methodLink RX5 11 yX6_init ∈ wsG := mT1 (List.mem_of_getElem? (i := 30) rfl) rfl
set_option maxRecDepth 8000 in
theorem mw_62 : Cond.instanceMethod yX6_init ∈ wsG := mT1 (List.mem_of_getElem? (i := 31) rfl) rfl
set_option maxRecDepth 8000 in
theorem mw_63 : Cond.code yX6_init cX6_init 1 none ∈ wsG := mT1 (List.mem_of_getElem? (i := 32) rfl) rfl
set_option maxRecDepth 8000 in
theorem mw_64 : Cond.methodLink RX6 3 objectInit ∈ wsG := mT1 (List.mem_of_getElem? (i := 33) rfl) rfl
set_option maxRecDepth 8000 in
theorem mw_65 : Cond.fieldLink RX6 9 "RunWatcher$Rule" "signs" "[I" ∈ wsG := mT1 (List.mem_of_getElem? (i := 34) rfl) rfl
set_option maxRecDepth 8000 in
theorem mw_66 : Cond.fieldLink RX6 15 "RunWatcher$Rule" "firsts" "[I" ∈ wsG := mT1 (List.mem_of_getElem? (i := 35) rfl) rfl
set_option maxRecDepth 8000 in
theorem mw_67 : Cond.fieldLink RX6 18 "RunWatcher$Rule" "seconds" "[I" ∈ wsG := mT1 (List.mem_of_getElem? (i := 36) rfl) rfl
set_option maxRecDepth 8000 in
theorem mw_68 : Cond.fieldLink RX6 21 "RunWatcher$Rule" "places" "[I" ∈ wsG := mT1 (List.mem_of_getElem? (i := 37) rfl) rfl
set_option maxRecDepth 8000 in
theorem mw_69 : Cond.fieldLink RX6 24 "RunWatcher$Rule" "slots" "[I" ∈ wsG := mT1 (List.mem_of_getElem? (i := 38) rfl) rfl
set_option maxRecDepth 8000 in
theorem mw_70 : Cond.arrayClass .boolean ∈ wsG := mT1 (List.mem_of_getElem? (i := 63) rfl) rfl
set_option maxRecDepth 8000 in
theorem mw_71 : Cond.fieldLink RX6 27 "RunWatcher$Rule" "inPast" "[Z" ∈ wsG := mT1 (List.mem_of_getElem? (i := 39) rfl) rfl
set_option maxRecDepth 8000 in
theorem mw_72 : Cond.fieldLink RX6 31 "RunWatcher$Rule" "size" "I" ∈ wsG := mT1 (List.mem_of_getElem? (i := 40) rfl) rfl
set_option maxRecDepth 8000 in
theorem mw_73 : Cond.fieldLink RX6 35 "RunWatcher$Rule" "futureBits" "I" ∈ wsG := mT1 (List.mem_of_getElem? (i := 41) rfl) rfl
set_option maxRecDepth 8000 in
theorem mw_74 : Cond.fieldLink RX6 38 "RunWatcher$Rule" "pastBits" "I" ∈ wsG := mT1 (List.mem_of_getElem? (i := 42) rfl) rfl
set_option maxRecDepth 8000 in
theorem mw_75 : Cond.methodLink RX8 29 yX0_init ∈ wsG := mT1 (List.mem_of_getElem? (i := 94) rfl) rfl
set_option maxRecDepth 8000 in
theorem mw_76 : Cond.instanceMethod yX0_init ∈ wsG := mT1 (List.mem_of_getElem? (i := 95) rfl) rfl
set_option maxRecDepth 8000 in
theorem mw_77 : Cond.code yX0_init cX0_init 1 none ∈ wsG := mT1 (List.mem_of_getElem? (i := 96) rfl) rfl
set_option maxRecDepth 8000 in
theorem mw_78 : Cond.methodLink RX0 3 objectInit ∈ wsG := mT1 (List.mem_of_getElem? (i := 97) rfl) rfl
set_option maxRecDepth 8000 in
theorem mw_79 : Cond.fieldLink RX0 9 "RunWatcher$Carry" "turned" "[I" ∈ wsG := mT1 (List.mem_of_getElem? (i := 98) rfl) rfl
set_option maxRecDepth 8000 in
theorem mw_80 : Cond.fieldLink RX0 15 "RunWatcher$Carry" "kept" "[Z" ∈ wsG := mT1 (List.mem_of_getElem? (i := 99) rfl) rfl
set_option maxRecDepth 8000 in
theorem mw_81 : Cond.fieldLink RX0 19 "RunWatcher$Carry" "possible" "[Z" ∈ wsG := mT1 (List.mem_of_getElem? (i := 100) rfl) rfl
set_option maxRecDepth 8000 in
theorem mw_82 : Cond.fieldLink RX0 22 "RunWatcher$Carry" "futureBits" "I" ∈ wsG := mT1 (List.mem_of_getElem? (i := 101) rfl) rfl
set_option maxRecDepth 8000 in
theorem mw_83 : Cond.fieldLink RX0 26 "RunWatcher$Carry" "pastBits" "I" ∈ wsG := mT1 (List.mem_of_getElem? (i := 102) rfl) rfl
set_option maxRecDepth 8000 in
theorem mw_84 : Cond.fieldLink RX0 29 "RunWatcher$Carry" "noPlace" "I" ∈ wsG := mT1 (List.mem_of_getElem? (i := 103) rfl) rfl
set_option maxRecDepth 8000 in
theorem mw_85 : Cond.methodLink RX8 36 yX4_init ∈ wsG := mT1 (List.mem_of_getElem? (i := 119) rfl) rfl
set_option maxRecDepth 8000 in
theorem mw_86 : Cond.instanceMethod yX4_init ∈ wsG := mT1 (List.mem_of_getElem? (i := 120) rfl) rfl
set_option maxRecDepth 8000 in
theorem mw_87 : Cond.code yX4_init cX4_init 1 none ∈ wsG := mT1 (List.mem_of_getElem? (i := 121) rfl) rfl
set_option maxRecDepth 8000 in
theorem mw_88 : Cond.methodLink RX4 3 objectInit ∈ wsG := mT1 (List.mem_of_getElem? (i := 122) rfl) rfl
set_option maxRecDepth 8000 in
theorem mw_89 : Cond.fieldLink RX4 9 "RunWatcher$Pairs" "pasts" "[I" ∈ wsG := mT1 (List.mem_of_getElem? (i := 123) rfl) rfl
set_option maxRecDepth 8000 in
theorem mw_90 : Cond.arrayClass .long ∈ wsG := mT1 (List.mem_of_getElem? (i := 157) rfl) rfl
set_option maxRecDepth 8000 in
theorem mw_91 : Cond.fieldLink RX4 15 "RunWatcher$Pairs" "sets" "[J" ∈ wsG := mT1 (List.mem_of_getElem? (i := 124) rfl) rfl
set_option maxRecDepth 8000 in
theorem mw_92 : Cond.fieldLink RX4 19 "RunWatcher$Pairs" "leads" "[I" ∈ wsG := mT1 (List.mem_of_getElem? (i := 125) rfl) rfl
set_option maxRecDepth 8000 in
theorem mw_93 : Cond.fieldLink RX4 22 "RunWatcher$Pairs" "kept" "[Z" ∈ wsG := mT1 (List.mem_of_getElem? (i := 126) rfl) rfl
set_option maxRecDepth 8000 in
theorem mw_94 : Cond.fieldLink RX4 26 "RunWatcher$Pairs" "latestOfPast" "[I" ∈ wsG := mT1 (List.mem_of_getElem? (i := 127) rfl) rfl
set_option maxRecDepth 8000 in
theorem mw_95 : Cond.fieldLink RX4 29 "RunWatcher$Pairs" "earlierOfPast" "[I" ∈ wsG := mT1 (List.mem_of_getElem? (i := 128) rfl) rfl
set_option maxRecDepth 8000 in
theorem mw_96 : Cond.fieldLink RX4 32 "RunWatcher$Pairs" "work" "[J" ∈ wsG := mT1 (List.mem_of_getElem? (i := 129) rfl) rfl
set_option maxRecDepth 8000 in
theorem mw_97 : Cond.fieldLink RX4 35 "RunWatcher$Pairs" "workPast" "I" ∈ wsG := mT1 (List.mem_of_getElem? (i := 130) rfl) rfl
set_option maxRecDepth 8000 in
theorem mw_98 : Cond.fieldLink RX4 39 "RunWatcher$Pairs" "words" "I" ∈ wsG := mT1 (List.mem_of_getElem? (i := 131) rfl) rfl
set_option maxRecDepth 8000 in
theorem mw_99 : Cond.fieldLink RX4 42 "RunWatcher$Pairs" "most" "I" ∈ wsG := mT1 (List.mem_of_getElem? (i := 132) rfl) rfl
set_option maxRecDepth 8000 in
theorem mw_100 : Cond.fieldLink RX4 45 "RunWatcher$Pairs" "size" "I" ∈ wsG := mT1 (List.mem_of_getElem? (i := 133) rfl) rfl
set_option maxRecDepth 8000 in
theorem mw_101 : Cond.methodLink RX8 43 yX2_init ∈ wsG := mT1 (List.mem_of_getElem? (i := 160) rfl) rfl
set_option maxRecDepth 8000 in
theorem mw_102 : Cond.instanceMethod yX2_init ∈ wsG := mT1 (List.mem_of_getElem? (i := 161) rfl) rfl
set_option maxRecDepth 8000 in
theorem mw_103 : Cond.code yX2_init cX2_init 1 none ∈ wsG := mT1 (List.mem_of_getElem? (i := 162) rfl) rfl
set_option maxRecDepth 8000 in
theorem mw_104 : Cond.methodLink RX2 3 objectInit ∈ wsG := mT1 (List.mem_of_getElem? (i := 163) rfl) rfl
set_option maxRecDepth 8000 in
theorem mw_105 : Cond.fieldLink RX2 9 "RunWatcher$Lessener" "groups" "[I" ∈ wsG := mT1 (List.mem_of_getElem? (i := 164) rfl) rfl
set_option maxRecDepth 8000 in
theorem mw_106 : Cond.fieldLink RX2 15 "RunWatcher$Lessener" "finer" "[I" ∈ wsG := mT1 (List.mem_of_getElem? (i := 165) rfl) rfl
set_option maxRecDepth 8000 in
theorem mw_107 : Cond.fieldLink RX2 18 "RunWatcher$Lessener" "marks" "[I" ∈ wsG := mT1 (List.mem_of_getElem? (i := 166) rfl) rfl
set_option maxRecDepth 8000 in
theorem mw_108 : Cond.fieldLink RX2 21 "RunWatcher$Lessener" "members" "[I" ∈ wsG := mT1 (List.mem_of_getElem? (i := 167) rfl) rfl
set_option maxRecDepth 8000 in
theorem mw_109 : Cond.fieldLink RX2 24 "RunWatcher$Lessener" "stateOfGroup" "[I" ∈ wsG := mT1 (List.mem_of_getElem? (i := 168) rfl) rfl
set_option maxRecDepth 8000 in
theorem mw_110 : Cond.fieldLink RX2 27 "RunWatcher$Lessener" "groupOfState" "[I" ∈ wsG := mT1 (List.mem_of_getElem? (i := 169) rfl) rfl
set_option maxRecDepth 8000 in
theorem mw_111 : Cond.fieldLink RX2 30 "RunWatcher$Lessener" "many" "I" ∈ wsG := mT1 (List.mem_of_getElem? (i := 170) rfl) rfl
set_option maxRecDepth 8000 in
theorem mw_112 : Cond.methodLink RX8 50 yX7_init ∈ wsG := mT1 (List.mem_of_getElem? (i := 188) rfl) rfl
set_option maxRecDepth 8000 in
theorem mw_113 : Cond.instanceMethod yX7_init ∈ wsG := mT1 (List.mem_of_getElem? (i := 189) rfl) rfl
set_option maxRecDepth 8000 in
theorem mw_114 : Cond.code yX7_init cX7_init 1 none ∈ wsG := mT1 (List.mem_of_getElem? (i := 190) rfl) rfl
set_option maxRecDepth 8000 in
theorem mw_115 : Cond.methodLink RX7 3 objectInit ∈ wsG := mT1 (List.mem_of_getElem? (i := 191) rfl) rfl
set_option maxRecDepth 8000 in
theorem mw_116 : Cond.fieldLink RX7 9 "RunWatcher$Watcher" "leads" "[I" ∈ wsG := mT1 (List.mem_of_getElem? (i := 192) rfl) rfl
set_option maxRecDepth 8000 in
theorem mw_117 : Cond.fieldLink RX7 15 "RunWatcher$Watcher" "verdicts" "[I" ∈ wsG := mT1 (List.mem_of_getElem? (i := 193) rfl) rfl
set_option maxRecDepth 8000 in
theorem mw_118 : Cond.fieldLink RX7 18 "RunWatcher$Watcher" "distances" "[I" ∈ wsG := mT1 (List.mem_of_getElem? (i := 194) rfl) rfl
set_option maxRecDepth 8000 in
theorem mw_119 : Cond.fieldLink RX7 21 "RunWatcher$Watcher" "ways" "[J" ∈ wsG := mT1 (List.mem_of_getElem? (i := 195) rfl) rfl
set_option maxRecDepth 8000 in
theorem mw_120 : Cond.fieldLink RX7 25 "RunWatcher$Watcher" "size" "I" ∈ wsG := mT1 (List.mem_of_getElem? (i := 196) rfl) rfl
set_option maxRecDepth 8000 in
theorem mw_121 : Cond.methodLink RX8 60 yX3_init ∈ wsG := mT1 (List.mem_of_getElem? (i := 210) rfl) rfl
set_option maxRecDepth 8000 in
theorem mw_122 : Cond.instanceMethod yX3_init ∈ wsG := mT1 (List.mem_of_getElem? (i := 211) rfl) rfl
set_option maxRecDepth 8000 in
theorem mw_123 : Cond.code yX3_init cX3_init 1 none ∈ wsG := mT1 (List.mem_of_getElem? (i := 212) rfl) rfl
set_option maxRecDepth 8000 in
theorem mw_124 : Cond.methodLink RX3 3 objectInit ∈ wsG := mT1 (List.mem_of_getElem? (i := 213) rfl) rfl
set_option maxRecDepth 8000 in
theorem mw_125 : Cond.fieldLink RX3 9 "RunWatcher$Meeting" "depths" "[I" ∈ wsG := mT1 (List.mem_of_getElem? (i := 214) rfl) rfl
set_option maxRecDepth 8000 in
theorem mw_126 : Cond.fieldLink RX3 15 "RunWatcher$Meeting" "queue" "[I" ∈ wsG := mT1 (List.mem_of_getElem? (i := 215) rfl) rfl
set_option maxRecDepth 8000 in
theorem mw_127 : Cond.fieldLink RX3 18 "RunWatcher$Meeting" "queued" "I" ∈ wsG := mT1 (List.mem_of_getElem? (i := 216) rfl) rfl
set_option maxRecDepth 8000 in
theorem mw_128 : Cond.fieldLink RX3 22 "RunWatcher$Meeting" "both" "Z" ∈ wsG := mT1 (List.mem_of_getElem? (i := 217) rfl) rfl
set_option maxRecDepth 8000 in
theorem mw_129 : Cond.fieldLink RX3 26 "RunWatcher$Meeting" "thisAlone" "Z" ∈ wsG := mT1 (List.mem_of_getElem? (i := 218) rfl) rfl
set_option maxRecDepth 8000 in
theorem mw_130 : Cond.fieldLink RX3 29 "RunWatcher$Meeting" "thatAlone" "Z" ∈ wsG := mT1 (List.mem_of_getElem? (i := 219) rfl) rfl
set_option maxRecDepth 8000 in
theorem mw_131 : Cond.fieldLink RX3 32 "RunWatcher$Meeting" "shortest" "I" ∈ wsG := mT1 (List.mem_of_getElem? (i := 220) rfl) rfl
set_option maxRecDepth 8000 in
theorem mw_132 : Cond.methodLink RX8 67 yX1_init ∈ wsG := mT1 (List.mem_of_getElem? (i := 238) rfl) rfl
set_option maxRecDepth 8000 in
theorem mw_133 : Cond.instanceMethod yX1_init ∈ wsG := mT1 (List.mem_of_getElem? (i := 239) rfl) rfl
set_option maxRecDepth 8000 in
theorem mw_134 : Cond.code yX1_init cX1_init 1 none ∈ wsG := mT2 (List.mem_of_getElem? (i := 0) rfl) rfl
set_option maxRecDepth 8000 in
theorem mw_135 : Cond.methodLink RX1 3 objectInit ∈ wsG := mT2 (List.mem_of_getElem? (i := 1) rfl) rfl
set_option maxRecDepth 8000 in
theorem mw_136 : Cond.fieldLink RX1 9 "RunWatcher$Keys" "places" "[J" ∈ wsG := mT2 (List.mem_of_getElem? (i := 2) rfl) rfl
set_option maxRecDepth 8000 in
theorem mw_137 : Cond.fieldLink RX1 15 "RunWatcher$Keys" "came" "[I" ∈ wsG := mT2 (List.mem_of_getElem? (i := 3) rfl) rfl
set_option maxRecDepth 8000 in
theorem mw_138 : Cond.methodLink RL 12 yX9_init ∈ wsG := mT4 (List.mem_of_getElem? (i := 139) rfl) rfl
set_option maxRecDepth 8000 in
theorem mw_139 : Cond.instanceMethod yX9_init ∈ wsG := mT4 (List.mem_of_getElem? (i := 140) rfl) rfl
set_option maxRecDepth 8000 in
theorem mw_140 : Cond.code yX9_init cX9_init 1 none ∈ wsG := mT4 (List.mem_of_getElem? (i := 141) rfl) rfl
set_option maxRecDepth 8000 in
theorem mw_141 : Cond.methodLink RX9 1 objectInit ∈ wsG := mT4 (List.mem_of_getElem? (i := 142) rfl) rfl
set_option maxRecDepth 8000 in
theorem mw_142 : Cond.arrayClass .byte ∈ wsG := mT5 (List.mem_of_getElem? (i := 82) rfl) rfl
set_option maxRecDepth 8000 in
theorem mw_143 : Cond.fieldLink RX9 7 "RunWatcherModel" "tape" "[B" ∈ wsG := mT4 (List.mem_of_getElem? (i := 144) rfl) rfl
set_option maxRecDepth 8000 in
theorem mw_144 : Cond.fieldLink RX9 13 "RunWatcherModel" "sign" "[I" ∈ wsG := mT4 (List.mem_of_getElem? (i := 149) rfl) rfl
set_option maxRecDepth 8000 in
theorem mw_145 : Cond.fieldLink RX9 17 "RunWatcherModel" "left" "[I" ∈ wsG := mT4 (List.mem_of_getElem? (i := 150) rfl) rfl
set_option maxRecDepth 8000 in
theorem mw_146 : Cond.fieldLink RX9 20 "RunWatcherModel" "right" "[I" ∈ wsG := mT4 (List.mem_of_getElem? (i := 151) rfl) rfl
set_option maxRecDepth 8000 in
theorem mw_147 : Cond.fieldLink RX9 23 "RunWatcherModel" "where" "[I" ∈ wsG := mT4 (List.mem_of_getElem? (i := 152) rfl) rfl
set_option maxRecDepth 8000 in
theorem mw_148 : Cond.fieldLink RX9 26 "RunWatcherModel" "operand" "[I" ∈ wsG := mT4 (List.mem_of_getElem? (i := 154) rfl) rfl
set_option maxRecDepth 8000 in
theorem mw_149 : Cond.fieldLink RX9 29 "RunWatcherModel" "wait" "[I" ∈ wsG := mT4 (List.mem_of_getElem? (i := 156) rfl) rfl
set_option maxRecDepth 8000 in
theorem mw_150 : Cond.fieldLink RX9 32 "RunWatcherModel" "waitAt" "[I" ∈ wsG := mT4 (List.mem_of_getElem? (i := 157) rfl) rfl
set_option maxRecDepth 8000 in
theorem mw_151 : Cond.fieldLink RX9 35 "RunWatcherModel" "within" "[Z" ∈ wsG := mT4 (List.mem_of_getElem? (i := 158) rfl) rfl
set_option maxRecDepth 8000 in
theorem mw_152 : Cond.fieldLink RX9 39 "RunWatcherModel" "bit" "[I" ∈ wsG := mT4 (List.mem_of_getElem? (i := 161) rfl) rfl
set_option maxRecDepth 8000 in
theorem mw_153 : Cond.fieldLink RX9 42 "RunWatcherModel" "holds" "[Z" ∈ wsG := mT4 (List.mem_of_getElem? (i := 164) rfl) rfl
set_option maxRecDepth 8000 in
theorem mw_154 : Cond.fieldLink RX9 45 "RunWatcherModel" "leadsBack" "[I" ∈ wsG := mT4 (List.mem_of_getElem? (i := 167) rfl) rfl
set_option maxRecDepth 8000 in
theorem mw_155 : Cond.fieldLink RX9 48 "RunWatcherModel" "tells" "[I" ∈ wsG := mT4 (List.mem_of_getElem? (i := 168) rfl) rfl
set_option maxRecDepth 8000 in
theorem mw_156 : Cond.fieldLink RX9 51 "RunWatcherModel" "root" "[Z" ∈ wsG := mT4 (List.mem_of_getElem? (i := 169) rfl) rfl
set_option maxRecDepth 8000 in
theorem mw_157 : Cond.fieldLink RX9 54 "RunWatcherModel" "can" "[Z" ∈ wsG := mT4 (List.mem_of_getElem? (i := 170) rfl) rfl
set_option maxRecDepth 8000 in
theorem mw_158 : Cond.fieldLink RX9 57 "RunWatcherModel" "rawBack" "[I" ∈ wsG := mT4 (List.mem_of_getElem? (i := 172) rfl) rfl
set_option maxRecDepth 8000 in
theorem mw_159 : Cond.constant RX9 60 (33300) ∈ wsG := mT4 (List.mem_of_getElem? (i := 143) rfl) rfl
set_option maxRecDepth 8000 in
theorem mw_160 : Cond.fieldLink RX9 61 "RunWatcherModel" "rawKept" "[Z" ∈ wsG := mT4 (List.mem_of_getElem? (i := 173) rfl) rfl
set_option maxRecDepth 8000 in
theorem mw_161 : Cond.fieldLink RX9 64 "RunWatcherModel" "rawTo" "[I" ∈ wsG := mT4 (List.mem_of_getElem? (i := 174) rfl) rfl
set_option maxRecDepth 8000 in
theorem mw_162 : Cond.fieldLink RX9 67 "RunWatcherModel" "listed" "[I" ∈ wsG := mT4 (List.mem_of_getElem? (i := 175) rfl) rfl
set_option maxRecDepth 8000 in
theorem mw_163 : Cond.fieldLink RX9 70 "RunWatcherModel" "list" "[I" ∈ wsG := mT4 (List.mem_of_getElem? (i := 176) rfl) rfl
set_option maxRecDepth 8000 in
theorem mw_164 : Cond.fieldLink RX9 73 "RunWatcherModel" "fresh" "[Z" ∈ wsG := mT4 (List.mem_of_getElem? (i := 177) rfl) rfl
set_option maxRecDepth 8000 in
theorem mw_165 : Cond.fieldLink RX9 76 "RunWatcherModel" "kind" "[I" ∈ wsG := mT4 (List.mem_of_getElem? (i := 178) rfl) rfl
set_option maxRecDepth 8000 in
theorem mw_166 : Cond.fieldLink RX9 79 "RunWatcherModel" "newKind" "[I" ∈ wsG := mT4 (List.mem_of_getElem? (i := 179) rfl) rfl
set_option maxRecDepth 8000 in
theorem mw_167 : Cond.fieldLink RX9 82 "RunWatcherModel" "example" "[I" ∈ wsG := mT4 (List.mem_of_getElem? (i := 181) rfl) rfl
set_option maxRecDepth 8000 in
theorem mw_168 : Cond.fieldLink RX9 85 "RunWatcherModel" "to" "[I" ∈ wsG := mT4 (List.mem_of_getElem? (i := 184) rfl) rfl
set_option maxRecDepth 8000 in
theorem mw_169 : Cond.fieldLink RX9 88 "RunWatcherModel" "kept" "[Z" ∈ wsG := mT4 (List.mem_of_getElem? (i := 185) rfl) rfl
set_option maxRecDepth 8000 in
theorem mw_170 : Cond.fieldLink RX9 91 "RunWatcherModel" "verdict" "[I" ∈ wsG := mT4 (List.mem_of_getElem? (i := 186) rfl) rfl
set_option maxRecDepth 8000 in
theorem mw_171 : Cond.fieldLink RX9 94 "RunWatcherModel" "number" "[I" ∈ wsG := mT4 (List.mem_of_getElem? (i := 187) rfl) rfl
set_option maxRecDepth 8000 in
theorem mw_172 : Cond.fieldLink RX9 97 "RunWatcherModel" "ofKind" "[I" ∈ wsG := mT4 (List.mem_of_getElem? (i := 188) rfl) rfl
set_option maxRecDepth 8000 in
theorem mw_173 : Cond.fieldLink RX9 100 "RunWatcherModel" "far" "[I" ∈ wsG := mT4 (List.mem_of_getElem? (i := 189) rfl) rfl
set_option maxRecDepth 8000 in
theorem mw_174 : Cond.fieldLink RX9 103 "RunWatcherModel" "row" "[I" ∈ wsG := mT4 (List.mem_of_getElem? (i := 190) rfl) rfl
set_option maxRecDepth 8000 in
theorem mw_175 : Cond.fieldLink RX9 106 "RunWatcherModel" "rows" "[J" ∈ wsG := mT4 (List.mem_of_getElem? (i := 191) rfl) rfl
set_option maxRecDepth 8000 in
theorem mw_176 : Cond.fieldLink RX9 110 "RunWatcherModel" "may" "[Z" ∈ wsG := mT4 (List.mem_of_getElem? (i := 192) rfl) rfl
set_option maxRecDepth 8000 in
theorem mw_177 : Cond.fieldLink RX9 113 "RunWatcherModel" "then" "[Z" ∈ wsG := mT4 (List.mem_of_getElem? (i := 193) rfl) rfl
set_option maxRecDepth 8000 in
theorem mw_178 : Cond.fieldLink RX9 116 "RunWatcherModel" "events" "[I" ∈ wsG := mT4 (List.mem_of_getElem? (i := 194) rfl) rfl
set_option maxRecDepth 8000 in
theorem mw_179 : Cond.fieldLink RX9 119 "RunWatcherModel" "oldTo" "[I" ∈ wsG := mT4 (List.mem_of_getElem? (i := 197) rfl) rfl
set_option maxRecDepth 8000 in
theorem mw_180 : Cond.fieldLink RX9 122 "RunWatcherModel" "oldKept" "[Z" ∈ wsG := mT4 (List.mem_of_getElem? (i := 198) rfl) rfl
set_option maxRecDepth 8000 in
theorem mw_181 : Cond.fieldLink RX9 125 "RunWatcherModel" "pair" "[I" ∈ wsG := mT4 (List.mem_of_getElem? (i := 200) rfl) rfl
set_option maxRecDepth 8000 in
theorem mw_182 : Cond.fieldLink RX9 128 "RunWatcherModel" "pairFar" "[I" ∈ wsG := mT4 (List.mem_of_getElem? (i := 201) rfl) rfl
set_option maxRecDepth 8000 in
theorem mw_183 : Cond.fieldLink RX9 131 "RunWatcherModel" "isMet" "[Z" ∈ wsG := mT4 (List.mem_of_getElem? (i := 202) rfl) rfl
set_option maxRecDepth 8000 in
theorem mw_184 : Cond.methodLink RL 15 yX8_feed ∈ wsG := mT2 (List.mem_of_getElem? (i := 43) rfl) rfl
set_option maxRecDepth 8000 in
theorem mw_185 : Cond.instanceMethod yX8_feed ∈ wsG := mT2 (List.mem_of_getElem? (i := 44) rfl) rfl
set_option maxRecDepth 8000 in
theorem mw_186 : Cond.selects RX8 yX8_feed yX8_feed ∈ wsG := mT2 (List.mem_of_getElem? (i := 45) rfl) rfl
set_option maxRecDepth 8000 in
theorem mw_187 : Cond.code yX8_feed cX8_feed 5 (some .int) ∈ wsG := mT2 (List.mem_of_getElem? (i := 46) rfl) rfl
set_option maxRecDepth 8000 in
theorem mw_188 : Cond.methodLink RX8 72 yX8_bytesIn ∈ wsG := mT2 (List.mem_of_getElem? (i := 47) rfl) rfl
set_option maxRecDepth 8000 in
theorem mw_189 : Cond.static yX8_bytesIn ∈ wsG := mT2 (List.mem_of_getElem? (i := 48) rfl) rfl
set_option maxRecDepth 8000 in
theorem mw_190 : Cond.code yX8_bytesIn cX8_bytesIn 3 (some .int) ∈ wsG := mT2 (List.mem_of_getElem? (i := 49) rfl) rfl
set_option maxRecDepth 8000 in
theorem mw_191 : Cond.methodLink RX8 76 yX8_byteOf ∈ wsG := mT2 (List.mem_of_getElem? (i := 50) rfl) rfl
set_option maxRecDepth 8000 in
theorem mw_192 : Cond.static yX8_byteOf ∈ wsG := mT2 (List.mem_of_getElem? (i := 51) rfl) rfl
set_option maxRecDepth 8000 in
theorem mw_193 : Cond.code yX8_byteOf cX8_byteOf 3 (some .int) ∈ wsG := mT2 (List.mem_of_getElem? (i := 52) rfl) rfl
set_option maxRecDepth 8000 in
theorem mw_194 : Cond.methodLink RL 19 yX9_feed ∈ wsG := mT5 (List.mem_of_getElem? (i := 83) rfl) rfl
set_option maxRecDepth 8000 in
theorem mw_195 : Cond.instanceMethod yX9_feed ∈ wsG := mT5 (List.mem_of_getElem? (i := 84) rfl) rfl
set_option maxRecDepth 8000 in
theorem mw_196 : Cond.selects RX9 yX9_feed yX9_feed ∈ wsG := mT5 (List.mem_of_getElem? (i := 85) rfl) rfl
set_option maxRecDepth 8000 in
theorem mw_197 : Cond.code yX9_feed cX9_feed 5 (some .int) ∈ wsG := mT5 (List.mem_of_getElem? (i := 86) rfl) rfl
set_option maxRecDepth 8000 in
theorem mw_198 : Cond.constantLong RX9 134 (255) ∈ wsG := mT5 (List.mem_of_getElem? (i := 87) rfl) rfl
set_option maxRecDepth 8000 in
theorem mw_199 : Cond.fieldLink RX9 136 "RunWatcherModel" "bytes" "I" ∈ wsG := mT4 (List.mem_of_getElem? (i := 145) rfl) rfl
set_option maxRecDepth 8000 in
theorem mw_200 : Cond.methodLink RL 20 yX8_read ∈ wsG := mT2 (List.mem_of_getElem? (i := 53) rfl) rfl
set_option maxRecDepth 8000 in
theorem mw_201 : Cond.instanceMethod yX8_read ∈ wsG := mT2 (List.mem_of_getElem? (i := 54) rfl) rfl
set_option maxRecDepth 8000 in
theorem mw_202 : Cond.selects RX8 yX8_read yX8_read ∈ wsG := mT2 (List.mem_of_getElem? (i := 55) rfl) rfl
set_option maxRecDepth 8000 in
theorem mw_203 : Cond.code yX8_read cX8_read 2 (some .int) ∈ wsG := mT2 (List.mem_of_getElem? (i := 56) rfl) rfl
set_option maxRecDepth 8000 in
theorem mw_204 : Cond.methodLink RX8 80 yX5_reads ∈ wsG := mT2 (List.mem_of_getElem? (i := 57) rfl) rfl
set_option maxRecDepth 8000 in
theorem mw_205 : Cond.instanceMethod yX5_reads ∈ wsG := mT2 (List.mem_of_getElem? (i := 58) rfl) rfl
set_option maxRecDepth 8000 in
theorem mw_206 : Cond.selects RX5 yX5_reads yX5_reads ∈ wsG := mT2 (List.mem_of_getElem? (i := 59) rfl) rfl
set_option maxRecDepth 8000 in
theorem mw_207 : Cond.code yX5_reads cX5_reads 4 (some .boolean) ∈ wsG := mT2 (List.mem_of_getElem? (i := 60) rfl) rfl
set_option maxRecDepth 8000 in
theorem mw_208 : Cond.methodLink RX5 44 yX6_clear ∈ wsG := mT2 (List.mem_of_getElem? (i := 61) rfl) rfl
set_option maxRecDepth 8000 in
theorem mw_209 : Cond.instanceMethod yX6_clear ∈ wsG := mT2 (List.mem_of_getElem? (i := 62) rfl) rfl
set_option maxRecDepth 8000 in
theorem mw_210 : Cond.selects RX6 yX6_clear yX6_clear ∈ wsG := mT2 (List.mem_of_getElem? (i := 63) rfl) rfl
set_option maxRecDepth 8000 in
theorem mw_211 : Cond.code yX6_clear cX6_clear 1 none ∈ wsG := mT2 (List.mem_of_getElem? (i := 64) rfl) rfl
set_option maxRecDepth 8000 in
theorem mw_212 : Cond.methodLink RX5 47 yX5_readRule ∈ wsG := mT2 (List.mem_of_getElem? (i := 65) rfl) rfl
set_option maxRecDepth 8000 in
theorem mw_213 : Cond.instanceMethod yX5_readRule ∈ wsG := mT2 (List.mem_of_getElem? (i := 67) rfl) rfl
theorem mw_214 : Cond.selects RX5 yX5_readRule yX5_readRule ∈ wsG := mP1 (q := (yX5_readRule, _)) (List.mem_of_getElem? (i := 0) rfl) rfl
set_option maxRecDepth 8000 in
theorem mw_215 : Cond.code yX5_readRule cX5_readRule 4 (some .int) ∈ wsG := mT2 (List.mem_of_getElem? (i := 68) rfl) rfl
set_option maxRecDepth 8000 in
theorem mw_216 : Cond.methodLink RX5 75 yX5_readEither ∈ wsG := mT2 (List.mem_of_getElem? (i := 69) rfl) rfl
set_option maxRecDepth 8000 in
theorem mw_217 : Cond.instanceMethod yX5_readEither ∈ wsG := mT2 (List.mem_of_getElem? (i := 71) rfl) rfl
theorem mw_218 : Cond.selects RX5 yX5_readEither yX5_readEither ∈ wsG := mP1 (q := (yX5_readEither, _)) (List.mem_of_getElem? (i := 1) rfl) rfl
set_option maxRecDepth 8000 in
theorem mw_219 : Cond.methodLink RX5 78 yX5_takes ∈ wsG := mT2 (List.mem_of_getElem? (i := 128) rfl) rfl
set_option maxRecDepth 8000 in
theorem mw_220 : Cond.instanceMethod yX5_takes ∈ wsG := mT2 (List.mem_of_getElem? (i := 130) rfl) rfl
theorem mw_221 : Cond.selects RX5 yX5_takes yX5_takes ∈ wsG := mP1 (q := (yX5_takes, _)) (List.mem_of_getElem? (i := 11) rfl) rfl
set_option maxRecDepth 8000 in
theorem mw_222 : Cond.code yX5_takes cX5_takes 2 (some .boolean) ∈ wsG := mT2 (List.mem_of_getElem? (i := 131) rfl) rfl
set_option maxRecDepth 8000 in
theorem mw_223 : Cond.methodLink RX5 51 yX5_failed ∈ wsG := mT2 (List.mem_of_getElem? (i := 100) rfl) rfl
set_option maxRecDepth 8000 in
theorem mw_224 : Cond.instanceMethod yX5_failed ∈ wsG := mT2 (List.mem_of_getElem? (i := 102) rfl) rfl
theorem mw_225 : Cond.selects RX5 yX5_failed yX5_failed ∈ wsG := mP1 (q := (yX5_failed, _)) (List.mem_of_getElem? (i := 8) rfl) rfl
set_option maxRecDepth 8000 in
theorem mw_226 : Cond.code yX5_failed cX5_failed 1 (some .boolean) ∈ wsG := mT2 (List.mem_of_getElem? (i := 103) rfl) rfl
set_option maxRecDepth 8000 in
theorem mw_227 : Cond.methodLink RX5 55 yX5_here ∈ wsG := mT2 (List.mem_of_getElem? (i := 85) rfl) rfl
set_option maxRecDepth 8000 in
theorem mw_228 : Cond.instanceMethod yX5_here ∈ wsG := mT2 (List.mem_of_getElem? (i := 87) rfl) rfl
theorem mw_229 : Cond.selects RX5 yX5_here yX5_here ∈ wsG := mP1 (q := (yX5_here, _)) (List.mem_of_getElem? (i := 5) rfl) rfl
set_option maxRecDepth 8000 in
theorem mw_230 : Cond.code yX5_here cX5_here 2 (some .int) ∈ wsG := mT2 (List.mem_of_getElem? (i := 88) rfl) rfl
set_option maxRecDepth 8000 in
theorem mw_231 : Cond.static yX8_pick ∈ wsG := mT2 (List.mem_of_getElem? (i := 90) rfl) rfl
set_option maxRecDepth 8000 in
theorem mw_232 : Cond.code yX8_pick cX8_pick 2 (some .int) ∈ wsG := mT2 (List.mem_of_getElem? (i := 91) rfl) rfl
set_option maxRecDepth 8000 in
theorem mw_233 : Cond.methodLink RX5 68 yX5_beginsNode ∈ wsG := mT2 (List.mem_of_getElem? (i := 113) rfl) rfl
set_option maxRecDepth 8000 in
theorem mw_234 : Cond.instanceMethod yX5_beginsNode ∈ wsG := mT2 (List.mem_of_getElem? (i := 115) rfl) rfl
theorem mw_235 : Cond.selects RX5 yX5_beginsNode yX5_beginsNode ∈ wsG := mP1 (q := (yX5_beginsNode, _)) (List.mem_of_getElem? (i := 9) rfl) rfl
set_option maxRecDepth 8000 in
theorem mw_236 : Cond.code yX5_beginsNode cX5_beginsNode 1 (some .boolean) ∈ wsG := mT2 (List.mem_of_getElem? (i := 116) rfl) rfl
set_option maxRecDepth 8000 in
theorem mw_237 : Cond.methodLink RX5 58 yX5_failHere ∈ wsG := mT2 (List.mem_of_getElem? (i := 96) rfl) rfl
set_option maxRecDepth 8000 in
theorem mw_238 : Cond.instanceMethod yX5_failHere ∈ wsG := mT2 (List.mem_of_getElem? (i := 98) rfl) rfl
theorem mw_239 : Cond.selects RX5 yX5_failHere yX5_failHere ∈ wsG := mP1 (q := (yX5_failHere, _)) (List.mem_of_getElem? (i := 7) rfl) rfl
set_option maxRecDepth 8000 in
theorem mw_240 : Cond.code yX5_failHere cX5_failHere 1 none ∈ wsG := mT2 (List.mem_of_getElem? (i := 99) rfl) rfl
set_option maxRecDepth 8000 in
theorem mw_241 : Cond.methodLink RX5 82 yX5_made ∈ wsG := mT2 (List.mem_of_getElem? (i := 117) rfl) rfl
set_option maxRecDepth 8000 in
theorem mw_242 : Cond.instanceMethod yX5_made ∈ wsG := mT2 (List.mem_of_getElem? (i := 119) rfl) rfl
theorem mw_243 : Cond.selects RX5 yX5_made yX5_made ∈ wsG := mP1 (q := (yX5_made, _)) (List.mem_of_getElem? (i := 10) rfl) rfl
set_option maxRecDepth 8000 in
theorem mw_244 : Cond.code yX5_made cX5_made 5 (some .int) ∈ wsG := mT2 (List.mem_of_getElem? (i := 120) rfl) rfl
set_option maxRecDepth 8000 in
theorem mw_245 : Cond.methodLink RX5 71 yX6_add ∈ wsG := mT2 (List.mem_of_getElem? (i := 121) rfl) rfl
set_option maxRecDepth 8000 in
theorem mw_246 : Cond.instanceMethod yX6_add ∈ wsG := mT2 (List.mem_of_getElem? (i := 122) rfl) rfl
set_option maxRecDepth 8000 in
theorem mw_247 : Cond.selects RX6 yX6_add yX6_add ∈ wsG := mT2 (List.mem_of_getElem? (i := 123) rfl) rfl
set_option maxRecDepth 8000 in
theorem mw_248 : Cond.code yX6_add cX6_add 5 (some .int) ∈ wsG := mT2 (List.mem_of_getElem? (i := 124) rfl) rfl
set_option maxRecDepth 8000 in
theorem mw_249 : Cond.static yX8_put ∈ wsG := mT2 (List.mem_of_getElem? (i := 126) rfl) rfl
set_option maxRecDepth 8000 in
theorem mw_250 : Cond.code yX8_put cX8_put 3 none ∈ wsG := mT2 (List.mem_of_getElem? (i := 127) rfl) rfl
set_option maxRecDepth 8000 in
theorem mw_251 : Cond.code yX5_readBoth cX5_readBoth 5 (some .int) ∈ wsG := mT2 (List.mem_of_getElem? (i := 76) rfl) rfl
set_option maxRecDepth 8000 in
theorem mw_252 : Cond.methodLink RX5 88 yX5_readPair ∈ wsG := mT2 (List.mem_of_getElem? (i := 77) rfl) rfl
set_option maxRecDepth 8000 in
theorem mw_253 : Cond.instanceMethod yX5_readPair ∈ wsG := mT2 (List.mem_of_getElem? (i := 79) rfl) rfl
theorem mw_254 : Cond.selects RX5 yX5_readPair yX5_readPair ∈ wsG := mP1 (q := (yX5_readPair, _)) (List.mem_of_getElem? (i := 3) rfl) rfl
set_option maxRecDepth 8000 in
theorem mw_255 : Cond.code yX5_readBracket cX5_readBracket 2 (some .int) ∈ wsG := mT2 (List.mem_of_getElem? (i := 95) rfl) rfl
set_option maxRecDepth 8000 in
theorem mw_256 : Cond.code yX5_readEither cX5_readEither 5 (some .int) ∈ wsG := mT2 (List.mem_of_getElem? (i := 72) rfl) rfl
set_option maxRecDepth 8000 in
theorem mw_257 : Cond.methodLink RX5 85 yX5_readBoth ∈ wsG := mT2 (List.mem_of_getElem? (i := 73) rfl) rfl
set_option maxRecDepth 8000 in
theorem mw_258 : Cond.instanceMethod yX5_readBoth ∈ wsG := mT2 (List.mem_of_getElem? (i := 75) rfl) rfl
theorem mw_259 : Cond.selects RX5 yX5_readBoth yX5_readBoth ∈ wsG := mP1 (q := (yX5_readBoth, _)) (List.mem_of_getElem? (i := 2) rfl) rfl
set_option maxRecDepth 8000 in
theorem mw_260 : Cond.code yX5_readOne cX5_readOne 4 (some .int) ∈ wsG := mT2 (List.mem_of_getElem? (i := 84) rfl) rfl
set_option maxRecDepth 8000 in
theorem mw_261 : Cond.methodLink RX5 94 yX5_readBracket ∈ wsG := mT2 (List.mem_of_getElem? (i := 92) rfl) rfl
set_option maxRecDepth 8000 in
theorem mw_262 : Cond.instanceMethod yX5_readBracket ∈ wsG := mT2 (List.mem_of_getElem? (i := 94) rfl) rfl
theorem mw_263 : Cond.selects RX5 yX5_readBracket yX5_readBracket ∈ wsG := mP1 (q := (yX5_readBracket, _)) (List.mem_of_getElem? (i := 6) rfl) rfl
set_option maxRecDepth 8000 in
theorem mw_264 : Cond.methodLink RX5 97 yX5_standsAheadOfOne ∈ wsG := mT2 (List.mem_of_getElem? (i := 104) rfl) rfl
set_option maxRecDepth 8000 in
theorem mw_265 : Cond.static yX5_standsAheadOfOne ∈ wsG := mT2 (List.mem_of_getElem? (i := 105) rfl) rfl
set_option maxRecDepth 8000 in
theorem mw_266 : Cond.code yX5_standsAheadOfOne cX5_standsAheadOfOne 1 (some .boolean) ∈ wsG := mT2 (List.mem_of_getElem? (i := 106) rfl) rfl
set_option maxRecDepth 8000 in
theorem mw_267 : Cond.methodLink RX5 100 yX6_looksBehind ∈ wsG := mT2 (List.mem_of_getElem? (i := 107) rfl) rfl
set_option maxRecDepth 8000 in
theorem mw_268 : Cond.static yX6_looksBehind ∈ wsG := mT2 (List.mem_of_getElem? (i := 108) rfl) rfl
set_option maxRecDepth 8000 in
theorem mw_269 : Cond.code yX6_looksBehind cX6_looksBehind 1 (some .boolean) ∈ wsG := mT2 (List.mem_of_getElem? (i := 109) rfl) rfl
set_option maxRecDepth 8000 in
theorem mw_270 : Cond.methodLink RX5 103 yX6_looksAhead ∈ wsG := mT2 (List.mem_of_getElem? (i := 110) rfl) rfl
set_option maxRecDepth 8000 in
theorem mw_271 : Cond.static yX6_looksAhead ∈ wsG := mT2 (List.mem_of_getElem? (i := 111) rfl) rfl
set_option maxRecDepth 8000 in
theorem mw_272 : Cond.code yX6_looksAhead cX6_looksAhead 1 (some .boolean) ∈ wsG := mT2 (List.mem_of_getElem? (i := 112) rfl) rfl
set_option maxRecDepth 8000 in
theorem mw_273 : Cond.methodLink RX5 91 yX5_readOne ∈ wsG := mT2 (List.mem_of_getElem? (i := 81) rfl) rfl
set_option maxRecDepth 8000 in
theorem mw_274 : Cond.instanceMethod yX5_readOne ∈ wsG := mT2 (List.mem_of_getElem? (i := 83) rfl) rfl
theorem mw_275 : Cond.selects RX5 yX5_readOne yX5_readOne ∈ wsG := mP1 (q := (yX5_readOne, _)) (List.mem_of_getElem? (i := 4) rfl) rfl
set_option maxRecDepth 8000 in
theorem mw_276 : Cond.code yX5_readPair cX5_readPair 5 (some .int) ∈ wsG := mT2 (List.mem_of_getElem? (i := 80) rfl) rfl
set_option maxRecDepth 8000 in
theorem mw_277 : Cond.methodLink RX5 61 yX6_firstPastFault ∈ wsG := mT2 (List.mem_of_getElem? (i := 132) rfl) rfl
set_option maxRecDepth 8000 in
theorem mw_278 : Cond.instanceMethod yX6_firstPastFault ∈ wsG := mT2 (List.mem_of_getElem? (i := 133) rfl) rfl
set_option maxRecDepth 8000 in
theorem mw_279 : Cond.selects RX6 yX6_firstPastFault yX6_firstPastFault ∈ wsG := mT2 (List.mem_of_getElem? (i := 134) rfl) rfl
set_option maxRecDepth 8000 in
theorem mw_280 : Cond.code yX6_firstPastFault cX6_firstPastFault 5 (some .int) ∈ wsG := mT2 (List.mem_of_getElem? (i := 135) rfl) rfl
set_option maxRecDepth 8000 in
theorem mw_281 : Cond.static yX8_set ∈ wsG := mT2 (List.mem_of_getElem? (i := 137) rfl) rfl
set_option maxRecDepth 8000 in
theorem mw_282 : Cond.code yX8_set cX8_set 3 none ∈ wsG := mT2 (List.mem_of_getElem? (i := 138) rfl) rfl
set_option maxRecDepth 8000 in
theorem mw_283 : Cond.static yX8_isSet ∈ wsG := mT2 (List.mem_of_getElem? (i := 141) rfl) rfl
set_option maxRecDepth 8000 in
theorem mw_284 : Cond.code yX8_isSet cX8_isSet 2 (some .boolean) ∈ wsG := mT2 (List.mem_of_getElem? (i := 142) rfl) rfl
set_option maxRecDepth 8000 in
theorem mw_285 : Cond.methodLink RX6 57 yX6_looksAhead ∈ wsG := mT2 (List.mem_of_getElem? (i := 143) rfl) rfl
set_option maxRecDepth 8000 in
theorem mw_286 : Cond.methodLink RX6 61 yX6_looksBehind ∈ wsG := mT2 (List.mem_of_getElem? (i := 144) rfl) rfl
set_option maxRecDepth 8000 in
theorem mw_287 : Cond.methodLink RX8 84 yX5_faultKind ∈ wsG := mT2 (List.mem_of_getElem? (i := 145) rfl) rfl
set_option maxRecDepth 8000 in
theorem mw_288 : Cond.instanceMethod yX5_faultKind ∈ wsG := mT2 (List.mem_of_getElem? (i := 146) rfl) rfl
set_option maxRecDepth 8000 in
theorem mw_289 : Cond.selects RX5 yX5_faultKind yX5_faultKind ∈ wsG := mT2 (List.mem_of_getElem? (i := 147) rfl) rfl
set_option maxRecDepth 8000 in
theorem mw_290 : Cond.code yX5_faultKind cX5_faultKind 1 (some .int) ∈ wsG := mT2 (List.mem_of_getElem? (i := 148) rfl) rfl
set_option maxRecDepth 8000 in
theorem mw_291 : Cond.methodLink RX8 87 yX5_faultByte ∈ wsG := mT2 (List.mem_of_getElem? (i := 149) rfl) rfl
set_option maxRecDepth 8000 in
theorem mw_292 : Cond.instanceMethod yX5_faultByte ∈ wsG := mT2 (List.mem_of_getElem? (i := 150) rfl) rfl
set_option maxRecDepth 8000 in
theorem mw_293 : Cond.selects RX5 yX5_faultByte yX5_faultByte ∈ wsG := mT2 (List.mem_of_getElem? (i := 151) rfl) rfl
set_option maxRecDepth 8000 in
theorem mw_294 : Cond.code yX5_faultByte cX5_faultByte 1 (some .int) ∈ wsG := mT2 (List.mem_of_getElem? (i := 152) rfl) rfl
set_option maxRecDepth 8000 in
theorem mw_295 : Cond.methodLink RX8 90 yX5_rule ∈ wsG := mT2 (List.mem_of_getElem? (i := 153) rfl) rfl
set_option maxRecDepth 8000 in
theorem mw_296 : Cond.instanceMethod yX5_rule ∈ wsG := mT2 (List.mem_of_getElem? (i := 154) rfl) rfl
set_option maxRecDepth 8000 in
theorem mw_297 : Cond.selects RX5 yX5_rule yX5_rule ∈ wsG := mT2 (List.mem_of_getElem? (i := 155) rfl) rfl
set_option maxRecDepth 8000 in
theorem mw_298 : Cond.code yX5_rule cX5_rule 1 (some (.object "RunWatcher$Rule")) ∈ wsG := mT2 (List.mem_of_getElem? (i := 156) rfl) rfl
set_option maxRecDepth 8000 in
theorem mw_299 : Cond.methodLink RX8 94 yX0_make ∈ wsG := mT2 (List.mem_of_getElem? (i := 157) rfl) rfl
set_option maxRecDepth 8000 in
theorem mw_300 : Cond.instanceMethod yX0_make ∈ wsG := mT2 (List.mem_of_getElem? (i := 158) rfl) rfl
set_option maxRecDepth 8000 in
theorem mw_301 : Cond.selects RX0 yX0_make yX0_make ∈ wsG := mT2 (List.mem_of_getElem? (i := 159) rfl) rfl
set_option maxRecDepth 8000 in
theorem mw_302 : Cond.code yX0_make cX0_make 5 none ∈ wsG := mT2 (List.mem_of_getElem? (i := 160) rfl) rfl
set_option maxRecDepth 8000 in
theorem mw_303 : Cond.methodLink RX0 32 yX6_giveBits ∈ wsG := mT2 (List.mem_of_getElem? (i := 161) rfl) rfl
set_option maxRecDepth 8000 in
theorem mw_304 : Cond.instanceMethod yX6_giveBits ∈ wsG := mT2 (List.mem_of_getElem? (i := 162) rfl) rfl
set_option maxRecDepth 8000 in
theorem mw_305 : Cond.selects RX6 yX6_giveBits yX6_giveBits ∈ wsG := mT2 (List.mem_of_getElem? (i := 163) rfl) rfl
set_option maxRecDepth 8000 in
theorem mw_306 : Cond.code yX6_giveBits cX6_giveBits 2 none ∈ wsG := mT2 (List.mem_of_getElem? (i := 164) rfl) rfl
set_option maxRecDepth 8000 in
theorem mw_307 : Cond.methodLink RX0 37 yX6_futureBits ∈ wsG := mT2 (List.mem_of_getElem? (i := 165) rfl) rfl
set_option maxRecDepth 8000 in
theorem mw_308 : Cond.instanceMethod yX6_futureBits ∈ wsG := mT2 (List.mem_of_getElem? (i := 166) rfl) rfl
set_option maxRecDepth 8000 in
theorem mw_309 : Cond.selects RX6 yX6_futureBits yX6_futureBits ∈ wsG := mT2 (List.mem_of_getElem? (i := 167) rfl) rfl
set_option maxRecDepth 8000 in
theorem mw_310 : Cond.code yX6_futureBits cX6_futureBits 1 (some .int) ∈ wsG := mT2 (List.mem_of_getElem? (i := 168) rfl) rfl
set_option maxRecDepth 8000 in
theorem mw_311 : Cond.methodLink RX0 40 yX6_pastBits ∈ wsG := mT2 (List.mem_of_getElem? (i := 169) rfl) rfl
set_option maxRecDepth 8000 in
theorem mw_312 : Cond.instanceMethod yX6_pastBits ∈ wsG := mT2 (List.mem_of_getElem? (i := 170) rfl) rfl
set_option maxRecDepth 8000 in
theorem mw_313 : Cond.selects RX6 yX6_pastBits yX6_pastBits ∈ wsG := mT2 (List.mem_of_getElem? (i := 171) rfl) rfl
set_option maxRecDepth 8000 in
theorem mw_314 : Cond.code yX6_pastBits cX6_pastBits 1 (some .int) ∈ wsG := mT2 (List.mem_of_getElem? (i := 172) rfl) rfl
set_option maxRecDepth 8000 in
theorem mw_315 : Cond.methodLink RX0 42 yX6_bitsOfNoPlace ∈ wsG := mT2 (List.mem_of_getElem? (i := 173) rfl) rfl
set_option maxRecDepth 8000 in
theorem mw_316 : Cond.instanceMethod yX6_bitsOfNoPlace ∈ wsG := mT2 (List.mem_of_getElem? (i := 174) rfl) rfl
set_option maxRecDepth 8000 in
theorem mw_317 : Cond.selects RX6 yX6_bitsOfNoPlace yX6_bitsOfNoPlace ∈ wsG := mT2 (List.mem_of_getElem? (i := 175) rfl) rfl
set_option maxRecDepth 8000 in
theorem mw_318 : Cond.code yX6_bitsOfNoPlace cX6_bitsOfNoPlace 4 (some .int) ∈ wsG := mT2 (List.mem_of_getElem? (i := 176) rfl) rfl
set_option maxRecDepth 8000 in
theorem mw_319 : Cond.methodLink RX0 45 yX0_all ∈ wsG := mT2 (List.mem_of_getElem? (i := 177) rfl) rfl
set_option maxRecDepth 8000 in
theorem mw_320 : Cond.instanceMethod yX0_all ∈ wsG := mT2 (List.mem_of_getElem? (i := 179) rfl) rfl
theorem mw_321 : Cond.selects RX0 yX0_all yX0_all ∈ wsG := mP1 (q := (yX0_all, _)) (List.mem_of_getElem? (i := 12) rfl) rfl
set_option maxRecDepth 8000 in
theorem mw_322 : Cond.code yX0_all cX0_all 1 (some .int) ∈ wsG := mT2 (List.mem_of_getElem? (i := 180) rfl) rfl
set_option maxRecDepth 8000 in
theorem mw_323 : Cond.methodLink RX0 71 Lib.Math.min.name ∈ wsG := mT2 (List.mem_of_getElem? (i := 181) rfl) rfl
set_option maxRecDepth 8000 in
theorem mw_324 : Cond.static Lib.Math.min.name ∈ wsG := mT2 (List.mem_of_getElem? (i := 182) rfl) rfl
set_option maxRecDepth 8000 in
theorem mw_325 : Cond.initialized "java/lang/Math" ∈ wsG := mT1 (List.mem_of_getElem? (i := 11) rfl) rfl
set_option maxRecDepth 8000 in
theorem mw_326 : Cond.methodLink RX0 48 yX6_valuesAt ∈ wsG := mT2 (List.mem_of_getElem? (i := 184) rfl) rfl
set_option maxRecDepth 8000 in
theorem mw_327 : Cond.instanceMethod yX6_valuesAt ∈ wsG := mT2 (List.mem_of_getElem? (i := 185) rfl) rfl
set_option maxRecDepth 8000 in
theorem mw_328 : Cond.selects RX6 yX6_valuesAt yX6_valuesAt ∈ wsG := mT2 (List.mem_of_getElem? (i := 186) rfl) rfl
set_option maxRecDepth 8000 in
theorem mw_329 : Cond.code yX6_valuesAt cX6_valuesAt 5 (some .int) ∈ wsG := mT2 (List.mem_of_getElem? (i := 187) rfl) rfl
set_option maxRecDepth 8000 in
theorem mw_330 : Cond.methodLink RX6 64 yX6_holds ∈ wsG := mT2 (List.mem_of_getElem? (i := 188) rfl) rfl
set_option maxRecDepth 8000 in
theorem mw_331 : Cond.instanceMethod yX6_holds ∈ wsG := mT2 (List.mem_of_getElem? (i := 190) rfl) rfl
theorem mw_332 : Cond.selects RX6 yX6_holds yX6_holds ∈ wsG := mP1 (q := (yX6_holds, _)) (List.mem_of_getElem? (i := 13) rfl) rfl
set_option maxRecDepth 8000 in
theorem mw_333 : Cond.code yX6_holds cX6_holds 9 (some .boolean) ∈ wsG := mT2 (List.mem_of_getElem? (i := 191) rfl) rfl
set_option maxRecDepth 8000 in
theorem mw_334 : Cond.static yX8_hasBit ∈ wsG := mT2 (List.mem_of_getElem? (i := 193) rfl) rfl
set_option maxRecDepth 8000 in
theorem mw_335 : Cond.code yX8_hasBit cX8_hasBit 3 (some .boolean) ∈ wsG := mT2 (List.mem_of_getElem? (i := 194) rfl) rfl
set_option maxRecDepth 8000 in
theorem mw_336 : Cond.methodLink RX0 52 yX6_bitsBeside ∈ wsG := mT2 (List.mem_of_getElem? (i := 195) rfl) rfl
set_option maxRecDepth 8000 in
theorem mw_337 : Cond.instanceMethod yX6_bitsBeside ∈ wsG := mT2 (List.mem_of_getElem? (i := 196) rfl) rfl
set_option maxRecDepth 8000 in
theorem mw_338 : Cond.selects RX6 yX6_bitsBeside yX6_bitsBeside ∈ wsG := mT2 (List.mem_of_getElem? (i := 197) rfl) rfl
set_option maxRecDepth 8000 in
theorem mw_339 : Cond.code yX6_bitsBeside cX6_bitsBeside 7 (some .int) ∈ wsG := mT2 (List.mem_of_getElem? (i := 198) rfl) rfl
set_option maxRecDepth 8000 in
theorem mw_340 : Cond.methodLink RX0 60 yX6_wholeHolds ∈ wsG := mT2 (List.mem_of_getElem? (i := 200) rfl) rfl
set_option maxRecDepth 8000 in
theorem mw_341 : Cond.instanceMethod yX6_wholeHolds ∈ wsG := mT2 (List.mem_of_getElem? (i := 201) rfl) rfl
set_option maxRecDepth 8000 in
theorem mw_342 : Cond.selects RX6 yX6_wholeHolds yX6_wholeHolds ∈ wsG := mT2 (List.mem_of_getElem? (i := 202) rfl) rfl
set_option maxRecDepth 8000 in
theorem mw_343 : Cond.code yX6_wholeHolds cX6_wholeHolds 2 (some .boolean) ∈ wsG := mT2 (List.mem_of_getElem? (i := 203) rfl) rfl
set_option maxRecDepth 8000 in
theorem mw_344 : Cond.methodLink RX0 68 yX0_findPossible ∈ wsG := mT2 (List.mem_of_getElem? (i := 205) rfl) rfl
set_option maxRecDepth 8000 in
theorem mw_345 : Cond.instanceMethod yX0_findPossible ∈ wsG := mT2 (List.mem_of_getElem? (i := 207) rfl) rfl
theorem mw_346 : Cond.selects RX0 yX0_findPossible yX0_findPossible ∈ wsG := mP1 (q := (yX0_findPossible, _)) (List.mem_of_getElem? (i := 14) rfl) rfl
set_option maxRecDepth 8000 in
theorem mw_347 : Cond.code yX0_findPossible cX0_findPossible 4 none ∈ wsG := mT2 (List.mem_of_getElem? (i := 208) rfl) rfl
set_option maxRecDepth 8000 in
theorem mw_348 : Cond.methodLink RX0 87 yX0_futureOf ∈ wsG := mT2 (List.mem_of_getElem? (i := 209) rfl) rfl
set_option maxRecDepth 8000 in
theorem mw_349 : Cond.instanceMethod yX0_futureOf ∈ wsG := mT2 (List.mem_of_getElem? (i := 210) rfl) rfl
set_option maxRecDepth 8000 in
theorem mw_350 : Cond.selects RX0 yX0_futureOf yX0_futureOf ∈ wsG := mT2 (List.mem_of_getElem? (i := 211) rfl) rfl
set_option maxRecDepth 8000 in
theorem mw_351 : Cond.code yX0_futureOf cX0_futureOf 2 (some .int) ∈ wsG := mT2 (List.mem_of_getElem? (i := 212) rfl) rfl
set_option maxRecDepth 8000 in
theorem mw_352 : Cond.methodLink RX0 76 yX0_futures ∈ wsG := mT2 (List.mem_of_getElem? (i := 213) rfl) rfl
set_option maxRecDepth 8000 in
theorem mw_353 : Cond.instanceMethod yX0_futures ∈ wsG := mT2 (List.mem_of_getElem? (i := 214) rfl) rfl
set_option maxRecDepth 8000 in
theorem mw_354 : Cond.selects RX0 yX0_futures yX0_futures ∈ wsG := mT2 (List.mem_of_getElem? (i := 215) rfl) rfl
set_option maxRecDepth 8000 in
theorem mw_355 : Cond.code yX0_futures cX0_futures 1 (some .int) ∈ wsG := mT2 (List.mem_of_getElem? (i := 216) rfl) rfl
set_option maxRecDepth 8000 in
theorem mw_356 : Cond.methodLink RX0 90 yX0_addPossible ∈ wsG := mT2 (List.mem_of_getElem? (i := 217) rfl) rfl
set_option maxRecDepth 8000 in
theorem mw_357 : Cond.instanceMethod yX0_addPossible ∈ wsG := mT2 (List.mem_of_getElem? (i := 219) rfl) rfl
theorem mw_358 : Cond.selects RX0 yX0_addPossible yX0_addPossible ∈ wsG := mP1 (q := (yX0_addPossible, _)) (List.mem_of_getElem? (i := 15) rfl) rfl
set_option maxRecDepth 8000 in
theorem mw_359 : Cond.code yX0_addPossible cX0_addPossible 7 (some .boolean) ∈ wsG := mT2 (List.mem_of_getElem? (i := 220) rfl) rfl
set_option maxRecDepth 8000 in
theorem mw_360 : Cond.methodLink RX0 93 yX0_turn ∈ wsG := mT2 (List.mem_of_getElem? (i := 221) rfl) rfl
set_option maxRecDepth 8000 in
theorem mw_361 : Cond.instanceMethod yX0_turn ∈ wsG := mT2 (List.mem_of_getElem? (i := 222) rfl) rfl
set_option maxRecDepth 8000 in
theorem mw_362 : Cond.selects RX0 yX0_turn yX0_turn ∈ wsG := mT2 (List.mem_of_getElem? (i := 223) rfl) rfl
set_option maxRecDepth 8000 in
theorem mw_363 : Cond.code yX0_turn cX0_turn 3 (some .int) ∈ wsG := mT2 (List.mem_of_getElem? (i := 224) rfl) rfl
set_option maxRecDepth 8000 in
theorem mw_364 : Cond.methodLink RX0 96 yX0_pastOf ∈ wsG := mT2 (List.mem_of_getElem? (i := 226) rfl) rfl
set_option maxRecDepth 8000 in
theorem mw_365 : Cond.instanceMethod yX0_pastOf ∈ wsG := mT2 (List.mem_of_getElem? (i := 227) rfl) rfl
set_option maxRecDepth 8000 in
theorem mw_366 : Cond.selects RX0 yX0_pastOf yX0_pastOf ∈ wsG := mT2 (List.mem_of_getElem? (i := 228) rfl) rfl
set_option maxRecDepth 8000 in
theorem mw_367 : Cond.code yX0_pastOf cX0_pastOf 2 (some .int) ∈ wsG := mT2 (List.mem_of_getElem? (i := 229) rfl) rfl
set_option maxRecDepth 8000 in
theorem mw_368 : Cond.methodLink RX0 99 yX0_both ∈ wsG := mT2 (List.mem_of_getElem? (i := 230) rfl) rfl
set_option maxRecDepth 8000 in
theorem mw_369 : Cond.instanceMethod yX0_both ∈ wsG := mT2 (List.mem_of_getElem? (i := 231) rfl) rfl
set_option maxRecDepth 8000 in
theorem mw_370 : Cond.selects RX0 yX0_both yX0_both ∈ wsG := mT2 (List.mem_of_getElem? (i := 232) rfl) rfl
set_option maxRecDepth 8000 in
theorem mw_371 : Cond.code yX0_both cX0_both 3 (some .int) ∈ wsG := mT2 (List.mem_of_getElem? (i := 233) rfl) rfl
set_option maxRecDepth 8000 in
theorem mw_372 : Cond.methodLink RX0 102 yX0_isPossible ∈ wsG := mT2 (List.mem_of_getElem? (i := 234) rfl) rfl
set_option maxRecDepth 8000 in
theorem mw_373 : Cond.instanceMethod yX0_isPossible ∈ wsG := mT2 (List.mem_of_getElem? (i := 235) rfl) rfl
set_option maxRecDepth 8000 in
theorem mw_374 : Cond.selects RX0 yX0_isPossible yX0_isPossible ∈ wsG := mT2 (List.mem_of_getElem? (i := 236) rfl) rfl
set_option maxRecDepth 8000 in
theorem mw_375 : Cond.code yX0_isPossible cX0_isPossible 2 (some .boolean) ∈ wsG := mT2 (List.mem_of_getElem? (i := 237) rfl) rfl
set_option maxRecDepth 8000 in
theorem mw_376 : Cond.methodLink RX8 98 yX4_make ∈ wsG := mT2 (List.mem_of_getElem? (i := 239) rfl) rfl
set_option maxRecDepth 8000 in
theorem mw_377 : Cond.instanceMethod yX4_make ∈ wsG := mT3 (List.mem_of_getElem? (i := 0) rfl) rfl
set_option maxRecDepth 8000 in
theorem mw_378 : Cond.selects RX4 yX4_make yX4_make ∈ wsG := mT3 (List.mem_of_getElem? (i := 1) rfl) rfl
set_option maxRecDepth 8000 in
theorem mw_379 : Cond.code yX4_make cX4_make 5 (some .boolean) ∈ wsG := mT3 (List.mem_of_getElem? (i := 2) rfl) rfl
set_option maxRecDepth 8000 in
theorem mw_380 : Cond.methodLink RX4 48 yX4_begin ∈ wsG := mT3 (List.mem_of_getElem? (i := 3) rfl) rfl
set_option maxRecDepth 8000 in
theorem mw_381 : Cond.instanceMethod yX4_begin ∈ wsG := mT3 (List.mem_of_getElem? (i := 5) rfl) rfl
theorem mw_382 : Cond.selects RX4 yX4_begin yX4_begin ∈ wsG := mP2 (q := (yX4_begin, _)) (List.mem_of_getElem? (i := 0) rfl) rfl
set_option maxRecDepth 8000 in
theorem mw_383 : Cond.code yX4_begin cX4_begin 3 none ∈ wsG := mT3 (List.mem_of_getElem? (i := 6) rfl) rfl
set_option maxRecDepth 8000 in
theorem mw_384 : Cond.methodLink RX4 81 Lib.Math.min.name ∈ wsG := mT3 (List.mem_of_getElem? (i := 8) rfl) rfl
set_option maxRecDepth 8000 in
theorem mw_385 : Cond.methodLink RX4 76 yX0_futures ∈ wsG := mT3 (List.mem_of_getElem? (i := 7) rfl) rfl
set_option maxRecDepth 8000 in
theorem mw_386 : Cond.methodLink RX4 87 yX0_pasts ∈ wsG := mT3 (List.mem_of_getElem? (i := 9) rfl) rfl
set_option maxRecDepth 8000 in
theorem mw_387 : Cond.instanceMethod yX0_pasts ∈ wsG := mT3 (List.mem_of_getElem? (i := 10) rfl) rfl
set_option maxRecDepth 8000 in
theorem mw_388 : Cond.selects RX0 yX0_pasts yX0_pasts ∈ wsG := mT3 (List.mem_of_getElem? (i := 11) rfl) rfl
set_option maxRecDepth 8000 in
theorem mw_389 : Cond.code yX0_pasts cX0_pasts 1 (some .int) ∈ wsG := mT3 (List.mem_of_getElem? (i := 12) rfl) rfl
set_option maxRecDepth 8000 in
theorem mw_390 : Cond.methodLink RX4 89 yX0_noPlace ∈ wsG := mT3 (List.mem_of_getElem? (i := 14) rfl) rfl
set_option maxRecDepth 8000 in
theorem mw_391 : Cond.instanceMethod yX0_noPlace ∈ wsG := mT3 (List.mem_of_getElem? (i := 15) rfl) rfl
set_option maxRecDepth 8000 in
theorem mw_392 : Cond.selects RX0 yX0_noPlace yX0_noPlace ∈ wsG := mT3 (List.mem_of_getElem? (i := 16) rfl) rfl
set_option maxRecDepth 8000 in
theorem mw_393 : Cond.code yX0_noPlace cX0_noPlace 1 (some .int) ∈ wsG := mT3 (List.mem_of_getElem? (i := 17) rfl) rfl
set_option maxRecDepth 8000 in
theorem mw_394 : Cond.methodLink RX4 92 yX0_pastOf ∈ wsG := mT3 (List.mem_of_getElem? (i := 18) rfl) rfl
set_option maxRecDepth 8000 in
theorem mw_395 : Cond.methodLink RX4 52 yX4_follow ∈ wsG := mT3 (List.mem_of_getElem? (i := 20) rfl) rfl
set_option maxRecDepth 8000 in
theorem mw_396 : Cond.instanceMethod yX4_follow ∈ wsG := mT3 (List.mem_of_getElem? (i := 22) rfl) rfl
theorem mw_397 : Cond.selects RX4 yX4_follow yX4_follow ∈ wsG := mP2 (q := (yX4_follow, _)) (List.mem_of_getElem? (i := 1) rfl) rfl
set_option maxRecDepth 8000 in
theorem mw_398 : Cond.code yX4_follow cX4_follow 8 none ∈ wsG := mT3 (List.mem_of_getElem? (i := 23) rfl) rfl
set_option maxRecDepth 8000 in
theorem mw_399 : Cond.static yX8_putLong ∈ wsG := mT3 (List.mem_of_getElem? (i := 25) rfl) rfl
set_option maxRecDepth 8000 in
theorem mw_400 : Cond.code yX8_putLong cX8_putLong 4 none ∈ wsG := mT3 (List.mem_of_getElem? (i := 26) rfl) rfl
set_option maxRecDepth 8000 in
theorem mw_401 : Cond.methodLink RX4 104 yX0_both ∈ wsG := mT3 (List.mem_of_getElem? (i := 28) rfl) rfl
set_option maxRecDepth 8000 in
theorem mw_402 : Cond.methodLink RX4 107 yX0_turn ∈ wsG := mT3 (List.mem_of_getElem? (i := 29) rfl) rfl
set_option maxRecDepth 8000 in
theorem mw_403 : Cond.methodLink RX4 110 yX0_isPossible ∈ wsG := mT3 (List.mem_of_getElem? (i := 30) rfl) rfl
set_option maxRecDepth 8000 in
theorem mw_404 : Cond.methodLink RX4 114 yX0_futureOf ∈ wsG := mT3 (List.mem_of_getElem? (i := 31) rfl) rfl
set_option maxRecDepth 8000 in
theorem mw_405 : Cond.methodLink RX4 117 yX0_keeps ∈ wsG := mT3 (List.mem_of_getElem? (i := 32) rfl) rfl
set_option maxRecDepth 8000 in
theorem mw_406 : Cond.instanceMethod yX0_keeps ∈ wsG := mT3 (List.mem_of_getElem? (i := 33) rfl) rfl
set_option maxRecDepth 8000 in
theorem mw_407 : Cond.selects RX0 yX0_keeps yX0_keeps ∈ wsG := mT3 (List.mem_of_getElem? (i := 34) rfl) rfl
set_option maxRecDepth 8000 in
theorem mw_408 : Cond.code yX0_keeps cX0_keeps 3 (some .boolean) ∈ wsG := mT3 (List.mem_of_getElem? (i := 35) rfl) rfl
set_option maxRecDepth 8000 in
theorem mw_409 : Cond.methodLink RX4 121 yX4_isIn ∈ wsG := mT3 (List.mem_of_getElem? (i := 36) rfl) rfl
set_option maxRecDepth 8000 in
theorem mw_410 : Cond.instanceMethod yX4_isIn ∈ wsG := mT3 (List.mem_of_getElem? (i := 38) rfl) rfl
theorem mw_411 : Cond.selects RX4 yX4_isIn yX4_isIn ∈ wsG := mP2 (q := (yX4_isIn, _)) (List.mem_of_getElem? (i := 2) rfl) rfl
set_option maxRecDepth 8000 in
theorem mw_412 : Cond.code yX4_isIn cX4_isIn 3 (some .boolean) ∈ wsG := mT3 (List.mem_of_getElem? (i := 39) rfl) rfl
set_option maxRecDepth 8000 in
theorem mw_413 : Cond.static yX8_pickLong ∈ wsG := mT3 (List.mem_of_getElem? (i := 41) rfl) rfl
set_option maxRecDepth 8000 in
theorem mw_414 : Cond.code yX8_pickLong cX8_pickLong 2 (some .long) ∈ wsG := mT3 (List.mem_of_getElem? (i := 42) rfl) rfl
set_option maxRecDepth 8000 in
theorem mw_415 : Cond.methodLink RX4 56 yX4_findWork ∈ wsG := mT3 (List.mem_of_getElem? (i := 44) rfl) rfl
set_option maxRecDepth 8000 in
theorem mw_416 : Cond.instanceMethod yX4_findWork ∈ wsG := mT3 (List.mem_of_getElem? (i := 46) rfl) rfl
theorem mw_417 : Cond.selects RX4 yX4_findWork yX4_findWork ∈ wsG := mP2 (q := (yX4_findWork, _)) (List.mem_of_getElem? (i := 3) rfl) rfl
set_option maxRecDepth 8000 in
theorem mw_418 : Cond.code yX4_findWork cX4_findWork 3 (some .int) ∈ wsG := mT3 (List.mem_of_getElem? (i := 47) rfl) rfl
set_option maxRecDepth 8000 in
theorem mw_419 : Cond.methodLink RX4 132 yX4_isWork ∈ wsG := mT3 (List.mem_of_getElem? (i := 48) rfl) rfl
set_option maxRecDepth 8000 in
theorem mw_420 : Cond.instanceMethod yX4_isWork ∈ wsG := mT3 (List.mem_of_getElem? (i := 50) rfl) rfl
theorem mw_421 : Cond.selects RX4 yX4_isWork yX4_isWork ∈ wsG := mP2 (q := (yX4_isWork, _)) (List.mem_of_getElem? (i := 4) rfl) rfl
set_option maxRecDepth 8000 in
theorem mw_422 : Cond.code yX4_isWork cX4_isWork 3 (some .boolean) ∈ wsG := mT3 (List.mem_of_getElem? (i := 51) rfl) rfl
set_option maxRecDepth 8000 in
theorem mw_423 : Cond.methodLink RX4 60 yX4_addWork ∈ wsG := mT3 (List.mem_of_getElem? (i := 52) rfl) rfl
set_option maxRecDepth 8000 in
theorem mw_424 : Cond.instanceMethod yX4_addWork ∈ wsG := mT3 (List.mem_of_getElem? (i := 54) rfl) rfl
theorem mw_425 : Cond.selects RX4 yX4_addWork yX4_addWork ∈ wsG := mP2 (q := (yX4_addWork, _)) (List.mem_of_getElem? (i := 5) rfl) rfl
set_option maxRecDepth 8000 in
theorem mw_426 : Cond.code yX4_addWork cX4_addWork 4 (some .int) ∈ wsG := mT3 (List.mem_of_getElem? (i := 55) rfl) rfl
set_option maxRecDepth 8000 in
theorem mw_427 : Cond.methodLink RX8 101 yX2_lessen ∈ wsG := mT3 (List.mem_of_getElem? (i := 56) rfl) rfl
set_option maxRecDepth 8000 in
theorem mw_428 : Cond.instanceMethod yX2_lessen ∈ wsG := mT3 (List.mem_of_getElem? (i := 57) rfl) rfl
set_option maxRecDepth 8000 in
theorem mw_429 : Cond.selects RX2 yX2_lessen yX2_lessen ∈ wsG := mT3 (List.mem_of_getElem? (i := 58) rfl) rfl
set_option maxRecDepth 8000 in
theorem mw_430 : Cond.code yX2_lessen cX2_lessen 4 (some .boolean) ∈ wsG := mT3 (List.mem_of_getElem? (i := 59) rfl) rfl
set_option maxRecDepth 8000 in
theorem mw_431 : Cond.methodLink RX2 34 yX4_size ∈ wsG := mT3 (List.mem_of_getElem? (i := 60) rfl) rfl
set_option maxRecDepth 8000 in
theorem mw_432 : Cond.instanceMethod yX4_size ∈ wsG := mT3 (List.mem_of_getElem? (i := 61) rfl) rfl
set_option maxRecDepth 8000 in
theorem mw_433 : Cond.selects RX4 yX4_size yX4_size ∈ wsG := mT3 (List.mem_of_getElem? (i := 62) rfl) rfl
set_option maxRecDepth 8000 in
theorem mw_434 : Cond.code yX4_size cX4_size 1 (some .int) ∈ wsG := mT3 (List.mem_of_getElem? (i := 63) rfl) rfl
set_option maxRecDepth 8000 in
theorem mw_435 : Cond.methodLink RX2 40 yX4_isKept ∈ wsG := mT3 (List.mem_of_getElem? (i := 64) rfl) rfl
set_option maxRecDepth 8000 in
theorem mw_436 : Cond.instanceMethod yX4_isKept ∈ wsG := mT3 (List.mem_of_getElem? (i := 65) rfl) rfl
set_option maxRecDepth 8000 in
theorem mw_437 : Cond.selects RX4 yX4_isKept yX4_isKept ∈ wsG := mT3 (List.mem_of_getElem? (i := 66) rfl) rfl
set_option maxRecDepth 8000 in
theorem mw_438 : Cond.code yX4_isKept cX4_isKept 2 (some .boolean) ∈ wsG := mT3 (List.mem_of_getElem? (i := 67) rfl) rfl
set_option maxRecDepth 8000 in
theorem mw_439 : Cond.methodLink RX2 48 yX2_split ∈ wsG := mT3 (List.mem_of_getElem? (i := 70) rfl) rfl
set_option maxRecDepth 8000 in
theorem mw_440 : Cond.instanceMethod yX2_split ∈ wsG := mT3 (List.mem_of_getElem? (i := 72) rfl) rfl
theorem mw_441 : Cond.selects RX2 yX2_split yX2_split ∈ wsG := mP2 (q := (yX2_split, _)) (List.mem_of_getElem? (i := 6) rfl) rfl
set_option maxRecDepth 8000 in
theorem mw_442 : Cond.code yX2_split cX2_split 4 (some .boolean) ∈ wsG := mT3 (List.mem_of_getElem? (i := 73) rfl) rfl
set_option maxRecDepth 8000 in
theorem mw_443 : Cond.methodLink RX2 52 yX2_markOf ∈ wsG := mT3 (List.mem_of_getElem? (i := 74) rfl) rfl
set_option maxRecDepth 8000 in
theorem mw_444 : Cond.instanceMethod yX2_markOf ∈ wsG := mT3 (List.mem_of_getElem? (i := 76) rfl) rfl
theorem mw_445 : Cond.selects RX2 yX2_markOf yX2_markOf ∈ wsG := mP2 (q := (yX2_markOf, _)) (List.mem_of_getElem? (i := 7) rfl) rfl
set_option maxRecDepth 8000 in
theorem mw_446 : Cond.code yX2_markOf cX2_markOf 5 (some .int) ∈ wsG := mT3 (List.mem_of_getElem? (i := 77) rfl) rfl
set_option maxRecDepth 8000 in
theorem mw_447 : Cond.methodLink RX2 64 yX4_next ∈ wsG := mT3 (List.mem_of_getElem? (i := 79) rfl) rfl
set_option maxRecDepth 8000 in
theorem mw_448 : Cond.instanceMethod yX4_next ∈ wsG := mT3 (List.mem_of_getElem? (i := 80) rfl) rfl
set_option maxRecDepth 8000 in
theorem mw_449 : Cond.selects RX4 yX4_next yX4_next ∈ wsG := mT3 (List.mem_of_getElem? (i := 81) rfl) rfl
set_option maxRecDepth 8000 in
theorem mw_450 : Cond.code yX4_next cX4_next 3 (some .int) ∈ wsG := mT3 (List.mem_of_getElem? (i := 82) rfl) rfl
set_option maxRecDepth 8000 in
theorem mw_451 : Cond.methodLink RX2 56 yX2_groupOfMark ∈ wsG := mT3 (List.mem_of_getElem? (i := 83) rfl) rfl
set_option maxRecDepth 8000 in
theorem mw_452 : Cond.instanceMethod yX2_groupOfMark ∈ wsG := mT3 (List.mem_of_getElem? (i := 85) rfl) rfl
theorem mw_453 : Cond.selects RX2 yX2_groupOfMark yX2_groupOfMark ∈ wsG := mP2 (q := (yX2_groupOfMark, _)) (List.mem_of_getElem? (i := 8) rfl) rfl
set_option maxRecDepth 8000 in
theorem mw_454 : Cond.code yX2_groupOfMark cX2_groupOfMark 4 (some .int) ∈ wsG := mT3 (List.mem_of_getElem? (i := 86) rfl) rfl
set_option maxRecDepth 8000 in
theorem mw_455 : Cond.methodLink RX8 105 yX2_putInto ∈ wsG := mT3 (List.mem_of_getElem? (i := 87) rfl) rfl
set_option maxRecDepth 8000 in
theorem mw_456 : Cond.instanceMethod yX2_putInto ∈ wsG := mT3 (List.mem_of_getElem? (i := 88) rfl) rfl
set_option maxRecDepth 8000 in
theorem mw_457 : Cond.selects RX2 yX2_putInto yX2_putInto ∈ wsG := mT3 (List.mem_of_getElem? (i := 89) rfl) rfl
set_option maxRecDepth 8000 in
theorem mw_458 : Cond.code yX2_putInto cX2_putInto 7 none ∈ wsG := mT3 (List.mem_of_getElem? (i := 90) rfl) rfl
set_option maxRecDepth 8000 in
theorem mw_459 : Cond.methodLink RX2 67 yX7_clear ∈ wsG := mT3 (List.mem_of_getElem? (i := 91) rfl) rfl
set_option maxRecDepth 8000 in
theorem mw_460 : Cond.instanceMethod yX7_clear ∈ wsG := mT3 (List.mem_of_getElem? (i := 92) rfl) rfl
set_option maxRecDepth 8000 in
theorem mw_461 : Cond.selects RX7 yX7_clear yX7_clear ∈ wsG := mT3 (List.mem_of_getElem? (i := 93) rfl) rfl
set_option maxRecDepth 8000 in
theorem mw_462 : Cond.code yX7_clear cX7_clear 1 none ∈ wsG := mT3 (List.mem_of_getElem? (i := 94) rfl) rfl
set_option maxRecDepth 8000 in
theorem mw_463 : Cond.methodLink RX2 72 yX2_meet ∈ wsG := mT3 (List.mem_of_getElem? (i := 95) rfl) rfl
set_option maxRecDepth 8000 in
theorem mw_464 : Cond.instanceMethod yX2_meet ∈ wsG := mT3 (List.mem_of_getElem? (i := 97) rfl) rfl
theorem mw_465 : Cond.selects RX2 yX2_meet yX2_meet ∈ wsG := mP2 (q := (yX2_meet, _)) (List.mem_of_getElem? (i := 9) rfl) rfl
set_option maxRecDepth 8000 in
theorem mw_466 : Cond.code yX2_meet cX2_meet 5 (some .int) ∈ wsG := mT3 (List.mem_of_getElem? (i := 98) rfl) rfl
set_option maxRecDepth 8000 in
theorem mw_467 : Cond.methodLink RX2 84 yX7_add ∈ wsG := mT3 (List.mem_of_getElem? (i := 99) rfl) rfl
set_option maxRecDepth 8000 in
theorem mw_468 : Cond.instanceMethod yX7_add ∈ wsG := mT3 (List.mem_of_getElem? (i := 100) rfl) rfl
set_option maxRecDepth 8000 in
theorem mw_469 : Cond.selects RX7 yX7_add yX7_add ∈ wsG := mT3 (List.mem_of_getElem? (i := 101) rfl) rfl
set_option maxRecDepth 8000 in
theorem mw_470 : Cond.code yX7_add cX7_add 2 (some .int) ∈ wsG := mT3 (List.mem_of_getElem? (i := 102) rfl) rfl
set_option maxRecDepth 8000 in
theorem mw_471 : Cond.methodLink RX2 76 yX7_size ∈ wsG := mT3 (List.mem_of_getElem? (i := 104) rfl) rfl
set_option maxRecDepth 8000 in
theorem mw_472 : Cond.instanceMethod yX7_size ∈ wsG := mT3 (List.mem_of_getElem? (i := 105) rfl) rfl
set_option maxRecDepth 8000 in
theorem mw_473 : Cond.selects RX7 yX7_size yX7_size ∈ wsG := mT3 (List.mem_of_getElem? (i := 106) rfl) rfl
set_option maxRecDepth 8000 in
theorem mw_474 : Cond.code yX7_size cX7_size 1 (some .int) ∈ wsG := mT3 (List.mem_of_getElem? (i := 107) rfl) rfl
set_option maxRecDepth 8000 in
theorem mw_475 : Cond.methodLink RX2 77 yX7_lead ∈ wsG := mT3 (List.mem_of_getElem? (i := 108) rfl) rfl
set_option maxRecDepth 8000 in
theorem mw_476 : Cond.instanceMethod yX7_lead ∈ wsG := mT3 (List.mem_of_getElem? (i := 109) rfl) rfl
set_option maxRecDepth 8000 in
theorem mw_477 : Cond.selects RX7 yX7_lead yX7_lead ∈ wsG := mT3 (List.mem_of_getElem? (i := 110) rfl) rfl
set_option maxRecDepth 8000 in
theorem mw_478 : Cond.code yX7_lead cX7_lead 4 none ∈ wsG := mT3 (List.mem_of_getElem? (i := 111) rfl) rfl
set_option maxRecDepth 8000 in
theorem mw_479 : Cond.methodLink RX2 81 yX7_finish ∈ wsG := mT3 (List.mem_of_getElem? (i := 112) rfl) rfl
set_option maxRecDepth 8000 in
theorem mw_480 : Cond.instanceMethod yX7_finish ∈ wsG := mT3 (List.mem_of_getElem? (i := 113) rfl) rfl
set_option maxRecDepth 8000 in
theorem mw_481 : Cond.selects RX7 yX7_finish yX7_finish ∈ wsG := mT3 (List.mem_of_getElem? (i := 114) rfl) rfl
set_option maxRecDepth 8000 in
theorem mw_482 : Cond.code yX7_finish cX7_finish 2 none ∈ wsG := mT3 (List.mem_of_getElem? (i := 115) rfl) rfl
set_option maxRecDepth 8000 in
theorem mw_483 : Cond.methodLink RX7 33 yX7_markSure ∈ wsG := mT3 (List.mem_of_getElem? (i := 116) rfl) rfl
set_option maxRecDepth 8000 in
theorem mw_484 : Cond.instanceMethod yX7_markSure ∈ wsG := mT3 (List.mem_of_getElem? (i := 118) rfl) rfl
theorem mw_485 : Cond.selects RX7 yX7_markSure yX7_markSure ∈ wsG := mP2 (q := (yX7_markSure, _)) (List.mem_of_getElem? (i := 10) rfl) rfl
set_option maxRecDepth 8000 in
theorem mw_486 : Cond.code yX7_markSure cX7_markSure 4 none ∈ wsG := mT3 (List.mem_of_getElem? (i := 119) rfl) rfl
set_option maxRecDepth 8000 in
theorem mw_487 : Cond.methodLink RX7 61 yX7_next ∈ wsG := mT3 (List.mem_of_getElem? (i := 120) rfl) rfl
set_option maxRecDepth 8000 in
theorem mw_488 : Cond.instanceMethod yX7_next ∈ wsG := mT3 (List.mem_of_getElem? (i := 121) rfl) rfl
set_option maxRecDepth 8000 in
theorem mw_489 : Cond.selects RX7 yX7_next yX7_next ∈ wsG := mT3 (List.mem_of_getElem? (i := 122) rfl) rfl
set_option maxRecDepth 8000 in
theorem mw_490 : Cond.code yX7_next cX7_next 3 (some .int) ∈ wsG := mT3 (List.mem_of_getElem? (i := 123) rfl) rfl
set_option maxRecDepth 8000 in
theorem mw_491 : Cond.methodLink RX7 53 yX7_verdictOf ∈ wsG := mT3 (List.mem_of_getElem? (i := 125) rfl) rfl
set_option maxRecDepth 8000 in
theorem mw_492 : Cond.instanceMethod yX7_verdictOf ∈ wsG := mT3 (List.mem_of_getElem? (i := 126) rfl) rfl
set_option maxRecDepth 8000 in
theorem mw_493 : Cond.selects RX7 yX7_verdictOf yX7_verdictOf ∈ wsG := mT3 (List.mem_of_getElem? (i := 127) rfl) rfl
set_option maxRecDepth 8000 in
theorem mw_494 : Cond.code yX7_verdictOf cX7_verdictOf 2 (some .int) ∈ wsG := mT3 (List.mem_of_getElem? (i := 128) rfl) rfl
set_option maxRecDepth 8000 in
theorem mw_495 : Cond.methodLink RX7 36 yX7_measure ∈ wsG := mT3 (List.mem_of_getElem? (i := 129) rfl) rfl
set_option maxRecDepth 8000 in
theorem mw_496 : Cond.instanceMethod yX7_measure ∈ wsG := mT3 (List.mem_of_getElem? (i := 131) rfl) rfl
theorem mw_497 : Cond.selects RX7 yX7_measure yX7_measure ∈ wsG := mP2 (q := (yX7_measure, _)) (List.mem_of_getElem? (i := 11) rfl) rfl
set_option maxRecDepth 8000 in
theorem mw_498 : Cond.code yX7_measure cX7_measure 5 none ∈ wsG := mT3 (List.mem_of_getElem? (i := 132) rfl) rfl
set_option maxRecDepth 8000 in
theorem mw_499 : Cond.methodLink RX7 65 yX7_distance ∈ wsG := mT3 (List.mem_of_getElem? (i := 133) rfl) rfl
set_option maxRecDepth 8000 in
theorem mw_500 : Cond.instanceMethod yX7_distance ∈ wsG := mT3 (List.mem_of_getElem? (i := 134) rfl) rfl
set_option maxRecDepth 8000 in
theorem mw_501 : Cond.selects RX7 yX7_distance yX7_distance ∈ wsG := mT3 (List.mem_of_getElem? (i := 135) rfl) rfl
set_option maxRecDepth 8000 in
theorem mw_502 : Cond.code yX7_distance cX7_distance 3 (some .int) ∈ wsG := mT3 (List.mem_of_getElem? (i := 136) rfl) rfl
set_option maxRecDepth 8000 in
theorem mw_503 : Cond.methodLink RX7 68 yX7_stepTo ∈ wsG := mT3 (List.mem_of_getElem? (i := 137) rfl) rfl
set_option maxRecDepth 8000 in
theorem mw_504 : Cond.instanceMethod yX7_stepTo ∈ wsG := mT3 (List.mem_of_getElem? (i := 139) rfl) rfl
theorem mw_505 : Cond.selects RX7 yX7_stepTo yX7_stepTo ∈ wsG := mP2 (q := (yX7_stepTo, _)) (List.mem_of_getElem? (i := 12) rfl) rfl
set_option maxRecDepth 8000 in
theorem mw_506 : Cond.code yX7_stepTo cX7_stepTo 5 (some .int) ∈ wsG := mT3 (List.mem_of_getElem? (i := 140) rfl) rfl
set_option maxRecDepth 8000 in
theorem mw_507 : Cond.methodLink RX7 40 yX7_countWays ∈ wsG := mT3 (List.mem_of_getElem? (i := 141) rfl) rfl
set_option maxRecDepth 8000 in
theorem mw_508 : Cond.instanceMethod yX7_countWays ∈ wsG := mT3 (List.mem_of_getElem? (i := 143) rfl) rfl
theorem mw_509 : Cond.selects RX7 yX7_countWays yX7_countWays ∈ wsG := mP2 (q := (yX7_countWays, _)) (List.mem_of_getElem? (i := 13) rfl) rfl
set_option maxRecDepth 8000 in
theorem mw_510 : Cond.code yX7_countWays cX7_countWays 6 none ∈ wsG := mT3 (List.mem_of_getElem? (i := 144) rfl) rfl
set_option maxRecDepth 8000 in
theorem mw_511 : Cond.methodLink RX7 72 yX7_keeps ∈ wsG := mT3 (List.mem_of_getElem? (i := 145) rfl) rfl
set_option maxRecDepth 8000 in
theorem mw_512 : Cond.instanceMethod yX7_keeps ∈ wsG := mT3 (List.mem_of_getElem? (i := 146) rfl) rfl
set_option maxRecDepth 8000 in
theorem mw_513 : Cond.selects RX7 yX7_keeps yX7_keeps ∈ wsG := mT3 (List.mem_of_getElem? (i := 147) rfl) rfl
set_option maxRecDepth 8000 in
theorem mw_514 : Cond.code yX7_keeps cX7_keeps 2 (some .boolean) ∈ wsG := mT3 (List.mem_of_getElem? (i := 148) rfl) rfl
set_option maxRecDepth 8000 in
theorem mw_515 : Cond.methodLink RX7 79 yX7_waysOf ∈ wsG := mT3 (List.mem_of_getElem? (i := 150) rfl) rfl
set_option maxRecDepth 8000 in
theorem mw_516 : Cond.instanceMethod yX7_waysOf ∈ wsG := mT3 (List.mem_of_getElem? (i := 151) rfl) rfl
set_option maxRecDepth 8000 in
theorem mw_517 : Cond.selects RX7 yX7_waysOf yX7_waysOf ∈ wsG := mT3 (List.mem_of_getElem? (i := 152) rfl) rfl
set_option maxRecDepth 8000 in
theorem mw_518 : Cond.code yX7_waysOf cX7_waysOf 3 (some .long) ∈ wsG := mT3 (List.mem_of_getElem? (i := 153) rfl) rfl
set_option maxRecDepth 8000 in
theorem mw_519 : Cond.methodLink RX8 109 yX1_restart ∈ wsG := mT3 (List.mem_of_getElem? (i := 155) rfl) rfl
set_option maxRecDepth 8000 in
theorem mw_520 : Cond.instanceMethod yX1_restart ∈ wsG := mT3 (List.mem_of_getElem? (i := 156) rfl) rfl
set_option maxRecDepth 8000 in
theorem mw_521 : Cond.selects RX1 yX1_restart yX1_restart ∈ wsG := mT3 (List.mem_of_getElem? (i := 157) rfl) rfl
set_option maxRecDepth 8000 in
theorem mw_522 : Cond.code yX1_restart cX1_restart 2 none ∈ wsG := mT3 (List.mem_of_getElem? (i := 158) rfl) rfl
set_option maxRecDepth 8000 in
theorem mw_523 : Cond.methodLink RX1 19 yX1_restart_ ∈ wsG := mT3 (List.mem_of_getElem? (i := 159) rfl) rfl
set_option maxRecDepth 8000 in
theorem mw_524 : Cond.instanceMethod yX1_restart_ ∈ wsG := mT3 (List.mem_of_getElem? (i := 160) rfl) rfl
set_option maxRecDepth 8000 in
theorem mw_525 : Cond.selects RX1 yX1_restart_ yX1_restart_ ∈ wsG := mT3 (List.mem_of_getElem? (i := 161) rfl) rfl
set_option maxRecDepth 8000 in
theorem mw_526 : Cond.code yX1_restart_ cX1_restart_ 2 none ∈ wsG := mT3 (List.mem_of_getElem? (i := 162) rfl) rfl
set_option maxRecDepth 8000 in
theorem mw_527 : Cond.methodLink RX8 112 yX7_size ∈ wsG := mT3 (List.mem_of_getElem? (i := 165) rfl) rfl
set_option maxRecDepth 8000 in
theorem mw_528 : Cond.methodLink RL 24 yX9_read ∈ wsG := mT5 (List.mem_of_getElem? (i := 96) rfl) rfl
set_option maxRecDepth 8000 in
theorem mw_529 : Cond.instanceMethod yX9_read ∈ wsG := mT5 (List.mem_of_getElem? (i := 97) rfl) rfl
set_option maxRecDepth 8000 in
theorem mw_530 : Cond.selects RX9 yX9_read yX9_read ∈ wsG := mT5 (List.mem_of_getElem? (i := 98) rfl) rfl
set_option maxRecDepth 8000 in
theorem mw_531 : Cond.code yX9_read cX9_read 2 (some .int) ∈ wsG := mT5 (List.mem_of_getElem? (i := 99) rfl) rfl
set_option maxRecDepth 8000 in
theorem mw_532 : Cond.fieldLink RX9 140 "RunWatcherModel" "fault" "I" ∈ wsG := mT4 (List.mem_of_getElem? (i := 146) rfl) rfl
set_option maxRecDepth 8000 in
theorem mw_533 : Cond.fieldLink RX9 160 "RunWatcherModel" "faultAt" "I" ∈ wsG := mT4 (List.mem_of_getElem? (i := 147) rfl) rfl
set_option maxRecDepth 8000 in
theorem mw_534 : Cond.fieldLink RX9 257 "RunWatcherModel" "isThere" "Z" ∈ wsG := mT4 (List.mem_of_getElem? (i := 182) rfl) rfl
set_option maxRecDepth 8000 in
theorem mw_535 : Cond.fieldLink RX9 237 "RunWatcherModel" "states" "I" ∈ wsG := mT4 (List.mem_of_getElem? (i := 183) rfl) rfl
set_option maxRecDepth 8000 in
theorem mw_536 : Cond.methodLink RX9 243 yX9_parse ∈ wsG := mT5 (List.mem_of_getElem? (i := 100) rfl) rfl
set_option maxRecDepth 8000 in
theorem mw_537 : Cond.instanceMethod yX9_parse ∈ wsG := mT5 (List.mem_of_getElem? (i := 102) rfl) rfl
theorem mw_538 : Cond.selects RX9 yX9_parse yX9_parse ∈ wsG := mP3 (q := (yX9_parse, _)) (List.mem_of_getElem? (i := 3) rfl) rfl
set_option maxRecDepth 8000 in
theorem mw_539 : Cond.code yX9_parse cX9_parse 9 (some .boolean) ∈ wsG := mT5 (List.mem_of_getElem? (i := 103) rfl) rfl
set_option maxRecDepth 8000 in
theorem mw_540 : Cond.fieldLink RX9 143 "RunWatcherModel" "nodes" "I" ∈ wsG := mT4 (List.mem_of_getElem? (i := 148) rfl) rfl
set_option maxRecDepth 8000 in
theorem mw_541 : Cond.fieldLink RX9 146 "RunWatcherModel" "made" "I" ∈ wsG := mT4 (List.mem_of_getElem? (i := 153) rfl) rfl
set_option maxRecDepth 8000 in
theorem mw_542 : Cond.fieldLink RX9 149 "RunWatcherModel" "waits" "I" ∈ wsG := mT4 (List.mem_of_getElem? (i := 155) rfl) rfl
set_option maxRecDepth 8000 in
theorem mw_543 : Cond.methodLink RX9 152 yX9_isPrefix ∈ wsG := mT5 (List.mem_of_getElem? (i := 104) rfl) rfl
set_option maxRecDepth 8000 in
theorem mw_544 : Cond.static yX9_isPrefix ∈ wsG := mT5 (List.mem_of_getElem? (i := 105) rfl) rfl
set_option maxRecDepth 8000 in
theorem mw_545 : Cond.code yX9_isPrefix cX9_isPrefix 1 (some .boolean) ∈ wsG := mT5 (List.mem_of_getElem? (i := 106) rfl) rfl
set_option maxRecDepth 8000 in
theorem mw_546 : Cond.methodLink RX9 163 yX9_rank ∈ wsG := mT5 (List.mem_of_getElem? (i := 107) rfl) rfl
set_option maxRecDepth 8000 in
theorem mw_547 : Cond.static yX9_rank ∈ wsG := mT5 (List.mem_of_getElem? (i := 108) rfl) rfl
set_option maxRecDepth 8000 in
theorem mw_548 : Cond.code yX9_rank cX9_rank 1 (some .int) ∈ wsG := mT5 (List.mem_of_getElem? (i := 109) rfl) rfl
set_option maxRecDepth 8000 in
theorem mw_549 : Cond.methodLink RX9 170 yX9_fail ∈ wsG := mT5 (List.mem_of_getElem? (i := 110) rfl) rfl
set_option maxRecDepth 8000 in
theorem mw_550 : Cond.instanceMethod yX9_fail ∈ wsG := mT5 (List.mem_of_getElem? (i := 112) rfl) rfl
theorem mw_551 : Cond.selects RX9 yX9_fail yX9_fail ∈ wsG := mP3 (q := (yX9_fail, _)) (List.mem_of_getElem? (i := 4) rfl) rfl
set_option maxRecDepth 8000 in
theorem mw_552 : Cond.code yX9_fail cX9_fail 2 (some .boolean) ∈ wsG := mT5 (List.mem_of_getElem? (i := 113) rfl) rfl
set_option maxRecDepth 8000 in
theorem mw_553 : Cond.methodLink RX9 156 yX9_node ∈ wsG := mT5 (List.mem_of_getElem? (i := 114) rfl) rfl
set_option maxRecDepth 8000 in
theorem mw_554 : Cond.instanceMethod yX9_node ∈ wsG := mT5 (List.mem_of_getElem? (i := 116) rfl) rfl
theorem mw_555 : Cond.selects RX9 yX9_node yX9_node ∈ wsG := mP3 (q := (yX9_node, _)) (List.mem_of_getElem? (i := 5) rfl) rfl
set_option maxRecDepth 8000 in
theorem mw_556 : Cond.code yX9_node cX9_node 5 none ∈ wsG := mT5 (List.mem_of_getElem? (i := 117) rfl) rfl
set_option maxRecDepth 8000 in
theorem mw_557 : Cond.methodLink RX9 173 yX9_reduceTo ∈ wsG := mT5 (List.mem_of_getElem? (i := 118) rfl) rfl
set_option maxRecDepth 8000 in
theorem mw_558 : Cond.instanceMethod yX9_reduceTo ∈ wsG := mT5 (List.mem_of_getElem? (i := 120) rfl) rfl
theorem mw_559 : Cond.selects RX9 yX9_reduceTo yX9_reduceTo ∈ wsG := mP3 (q := (yX9_reduceTo, _)) (List.mem_of_getElem? (i := 6) rfl) rfl
set_option maxRecDepth 8000 in
theorem mw_560 : Cond.code yX9_reduceTo cX9_reduceTo 4 none ∈ wsG := mT5 (List.mem_of_getElem? (i := 121) rfl) rfl
set_option maxRecDepth 8000 in
theorem mw_561 : Cond.methodLink RX9 167 yX9_reduce ∈ wsG := mT5 (List.mem_of_getElem? (i := 122) rfl) rfl
set_option maxRecDepth 8000 in
theorem mw_562 : Cond.instanceMethod yX9_reduce ∈ wsG := mT5 (List.mem_of_getElem? (i := 124) rfl) rfl
theorem mw_563 : Cond.selects RX9 yX9_reduce yX9_reduce ∈ wsG := mP3 (q := (yX9_reduce, _)) (List.mem_of_getElem? (i := 7) rfl) rfl
set_option maxRecDepth 8000 in
theorem mw_564 : Cond.code yX9_reduce cX9_reduce 2 none ∈ wsG := mT5 (List.mem_of_getElem? (i := 125) rfl) rfl
set_option maxRecDepth 8000 in
theorem mw_565 : Cond.methodLink RX9 177 yX9_push ∈ wsG := mT5 (List.mem_of_getElem? (i := 126) rfl) rfl
set_option maxRecDepth 8000 in
theorem mw_566 : Cond.instanceMethod yX9_push ∈ wsG := mT5 (List.mem_of_getElem? (i := 128) rfl) rfl
theorem mw_567 : Cond.selects RX9 yX9_push yX9_push ∈ wsG := mP3 (q := (yX9_push, _)) (List.mem_of_getElem? (i := 8) rfl) rfl
set_option maxRecDepth 8000 in
theorem mw_568 : Cond.code yX9_push cX9_push 3 none ∈ wsG := mT5 (List.mem_of_getElem? (i := 129) rfl) rfl
set_option maxRecDepth 8000 in
theorem mw_569 : Cond.methodLink RX9 181 yX9_isPure ∈ wsG := mT5 (List.mem_of_getElem? (i := 130) rfl) rfl
set_option maxRecDepth 8000 in
theorem mw_570 : Cond.instanceMethod yX9_isPure ∈ wsG := mT5 (List.mem_of_getElem? (i := 132) rfl) rfl
theorem mw_571 : Cond.selects RX9 yX9_isPure yX9_isPure ∈ wsG := mP3 (q := (yX9_isPure, _)) (List.mem_of_getElem? (i := 9) rfl) rfl
set_option maxRecDepth 8000 in
theorem mw_572 : Cond.code yX9_isPure cX9_isPure 6 (some .boolean) ∈ wsG := mT5 (List.mem_of_getElem? (i := 133) rfl) rfl
set_option maxRecDepth 8000 in
theorem mw_573 : Cond.methodLink RX9 246 yX9_prepare ∈ wsG := mT5 (List.mem_of_getElem? (i := 134) rfl) rfl
set_option maxRecDepth 8000 in
theorem mw_574 : Cond.instanceMethod yX9_prepare ∈ wsG := mT5 (List.mem_of_getElem? (i := 136) rfl) rfl
theorem mw_575 : Cond.selects RX9 yX9_prepare yX9_prepare ∈ wsG := mP3 (q := (yX9_prepare, _)) (List.mem_of_getElem? (i := 10) rfl) rfl
set_option maxRecDepth 8000 in
theorem mw_576 : Cond.code yX9_prepare cX9_prepare 6 none ∈ wsG := mT5 (List.mem_of_getElem? (i := 137) rfl) rfl
set_option maxRecDepth 8000 in
theorem mw_577 : Cond.fieldLink RX9 188 "RunWatcherModel" "backs" "I" ∈ wsG := mT4 (List.mem_of_getElem? (i := 160) rfl) rfl
set_option maxRecDepth 8000 in
theorem mw_578 : Cond.fieldLink RX9 200 "RunWatcherModel" "seen" "I" ∈ wsG := mT4 (List.mem_of_getElem? (i := 166) rfl) rfl
set_option maxRecDepth 8000 in
theorem mw_579 : Cond.fieldLink RX9 197 "RunWatcherModel" "nextBack" "I" ∈ wsG := mT4 (List.mem_of_getElem? (i := 165) rfl) rfl
set_option maxRecDepth 8000 in
theorem mw_580 : Cond.fieldLink RX9 191 "RunWatcherModel" "atEnd" "I" ∈ wsG := mT4 (List.mem_of_getElem? (i := 162) rfl) rfl
set_option maxRecDepth 8000 in
theorem mw_581 : Cond.methodLink RX9 207 yX9_layBits ∈ wsG := mT5 (List.mem_of_getElem? (i := 138) rfl) rfl
set_option maxRecDepth 8000 in
theorem mw_582 : Cond.instanceMethod yX9_layBits ∈ wsG := mT5 (List.mem_of_getElem? (i := 140) rfl) rfl
theorem mw_583 : Cond.selects RX9 yX9_layBits yX9_layBits ∈ wsG := mP3 (q := (yX9_layBits, _)) (List.mem_of_getElem? (i := 11) rfl) rfl
set_option maxRecDepth 8000 in
theorem mw_584 : Cond.code yX9_layBits cX9_layBits 3 none ∈ wsG := mT5 (List.mem_of_getElem? (i := 141) rfl) rfl
set_option maxRecDepth 8000 in
theorem mw_585 : Cond.fieldLink RX9 185 "RunWatcherModel" "aheads" "I" ∈ wsG := mT4 (List.mem_of_getElem? (i := 159) rfl) rfl
set_option maxRecDepth 8000 in
theorem mw_586 : Cond.fieldLink RX9 194 "RunWatcherModel" "atFirst" "I" ∈ wsG := mT4 (List.mem_of_getElem? (i := 163) rfl) rfl
set_option maxRecDepth 8000 in
theorem mw_587 : Cond.methodLink RX9 203 yX9_wide ∈ wsG := mT5 (List.mem_of_getElem? (i := 142) rfl) rfl
set_option maxRecDepth 8000 in
theorem mw_588 : Cond.instanceMethod yX9_wide ∈ wsG := mT5 (List.mem_of_getElem? (i := 144) rfl) rfl
theorem mw_589 : Cond.selects RX9 yX9_wide yX9_wide ∈ wsG := mP3 (q := (yX9_wide, _)) (List.mem_of_getElem? (i := 12) rfl) rfl
set_option maxRecDepth 8000 in
theorem mw_590 : Cond.code yX9_wide cX9_wide 1 (some .int) ∈ wsG := mT5 (List.mem_of_getElem? (i := 145) rfl) rfl
set_option maxRecDepth 8000 in
theorem mw_591 : Cond.methodLink RX9 210 yX9_look ∈ wsG := mT5 (List.mem_of_getElem? (i := 146) rfl) rfl
set_option maxRecDepth 8000 in
theorem mw_592 : Cond.instanceMethod yX9_look ∈ wsG := mT5 (List.mem_of_getElem? (i := 148) rfl) rfl
theorem mw_593 : Cond.selects RX9 yX9_look yX9_look ∈ wsG := mP3 (q := (yX9_look, _)) (List.mem_of_getElem? (i := 13) rfl) rfl
set_option maxRecDepth 8000 in
theorem mw_594 : Cond.code yX9_look cX9_look 13 none ∈ wsG := mT5 (List.mem_of_getElem? (i := 149) rfl) rfl
set_option maxRecDepth 8000 in
theorem mw_595 : Cond.methodLink RX9 214 yX9_spot ∈ wsG := mT5 (List.mem_of_getElem? (i := 150) rfl) rfl
set_option maxRecDepth 8000 in
theorem mw_596 : Cond.instanceMethod yX9_spot ∈ wsG := mT5 (List.mem_of_getElem? (i := 152) rfl) rfl
theorem mw_597 : Cond.selects RX9 yX9_spot yX9_spot ∈ wsG := mP3 (q := (yX9_spot, _)) (List.mem_of_getElem? (i := 14) rfl) rfl
set_option maxRecDepth 8000 in
theorem mw_598 : Cond.code yX9_spot cX9_spot 4 (some .int) ∈ wsG := mT5 (List.mem_of_getElem? (i := 153) rfl) rfl
set_option maxRecDepth 8000 in
theorem mw_599 : Cond.methodLink RX9 249 yX9_meet ∈ wsG := mT5 (List.mem_of_getElem? (i := 154) rfl) rfl
set_option maxRecDepth 8000 in
theorem mw_600 : Cond.instanceMethod yX9_meet ∈ wsG := mT5 (List.mem_of_getElem? (i := 156) rfl) rfl
theorem mw_601 : Cond.selects RX9 yX9_meet yX9_meet ∈ wsG := mP3 (q := (yX9_meet, _)) (List.mem_of_getElem? (i := 15) rfl) rfl
set_option maxRecDepth 8000 in
theorem mw_602 : Cond.code yX9_meet cX9_meet 7 (some .boolean) ∈ wsG := mT5 (List.mem_of_getElem? (i := 157) rfl) rfl
set_option maxRecDepth 8000 in
theorem mw_603 : Cond.fieldLink RX9 218 "RunWatcherModel" "raws" "I" ∈ wsG := mT4 (List.mem_of_getElem? (i := 171) rfl) rfl
set_option maxRecDepth 8000 in
theorem mw_604 : Cond.methodLink RX9 221 yX9_state ∈ wsG := mT5 (List.mem_of_getElem? (i := 158) rfl) rfl
set_option maxRecDepth 8000 in
theorem mw_605 : Cond.instanceMethod yX9_state ∈ wsG := mT5 (List.mem_of_getElem? (i := 160) rfl) rfl
theorem mw_606 : Cond.selects RX9 yX9_state yX9_state ∈ wsG := mP4 (q := (yX9_state, _)) (List.mem_of_getElem? (i := 0) rfl) rfl
set_option maxRecDepth 8000 in
theorem mw_607 : Cond.code yX9_state cX9_state 6 (some .int) ∈ wsG := mT5 (List.mem_of_getElem? (i := 161) rfl) rfl
set_option maxRecDepth 8000 in
theorem mw_608 : Cond.methodLink RX9 252 yX9_least ∈ wsG := mT5 (List.mem_of_getElem? (i := 162) rfl) rfl
set_option maxRecDepth 8000 in
theorem mw_609 : Cond.instanceMethod yX9_least ∈ wsG := mT5 (List.mem_of_getElem? (i := 164) rfl) rfl
theorem mw_610 : Cond.selects RX9 yX9_least yX9_least ∈ wsG := mP4 (q := (yX9_least, _)) (List.mem_of_getElem? (i := 1) rfl) rfl
set_option maxRecDepth 8000 in
theorem mw_611 : Cond.code yX9_least cX9_least 2 (some .boolean) ∈ wsG := mT5 (List.mem_of_getElem? (i := 165) rfl) rfl
set_option maxRecDepth 8000 in
theorem mw_612 : Cond.fieldLink RX9 228 "RunWatcherModel" "kinds" "I" ∈ wsG := mT4 (List.mem_of_getElem? (i := 180) rfl) rfl
set_option maxRecDepth 8000 in
theorem mw_613 : Cond.methodLink RX9 231 yX9_isKept ∈ wsG := mT5 (List.mem_of_getElem? (i := 166) rfl) rfl
set_option maxRecDepth 8000 in
theorem mw_614 : Cond.instanceMethod yX9_isKept ∈ wsG := mT5 (List.mem_of_getElem? (i := 168) rfl) rfl
theorem mw_615 : Cond.selects RX9 yX9_isKept yX9_isKept ∈ wsG := mP4 (q := (yX9_isKept, _)) (List.mem_of_getElem? (i := 2) rfl) rfl
set_option maxRecDepth 8000 in
theorem mw_616 : Cond.code yX9_isKept cX9_isKept 2 (some .boolean) ∈ wsG := mT5 (List.mem_of_getElem? (i := 169) rfl) rfl
set_option maxRecDepth 8000 in
theorem mw_617 : Cond.methodLink RX9 234 yX9_part ∈ wsG := mT5 (List.mem_of_getElem? (i := 170) rfl) rfl
set_option maxRecDepth 8000 in
theorem mw_618 : Cond.instanceMethod yX9_part ∈ wsG := mT5 (List.mem_of_getElem? (i := 172) rfl) rfl
theorem mw_619 : Cond.selects RX9 yX9_part yX9_part ∈ wsG := mP4 (q := (yX9_part, _)) (List.mem_of_getElem? (i := 3) rfl) rfl
set_option maxRecDepth 8000 in
theorem mw_620 : Cond.code yX9_part cX9_part 4 (some .boolean) ∈ wsG := mT5 (List.mem_of_getElem? (i := 173) rfl) rfl
set_option maxRecDepth 8000 in
theorem mw_621 : Cond.methodLink RX9 224 yX9_isLike ∈ wsG := mT5 (List.mem_of_getElem? (i := 174) rfl) rfl
set_option maxRecDepth 8000 in
theorem mw_622 : Cond.instanceMethod yX9_isLike ∈ wsG := mT5 (List.mem_of_getElem? (i := 176) rfl) rfl
theorem mw_623 : Cond.selects RX9 yX9_isLike yX9_isLike ∈ wsG := mP4 (q := (yX9_isLike, _)) (List.mem_of_getElem? (i := 4) rfl) rfl
set_option maxRecDepth 8000 in
theorem mw_624 : Cond.code yX9_isLike cX9_isLike 5 (some .boolean) ∈ wsG := mT5 (List.mem_of_getElem? (i := 177) rfl) rfl
set_option maxRecDepth 8000 in
theorem mw_625 : Cond.methodLink RX9 255 yX9_number ∈ wsG := mT5 (List.mem_of_getElem? (i := 178) rfl) rfl
set_option maxRecDepth 8000 in
theorem mw_626 : Cond.instanceMethod yX9_number ∈ wsG := mT5 (List.mem_of_getElem? (i := 180) rfl) rfl
theorem mw_627 : Cond.selects RX9 yX9_number yX9_number ∈ wsG := mP4 (q := (yX9_number, _)) (List.mem_of_getElem? (i := 5) rfl) rfl
set_option maxRecDepth 8000 in
theorem mw_628 : Cond.code yX9_number cX9_number 5 none ∈ wsG := mT5 (List.mem_of_getElem? (i := 181) rfl) rfl
set_option maxRecDepth 8000 in
theorem mw_629 : Cond.methodLink RX9 240 yX9_spread ∈ wsG := mT5 (List.mem_of_getElem? (i := 182) rfl) rfl
set_option maxRecDepth 8000 in
theorem mw_630 : Cond.instanceMethod yX9_spread ∈ wsG := mT5 (List.mem_of_getElem? (i := 184) rfl) rfl
theorem mw_631 : Cond.selects RX9 yX9_spread yX9_spread ∈ wsG := mP4 (q := (yX9_spread, _)) (List.mem_of_getElem? (i := 6) rfl) rfl
set_option maxRecDepth 8000 in
theorem mw_632 : Cond.code yX9_spread cX9_spread 6 none ∈ wsG := mT5 (List.mem_of_getElem? (i := 185) rfl) rfl
set_option maxRecDepth 8000 in
theorem mw_633 : Cond.methodLink RX9 261 yX9_begin ∈ wsG := mT5 (List.mem_of_getElem? (i := 186) rfl) rfl
set_option maxRecDepth 8000 in
theorem mw_634 : Cond.instanceMethod yX9_begin ∈ wsG := mT5 (List.mem_of_getElem? (i := 188) rfl) rfl
theorem mw_635 : Cond.selects RX9 yX9_begin yX9_begin ∈ wsG := mP4 (q := (yX9_begin, _)) (List.mem_of_getElem? (i := 7) rfl) rfl
set_option maxRecDepth 8000 in
theorem mw_636 : Cond.code yX9_begin cX9_begin 3 none ∈ wsG := mT5 (List.mem_of_getElem? (i := 189) rfl) rfl
set_option maxRecDepth 8000 in
theorem mw_637 : Cond.methodLink RL 25 yX8_fault ∈ wsG := mT3 (List.mem_of_getElem? (i := 166) rfl) rfl
set_option maxRecDepth 8000 in
theorem mw_638 : Cond.instanceMethod yX8_fault ∈ wsG := mT3 (List.mem_of_getElem? (i := 167) rfl) rfl
set_option maxRecDepth 8000 in
theorem mw_639 : Cond.selects RX8 yX8_fault yX8_fault ∈ wsG := mT3 (List.mem_of_getElem? (i := 168) rfl) rfl
set_option maxRecDepth 8000 in
theorem mw_640 : Cond.code yX8_fault cX8_fault 1 (some .int) ∈ wsG := mT3 (List.mem_of_getElem? (i := 169) rfl) rfl
set_option maxRecDepth 8000 in
theorem mw_641 : Cond.methodLink RL 28 yX9_fault ∈ wsG := mT5 (List.mem_of_getElem? (i := 92) rfl) rfl
set_option maxRecDepth 8000 in
theorem mw_642 : Cond.instanceMethod yX9_fault ∈ wsG := mT5 (List.mem_of_getElem? (i := 93) rfl) rfl
set_option maxRecDepth 8000 in
theorem mw_643 : Cond.selects RX9 yX9_fault yX9_fault ∈ wsG := mT5 (List.mem_of_getElem? (i := 94) rfl) rfl
set_option maxRecDepth 8000 in
theorem mw_644 : Cond.code yX9_fault cX9_fault 1 (some .int) ∈ wsG := mT5 (List.mem_of_getElem? (i := 95) rfl) rfl
set_option maxRecDepth 8000 in
theorem mw_645 : Cond.methodLink RL 29 yX8_cut ∈ wsG := mT3 (List.mem_of_getElem? (i := 170) rfl) rfl
set_option maxRecDepth 8000 in
theorem mw_646 : Cond.instanceMethod yX8_cut ∈ wsG := mT3 (List.mem_of_getElem? (i := 171) rfl) rfl
set_option maxRecDepth 8000 in
theorem mw_647 : Cond.selects RX8 yX8_cut yX8_cut ∈ wsG := mT3 (List.mem_of_getElem? (i := 172) rfl) rfl
set_option maxRecDepth 8000 in
theorem mw_648 : Cond.code yX8_cut cX8_cut 2 (some .int) ∈ wsG := mT3 (List.mem_of_getElem? (i := 173) rfl) rfl
set_option maxRecDepth 8000 in
theorem mw_649 : Cond.methodLink RL 32 yX9_cut ∈ wsG := mT5 (List.mem_of_getElem? (i := 88) rfl) rfl
set_option maxRecDepth 8000 in
theorem mw_650 : Cond.instanceMethod yX9_cut ∈ wsG := mT5 (List.mem_of_getElem? (i := 89) rfl) rfl
set_option maxRecDepth 8000 in
theorem mw_651 : Cond.selects RX9 yX9_cut yX9_cut ∈ wsG := mT5 (List.mem_of_getElem? (i := 90) rfl) rfl
set_option maxRecDepth 8000 in
theorem mw_652 : Cond.code yX9_cut cX9_cut 2 (some .int) ∈ wsG := mT5 (List.mem_of_getElem? (i := 91) rfl) rfl
set_option maxRecDepth 8000 in
theorem mw_653 : Cond.methodLink RL 33 yX8_leads ∈ wsG := mT3 (List.mem_of_getElem? (i := 174) rfl) rfl
set_option maxRecDepth 8000 in
theorem mw_654 : Cond.instanceMethod yX8_leads ∈ wsG := mT3 (List.mem_of_getElem? (i := 175) rfl) rfl
set_option maxRecDepth 8000 in
theorem mw_655 : Cond.selects RX8 yX8_leads yX8_leads ∈ wsG := mT3 (List.mem_of_getElem? (i := 176) rfl) rfl
set_option maxRecDepth 8000 in
theorem mw_656 : Cond.code yX8_leads cX8_leads 3 (some .int) ∈ wsG := mT3 (List.mem_of_getElem? (i := 177) rfl) rfl
set_option maxRecDepth 8000 in
theorem mw_657 : Cond.methodLink RX8 115 yX7_isThere ∈ wsG := mT3 (List.mem_of_getElem? (i := 178) rfl) rfl
set_option maxRecDepth 8000 in
theorem mw_658 : Cond.instanceMethod yX7_isThere ∈ wsG := mT3 (List.mem_of_getElem? (i := 179) rfl) rfl
set_option maxRecDepth 8000 in
theorem mw_659 : Cond.selects RX7 yX7_isThere yX7_isThere ∈ wsG := mT3 (List.mem_of_getElem? (i := 180) rfl) rfl
set_option maxRecDepth 8000 in
theorem mw_660 : Cond.code yX7_isThere cX7_isThere 1 (some .boolean) ∈ wsG := mT3 (List.mem_of_getElem? (i := 181) rfl) rfl
set_option maxRecDepth 8000 in
theorem mw_661 : Cond.methodLink RX8 119 yX7_has ∈ wsG := mT3 (List.mem_of_getElem? (i := 182) rfl) rfl
set_option maxRecDepth 8000 in
theorem mw_662 : Cond.instanceMethod yX7_has ∈ wsG := mT3 (List.mem_of_getElem? (i := 183) rfl) rfl
set_option maxRecDepth 8000 in
theorem mw_663 : Cond.selects RX7 yX7_has yX7_has ∈ wsG := mT3 (List.mem_of_getElem? (i := 184) rfl) rfl
set_option maxRecDepth 8000 in
theorem mw_664 : Cond.code yX7_has cX7_has 2 (some .boolean) ∈ wsG := mT3 (List.mem_of_getElem? (i := 185) rfl) rfl
set_option maxRecDepth 8000 in
theorem mw_665 : Cond.methodLink RX8 123 yX8_isEvent ∈ wsG := mT3 (List.mem_of_getElem? (i := 186) rfl) rfl
set_option maxRecDepth 8000 in
theorem mw_666 : Cond.static yX8_isEvent ∈ wsG := mT3 (List.mem_of_getElem? (i := 187) rfl) rfl
set_option maxRecDepth 8000 in
theorem mw_667 : Cond.code yX8_isEvent cX8_isEvent 1 (some .boolean) ∈ wsG := mT3 (List.mem_of_getElem? (i := 188) rfl) rfl
set_option maxRecDepth 8000 in
theorem mw_668 : Cond.methodLink RX8 126 yX7_next ∈ wsG := mT3 (List.mem_of_getElem? (i := 189) rfl) rfl
set_option maxRecDepth 8000 in
theorem mw_669 : Cond.methodLink RL 37 yX9_leads ∈ wsG := mT5 (List.mem_of_getElem? (i := 190) rfl) rfl
set_option maxRecDepth 8000 in
theorem mw_670 : Cond.instanceMethod yX9_leads ∈ wsG := mT5 (List.mem_of_getElem? (i := 191) rfl) rfl
set_option maxRecDepth 8000 in
theorem mw_671 : Cond.selects RX9 yX9_leads yX9_leads ∈ wsG := mT5 (List.mem_of_getElem? (i := 192) rfl) rfl
set_option maxRecDepth 8000 in
theorem mw_672 : Cond.code yX9_leads cX9_leads 3 (some .int) ∈ wsG := mT5 (List.mem_of_getElem? (i := 193) rfl) rfl
set_option maxRecDepth 8000 in
theorem mw_673 : Cond.constantLong RX9 271 (3) ∈ wsG := mT5 (List.mem_of_getElem? (i := 201) rfl) rfl
set_option maxRecDepth 8000 in
theorem mw_674 : Cond.methodLink RX9 268 yX9_isState ∈ wsG := mT5 (List.mem_of_getElem? (i := 194) rfl) rfl
set_option maxRecDepth 8000 in
theorem mw_675 : Cond.instanceMethod yX9_isState ∈ wsG := mT5 (List.mem_of_getElem? (i := 196) rfl) rfl
theorem mw_676 : Cond.selects RX9 yX9_isState yX9_isState ∈ wsG := mP4 (q := (yX9_isState, _)) (List.mem_of_getElem? (i := 8) rfl) rfl
set_option maxRecDepth 8000 in
theorem mw_677 : Cond.code yX9_isState cX9_isState 2 (some .boolean) ∈ wsG := mT5 (List.mem_of_getElem? (i := 197) rfl) rfl
set_option maxRecDepth 8000 in
theorem mw_678 : Cond.methodLink RX9 264 yX9_in ∈ wsG := mT5 (List.mem_of_getElem? (i := 198) rfl) rfl
set_option maxRecDepth 8000 in
theorem mw_679 : Cond.static yX9_in ∈ wsG := mT5 (List.mem_of_getElem? (i := 199) rfl) rfl
set_option maxRecDepth 8000 in
theorem mw_680 : Cond.code yX9_in cX9_in 6 (some .boolean) ∈ wsG := mT5 (List.mem_of_getElem? (i := 200) rfl) rfl
set_option maxRecDepth 8000 in
theorem mw_681 : Cond.methodLink RL 38 yX8_verdict ∈ wsG := mT3 (List.mem_of_getElem? (i := 190) rfl) rfl
set_option maxRecDepth 8000 in
theorem mw_682 : Cond.instanceMethod yX8_verdict ∈ wsG := mT3 (List.mem_of_getElem? (i := 191) rfl) rfl
set_option maxRecDepth 8000 in
theorem mw_683 : Cond.selects RX8 yX8_verdict yX8_verdict ∈ wsG := mT3 (List.mem_of_getElem? (i := 192) rfl) rfl
set_option maxRecDepth 8000 in
theorem mw_684 : Cond.code yX8_verdict cX8_verdict 3 (some .int) ∈ wsG := mT3 (List.mem_of_getElem? (i := 193) rfl) rfl
set_option maxRecDepth 8000 in
theorem mw_685 : Cond.methodLink RX8 130 yX8_refusalOfState ∈ wsG := mT3 (List.mem_of_getElem? (i := 194) rfl) rfl
set_option maxRecDepth 8000 in
theorem mw_686 : Cond.instanceMethod yX8_refusalOfState ∈ wsG := mT3 (List.mem_of_getElem? (i := 196) rfl) rfl
theorem mw_687 : Cond.selects RX8 yX8_refusalOfState yX8_refusalOfState ∈ wsG := mP2 (q := (yX8_refusalOfState, _)) (List.mem_of_getElem? (i := 14) rfl) rfl
set_option maxRecDepth 8000 in
theorem mw_688 : Cond.code yX8_refusalOfState cX8_refusalOfState 2 (some .int) ∈ wsG := mT3 (List.mem_of_getElem? (i := 197) rfl) rfl
set_option maxRecDepth 8000 in
theorem mw_689 : Cond.methodLink RX8 134 yX7_verdictOf ∈ wsG := mT3 (List.mem_of_getElem? (i := 198) rfl) rfl
set_option maxRecDepth 8000 in
theorem mw_690 : Cond.methodLink RL 42 yX9_verdict ∈ wsG := mT5 (List.mem_of_getElem? (i := 202) rfl) rfl
set_option maxRecDepth 8000 in
theorem mw_691 : Cond.instanceMethod yX9_verdict ∈ wsG := mT5 (List.mem_of_getElem? (i := 203) rfl) rfl
set_option maxRecDepth 8000 in
theorem mw_692 : Cond.selects RX9 yX9_verdict yX9_verdict ∈ wsG := mT5 (List.mem_of_getElem? (i := 204) rfl) rfl
set_option maxRecDepth 8000 in
theorem mw_693 : Cond.code yX9_verdict cX9_verdict 2 (some .int) ∈ wsG := mT5 (List.mem_of_getElem? (i := 205) rfl) rfl
set_option maxRecDepth 8000 in
theorem mw_694 : Cond.methodLink RL 43 yX8_far ∈ wsG := mT3 (List.mem_of_getElem? (i := 199) rfl) rfl
set_option maxRecDepth 8000 in
theorem mw_695 : Cond.instanceMethod yX8_far ∈ wsG := mT3 (List.mem_of_getElem? (i := 200) rfl) rfl
set_option maxRecDepth 8000 in
theorem mw_696 : Cond.selects RX8 yX8_far yX8_far ∈ wsG := mT3 (List.mem_of_getElem? (i := 201) rfl) rfl
set_option maxRecDepth 8000 in
theorem mw_697 : Cond.code yX8_far cX8_far 4 (some .int) ∈ wsG := mT3 (List.mem_of_getElem? (i := 202) rfl) rfl
set_option maxRecDepth 8000 in
theorem mw_698 : Cond.methodLink RX8 137 yX8_isVerdict ∈ wsG := mT3 (List.mem_of_getElem? (i := 203) rfl) rfl
set_option maxRecDepth 8000 in
theorem mw_699 : Cond.static yX8_isVerdict ∈ wsG := mT3 (List.mem_of_getElem? (i := 204) rfl) rfl
set_option maxRecDepth 8000 in
theorem mw_700 : Cond.code yX8_isVerdict cX8_isVerdict 1 (some .boolean) ∈ wsG := mT3 (List.mem_of_getElem? (i := 205) rfl) rfl
set_option maxRecDepth 8000 in
theorem mw_701 : Cond.methodLink RX8 140 yX7_distance ∈ wsG := mT3 (List.mem_of_getElem? (i := 206) rfl) rfl
set_option maxRecDepth 8000 in
theorem mw_702 : Cond.methodLink RL 46 yX9_far ∈ wsG := mT5 (List.mem_of_getElem? (i := 206) rfl) rfl
set_option maxRecDepth 8000 in
theorem mw_703 : Cond.instanceMethod yX9_far ∈ wsG := mT5 (List.mem_of_getElem? (i := 207) rfl) rfl
set_option maxRecDepth 8000 in
theorem mw_704 : Cond.selects RX9 yX9_far yX9_far ∈ wsG := mT5 (List.mem_of_getElem? (i := 208) rfl) rfl
set_option maxRecDepth 8000 in
theorem mw_705 : Cond.code yX9_far cX9_far 3 (some .int) ∈ wsG := mT5 (List.mem_of_getElem? (i := 209) rfl) rfl
set_option maxRecDepth 8000 in
theorem mw_706 : Cond.methodLink RX9 273 yX9_farTo ∈ wsG := mT5 (List.mem_of_getElem? (i := 210) rfl) rfl
set_option maxRecDepth 8000 in
theorem mw_707 : Cond.instanceMethod yX9_farTo ∈ wsG := mT5 (List.mem_of_getElem? (i := 212) rfl) rfl
theorem mw_708 : Cond.selects RX9 yX9_farTo yX9_farTo ∈ wsG := mP4 (q := (yX9_farTo, _)) (List.mem_of_getElem? (i := 9) rfl) rfl
set_option maxRecDepth 8000 in
theorem mw_709 : Cond.code yX9_farTo cX9_farTo 5 (some .int) ∈ wsG := mT5 (List.mem_of_getElem? (i := 213) rfl) rfl
set_option maxRecDepth 8000 in
theorem mw_710 : Cond.methodLink RL 47 yX8_toward ∈ wsG := mT3 (List.mem_of_getElem? (i := 207) rfl) rfl
set_option maxRecDepth 8000 in
theorem mw_711 : Cond.instanceMethod yX8_toward ∈ wsG := mT3 (List.mem_of_getElem? (i := 208) rfl) rfl
set_option maxRecDepth 8000 in
theorem mw_712 : Cond.selects RX8 yX8_toward yX8_toward ∈ wsG := mT3 (List.mem_of_getElem? (i := 209) rfl) rfl
set_option maxRecDepth 8000 in
theorem mw_713 : Cond.code yX8_toward cX8_toward 4 (some .int) ∈ wsG := mT3 (List.mem_of_getElem? (i := 210) rfl) rfl
set_option maxRecDepth 8000 in
theorem mw_714 : Cond.methodLink RX8 143 yX7_firstStep ∈ wsG := mT3 (List.mem_of_getElem? (i := 211) rfl) rfl
set_option maxRecDepth 8000 in
theorem mw_715 : Cond.instanceMethod yX7_firstStep ∈ wsG := mT3 (List.mem_of_getElem? (i := 212) rfl) rfl
set_option maxRecDepth 8000 in
theorem mw_716 : Cond.selects RX7 yX7_firstStep yX7_firstStep ∈ wsG := mT3 (List.mem_of_getElem? (i := 213) rfl) rfl
set_option maxRecDepth 8000 in
theorem mw_717 : Cond.code yX7_firstStep cX7_firstStep 4 (some .int) ∈ wsG := mT3 (List.mem_of_getElem? (i := 214) rfl) rfl
set_option maxRecDepth 8000 in
theorem mw_718 : Cond.methodLink RL 50 yX9_toward ∈ wsG := mT5 (List.mem_of_getElem? (i := 214) rfl) rfl
set_option maxRecDepth 8000 in
theorem mw_719 : Cond.instanceMethod yX9_toward ∈ wsG := mT5 (List.mem_of_getElem? (i := 215) rfl) rfl
set_option maxRecDepth 8000 in
theorem mw_720 : Cond.selects RX9 yX9_toward yX9_toward ∈ wsG := mT5 (List.mem_of_getElem? (i := 216) rfl) rfl
set_option maxRecDepth 8000 in
theorem mw_721 : Cond.code yX9_toward cX9_toward 5 (some .int) ∈ wsG := mT5 (List.mem_of_getElem? (i := 217) rfl) rfl
set_option maxRecDepth 8000 in
theorem mw_722 : Cond.methodLink RX9 277 yX9_far ∈ wsG := mT5 (List.mem_of_getElem? (i := 218) rfl) rfl
set_option maxRecDepth 8000 in
theorem mw_723 : Cond.methodLink RL 51 yX8_runs ∈ wsG := mT3 (List.mem_of_getElem? (i := 215) rfl) rfl
set_option maxRecDepth 8000 in
theorem mw_724 : Cond.instanceMethod yX8_runs ∈ wsG := mT3 (List.mem_of_getElem? (i := 216) rfl) rfl
set_option maxRecDepth 8000 in
theorem mw_725 : Cond.selects RX8 yX8_runs yX8_runs ∈ wsG := mT3 (List.mem_of_getElem? (i := 217) rfl) rfl
set_option maxRecDepth 8000 in
theorem mw_726 : Cond.code yX8_runs cX8_runs 4 (some .long) ∈ wsG := mT3 (List.mem_of_getElem? (i := 218) rfl) rfl
set_option maxRecDepth 8000 in
theorem mw_727 : Cond.constantLong RX8 153 (-2) ∈ wsG := mT3 (List.mem_of_getElem? (i := 223) rfl) rfl
set_option maxRecDepth 8000 in
theorem mw_728 : Cond.methodLink RX8 146 yX8_isRow ∈ wsG := mT3 (List.mem_of_getElem? (i := 219) rfl) rfl
set_option maxRecDepth 8000 in
theorem mw_729 : Cond.static yX8_isRow ∈ wsG := mT3 (List.mem_of_getElem? (i := 220) rfl) rfl
set_option maxRecDepth 8000 in
theorem mw_730 : Cond.code yX8_isRow cX8_isRow 1 (some .boolean) ∈ wsG := mT3 (List.mem_of_getElem? (i := 221) rfl) rfl
set_option maxRecDepth 8000 in
theorem mw_731 : Cond.methodLink RX8 149 yX7_waysOf ∈ wsG := mT3 (List.mem_of_getElem? (i := 222) rfl) rfl
set_option maxRecDepth 8000 in
theorem mw_732 : Cond.methodLink RL 55 yX9_runs ∈ wsG := mT5 (List.mem_of_getElem? (i := 219) rfl) rfl
set_option maxRecDepth 8000 in
theorem mw_733 : Cond.instanceMethod yX9_runs ∈ wsG := mT5 (List.mem_of_getElem? (i := 220) rfl) rfl
set_option maxRecDepth 8000 in
theorem mw_734 : Cond.selects RX9 yX9_runs yX9_runs ∈ wsG := mT5 (List.mem_of_getElem? (i := 221) rfl) rfl
set_option maxRecDepth 8000 in
theorem mw_735 : Cond.code yX9_runs cX9_runs 3 (some .long) ∈ wsG := mT5 (List.mem_of_getElem? (i := 222) rfl) rfl
set_option maxRecDepth 8000 in
theorem mw_736 : Cond.constantLong RX9 279 (-3) ∈ wsG := mT5 (List.mem_of_getElem? (i := 223) rfl) rfl
set_option maxRecDepth 8000 in
theorem mw_737 : Cond.constantLong RX9 281 (-1) ∈ wsG := mT5 (List.mem_of_getElem? (i := 224) rfl) rfl
set_option maxRecDepth 8000 in
theorem mw_738 : Cond.constantLong RX9 283 (25) ∈ wsG := mT5 (List.mem_of_getElem? (i := 225) rfl) rfl
set_option maxRecDepth 8000 in
theorem mw_739 : Cond.constantLong RX9 285 (-2) ∈ wsG := mT5 (List.mem_of_getElem? (i := 226) rfl) rfl
set_option maxRecDepth 8000 in
theorem mw_740 : Cond.methodLink RX9 287 yX9_countTo ∈ wsG := mT5 (List.mem_of_getElem? (i := 227) rfl) rfl
set_option maxRecDepth 8000 in
theorem mw_741 : Cond.instanceMethod yX9_countTo ∈ wsG := mT5 (List.mem_of_getElem? (i := 229) rfl) rfl
theorem mw_742 : Cond.selects RX9 yX9_countTo yX9_countTo ∈ wsG := mP4 (q := (yX9_countTo, _)) (List.mem_of_getElem? (i := 10) rfl) rfl
set_option maxRecDepth 8000 in
theorem mw_743 : Cond.code yX9_countTo cX9_countTo 7 none ∈ wsG := mT5 (List.mem_of_getElem? (i := 230) rfl) rfl
set_option maxRecDepth 8000 in
theorem mw_744 : Cond.methodLink RL 56 yX8_run ∈ wsG := mT3 (List.mem_of_getElem? (i := 224) rfl) rfl
set_option maxRecDepth 8000 in
theorem mw_745 : Cond.instanceMethod yX8_run ∈ wsG := mT3 (List.mem_of_getElem? (i := 225) rfl) rfl
set_option maxRecDepth 8000 in
theorem mw_746 : Cond.selects RX8 yX8_run yX8_run ∈ wsG := mT3 (List.mem_of_getElem? (i := 226) rfl) rfl
set_option maxRecDepth 8000 in
theorem mw_747 : Cond.code yX8_run cX8_run 5 (some .int) ∈ wsG := mT3 (List.mem_of_getElem? (i := 227) rfl) rfl
set_option maxRecDepth 8000 in
theorem mw_748 : Cond.methodLink RX8 155 yX7_eventOfFirstRow ∈ wsG := mT3 (List.mem_of_getElem? (i := 228) rfl) rfl
set_option maxRecDepth 8000 in
theorem mw_749 : Cond.instanceMethod yX7_eventOfFirstRow ∈ wsG := mT3 (List.mem_of_getElem? (i := 229) rfl) rfl
set_option maxRecDepth 8000 in
theorem mw_750 : Cond.selects RX7 yX7_eventOfFirstRow yX7_eventOfFirstRow ∈ wsG := mT3 (List.mem_of_getElem? (i := 230) rfl) rfl
set_option maxRecDepth 8000 in
theorem mw_751 : Cond.code yX7_eventOfFirstRow cX7_eventOfFirstRow 7 (some .int) ∈ wsG := mT3 (List.mem_of_getElem? (i := 231) rfl) rfl
set_option maxRecDepth 8000 in
theorem mw_752 : Cond.methodLink RX7 87 yX7_firstKeptEvent ∈ wsG := mT3 (List.mem_of_getElem? (i := 232) rfl) rfl
set_option maxRecDepth 8000 in
theorem mw_753 : Cond.instanceMethod yX7_firstKeptEvent ∈ wsG := mT3 (List.mem_of_getElem? (i := 234) rfl) rfl
theorem mw_754 : Cond.selects RX7 yX7_firstKeptEvent yX7_firstKeptEvent ∈ wsG := mP2 (q := (yX7_firstKeptEvent, _)) (List.mem_of_getElem? (i := 15) rfl) rfl
set_option maxRecDepth 8000 in
theorem mw_755 : Cond.code yX7_firstKeptEvent cX7_firstKeptEvent 4 (some .int) ∈ wsG := mT3 (List.mem_of_getElem? (i := 235) rfl) rfl
set_option maxRecDepth 8000 in
theorem mw_756 : Cond.methodLink RL 60 yX9_run ∈ wsG := mT5 (List.mem_of_getElem? (i := 231) rfl) rfl
set_option maxRecDepth 8000 in
theorem mw_757 : Cond.instanceMethod yX9_run ∈ wsG := mT5 (List.mem_of_getElem? (i := 232) rfl) rfl
set_option maxRecDepth 8000 in
theorem mw_758 : Cond.selects RX9 yX9_run yX9_run ∈ wsG := mT5 (List.mem_of_getElem? (i := 233) rfl) rfl
set_option maxRecDepth 8000 in
theorem mw_759 : Cond.code yX9_run cX9_run 9 (some .int) ∈ wsG := mT5 (List.mem_of_getElem? (i := 234) rfl) rfl
set_option maxRecDepth 8000 in
theorem mw_760 : Cond.methodLink RX9 290 yX9_runs ∈ wsG := mT5 (List.mem_of_getElem? (i := 235) rfl) rfl
set_option maxRecDepth 8000 in
theorem mw_761 : Cond.methodLink RL 61 yX8_event ∈ wsG := mT3 (List.mem_of_getElem? (i := 236) rfl) rfl
set_option maxRecDepth 8000 in
theorem mw_762 : Cond.instanceMethod yX8_event ∈ wsG := mT3 (List.mem_of_getElem? (i := 237) rfl) rfl
set_option maxRecDepth 8000 in
theorem mw_763 : Cond.selects RX8 yX8_event yX8_event ∈ wsG := mT3 (List.mem_of_getElem? (i := 238) rfl) rfl
set_option maxRecDepth 8000 in
theorem mw_764 : Cond.code yX8_event cX8_event 3 (some .int) ∈ wsG := mT3 (List.mem_of_getElem? (i := 239) rfl) rfl
set_option maxRecDepth 8000 in
theorem mw_765 : Cond.methodLink RX8 159 yX8_isKey ∈ wsG := mT4 (List.mem_of_getElem? (i := 0) rfl) rfl
set_option maxRecDepth 8000 in
theorem mw_766 : Cond.static yX8_isKey ∈ wsG := mT4 (List.mem_of_getElem? (i := 1) rfl) rfl
set_option maxRecDepth 8000 in
theorem mw_767 : Cond.code yX8_isKey cX8_isKey 1 (some .boolean) ∈ wsG := mT4 (List.mem_of_getElem? (i := 2) rfl) rfl
set_option maxRecDepth 8000 in
theorem mw_768 : Cond.methodLink RX8 162 yX1_step ∈ wsG := mT4 (List.mem_of_getElem? (i := 3) rfl) rfl
set_option maxRecDepth 8000 in
theorem mw_769 : Cond.instanceMethod yX1_step ∈ wsG := mT4 (List.mem_of_getElem? (i := 4) rfl) rfl
set_option maxRecDepth 8000 in
theorem mw_770 : Cond.selects RX1 yX1_step yX1_step ∈ wsG := mT4 (List.mem_of_getElem? (i := 5) rfl) rfl
set_option maxRecDepth 8000 in
theorem mw_771 : Cond.code yX1_step cX1_step 4 (some .int) ∈ wsG := mT4 (List.mem_of_getElem? (i := 6) rfl) rfl
set_option maxRecDepth 8000 in
theorem mw_772 : Cond.methodLink RX1 31 yX1_isLetGo ∈ wsG := mT4 (List.mem_of_getElem? (i := 7) rfl) rfl
set_option maxRecDepth 8000 in
theorem mw_773 : Cond.instanceMethod yX1_isLetGo ∈ wsG := mT4 (List.mem_of_getElem? (i := 8) rfl) rfl
set_option maxRecDepth 8000 in
theorem mw_774 : Cond.selects RX1 yX1_isLetGo yX1_isLetGo ∈ wsG := mT4 (List.mem_of_getElem? (i := 9) rfl) rfl
set_option maxRecDepth 8000 in
theorem mw_775 : Cond.code yX1_isLetGo cX1_isLetGo 4 (some .boolean) ∈ wsG := mT4 (List.mem_of_getElem? (i := 10) rfl) rfl
set_option maxRecDepth 8000 in
theorem mw_776 : Cond.methodLink RX1 47 yX1_verdictOf ∈ wsG := mT4 (List.mem_of_getElem? (i := 11) rfl) rfl
set_option maxRecDepth 8000 in
theorem mw_777 : Cond.instanceMethod yX1_verdictOf ∈ wsG := mT4 (List.mem_of_getElem? (i := 12) rfl) rfl
set_option maxRecDepth 8000 in
theorem mw_778 : Cond.selects RX1 yX1_verdictOf yX1_verdictOf ∈ wsG := mT4 (List.mem_of_getElem? (i := 13) rfl) rfl
set_option maxRecDepth 8000 in
theorem mw_779 : Cond.code yX1_verdictOf cX1_verdictOf 11 (some .int) ∈ wsG := mT4 (List.mem_of_getElem? (i := 14) rfl) rfl
set_option maxRecDepth 8000 in
theorem mw_780 : Cond.methodLink RX1 51 yX7_size ∈ wsG := mT4 (List.mem_of_getElem? (i := 16) rfl) rfl
set_option maxRecDepth 8000 in
theorem mw_781 : Cond.methodLink RX1 65 yX7_verdictOf ∈ wsG := mT4 (List.mem_of_getElem? (i := 18) rfl) rfl
set_option maxRecDepth 8000 in
theorem mw_782 : Cond.methodLink RX1 68 yX7_keeps ∈ wsG := mT4 (List.mem_of_getElem? (i := 19) rfl) rfl
set_option maxRecDepth 8000 in
theorem mw_783 : Cond.methodLink RX1 39 yX1_stepped ∈ wsG := mT4 (List.mem_of_getElem? (i := 20) rfl) rfl
set_option maxRecDepth 8000 in
theorem mw_784 : Cond.static yX1_stepped ∈ wsG := mT4 (List.mem_of_getElem? (i := 21) rfl) rfl
set_option maxRecDepth 8000 in
theorem mw_785 : Cond.code yX1_stepped cX1_stepped 7 (some .long) ∈ wsG := mT4 (List.mem_of_getElem? (i := 22) rfl) rfl
set_option maxRecDepth 8000 in
theorem mw_786 : Cond.methodLink RX1 61 yX7_next ∈ wsG := mT4 (List.mem_of_getElem? (i := 23) rfl) rfl
set_option maxRecDepth 8000 in
theorem mw_787 : Cond.methodLink RL 64 yX9_event ∈ wsG := mT5 (List.mem_of_getElem? (i := 236) rfl) rfl
set_option maxRecDepth 8000 in
theorem mw_788 : Cond.instanceMethod yX9_event ∈ wsG := mT5 (List.mem_of_getElem? (i := 237) rfl) rfl
set_option maxRecDepth 8000 in
theorem mw_789 : Cond.selects RX9 yX9_event yX9_event ∈ wsG := mT5 (List.mem_of_getElem? (i := 238) rfl) rfl
set_option maxRecDepth 8000 in
theorem mw_790 : Cond.code yX9_event cX9_event 3 (some .int) ∈ wsG := mT5 (List.mem_of_getElem? (i := 239) rfl) rfl
set_option maxRecDepth 8000 in
theorem mw_791 : Cond.methodLink RX9 299 yX9_isKey ∈ wsG := mT6 (List.mem_of_getElem? (i := 0) rfl) rfl
set_option maxRecDepth 8000 in
theorem mw_792 : Cond.static yX9_isKey ∈ wsG := mT6 (List.mem_of_getElem? (i := 1) rfl) rfl
set_option maxRecDepth 8000 in
theorem mw_793 : Cond.code yX9_isKey cX9_isKey 1 (some .boolean) ∈ wsG := mT6 (List.mem_of_getElem? (i := 2) rfl) rfl
set_option maxRecDepth 8000 in
theorem mw_794 : Cond.constantLong RX9 297 (15) ∈ wsG := mT6 (List.mem_of_getElem? (i := 3) rfl) rfl
set_option maxRecDepth 8000 in
theorem mw_795 : Cond.methodLink RX9 302 yX9_isGone ∈ wsG := mT6 (List.mem_of_getElem? (i := 4) rfl) rfl
set_option maxRecDepth 8000 in
theorem mw_796 : Cond.instanceMethod yX9_isGone ∈ wsG := mT6 (List.mem_of_getElem? (i := 6) rfl) rfl
theorem mw_797 : Cond.selects RX9 yX9_isGone yX9_isGone ∈ wsG := mP4 (q := (yX9_isGone, _)) (List.mem_of_getElem? (i := 11) rfl) rfl
set_option maxRecDepth 8000 in
theorem mw_798 : Cond.code yX9_isGone cX9_isGone 3 (some .boolean) ∈ wsG := mT6 (List.mem_of_getElem? (i := 7) rfl) rfl
set_option maxRecDepth 8000 in
theorem mw_799 : Cond.methodLink RX9 294 yX9_verdictOf ∈ wsG := mT6 (List.mem_of_getElem? (i := 8) rfl) rfl
set_option maxRecDepth 8000 in
theorem mw_800 : Cond.instanceMethod yX9_verdictOf ∈ wsG := mT6 (List.mem_of_getElem? (i := 10) rfl) rfl
theorem mw_801 : Cond.selects RX9 yX9_verdictOf yX9_verdictOf ∈ wsG := mP4 (q := (yX9_verdictOf, _)) (List.mem_of_getElem? (i := 12) rfl) rfl
set_option maxRecDepth 8000 in
theorem mw_802 : Cond.code yX9_verdictOf cX9_verdictOf 7 (some .int) ∈ wsG := mT6 (List.mem_of_getElem? (i := 11) rfl) rfl
set_option maxRecDepth 8000 in
theorem mw_803 : Cond.methodLink RX9 305 yX9_step ∈ wsG := mT6 (List.mem_of_getElem? (i := 12) rfl) rfl
set_option maxRecDepth 8000 in
theorem mw_804 : Cond.instanceMethod yX9_step ∈ wsG := mT6 (List.mem_of_getElem? (i := 14) rfl) rfl
theorem mw_805 : Cond.selects RX9 yX9_step yX9_step ∈ wsG := mP4 (q := (yX9_step, _)) (List.mem_of_getElem? (i := 13) rfl) rfl
set_option maxRecDepth 8000 in
theorem mw_806 : Cond.code yX9_step cX9_step 7 none ∈ wsG := mT6 (List.mem_of_getElem? (i := 15) rfl) rfl
set_option maxRecDepth 8000 in
theorem mw_807 : Cond.methodLink RL 65 yX8_lost ∈ wsG := mT4 (List.mem_of_getElem? (i := 25) rfl) rfl
set_option maxRecDepth 8000 in
theorem mw_808 : Cond.instanceMethod yX8_lost ∈ wsG := mT4 (List.mem_of_getElem? (i := 26) rfl) rfl
set_option maxRecDepth 8000 in
theorem mw_809 : Cond.selects RX8 yX8_lost yX8_lost ∈ wsG := mT4 (List.mem_of_getElem? (i := 27) rfl) rfl
set_option maxRecDepth 8000 in
theorem mw_810 : Cond.code yX8_lost cX8_lost 4 (some .int) ∈ wsG := mT4 (List.mem_of_getElem? (i := 28) rfl) rfl
set_option maxRecDepth 8000 in
theorem mw_811 : Cond.methodLink RX8 166 yX8_refusalOfKey ∈ wsG := mT4 (List.mem_of_getElem? (i := 29) rfl) rfl
set_option maxRecDepth 8000 in
theorem mw_812 : Cond.instanceMethod yX8_refusalOfKey ∈ wsG := mT4 (List.mem_of_getElem? (i := 31) rfl) rfl
theorem mw_813 : Cond.selects RX8 yX8_refusalOfKey yX8_refusalOfKey ∈ wsG := mP3 (q := (yX8_refusalOfKey, _)) (List.mem_of_getElem? (i := 0) rfl) rfl
set_option maxRecDepth 8000 in
theorem mw_814 : Cond.code yX8_refusalOfKey cX8_refusalOfKey 2 (some .int) ∈ wsG := mT4 (List.mem_of_getElem? (i := 32) rfl) rfl
set_option maxRecDepth 8000 in
theorem mw_815 : Cond.methodLink RX8 169 yX1_lose ∈ wsG := mT4 (List.mem_of_getElem? (i := 33) rfl) rfl
set_option maxRecDepth 8000 in
theorem mw_816 : Cond.instanceMethod yX1_lose ∈ wsG := mT4 (List.mem_of_getElem? (i := 34) rfl) rfl
set_option maxRecDepth 8000 in
theorem mw_817 : Cond.selects RX1 yX1_lose yX1_lose ∈ wsG := mT4 (List.mem_of_getElem? (i := 35) rfl) rfl
set_option maxRecDepth 8000 in
theorem mw_818 : Cond.code yX1_lose cX1_lose 11 (some .int) ∈ wsG := mT4 (List.mem_of_getElem? (i := 36) rfl) rfl
set_option maxRecDepth 8000 in
theorem mw_819 : Cond.methodLink RL 68 yX9_lost ∈ wsG := mT6 (List.mem_of_getElem? (i := 16) rfl) rfl
set_option maxRecDepth 8000 in
theorem mw_820 : Cond.instanceMethod yX9_lost ∈ wsG := mT6 (List.mem_of_getElem? (i := 17) rfl) rfl
set_option maxRecDepth 8000 in
theorem mw_821 : Cond.selects RX9 yX9_lost yX9_lost ∈ wsG := mT6 (List.mem_of_getElem? (i := 18) rfl) rfl
set_option maxRecDepth 8000 in
theorem mw_822 : Cond.code yX9_lost cX9_lost 5 (some .int) ∈ wsG := mT6 (List.mem_of_getElem? (i := 19) rfl) rfl
set_option maxRecDepth 8000 in
theorem mw_823 : Cond.constantLong RX9 309 (100) ∈ wsG := mT6 (List.mem_of_getElem? (i := 20) rfl) rfl
set_option maxRecDepth 8000 in
theorem mw_824 : Cond.methodLink RL 69 yX8_told ∈ wsG := mT4 (List.mem_of_getElem? (i := 37) rfl) rfl
set_option maxRecDepth 8000 in
theorem mw_825 : Cond.instanceMethod yX8_told ∈ wsG := mT4 (List.mem_of_getElem? (i := 38) rfl) rfl
set_option maxRecDepth 8000 in
theorem mw_826 : Cond.selects RX8 yX8_told yX8_told ∈ wsG := mT4 (List.mem_of_getElem? (i := 39) rfl) rfl
set_option maxRecDepth 8000 in
theorem mw_827 : Cond.code yX8_told cX8_told 3 (some .int) ∈ wsG := mT4 (List.mem_of_getElem? (i := 40) rfl) rfl
set_option maxRecDepth 8000 in
theorem mw_828 : Cond.methodLink RX8 172 yX1_verdictOf ∈ wsG := mT4 (List.mem_of_getElem? (i := 41) rfl) rfl
set_option maxRecDepth 8000 in
theorem mw_829 : Cond.methodLink RL 72 yX9_told ∈ wsG := mT6 (List.mem_of_getElem? (i := 21) rfl) rfl
set_option maxRecDepth 8000 in
theorem mw_830 : Cond.instanceMethod yX9_told ∈ wsG := mT6 (List.mem_of_getElem? (i := 22) rfl) rfl
set_option maxRecDepth 8000 in
theorem mw_831 : Cond.selects RX9 yX9_told yX9_told ∈ wsG := mT6 (List.mem_of_getElem? (i := 23) rfl) rfl
set_option maxRecDepth 8000 in
theorem mw_832 : Cond.code yX9_told cX9_told 2 (some .int) ∈ wsG := mT6 (List.mem_of_getElem? (i := 24) rfl) rfl
set_option maxRecDepth 8000 in
theorem mw_833 : Cond.methodLink RL 73 yX8_may ∈ wsG := mT4 (List.mem_of_getElem? (i := 42) rfl) rfl
set_option maxRecDepth 8000 in
theorem mw_834 : Cond.instanceMethod yX8_may ∈ wsG := mT4 (List.mem_of_getElem? (i := 43) rfl) rfl
set_option maxRecDepth 8000 in
theorem mw_835 : Cond.selects RX8 yX8_may yX8_may ∈ wsG := mT4 (List.mem_of_getElem? (i := 44) rfl) rfl
set_option maxRecDepth 8000 in
theorem mw_836 : Cond.code yX8_may cX8_may 3 (some .int) ∈ wsG := mT4 (List.mem_of_getElem? (i := 45) rfl) rfl
set_option maxRecDepth 8000 in
theorem mw_837 : Cond.methodLink RX8 175 yX1_statesOf ∈ wsG := mT4 (List.mem_of_getElem? (i := 46) rfl) rfl
set_option maxRecDepth 8000 in
theorem mw_838 : Cond.instanceMethod yX1_statesOf ∈ wsG := mT4 (List.mem_of_getElem? (i := 47) rfl) rfl
set_option maxRecDepth 8000 in
theorem mw_839 : Cond.selects RX1 yX1_statesOf yX1_statesOf ∈ wsG := mT4 (List.mem_of_getElem? (i := 48) rfl) rfl
set_option maxRecDepth 8000 in
theorem mw_840 : Cond.code yX1_statesOf cX1_statesOf 2 (some .int) ∈ wsG := mT4 (List.mem_of_getElem? (i := 49) rfl) rfl
set_option maxRecDepth 8000 in
theorem mw_841 : Cond.methodLink RX1 72 yJ13_bitCount_95d88 ∈ wsG := mT4 (List.mem_of_getElem? (i := 50) rfl) rfl
set_option maxRecDepth 8000 in
theorem mw_842 : Cond.static yJ13_bitCount_95d88 ∈ wsG := mT4 (List.mem_of_getElem? (i := 51) rfl) rfl
set_option maxRecDepth 8000 in
theorem mw_843 : Cond.initialized RJ13 ∈ wsG := mT1 (List.mem_of_getElem? (i := 12) rfl) rfl
set_option maxRecDepth 8000 in
theorem mw_844 : Cond.code yJ13_bitCount_95d88 cJ13_bitCount_95d88 2 (some .int) ∈ wsG := mT4 (List.mem_of_getElem? (i := 52) rfl) rfl
set_option maxRecDepth 8000 in
theorem mw_845 : Cond.constantLong RJ13 314 (6148914691236517205) ∈ wsG := mT4 (List.mem_of_getElem? (i := 53) rfl) rfl
set_option maxRecDepth 8000 in
theorem mw_846 : Cond.constantLong RJ13 316 (3689348814741910323) ∈ wsG := mT4 (List.mem_of_getElem? (i := 54) rfl) rfl
set_option maxRecDepth 8000 in
theorem mw_847 : Cond.constantLong RJ13 318 (1085102592571150095) ∈ wsG := mT4 (List.mem_of_getElem? (i := 55) rfl) rfl
set_option maxRecDepth 8000 in
theorem mw_848 : Cond.methodLink RL 76 yX9_may ∈ wsG := mT6 (List.mem_of_getElem? (i := 25) rfl) rfl
set_option maxRecDepth 8000 in
theorem mw_849 : Cond.instanceMethod yX9_may ∈ wsG := mT6 (List.mem_of_getElem? (i := 26) rfl) rfl
set_option maxRecDepth 8000 in
theorem mw_850 : Cond.selects RX9 yX9_may yX9_may ∈ wsG := mT6 (List.mem_of_getElem? (i := 27) rfl) rfl
set_option maxRecDepth 8000 in
theorem mw_851 : Cond.code yX9_may cX9_may 4 (some .int) ∈ wsG := mT6 (List.mem_of_getElem? (i := 28) rfl) rfl
set_option maxRecDepth 8000 in
theorem mw_852 : Cond.methodLink RL 77 yX8_state ∈ wsG := mT4 (List.mem_of_getElem? (i := 56) rfl) rfl
set_option maxRecDepth 8000 in
theorem mw_853 : Cond.instanceMethod yX8_state ∈ wsG := mT4 (List.mem_of_getElem? (i := 57) rfl) rfl
set_option maxRecDepth 8000 in
theorem mw_854 : Cond.selects RX8 yX8_state yX8_state ∈ wsG := mT4 (List.mem_of_getElem? (i := 58) rfl) rfl
set_option maxRecDepth 8000 in
theorem mw_855 : Cond.code yX8_state cX8_state 4 (some .int) ∈ wsG := mT4 (List.mem_of_getElem? (i := 59) rfl) rfl
set_option maxRecDepth 8000 in
theorem mw_856 : Cond.methodLink RX8 178 yX1_stateAt ∈ wsG := mT4 (List.mem_of_getElem? (i := 60) rfl) rfl
set_option maxRecDepth 8000 in
theorem mw_857 : Cond.instanceMethod yX1_stateAt ∈ wsG := mT4 (List.mem_of_getElem? (i := 61) rfl) rfl
set_option maxRecDepth 8000 in
theorem mw_858 : Cond.selects RX1 yX1_stateAt yX1_stateAt ∈ wsG := mT4 (List.mem_of_getElem? (i := 62) rfl) rfl
set_option maxRecDepth 8000 in
theorem mw_859 : Cond.code yX1_stateAt cX1_stateAt 7 (some .int) ∈ wsG := mT4 (List.mem_of_getElem? (i := 63) rfl) rfl
set_option maxRecDepth 8000 in
theorem mw_860 : Cond.methodLink RL 80 yX9_state_ ∈ wsG := mT6 (List.mem_of_getElem? (i := 29) rfl) rfl
set_option maxRecDepth 8000 in
theorem mw_861 : Cond.instanceMethod yX9_state_ ∈ wsG := mT6 (List.mem_of_getElem? (i := 30) rfl) rfl
set_option maxRecDepth 8000 in
theorem mw_862 : Cond.selects RX9 yX9_state_ yX9_state_ ∈ wsG := mT6 (List.mem_of_getElem? (i := 31) rfl) rfl
set_option maxRecDepth 8000 in
theorem mw_863 : Cond.code yX9_state_ cX9_state_ 5 (some .int) ∈ wsG := mT6 (List.mem_of_getElem? (i := 32) rfl) rfl
set_option maxRecDepth 8000 in
theorem mw_864 : Cond.methodLink RL 81 yX8_events ∈ wsG := mT4 (List.mem_of_getElem? (i := 64) rfl) rfl
set_option maxRecDepth 8000 in
theorem mw_865 : Cond.instanceMethod yX8_events ∈ wsG := mT4 (List.mem_of_getElem? (i := 65) rfl) rfl
set_option maxRecDepth 8000 in
theorem mw_866 : Cond.selects RX8 yX8_events yX8_events ∈ wsG := mT4 (List.mem_of_getElem? (i := 66) rfl) rfl
set_option maxRecDepth 8000 in
theorem mw_867 : Cond.code yX8_events cX8_events 3 (some .int) ∈ wsG := mT4 (List.mem_of_getElem? (i := 67) rfl) rfl
set_option maxRecDepth 8000 in
theorem mw_868 : Cond.methodLink RX8 181 yX1_eventsOf ∈ wsG := mT4 (List.mem_of_getElem? (i := 68) rfl) rfl
set_option maxRecDepth 8000 in
theorem mw_869 : Cond.instanceMethod yX1_eventsOf ∈ wsG := mT4 (List.mem_of_getElem? (i := 69) rfl) rfl
set_option maxRecDepth 8000 in
theorem mw_870 : Cond.selects RX1 yX1_eventsOf yX1_eventsOf ∈ wsG := mT4 (List.mem_of_getElem? (i := 70) rfl) rfl
set_option maxRecDepth 8000 in
theorem mw_871 : Cond.code yX1_eventsOf cX1_eventsOf 2 (some .int) ∈ wsG := mT4 (List.mem_of_getElem? (i := 71) rfl) rfl
set_option maxRecDepth 8000 in
theorem mw_872 : Cond.methodLink RL 84 yX9_events ∈ wsG := mT6 (List.mem_of_getElem? (i := 33) rfl) rfl
set_option maxRecDepth 8000 in
theorem mw_873 : Cond.instanceMethod yX9_events ∈ wsG := mT6 (List.mem_of_getElem? (i := 34) rfl) rfl
set_option maxRecDepth 8000 in
theorem mw_874 : Cond.selects RX9 yX9_events yX9_events ∈ wsG := mT6 (List.mem_of_getElem? (i := 35) rfl) rfl
set_option maxRecDepth 8000 in
theorem mw_875 : Cond.code yX9_events cX9_events 2 (some .int) ∈ wsG := mT6 (List.mem_of_getElem? (i := 36) rfl) rfl
set_option maxRecDepth 8000 in
theorem mw_876 : Cond.methodLink RL 85 yX8_anew ∈ wsG := mT4 (List.mem_of_getElem? (i := 72) rfl) rfl
set_option maxRecDepth 8000 in
theorem mw_877 : Cond.instanceMethod yX8_anew ∈ wsG := mT4 (List.mem_of_getElem? (i := 73) rfl) rfl
set_option maxRecDepth 8000 in
theorem mw_878 : Cond.selects RX8 yX8_anew yX8_anew ∈ wsG := mT4 (List.mem_of_getElem? (i := 74) rfl) rfl
set_option maxRecDepth 8000 in
theorem mw_879 : Cond.code yX8_anew cX8_anew 4 (some .int) ∈ wsG := mT4 (List.mem_of_getElem? (i := 75) rfl) rfl
set_option maxRecDepth 8000 in
theorem mw_880 : Cond.methodLink RX8 184 yX1_restart_ ∈ wsG := mT4 (List.mem_of_getElem? (i := 76) rfl) rfl
set_option maxRecDepth 8000 in
theorem mw_881 : Cond.methodLink RL 88 yX9_anew ∈ wsG := mT6 (List.mem_of_getElem? (i := 37) rfl) rfl
set_option maxRecDepth 8000 in
theorem mw_882 : Cond.instanceMethod yX9_anew ∈ wsG := mT6 (List.mem_of_getElem? (i := 38) rfl) rfl
set_option maxRecDepth 8000 in
theorem mw_883 : Cond.selects RX9 yX9_anew yX9_anew ∈ wsG := mT6 (List.mem_of_getElem? (i := 39) rfl) rfl
set_option maxRecDepth 8000 in
theorem mw_884 : Cond.code yX9_anew cX9_anew 3 (some .int) ∈ wsG := mT6 (List.mem_of_getElem? (i := 40) rfl) rfl
set_option maxRecDepth 8000 in
theorem mw_885 : Cond.methodLink RL 89 yX8_keep ∈ wsG := mT4 (List.mem_of_getElem? (i := 77) rfl) rfl
set_option maxRecDepth 8000 in
theorem mw_886 : Cond.instanceMethod yX8_keep ∈ wsG := mT4 (List.mem_of_getElem? (i := 78) rfl) rfl
set_option maxRecDepth 8000 in
theorem mw_887 : Cond.selects RX8 yX8_keep yX8_keep ∈ wsG := mT4 (List.mem_of_getElem? (i := 79) rfl) rfl
set_option maxRecDepth 8000 in
theorem mw_888 : Cond.code yX8_keep cX8_keep 1 (some .int) ∈ wsG := mT4 (List.mem_of_getElem? (i := 80) rfl) rfl
set_option maxRecDepth 8000 in
theorem mw_889 : Cond.methodLink RX8 187 yX7_copyFrom ∈ wsG := mT4 (List.mem_of_getElem? (i := 81) rfl) rfl
set_option maxRecDepth 8000 in
theorem mw_890 : Cond.instanceMethod yX7_copyFrom ∈ wsG := mT4 (List.mem_of_getElem? (i := 82) rfl) rfl
set_option maxRecDepth 8000 in
theorem mw_891 : Cond.selects RX7 yX7_copyFrom yX7_copyFrom ∈ wsG := mT4 (List.mem_of_getElem? (i := 83) rfl) rfl
set_option maxRecDepth 8000 in
theorem mw_892 : Cond.code yX7_copyFrom cX7_copyFrom 2 none ∈ wsG := mT4 (List.mem_of_getElem? (i := 84) rfl) rfl
set_option maxRecDepth 8000 in
theorem mw_893 : Cond.methodLink RX7 43 arraycopyName ∈ wsG := mT4 (List.mem_of_getElem? (i := 85) rfl) rfl
set_option maxRecDepth 8000 in
theorem mw_894 : Cond.native arraycopyName ∈ wsG := mT4 (List.mem_of_getElem? (i := 87) rfl) rfl
set_option maxRecDepth 8000 in
theorem mw_895 : Cond.static arraycopyName ∈ wsG := mT4 (List.mem_of_getElem? (i := 86) rfl) rfl
set_option maxRecDepth 8000 in
theorem mw_896 : Cond.initialized "java/lang/System" ∈ wsG := mT1 (List.mem_of_getElem? (i := 13) rfl) rfl
set_option maxRecDepth 8000 in
theorem mw_897 : Cond.methodLink RL 92 yX9_keep ∈ wsG := mT6 (List.mem_of_getElem? (i := 41) rfl) rfl
set_option maxRecDepth 8000 in
theorem mw_898 : Cond.instanceMethod yX9_keep ∈ wsG := mT6 (List.mem_of_getElem? (i := 42) rfl) rfl
set_option maxRecDepth 8000 in
theorem mw_899 : Cond.selects RX9 yX9_keep yX9_keep ∈ wsG := mT6 (List.mem_of_getElem? (i := 43) rfl) rfl
set_option maxRecDepth 8000 in
theorem mw_900 : Cond.code yX9_keep cX9_keep 2 (some .int) ∈ wsG := mT6 (List.mem_of_getElem? (i := 44) rfl) rfl
set_option maxRecDepth 8000 in
theorem mw_901 : Cond.fieldLink RX9 311 "RunWatcherModel" "isOld" "Z" ∈ wsG := mT4 (List.mem_of_getElem? (i := 195) rfl) rfl
set_option maxRecDepth 8000 in
theorem mw_902 : Cond.fieldLink RX9 314 "RunWatcherModel" "oldStates" "I" ∈ wsG := mT4 (List.mem_of_getElem? (i := 196) rfl) rfl
set_option maxRecDepth 8000 in
theorem mw_903 : Cond.methodLink RL 93 yX8_against ∈ wsG := mT4 (List.mem_of_getElem? (i := 88) rfl) rfl
set_option maxRecDepth 8000 in
theorem mw_904 : Cond.instanceMethod yX8_against ∈ wsG := mT4 (List.mem_of_getElem? (i := 89) rfl) rfl
set_option maxRecDepth 8000 in
theorem mw_905 : Cond.selects RX8 yX8_against yX8_against ∈ wsG := mT4 (List.mem_of_getElem? (i := 90) rfl) rfl
set_option maxRecDepth 8000 in
theorem mw_906 : Cond.code yX8_against cX8_against 1 (some .int) ∈ wsG := mT4 (List.mem_of_getElem? (i := 91) rfl) rfl
set_option maxRecDepth 8000 in
theorem mw_907 : Cond.methodLink RX8 191 yX3_meet ∈ wsG := mT4 (List.mem_of_getElem? (i := 92) rfl) rfl
set_option maxRecDepth 8000 in
theorem mw_908 : Cond.instanceMethod yX3_meet ∈ wsG := mT4 (List.mem_of_getElem? (i := 93) rfl) rfl
set_option maxRecDepth 8000 in
theorem mw_909 : Cond.selects RX3 yX3_meet yX3_meet ∈ wsG := mT4 (List.mem_of_getElem? (i := 94) rfl) rfl
set_option maxRecDepth 8000 in
theorem mw_910 : Cond.code yX3_meet cX3_meet 5 none ∈ wsG := mT4 (List.mem_of_getElem? (i := 95) rfl) rfl
set_option maxRecDepth 8000 in
theorem mw_911 : Cond.methodLink RX3 35 yX7_size ∈ wsG := mT4 (List.mem_of_getElem? (i := 96) rfl) rfl
set_option maxRecDepth 8000 in
theorem mw_912 : Cond.methodLink RX3 45 yX3_walk ∈ wsG := mT4 (List.mem_of_getElem? (i := 98) rfl) rfl
set_option maxRecDepth 8000 in
theorem mw_913 : Cond.instanceMethod yX3_walk ∈ wsG := mT4 (List.mem_of_getElem? (i := 100) rfl) rfl
theorem mw_914 : Cond.selects RX3 yX3_walk yX3_walk ∈ wsG := mP3 (q := (yX3_walk, _)) (List.mem_of_getElem? (i := 1) rfl) rfl
set_option maxRecDepth 8000 in
theorem mw_915 : Cond.code yX3_walk cX3_walk 9 none ∈ wsG := mT4 (List.mem_of_getElem? (i := 101) rfl) rfl
set_option maxRecDepth 8000 in
theorem mw_916 : Cond.methodLink RX3 53 yX7_next ∈ wsG := mT4 (List.mem_of_getElem? (i := 102) rfl) rfl
set_option maxRecDepth 8000 in
theorem mw_917 : Cond.methodLink RX3 57 yX7_keeps ∈ wsG := mT4 (List.mem_of_getElem? (i := 104) rfl) rfl
set_option maxRecDepth 8000 in
theorem mw_918 : Cond.methodLink RX3 61 yX3_look ∈ wsG := mT4 (List.mem_of_getElem? (i := 105) rfl) rfl
set_option maxRecDepth 8000 in
theorem mw_919 : Cond.instanceMethod yX3_look ∈ wsG := mT4 (List.mem_of_getElem? (i := 107) rfl) rfl
theorem mw_920 : Cond.selects RX3 yX3_look yX3_look ∈ wsG := mP3 (q := (yX3_look, _)) (List.mem_of_getElem? (i := 2) rfl) rfl
set_option maxRecDepth 8000 in
theorem mw_921 : Cond.code yX3_look cX3_look 4 none ∈ wsG := mT4 (List.mem_of_getElem? (i := 108) rfl) rfl
set_option maxRecDepth 8000 in
theorem mw_922 : Cond.methodLink RX8 195 yX3_relation ∈ wsG := mT4 (List.mem_of_getElem? (i := 109) rfl) rfl
set_option maxRecDepth 8000 in
theorem mw_923 : Cond.instanceMethod yX3_relation ∈ wsG := mT4 (List.mem_of_getElem? (i := 110) rfl) rfl
set_option maxRecDepth 8000 in
theorem mw_924 : Cond.selects RX3 yX3_relation yX3_relation ∈ wsG := mT4 (List.mem_of_getElem? (i := 111) rfl) rfl
set_option maxRecDepth 8000 in
theorem mw_925 : Cond.code yX3_relation cX3_relation 1 (some .int) ∈ wsG := mT4 (List.mem_of_getElem? (i := 112) rfl) rfl
set_option maxRecDepth 8000 in
theorem mw_926 : Cond.methodLink RL 96 yX9_against ∈ wsG := mT6 (List.mem_of_getElem? (i := 45) rfl) rfl
set_option maxRecDepth 8000 in
theorem mw_927 : Cond.instanceMethod yX9_against ∈ wsG := mT6 (List.mem_of_getElem? (i := 46) rfl) rfl
set_option maxRecDepth 8000 in
theorem mw_928 : Cond.selects RX9 yX9_against yX9_against ∈ wsG := mT6 (List.mem_of_getElem? (i := 47) rfl) rfl
set_option maxRecDepth 8000 in
theorem mw_929 : Cond.code yX9_against cX9_against 7 (some .int) ∈ wsG := mT6 (List.mem_of_getElem? (i := 48) rfl) rfl
set_option maxRecDepth 8000 in
theorem mw_930 : Cond.fieldLink RX9 317 "RunWatcherModel" "pairs" "I" ∈ wsG := mT4 (List.mem_of_getElem? (i := 199) rfl) rfl
set_option maxRecDepth 8000 in
theorem mw_931 : Cond.methodLink RX9 323 yX9_pairUp ∈ wsG := mT6 (List.mem_of_getElem? (i := 49) rfl) rfl
set_option maxRecDepth 8000 in
theorem mw_932 : Cond.instanceMethod yX9_pairUp ∈ wsG := mT6 (List.mem_of_getElem? (i := 51) rfl) rfl
theorem mw_933 : Cond.selects RX9 yX9_pairUp yX9_pairUp ∈ wsG := mP4 (q := (yX9_pairUp, _)) (List.mem_of_getElem? (i := 14) rfl) rfl
set_option maxRecDepth 8000 in
theorem mw_934 : Cond.code yX9_pairUp cX9_pairUp 3 none ∈ wsG := mT6 (List.mem_of_getElem? (i := 52) rfl) rfl
set_option maxRecDepth 8000 in
theorem mw_935 : Cond.methodLink RX9 320 yX9_meetPair ∈ wsG := mT6 (List.mem_of_getElem? (i := 53) rfl) rfl
set_option maxRecDepth 8000 in
theorem mw_936 : Cond.instanceMethod yX9_meetPair ∈ wsG := mT6 (List.mem_of_getElem? (i := 55) rfl) rfl
theorem mw_937 : Cond.selects RX9 yX9_meetPair yX9_meetPair ∈ wsG := mP4 (q := (yX9_meetPair, _)) (List.mem_of_getElem? (i := 15) rfl) rfl
set_option maxRecDepth 8000 in
theorem mw_938 : Cond.code yX9_meetPair cX9_meetPair 3 none ∈ wsG := mT6 (List.mem_of_getElem? (i := 56) rfl) rfl
set_option maxRecDepth 8000 in
theorem mw_939 : Cond.methodLink RL 97 yX8_apart ∈ wsG := mT4 (List.mem_of_getElem? (i := 113) rfl) rfl
set_option maxRecDepth 8000 in
theorem mw_940 : Cond.instanceMethod yX8_apart ∈ wsG := mT4 (List.mem_of_getElem? (i := 114) rfl) rfl
set_option maxRecDepth 8000 in
theorem mw_941 : Cond.selects RX8 yX8_apart yX8_apart ∈ wsG := mT4 (List.mem_of_getElem? (i := 115) rfl) rfl
set_option maxRecDepth 8000 in
theorem mw_942 : Cond.code yX8_apart cX8_apart 1 (some .int) ∈ wsG := mT4 (List.mem_of_getElem? (i := 116) rfl) rfl
set_option maxRecDepth 8000 in
theorem mw_943 : Cond.methodLink RX8 198 yX3_shortestApart ∈ wsG := mT4 (List.mem_of_getElem? (i := 117) rfl) rfl
set_option maxRecDepth 8000 in
theorem mw_944 : Cond.instanceMethod yX3_shortestApart ∈ wsG := mT4 (List.mem_of_getElem? (i := 118) rfl) rfl
set_option maxRecDepth 8000 in
theorem mw_945 : Cond.selects RX3 yX3_shortestApart yX3_shortestApart ∈ wsG := mT4 (List.mem_of_getElem? (i := 119) rfl) rfl
set_option maxRecDepth 8000 in
theorem mw_946 : Cond.code yX3_shortestApart cX3_shortestApart 1 (some .int) ∈ wsG := mT4 (List.mem_of_getElem? (i := 120) rfl) rfl
set_option maxRecDepth 8000 in
theorem mw_947 : Cond.methodLink RL 100 yX9_apart ∈ wsG := mT6 (List.mem_of_getElem? (i := 57) rfl) rfl
set_option maxRecDepth 8000 in
theorem mw_948 : Cond.instanceMethod yX9_apart ∈ wsG := mT6 (List.mem_of_getElem? (i := 58) rfl) rfl
set_option maxRecDepth 8000 in
theorem mw_949 : Cond.selects RX9 yX9_apart yX9_apart ∈ wsG := mT6 (List.mem_of_getElem? (i := 59) rfl) rfl
set_option maxRecDepth 8000 in
theorem mw_950 : Cond.code yX9_apart cX9_apart 2 (some .int) ∈ wsG := mT6 (List.mem_of_getElem? (i := 60) rfl) rfl
set_option maxRecDepth 8000 in
theorem mw_951 : Cond.methodLink RL 101 yX8_count ∈ wsG := mT4 (List.mem_of_getElem? (i := 121) rfl) rfl
set_option maxRecDepth 8000 in
theorem mw_952 : Cond.instanceMethod yX8_count ∈ wsG := mT4 (List.mem_of_getElem? (i := 122) rfl) rfl
set_option maxRecDepth 8000 in
theorem mw_953 : Cond.selects RX8 yX8_count yX8_count ∈ wsG := mT4 (List.mem_of_getElem? (i := 123) rfl) rfl
set_option maxRecDepth 8000 in
theorem mw_954 : Cond.code yX8_count cX8_count 2 (some .int) ∈ wsG := mT4 (List.mem_of_getElem? (i := 124) rfl) rfl
set_option maxRecDepth 8000 in
theorem mw_955 : Cond.methodLink RX8 201 yX7_sureStates ∈ wsG := mT4 (List.mem_of_getElem? (i := 125) rfl) rfl
set_option maxRecDepth 8000 in
theorem mw_956 : Cond.instanceMethod yX7_sureStates ∈ wsG := mT4 (List.mem_of_getElem? (i := 126) rfl) rfl
set_option maxRecDepth 8000 in
theorem mw_957 : Cond.selects RX7 yX7_sureStates yX7_sureStates ∈ wsG := mT4 (List.mem_of_getElem? (i := 127) rfl) rfl
set_option maxRecDepth 8000 in
theorem mw_958 : Cond.code yX7_sureStates cX7_sureStates 3 (some .int) ∈ wsG := mT4 (List.mem_of_getElem? (i := 128) rfl) rfl
set_option maxRecDepth 8000 in
theorem mw_959 : Cond.methodLink RX7 57 yX7_isSure ∈ wsG := mT4 (List.mem_of_getElem? (i := 129) rfl) rfl
set_option maxRecDepth 8000 in
theorem mw_960 : Cond.instanceMethod yX7_isSure ∈ wsG := mT4 (List.mem_of_getElem? (i := 130) rfl) rfl
set_option maxRecDepth 8000 in
theorem mw_961 : Cond.selects RX7 yX7_isSure yX7_isSure ∈ wsG := mT4 (List.mem_of_getElem? (i := 131) rfl) rfl
set_option maxRecDepth 8000 in
theorem mw_962 : Cond.code yX7_isSure cX7_isSure 2 (some .boolean) ∈ wsG := mT4 (List.mem_of_getElem? (i := 132) rfl) rfl
set_option maxRecDepth 8000 in
theorem mw_963 : Cond.methodLink RX8 204 yX1_letGo ∈ wsG := mT4 (List.mem_of_getElem? (i := 133) rfl) rfl
set_option maxRecDepth 8000 in
theorem mw_964 : Cond.instanceMethod yX1_letGo ∈ wsG := mT4 (List.mem_of_getElem? (i := 134) rfl) rfl
set_option maxRecDepth 8000 in
theorem mw_965 : Cond.selects RX1 yX1_letGo yX1_letGo ∈ wsG := mT4 (List.mem_of_getElem? (i := 135) rfl) rfl
set_option maxRecDepth 8000 in
theorem mw_966 : Cond.code yX1_letGo cX1_letGo 4 (some .int) ∈ wsG := mT4 (List.mem_of_getElem? (i := 136) rfl) rfl
set_option maxRecDepth 8000 in
theorem mw_967 : Cond.methodLink RL 104 yX9_count ∈ wsG := mT6 (List.mem_of_getElem? (i := 61) rfl) rfl
set_option maxRecDepth 8000 in
theorem mw_968 : Cond.instanceMethod yX9_count ∈ wsG := mT6 (List.mem_of_getElem? (i := 62) rfl) rfl
set_option maxRecDepth 8000 in
theorem mw_969 : Cond.selects RX9 yX9_count yX9_count ∈ wsG := mT6 (List.mem_of_getElem? (i := 63) rfl) rfl
set_option maxRecDepth 8000 in
theorem mw_970 : Cond.code yX9_count cX9_count 4 (some .int) ∈ wsG := mT6 (List.mem_of_getElem? (i := 64) rfl) rfl
set_option maxRecDepth 8000 in
theorem mw_971 : Cond.code objectInit ⟨#[0xb1]⟩ 1 none ∈ wsG := mT1 (List.mem_of_getElem? (i := 21) rfl) rfl
set_option maxRecDepth 8000 in
theorem mw_972 : Cond.code Lib.Math.min.name Lib.Math.min.code 2 (some .int) ∈ wsG := mT2 (List.mem_of_getElem? (i := 183) rfl) rfl
set_option maxRecDepth 8000 in
theorem ulX0 : ∀ k, k < 6 → u_lay RX0 TX0 k ∈ wsG
  | 0, _ => mT1 (List.mem_of_getElem? (i := 104) rfl) rfl
  | 1, _ => mT1 (List.mem_of_getElem? (i := 106) rfl) rfl
  | 2, _ => mT1 (List.mem_of_getElem? (i := 108) rfl) rfl
  | 3, _ => mT1 (List.mem_of_getElem? (i := 110) rfl) rfl
  | 4, _ => mT1 (List.mem_of_getElem? (i := 112) rfl) rfl
  | 5, _ => mT1 (List.mem_of_getElem? (i := 114) rfl) rfl
  | k + 6, h => absurd h (by omega)
theorem inlX0 : ∀ w ∈ wsX00, w ∈ wsG := fun w h => by
  obtain ⟨k, hk, rfl⟩ := List.mem_map.mp h
  exact ulX0 k (List.mem_range.mp hk)
set_option maxRecDepth 8000 in
theorem ulX1 : ∀ k, k < 2 → u_lay RX1 TX1 k ∈ wsG
  | 0, _ => mT2 (List.mem_of_getElem? (i := 4) rfl) rfl
  | 1, _ => mT2 (List.mem_of_getElem? (i := 6) rfl) rfl
  | k + 2, h => absurd h (by omega)
theorem inlX1 : ∀ w ∈ wsX10, w ∈ wsG := fun w h => by
  obtain ⟨k, hk, rfl⟩ := List.mem_map.mp h
  exact ulX1 k (List.mem_range.mp hk)
set_option maxRecDepth 8000 in
theorem ulX2 : ∀ k, k < 7 → u_lay RX2 TX2 k ∈ wsG
  | 0, _ => mT1 (List.mem_of_getElem? (i := 171) rfl) rfl
  | 1, _ => mT1 (List.mem_of_getElem? (i := 173) rfl) rfl
  | 2, _ => mT1 (List.mem_of_getElem? (i := 175) rfl) rfl
  | 3, _ => mT1 (List.mem_of_getElem? (i := 177) rfl) rfl
  | 4, _ => mT1 (List.mem_of_getElem? (i := 179) rfl) rfl
  | 5, _ => mT1 (List.mem_of_getElem? (i := 181) rfl) rfl
  | 6, _ => mT1 (List.mem_of_getElem? (i := 183) rfl) rfl
  | k + 7, h => absurd h (by omega)
theorem inlX2 : ∀ w ∈ wsX20, w ∈ wsG := fun w h => by
  obtain ⟨k, hk, rfl⟩ := List.mem_map.mp h
  exact ulX2 k (List.mem_range.mp hk)
set_option maxRecDepth 8000 in
theorem ulX3 : ∀ k, k < 7 → u_lay RX3 TX3 k ∈ wsG
  | 0, _ => mT1 (List.mem_of_getElem? (i := 221) rfl) rfl
  | 1, _ => mT1 (List.mem_of_getElem? (i := 223) rfl) rfl
  | 2, _ => mT1 (List.mem_of_getElem? (i := 225) rfl) rfl
  | 3, _ => mT1 (List.mem_of_getElem? (i := 227) rfl) rfl
  | 4, _ => mT1 (List.mem_of_getElem? (i := 229) rfl) rfl
  | 5, _ => mT1 (List.mem_of_getElem? (i := 231) rfl) rfl
  | 6, _ => mT1 (List.mem_of_getElem? (i := 233) rfl) rfl
  | k + 7, h => absurd h (by omega)
theorem inlX3 : ∀ w ∈ wsX30, w ∈ wsG := fun w h => by
  obtain ⟨k, hk, rfl⟩ := List.mem_map.mp h
  exact ulX3 k (List.mem_range.mp hk)
set_option maxRecDepth 8000 in
theorem ulX4 : ∀ k, k < 11 → u_lay RX4 TX4 k ∈ wsG
  | 0, _ => mT1 (List.mem_of_getElem? (i := 134) rfl) rfl
  | 1, _ => mT1 (List.mem_of_getElem? (i := 136) rfl) rfl
  | 2, _ => mT1 (List.mem_of_getElem? (i := 138) rfl) rfl
  | 3, _ => mT1 (List.mem_of_getElem? (i := 140) rfl) rfl
  | 4, _ => mT1 (List.mem_of_getElem? (i := 142) rfl) rfl
  | 5, _ => mT1 (List.mem_of_getElem? (i := 144) rfl) rfl
  | 6, _ => mT1 (List.mem_of_getElem? (i := 146) rfl) rfl
  | 7, _ => mT1 (List.mem_of_getElem? (i := 148) rfl) rfl
  | 8, _ => mT1 (List.mem_of_getElem? (i := 150) rfl) rfl
  | 9, _ => mT1 (List.mem_of_getElem? (i := 152) rfl) rfl
  | 10, _ => mT1 (List.mem_of_getElem? (i := 154) rfl) rfl
  | k + 11, h => absurd h (by omega)
theorem inlX4 : ∀ w ∈ wsX40, w ∈ wsG := fun w h => by
  obtain ⟨k, hk, rfl⟩ := List.mem_map.mp h
  exact ulX4 k (List.mem_range.mp hk)
set_option maxRecDepth 8000 in
theorem ulX5 : ∀ k, k < 9 → u_lay RX5 TX5 k ∈ wsG
  | 0, _ => mT1 (List.mem_of_getElem? (i := 73) rfl) rfl
  | 1, _ => mT1 (List.mem_of_getElem? (i := 75) rfl) rfl
  | 2, _ => mT1 (List.mem_of_getElem? (i := 77) rfl) rfl
  | 3, _ => mT1 (List.mem_of_getElem? (i := 79) rfl) rfl
  | 4, _ => mT1 (List.mem_of_getElem? (i := 81) rfl) rfl
  | 5, _ => mT1 (List.mem_of_getElem? (i := 83) rfl) rfl
  | 6, _ => mT1 (List.mem_of_getElem? (i := 85) rfl) rfl
  | 7, _ => mT1 (List.mem_of_getElem? (i := 87) rfl) rfl
  | 8, _ => mT1 (List.mem_of_getElem? (i := 89) rfl) rfl
  | k + 9, h => absurd h (by omega)
theorem inlX5 : ∀ w ∈ wsX50, w ∈ wsG := fun w h => by
  obtain ⟨k, hk, rfl⟩ := List.mem_map.mp h
  exact ulX5 k (List.mem_range.mp hk)
set_option maxRecDepth 8000 in
theorem ulX6 : ∀ k, k < 9 → u_lay RX6 TX6 k ∈ wsG
  | 0, _ => mT1 (List.mem_of_getElem? (i := 43) rfl) rfl
  | 1, _ => mT1 (List.mem_of_getElem? (i := 45) rfl) rfl
  | 2, _ => mT1 (List.mem_of_getElem? (i := 47) rfl) rfl
  | 3, _ => mT1 (List.mem_of_getElem? (i := 49) rfl) rfl
  | 4, _ => mT1 (List.mem_of_getElem? (i := 51) rfl) rfl
  | 5, _ => mT1 (List.mem_of_getElem? (i := 53) rfl) rfl
  | 6, _ => mT1 (List.mem_of_getElem? (i := 55) rfl) rfl
  | 7, _ => mT1 (List.mem_of_getElem? (i := 57) rfl) rfl
  | 8, _ => mT1 (List.mem_of_getElem? (i := 59) rfl) rfl
  | k + 9, h => absurd h (by omega)
theorem inlX6 : ∀ w ∈ wsX60, w ∈ wsG := fun w h => by
  obtain ⟨k, hk, rfl⟩ := List.mem_map.mp h
  exact ulX6 k (List.mem_range.mp hk)
set_option maxRecDepth 8000 in
theorem ulX7 : ∀ k, k < 5 → u_lay RX7 TX7 k ∈ wsG
  | 0, _ => mT1 (List.mem_of_getElem? (i := 197) rfl) rfl
  | 1, _ => mT1 (List.mem_of_getElem? (i := 199) rfl) rfl
  | 2, _ => mT1 (List.mem_of_getElem? (i := 201) rfl) rfl
  | 3, _ => mT1 (List.mem_of_getElem? (i := 203) rfl) rfl
  | 4, _ => mT1 (List.mem_of_getElem? (i := 205) rfl) rfl
  | k + 5, h => absurd h (by omega)
theorem inlX7 : ∀ w ∈ wsX70, w ∈ wsG := fun w h => by
  obtain ⟨k, hk, rfl⟩ := List.mem_map.mp h
  exact ulX7 k (List.mem_range.mp hk)
set_option maxRecDepth 8000 in
theorem ulX8 : ∀ k, k < 11 → u_lay RX8 TX8 k ∈ wsG
  | 0, _ => mT2 (List.mem_of_getElem? (i := 20) rfl) rfl
  | 1, _ => mT2 (List.mem_of_getElem? (i := 22) rfl) rfl
  | 2, _ => mT2 (List.mem_of_getElem? (i := 24) rfl) rfl
  | 3, _ => mT2 (List.mem_of_getElem? (i := 26) rfl) rfl
  | 4, _ => mT2 (List.mem_of_getElem? (i := 28) rfl) rfl
  | 5, _ => mT2 (List.mem_of_getElem? (i := 30) rfl) rfl
  | 6, _ => mT2 (List.mem_of_getElem? (i := 32) rfl) rfl
  | 7, _ => mT2 (List.mem_of_getElem? (i := 34) rfl) rfl
  | 8, _ => mT2 (List.mem_of_getElem? (i := 36) rfl) rfl
  | 9, _ => mT2 (List.mem_of_getElem? (i := 38) rfl) rfl
  | 10, _ => mT2 (List.mem_of_getElem? (i := 40) rfl) rfl
  | k + 11, h => absurd h (by omega)
theorem inlX8 : ∀ w ∈ wsX80, w ∈ wsG := fun w h => by
  obtain ⟨k, hk, rfl⟩ := List.mem_map.mp h
  exact ulX8 k (List.mem_range.mp hk)
set_option maxRecDepth 8000 in
theorem ulX9 : ∀ k, k < 59 → u_lay RX9 TX9 k ∈ wsG
  | 0, _ => mT4 (List.mem_of_getElem? (i := 203) rfl) rfl
  | 1, _ => mT4 (List.mem_of_getElem? (i := 205) rfl) rfl
  | 2, _ => mT4 (List.mem_of_getElem? (i := 207) rfl) rfl
  | 3, _ => mT4 (List.mem_of_getElem? (i := 209) rfl) rfl
  | 4, _ => mT4 (List.mem_of_getElem? (i := 211) rfl) rfl
  | 5, _ => mT4 (List.mem_of_getElem? (i := 213) rfl) rfl
  | 6, _ => mT4 (List.mem_of_getElem? (i := 215) rfl) rfl
  | 7, _ => mT4 (List.mem_of_getElem? (i := 217) rfl) rfl
  | 8, _ => mT4 (List.mem_of_getElem? (i := 219) rfl) rfl
  | 9, _ => mT4 (List.mem_of_getElem? (i := 221) rfl) rfl
  | 10, _ => mT4 (List.mem_of_getElem? (i := 223) rfl) rfl
  | 11, _ => mT4 (List.mem_of_getElem? (i := 225) rfl) rfl
  | 12, _ => mT4 (List.mem_of_getElem? (i := 227) rfl) rfl
  | 13, _ => mT4 (List.mem_of_getElem? (i := 229) rfl) rfl
  | 14, _ => mT4 (List.mem_of_getElem? (i := 231) rfl) rfl
  | 15, _ => mT4 (List.mem_of_getElem? (i := 233) rfl) rfl
  | 16, _ => mT4 (List.mem_of_getElem? (i := 235) rfl) rfl
  | 17, _ => mT4 (List.mem_of_getElem? (i := 237) rfl) rfl
  | 18, _ => mT4 (List.mem_of_getElem? (i := 239) rfl) rfl
  | 19, _ => mT5 (List.mem_of_getElem? (i := 1) rfl) rfl
  | 20, _ => mT5 (List.mem_of_getElem? (i := 3) rfl) rfl
  | 21, _ => mT5 (List.mem_of_getElem? (i := 5) rfl) rfl
  | 22, _ => mT5 (List.mem_of_getElem? (i := 7) rfl) rfl
  | 23, _ => mT5 (List.mem_of_getElem? (i := 9) rfl) rfl
  | 24, _ => mT5 (List.mem_of_getElem? (i := 11) rfl) rfl
  | 25, _ => mT5 (List.mem_of_getElem? (i := 13) rfl) rfl
  | 26, _ => mT5 (List.mem_of_getElem? (i := 15) rfl) rfl
  | 27, _ => mT5 (List.mem_of_getElem? (i := 17) rfl) rfl
  | 28, _ => mT5 (List.mem_of_getElem? (i := 19) rfl) rfl
  | 29, _ => mT5 (List.mem_of_getElem? (i := 21) rfl) rfl
  | 30, _ => mT5 (List.mem_of_getElem? (i := 23) rfl) rfl
  | 31, _ => mT5 (List.mem_of_getElem? (i := 25) rfl) rfl
  | 32, _ => mT5 (List.mem_of_getElem? (i := 27) rfl) rfl
  | 33, _ => mT5 (List.mem_of_getElem? (i := 29) rfl) rfl
  | 34, _ => mT5 (List.mem_of_getElem? (i := 31) rfl) rfl
  | 35, _ => mT5 (List.mem_of_getElem? (i := 33) rfl) rfl
  | 36, _ => mT5 (List.mem_of_getElem? (i := 35) rfl) rfl
  | 37, _ => mT5 (List.mem_of_getElem? (i := 37) rfl) rfl
  | 38, _ => mT5 (List.mem_of_getElem? (i := 39) rfl) rfl
  | 39, _ => mT5 (List.mem_of_getElem? (i := 41) rfl) rfl
  | 40, _ => mT5 (List.mem_of_getElem? (i := 43) rfl) rfl
  | 41, _ => mT5 (List.mem_of_getElem? (i := 45) rfl) rfl
  | 42, _ => mT5 (List.mem_of_getElem? (i := 47) rfl) rfl
  | 43, _ => mT5 (List.mem_of_getElem? (i := 49) rfl) rfl
  | 44, _ => mT5 (List.mem_of_getElem? (i := 51) rfl) rfl
  | 45, _ => mT5 (List.mem_of_getElem? (i := 53) rfl) rfl
  | 46, _ => mT5 (List.mem_of_getElem? (i := 55) rfl) rfl
  | 47, _ => mT5 (List.mem_of_getElem? (i := 57) rfl) rfl
  | 48, _ => mT5 (List.mem_of_getElem? (i := 59) rfl) rfl
  | 49, _ => mT5 (List.mem_of_getElem? (i := 61) rfl) rfl
  | 50, _ => mT5 (List.mem_of_getElem? (i := 63) rfl) rfl
  | 51, _ => mT5 (List.mem_of_getElem? (i := 65) rfl) rfl
  | 52, _ => mT5 (List.mem_of_getElem? (i := 67) rfl) rfl
  | 53, _ => mT5 (List.mem_of_getElem? (i := 69) rfl) rfl
  | 54, _ => mT5 (List.mem_of_getElem? (i := 71) rfl) rfl
  | 55, _ => mT5 (List.mem_of_getElem? (i := 73) rfl) rfl
  | 56, _ => mT5 (List.mem_of_getElem? (i := 75) rfl) rfl
  | 57, _ => mT5 (List.mem_of_getElem? (i := 77) rfl) rfl
  | 58, _ => mT5 (List.mem_of_getElem? (i := 79) rfl) rfl
  | k + 59, h => absurd h (by omega)
theorem inlX9 : ∀ w ∈ wsX90, w ∈ wsG := fun w h => by
  obtain ⟨k, hk, rfl⟩ := List.mem_map.mp h
  exact ulX9 k (List.mem_range.mp hk)
def nestW : List Cond := [(Jvm.Cond.methodLinkNest "RunWatcher$Reader" (64 : Nat) ({ cls := "RunWatcher", name := "pick", desc := "([II)I" } : Jvm.MethodName) "RunWatcher"), (Jvm.Cond.methodLinkNest "RunWatcher$Rule" (41 : Nat) ({ cls := "RunWatcher", name := "put", desc := "([III)V" } : Jvm.MethodName) "RunWatcher"), (Jvm.Cond.methodLinkNest "RunWatcher$Rule" (45 : Nat) ({ cls := "RunWatcher", name := "set", desc := "([ZIZ)V" } : Jvm.MethodName) "RunWatcher"), (Jvm.Cond.methodLinkNest "RunWatcher$Rule" (49 : Nat) ({ cls := "RunWatcher", name := "pick", desc := "([II)I" } : Jvm.MethodName) "RunWatcher"), (Jvm.Cond.methodLinkNest "RunWatcher$Rule" (53 : Nat) ({ cls := "RunWatcher", name := "isSet", desc := "([ZI)Z" } : Jvm.MethodName) "RunWatcher"), (Jvm.Cond.methodLinkNest "RunWatcher$Rule" (68 : Nat) ({ cls := "RunWatcher", name := "hasBit", desc := "(JI)Z" } : Jvm.MethodName) "RunWatcher"), (Jvm.Cond.methodLinkNest "RunWatcher$Carry" (56 : Nat) ({ cls := "RunWatcher", name := "put", desc := "([III)V" } : Jvm.MethodName) "RunWatcher"), (Jvm.Cond.methodLinkNest "RunWatcher$Carry" (64 : Nat) ({ cls := "RunWatcher", name := "set", desc := "([ZIZ)V" } : Jvm.MethodName) "RunWatcher"), (Jvm.Cond.methodLinkNest "RunWatcher$Carry" (79 : Nat) ({ cls := "RunWatcher", name := "pick", desc := "([II)I" } : Jvm.MethodName) "RunWatcher"), (Jvm.Cond.methodLinkNest "RunWatcher$Carry" (83 : Nat) ({ cls := "RunWatcher", name := "isSet", desc := "([ZI)Z" } : Jvm.MethodName) "RunWatcher"), (Jvm.Cond.methodLinkNest "RunWatcher$Pairs" (64 : Nat) ({ cls := "RunWatcher", name := "put", desc := "([III)V" } : Jvm.MethodName) "RunWatcher"), (Jvm.Cond.methodLinkNest "RunWatcher$Pairs" (96 : Nat) ({ cls := "RunWatcher", name := "set", desc := "([ZIZ)V" } : Jvm.MethodName) "RunWatcher"), (Jvm.Cond.methodLinkNest "RunWatcher$Pairs" (100 : Nat) ({ cls := "RunWatcher", name := "putLong", desc := "([JIJ)V" } : Jvm.MethodName) "RunWatcher"), (Jvm.Cond.methodLinkNest "RunWatcher$Pairs" (68 : Nat) ({ cls := "RunWatcher", name := "pick", desc := "([II)I" } : Jvm.MethodName) "RunWatcher"), (Jvm.Cond.methodLinkNest "RunWatcher$Pairs" (124 : Nat) ({ cls := "RunWatcher", name := "pickLong", desc := "([JI)J" } : Jvm.MethodName) "RunWatcher"), (Jvm.Cond.methodLinkNest "RunWatcher$Pairs" (128 : Nat) ({ cls := "RunWatcher", name := "hasBit", desc := "(JI)Z" } : Jvm.MethodName) "RunWatcher"), (Jvm.Cond.methodLinkNest "RunWatcher$Pairs" (72 : Nat) ({ cls := "RunWatcher", name := "isSet", desc := "([ZI)Z" } : Jvm.MethodName) "RunWatcher"), (Jvm.Cond.methodLinkNest "RunWatcher$Lessener" (44 : Nat) ({ cls := "RunWatcher", name := "put", desc := "([III)V" } : Jvm.MethodName) "RunWatcher"), (Jvm.Cond.methodLinkNest "RunWatcher$Lessener" (60 : Nat) ({ cls := "RunWatcher", name := "pick", desc := "([II)I" } : Jvm.MethodName) "RunWatcher"), (Jvm.Cond.methodLinkNest "RunWatcher$Watcher" (29 : Nat) ({ cls := "RunWatcher", name := "put", desc := "([III)V" } : Jvm.MethodName) "RunWatcher"), (Jvm.Cond.methodLinkNest "RunWatcher$Watcher" (49 : Nat) ({ cls := "RunWatcher", name := "pick", desc := "([II)I" } : Jvm.MethodName) "RunWatcher"), (Jvm.Cond.methodLinkNest "RunWatcher$Watcher" (75 : Nat) ({ cls := "RunWatcher", name := "putLong", desc := "([JIJ)V" } : Jvm.MethodName) "RunWatcher"), (Jvm.Cond.methodLinkNest "RunWatcher$Watcher" (83 : Nat) ({ cls := "RunWatcher", name := "pickLong", desc := "([JI)J" } : Jvm.MethodName) "RunWatcher"), (Jvm.Cond.methodLinkNest "RunWatcher$Keys" (23 : Nat) ({ cls := "RunWatcher", name := "putLong", desc := "([JIJ)V" } : Jvm.MethodName) "RunWatcher"), (Jvm.Cond.methodLinkNest "RunWatcher$Keys" (27 : Nat) ({ cls := "RunWatcher", name := "put", desc := "([III)V" } : Jvm.MethodName) "RunWatcher"), (Jvm.Cond.methodLinkNest "RunWatcher$Keys" (35 : Nat) ({ cls := "RunWatcher", name := "pickLong", desc := "([JI)J" } : Jvm.MethodName) "RunWatcher"), (Jvm.Cond.methodLinkNest "RunWatcher$Keys" (57 : Nat) ({ cls := "RunWatcher", name := "hasBit", desc := "(JI)Z" } : Jvm.MethodName) "RunWatcher"), (Jvm.Cond.methodLinkNest "RunWatcher$Keys" (43 : Nat) ({ cls := "RunWatcher", name := "pick", desc := "([II)I" } : Jvm.MethodName) "RunWatcher"), (Jvm.Cond.methodLinkNest "RunWatcher$Meeting" (41 : Nat) ({ cls := "RunWatcher", name := "put", desc := "([III)V" } : Jvm.MethodName) "RunWatcher"), (Jvm.Cond.methodLinkNest "RunWatcher$Meeting" (49 : Nat) ({ cls := "RunWatcher", name := "pick", desc := "([II)I" } : Jvm.MethodName) "RunWatcher")]
set_option maxRecDepth 8000 in
theorem nest_in : ∀ w ∈ nestW, w ∈ lw_tbl := by
  unfold nestW
  refine List.forall_mem_cons.mpr ⟨mN2 (List.mem_of_getElem? (i := 89) rfl), List.forall_mem_cons.mpr ⟨mN2 (List.mem_of_getElem? (i := 125) rfl), List.forall_mem_cons.mpr ⟨mN2 (List.mem_of_getElem? (i := 136) rfl), List.forall_mem_cons.mpr ⟨mN2 (List.mem_of_getElem? (i := 139) rfl), List.forall_mem_cons.mpr ⟨mN2 (List.mem_of_getElem? (i := 140) rfl), List.forall_mem_cons.mpr ⟨mN2 (List.mem_of_getElem? (i := 192) rfl), List.forall_mem_cons.mpr ⟨mN2 (List.mem_of_getElem? (i := 199) rfl), List.forall_mem_cons.mpr ⟨mN2 (List.mem_of_getElem? (i := 204) rfl), List.forall_mem_cons.mpr ⟨mN2 (List.mem_of_getElem? (i := 225) rfl), List.forall_mem_cons.mpr ⟨mN2 (List.mem_of_getElem? (i := 238) rfl), List.forall_mem_cons.mpr ⟨mN3 (List.mem_of_getElem? (i := 13) rfl), List.forall_mem_cons.mpr ⟨mN3 (List.mem_of_getElem? (i := 19) rfl), List.forall_mem_cons.mpr ⟨mN3 (List.mem_of_getElem? (i := 24) rfl), List.forall_mem_cons.mpr ⟨mN3 (List.mem_of_getElem? (i := 27) rfl), List.forall_mem_cons.mpr ⟨mN3 (List.mem_of_getElem? (i := 40) rfl), List.forall_mem_cons.mpr ⟨mN3 (List.mem_of_getElem? (i := 43) rfl), List.forall_mem_cons.mpr ⟨mN3 (List.mem_of_getElem? (i := 68) rfl), List.forall_mem_cons.mpr ⟨mN3 (List.mem_of_getElem? (i := 69) rfl), List.forall_mem_cons.mpr ⟨mN3 (List.mem_of_getElem? (i := 78) rfl), List.forall_mem_cons.mpr ⟨mN3 (List.mem_of_getElem? (i := 103) rfl), List.forall_mem_cons.mpr ⟨mN3 (List.mem_of_getElem? (i := 124) rfl), List.forall_mem_cons.mpr ⟨mN3 (List.mem_of_getElem? (i := 149) rfl), List.forall_mem_cons.mpr ⟨mN3 (List.mem_of_getElem? (i := 154) rfl), List.forall_mem_cons.mpr ⟨mN3 (List.mem_of_getElem? (i := 163) rfl), List.forall_mem_cons.mpr ⟨mN3 (List.mem_of_getElem? (i := 164) rfl), List.forall_mem_cons.mpr ⟨mN4 (List.mem_of_getElem? (i := 15) rfl), List.forall_mem_cons.mpr ⟨mN4 (List.mem_of_getElem? (i := 17) rfl), List.forall_mem_cons.mpr ⟨mN4 (List.mem_of_getElem? (i := 24) rfl), List.forall_mem_cons.mpr ⟨mN4 (List.mem_of_getElem? (i := 97) rfl), List.forall_mem_cons.mpr ⟨mN4 (List.mem_of_getElem? (i := 103) rfl), fun _ h => absurd h List.not_mem_nil⟩⟩⟩⟩⟩⟩⟩⟩⟩⟩⟩⟩⟩⟩⟩⟩⟩⟩⟩⟩⟩⟩⟩⟩⟩⟩⟩⟩⟩⟩
theorem nest_form : ∀ w ∈ nestW, ∃ a i x h, w = .methodLinkNest a i x h := by
  unfold nestW
  refine List.forall_mem_cons.mpr ⟨⟨_, _, _, _, rfl⟩, List.forall_mem_cons.mpr ⟨⟨_, _, _, _, rfl⟩, List.forall_mem_cons.mpr ⟨⟨_, _, _, _, rfl⟩, List.forall_mem_cons.mpr ⟨⟨_, _, _, _, rfl⟩, List.forall_mem_cons.mpr ⟨⟨_, _, _, _, rfl⟩, List.forall_mem_cons.mpr ⟨⟨_, _, _, _, rfl⟩, List.forall_mem_cons.mpr ⟨⟨_, _, _, _, rfl⟩, List.forall_mem_cons.mpr ⟨⟨_, _, _, _, rfl⟩, List.forall_mem_cons.mpr ⟨⟨_, _, _, _, rfl⟩, List.forall_mem_cons.mpr ⟨⟨_, _, _, _, rfl⟩, List.forall_mem_cons.mpr ⟨⟨_, _, _, _, rfl⟩, List.forall_mem_cons.mpr ⟨⟨_, _, _, _, rfl⟩, List.forall_mem_cons.mpr ⟨⟨_, _, _, _, rfl⟩, List.forall_mem_cons.mpr ⟨⟨_, _, _, _, rfl⟩, List.forall_mem_cons.mpr ⟨⟨_, _, _, _, rfl⟩, List.forall_mem_cons.mpr ⟨⟨_, _, _, _, rfl⟩, List.forall_mem_cons.mpr ⟨⟨_, _, _, _, rfl⟩, List.forall_mem_cons.mpr ⟨⟨_, _, _, _, rfl⟩, List.forall_mem_cons.mpr ⟨⟨_, _, _, _, rfl⟩, List.forall_mem_cons.mpr ⟨⟨_, _, _, _, rfl⟩, List.forall_mem_cons.mpr ⟨⟨_, _, _, _, rfl⟩, List.forall_mem_cons.mpr ⟨⟨_, _, _, _, rfl⟩, List.forall_mem_cons.mpr ⟨⟨_, _, _, _, rfl⟩, List.forall_mem_cons.mpr ⟨⟨_, _, _, _, rfl⟩, List.forall_mem_cons.mpr ⟨⟨_, _, _, _, rfl⟩, List.forall_mem_cons.mpr ⟨⟨_, _, _, _, rfl⟩, List.forall_mem_cons.mpr ⟨⟨_, _, _, _, rfl⟩, List.forall_mem_cons.mpr ⟨⟨_, _, _, _, rfl⟩, List.forall_mem_cons.mpr ⟨⟨_, _, _, _, rfl⟩, List.forall_mem_cons.mpr ⟨⟨_, _, _, _, rfl⟩, fun _ h => absurd h List.not_mem_nil⟩⟩⟩⟩⟩⟩⟩⟩⟩⟩⟩⟩⟩⟩⟩⟩⟩⟩⟩⟩⟩⟩⟩⟩⟩⟩⟩⟩⟩⟩
theorem nw_0 : (Cond.methodLinkNest "RunWatcher$Reader" (64 : Nat) ({ cls := "RunWatcher", name := "pick", desc := "([II)I" } : MethodName) "RunWatcher") ∈ nestW := List.mem_of_getElem? (i := 0) rfl
theorem nw_1 : (Cond.methodLinkNest "RunWatcher$Rule" (41 : Nat) ({ cls := "RunWatcher", name := "put", desc := "([III)V" } : MethodName) "RunWatcher") ∈ nestW := List.mem_of_getElem? (i := 1) rfl
theorem nw_2 : (Cond.methodLinkNest "RunWatcher$Rule" (45 : Nat) ({ cls := "RunWatcher", name := "set", desc := "([ZIZ)V" } : MethodName) "RunWatcher") ∈ nestW := List.mem_of_getElem? (i := 2) rfl
theorem nw_3 : (Cond.methodLinkNest "RunWatcher$Rule" (49 : Nat) ({ cls := "RunWatcher", name := "pick", desc := "([II)I" } : MethodName) "RunWatcher") ∈ nestW := List.mem_of_getElem? (i := 3) rfl
theorem nw_4 : (Cond.methodLinkNest "RunWatcher$Rule" (53 : Nat) ({ cls := "RunWatcher", name := "isSet", desc := "([ZI)Z" } : MethodName) "RunWatcher") ∈ nestW := List.mem_of_getElem? (i := 4) rfl
theorem nw_5 : (Cond.methodLinkNest "RunWatcher$Rule" (68 : Nat) ({ cls := "RunWatcher", name := "hasBit", desc := "(JI)Z" } : MethodName) "RunWatcher") ∈ nestW := List.mem_of_getElem? (i := 5) rfl
theorem nw_6 : (Cond.methodLinkNest "RunWatcher$Carry" (56 : Nat) ({ cls := "RunWatcher", name := "put", desc := "([III)V" } : MethodName) "RunWatcher") ∈ nestW := List.mem_of_getElem? (i := 6) rfl
theorem nw_7 : (Cond.methodLinkNest "RunWatcher$Carry" (64 : Nat) ({ cls := "RunWatcher", name := "set", desc := "([ZIZ)V" } : MethodName) "RunWatcher") ∈ nestW := List.mem_of_getElem? (i := 7) rfl
theorem nw_8 : (Cond.methodLinkNest "RunWatcher$Carry" (79 : Nat) ({ cls := "RunWatcher", name := "pick", desc := "([II)I" } : MethodName) "RunWatcher") ∈ nestW := List.mem_of_getElem? (i := 8) rfl
theorem nw_9 : (Cond.methodLinkNest "RunWatcher$Carry" (83 : Nat) ({ cls := "RunWatcher", name := "isSet", desc := "([ZI)Z" } : MethodName) "RunWatcher") ∈ nestW := List.mem_of_getElem? (i := 9) rfl
theorem nw_10 : (Cond.methodLinkNest "RunWatcher$Pairs" (64 : Nat) ({ cls := "RunWatcher", name := "put", desc := "([III)V" } : MethodName) "RunWatcher") ∈ nestW := List.mem_of_getElem? (i := 10) rfl
theorem nw_11 : (Cond.methodLinkNest "RunWatcher$Pairs" (96 : Nat) ({ cls := "RunWatcher", name := "set", desc := "([ZIZ)V" } : MethodName) "RunWatcher") ∈ nestW := List.mem_of_getElem? (i := 11) rfl
theorem nw_12 : (Cond.methodLinkNest "RunWatcher$Pairs" (100 : Nat) ({ cls := "RunWatcher", name := "putLong", desc := "([JIJ)V" } : MethodName) "RunWatcher") ∈ nestW := List.mem_of_getElem? (i := 12) rfl
theorem nw_13 : (Cond.methodLinkNest "RunWatcher$Pairs" (68 : Nat) ({ cls := "RunWatcher", name := "pick", desc := "([II)I" } : MethodName) "RunWatcher") ∈ nestW := List.mem_of_getElem? (i := 13) rfl
theorem nw_14 : (Cond.methodLinkNest "RunWatcher$Pairs" (124 : Nat) ({ cls := "RunWatcher", name := "pickLong", desc := "([JI)J" } : MethodName) "RunWatcher") ∈ nestW := List.mem_of_getElem? (i := 14) rfl
theorem nw_15 : (Cond.methodLinkNest "RunWatcher$Pairs" (128 : Nat) ({ cls := "RunWatcher", name := "hasBit", desc := "(JI)Z" } : MethodName) "RunWatcher") ∈ nestW := List.mem_of_getElem? (i := 15) rfl
theorem nw_16 : (Cond.methodLinkNest "RunWatcher$Pairs" (72 : Nat) ({ cls := "RunWatcher", name := "isSet", desc := "([ZI)Z" } : MethodName) "RunWatcher") ∈ nestW := List.mem_of_getElem? (i := 16) rfl
theorem nw_17 : (Cond.methodLinkNest "RunWatcher$Lessener" (44 : Nat) ({ cls := "RunWatcher", name := "put", desc := "([III)V" } : MethodName) "RunWatcher") ∈ nestW := List.mem_of_getElem? (i := 17) rfl
theorem nw_18 : (Cond.methodLinkNest "RunWatcher$Lessener" (60 : Nat) ({ cls := "RunWatcher", name := "pick", desc := "([II)I" } : MethodName) "RunWatcher") ∈ nestW := List.mem_of_getElem? (i := 18) rfl
theorem nw_19 : (Cond.methodLinkNest "RunWatcher$Watcher" (29 : Nat) ({ cls := "RunWatcher", name := "put", desc := "([III)V" } : MethodName) "RunWatcher") ∈ nestW := List.mem_of_getElem? (i := 19) rfl
theorem nw_20 : (Cond.methodLinkNest "RunWatcher$Watcher" (49 : Nat) ({ cls := "RunWatcher", name := "pick", desc := "([II)I" } : MethodName) "RunWatcher") ∈ nestW := List.mem_of_getElem? (i := 20) rfl
theorem nw_21 : (Cond.methodLinkNest "RunWatcher$Watcher" (75 : Nat) ({ cls := "RunWatcher", name := "putLong", desc := "([JIJ)V" } : MethodName) "RunWatcher") ∈ nestW := List.mem_of_getElem? (i := 21) rfl
theorem nw_22 : (Cond.methodLinkNest "RunWatcher$Watcher" (83 : Nat) ({ cls := "RunWatcher", name := "pickLong", desc := "([JI)J" } : MethodName) "RunWatcher") ∈ nestW := List.mem_of_getElem? (i := 22) rfl
theorem nw_23 : (Cond.methodLinkNest "RunWatcher$Keys" (23 : Nat) ({ cls := "RunWatcher", name := "putLong", desc := "([JIJ)V" } : MethodName) "RunWatcher") ∈ nestW := List.mem_of_getElem? (i := 23) rfl
theorem nw_24 : (Cond.methodLinkNest "RunWatcher$Keys" (27 : Nat) ({ cls := "RunWatcher", name := "put", desc := "([III)V" } : MethodName) "RunWatcher") ∈ nestW := List.mem_of_getElem? (i := 24) rfl
theorem nw_25 : (Cond.methodLinkNest "RunWatcher$Keys" (35 : Nat) ({ cls := "RunWatcher", name := "pickLong", desc := "([JI)J" } : MethodName) "RunWatcher") ∈ nestW := List.mem_of_getElem? (i := 25) rfl
theorem nw_26 : (Cond.methodLinkNest "RunWatcher$Keys" (57 : Nat) ({ cls := "RunWatcher", name := "hasBit", desc := "(JI)Z" } : MethodName) "RunWatcher") ∈ nestW := List.mem_of_getElem? (i := 26) rfl
theorem nw_27 : (Cond.methodLinkNest "RunWatcher$Keys" (43 : Nat) ({ cls := "RunWatcher", name := "pick", desc := "([II)I" } : MethodName) "RunWatcher") ∈ nestW := List.mem_of_getElem? (i := 27) rfl
theorem nw_28 : (Cond.methodLinkNest "RunWatcher$Meeting" (41 : Nat) ({ cls := "RunWatcher", name := "put", desc := "([III)V" } : MethodName) "RunWatcher") ∈ nestW := List.mem_of_getElem? (i := 28) rfl
theorem nw_29 : (Cond.methodLinkNest "RunWatcher$Meeting" (49 : Nat) ({ cls := "RunWatcher", name := "pick", desc := "([II)I" } : MethodName) "RunWatcher") ∈ nestW := List.mem_of_getElem? (i := 29) rfl
end
section
theorem dX0_init_0 : decode cX0_init 0 = .ok (.aload_n 0, 1) := by decide +kernel
theorem dX0_init_1 : decode cX0_init 1 = .ok (.invokespecial 3, 3) := by decide +kernel
theorem dX0_init_4 : decode cX0_init 4 = .ok (.aload_n 0, 1) := by decide +kernel
theorem dX0_init_5 : decode cX0_init 5 = .ok (.sipush 1024, 3) := by decide +kernel
theorem dX0_init_8 : decode cX0_init 8 = .ok (.newarray .int, 2) := by decide +kernel
theorem dX0_init_10 : decode cX0_init 10 = .ok (.putfield 9, 3) := by decide +kernel
theorem dX0_init_13 : decode cX0_init 13 = .ok (.aload_n 0, 1) := by decide +kernel
theorem dX0_init_14 : decode cX0_init 14 = .ok (.sipush 1024, 3) := by decide +kernel
theorem dX0_init_17 : decode cX0_init 17 = .ok (.newarray .boolean, 2) := by decide +kernel
theorem dX0_init_19 : decode cX0_init 19 = .ok (.putfield 15, 3) := by decide +kernel
theorem dX0_init_22 : decode cX0_init 22 = .ok (.aload_n 0, 1) := by decide +kernel
theorem dX0_init_23 : decode cX0_init 23 = .ok (.sipush 256, 3) := by decide +kernel
theorem dX0_init_26 : decode cX0_init 26 = .ok (.newarray .boolean, 2) := by decide +kernel
theorem dX0_init_28 : decode cX0_init 28 = .ok (.putfield 19, 3) := by decide +kernel
theorem dX0_init_31 : decode cX0_init 31 = .ok (.aload_n 0, 1) := by decide +kernel
theorem dX0_init_32 : decode cX0_init 32 = .ok (.iconst 0, 1) := by decide +kernel
theorem dX0_init_33 : decode cX0_init 33 = .ok (.putfield 22, 3) := by decide +kernel
theorem dX0_init_36 : decode cX0_init 36 = .ok (.aload_n 0, 1) := by decide +kernel
theorem dX0_init_37 : decode cX0_init 37 = .ok (.iconst 0, 1) := by decide +kernel
theorem dX0_init_38 : decode cX0_init 38 = .ok (.putfield 26, 3) := by decide +kernel
theorem dX0_init_41 : decode cX0_init 41 = .ok (.aload_n 0, 1) := by decide +kernel
theorem dX0_init_42 : decode cX0_init 42 = .ok (.iconst 0, 1) := by decide +kernel
theorem dX0_init_43 : decode cX0_init 43 = .ok (.putfield 29, 3) := by decide +kernel
theorem dX0_init_46 : decode cX0_init 46 = .ok (.return_, 1) := by decide +kernel
theorem dX0_make_0 : decode cX0_make 0 = .ok (.aload_n 1, 1) := by decide +kernel
theorem dX0_make_1 : decode cX0_make 1 = .ok (.invokevirtual 32, 3) := by decide +kernel
theorem dX0_make_4 : decode cX0_make 4 = .ok (.aload_n 0, 1) := by decide +kernel
theorem dX0_make_5 : decode cX0_make 5 = .ok (.aload_n 1, 1) := by decide +kernel
theorem dX0_make_6 : decode cX0_make 6 = .ok (.invokevirtual 37, 3) := by decide +kernel
theorem dX0_make_9 : decode cX0_make 9 = .ok (.putfield 22, 3) := by decide +kernel
theorem dX0_make_12 : decode cX0_make 12 = .ok (.aload_n 0, 1) := by decide +kernel
theorem dX0_make_13 : decode cX0_make 13 = .ok (.aload_n 1, 1) := by decide +kernel
theorem dX0_make_14 : decode cX0_make 14 = .ok (.invokevirtual 40, 3) := by decide +kernel
theorem dX0_make_17 : decode cX0_make 17 = .ok (.putfield 26, 3) := by decide +kernel
theorem dX0_make_20 : decode cX0_make 20 = .ok (.aload_n 0, 1) := by decide +kernel
theorem dX0_make_21 : decode cX0_make 21 = .ok (.aload_n 1, 1) := by decide +kernel
theorem dX0_make_22 : decode cX0_make 22 = .ok (.invokevirtual 42, 3) := by decide +kernel
theorem dX0_make_25 : decode cX0_make 25 = .ok (.putfield 29, 3) := by decide +kernel
theorem dX0_make_28 : decode cX0_make 28 = .ok (.iconst 0, 1) := by decide +kernel
theorem dX0_make_29 : decode cX0_make 29 = .ok (.istore_n 2, 1) := by decide +kernel
theorem dX0_make_30 : decode cX0_make 30 = .ok (.iload_n 2, 1) := by decide +kernel
theorem dX0_make_31 : decode cX0_make 31 = .ok (.aload_n 0, 1) := by decide +kernel
theorem dX0_make_32 : decode cX0_make 32 = .ok (.invokevirtual 45, 3) := by decide +kernel
theorem dX0_make_35 : decode cX0_make 35 = .ok (.if_icmp .ge 66, 3) := by decide +kernel
theorem dX0_make_38 : decode cX0_make 38 = .ok (.iconst 0, 1) := by decide +kernel
theorem dX0_make_39 : decode cX0_make 39 = .ok (.istore_n 3, 1) := by decide +kernel
theorem dX0_make_40 : decode cX0_make 40 = .ok (.iload_n 3, 1) := by decide +kernel
theorem dX0_make_41 : decode cX0_make 41 = .ok (.iconst 4, 1) := by decide +kernel
theorem dX0_make_42 : decode cX0_make 42 = .ok (.if_icmp .ge 53, 3) := by decide +kernel
theorem dX0_make_45 : decode cX0_make 45 = .ok (.aload_n 1, 1) := by decide +kernel
theorem dX0_make_46 : decode cX0_make 46 = .ok (.iload_n 3, 1) := by decide +kernel
theorem dX0_make_47 : decode cX0_make 47 = .ok (.iload_n 2, 1) := by decide +kernel
theorem dX0_make_48 : decode cX0_make 48 = .ok (.invokevirtual 48, 3) := by decide +kernel
theorem dX0_make_51 : decode cX0_make 51 = .ok (.istore 4, 2) := by decide +kernel
theorem dX0_make_53 : decode cX0_make 53 = .ok (.aload_n 0, 1) := by decide +kernel
theorem dX0_make_54 : decode cX0_make 54 = .ok (.getfield 9, 3) := by decide +kernel
theorem dX0_make_57 : decode cX0_make 57 = .ok (.iload_n 2, 1) := by decide +kernel
theorem dX0_make_58 : decode cX0_make 58 = .ok (.iconst 4, 1) := by decide +kernel
theorem dX0_make_59 : decode cX0_make 59 = .ok (.imul, 1) := by decide +kernel
theorem dX0_make_60 : decode cX0_make 60 = .ok (.iload_n 3, 1) := by decide +kernel
theorem dX0_make_61 : decode cX0_make 61 = .ok (.iadd, 1) := by decide +kernel
theorem dX0_make_62 : decode cX0_make 62 = .ok (.aload_n 1, 1) := by decide +kernel
theorem dX0_make_63 : decode cX0_make 63 = .ok (.iload 4, 2) := by decide +kernel
theorem dX0_make_65 : decode cX0_make 65 = .ok (.invokevirtual 52, 3) := by decide +kernel
theorem dX0_make_68 : decode cX0_make 68 = .ok (.invokestatic 56, 3) := by decide +kernel
theorem dX0_make_71 : decode cX0_make 71 = .ok (.aload_n 0, 1) := by decide +kernel
theorem dX0_make_72 : decode cX0_make 72 = .ok (.getfield 15, 3) := by decide +kernel
theorem dX0_make_75 : decode cX0_make 75 = .ok (.iload_n 2, 1) := by decide +kernel
theorem dX0_make_76 : decode cX0_make 76 = .ok (.iconst 4, 1) := by decide +kernel
theorem dX0_make_77 : decode cX0_make 77 = .ok (.imul, 1) := by decide +kernel
theorem dX0_make_78 : decode cX0_make 78 = .ok (.iload_n 3, 1) := by decide +kernel
theorem dX0_make_79 : decode cX0_make 79 = .ok (.iadd, 1) := by decide +kernel
theorem dX0_make_80 : decode cX0_make 80 = .ok (.aload_n 1, 1) := by decide +kernel
theorem dX0_make_81 : decode cX0_make 81 = .ok (.iload 4, 2) := by decide +kernel
theorem dX0_make_83 : decode cX0_make 83 = .ok (.invokevirtual 60, 3) := by decide +kernel
theorem dX0_make_86 : decode cX0_make 86 = .ok (.invokestatic 64, 3) := by decide +kernel
theorem dX0_make_89 : decode cX0_make 89 = .ok (.iinc 3 1, 3) := by decide +kernel
theorem dX0_make_92 : decode cX0_make 92 = .ok (.goto (-52), 3) := by decide +kernel
theorem dX0_make_95 : decode cX0_make 95 = .ok (.iinc 2 1, 3) := by decide +kernel
theorem dX0_make_98 : decode cX0_make 98 = .ok (.goto (-68), 3) := by decide +kernel
theorem dX0_make_101 : decode cX0_make 101 = .ok (.aload_n 0, 1) := by decide +kernel
theorem dX0_make_102 : decode cX0_make 102 = .ok (.invokevirtual 68, 3) := by decide +kernel
theorem dX0_make_105 : decode cX0_make 105 = .ok (.return_, 1) := by decide +kernel
theorem dX0_all_0 : decode cX0_all 0 = .ok (.sipush 256, 3) := by decide +kernel
theorem dX0_all_3 : decode cX0_all 3 = .ok (.iconst 1, 1) := by decide +kernel
theorem dX0_all_4 : decode cX0_all 4 = .ok (.aload_n 0, 1) := by decide +kernel
theorem dX0_all_5 : decode cX0_all 5 = .ok (.getfield 22, 3) := by decide +kernel
theorem dX0_all_8 : decode cX0_all 8 = .ok (.aload_n 0, 1) := by decide +kernel
theorem dX0_all_9 : decode cX0_all 9 = .ok (.getfield 26, 3) := by decide +kernel
theorem dX0_all_12 : decode cX0_all 12 = .ok (.iadd, 1) := by decide +kernel
theorem dX0_all_13 : decode cX0_all 13 = .ok (.ishl, 1) := by decide +kernel
theorem dX0_all_14 : decode cX0_all 14 = .ok (.invokestatic 71, 3) := by decide +kernel
theorem dX0_all_17 : decode cX0_all 17 = .ok (.ireturn, 1) := by decide +kernel
theorem dX0_futures_0 : decode cX0_futures 0 = .ok (.sipush 256, 3) := by decide +kernel
theorem dX0_futures_3 : decode cX0_futures 3 = .ok (.iconst 1, 1) := by decide +kernel
theorem dX0_futures_4 : decode cX0_futures 4 = .ok (.aload_n 0, 1) := by decide +kernel
theorem dX0_futures_5 : decode cX0_futures 5 = .ok (.getfield 22, 3) := by decide +kernel
theorem dX0_futures_8 : decode cX0_futures 8 = .ok (.ishl, 1) := by decide +kernel
theorem dX0_futures_9 : decode cX0_futures 9 = .ok (.invokestatic 71, 3) := by decide +kernel
theorem dX0_futures_12 : decode cX0_futures 12 = .ok (.ireturn, 1) := by decide +kernel
theorem dX0_pasts_0 : decode cX0_pasts 0 = .ok (.sipush 256, 3) := by decide +kernel
theorem dX0_pasts_3 : decode cX0_pasts 3 = .ok (.iconst 1, 1) := by decide +kernel
theorem dX0_pasts_4 : decode cX0_pasts 4 = .ok (.aload_n 0, 1) := by decide +kernel
theorem dX0_pasts_5 : decode cX0_pasts 5 = .ok (.getfield 26, 3) := by decide +kernel
theorem dX0_pasts_8 : decode cX0_pasts 8 = .ok (.ishl, 1) := by decide +kernel
theorem dX0_pasts_9 : decode cX0_pasts 9 = .ok (.invokestatic 71, 3) := by decide +kernel
theorem dX0_pasts_12 : decode cX0_pasts 12 = .ok (.ireturn, 1) := by decide +kernel
theorem dX0_futureOf_0 : decode cX0_futureOf 0 = .ok (.iload_n 1, 1) := by decide +kernel
theorem dX0_futureOf_1 : decode cX0_futureOf 1 = .ok (.aload_n 0, 1) := by decide +kernel
theorem dX0_futureOf_2 : decode cX0_futureOf 2 = .ok (.invokevirtual 76, 3) := by decide +kernel
theorem dX0_futureOf_5 : decode cX0_futureOf 5 = .ok (.iconst 1, 1) := by decide +kernel
theorem dX0_futureOf_6 : decode cX0_futureOf 6 = .ok (.isub, 1) := by decide +kernel
theorem dX0_futureOf_7 : decode cX0_futureOf 7 = .ok (.iand, 1) := by decide +kernel
theorem dX0_futureOf_8 : decode cX0_futureOf 8 = .ok (.ireturn, 1) := by decide +kernel
theorem dX0_pastOf_0 : decode cX0_pastOf 0 = .ok (.iload_n 1, 1) := by decide +kernel
theorem dX0_pastOf_1 : decode cX0_pastOf 1 = .ok (.aload_n 0, 1) := by decide +kernel
theorem dX0_pastOf_2 : decode cX0_pastOf 2 = .ok (.getfield 22, 3) := by decide +kernel
theorem dX0_pastOf_5 : decode cX0_pastOf 5 = .ok (.ishr, 1) := by decide +kernel
theorem dX0_pastOf_6 : decode cX0_pastOf 6 = .ok (.ireturn, 1) := by decide +kernel
theorem dX0_both_0 : decode cX0_both 0 = .ok (.iload_n 1, 1) := by decide +kernel
theorem dX0_both_1 : decode cX0_both 1 = .ok (.aload_n 0, 1) := by decide +kernel
theorem dX0_both_2 : decode cX0_both 2 = .ok (.getfield 22, 3) := by decide +kernel
theorem dX0_both_5 : decode cX0_both 5 = .ok (.ishl, 1) := by decide +kernel
theorem dX0_both_6 : decode cX0_both 6 = .ok (.iload_n 2, 1) := by decide +kernel
theorem dX0_both_7 : decode cX0_both 7 = .ok (.ior, 1) := by decide +kernel
theorem dX0_both_8 : decode cX0_both 8 = .ok (.ireturn, 1) := by decide +kernel
theorem dX0_noPlace_0 : decode cX0_noPlace 0 = .ok (.aload_n 0, 1) := by decide +kernel
theorem dX0_noPlace_1 : decode cX0_noPlace 1 = .ok (.getfield 29, 3) := by decide +kernel
theorem dX0_noPlace_4 : decode cX0_noPlace 4 = .ok (.ireturn, 1) := by decide +kernel
theorem dX0_turn_0 : decode cX0_turn 0 = .ok (.aload_n 0, 1) := by decide +kernel
theorem dX0_turn_1 : decode cX0_turn 1 = .ok (.getfield 9, 3) := by decide +kernel
theorem dX0_turn_4 : decode cX0_turn 4 = .ok (.iload_n 1, 1) := by decide +kernel
theorem dX0_turn_5 : decode cX0_turn 5 = .ok (.iconst 4, 1) := by decide +kernel
theorem dX0_turn_6 : decode cX0_turn 6 = .ok (.imul, 1) := by decide +kernel
theorem dX0_turn_7 : decode cX0_turn 7 = .ok (.iload_n 2, 1) := by decide +kernel
theorem dX0_turn_8 : decode cX0_turn 8 = .ok (.iadd, 1) := by decide +kernel
theorem dX0_turn_9 : decode cX0_turn 9 = .ok (.invokestatic 79, 3) := by decide +kernel
theorem dX0_turn_12 : decode cX0_turn 12 = .ok (.ireturn, 1) := by decide +kernel
theorem dX0_keeps_0 : decode cX0_keeps 0 = .ok (.aload_n 0, 1) := by decide +kernel
theorem dX0_keeps_1 : decode cX0_keeps 1 = .ok (.getfield 15, 3) := by decide +kernel
theorem dX0_keeps_4 : decode cX0_keeps 4 = .ok (.iload_n 1, 1) := by decide +kernel
theorem dX0_keeps_5 : decode cX0_keeps 5 = .ok (.iconst 4, 1) := by decide +kernel
theorem dX0_keeps_6 : decode cX0_keeps 6 = .ok (.imul, 1) := by decide +kernel
theorem dX0_keeps_7 : decode cX0_keeps 7 = .ok (.iload_n 2, 1) := by decide +kernel
theorem dX0_keeps_8 : decode cX0_keeps 8 = .ok (.iadd, 1) := by decide +kernel
theorem dX0_keeps_9 : decode cX0_keeps 9 = .ok (.invokestatic 83, 3) := by decide +kernel
theorem dX0_keeps_12 : decode cX0_keeps 12 = .ok (.ireturn, 1) := by decide +kernel
theorem dX0_isPossible_0 : decode cX0_isPossible 0 = .ok (.aload_n 0, 1) := by decide +kernel
theorem dX0_isPossible_1 : decode cX0_isPossible 1 = .ok (.getfield 19, 3) := by decide +kernel
theorem dX0_isPossible_4 : decode cX0_isPossible 4 = .ok (.iload_n 1, 1) := by decide +kernel
theorem dX0_isPossible_5 : decode cX0_isPossible 5 = .ok (.invokestatic 83, 3) := by decide +kernel
theorem dX0_isPossible_8 : decode cX0_isPossible 8 = .ok (.ireturn, 1) := by decide +kernel
theorem dX0_findPossible_0 : decode cX0_findPossible 0 = .ok (.iconst 0, 1) := by decide +kernel
theorem dX0_findPossible_1 : decode cX0_findPossible 1 = .ok (.istore_n 1, 1) := by decide +kernel
theorem dX0_findPossible_2 : decode cX0_findPossible 2 = .ok (.iload_n 1, 1) := by decide +kernel
theorem dX0_findPossible_3 : decode cX0_findPossible 3 = .ok (.aload_n 0, 1) := by decide +kernel
theorem dX0_findPossible_4 : decode cX0_findPossible 4 = .ok (.invokevirtual 45, 3) := by decide +kernel
theorem dX0_findPossible_7 : decode cX0_findPossible 7 = .ok (.if_icmp .ge 38, 3) := by decide +kernel
theorem dX0_findPossible_10 : decode cX0_findPossible 10 = .ok (.aload_n 0, 1) := by decide +kernel
theorem dX0_findPossible_11 : decode cX0_findPossible 11 = .ok (.getfield 19, 3) := by decide +kernel
theorem dX0_findPossible_14 : decode cX0_findPossible 14 = .ok (.iload_n 1, 1) := by decide +kernel
theorem dX0_findPossible_15 : decode cX0_findPossible 15 = .ok (.aload_n 0, 1) := by decide +kernel
theorem dX0_findPossible_16 : decode cX0_findPossible 16 = .ok (.iload_n 1, 1) := by decide +kernel
theorem dX0_findPossible_17 : decode cX0_findPossible 17 = .ok (.invokevirtual 87, 3) := by decide +kernel
theorem dX0_findPossible_20 : decode cX0_findPossible 20 = .ok (.aload_n 0, 1) := by decide +kernel
theorem dX0_findPossible_21 : decode cX0_findPossible 21 = .ok (.aload_n 0, 1) := by decide +kernel
theorem dX0_findPossible_22 : decode cX0_findPossible 22 = .ok (.getfield 29, 3) := by decide +kernel
theorem dX0_findPossible_25 : decode cX0_findPossible 25 = .ok (.invokevirtual 87, 3) := by decide +kernel
theorem dX0_findPossible_28 : decode cX0_findPossible 28 = .ok (.if_icmp .ne 7, 3) := by decide +kernel
theorem dX0_findPossible_31 : decode cX0_findPossible 31 = .ok (.iconst 1, 1) := by decide +kernel
theorem dX0_findPossible_32 : decode cX0_findPossible 32 = .ok (.goto 4, 3) := by decide +kernel
theorem dX0_findPossible_35 : decode cX0_findPossible 35 = .ok (.iconst 0, 1) := by decide +kernel
theorem dX0_findPossible_36 : decode cX0_findPossible 36 = .ok (.invokestatic 64, 3) := by decide +kernel
theorem dX0_findPossible_39 : decode cX0_findPossible 39 = .ok (.iinc 1 1, 3) := by decide +kernel
theorem dX0_findPossible_42 : decode cX0_findPossible 42 = .ok (.goto (-40), 3) := by decide +kernel
theorem dX0_findPossible_45 : decode cX0_findPossible 45 = .ok (.iconst 1, 1) := by decide +kernel
theorem dX0_findPossible_46 : decode cX0_findPossible 46 = .ok (.istore_n 1, 1) := by decide +kernel
theorem dX0_findPossible_47 : decode cX0_findPossible 47 = .ok (.iconst 0, 1) := by decide +kernel
theorem dX0_findPossible_48 : decode cX0_findPossible 48 = .ok (.istore_n 2, 1) := by decide +kernel
theorem dX0_findPossible_49 : decode cX0_findPossible 49 = .ok (.iload_n 2, 1) := by decide +kernel
theorem dX0_findPossible_50 : decode cX0_findPossible 50 = .ok (.sipush 256, 3) := by decide +kernel
theorem dX0_findPossible_53 : decode cX0_findPossible 53 = .ok (.if_icmp .ge 39, 3) := by decide +kernel
theorem dX0_findPossible_56 : decode cX0_findPossible 56 = .ok (.iload_n 1, 1) := by decide +kernel
theorem dX0_findPossible_57 : decode cX0_findPossible 57 = .ok (.ifCond .eq 35, 3) := by decide +kernel
theorem dX0_findPossible_60 : decode cX0_findPossible 60 = .ok (.iconst 0, 1) := by decide +kernel
theorem dX0_findPossible_61 : decode cX0_findPossible 61 = .ok (.istore_n 1, 1) := by decide +kernel
theorem dX0_findPossible_62 : decode cX0_findPossible 62 = .ok (.iconst 0, 1) := by decide +kernel
theorem dX0_findPossible_63 : decode cX0_findPossible 63 = .ok (.istore_n 3, 1) := by decide +kernel
theorem dX0_findPossible_64 : decode cX0_findPossible 64 = .ok (.iload_n 3, 1) := by decide +kernel
theorem dX0_findPossible_65 : decode cX0_findPossible 65 = .ok (.aload_n 0, 1) := by decide +kernel
theorem dX0_findPossible_66 : decode cX0_findPossible 66 = .ok (.invokevirtual 45, 3) := by decide +kernel
theorem dX0_findPossible_69 : decode cX0_findPossible 69 = .ok (.if_icmp .ge 17, 3) := by decide +kernel
theorem dX0_findPossible_72 : decode cX0_findPossible 72 = .ok (.iload_n 1, 1) := by decide +kernel
theorem dX0_findPossible_73 : decode cX0_findPossible 73 = .ok (.aload_n 0, 1) := by decide +kernel
theorem dX0_findPossible_74 : decode cX0_findPossible 74 = .ok (.iload_n 3, 1) := by decide +kernel
theorem dX0_findPossible_75 : decode cX0_findPossible 75 = .ok (.invokevirtual 90, 3) := by decide +kernel
theorem dX0_findPossible_78 : decode cX0_findPossible 78 = .ok (.ior, 1) := by decide +kernel
theorem dX0_findPossible_79 : decode cX0_findPossible 79 = .ok (.istore_n 1, 1) := by decide +kernel
theorem dX0_findPossible_80 : decode cX0_findPossible 80 = .ok (.iinc 3 1, 3) := by decide +kernel
theorem dX0_findPossible_83 : decode cX0_findPossible 83 = .ok (.goto (-19), 3) := by decide +kernel
theorem dX0_findPossible_86 : decode cX0_findPossible 86 = .ok (.iinc 2 1, 3) := by decide +kernel
theorem dX0_findPossible_89 : decode cX0_findPossible 89 = .ok (.goto (-40), 3) := by decide +kernel
theorem dX0_findPossible_92 : decode cX0_findPossible 92 = .ok (.return_, 1) := by decide +kernel
theorem dX0_addPossible_0 : decode cX0_addPossible 0 = .ok (.iconst 0, 1) := by decide +kernel
theorem dX0_addPossible_1 : decode cX0_addPossible 1 = .ok (.istore_n 2, 1) := by decide +kernel
theorem dX0_addPossible_2 : decode cX0_addPossible 2 = .ok (.iconst 0, 1) := by decide +kernel
theorem dX0_addPossible_3 : decode cX0_addPossible 3 = .ok (.istore_n 3, 1) := by decide +kernel
theorem dX0_addPossible_4 : decode cX0_addPossible 4 = .ok (.iload_n 3, 1) := by decide +kernel
theorem dX0_addPossible_5 : decode cX0_addPossible 5 = .ok (.iconst 4, 1) := by decide +kernel
theorem dX0_addPossible_6 : decode cX0_addPossible 6 = .ok (.if_icmp .ge 81, 3) := by decide +kernel
theorem dX0_addPossible_9 : decode cX0_addPossible 9 = .ok (.aload_n 0, 1) := by decide +kernel
theorem dX0_addPossible_10 : decode cX0_addPossible 10 = .ok (.iload_n 1, 1) := by decide +kernel
theorem dX0_addPossible_11 : decode cX0_addPossible 11 = .ok (.iload_n 3, 1) := by decide +kernel
theorem dX0_addPossible_12 : decode cX0_addPossible 12 = .ok (.invokevirtual 93, 3) := by decide +kernel
theorem dX0_addPossible_15 : decode cX0_addPossible 15 = .ok (.istore 4, 2) := by decide +kernel
theorem dX0_addPossible_17 : decode cX0_addPossible 17 = .ok (.aload_n 0, 1) := by decide +kernel
theorem dX0_addPossible_18 : decode cX0_addPossible 18 = .ok (.aload_n 0, 1) := by decide +kernel
theorem dX0_addPossible_19 : decode cX0_addPossible 19 = .ok (.iload 4, 2) := by decide +kernel
theorem dX0_addPossible_21 : decode cX0_addPossible 21 = .ok (.invokevirtual 96, 3) := by decide +kernel
theorem dX0_addPossible_24 : decode cX0_addPossible 24 = .ok (.aload_n 0, 1) := by decide +kernel
theorem dX0_addPossible_25 : decode cX0_addPossible 25 = .ok (.iload_n 1, 1) := by decide +kernel
theorem dX0_addPossible_26 : decode cX0_addPossible 26 = .ok (.invokevirtual 87, 3) := by decide +kernel
theorem dX0_addPossible_29 : decode cX0_addPossible 29 = .ok (.invokevirtual 99, 3) := by decide +kernel
theorem dX0_addPossible_32 : decode cX0_addPossible 32 = .ok (.istore 5, 2) := by decide +kernel
theorem dX0_addPossible_34 : decode cX0_addPossible 34 = .ok (.aload_n 0, 1) := by decide +kernel
theorem dX0_addPossible_35 : decode cX0_addPossible 35 = .ok (.aload_n 0, 1) := by decide +kernel
theorem dX0_addPossible_36 : decode cX0_addPossible 36 = .ok (.iload_n 1, 1) := by decide +kernel
theorem dX0_addPossible_37 : decode cX0_addPossible 37 = .ok (.invokevirtual 96, 3) := by decide +kernel
theorem dX0_addPossible_40 : decode cX0_addPossible 40 = .ok (.aload_n 0, 1) := by decide +kernel
theorem dX0_addPossible_41 : decode cX0_addPossible 41 = .ok (.iload 4, 2) := by decide +kernel
theorem dX0_addPossible_43 : decode cX0_addPossible 43 = .ok (.invokevirtual 87, 3) := by decide +kernel
theorem dX0_addPossible_46 : decode cX0_addPossible 46 = .ok (.invokevirtual 99, 3) := by decide +kernel
theorem dX0_addPossible_49 : decode cX0_addPossible 49 = .ok (.istore 6, 2) := by decide +kernel
theorem dX0_addPossible_51 : decode cX0_addPossible 51 = .ok (.aload_n 0, 1) := by decide +kernel
theorem dX0_addPossible_52 : decode cX0_addPossible 52 = .ok (.iload 5, 2) := by decide +kernel
theorem dX0_addPossible_54 : decode cX0_addPossible 54 = .ok (.invokevirtual 102, 3) := by decide +kernel
theorem dX0_addPossible_57 : decode cX0_addPossible 57 = .ok (.ifCond .eq 24, 3) := by decide +kernel
theorem dX0_addPossible_60 : decode cX0_addPossible 60 = .ok (.aload_n 0, 1) := by decide +kernel
theorem dX0_addPossible_61 : decode cX0_addPossible 61 = .ok (.iload 6, 2) := by decide +kernel
theorem dX0_addPossible_63 : decode cX0_addPossible 63 = .ok (.invokevirtual 102, 3) := by decide +kernel
theorem dX0_addPossible_66 : decode cX0_addPossible 66 = .ok (.ifCond .ne 15, 3) := by decide +kernel
theorem dX0_addPossible_69 : decode cX0_addPossible 69 = .ok (.aload_n 0, 1) := by decide +kernel
theorem dX0_addPossible_70 : decode cX0_addPossible 70 = .ok (.getfield 19, 3) := by decide +kernel
theorem dX0_addPossible_73 : decode cX0_addPossible 73 = .ok (.iload 6, 2) := by decide +kernel
theorem dX0_addPossible_75 : decode cX0_addPossible 75 = .ok (.iconst 1, 1) := by decide +kernel
theorem dX0_addPossible_76 : decode cX0_addPossible 76 = .ok (.invokestatic 64, 3) := by decide +kernel
theorem dX0_addPossible_79 : decode cX0_addPossible 79 = .ok (.iconst 1, 1) := by decide +kernel
theorem dX0_addPossible_80 : decode cX0_addPossible 80 = .ok (.istore_n 2, 1) := by decide +kernel
theorem dX0_addPossible_81 : decode cX0_addPossible 81 = .ok (.iinc 3 1, 3) := by decide +kernel
theorem dX0_addPossible_84 : decode cX0_addPossible 84 = .ok (.goto (-80), 3) := by decide +kernel
theorem dX0_addPossible_87 : decode cX0_addPossible 87 = .ok (.iload_n 2, 1) := by decide +kernel
theorem dX0_addPossible_88 : decode cX0_addPossible 88 = .ok (.ireturn, 1) := by decide +kernel
theorem dX1_init_0 : decode cX1_init 0 = .ok (.aload_n 0, 1) := by decide +kernel
theorem dX1_init_1 : decode cX1_init 1 = .ok (.invokespecial 3, 3) := by decide +kernel
theorem dX1_init_4 : decode cX1_init 4 = .ok (.aload_n 0, 1) := by decide +kernel
theorem dX1_init_5 : decode cX1_init 5 = .ok (.bipush 16, 2) := by decide +kernel
theorem dX1_init_7 : decode cX1_init 7 = .ok (.newarray .long, 2) := by decide +kernel
theorem dX1_init_9 : decode cX1_init 9 = .ok (.putfield 9, 3) := by decide +kernel
theorem dX1_init_12 : decode cX1_init 12 = .ok (.aload_n 0, 1) := by decide +kernel
theorem dX1_init_13 : decode cX1_init 13 = .ok (.bipush 16, 2) := by decide +kernel
theorem dX1_init_15 : decode cX1_init 15 = .ok (.newarray .int, 2) := by decide +kernel
theorem dX1_init_17 : decode cX1_init 17 = .ok (.putfield 15, 3) := by decide +kernel
theorem dX1_init_20 : decode cX1_init 20 = .ok (.return_, 1) := by decide +kernel
theorem dX1_restart_0 : decode cX1_restart 0 = .ok (.iconst 0, 1) := by decide +kernel
theorem dX1_restart_1 : decode cX1_restart 1 = .ok (.istore_n 1, 1) := by decide +kernel
theorem dX1_restart_2 : decode cX1_restart 2 = .ok (.iload_n 1, 1) := by decide +kernel
theorem dX1_restart_3 : decode cX1_restart 3 = .ok (.bipush 16, 2) := by decide +kernel
theorem dX1_restart_5 : decode cX1_restart 5 = .ok (.if_icmp .ge 14, 3) := by decide +kernel
theorem dX1_restart_8 : decode cX1_restart 8 = .ok (.aload_n 0, 1) := by decide +kernel
theorem dX1_restart_9 : decode cX1_restart 9 = .ok (.iload_n 1, 1) := by decide +kernel
theorem dX1_restart_10 : decode cX1_restart 10 = .ok (.invokevirtual 19, 3) := by decide +kernel
theorem dX1_restart_13 : decode cX1_restart 13 = .ok (.iinc 1 1, 3) := by decide +kernel
theorem dX1_restart_16 : decode cX1_restart 16 = .ok (.goto (-14), 3) := by decide +kernel
theorem dX1_restart_19 : decode cX1_restart 19 = .ok (.return_, 1) := by decide +kernel
theorem dX1_restart__0 : decode cX1_restart_ 0 = .ok (.aload_n 0, 1) := by decide +kernel
theorem dX1_restart__1 : decode cX1_restart_ 1 = .ok (.getfield 9, 3) := by decide +kernel
theorem dX1_restart__4 : decode cX1_restart_ 4 = .ok (.iload_n 1, 1) := by decide +kernel
theorem dX1_restart__5 : decode cX1_restart_ 5 = .ok (.lconst 1, 1) := by decide +kernel
theorem dX1_restart__6 : decode cX1_restart_ 6 = .ok (.invokestatic 23, 3) := by decide +kernel
theorem dX1_restart__9 : decode cX1_restart_ 9 = .ok (.aload_n 0, 1) := by decide +kernel
theorem dX1_restart__10 : decode cX1_restart_ 10 = .ok (.getfield 15, 3) := by decide +kernel
theorem dX1_restart__13 : decode cX1_restart_ 13 = .ok (.iload_n 1, 1) := by decide +kernel
theorem dX1_restart__14 : decode cX1_restart_ 14 = .ok (.iconst 0, 1) := by decide +kernel
theorem dX1_restart__15 : decode cX1_restart_ 15 = .ok (.invokestatic 27, 3) := by decide +kernel
theorem dX1_restart__18 : decode cX1_restart_ 18 = .ok (.return_, 1) := by decide +kernel
theorem dX1_step_0 : decode cX1_step 0 = .ok (.aload_n 0, 1) := by decide +kernel
theorem dX1_step_1 : decode cX1_step 1 = .ok (.aload_n 1, 1) := by decide +kernel
theorem dX1_step_2 : decode cX1_step 2 = .ok (.iload_n 2, 1) := by decide +kernel
theorem dX1_step_3 : decode cX1_step 3 = .ok (.invokevirtual 31, 3) := by decide +kernel
theorem dX1_step_6 : decode cX1_step 6 = .ok (.ifCond .ne 42, 3) := by decide +kernel
theorem dX1_step_9 : decode cX1_step 9 = .ok (.aload_n 0, 1) := by decide +kernel
theorem dX1_step_10 : decode cX1_step 10 = .ok (.getfield 9, 3) := by decide +kernel
theorem dX1_step_13 : decode cX1_step 13 = .ok (.iload_n 2, 1) := by decide +kernel
theorem dX1_step_14 : decode cX1_step 14 = .ok (.aload_n 1, 1) := by decide +kernel
theorem dX1_step_15 : decode cX1_step 15 = .ok (.aload_n 0, 1) := by decide +kernel
theorem dX1_step_16 : decode cX1_step 16 = .ok (.getfield 9, 3) := by decide +kernel
theorem dX1_step_19 : decode cX1_step 19 = .ok (.iload_n 2, 1) := by decide +kernel
theorem dX1_step_20 : decode cX1_step 20 = .ok (.invokestatic 35, 3) := by decide +kernel
theorem dX1_step_23 : decode cX1_step 23 = .ok (.iload_n 3, 1) := by decide +kernel
theorem dX1_step_24 : decode cX1_step 24 = .ok (.invokestatic 39, 3) := by decide +kernel
theorem dX1_step_27 : decode cX1_step 27 = .ok (.invokestatic 23, 3) := by decide +kernel
theorem dX1_step_30 : decode cX1_step 30 = .ok (.aload_n 0, 1) := by decide +kernel
theorem dX1_step_31 : decode cX1_step 31 = .ok (.getfield 15, 3) := by decide +kernel
theorem dX1_step_34 : decode cX1_step 34 = .ok (.iload_n 2, 1) := by decide +kernel
theorem dX1_step_35 : decode cX1_step 35 = .ok (.aload_n 0, 1) := by decide +kernel
theorem dX1_step_36 : decode cX1_step 36 = .ok (.getfield 15, 3) := by decide +kernel
theorem dX1_step_39 : decode cX1_step 39 = .ok (.iload_n 2, 1) := by decide +kernel
theorem dX1_step_40 : decode cX1_step 40 = .ok (.invokestatic 43, 3) := by decide +kernel
theorem dX1_step_43 : decode cX1_step 43 = .ok (.iconst 1, 1) := by decide +kernel
theorem dX1_step_44 : decode cX1_step 44 = .ok (.iadd, 1) := by decide +kernel
theorem dX1_step_45 : decode cX1_step 45 = .ok (.invokestatic 27, 3) := by decide +kernel
theorem dX1_step_48 : decode cX1_step 48 = .ok (.aload_n 0, 1) := by decide +kernel
theorem dX1_step_49 : decode cX1_step 49 = .ok (.aload_n 1, 1) := by decide +kernel
theorem dX1_step_50 : decode cX1_step 50 = .ok (.iload_n 2, 1) := by decide +kernel
theorem dX1_step_51 : decode cX1_step 51 = .ok (.invokevirtual 47, 3) := by decide +kernel
theorem dX1_step_54 : decode cX1_step 54 = .ok (.ireturn, 1) := by decide +kernel
theorem dX1_lose_0 : decode cX1_lose 0 = .ok (.aload_n 0, 1) := by decide +kernel
theorem dX1_lose_1 : decode cX1_lose 1 = .ok (.getfield 9, 3) := by decide +kernel
theorem dX1_lose_4 : decode cX1_lose 4 = .ok (.iload_n 2, 1) := by decide +kernel
theorem dX1_lose_5 : decode cX1_lose 5 = .ok (.invokestatic 35, 3) := by decide +kernel
theorem dX1_lose_8 : decode cX1_lose 8 = .ok (.lstore 4, 2) := by decide +kernel
theorem dX1_lose_10 : decode cX1_lose 10 = .ok (.iconst 1, 1) := by decide +kernel
theorem dX1_lose_11 : decode cX1_lose 11 = .ok (.istore 6, 2) := by decide +kernel
theorem dX1_lose_13 : decode cX1_lose 13 = .ok (.iconst 0, 1) := by decide +kernel
theorem dX1_lose_14 : decode cX1_lose 14 = .ok (.istore 7, 2) := by decide +kernel
theorem dX1_lose_16 : decode cX1_lose 16 = .ok (.iload 7, 2) := by decide +kernel
theorem dX1_lose_18 : decode cX1_lose 18 = .ok (.iload_n 3, 1) := by decide +kernel
theorem dX1_lose_19 : decode cX1_lose 19 = .ok (.if_icmp .ge 65, 3) := by decide +kernel
theorem dX1_lose_22 : decode cX1_lose 22 = .ok (.iload 6, 2) := by decide +kernel
theorem dX1_lose_24 : decode cX1_lose 24 = .ok (.ifCond .eq 60, 3) := by decide +kernel
theorem dX1_lose_27 : decode cX1_lose 27 = .ok (.lload 4, 2) := by decide +kernel
theorem dX1_lose_29 : decode cX1_lose 29 = .ok (.lstore 8, 2) := by decide +kernel
theorem dX1_lose_31 : decode cX1_lose 31 = .ok (.iconst 0, 1) := by decide +kernel
theorem dX1_lose_32 : decode cX1_lose 32 = .ok (.istore 10, 2) := by decide +kernel
theorem dX1_lose_34 : decode cX1_lose 34 = .ok (.iload 10, 2) := by decide +kernel
theorem dX1_lose_36 : decode cX1_lose 36 = .ok (.iconst 4, 1) := by decide +kernel
theorem dX1_lose_37 : decode cX1_lose 37 = .ok (.if_icmp .ge 22, 3) := by decide +kernel
theorem dX1_lose_40 : decode cX1_lose 40 = .ok (.lload 8, 2) := by decide +kernel
theorem dX1_lose_42 : decode cX1_lose 42 = .ok (.aload_n 1, 1) := by decide +kernel
theorem dX1_lose_43 : decode cX1_lose 43 = .ok (.lload 4, 2) := by decide +kernel
theorem dX1_lose_45 : decode cX1_lose 45 = .ok (.iload 10, 2) := by decide +kernel
theorem dX1_lose_47 : decode cX1_lose 47 = .ok (.invokestatic 39, 3) := by decide +kernel
theorem dX1_lose_50 : decode cX1_lose 50 = .ok (.lor, 1) := by decide +kernel
theorem dX1_lose_51 : decode cX1_lose 51 = .ok (.lstore 8, 2) := by decide +kernel
theorem dX1_lose_53 : decode cX1_lose 53 = .ok (.iinc 10 1, 3) := by decide +kernel
theorem dX1_lose_56 : decode cX1_lose 56 = .ok (.goto (-22), 3) := by decide +kernel
theorem dX1_lose_59 : decode cX1_lose 59 = .ok (.lload 8, 2) := by decide +kernel
theorem dX1_lose_61 : decode cX1_lose 61 = .ok (.lload 4, 2) := by decide +kernel
theorem dX1_lose_63 : decode cX1_lose 63 = .ok (.lcmp, 1) := by decide +kernel
theorem dX1_lose_64 : decode cX1_lose 64 = .ok (.ifCond .eq 7, 3) := by decide +kernel
theorem dX1_lose_67 : decode cX1_lose 67 = .ok (.iconst 1, 1) := by decide +kernel
theorem dX1_lose_68 : decode cX1_lose 68 = .ok (.goto 4, 3) := by decide +kernel
theorem dX1_lose_71 : decode cX1_lose 71 = .ok (.iconst 0, 1) := by decide +kernel
theorem dX1_lose_72 : decode cX1_lose 72 = .ok (.istore 6, 2) := by decide +kernel
theorem dX1_lose_74 : decode cX1_lose 74 = .ok (.lload 8, 2) := by decide +kernel
theorem dX1_lose_76 : decode cX1_lose 76 = .ok (.lstore 4, 2) := by decide +kernel
theorem dX1_lose_78 : decode cX1_lose 78 = .ok (.iinc 7 1, 3) := by decide +kernel
theorem dX1_lose_81 : decode cX1_lose 81 = .ok (.goto (-65), 3) := by decide +kernel
theorem dX1_lose_84 : decode cX1_lose 84 = .ok (.aload_n 0, 1) := by decide +kernel
theorem dX1_lose_85 : decode cX1_lose 85 = .ok (.getfield 9, 3) := by decide +kernel
theorem dX1_lose_88 : decode cX1_lose 88 = .ok (.iload_n 2, 1) := by decide +kernel
theorem dX1_lose_89 : decode cX1_lose 89 = .ok (.lload 4, 2) := by decide +kernel
theorem dX1_lose_91 : decode cX1_lose 91 = .ok (.invokestatic 23, 3) := by decide +kernel
theorem dX1_lose_94 : decode cX1_lose 94 = .ok (.aload_n 0, 1) := by decide +kernel
theorem dX1_lose_95 : decode cX1_lose 95 = .ok (.aload_n 1, 1) := by decide +kernel
theorem dX1_lose_96 : decode cX1_lose 96 = .ok (.iload_n 2, 1) := by decide +kernel
theorem dX1_lose_97 : decode cX1_lose 97 = .ok (.invokevirtual 47, 3) := by decide +kernel
theorem dX1_lose_100 : decode cX1_lose 100 = .ok (.ireturn, 1) := by decide +kernel
theorem dX1_stepped_0 : decode cX1_stepped 0 = .ok (.lconst 0, 1) := by decide +kernel
theorem dX1_stepped_1 : decode cX1_stepped 1 = .ok (.lstore 4, 2) := by decide +kernel
theorem dX1_stepped_3 : decode cX1_stepped 3 = .ok (.iconst 0, 1) := by decide +kernel
theorem dX1_stepped_4 : decode cX1_stepped 4 = .ok (.istore 6, 2) := by decide +kernel
theorem dX1_stepped_6 : decode cX1_stepped 6 = .ok (.iload 6, 2) := by decide +kernel
theorem dX1_stepped_8 : decode cX1_stepped 8 = .ok (.aload_n 0, 1) := by decide +kernel
theorem dX1_stepped_9 : decode cX1_stepped 9 = .ok (.invokevirtual 51, 3) := by decide +kernel
theorem dX1_stepped_12 : decode cX1_stepped 12 = .ok (.if_icmp .ge 32, 3) := by decide +kernel
theorem dX1_stepped_15 : decode cX1_stepped 15 = .ok (.lload_n 1, 1) := by decide +kernel
theorem dX1_stepped_16 : decode cX1_stepped 16 = .ok (.iload 6, 2) := by decide +kernel
theorem dX1_stepped_18 : decode cX1_stepped 18 = .ok (.invokestatic 57, 3) := by decide +kernel
theorem dX1_stepped_21 : decode cX1_stepped 21 = .ok (.ifCond .eq 17, 3) := by decide +kernel
theorem dX1_stepped_24 : decode cX1_stepped 24 = .ok (.lload 4, 2) := by decide +kernel
theorem dX1_stepped_26 : decode cX1_stepped 26 = .ok (.lconst 1, 1) := by decide +kernel
theorem dX1_stepped_27 : decode cX1_stepped 27 = .ok (.aload_n 0, 1) := by decide +kernel
theorem dX1_stepped_28 : decode cX1_stepped 28 = .ok (.iload 6, 2) := by decide +kernel
theorem dX1_stepped_30 : decode cX1_stepped 30 = .ok (.iload_n 3, 1) := by decide +kernel
theorem dX1_stepped_31 : decode cX1_stepped 31 = .ok (.invokevirtual 61, 3) := by decide +kernel
theorem dX1_stepped_34 : decode cX1_stepped 34 = .ok (.lshl, 1) := by decide +kernel
theorem dX1_stepped_35 : decode cX1_stepped 35 = .ok (.lor, 1) := by decide +kernel
theorem dX1_stepped_36 : decode cX1_stepped 36 = .ok (.lstore 4, 2) := by decide +kernel
theorem dX1_stepped_38 : decode cX1_stepped 38 = .ok (.iinc 6 1, 3) := by decide +kernel
theorem dX1_stepped_41 : decode cX1_stepped 41 = .ok (.goto (-35), 3) := by decide +kernel
theorem dX1_stepped_44 : decode cX1_stepped 44 = .ok (.lload 4, 2) := by decide +kernel
theorem dX1_stepped_46 : decode cX1_stepped 46 = .ok (.lreturn, 1) := by decide +kernel
theorem dX1_verdictOf_0 : decode cX1_verdictOf 0 = .ok (.aload_n 0, 1) := by decide +kernel
theorem dX1_verdictOf_1 : decode cX1_verdictOf 1 = .ok (.getfield 9, 3) := by decide +kernel
theorem dX1_verdictOf_4 : decode cX1_verdictOf 4 = .ok (.iload_n 2, 1) := by decide +kernel
theorem dX1_verdictOf_5 : decode cX1_verdictOf 5 = .ok (.invokestatic 35, 3) := by decide +kernel
theorem dX1_verdictOf_8 : decode cX1_verdictOf 8 = .ok (.lstore_n 3, 1) := by decide +kernel
theorem dX1_verdictOf_9 : decode cX1_verdictOf 9 = .ok (.bipush (-9), 2) := by decide +kernel
theorem dX1_verdictOf_11 : decode cX1_verdictOf 11 = .ok (.istore 5, 2) := by decide +kernel
theorem dX1_verdictOf_13 : decode cX1_verdictOf 13 = .ok (.iconst 1, 1) := by decide +kernel
theorem dX1_verdictOf_14 : decode cX1_verdictOf 14 = .ok (.istore 6, 2) := by decide +kernel
theorem dX1_verdictOf_16 : decode cX1_verdictOf 16 = .ok (.iconst 0, 1) := by decide +kernel
theorem dX1_verdictOf_17 : decode cX1_verdictOf 17 = .ok (.istore 7, 2) := by decide +kernel
theorem dX1_verdictOf_19 : decode cX1_verdictOf 19 = .ok (.iconst 0, 1) := by decide +kernel
theorem dX1_verdictOf_20 : decode cX1_verdictOf 20 = .ok (.istore 8, 2) := by decide +kernel
theorem dX1_verdictOf_22 : decode cX1_verdictOf 22 = .ok (.iconst 0, 1) := by decide +kernel
theorem dX1_verdictOf_23 : decode cX1_verdictOf 23 = .ok (.istore 9, 2) := by decide +kernel
theorem dX1_verdictOf_25 : decode cX1_verdictOf 25 = .ok (.iload 9, 2) := by decide +kernel
theorem dX1_verdictOf_27 : decode cX1_verdictOf 27 = .ok (.aload_n 1, 1) := by decide +kernel
theorem dX1_verdictOf_28 : decode cX1_verdictOf 28 = .ok (.invokevirtual 51, 3) := by decide +kernel
theorem dX1_verdictOf_31 : decode cX1_verdictOf 31 = .ok (.if_icmp .ge 86, 3) := by decide +kernel
theorem dX1_verdictOf_34 : decode cX1_verdictOf 34 = .ok (.lload_n 3, 1) := by decide +kernel
theorem dX1_verdictOf_35 : decode cX1_verdictOf 35 = .ok (.iload 9, 2) := by decide +kernel
theorem dX1_verdictOf_37 : decode cX1_verdictOf 37 = .ok (.invokestatic 57, 3) := by decide +kernel
theorem dX1_verdictOf_40 : decode cX1_verdictOf 40 = .ok (.ifCond .eq 71, 3) := by decide +kernel
theorem dX1_verdictOf_43 : decode cX1_verdictOf 43 = .ok (.aload_n 1, 1) := by decide +kernel
theorem dX1_verdictOf_44 : decode cX1_verdictOf 44 = .ok (.iload 9, 2) := by decide +kernel
theorem dX1_verdictOf_46 : decode cX1_verdictOf 46 = .ok (.invokevirtual 65, 3) := by decide +kernel
theorem dX1_verdictOf_49 : decode cX1_verdictOf 49 = .ok (.istore 10, 2) := by decide +kernel
theorem dX1_verdictOf_51 : decode cX1_verdictOf 51 = .ok (.iload 6, 2) := by decide +kernel
theorem dX1_verdictOf_53 : decode cX1_verdictOf 53 = .ok (.ifCond .eq 21, 3) := by decide +kernel
theorem dX1_verdictOf_56 : decode cX1_verdictOf 56 = .ok (.iload 5, 2) := by decide +kernel
theorem dX1_verdictOf_58 : decode cX1_verdictOf 58 = .ok (.bipush (-9), 2) := by decide +kernel
theorem dX1_verdictOf_60 : decode cX1_verdictOf 60 = .ok (.if_icmp .eq 10, 3) := by decide +kernel
theorem dX1_verdictOf_63 : decode cX1_verdictOf 63 = .ok (.iload 5, 2) := by decide +kernel
theorem dX1_verdictOf_65 : decode cX1_verdictOf 65 = .ok (.iload 10, 2) := by decide +kernel
theorem dX1_verdictOf_67 : decode cX1_verdictOf 67 = .ok (.if_icmp .ne 7, 3) := by decide +kernel
theorem dX1_verdictOf_70 : decode cX1_verdictOf 70 = .ok (.iconst 1, 1) := by decide +kernel
theorem dX1_verdictOf_71 : decode cX1_verdictOf 71 = .ok (.goto 4, 3) := by decide +kernel
theorem dX1_verdictOf_74 : decode cX1_verdictOf 74 = .ok (.iconst 0, 1) := by decide +kernel
theorem dX1_verdictOf_75 : decode cX1_verdictOf 75 = .ok (.istore 6, 2) := by decide +kernel
theorem dX1_verdictOf_77 : decode cX1_verdictOf 77 = .ok (.iload 10, 2) := by decide +kernel
theorem dX1_verdictOf_79 : decode cX1_verdictOf 79 = .ok (.istore 5, 2) := by decide +kernel
theorem dX1_verdictOf_81 : decode cX1_verdictOf 81 = .ok (.iload 7, 2) := by decide +kernel
theorem dX1_verdictOf_83 : decode cX1_verdictOf 83 = .ok (.aload_n 1, 1) := by decide +kernel
theorem dX1_verdictOf_84 : decode cX1_verdictOf 84 = .ok (.iload 9, 2) := by decide +kernel
theorem dX1_verdictOf_86 : decode cX1_verdictOf 86 = .ok (.invokevirtual 68, 3) := by decide +kernel
theorem dX1_verdictOf_89 : decode cX1_verdictOf 89 = .ok (.ior, 1) := by decide +kernel
theorem dX1_verdictOf_90 : decode cX1_verdictOf 90 = .ok (.istore 7, 2) := by decide +kernel
theorem dX1_verdictOf_92 : decode cX1_verdictOf 92 = .ok (.iload 8, 2) := by decide +kernel
theorem dX1_verdictOf_94 : decode cX1_verdictOf 94 = .ok (.aload_n 1, 1) := by decide +kernel
theorem dX1_verdictOf_95 : decode cX1_verdictOf 95 = .ok (.iload 9, 2) := by decide +kernel
theorem dX1_verdictOf_97 : decode cX1_verdictOf 97 = .ok (.invokevirtual 68, 3) := by decide +kernel
theorem dX1_verdictOf_100 : decode cX1_verdictOf 100 = .ok (.ifCond .ne 7, 3) := by decide +kernel
theorem dX1_verdictOf_103 : decode cX1_verdictOf 103 = .ok (.iconst 1, 1) := by decide +kernel
theorem dX1_verdictOf_104 : decode cX1_verdictOf 104 = .ok (.goto 4, 3) := by decide +kernel
theorem dX1_verdictOf_107 : decode cX1_verdictOf 107 = .ok (.iconst 0, 1) := by decide +kernel
theorem dX1_verdictOf_108 : decode cX1_verdictOf 108 = .ok (.ior, 1) := by decide +kernel
theorem dX1_verdictOf_109 : decode cX1_verdictOf 109 = .ok (.istore 8, 2) := by decide +kernel
theorem dX1_verdictOf_111 : decode cX1_verdictOf 111 = .ok (.iinc 9 1, 3) := by decide +kernel
theorem dX1_verdictOf_114 : decode cX1_verdictOf 114 = .ok (.goto (-89), 3) := by decide +kernel
theorem dX1_verdictOf_117 : decode cX1_verdictOf 117 = .ok (.iload 6, 2) := by decide +kernel
theorem dX1_verdictOf_119 : decode cX1_verdictOf 119 = .ok (.ifCond .eq 6, 3) := by decide +kernel
theorem dX1_verdictOf_122 : decode cX1_verdictOf 122 = .ok (.iload 5, 2) := by decide +kernel
theorem dX1_verdictOf_124 : decode cX1_verdictOf 124 = .ok (.ireturn, 1) := by decide +kernel
theorem dX1_verdictOf_125 : decode cX1_verdictOf 125 = .ok (.iload 7, 2) := by decide +kernel
theorem dX1_verdictOf_127 : decode cX1_verdictOf 127 = .ok (.ifCond .eq 12, 3) := by decide +kernel
theorem dX1_verdictOf_130 : decode cX1_verdictOf 130 = .ok (.iload 8, 2) := by decide +kernel
theorem dX1_verdictOf_132 : decode cX1_verdictOf 132 = .ok (.ifCond .eq 7, 3) := by decide +kernel
theorem dX1_verdictOf_135 : decode cX1_verdictOf 135 = .ok (.iconst 4, 1) := by decide +kernel
theorem dX1_verdictOf_136 : decode cX1_verdictOf 136 = .ok (.goto 13, 3) := by decide +kernel
theorem dX1_verdictOf_139 : decode cX1_verdictOf 139 = .ok (.iload 7, 2) := by decide +kernel
theorem dX1_verdictOf_141 : decode cX1_verdictOf 141 = .ok (.ifCond .eq 7, 3) := by decide +kernel
theorem dX1_verdictOf_144 : decode cX1_verdictOf 144 = .ok (.iconst 1, 1) := by decide +kernel
theorem dX1_verdictOf_145 : decode cX1_verdictOf 145 = .ok (.goto 4, 3) := by decide +kernel
theorem dX1_verdictOf_148 : decode cX1_verdictOf 148 = .ok (.iconst 0, 1) := by decide +kernel
theorem dX1_verdictOf_149 : decode cX1_verdictOf 149 = .ok (.ireturn, 1) := by decide +kernel
theorem dX1_isLetGo_0 : decode cX1_isLetGo 0 = .ok (.aload_n 0, 1) := by decide +kernel
theorem dX1_isLetGo_1 : decode cX1_isLetGo 1 = .ok (.aload_n 1, 1) := by decide +kernel
theorem dX1_isLetGo_2 : decode cX1_isLetGo 2 = .ok (.iload_n 2, 1) := by decide +kernel
theorem dX1_isLetGo_3 : decode cX1_isLetGo 3 = .ok (.invokevirtual 47, 3) := by decide +kernel
theorem dX1_isLetGo_6 : decode cX1_isLetGo 6 = .ok (.istore_n 3, 1) := by decide +kernel
theorem dX1_isLetGo_7 : decode cX1_isLetGo 7 = .ok (.iload_n 3, 1) := by decide +kernel
theorem dX1_isLetGo_8 : decode cX1_isLetGo 8 = .ok (.iconst 2, 1) := by decide +kernel
theorem dX1_isLetGo_9 : decode cX1_isLetGo 9 = .ok (.if_icmp .eq 8, 3) := by decide +kernel
theorem dX1_isLetGo_12 : decode cX1_isLetGo 12 = .ok (.iload_n 3, 1) := by decide +kernel
theorem dX1_isLetGo_13 : decode cX1_isLetGo 13 = .ok (.iconst 3, 1) := by decide +kernel
theorem dX1_isLetGo_14 : decode cX1_isLetGo 14 = .ok (.if_icmp .ne 7, 3) := by decide +kernel
theorem dX1_isLetGo_17 : decode cX1_isLetGo 17 = .ok (.iconst 1, 1) := by decide +kernel
theorem dX1_isLetGo_18 : decode cX1_isLetGo 18 = .ok (.goto 4, 3) := by decide +kernel
theorem dX1_isLetGo_21 : decode cX1_isLetGo 21 = .ok (.iconst 0, 1) := by decide +kernel
theorem dX1_isLetGo_22 : decode cX1_isLetGo 22 = .ok (.ireturn, 1) := by decide +kernel
theorem dX1_letGo_0 : decode cX1_letGo 0 = .ok (.iconst 0, 1) := by decide +kernel
theorem dX1_letGo_1 : decode cX1_letGo 1 = .ok (.istore_n 2, 1) := by decide +kernel
theorem dX1_letGo_2 : decode cX1_letGo 2 = .ok (.iconst 0, 1) := by decide +kernel
theorem dX1_letGo_3 : decode cX1_letGo 3 = .ok (.istore_n 3, 1) := by decide +kernel
theorem dX1_letGo_4 : decode cX1_letGo 4 = .ok (.iload_n 3, 1) := by decide +kernel
theorem dX1_letGo_5 : decode cX1_letGo 5 = .ok (.bipush 16, 2) := by decide +kernel
theorem dX1_letGo_7 : decode cX1_letGo 7 = .ok (.if_icmp .ge 26, 3) := by decide +kernel
theorem dX1_letGo_10 : decode cX1_letGo 10 = .ok (.iload_n 2, 1) := by decide +kernel
theorem dX1_letGo_11 : decode cX1_letGo 11 = .ok (.aload_n 0, 1) := by decide +kernel
theorem dX1_letGo_12 : decode cX1_letGo 12 = .ok (.aload_n 1, 1) := by decide +kernel
theorem dX1_letGo_13 : decode cX1_letGo 13 = .ok (.iload_n 3, 1) := by decide +kernel
theorem dX1_letGo_14 : decode cX1_letGo 14 = .ok (.invokevirtual 31, 3) := by decide +kernel
theorem dX1_letGo_17 : decode cX1_letGo 17 = .ok (.ifCond .eq 7, 3) := by decide +kernel
theorem dX1_letGo_20 : decode cX1_letGo 20 = .ok (.iconst 1, 1) := by decide +kernel
theorem dX1_letGo_21 : decode cX1_letGo 21 = .ok (.goto 4, 3) := by decide +kernel
theorem dX1_letGo_24 : decode cX1_letGo 24 = .ok (.iconst 0, 1) := by decide +kernel
theorem dX1_letGo_25 : decode cX1_letGo 25 = .ok (.iadd, 1) := by decide +kernel
theorem dX1_letGo_26 : decode cX1_letGo 26 = .ok (.istore_n 2, 1) := by decide +kernel
theorem dX1_letGo_27 : decode cX1_letGo 27 = .ok (.iinc 3 1, 3) := by decide +kernel
theorem dX1_letGo_30 : decode cX1_letGo 30 = .ok (.goto (-26), 3) := by decide +kernel
theorem dX1_letGo_33 : decode cX1_letGo 33 = .ok (.iload_n 2, 1) := by decide +kernel
theorem dX1_letGo_34 : decode cX1_letGo 34 = .ok (.ireturn, 1) := by decide +kernel
theorem dX1_statesOf_0 : decode cX1_statesOf 0 = .ok (.aload_n 0, 1) := by decide +kernel
theorem dX1_statesOf_1 : decode cX1_statesOf 1 = .ok (.getfield 9, 3) := by decide +kernel
theorem dX1_statesOf_4 : decode cX1_statesOf 4 = .ok (.iload_n 1, 1) := by decide +kernel
theorem dX1_statesOf_5 : decode cX1_statesOf 5 = .ok (.invokestatic 35, 3) := by decide +kernel
theorem dX1_statesOf_8 : decode cX1_statesOf 8 = .ok (.invokestatic 72, 3) := by decide +kernel
theorem dX1_statesOf_11 : decode cX1_statesOf 11 = .ok (.ireturn, 1) := by decide +kernel
theorem dX1_stateAt_0 : decode cX1_stateAt 0 = .ok (.aload_n 0, 1) := by decide +kernel
theorem dX1_stateAt_1 : decode cX1_stateAt 1 = .ok (.getfield 9, 3) := by decide +kernel
theorem dX1_stateAt_4 : decode cX1_stateAt 4 = .ok (.iload_n 1, 1) := by decide +kernel
theorem dX1_stateAt_5 : decode cX1_stateAt 5 = .ok (.invokestatic 35, 3) := by decide +kernel
theorem dX1_stateAt_8 : decode cX1_stateAt 8 = .ok (.lstore_n 3, 1) := by decide +kernel
theorem dX1_stateAt_9 : decode cX1_stateAt 9 = .ok (.iload_n 2, 1) := by decide +kernel
theorem dX1_stateAt_10 : decode cX1_stateAt 10 = .ok (.istore 5, 2) := by decide +kernel
theorem dX1_stateAt_12 : decode cX1_stateAt 12 = .ok (.iconst 0, 1) := by decide +kernel
theorem dX1_stateAt_13 : decode cX1_stateAt 13 = .ok (.istore 6, 2) := by decide +kernel
theorem dX1_stateAt_15 : decode cX1_stateAt 15 = .ok (.iload 6, 2) := by decide +kernel
theorem dX1_stateAt_17 : decode cX1_stateAt 17 = .ok (.bipush 60, 2) := by decide +kernel
theorem dX1_stateAt_19 : decode cX1_stateAt 19 = .ok (.if_icmp .ge 29, 3) := by decide +kernel
theorem dX1_stateAt_22 : decode cX1_stateAt 22 = .ok (.lload_n 3, 1) := by decide +kernel
theorem dX1_stateAt_23 : decode cX1_stateAt 23 = .ok (.iload 6, 2) := by decide +kernel
theorem dX1_stateAt_25 : decode cX1_stateAt 25 = .ok (.invokestatic 57, 3) := by decide +kernel
theorem dX1_stateAt_28 : decode cX1_stateAt 28 = .ok (.ifCond .eq 14, 3) := by decide +kernel
theorem dX1_stateAt_31 : decode cX1_stateAt 31 = .ok (.iload 5, 2) := by decide +kernel
theorem dX1_stateAt_33 : decode cX1_stateAt 33 = .ok (.ifCond .ne 6, 3) := by decide +kernel
theorem dX1_stateAt_36 : decode cX1_stateAt 36 = .ok (.iload 6, 2) := by decide +kernel
theorem dX1_stateAt_38 : decode cX1_stateAt 38 = .ok (.ireturn, 1) := by decide +kernel
theorem dX1_stateAt_39 : decode cX1_stateAt 39 = .ok (.iinc 5 (-1), 3) := by decide +kernel
theorem dX1_stateAt_42 : decode cX1_stateAt 42 = .ok (.iinc 6 1, 3) := by decide +kernel
theorem dX1_stateAt_45 : decode cX1_stateAt 45 = .ok (.goto (-30), 3) := by decide +kernel
theorem dX1_stateAt_48 : decode cX1_stateAt 48 = .ok (.bipush (-9), 2) := by decide +kernel
theorem dX1_stateAt_50 : decode cX1_stateAt 50 = .ok (.ireturn, 1) := by decide +kernel
theorem dX1_eventsOf_0 : decode cX1_eventsOf 0 = .ok (.aload_n 0, 1) := by decide +kernel
theorem dX1_eventsOf_1 : decode cX1_eventsOf 1 = .ok (.getfield 15, 3) := by decide +kernel
theorem dX1_eventsOf_4 : decode cX1_eventsOf 4 = .ok (.iload_n 1, 1) := by decide +kernel
theorem dX1_eventsOf_5 : decode cX1_eventsOf 5 = .ok (.invokestatic 43, 3) := by decide +kernel
theorem dX1_eventsOf_8 : decode cX1_eventsOf 8 = .ok (.ireturn, 1) := by decide +kernel
theorem dX2_init_0 : decode cX2_init 0 = .ok (.aload_n 0, 1) := by decide +kernel
theorem dX2_init_1 : decode cX2_init 1 = .ok (.invokespecial 3, 3) := by decide +kernel
theorem dX2_init_4 : decode cX2_init 4 = .ok (.aload_n 0, 1) := by decide +kernel
theorem dX2_init_5 : decode cX2_init 5 = .ok (.sipush 1921, 3) := by decide +kernel
theorem dX2_init_8 : decode cX2_init 8 = .ok (.newarray .int, 2) := by decide +kernel
theorem dX2_init_10 : decode cX2_init 10 = .ok (.putfield 9, 3) := by decide +kernel
theorem dX2_init_13 : decode cX2_init 13 = .ok (.aload_n 0, 1) := by decide +kernel
theorem dX2_init_14 : decode cX2_init 14 = .ok (.sipush 1921, 3) := by decide +kernel
theorem dX2_init_17 : decode cX2_init 17 = .ok (.newarray .int, 2) := by decide +kernel
theorem dX2_init_19 : decode cX2_init 19 = .ok (.putfield 15, 3) := by decide +kernel
theorem dX2_init_22 : decode cX2_init 22 = .ok (.aload_n 0, 1) := by decide +kernel
theorem dX2_init_23 : decode cX2_init 23 = .ok (.bipush 60, 2) := by decide +kernel
theorem dX2_init_25 : decode cX2_init 25 = .ok (.newarray .int, 2) := by decide +kernel
theorem dX2_init_27 : decode cX2_init 27 = .ok (.putfield 18, 3) := by decide +kernel
theorem dX2_init_30 : decode cX2_init 30 = .ok (.aload_n 0, 1) := by decide +kernel
theorem dX2_init_31 : decode cX2_init 31 = .ok (.bipush 60, 2) := by decide +kernel
theorem dX2_init_33 : decode cX2_init 33 = .ok (.newarray .int, 2) := by decide +kernel
theorem dX2_init_35 : decode cX2_init 35 = .ok (.putfield 21, 3) := by decide +kernel
theorem dX2_init_38 : decode cX2_init 38 = .ok (.aload_n 0, 1) := by decide +kernel
theorem dX2_init_39 : decode cX2_init 39 = .ok (.bipush 60, 2) := by decide +kernel
theorem dX2_init_41 : decode cX2_init 41 = .ok (.newarray .int, 2) := by decide +kernel
theorem dX2_init_43 : decode cX2_init 43 = .ok (.putfield 24, 3) := by decide +kernel
theorem dX2_init_46 : decode cX2_init 46 = .ok (.aload_n 0, 1) := by decide +kernel
theorem dX2_init_47 : decode cX2_init 47 = .ok (.bipush 60, 2) := by decide +kernel
theorem dX2_init_49 : decode cX2_init 49 = .ok (.newarray .int, 2) := by decide +kernel
theorem dX2_init_51 : decode cX2_init 51 = .ok (.putfield 27, 3) := by decide +kernel
theorem dX2_init_54 : decode cX2_init 54 = .ok (.aload_n 0, 1) := by decide +kernel
theorem dX2_init_55 : decode cX2_init 55 = .ok (.iconst 0, 1) := by decide +kernel
theorem dX2_init_56 : decode cX2_init 56 = .ok (.putfield 30, 3) := by decide +kernel
theorem dX2_init_59 : decode cX2_init 59 = .ok (.return_, 1) := by decide +kernel
theorem dX2_lessen_0 : decode cX2_lessen 0 = .ok (.iconst 0, 1) := by decide +kernel
theorem dX2_lessen_1 : decode cX2_lessen 1 = .ok (.istore_n 2, 1) := by decide +kernel
theorem dX2_lessen_2 : decode cX2_lessen 2 = .ok (.iload_n 2, 1) := by decide +kernel
theorem dX2_lessen_3 : decode cX2_lessen 3 = .ok (.aload_n 1, 1) := by decide +kernel
theorem dX2_lessen_4 : decode cX2_lessen 4 = .ok (.invokevirtual 34, 3) := by decide +kernel
theorem dX2_lessen_7 : decode cX2_lessen 7 = .ok (.if_icmp .ge 30, 3) := by decide +kernel
theorem dX2_lessen_10 : decode cX2_lessen 10 = .ok (.aload_n 0, 1) := by decide +kernel
theorem dX2_lessen_11 : decode cX2_lessen 11 = .ok (.getfield 9, 3) := by decide +kernel
theorem dX2_lessen_14 : decode cX2_lessen 14 = .ok (.iload_n 2, 1) := by decide +kernel
theorem dX2_lessen_15 : decode cX2_lessen 15 = .ok (.aload_n 1, 1) := by decide +kernel
theorem dX2_lessen_16 : decode cX2_lessen 16 = .ok (.iload_n 2, 1) := by decide +kernel
theorem dX2_lessen_17 : decode cX2_lessen 17 = .ok (.invokevirtual 40, 3) := by decide +kernel
theorem dX2_lessen_20 : decode cX2_lessen 20 = .ok (.ifCond .eq 7, 3) := by decide +kernel
theorem dX2_lessen_23 : decode cX2_lessen 23 = .ok (.iconst 1, 1) := by decide +kernel
theorem dX2_lessen_24 : decode cX2_lessen 24 = .ok (.goto 4, 3) := by decide +kernel
theorem dX2_lessen_27 : decode cX2_lessen 27 = .ok (.iconst 0, 1) := by decide +kernel
theorem dX2_lessen_28 : decode cX2_lessen 28 = .ok (.invokestatic 44, 3) := by decide +kernel
theorem dX2_lessen_31 : decode cX2_lessen 31 = .ok (.iinc 2 1, 3) := by decide +kernel
theorem dX2_lessen_34 : decode cX2_lessen 34 = .ok (.goto (-32), 3) := by decide +kernel
theorem dX2_lessen_37 : decode cX2_lessen 37 = .ok (.aload_n 0, 1) := by decide +kernel
theorem dX2_lessen_38 : decode cX2_lessen 38 = .ok (.iconst 0, 1) := by decide +kernel
theorem dX2_lessen_39 : decode cX2_lessen 39 = .ok (.putfield 30, 3) := by decide +kernel
theorem dX2_lessen_42 : decode cX2_lessen 42 = .ok (.iconst 0, 1) := by decide +kernel
theorem dX2_lessen_43 : decode cX2_lessen 43 = .ok (.istore_n 2, 1) := by decide +kernel
theorem dX2_lessen_44 : decode cX2_lessen 44 = .ok (.iload_n 2, 1) := by decide +kernel
theorem dX2_lessen_45 : decode cX2_lessen 45 = .ok (.bipush 60, 2) := by decide +kernel
theorem dX2_lessen_47 : decode cX2_lessen 47 = .ok (.if_icmp .gt 34, 3) := by decide +kernel
theorem dX2_lessen_50 : decode cX2_lessen 50 = .ok (.aload_n 0, 1) := by decide +kernel
theorem dX2_lessen_51 : decode cX2_lessen 51 = .ok (.getfield 30, 3) := by decide +kernel
theorem dX2_lessen_54 : decode cX2_lessen 54 = .ok (.istore_n 3, 1) := by decide +kernel
theorem dX2_lessen_55 : decode cX2_lessen 55 = .ok (.aload_n 0, 1) := by decide +kernel
theorem dX2_lessen_56 : decode cX2_lessen 56 = .ok (.aload_n 1, 1) := by decide +kernel
theorem dX2_lessen_57 : decode cX2_lessen 57 = .ok (.invokevirtual 48, 3) := by decide +kernel
theorem dX2_lessen_60 : decode cX2_lessen 60 = .ok (.ifCond .ne 5, 3) := by decide +kernel
theorem dX2_lessen_63 : decode cX2_lessen 63 = .ok (.iconst 0, 1) := by decide +kernel
theorem dX2_lessen_64 : decode cX2_lessen 64 = .ok (.ireturn, 1) := by decide +kernel
theorem dX2_lessen_65 : decode cX2_lessen 65 = .ok (.aload_n 0, 1) := by decide +kernel
theorem dX2_lessen_66 : decode cX2_lessen 66 = .ok (.getfield 30, 3) := by decide +kernel
theorem dX2_lessen_69 : decode cX2_lessen 69 = .ok (.iload_n 3, 1) := by decide +kernel
theorem dX2_lessen_70 : decode cX2_lessen 70 = .ok (.if_icmp .ne 5, 3) := by decide +kernel
theorem dX2_lessen_73 : decode cX2_lessen 73 = .ok (.iconst 1, 1) := by decide +kernel
theorem dX2_lessen_74 : decode cX2_lessen 74 = .ok (.ireturn, 1) := by decide +kernel
theorem dX2_lessen_75 : decode cX2_lessen 75 = .ok (.iinc 2 1, 3) := by decide +kernel
theorem dX2_lessen_78 : decode cX2_lessen 78 = .ok (.goto (-34), 3) := by decide +kernel
theorem dX2_lessen_81 : decode cX2_lessen 81 = .ok (.iconst 1, 1) := by decide +kernel
theorem dX2_lessen_82 : decode cX2_lessen 82 = .ok (.ireturn, 1) := by decide +kernel
theorem dX2_split_0 : decode cX2_split 0 = .ok (.aload_n 0, 1) := by decide +kernel
theorem dX2_split_1 : decode cX2_split 1 = .ok (.iconst 0, 1) := by decide +kernel
theorem dX2_split_2 : decode cX2_split 2 = .ok (.putfield 30, 3) := by decide +kernel
theorem dX2_split_5 : decode cX2_split 5 = .ok (.iconst 0, 1) := by decide +kernel
theorem dX2_split_6 : decode cX2_split 6 = .ok (.istore_n 2, 1) := by decide +kernel
theorem dX2_split_7 : decode cX2_split 7 = .ok (.iload_n 2, 1) := by decide +kernel
theorem dX2_split_8 : decode cX2_split 8 = .ok (.aload_n 1, 1) := by decide +kernel
theorem dX2_split_9 : decode cX2_split 9 = .ok (.invokevirtual 34, 3) := by decide +kernel
theorem dX2_split_12 : decode cX2_split 12 = .ok (.if_icmp .ge 38, 3) := by decide +kernel
theorem dX2_split_15 : decode cX2_split 15 = .ok (.aload_n 0, 1) := by decide +kernel
theorem dX2_split_16 : decode cX2_split 16 = .ok (.aload_n 0, 1) := by decide +kernel
theorem dX2_split_17 : decode cX2_split 17 = .ok (.aload_n 1, 1) := by decide +kernel
theorem dX2_split_18 : decode cX2_split 18 = .ok (.iload_n 2, 1) := by decide +kernel
theorem dX2_split_19 : decode cX2_split 19 = .ok (.invokevirtual 52, 3) := by decide +kernel
theorem dX2_split_22 : decode cX2_split 22 = .ok (.iload_n 2, 1) := by decide +kernel
theorem dX2_split_23 : decode cX2_split 23 = .ok (.invokevirtual 56, 3) := by decide +kernel
theorem dX2_split_26 : decode cX2_split 26 = .ok (.istore_n 3, 1) := by decide +kernel
theorem dX2_split_27 : decode cX2_split 27 = .ok (.iload_n 3, 1) := by decide +kernel
theorem dX2_split_28 : decode cX2_split 28 = .ok (.bipush (-9), 2) := by decide +kernel
theorem dX2_split_30 : decode cX2_split 30 = .ok (.if_icmp .ne 5, 3) := by decide +kernel
theorem dX2_split_33 : decode cX2_split 33 = .ok (.iconst 0, 1) := by decide +kernel
theorem dX2_split_34 : decode cX2_split 34 = .ok (.ireturn, 1) := by decide +kernel
theorem dX2_split_35 : decode cX2_split 35 = .ok (.aload_n 0, 1) := by decide +kernel
theorem dX2_split_36 : decode cX2_split 36 = .ok (.getfield 15, 3) := by decide +kernel
theorem dX2_split_39 : decode cX2_split 39 = .ok (.iload_n 2, 1) := by decide +kernel
theorem dX2_split_40 : decode cX2_split 40 = .ok (.iload_n 3, 1) := by decide +kernel
theorem dX2_split_41 : decode cX2_split 41 = .ok (.invokestatic 44, 3) := by decide +kernel
theorem dX2_split_44 : decode cX2_split 44 = .ok (.iinc 2 1, 3) := by decide +kernel
theorem dX2_split_47 : decode cX2_split 47 = .ok (.goto (-40), 3) := by decide +kernel
theorem dX2_split_50 : decode cX2_split 50 = .ok (.aload_n 0, 1) := by decide +kernel
theorem dX2_split_51 : decode cX2_split 51 = .ok (.getfield 9, 3) := by decide +kernel
theorem dX2_split_54 : decode cX2_split 54 = .ok (.astore_n 2, 1) := by decide +kernel
theorem dX2_split_55 : decode cX2_split 55 = .ok (.aload_n 0, 1) := by decide +kernel
theorem dX2_split_56 : decode cX2_split 56 = .ok (.aload_n 0, 1) := by decide +kernel
theorem dX2_split_57 : decode cX2_split 57 = .ok (.getfield 15, 3) := by decide +kernel
theorem dX2_split_60 : decode cX2_split 60 = .ok (.putfield 9, 3) := by decide +kernel
theorem dX2_split_63 : decode cX2_split 63 = .ok (.aload_n 0, 1) := by decide +kernel
theorem dX2_split_64 : decode cX2_split 64 = .ok (.aload_n 2, 1) := by decide +kernel
theorem dX2_split_65 : decode cX2_split 65 = .ok (.putfield 15, 3) := by decide +kernel
theorem dX2_split_68 : decode cX2_split 68 = .ok (.iconst 1, 1) := by decide +kernel
theorem dX2_split_69 : decode cX2_split 69 = .ok (.ireturn, 1) := by decide +kernel
theorem dX2_markOf_0 : decode cX2_markOf 0 = .ok (.aload_n 0, 1) := by decide +kernel
theorem dX2_markOf_1 : decode cX2_markOf 1 = .ok (.getfield 9, 3) := by decide +kernel
theorem dX2_markOf_4 : decode cX2_markOf 4 = .ok (.iload_n 2, 1) := by decide +kernel
theorem dX2_markOf_5 : decode cX2_markOf 5 = .ok (.invokestatic 60, 3) := by decide +kernel
theorem dX2_markOf_8 : decode cX2_markOf 8 = .ok (.istore_n 3, 1) := by decide +kernel
theorem dX2_markOf_9 : decode cX2_markOf 9 = .ok (.iconst 0, 1) := by decide +kernel
theorem dX2_markOf_10 : decode cX2_markOf 10 = .ok (.istore 4, 2) := by decide +kernel
theorem dX2_markOf_12 : decode cX2_markOf 12 = .ok (.iload 4, 2) := by decide +kernel
theorem dX2_markOf_14 : decode cX2_markOf 14 = .ok (.iconst 4, 1) := by decide +kernel
theorem dX2_markOf_15 : decode cX2_markOf 15 = .ok (.if_icmp .ge 29, 3) := by decide +kernel
theorem dX2_markOf_18 : decode cX2_markOf 18 = .ok (.iload_n 3, 1) := by decide +kernel
theorem dX2_markOf_19 : decode cX2_markOf 19 = .ok (.bipush 6, 2) := by decide +kernel
theorem dX2_markOf_21 : decode cX2_markOf 21 = .ok (.ishl, 1) := by decide +kernel
theorem dX2_markOf_22 : decode cX2_markOf 22 = .ok (.aload_n 0, 1) := by decide +kernel
theorem dX2_markOf_23 : decode cX2_markOf 23 = .ok (.getfield 9, 3) := by decide +kernel
theorem dX2_markOf_26 : decode cX2_markOf 26 = .ok (.aload_n 1, 1) := by decide +kernel
theorem dX2_markOf_27 : decode cX2_markOf 27 = .ok (.iload_n 2, 1) := by decide +kernel
theorem dX2_markOf_28 : decode cX2_markOf 28 = .ok (.iload 4, 2) := by decide +kernel
theorem dX2_markOf_30 : decode cX2_markOf 30 = .ok (.invokevirtual 64, 3) := by decide +kernel
theorem dX2_markOf_33 : decode cX2_markOf 33 = .ok (.invokestatic 60, 3) := by decide +kernel
theorem dX2_markOf_36 : decode cX2_markOf 36 = .ok (.ior, 1) := by decide +kernel
theorem dX2_markOf_37 : decode cX2_markOf 37 = .ok (.istore_n 3, 1) := by decide +kernel
theorem dX2_markOf_38 : decode cX2_markOf 38 = .ok (.iinc 4 1, 3) := by decide +kernel
theorem dX2_markOf_41 : decode cX2_markOf 41 = .ok (.goto (-29), 3) := by decide +kernel
theorem dX2_markOf_44 : decode cX2_markOf 44 = .ok (.iload_n 3, 1) := by decide +kernel
theorem dX2_markOf_45 : decode cX2_markOf 45 = .ok (.ireturn, 1) := by decide +kernel
theorem dX2_groupOfMark_0 : decode cX2_groupOfMark 0 = .ok (.iconst 0, 1) := by decide +kernel
theorem dX2_groupOfMark_1 : decode cX2_groupOfMark 1 = .ok (.istore_n 3, 1) := by decide +kernel
theorem dX2_groupOfMark_2 : decode cX2_groupOfMark 2 = .ok (.iload_n 3, 1) := by decide +kernel
theorem dX2_groupOfMark_3 : decode cX2_groupOfMark 3 = .ok (.aload_n 0, 1) := by decide +kernel
theorem dX2_groupOfMark_4 : decode cX2_groupOfMark 4 = .ok (.getfield 30, 3) := by decide +kernel
theorem dX2_groupOfMark_7 : decode cX2_groupOfMark 7 = .ok (.if_icmp .ge 23, 3) := by decide +kernel
theorem dX2_groupOfMark_10 : decode cX2_groupOfMark 10 = .ok (.aload_n 0, 1) := by decide +kernel
theorem dX2_groupOfMark_11 : decode cX2_groupOfMark 11 = .ok (.getfield 18, 3) := by decide +kernel
theorem dX2_groupOfMark_14 : decode cX2_groupOfMark 14 = .ok (.iload_n 3, 1) := by decide +kernel
theorem dX2_groupOfMark_15 : decode cX2_groupOfMark 15 = .ok (.invokestatic 60, 3) := by decide +kernel
theorem dX2_groupOfMark_18 : decode cX2_groupOfMark 18 = .ok (.iload_n 1, 1) := by decide +kernel
theorem dX2_groupOfMark_19 : decode cX2_groupOfMark 19 = .ok (.if_icmp .ne 5, 3) := by decide +kernel
theorem dX2_groupOfMark_22 : decode cX2_groupOfMark 22 = .ok (.iload_n 3, 1) := by decide +kernel
theorem dX2_groupOfMark_23 : decode cX2_groupOfMark 23 = .ok (.ireturn, 1) := by decide +kernel
theorem dX2_groupOfMark_24 : decode cX2_groupOfMark 24 = .ok (.iinc 3 1, 3) := by decide +kernel
theorem dX2_groupOfMark_27 : decode cX2_groupOfMark 27 = .ok (.goto (-25), 3) := by decide +kernel
theorem dX2_groupOfMark_30 : decode cX2_groupOfMark 30 = .ok (.aload_n 0, 1) := by decide +kernel
theorem dX2_groupOfMark_31 : decode cX2_groupOfMark 31 = .ok (.getfield 30, 3) := by decide +kernel
theorem dX2_groupOfMark_34 : decode cX2_groupOfMark 34 = .ok (.bipush 60, 2) := by decide +kernel
theorem dX2_groupOfMark_36 : decode cX2_groupOfMark 36 = .ok (.if_icmp .lt 6, 3) := by decide +kernel
theorem dX2_groupOfMark_39 : decode cX2_groupOfMark 39 = .ok (.bipush (-9), 2) := by decide +kernel
theorem dX2_groupOfMark_41 : decode cX2_groupOfMark 41 = .ok (.ireturn, 1) := by decide +kernel
theorem dX2_groupOfMark_42 : decode cX2_groupOfMark 42 = .ok (.aload_n 0, 1) := by decide +kernel
theorem dX2_groupOfMark_43 : decode cX2_groupOfMark 43 = .ok (.getfield 18, 3) := by decide +kernel
theorem dX2_groupOfMark_46 : decode cX2_groupOfMark 46 = .ok (.aload_n 0, 1) := by decide +kernel
theorem dX2_groupOfMark_47 : decode cX2_groupOfMark 47 = .ok (.getfield 30, 3) := by decide +kernel
theorem dX2_groupOfMark_50 : decode cX2_groupOfMark 50 = .ok (.iload_n 1, 1) := by decide +kernel
theorem dX2_groupOfMark_51 : decode cX2_groupOfMark 51 = .ok (.invokestatic 44, 3) := by decide +kernel
theorem dX2_groupOfMark_54 : decode cX2_groupOfMark 54 = .ok (.aload_n 0, 1) := by decide +kernel
theorem dX2_groupOfMark_55 : decode cX2_groupOfMark 55 = .ok (.getfield 21, 3) := by decide +kernel
theorem dX2_groupOfMark_58 : decode cX2_groupOfMark 58 = .ok (.aload_n 0, 1) := by decide +kernel
theorem dX2_groupOfMark_59 : decode cX2_groupOfMark 59 = .ok (.getfield 30, 3) := by decide +kernel
theorem dX2_groupOfMark_62 : decode cX2_groupOfMark 62 = .ok (.iload_n 2, 1) := by decide +kernel
theorem dX2_groupOfMark_63 : decode cX2_groupOfMark 63 = .ok (.invokestatic 44, 3) := by decide +kernel
theorem dX2_groupOfMark_66 : decode cX2_groupOfMark 66 = .ok (.aload_n 0, 1) := by decide +kernel
theorem dX2_groupOfMark_67 : decode cX2_groupOfMark 67 = .ok (.dup, 1) := by decide +kernel
theorem dX2_groupOfMark_68 : decode cX2_groupOfMark 68 = .ok (.getfield 30, 3) := by decide +kernel
theorem dX2_groupOfMark_71 : decode cX2_groupOfMark 71 = .ok (.iconst 1, 1) := by decide +kernel
theorem dX2_groupOfMark_72 : decode cX2_groupOfMark 72 = .ok (.iadd, 1) := by decide +kernel
theorem dX2_groupOfMark_73 : decode cX2_groupOfMark 73 = .ok (.putfield 30, 3) := by decide +kernel
theorem dX2_groupOfMark_76 : decode cX2_groupOfMark 76 = .ok (.aload_n 0, 1) := by decide +kernel
theorem dX2_groupOfMark_77 : decode cX2_groupOfMark 77 = .ok (.getfield 30, 3) := by decide +kernel
theorem dX2_groupOfMark_80 : decode cX2_groupOfMark 80 = .ok (.iconst 1, 1) := by decide +kernel
theorem dX2_groupOfMark_81 : decode cX2_groupOfMark 81 = .ok (.isub, 1) := by decide +kernel
theorem dX2_groupOfMark_82 : decode cX2_groupOfMark 82 = .ok (.ireturn, 1) := by decide +kernel
theorem dX2_putInto_0 : decode cX2_putInto 0 = .ok (.iconst 0, 1) := by decide +kernel
theorem dX2_putInto_1 : decode cX2_putInto 1 = .ok (.istore_n 3, 1) := by decide +kernel
theorem dX2_putInto_2 : decode cX2_putInto 2 = .ok (.iload_n 3, 1) := by decide +kernel
theorem dX2_putInto_3 : decode cX2_putInto 3 = .ok (.aload_n 0, 1) := by decide +kernel
theorem dX2_putInto_4 : decode cX2_putInto 4 = .ok (.getfield 30, 3) := by decide +kernel
theorem dX2_putInto_7 : decode cX2_putInto 7 = .ok (.if_icmp .ge 19, 3) := by decide +kernel
theorem dX2_putInto_10 : decode cX2_putInto 10 = .ok (.aload_n 0, 1) := by decide +kernel
theorem dX2_putInto_11 : decode cX2_putInto 11 = .ok (.getfield 24, 3) := by decide +kernel
theorem dX2_putInto_14 : decode cX2_putInto 14 = .ok (.iload_n 3, 1) := by decide +kernel
theorem dX2_putInto_15 : decode cX2_putInto 15 = .ok (.bipush (-9), 2) := by decide +kernel
theorem dX2_putInto_17 : decode cX2_putInto 17 = .ok (.invokestatic 44, 3) := by decide +kernel
theorem dX2_putInto_20 : decode cX2_putInto 20 = .ok (.iinc 3 1, 3) := by decide +kernel
theorem dX2_putInto_23 : decode cX2_putInto 23 = .ok (.goto (-21), 3) := by decide +kernel
theorem dX2_putInto_26 : decode cX2_putInto 26 = .ok (.aload_n 1, 1) := by decide +kernel
theorem dX2_putInto_27 : decode cX2_putInto 27 = .ok (.invokevirtual 67, 3) := by decide +kernel
theorem dX2_putInto_30 : decode cX2_putInto 30 = .ok (.aload_n 0, 1) := by decide +kernel
theorem dX2_putInto_31 : decode cX2_putInto 31 = .ok (.aload_n 1, 1) := by decide +kernel
theorem dX2_putInto_32 : decode cX2_putInto 32 = .ok (.aload_n 2, 1) := by decide +kernel
theorem dX2_putInto_33 : decode cX2_putInto 33 = .ok (.aload_n 0, 1) := by decide +kernel
theorem dX2_putInto_34 : decode cX2_putInto 34 = .ok (.getfield 9, 3) := by decide +kernel
theorem dX2_putInto_37 : decode cX2_putInto 37 = .ok (.iconst 0, 1) := by decide +kernel
theorem dX2_putInto_38 : decode cX2_putInto 38 = .ok (.invokestatic 60, 3) := by decide +kernel
theorem dX2_putInto_41 : decode cX2_putInto 41 = .ok (.invokevirtual 72, 3) := by decide +kernel
theorem dX2_putInto_44 : decode cX2_putInto 44 = .ok (.pop, 1) := by decide +kernel
theorem dX2_putInto_45 : decode cX2_putInto 45 = .ok (.iconst 0, 1) := by decide +kernel
theorem dX2_putInto_46 : decode cX2_putInto 46 = .ok (.istore_n 3, 1) := by decide +kernel
theorem dX2_putInto_47 : decode cX2_putInto 47 = .ok (.iload_n 3, 1) := by decide +kernel
theorem dX2_putInto_48 : decode cX2_putInto 48 = .ok (.aload_n 1, 1) := by decide +kernel
theorem dX2_putInto_49 : decode cX2_putInto 49 = .ok (.invokevirtual 76, 3) := by decide +kernel
theorem dX2_putInto_52 : decode cX2_putInto 52 = .ok (.if_icmp .ge 79, 3) := by decide +kernel
theorem dX2_putInto_55 : decode cX2_putInto 55 = .ok (.iload_n 3, 1) := by decide +kernel
theorem dX2_putInto_56 : decode cX2_putInto 56 = .ok (.bipush 60, 2) := by decide +kernel
theorem dX2_putInto_58 : decode cX2_putInto 58 = .ok (.if_icmp .ge 73, 3) := by decide +kernel
theorem dX2_putInto_61 : decode cX2_putInto 61 = .ok (.aload_n 0, 1) := by decide +kernel
theorem dX2_putInto_62 : decode cX2_putInto 62 = .ok (.getfield 21, 3) := by decide +kernel
theorem dX2_putInto_65 : decode cX2_putInto 65 = .ok (.aload_n 0, 1) := by decide +kernel
theorem dX2_putInto_66 : decode cX2_putInto 66 = .ok (.getfield 27, 3) := by decide +kernel
theorem dX2_putInto_69 : decode cX2_putInto 69 = .ok (.iload_n 3, 1) := by decide +kernel
theorem dX2_putInto_70 : decode cX2_putInto 70 = .ok (.invokestatic 60, 3) := by decide +kernel
theorem dX2_putInto_73 : decode cX2_putInto 73 = .ok (.invokestatic 60, 3) := by decide +kernel
theorem dX2_putInto_76 : decode cX2_putInto 76 = .ok (.istore 4, 2) := by decide +kernel
theorem dX2_putInto_78 : decode cX2_putInto 78 = .ok (.iconst 0, 1) := by decide +kernel
theorem dX2_putInto_79 : decode cX2_putInto 79 = .ok (.istore 5, 2) := by decide +kernel
theorem dX2_putInto_81 : decode cX2_putInto 81 = .ok (.iload 5, 2) := by decide +kernel
theorem dX2_putInto_83 : decode cX2_putInto 83 = .ok (.iconst 4, 1) := by decide +kernel
theorem dX2_putInto_84 : decode cX2_putInto 84 = .ok (.if_icmp .ge 41, 3) := by decide +kernel
theorem dX2_putInto_87 : decode cX2_putInto 87 = .ok (.aload_n 0, 1) := by decide +kernel
theorem dX2_putInto_88 : decode cX2_putInto 88 = .ok (.getfield 9, 3) := by decide +kernel
theorem dX2_putInto_91 : decode cX2_putInto 91 = .ok (.aload_n 2, 1) := by decide +kernel
theorem dX2_putInto_92 : decode cX2_putInto 92 = .ok (.iload 4, 2) := by decide +kernel
theorem dX2_putInto_94 : decode cX2_putInto 94 = .ok (.iload 5, 2) := by decide +kernel
theorem dX2_putInto_96 : decode cX2_putInto 96 = .ok (.invokevirtual 64, 3) := by decide +kernel
theorem dX2_putInto_99 : decode cX2_putInto 99 = .ok (.invokestatic 60, 3) := by decide +kernel
theorem dX2_putInto_102 : decode cX2_putInto 102 = .ok (.istore 6, 2) := by decide +kernel
theorem dX2_putInto_104 : decode cX2_putInto 104 = .ok (.aload_n 1, 1) := by decide +kernel
theorem dX2_putInto_105 : decode cX2_putInto 105 = .ok (.iload_n 3, 1) := by decide +kernel
theorem dX2_putInto_106 : decode cX2_putInto 106 = .ok (.iload 5, 2) := by decide +kernel
theorem dX2_putInto_108 : decode cX2_putInto 108 = .ok (.aload_n 0, 1) := by decide +kernel
theorem dX2_putInto_109 : decode cX2_putInto 109 = .ok (.aload_n 1, 1) := by decide +kernel
theorem dX2_putInto_110 : decode cX2_putInto 110 = .ok (.aload_n 2, 1) := by decide +kernel
theorem dX2_putInto_111 : decode cX2_putInto 111 = .ok (.iload 6, 2) := by decide +kernel
theorem dX2_putInto_113 : decode cX2_putInto 113 = .ok (.invokevirtual 72, 3) := by decide +kernel
theorem dX2_putInto_116 : decode cX2_putInto 116 = .ok (.invokevirtual 77, 3) := by decide +kernel
theorem dX2_putInto_119 : decode cX2_putInto 119 = .ok (.iinc 5 1, 3) := by decide +kernel
theorem dX2_putInto_122 : decode cX2_putInto 122 = .ok (.goto (-41), 3) := by decide +kernel
theorem dX2_putInto_125 : decode cX2_putInto 125 = .ok (.iinc 3 1, 3) := by decide +kernel
theorem dX2_putInto_128 : decode cX2_putInto 128 = .ok (.goto (-81), 3) := by decide +kernel
theorem dX2_putInto_131 : decode cX2_putInto 131 = .ok (.aload_n 1, 1) := by decide +kernel
theorem dX2_putInto_132 : decode cX2_putInto 132 = .ok (.invokevirtual 81, 3) := by decide +kernel
theorem dX2_putInto_135 : decode cX2_putInto 135 = .ok (.return_, 1) := by decide +kernel
theorem dX2_meet_0 : decode cX2_meet 0 = .ok (.aload_n 0, 1) := by decide +kernel
theorem dX2_meet_1 : decode cX2_meet 1 = .ok (.getfield 24, 3) := by decide +kernel
theorem dX2_meet_4 : decode cX2_meet 4 = .ok (.iload_n 3, 1) := by decide +kernel
theorem dX2_meet_5 : decode cX2_meet 5 = .ok (.invokestatic 60, 3) := by decide +kernel
theorem dX2_meet_8 : decode cX2_meet 8 = .ok (.istore 4, 2) := by decide +kernel
theorem dX2_meet_10 : decode cX2_meet 10 = .ok (.iload 4, 2) := by decide +kernel
theorem dX2_meet_12 : decode cX2_meet 12 = .ok (.bipush (-9), 2) := by decide +kernel
theorem dX2_meet_14 : decode cX2_meet 14 = .ok (.if_icmp .ne 41, 3) := by decide +kernel
theorem dX2_meet_17 : decode cX2_meet 17 = .ok (.aload_n 1, 1) := by decide +kernel
theorem dX2_meet_18 : decode cX2_meet 18 = .ok (.aload_n 2, 1) := by decide +kernel
theorem dX2_meet_19 : decode cX2_meet 19 = .ok (.aload_n 0, 1) := by decide +kernel
theorem dX2_meet_20 : decode cX2_meet 20 = .ok (.getfield 21, 3) := by decide +kernel
theorem dX2_meet_23 : decode cX2_meet 23 = .ok (.iload_n 3, 1) := by decide +kernel
theorem dX2_meet_24 : decode cX2_meet 24 = .ok (.invokestatic 60, 3) := by decide +kernel
theorem dX2_meet_27 : decode cX2_meet 27 = .ok (.invokevirtual 40, 3) := by decide +kernel
theorem dX2_meet_30 : decode cX2_meet 30 = .ok (.invokevirtual 84, 3) := by decide +kernel
theorem dX2_meet_33 : decode cX2_meet 33 = .ok (.istore 4, 2) := by decide +kernel
theorem dX2_meet_35 : decode cX2_meet 35 = .ok (.aload_n 0, 1) := by decide +kernel
theorem dX2_meet_36 : decode cX2_meet 36 = .ok (.getfield 24, 3) := by decide +kernel
theorem dX2_meet_39 : decode cX2_meet 39 = .ok (.iload_n 3, 1) := by decide +kernel
theorem dX2_meet_40 : decode cX2_meet 40 = .ok (.iload 4, 2) := by decide +kernel
theorem dX2_meet_42 : decode cX2_meet 42 = .ok (.invokestatic 44, 3) := by decide +kernel
theorem dX2_meet_45 : decode cX2_meet 45 = .ok (.aload_n 0, 1) := by decide +kernel
theorem dX2_meet_46 : decode cX2_meet 46 = .ok (.getfield 27, 3) := by decide +kernel
theorem dX2_meet_49 : decode cX2_meet 49 = .ok (.iload 4, 2) := by decide +kernel
theorem dX2_meet_51 : decode cX2_meet 51 = .ok (.iload_n 3, 1) := by decide +kernel
theorem dX2_meet_52 : decode cX2_meet 52 = .ok (.invokestatic 44, 3) := by decide +kernel
theorem dX2_meet_55 : decode cX2_meet 55 = .ok (.iload 4, 2) := by decide +kernel
theorem dX2_meet_57 : decode cX2_meet 57 = .ok (.ireturn, 1) := by decide +kernel
theorem dX3_init_0 : decode cX3_init 0 = .ok (.aload_n 0, 1) := by decide +kernel
theorem dX3_init_1 : decode cX3_init 1 = .ok (.invokespecial 3, 3) := by decide +kernel
theorem dX3_init_4 : decode cX3_init 4 = .ok (.aload_n 0, 1) := by decide +kernel
theorem dX3_init_5 : decode cX3_init 5 = .ok (.sipush 3600, 3) := by decide +kernel
theorem dX3_init_8 : decode cX3_init 8 = .ok (.newarray .int, 2) := by decide +kernel
theorem dX3_init_10 : decode cX3_init 10 = .ok (.putfield 9, 3) := by decide +kernel
theorem dX3_init_13 : decode cX3_init 13 = .ok (.aload_n 0, 1) := by decide +kernel
theorem dX3_init_14 : decode cX3_init 14 = .ok (.sipush 3600, 3) := by decide +kernel
theorem dX3_init_17 : decode cX3_init 17 = .ok (.newarray .int, 2) := by decide +kernel
theorem dX3_init_19 : decode cX3_init 19 = .ok (.putfield 15, 3) := by decide +kernel
theorem dX3_init_22 : decode cX3_init 22 = .ok (.aload_n 0, 1) := by decide +kernel
theorem dX3_init_23 : decode cX3_init 23 = .ok (.iconst 0, 1) := by decide +kernel
theorem dX3_init_24 : decode cX3_init 24 = .ok (.putfield 18, 3) := by decide +kernel
theorem dX3_init_27 : decode cX3_init 27 = .ok (.aload_n 0, 1) := by decide +kernel
theorem dX3_init_28 : decode cX3_init 28 = .ok (.iconst 0, 1) := by decide +kernel
theorem dX3_init_29 : decode cX3_init 29 = .ok (.putfield 22, 3) := by decide +kernel
theorem dX3_init_32 : decode cX3_init 32 = .ok (.aload_n 0, 1) := by decide +kernel
theorem dX3_init_33 : decode cX3_init 33 = .ok (.iconst 0, 1) := by decide +kernel
theorem dX3_init_34 : decode cX3_init 34 = .ok (.putfield 26, 3) := by decide +kernel
theorem dX3_init_37 : decode cX3_init 37 = .ok (.aload_n 0, 1) := by decide +kernel
theorem dX3_init_38 : decode cX3_init 38 = .ok (.iconst 0, 1) := by decide +kernel
theorem dX3_init_39 : decode cX3_init 39 = .ok (.putfield 29, 3) := by decide +kernel
theorem dX3_init_42 : decode cX3_init 42 = .ok (.aload_n 0, 1) := by decide +kernel
theorem dX3_init_43 : decode cX3_init 43 = .ok (.bipush (-9), 2) := by decide +kernel
theorem dX3_init_45 : decode cX3_init 45 = .ok (.putfield 32, 3) := by decide +kernel
theorem dX3_init_48 : decode cX3_init 48 = .ok (.return_, 1) := by decide +kernel
theorem dX3_meet_0 : decode cX3_meet 0 = .ok (.iconst 0, 1) := by decide +kernel
theorem dX3_meet_1 : decode cX3_meet 1 = .ok (.istore_n 3, 1) := by decide +kernel
theorem dX3_meet_2 : decode cX3_meet 2 = .ok (.iload_n 3, 1) := by decide +kernel
theorem dX3_meet_3 : decode cX3_meet 3 = .ok (.aload_n 1, 1) := by decide +kernel
theorem dX3_meet_4 : decode cX3_meet 4 = .ok (.invokevirtual 35, 3) := by decide +kernel
theorem dX3_meet_7 : decode cX3_meet 7 = .ok (.bipush 60, 2) := by decide +kernel
theorem dX3_meet_9 : decode cX3_meet 9 = .ok (.imul, 1) := by decide +kernel
theorem dX3_meet_10 : decode cX3_meet 10 = .ok (.if_icmp .ge 19, 3) := by decide +kernel
theorem dX3_meet_13 : decode cX3_meet 13 = .ok (.aload_n 0, 1) := by decide +kernel
theorem dX3_meet_14 : decode cX3_meet 14 = .ok (.getfield 9, 3) := by decide +kernel
theorem dX3_meet_17 : decode cX3_meet 17 = .ok (.iload_n 3, 1) := by decide +kernel
theorem dX3_meet_18 : decode cX3_meet 18 = .ok (.bipush (-9), 2) := by decide +kernel
theorem dX3_meet_20 : decode cX3_meet 20 = .ok (.invokestatic 41, 3) := by decide +kernel
theorem dX3_meet_23 : decode cX3_meet 23 = .ok (.iinc 3 1, 3) := by decide +kernel
theorem dX3_meet_26 : decode cX3_meet 26 = .ok (.goto (-24), 3) := by decide +kernel
theorem dX3_meet_29 : decode cX3_meet 29 = .ok (.aload_n 0, 1) := by decide +kernel
theorem dX3_meet_30 : decode cX3_meet 30 = .ok (.iconst 0, 1) := by decide +kernel
theorem dX3_meet_31 : decode cX3_meet 31 = .ok (.putfield 18, 3) := by decide +kernel
theorem dX3_meet_34 : decode cX3_meet 34 = .ok (.aload_n 0, 1) := by decide +kernel
theorem dX3_meet_35 : decode cX3_meet 35 = .ok (.iconst 0, 1) := by decide +kernel
theorem dX3_meet_36 : decode cX3_meet 36 = .ok (.putfield 22, 3) := by decide +kernel
theorem dX3_meet_39 : decode cX3_meet 39 = .ok (.aload_n 0, 1) := by decide +kernel
theorem dX3_meet_40 : decode cX3_meet 40 = .ok (.iconst 0, 1) := by decide +kernel
theorem dX3_meet_41 : decode cX3_meet 41 = .ok (.putfield 26, 3) := by decide +kernel
theorem dX3_meet_44 : decode cX3_meet 44 = .ok (.aload_n 0, 1) := by decide +kernel
theorem dX3_meet_45 : decode cX3_meet 45 = .ok (.iconst 0, 1) := by decide +kernel
theorem dX3_meet_46 : decode cX3_meet 46 = .ok (.putfield 29, 3) := by decide +kernel
theorem dX3_meet_49 : decode cX3_meet 49 = .ok (.aload_n 0, 1) := by decide +kernel
theorem dX3_meet_50 : decode cX3_meet 50 = .ok (.bipush (-9), 2) := by decide +kernel
theorem dX3_meet_52 : decode cX3_meet 52 = .ok (.putfield 32, 3) := by decide +kernel
theorem dX3_meet_55 : decode cX3_meet 55 = .ok (.aload_n 0, 1) := by decide +kernel
theorem dX3_meet_56 : decode cX3_meet 56 = .ok (.aload_n 1, 1) := by decide +kernel
theorem dX3_meet_57 : decode cX3_meet 57 = .ok (.aload_n 2, 1) := by decide +kernel
theorem dX3_meet_58 : decode cX3_meet 58 = .ok (.iconst 0, 1) := by decide +kernel
theorem dX3_meet_59 : decode cX3_meet 59 = .ok (.iconst 1, 1) := by decide +kernel
theorem dX3_meet_60 : decode cX3_meet 60 = .ok (.invokevirtual 45, 3) := by decide +kernel
theorem dX3_meet_63 : decode cX3_meet 63 = .ok (.iconst 0, 1) := by decide +kernel
theorem dX3_meet_64 : decode cX3_meet 64 = .ok (.istore_n 3, 1) := by decide +kernel
theorem dX3_meet_65 : decode cX3_meet 65 = .ok (.iload_n 3, 1) := by decide +kernel
theorem dX3_meet_66 : decode cX3_meet 66 = .ok (.aload_n 0, 1) := by decide +kernel
theorem dX3_meet_67 : decode cX3_meet 67 = .ok (.getfield 18, 3) := by decide +kernel
theorem dX3_meet_70 : decode cX3_meet 70 = .ok (.if_icmp .ge 47, 3) := by decide +kernel
theorem dX3_meet_73 : decode cX3_meet 73 = .ok (.iload_n 3, 1) := by decide +kernel
theorem dX3_meet_74 : decode cX3_meet 74 = .ok (.aload_n 0, 1) := by decide +kernel
theorem dX3_meet_75 : decode cX3_meet 75 = .ok (.getfield 15, 3) := by decide +kernel
theorem dX3_meet_78 : decode cX3_meet 78 = .ok (.arraylength, 1) := by decide +kernel
theorem dX3_meet_79 : decode cX3_meet 79 = .ok (.if_icmp .ge 38, 3) := by decide +kernel
theorem dX3_meet_82 : decode cX3_meet 82 = .ok (.aload_n 0, 1) := by decide +kernel
theorem dX3_meet_83 : decode cX3_meet 83 = .ok (.getfield 15, 3) := by decide +kernel
theorem dX3_meet_86 : decode cX3_meet 86 = .ok (.iload_n 3, 1) := by decide +kernel
theorem dX3_meet_87 : decode cX3_meet 87 = .ok (.invokestatic 49, 3) := by decide +kernel
theorem dX3_meet_90 : decode cX3_meet 90 = .ok (.istore 4, 2) := by decide +kernel
theorem dX3_meet_92 : decode cX3_meet 92 = .ok (.aload_n 0, 1) := by decide +kernel
theorem dX3_meet_93 : decode cX3_meet 93 = .ok (.aload_n 1, 1) := by decide +kernel
theorem dX3_meet_94 : decode cX3_meet 94 = .ok (.aload_n 2, 1) := by decide +kernel
theorem dX3_meet_95 : decode cX3_meet 95 = .ok (.iload 4, 2) := by decide +kernel
theorem dX3_meet_97 : decode cX3_meet 97 = .ok (.aload_n 0, 1) := by decide +kernel
theorem dX3_meet_98 : decode cX3_meet 98 = .ok (.getfield 9, 3) := by decide +kernel
theorem dX3_meet_101 : decode cX3_meet 101 = .ok (.iload 4, 2) := by decide +kernel
theorem dX3_meet_103 : decode cX3_meet 103 = .ok (.invokestatic 49, 3) := by decide +kernel
theorem dX3_meet_106 : decode cX3_meet 106 = .ok (.iconst 1, 1) := by decide +kernel
theorem dX3_meet_107 : decode cX3_meet 107 = .ok (.iadd, 1) := by decide +kernel
theorem dX3_meet_108 : decode cX3_meet 108 = .ok (.invokevirtual 45, 3) := by decide +kernel
theorem dX3_meet_111 : decode cX3_meet 111 = .ok (.iinc 3 1, 3) := by decide +kernel
theorem dX3_meet_114 : decode cX3_meet 114 = .ok (.goto (-49), 3) := by decide +kernel
theorem dX3_meet_117 : decode cX3_meet 117 = .ok (.return_, 1) := by decide +kernel
theorem dX3_walk_0 : decode cX3_walk 0 = .ok (.iconst 0, 1) := by decide +kernel
theorem dX3_walk_1 : decode cX3_walk 1 = .ok (.istore 5, 2) := by decide +kernel
theorem dX3_walk_3 : decode cX3_walk 3 = .ok (.iload 5, 2) := by decide +kernel
theorem dX3_walk_5 : decode cX3_walk 5 = .ok (.iconst 4, 1) := by decide +kernel
theorem dX3_walk_6 : decode cX3_walk 6 = .ok (.if_icmp .ge 109, 3) := by decide +kernel
theorem dX3_walk_9 : decode cX3_walk 9 = .ok (.aload_n 1, 1) := by decide +kernel
theorem dX3_walk_10 : decode cX3_walk 10 = .ok (.iload_n 3, 1) := by decide +kernel
theorem dX3_walk_11 : decode cX3_walk 11 = .ok (.bipush 60, 2) := by decide +kernel
theorem dX3_walk_13 : decode cX3_walk 13 = .ok (.idiv, 1) := by decide +kernel
theorem dX3_walk_14 : decode cX3_walk 14 = .ok (.iload 5, 2) := by decide +kernel
theorem dX3_walk_16 : decode cX3_walk 16 = .ok (.invokevirtual 53, 3) := by decide +kernel
theorem dX3_walk_19 : decode cX3_walk 19 = .ok (.istore 6, 2) := by decide +kernel
theorem dX3_walk_21 : decode cX3_walk 21 = .ok (.aload_n 2, 1) := by decide +kernel
theorem dX3_walk_22 : decode cX3_walk 22 = .ok (.iload_n 3, 1) := by decide +kernel
theorem dX3_walk_23 : decode cX3_walk 23 = .ok (.bipush 60, 2) := by decide +kernel
theorem dX3_walk_25 : decode cX3_walk 25 = .ok (.irem, 1) := by decide +kernel
theorem dX3_walk_26 : decode cX3_walk 26 = .ok (.iload 5, 2) := by decide +kernel
theorem dX3_walk_28 : decode cX3_walk 28 = .ok (.invokevirtual 53, 3) := by decide +kernel
theorem dX3_walk_31 : decode cX3_walk 31 = .ok (.istore 7, 2) := by decide +kernel
theorem dX3_walk_33 : decode cX3_walk 33 = .ok (.iload 6, 2) := by decide +kernel
theorem dX3_walk_35 : decode cX3_walk 35 = .ok (.bipush 60, 2) := by decide +kernel
theorem dX3_walk_37 : decode cX3_walk 37 = .ok (.imul, 1) := by decide +kernel
theorem dX3_walk_38 : decode cX3_walk 38 = .ok (.iload 7, 2) := by decide +kernel
theorem dX3_walk_40 : decode cX3_walk 40 = .ok (.iadd, 1) := by decide +kernel
theorem dX3_walk_41 : decode cX3_walk 41 = .ok (.istore 8, 2) := by decide +kernel
theorem dX3_walk_43 : decode cX3_walk 43 = .ok (.aload_n 0, 1) := by decide +kernel
theorem dX3_walk_44 : decode cX3_walk 44 = .ok (.getfield 9, 3) := by decide +kernel
theorem dX3_walk_47 : decode cX3_walk 47 = .ok (.iload 8, 2) := by decide +kernel
theorem dX3_walk_49 : decode cX3_walk 49 = .ok (.invokestatic 49, 3) := by decide +kernel
theorem dX3_walk_52 : decode cX3_walk 52 = .ok (.bipush (-9), 2) := by decide +kernel
theorem dX3_walk_54 : decode cX3_walk 54 = .ok (.if_icmp .ne 55, 3) := by decide +kernel
theorem dX3_walk_57 : decode cX3_walk 57 = .ok (.aload_n 0, 1) := by decide +kernel
theorem dX3_walk_58 : decode cX3_walk 58 = .ok (.getfield 9, 3) := by decide +kernel
theorem dX3_walk_61 : decode cX3_walk 61 = .ok (.iload 8, 2) := by decide +kernel
theorem dX3_walk_63 : decode cX3_walk 63 = .ok (.iload 4, 2) := by decide +kernel
theorem dX3_walk_65 : decode cX3_walk 65 = .ok (.invokestatic 41, 3) := by decide +kernel
theorem dX3_walk_68 : decode cX3_walk 68 = .ok (.aload_n 0, 1) := by decide +kernel
theorem dX3_walk_69 : decode cX3_walk 69 = .ok (.getfield 15, 3) := by decide +kernel
theorem dX3_walk_72 : decode cX3_walk 72 = .ok (.aload_n 0, 1) := by decide +kernel
theorem dX3_walk_73 : decode cX3_walk 73 = .ok (.getfield 18, 3) := by decide +kernel
theorem dX3_walk_76 : decode cX3_walk 76 = .ok (.iload 8, 2) := by decide +kernel
theorem dX3_walk_78 : decode cX3_walk 78 = .ok (.invokestatic 41, 3) := by decide +kernel
theorem dX3_walk_81 : decode cX3_walk 81 = .ok (.aload_n 0, 1) := by decide +kernel
theorem dX3_walk_82 : decode cX3_walk 82 = .ok (.dup, 1) := by decide +kernel
theorem dX3_walk_83 : decode cX3_walk 83 = .ok (.getfield 18, 3) := by decide +kernel
theorem dX3_walk_86 : decode cX3_walk 86 = .ok (.iconst 1, 1) := by decide +kernel
theorem dX3_walk_87 : decode cX3_walk 87 = .ok (.iadd, 1) := by decide +kernel
theorem dX3_walk_88 : decode cX3_walk 88 = .ok (.putfield 18, 3) := by decide +kernel
theorem dX3_walk_91 : decode cX3_walk 91 = .ok (.aload_n 0, 1) := by decide +kernel
theorem dX3_walk_92 : decode cX3_walk 92 = .ok (.aload_n 1, 1) := by decide +kernel
theorem dX3_walk_93 : decode cX3_walk 93 = .ok (.iload 6, 2) := by decide +kernel
theorem dX3_walk_95 : decode cX3_walk 95 = .ok (.invokevirtual 57, 3) := by decide +kernel
theorem dX3_walk_98 : decode cX3_walk 98 = .ok (.aload_n 2, 1) := by decide +kernel
theorem dX3_walk_99 : decode cX3_walk 99 = .ok (.iload 7, 2) := by decide +kernel
theorem dX3_walk_101 : decode cX3_walk 101 = .ok (.invokevirtual 57, 3) := by decide +kernel
theorem dX3_walk_104 : decode cX3_walk 104 = .ok (.iload 4, 2) := by decide +kernel
theorem dX3_walk_106 : decode cX3_walk 106 = .ok (.invokevirtual 61, 3) := by decide +kernel
theorem dX3_walk_109 : decode cX3_walk 109 = .ok (.iinc 5 1, 3) := by decide +kernel
theorem dX3_walk_112 : decode cX3_walk 112 = .ok (.goto (-109), 3) := by decide +kernel
theorem dX3_walk_115 : decode cX3_walk 115 = .ok (.return_, 1) := by decide +kernel
theorem dX3_look_0 : decode cX3_look 0 = .ok (.aload_n 0, 1) := by decide +kernel
theorem dX3_look_1 : decode cX3_look 1 = .ok (.dup, 1) := by decide +kernel
theorem dX3_look_2 : decode cX3_look 2 = .ok (.getfield 22, 3) := by decide +kernel
theorem dX3_look_5 : decode cX3_look 5 = .ok (.iload_n 1, 1) := by decide +kernel
theorem dX3_look_6 : decode cX3_look 6 = .ok (.ifCond .eq 11, 3) := by decide +kernel
theorem dX3_look_9 : decode cX3_look 9 = .ok (.iload_n 2, 1) := by decide +kernel
theorem dX3_look_10 : decode cX3_look 10 = .ok (.ifCond .eq 7, 3) := by decide +kernel
theorem dX3_look_13 : decode cX3_look 13 = .ok (.iconst 1, 1) := by decide +kernel
theorem dX3_look_14 : decode cX3_look 14 = .ok (.goto 4, 3) := by decide +kernel
theorem dX3_look_17 : decode cX3_look 17 = .ok (.iconst 0, 1) := by decide +kernel
theorem dX3_look_18 : decode cX3_look 18 = .ok (.ior, 1) := by decide +kernel
theorem dX3_look_19 : decode cX3_look 19 = .ok (.putfield 22, 3) := by decide +kernel
theorem dX3_look_22 : decode cX3_look 22 = .ok (.aload_n 0, 1) := by decide +kernel
theorem dX3_look_23 : decode cX3_look 23 = .ok (.dup, 1) := by decide +kernel
theorem dX3_look_24 : decode cX3_look 24 = .ok (.getfield 26, 3) := by decide +kernel
theorem dX3_look_27 : decode cX3_look 27 = .ok (.iload_n 1, 1) := by decide +kernel
theorem dX3_look_28 : decode cX3_look 28 = .ok (.ifCond .eq 11, 3) := by decide +kernel
theorem dX3_look_31 : decode cX3_look 31 = .ok (.iload_n 2, 1) := by decide +kernel
theorem dX3_look_32 : decode cX3_look 32 = .ok (.ifCond .ne 7, 3) := by decide +kernel
theorem dX3_look_35 : decode cX3_look 35 = .ok (.iconst 1, 1) := by decide +kernel
theorem dX3_look_36 : decode cX3_look 36 = .ok (.goto 4, 3) := by decide +kernel
theorem dX3_look_39 : decode cX3_look 39 = .ok (.iconst 0, 1) := by decide +kernel
theorem dX3_look_40 : decode cX3_look 40 = .ok (.ior, 1) := by decide +kernel
theorem dX3_look_41 : decode cX3_look 41 = .ok (.putfield 26, 3) := by decide +kernel
theorem dX3_look_44 : decode cX3_look 44 = .ok (.aload_n 0, 1) := by decide +kernel
theorem dX3_look_45 : decode cX3_look 45 = .ok (.dup, 1) := by decide +kernel
theorem dX3_look_46 : decode cX3_look 46 = .ok (.getfield 29, 3) := by decide +kernel
theorem dX3_look_49 : decode cX3_look 49 = .ok (.iload_n 2, 1) := by decide +kernel
theorem dX3_look_50 : decode cX3_look 50 = .ok (.ifCond .eq 11, 3) := by decide +kernel
theorem dX3_look_53 : decode cX3_look 53 = .ok (.iload_n 1, 1) := by decide +kernel
theorem dX3_look_54 : decode cX3_look 54 = .ok (.ifCond .ne 7, 3) := by decide +kernel
theorem dX3_look_57 : decode cX3_look 57 = .ok (.iconst 1, 1) := by decide +kernel
theorem dX3_look_58 : decode cX3_look 58 = .ok (.goto 4, 3) := by decide +kernel
theorem dX3_look_61 : decode cX3_look 61 = .ok (.iconst 0, 1) := by decide +kernel
theorem dX3_look_62 : decode cX3_look 62 = .ok (.ior, 1) := by decide +kernel
theorem dX3_look_63 : decode cX3_look 63 = .ok (.putfield 29, 3) := by decide +kernel
theorem dX3_look_66 : decode cX3_look 66 = .ok (.iload_n 1, 1) := by decide +kernel
theorem dX3_look_67 : decode cX3_look 67 = .ok (.iload_n 2, 1) := by decide +kernel
theorem dX3_look_68 : decode cX3_look 68 = .ok (.if_icmp .eq 17, 3) := by decide +kernel
theorem dX3_look_71 : decode cX3_look 71 = .ok (.aload_n 0, 1) := by decide +kernel
theorem dX3_look_72 : decode cX3_look 72 = .ok (.getfield 32, 3) := by decide +kernel
theorem dX3_look_75 : decode cX3_look 75 = .ok (.bipush (-9), 2) := by decide +kernel
theorem dX3_look_77 : decode cX3_look 77 = .ok (.if_icmp .ne 8, 3) := by decide +kernel
theorem dX3_look_80 : decode cX3_look 80 = .ok (.aload_n 0, 1) := by decide +kernel
theorem dX3_look_81 : decode cX3_look 81 = .ok (.iload_n 3, 1) := by decide +kernel
theorem dX3_look_82 : decode cX3_look 82 = .ok (.putfield 32, 3) := by decide +kernel
theorem dX3_look_85 : decode cX3_look 85 = .ok (.return_, 1) := by decide +kernel
theorem dX3_shortestApart_0 : decode cX3_shortestApart 0 = .ok (.aload_n 0, 1) := by decide +kernel
theorem dX3_shortestApart_1 : decode cX3_shortestApart 1 = .ok (.getfield 32, 3) := by decide +kernel
theorem dX3_shortestApart_4 : decode cX3_shortestApart 4 = .ok (.ireturn, 1) := by decide +kernel
theorem dX3_relation_0 : decode cX3_relation 0 = .ok (.aload_n 0, 1) := by decide +kernel
theorem dX3_relation_1 : decode cX3_relation 1 = .ok (.getfield 26, 3) := by decide +kernel
theorem dX3_relation_4 : decode cX3_relation 4 = .ok (.ifCond .ne 12, 3) := by decide +kernel
theorem dX3_relation_7 : decode cX3_relation 7 = .ok (.aload_n 0, 1) := by decide +kernel
theorem dX3_relation_8 : decode cX3_relation 8 = .ok (.getfield 29, 3) := by decide +kernel
theorem dX3_relation_11 : decode cX3_relation 11 = .ok (.ifCond .ne 5, 3) := by decide +kernel
theorem dX3_relation_14 : decode cX3_relation 14 = .ok (.iconst 1, 1) := by decide +kernel
theorem dX3_relation_15 : decode cX3_relation 15 = .ok (.ireturn, 1) := by decide +kernel
theorem dX3_relation_16 : decode cX3_relation 16 = .ok (.aload_n 0, 1) := by decide +kernel
theorem dX3_relation_17 : decode cX3_relation 17 = .ok (.getfield 22, 3) := by decide +kernel
theorem dX3_relation_20 : decode cX3_relation 20 = .ok (.ifCond .ne 5, 3) := by decide +kernel
theorem dX3_relation_23 : decode cX3_relation 23 = .ok (.iconst 2, 1) := by decide +kernel
theorem dX3_relation_24 : decode cX3_relation 24 = .ok (.ireturn, 1) := by decide +kernel
theorem dX3_relation_25 : decode cX3_relation 25 = .ok (.aload_n 0, 1) := by decide +kernel
theorem dX3_relation_26 : decode cX3_relation 26 = .ok (.getfield 26, 3) := by decide +kernel
theorem dX3_relation_29 : decode cX3_relation 29 = .ok (.ifCond .ne 5, 3) := by decide +kernel
theorem dX3_relation_32 : decode cX3_relation 32 = .ok (.iconst 3, 1) := by decide +kernel
theorem dX3_relation_33 : decode cX3_relation 33 = .ok (.ireturn, 1) := by decide +kernel
theorem dX3_relation_34 : decode cX3_relation 34 = .ok (.aload_n 0, 1) := by decide +kernel
theorem dX3_relation_35 : decode cX3_relation 35 = .ok (.getfield 29, 3) := by decide +kernel
theorem dX3_relation_38 : decode cX3_relation 38 = .ok (.ifCond .eq 7, 3) := by decide +kernel
theorem dX3_relation_41 : decode cX3_relation 41 = .ok (.iconst 0, 1) := by decide +kernel
theorem dX3_relation_42 : decode cX3_relation 42 = .ok (.goto 4, 3) := by decide +kernel
theorem dX3_relation_45 : decode cX3_relation 45 = .ok (.iconst 4, 1) := by decide +kernel
theorem dX3_relation_46 : decode cX3_relation 46 = .ok (.ireturn, 1) := by decide +kernel
theorem dX4_init_0 : decode cX4_init 0 = .ok (.aload_n 0, 1) := by decide +kernel
theorem dX4_init_1 : decode cX4_init 1 = .ok (.invokespecial 3, 3) := by decide +kernel
theorem dX4_init_4 : decode cX4_init 4 = .ok (.aload_n 0, 1) := by decide +kernel
theorem dX4_init_5 : decode cX4_init 5 = .ok (.sipush 1921, 3) := by decide +kernel
theorem dX4_init_8 : decode cX4_init 8 = .ok (.newarray .int, 2) := by decide +kernel
theorem dX4_init_10 : decode cX4_init 10 = .ok (.putfield 9, 3) := by decide +kernel
theorem dX4_init_13 : decode cX4_init 13 = .ok (.aload_n 0, 1) := by decide +kernel
theorem dX4_init_14 : decode cX4_init 14 = .ok (.sipush 7684, 3) := by decide +kernel
theorem dX4_init_17 : decode cX4_init 17 = .ok (.newarray .long, 2) := by decide +kernel
theorem dX4_init_19 : decode cX4_init 19 = .ok (.putfield 15, 3) := by decide +kernel
theorem dX4_init_22 : decode cX4_init 22 = .ok (.aload_n 0, 1) := by decide +kernel
theorem dX4_init_23 : decode cX4_init 23 = .ok (.sipush 7684, 3) := by decide +kernel
theorem dX4_init_26 : decode cX4_init 26 = .ok (.newarray .int, 2) := by decide +kernel
theorem dX4_init_28 : decode cX4_init 28 = .ok (.putfield 19, 3) := by decide +kernel
theorem dX4_init_31 : decode cX4_init 31 = .ok (.aload_n 0, 1) := by decide +kernel
theorem dX4_init_32 : decode cX4_init 32 = .ok (.sipush 1921, 3) := by decide +kernel
theorem dX4_init_35 : decode cX4_init 35 = .ok (.newarray .boolean, 2) := by decide +kernel
theorem dX4_init_37 : decode cX4_init 37 = .ok (.putfield 22, 3) := by decide +kernel
theorem dX4_init_40 : decode cX4_init 40 = .ok (.aload_n 0, 1) := by decide +kernel
theorem dX4_init_41 : decode cX4_init 41 = .ok (.sipush 256, 3) := by decide +kernel
theorem dX4_init_44 : decode cX4_init 44 = .ok (.newarray .int, 2) := by decide +kernel
theorem dX4_init_46 : decode cX4_init 46 = .ok (.putfield 26, 3) := by decide +kernel
theorem dX4_init_49 : decode cX4_init 49 = .ok (.aload_n 0, 1) := by decide +kernel
theorem dX4_init_50 : decode cX4_init 50 = .ok (.sipush 1921, 3) := by decide +kernel
theorem dX4_init_53 : decode cX4_init 53 = .ok (.newarray .int, 2) := by decide +kernel
theorem dX4_init_55 : decode cX4_init 55 = .ok (.putfield 29, 3) := by decide +kernel
theorem dX4_init_58 : decode cX4_init 58 = .ok (.aload_n 0, 1) := by decide +kernel
theorem dX4_init_59 : decode cX4_init 59 = .ok (.iconst 4, 1) := by decide +kernel
theorem dX4_init_60 : decode cX4_init 60 = .ok (.newarray .long, 2) := by decide +kernel
theorem dX4_init_62 : decode cX4_init 62 = .ok (.putfield 32, 3) := by decide +kernel
theorem dX4_init_65 : decode cX4_init 65 = .ok (.aload_n 0, 1) := by decide +kernel
theorem dX4_init_66 : decode cX4_init 66 = .ok (.iconst 0, 1) := by decide +kernel
theorem dX4_init_67 : decode cX4_init 67 = .ok (.putfield 35, 3) := by decide +kernel
theorem dX4_init_70 : decode cX4_init 70 = .ok (.aload_n 0, 1) := by decide +kernel
theorem dX4_init_71 : decode cX4_init 71 = .ok (.iconst 0, 1) := by decide +kernel
theorem dX4_init_72 : decode cX4_init 72 = .ok (.putfield 39, 3) := by decide +kernel
theorem dX4_init_75 : decode cX4_init 75 = .ok (.aload_n 0, 1) := by decide +kernel
theorem dX4_init_76 : decode cX4_init 76 = .ok (.iconst 0, 1) := by decide +kernel
theorem dX4_init_77 : decode cX4_init 77 = .ok (.putfield 42, 3) := by decide +kernel
theorem dX4_init_80 : decode cX4_init 80 = .ok (.aload_n 0, 1) := by decide +kernel
theorem dX4_init_81 : decode cX4_init 81 = .ok (.iconst 0, 1) := by decide +kernel
theorem dX4_init_82 : decode cX4_init 82 = .ok (.putfield 45, 3) := by decide +kernel
theorem dX4_init_85 : decode cX4_init 85 = .ok (.return_, 1) := by decide +kernel
theorem dX4_make_0 : decode cX4_make 0 = .ok (.aload_n 0, 1) := by decide +kernel
theorem dX4_make_1 : decode cX4_make 1 = .ok (.aload_n 1, 1) := by decide +kernel
theorem dX4_make_2 : decode cX4_make 2 = .ok (.invokevirtual 48, 3) := by decide +kernel
theorem dX4_make_5 : decode cX4_make 5 = .ok (.iconst 0, 1) := by decide +kernel
theorem dX4_make_6 : decode cX4_make 6 = .ok (.istore_n 2, 1) := by decide +kernel
theorem dX4_make_7 : decode cX4_make 7 = .ok (.iload_n 2, 1) := by decide +kernel
theorem dX4_make_8 : decode cX4_make 8 = .ok (.aload_n 0, 1) := by decide +kernel
theorem dX4_make_9 : decode cX4_make 9 = .ok (.getfield 45, 3) := by decide +kernel
theorem dX4_make_12 : decode cX4_make 12 = .ok (.if_icmp .ge 79, 3) := by decide +kernel
theorem dX4_make_15 : decode cX4_make 15 = .ok (.iload_n 2, 1) := by decide +kernel
theorem dX4_make_16 : decode cX4_make 16 = .ok (.sipush 1921, 3) := by decide +kernel
theorem dX4_make_19 : decode cX4_make 19 = .ok (.if_icmp .ge 72, 3) := by decide +kernel
theorem dX4_make_22 : decode cX4_make 22 = .ok (.iconst 0, 1) := by decide +kernel
theorem dX4_make_23 : decode cX4_make 23 = .ok (.istore_n 3, 1) := by decide +kernel
theorem dX4_make_24 : decode cX4_make 24 = .ok (.iload_n 3, 1) := by decide +kernel
theorem dX4_make_25 : decode cX4_make 25 = .ok (.iconst 4, 1) := by decide +kernel
theorem dX4_make_26 : decode cX4_make 26 = .ok (.if_icmp .ge 59, 3) := by decide +kernel
theorem dX4_make_29 : decode cX4_make 29 = .ok (.aload_n 0, 1) := by decide +kernel
theorem dX4_make_30 : decode cX4_make 30 = .ok (.aload_n 1, 1) := by decide +kernel
theorem dX4_make_31 : decode cX4_make 31 = .ok (.iload_n 2, 1) := by decide +kernel
theorem dX4_make_32 : decode cX4_make 32 = .ok (.iload_n 3, 1) := by decide +kernel
theorem dX4_make_33 : decode cX4_make 33 = .ok (.invokevirtual 52, 3) := by decide +kernel
theorem dX4_make_36 : decode cX4_make 36 = .ok (.aload_n 0, 1) := by decide +kernel
theorem dX4_make_37 : decode cX4_make 37 = .ok (.invokevirtual 56, 3) := by decide +kernel
theorem dX4_make_40 : decode cX4_make 40 = .ok (.istore 4, 2) := by decide +kernel
theorem dX4_make_42 : decode cX4_make 42 = .ok (.iload 4, 2) := by decide +kernel
theorem dX4_make_44 : decode cX4_make 44 = .ok (.bipush (-9), 2) := by decide +kernel
theorem dX4_make_46 : decode cX4_make 46 = .ok (.if_icmp .ne 10, 3) := by decide +kernel
theorem dX4_make_49 : decode cX4_make 49 = .ok (.aload_n 0, 1) := by decide +kernel
theorem dX4_make_50 : decode cX4_make 50 = .ok (.aload_n 1, 1) := by decide +kernel
theorem dX4_make_51 : decode cX4_make 51 = .ok (.invokevirtual 60, 3) := by decide +kernel
theorem dX4_make_54 : decode cX4_make 54 = .ok (.istore 4, 2) := by decide +kernel
theorem dX4_make_56 : decode cX4_make 56 = .ok (.iload 4, 2) := by decide +kernel
theorem dX4_make_58 : decode cX4_make 58 = .ok (.bipush (-9), 2) := by decide +kernel
theorem dX4_make_60 : decode cX4_make 60 = .ok (.if_icmp .ne 5, 3) := by decide +kernel
theorem dX4_make_63 : decode cX4_make 63 = .ok (.iconst 0, 1) := by decide +kernel
theorem dX4_make_64 : decode cX4_make 64 = .ok (.ireturn, 1) := by decide +kernel
theorem dX4_make_65 : decode cX4_make 65 = .ok (.aload_n 0, 1) := by decide +kernel
theorem dX4_make_66 : decode cX4_make 66 = .ok (.getfield 19, 3) := by decide +kernel
theorem dX4_make_69 : decode cX4_make 69 = .ok (.iload_n 2, 1) := by decide +kernel
theorem dX4_make_70 : decode cX4_make 70 = .ok (.iconst 4, 1) := by decide +kernel
theorem dX4_make_71 : decode cX4_make 71 = .ok (.imul, 1) := by decide +kernel
theorem dX4_make_72 : decode cX4_make 72 = .ok (.iload_n 3, 1) := by decide +kernel
theorem dX4_make_73 : decode cX4_make 73 = .ok (.iadd, 1) := by decide +kernel
theorem dX4_make_74 : decode cX4_make 74 = .ok (.iload 4, 2) := by decide +kernel
theorem dX4_make_76 : decode cX4_make 76 = .ok (.invokestatic 64, 3) := by decide +kernel
theorem dX4_make_79 : decode cX4_make 79 = .ok (.iinc 3 1, 3) := by decide +kernel
theorem dX4_make_82 : decode cX4_make 82 = .ok (.goto (-58), 3) := by decide +kernel
theorem dX4_make_85 : decode cX4_make 85 = .ok (.iinc 2 1, 3) := by decide +kernel
theorem dX4_make_88 : decode cX4_make 88 = .ok (.goto (-81), 3) := by decide +kernel
theorem dX4_make_91 : decode cX4_make 91 = .ok (.iconst 1, 1) := by decide +kernel
theorem dX4_make_92 : decode cX4_make 92 = .ok (.ireturn, 1) := by decide +kernel
theorem dX4_size_0 : decode cX4_size 0 = .ok (.aload_n 0, 1) := by decide +kernel
theorem dX4_size_1 : decode cX4_size 1 = .ok (.getfield 45, 3) := by decide +kernel
theorem dX4_size_4 : decode cX4_size 4 = .ok (.ireturn, 1) := by decide +kernel
theorem dX4_next_0 : decode cX4_next 0 = .ok (.aload_n 0, 1) := by decide +kernel
theorem dX4_next_1 : decode cX4_next 1 = .ok (.getfield 19, 3) := by decide +kernel
theorem dX4_next_4 : decode cX4_next 4 = .ok (.iload_n 1, 1) := by decide +kernel
theorem dX4_next_5 : decode cX4_next 5 = .ok (.iconst 4, 1) := by decide +kernel
theorem dX4_next_6 : decode cX4_next 6 = .ok (.imul, 1) := by decide +kernel
theorem dX4_next_7 : decode cX4_next 7 = .ok (.iload_n 2, 1) := by decide +kernel
theorem dX4_next_8 : decode cX4_next 8 = .ok (.iadd, 1) := by decide +kernel
theorem dX4_next_9 : decode cX4_next 9 = .ok (.invokestatic 68, 3) := by decide +kernel
theorem dX4_next_12 : decode cX4_next 12 = .ok (.ireturn, 1) := by decide +kernel
theorem dX4_isKept_0 : decode cX4_isKept 0 = .ok (.aload_n 0, 1) := by decide +kernel
theorem dX4_isKept_1 : decode cX4_isKept 1 = .ok (.getfield 22, 3) := by decide +kernel
theorem dX4_isKept_4 : decode cX4_isKept 4 = .ok (.iload_n 1, 1) := by decide +kernel
theorem dX4_isKept_5 : decode cX4_isKept 5 = .ok (.invokestatic 72, 3) := by decide +kernel
theorem dX4_isKept_8 : decode cX4_isKept 8 = .ok (.ireturn, 1) := by decide +kernel
theorem dX4_begin_0 : decode cX4_begin 0 = .ok (.aload_n 0, 1) := by decide +kernel
theorem dX4_begin_1 : decode cX4_begin 1 = .ok (.iconst 4, 1) := by decide +kernel
theorem dX4_begin_2 : decode cX4_begin 2 = .ok (.aload_n 1, 1) := by decide +kernel
theorem dX4_begin_3 : decode cX4_begin 3 = .ok (.invokevirtual 76, 3) := by decide +kernel
theorem dX4_begin_6 : decode cX4_begin 6 = .ok (.bipush 63, 2) := by decide +kernel
theorem dX4_begin_8 : decode cX4_begin 8 = .ok (.iadd, 1) := by decide +kernel
theorem dX4_begin_9 : decode cX4_begin 9 = .ok (.bipush 64, 2) := by decide +kernel
theorem dX4_begin_11 : decode cX4_begin 11 = .ok (.idiv, 1) := by decide +kernel
theorem dX4_begin_12 : decode cX4_begin 12 = .ok (.invokestatic 81, 3) := by decide +kernel
theorem dX4_begin_15 : decode cX4_begin 15 = .ok (.putfield 39, 3) := by decide +kernel
theorem dX4_begin_18 : decode cX4_begin 18 = .ok (.aload_n 0, 1) := by decide +kernel
theorem dX4_begin_19 : decode cX4_begin 19 = .ok (.iconst 1, 1) := by decide +kernel
theorem dX4_begin_20 : decode cX4_begin 20 = .ok (.sipush 1920, 3) := by decide +kernel
theorem dX4_begin_23 : decode cX4_begin 23 = .ok (.bipush 60, 2) := by decide +kernel
theorem dX4_begin_25 : decode cX4_begin 25 = .ok (.aload_n 1, 1) := by decide +kernel
theorem dX4_begin_26 : decode cX4_begin 26 = .ok (.invokevirtual 87, 3) := by decide +kernel
theorem dX4_begin_29 : decode cX4_begin 29 = .ok (.imul, 1) := by decide +kernel
theorem dX4_begin_30 : decode cX4_begin 30 = .ok (.invokestatic 81, 3) := by decide +kernel
theorem dX4_begin_33 : decode cX4_begin 33 = .ok (.iadd, 1) := by decide +kernel
theorem dX4_begin_34 : decode cX4_begin 34 = .ok (.putfield 42, 3) := by decide +kernel
theorem dX4_begin_37 : decode cX4_begin 37 = .ok (.iconst 0, 1) := by decide +kernel
theorem dX4_begin_38 : decode cX4_begin 38 = .ok (.istore_n 2, 1) := by decide +kernel
theorem dX4_begin_39 : decode cX4_begin 39 = .ok (.iload_n 2, 1) := by decide +kernel
theorem dX4_begin_40 : decode cX4_begin 40 = .ok (.aload_n 1, 1) := by decide +kernel
theorem dX4_begin_41 : decode cX4_begin 41 = .ok (.invokevirtual 87, 3) := by decide +kernel
theorem dX4_begin_44 : decode cX4_begin 44 = .ok (.if_icmp .ge 19, 3) := by decide +kernel
theorem dX4_begin_47 : decode cX4_begin 47 = .ok (.aload_n 0, 1) := by decide +kernel
theorem dX4_begin_48 : decode cX4_begin 48 = .ok (.getfield 26, 3) := by decide +kernel
theorem dX4_begin_51 : decode cX4_begin 51 = .ok (.iload_n 2, 1) := by decide +kernel
theorem dX4_begin_52 : decode cX4_begin 52 = .ok (.bipush (-9), 2) := by decide +kernel
theorem dX4_begin_54 : decode cX4_begin 54 = .ok (.invokestatic 64, 3) := by decide +kernel
theorem dX4_begin_57 : decode cX4_begin 57 = .ok (.iinc 2 1, 3) := by decide +kernel
theorem dX4_begin_60 : decode cX4_begin 60 = .ok (.goto (-21), 3) := by decide +kernel
theorem dX4_begin_63 : decode cX4_begin 63 = .ok (.aload_n 0, 1) := by decide +kernel
theorem dX4_begin_64 : decode cX4_begin 64 = .ok (.iconst 1, 1) := by decide +kernel
theorem dX4_begin_65 : decode cX4_begin 65 = .ok (.putfield 45, 3) := by decide +kernel
theorem dX4_begin_68 : decode cX4_begin 68 = .ok (.aload_n 0, 1) := by decide +kernel
theorem dX4_begin_69 : decode cX4_begin 69 = .ok (.getfield 9, 3) := by decide +kernel
theorem dX4_begin_72 : decode cX4_begin 72 = .ok (.iconst 0, 1) := by decide +kernel
theorem dX4_begin_73 : decode cX4_begin 73 = .ok (.aload_n 1, 1) := by decide +kernel
theorem dX4_begin_74 : decode cX4_begin 74 = .ok (.aload_n 1, 1) := by decide +kernel
theorem dX4_begin_75 : decode cX4_begin 75 = .ok (.invokevirtual 89, 3) := by decide +kernel
theorem dX4_begin_78 : decode cX4_begin 78 = .ok (.invokevirtual 92, 3) := by decide +kernel
theorem dX4_begin_81 : decode cX4_begin 81 = .ok (.invokestatic 64, 3) := by decide +kernel
theorem dX4_begin_84 : decode cX4_begin 84 = .ok (.aload_n 0, 1) := by decide +kernel
theorem dX4_begin_85 : decode cX4_begin 85 = .ok (.getfield 22, 3) := by decide +kernel
theorem dX4_begin_88 : decode cX4_begin 88 = .ok (.iconst 0, 1) := by decide +kernel
theorem dX4_begin_89 : decode cX4_begin 89 = .ok (.iconst 1, 1) := by decide +kernel
theorem dX4_begin_90 : decode cX4_begin 90 = .ok (.invokestatic 96, 3) := by decide +kernel
theorem dX4_begin_93 : decode cX4_begin 93 = .ok (.return_, 1) := by decide +kernel
theorem dX4_follow_0 : decode cX4_follow 0 = .ok (.iconst 0, 1) := by decide +kernel
theorem dX4_follow_1 : decode cX4_follow 1 = .ok (.istore 4, 2) := by decide +kernel
theorem dX4_follow_3 : decode cX4_follow 3 = .ok (.iload 4, 2) := by decide +kernel
theorem dX4_follow_5 : decode cX4_follow 5 = .ok (.aload_n 0, 1) := by decide +kernel
theorem dX4_follow_6 : decode cX4_follow 6 = .ok (.getfield 39, 3) := by decide +kernel
theorem dX4_follow_9 : decode cX4_follow 9 = .ok (.if_icmp .ge 19, 3) := by decide +kernel
theorem dX4_follow_12 : decode cX4_follow 12 = .ok (.aload_n 0, 1) := by decide +kernel
theorem dX4_follow_13 : decode cX4_follow 13 = .ok (.getfield 32, 3) := by decide +kernel
theorem dX4_follow_16 : decode cX4_follow 16 = .ok (.iload 4, 2) := by decide +kernel
theorem dX4_follow_18 : decode cX4_follow 18 = .ok (.lconst 0, 1) := by decide +kernel
theorem dX4_follow_19 : decode cX4_follow 19 = .ok (.invokestatic 100, 3) := by decide +kernel
theorem dX4_follow_22 : decode cX4_follow 22 = .ok (.iinc 4 1, 3) := by decide +kernel
theorem dX4_follow_25 : decode cX4_follow 25 = .ok (.goto (-22), 3) := by decide +kernel
theorem dX4_follow_28 : decode cX4_follow 28 = .ok (.aload_n 0, 1) := by decide +kernel
theorem dX4_follow_29 : decode cX4_follow 29 = .ok (.getfield 9, 3) := by decide +kernel
theorem dX4_follow_32 : decode cX4_follow 32 = .ok (.iload_n 2, 1) := by decide +kernel
theorem dX4_follow_33 : decode cX4_follow 33 = .ok (.invokestatic 68, 3) := by decide +kernel
theorem dX4_follow_36 : decode cX4_follow 36 = .ok (.istore 4, 2) := by decide +kernel
theorem dX4_follow_38 : decode cX4_follow 38 = .ok (.aload_n 0, 1) := by decide +kernel
theorem dX4_follow_39 : decode cX4_follow 39 = .ok (.aload_n 1, 1) := by decide +kernel
theorem dX4_follow_40 : decode cX4_follow 40 = .ok (.aload_n 1, 1) := by decide +kernel
theorem dX4_follow_41 : decode cX4_follow 41 = .ok (.aload_n 1, 1) := by decide +kernel
theorem dX4_follow_42 : decode cX4_follow 42 = .ok (.iload 4, 2) := by decide +kernel
theorem dX4_follow_44 : decode cX4_follow 44 = .ok (.iconst 0, 1) := by decide +kernel
theorem dX4_follow_45 : decode cX4_follow 45 = .ok (.invokevirtual 104, 3) := by decide +kernel
theorem dX4_follow_48 : decode cX4_follow 48 = .ok (.iload_n 3, 1) := by decide +kernel
theorem dX4_follow_49 : decode cX4_follow 49 = .ok (.invokevirtual 107, 3) := by decide +kernel
theorem dX4_follow_52 : decode cX4_follow 52 = .ok (.invokevirtual 92, 3) := by decide +kernel
theorem dX4_follow_55 : decode cX4_follow 55 = .ok (.putfield 35, 3) := by decide +kernel
theorem dX4_follow_58 : decode cX4_follow 58 = .ok (.iconst 0, 1) := by decide +kernel
theorem dX4_follow_59 : decode cX4_follow 59 = .ok (.istore 5, 2) := by decide +kernel
theorem dX4_follow_61 : decode cX4_follow 61 = .ok (.iload 5, 2) := by decide +kernel
theorem dX4_follow_63 : decode cX4_follow 63 = .ok (.aload_n 1, 1) := by decide +kernel
theorem dX4_follow_64 : decode cX4_follow 64 = .ok (.invokevirtual 76, 3) := by decide +kernel
theorem dX4_follow_67 : decode cX4_follow 67 = .ok (.if_icmp .ge 111, 3) := by decide +kernel
theorem dX4_follow_70 : decode cX4_follow 70 = .ok (.aload_n 1, 1) := by decide +kernel
theorem dX4_follow_71 : decode cX4_follow 71 = .ok (.iload 4, 2) := by decide +kernel
theorem dX4_follow_73 : decode cX4_follow 73 = .ok (.iload 5, 2) := by decide +kernel
theorem dX4_follow_75 : decode cX4_follow 75 = .ok (.invokevirtual 104, 3) := by decide +kernel
theorem dX4_follow_78 : decode cX4_follow 78 = .ok (.istore 6, 2) := by decide +kernel
theorem dX4_follow_80 : decode cX4_follow 80 = .ok (.aload_n 1, 1) := by decide +kernel
theorem dX4_follow_81 : decode cX4_follow 81 = .ok (.aload_n 1, 1) := by decide +kernel
theorem dX4_follow_82 : decode cX4_follow 82 = .ok (.aload_n 0, 1) := by decide +kernel
theorem dX4_follow_83 : decode cX4_follow 83 = .ok (.getfield 35, 3) := by decide +kernel
theorem dX4_follow_86 : decode cX4_follow 86 = .ok (.iload 5, 2) := by decide +kernel
theorem dX4_follow_88 : decode cX4_follow 88 = .ok (.invokevirtual 104, 3) := by decide +kernel
theorem dX4_follow_91 : decode cX4_follow 91 = .ok (.invokevirtual 110, 3) := by decide +kernel
theorem dX4_follow_94 : decode cX4_follow 94 = .ok (.ifCond .ne 6, 3) := by decide +kernel
theorem dX4_follow_97 : decode cX4_follow 97 = .ok (.goto 75, 3) := by decide +kernel
theorem dX4_follow_100 : decode cX4_follow 100 = .ok (.aload_n 1, 1) := by decide +kernel
theorem dX4_follow_101 : decode cX4_follow 101 = .ok (.aload_n 1, 1) := by decide +kernel
theorem dX4_follow_102 : decode cX4_follow 102 = .ok (.iload 6, 2) := by decide +kernel
theorem dX4_follow_104 : decode cX4_follow 104 = .ok (.iload_n 3, 1) := by decide +kernel
theorem dX4_follow_105 : decode cX4_follow 105 = .ok (.invokevirtual 107, 3) := by decide +kernel
theorem dX4_follow_108 : decode cX4_follow 108 = .ok (.invokevirtual 114, 3) := by decide +kernel
theorem dX4_follow_111 : decode cX4_follow 111 = .ok (.istore 7, 2) := by decide +kernel
theorem dX4_follow_113 : decode cX4_follow 113 = .ok (.iload_n 2, 1) := by decide +kernel
theorem dX4_follow_114 : decode cX4_follow 114 = .ok (.ifCond .ne 16, 3) := by decide +kernel
theorem dX4_follow_117 : decode cX4_follow 117 = .ok (.aload_n 1, 1) := by decide +kernel
theorem dX4_follow_118 : decode cX4_follow 118 = .ok (.iload 6, 2) := by decide +kernel
theorem dX4_follow_120 : decode cX4_follow 120 = .ok (.iload_n 3, 1) := by decide +kernel
theorem dX4_follow_121 : decode cX4_follow 121 = .ok (.invokevirtual 117, 3) := by decide +kernel
theorem dX4_follow_124 : decode cX4_follow 124 = .ok (.ifCond .eq 48, 3) := by decide +kernel
theorem dX4_follow_127 : decode cX4_follow 127 = .ok (.goto 13, 3) := by decide +kernel
theorem dX4_follow_130 : decode cX4_follow 130 = .ok (.aload_n 0, 1) := by decide +kernel
theorem dX4_follow_131 : decode cX4_follow 131 = .ok (.iload_n 2, 1) := by decide +kernel
theorem dX4_follow_132 : decode cX4_follow 132 = .ok (.iload 7, 2) := by decide +kernel
theorem dX4_follow_134 : decode cX4_follow 134 = .ok (.invokevirtual 121, 3) := by decide +kernel
theorem dX4_follow_137 : decode cX4_follow 137 = .ok (.ifCond .eq 35, 3) := by decide +kernel
theorem dX4_follow_140 : decode cX4_follow 140 = .ok (.aload_n 0, 1) := by decide +kernel
theorem dX4_follow_141 : decode cX4_follow 141 = .ok (.getfield 32, 3) := by decide +kernel
theorem dX4_follow_144 : decode cX4_follow 144 = .ok (.iload 5, 2) := by decide +kernel
theorem dX4_follow_146 : decode cX4_follow 146 = .ok (.bipush 64, 2) := by decide +kernel
theorem dX4_follow_148 : decode cX4_follow 148 = .ok (.idiv, 1) := by decide +kernel
theorem dX4_follow_149 : decode cX4_follow 149 = .ok (.aload_n 0, 1) := by decide +kernel
theorem dX4_follow_150 : decode cX4_follow 150 = .ok (.getfield 32, 3) := by decide +kernel
theorem dX4_follow_153 : decode cX4_follow 153 = .ok (.iload 5, 2) := by decide +kernel
theorem dX4_follow_155 : decode cX4_follow 155 = .ok (.bipush 64, 2) := by decide +kernel
theorem dX4_follow_157 : decode cX4_follow 157 = .ok (.idiv, 1) := by decide +kernel
theorem dX4_follow_158 : decode cX4_follow 158 = .ok (.invokestatic 124, 3) := by decide +kernel
theorem dX4_follow_161 : decode cX4_follow 161 = .ok (.lconst 1, 1) := by decide +kernel
theorem dX4_follow_162 : decode cX4_follow 162 = .ok (.iload 5, 2) := by decide +kernel
theorem dX4_follow_164 : decode cX4_follow 164 = .ok (.bipush 64, 2) := by decide +kernel
theorem dX4_follow_166 : decode cX4_follow 166 = .ok (.irem, 1) := by decide +kernel
theorem dX4_follow_167 : decode cX4_follow 167 = .ok (.lshl, 1) := by decide +kernel
theorem dX4_follow_168 : decode cX4_follow 168 = .ok (.lor, 1) := by decide +kernel
theorem dX4_follow_169 : decode cX4_follow 169 = .ok (.invokestatic 100, 3) := by decide +kernel
theorem dX4_follow_172 : decode cX4_follow 172 = .ok (.iinc 5 1, 3) := by decide +kernel
theorem dX4_follow_175 : decode cX4_follow 175 = .ok (.goto (-114), 3) := by decide +kernel
theorem dX4_follow_178 : decode cX4_follow 178 = .ok (.return_, 1) := by decide +kernel
theorem dX4_isIn_0 : decode cX4_isIn 0 = .ok (.aload_n 0, 1) := by decide +kernel
theorem dX4_isIn_1 : decode cX4_isIn 1 = .ok (.getfield 15, 3) := by decide +kernel
theorem dX4_isIn_4 : decode cX4_isIn 4 = .ok (.iload_n 1, 1) := by decide +kernel
theorem dX4_isIn_5 : decode cX4_isIn 5 = .ok (.iconst 4, 1) := by decide +kernel
theorem dX4_isIn_6 : decode cX4_isIn 6 = .ok (.imul, 1) := by decide +kernel
theorem dX4_isIn_7 : decode cX4_isIn 7 = .ok (.iload_n 2, 1) := by decide +kernel
theorem dX4_isIn_8 : decode cX4_isIn 8 = .ok (.bipush 64, 2) := by decide +kernel
theorem dX4_isIn_10 : decode cX4_isIn 10 = .ok (.idiv, 1) := by decide +kernel
theorem dX4_isIn_11 : decode cX4_isIn 11 = .ok (.iadd, 1) := by decide +kernel
theorem dX4_isIn_12 : decode cX4_isIn 12 = .ok (.invokestatic 124, 3) := by decide +kernel
theorem dX4_isIn_15 : decode cX4_isIn 15 = .ok (.iload_n 2, 1) := by decide +kernel
theorem dX4_isIn_16 : decode cX4_isIn 16 = .ok (.bipush 64, 2) := by decide +kernel
theorem dX4_isIn_18 : decode cX4_isIn 18 = .ok (.irem, 1) := by decide +kernel
theorem dX4_isIn_19 : decode cX4_isIn 19 = .ok (.invokestatic 128, 3) := by decide +kernel
theorem dX4_isIn_22 : decode cX4_isIn 22 = .ok (.ireturn, 1) := by decide +kernel
theorem dX4_findWork_0 : decode cX4_findWork 0 = .ok (.aload_n 0, 1) := by decide +kernel
theorem dX4_findWork_1 : decode cX4_findWork 1 = .ok (.getfield 26, 3) := by decide +kernel
theorem dX4_findWork_4 : decode cX4_findWork 4 = .ok (.aload_n 0, 1) := by decide +kernel
theorem dX4_findWork_5 : decode cX4_findWork 5 = .ok (.getfield 35, 3) := by decide +kernel
theorem dX4_findWork_8 : decode cX4_findWork 8 = .ok (.invokestatic 68, 3) := by decide +kernel
theorem dX4_findWork_11 : decode cX4_findWork 11 = .ok (.istore_n 1, 1) := by decide +kernel
theorem dX4_findWork_12 : decode cX4_findWork 12 = .ok (.iconst 0, 1) := by decide +kernel
theorem dX4_findWork_13 : decode cX4_findWork 13 = .ok (.istore_n 2, 1) := by decide +kernel
theorem dX4_findWork_14 : decode cX4_findWork 14 = .ok (.iload_n 2, 1) := by decide +kernel
theorem dX4_findWork_15 : decode cX4_findWork 15 = .ok (.sipush 1921, 3) := by decide +kernel
theorem dX4_findWork_18 : decode cX4_findWork 18 = .ok (.if_icmp .ge 34, 3) := by decide +kernel
theorem dX4_findWork_21 : decode cX4_findWork 21 = .ok (.iload_n 1, 1) := by decide +kernel
theorem dX4_findWork_22 : decode cX4_findWork 22 = .ok (.bipush (-9), 2) := by decide +kernel
theorem dX4_findWork_24 : decode cX4_findWork 24 = .ok (.if_icmp .eq 28, 3) := by decide +kernel
theorem dX4_findWork_27 : decode cX4_findWork 27 = .ok (.aload_n 0, 1) := by decide +kernel
theorem dX4_findWork_28 : decode cX4_findWork 28 = .ok (.iload_n 1, 1) := by decide +kernel
theorem dX4_findWork_29 : decode cX4_findWork 29 = .ok (.invokevirtual 132, 3) := by decide +kernel
theorem dX4_findWork_32 : decode cX4_findWork 32 = .ok (.ifCond .eq 5, 3) := by decide +kernel
theorem dX4_findWork_35 : decode cX4_findWork 35 = .ok (.iload_n 1, 1) := by decide +kernel
theorem dX4_findWork_36 : decode cX4_findWork 36 = .ok (.ireturn, 1) := by decide +kernel
theorem dX4_findWork_37 : decode cX4_findWork 37 = .ok (.aload_n 0, 1) := by decide +kernel
theorem dX4_findWork_38 : decode cX4_findWork 38 = .ok (.getfield 29, 3) := by decide +kernel
theorem dX4_findWork_41 : decode cX4_findWork 41 = .ok (.iload_n 1, 1) := by decide +kernel
theorem dX4_findWork_42 : decode cX4_findWork 42 = .ok (.invokestatic 68, 3) := by decide +kernel
theorem dX4_findWork_45 : decode cX4_findWork 45 = .ok (.istore_n 1, 1) := by decide +kernel
theorem dX4_findWork_46 : decode cX4_findWork 46 = .ok (.iinc 2 1, 3) := by decide +kernel
theorem dX4_findWork_49 : decode cX4_findWork 49 = .ok (.goto (-35), 3) := by decide +kernel
theorem dX4_findWork_52 : decode cX4_findWork 52 = .ok (.bipush (-9), 2) := by decide +kernel
theorem dX4_findWork_54 : decode cX4_findWork 54 = .ok (.ireturn, 1) := by decide +kernel
theorem dX4_isWork_0 : decode cX4_isWork 0 = .ok (.iconst 0, 1) := by decide +kernel
theorem dX4_isWork_1 : decode cX4_isWork 1 = .ok (.istore_n 2, 1) := by decide +kernel
theorem dX4_isWork_2 : decode cX4_isWork 2 = .ok (.iload_n 2, 1) := by decide +kernel
theorem dX4_isWork_3 : decode cX4_isWork 3 = .ok (.aload_n 0, 1) := by decide +kernel
theorem dX4_isWork_4 : decode cX4_isWork 4 = .ok (.getfield 39, 3) := by decide +kernel
theorem dX4_isWork_7 : decode cX4_isWork 7 = .ok (.if_icmp .ge 35, 3) := by decide +kernel
theorem dX4_isWork_10 : decode cX4_isWork 10 = .ok (.aload_n 0, 1) := by decide +kernel
theorem dX4_isWork_11 : decode cX4_isWork 11 = .ok (.getfield 15, 3) := by decide +kernel
theorem dX4_isWork_14 : decode cX4_isWork 14 = .ok (.iload_n 1, 1) := by decide +kernel
theorem dX4_isWork_15 : decode cX4_isWork 15 = .ok (.iconst 4, 1) := by decide +kernel
theorem dX4_isWork_16 : decode cX4_isWork 16 = .ok (.imul, 1) := by decide +kernel
theorem dX4_isWork_17 : decode cX4_isWork 17 = .ok (.iload_n 2, 1) := by decide +kernel
theorem dX4_isWork_18 : decode cX4_isWork 18 = .ok (.iadd, 1) := by decide +kernel
theorem dX4_isWork_19 : decode cX4_isWork 19 = .ok (.invokestatic 124, 3) := by decide +kernel
theorem dX4_isWork_22 : decode cX4_isWork 22 = .ok (.aload_n 0, 1) := by decide +kernel
theorem dX4_isWork_23 : decode cX4_isWork 23 = .ok (.getfield 32, 3) := by decide +kernel
theorem dX4_isWork_26 : decode cX4_isWork 26 = .ok (.iload_n 2, 1) := by decide +kernel
theorem dX4_isWork_27 : decode cX4_isWork 27 = .ok (.invokestatic 124, 3) := by decide +kernel
theorem dX4_isWork_30 : decode cX4_isWork 30 = .ok (.lcmp, 1) := by decide +kernel
theorem dX4_isWork_31 : decode cX4_isWork 31 = .ok (.ifCond .eq 5, 3) := by decide +kernel
theorem dX4_isWork_34 : decode cX4_isWork 34 = .ok (.iconst 0, 1) := by decide +kernel
theorem dX4_isWork_35 : decode cX4_isWork 35 = .ok (.ireturn, 1) := by decide +kernel
theorem dX4_isWork_36 : decode cX4_isWork 36 = .ok (.iinc 2 1, 3) := by decide +kernel
theorem dX4_isWork_39 : decode cX4_isWork 39 = .ok (.goto (-37), 3) := by decide +kernel
theorem dX4_isWork_42 : decode cX4_isWork 42 = .ok (.iconst 1, 1) := by decide +kernel
theorem dX4_isWork_43 : decode cX4_isWork 43 = .ok (.ireturn, 1) := by decide +kernel
theorem dX4_addWork_0 : decode cX4_addWork 0 = .ok (.aload_n 0, 1) := by decide +kernel
theorem dX4_addWork_1 : decode cX4_addWork 1 = .ok (.getfield 45, 3) := by decide +kernel
theorem dX4_addWork_4 : decode cX4_addWork 4 = .ok (.aload_n 0, 1) := by decide +kernel
theorem dX4_addWork_5 : decode cX4_addWork 5 = .ok (.getfield 42, 3) := by decide +kernel
theorem dX4_addWork_8 : decode cX4_addWork 8 = .ok (.if_icmp .lt 6, 3) := by decide +kernel
theorem dX4_addWork_11 : decode cX4_addWork 11 = .ok (.bipush (-9), 2) := by decide +kernel
theorem dX4_addWork_13 : decode cX4_addWork 13 = .ok (.ireturn, 1) := by decide +kernel
theorem dX4_addWork_14 : decode cX4_addWork 14 = .ok (.aload_n 0, 1) := by decide +kernel
theorem dX4_addWork_15 : decode cX4_addWork 15 = .ok (.getfield 45, 3) := by decide +kernel
theorem dX4_addWork_18 : decode cX4_addWork 18 = .ok (.istore_n 2, 1) := by decide +kernel
theorem dX4_addWork_19 : decode cX4_addWork 19 = .ok (.aload_n 0, 1) := by decide +kernel
theorem dX4_addWork_20 : decode cX4_addWork 20 = .ok (.getfield 9, 3) := by decide +kernel
theorem dX4_addWork_23 : decode cX4_addWork 23 = .ok (.iload_n 2, 1) := by decide +kernel
theorem dX4_addWork_24 : decode cX4_addWork 24 = .ok (.aload_n 0, 1) := by decide +kernel
theorem dX4_addWork_25 : decode cX4_addWork 25 = .ok (.getfield 35, 3) := by decide +kernel
theorem dX4_addWork_28 : decode cX4_addWork 28 = .ok (.invokestatic 64, 3) := by decide +kernel
theorem dX4_addWork_31 : decode cX4_addWork 31 = .ok (.iconst 0, 1) := by decide +kernel
theorem dX4_addWork_32 : decode cX4_addWork 32 = .ok (.istore_n 3, 1) := by decide +kernel
theorem dX4_addWork_33 : decode cX4_addWork 33 = .ok (.iload_n 3, 1) := by decide +kernel
theorem dX4_addWork_34 : decode cX4_addWork 34 = .ok (.aload_n 0, 1) := by decide +kernel
theorem dX4_addWork_35 : decode cX4_addWork 35 = .ok (.getfield 39, 3) := by decide +kernel
theorem dX4_addWork_38 : decode cX4_addWork 38 = .ok (.if_icmp .ge 29, 3) := by decide +kernel
theorem dX4_addWork_41 : decode cX4_addWork 41 = .ok (.aload_n 0, 1) := by decide +kernel
theorem dX4_addWork_42 : decode cX4_addWork 42 = .ok (.getfield 15, 3) := by decide +kernel
theorem dX4_addWork_45 : decode cX4_addWork 45 = .ok (.iload_n 2, 1) := by decide +kernel
theorem dX4_addWork_46 : decode cX4_addWork 46 = .ok (.iconst 4, 1) := by decide +kernel
theorem dX4_addWork_47 : decode cX4_addWork 47 = .ok (.imul, 1) := by decide +kernel
theorem dX4_addWork_48 : decode cX4_addWork 48 = .ok (.iload_n 3, 1) := by decide +kernel
theorem dX4_addWork_49 : decode cX4_addWork 49 = .ok (.iadd, 1) := by decide +kernel
theorem dX4_addWork_50 : decode cX4_addWork 50 = .ok (.aload_n 0, 1) := by decide +kernel
theorem dX4_addWork_51 : decode cX4_addWork 51 = .ok (.getfield 32, 3) := by decide +kernel
theorem dX4_addWork_54 : decode cX4_addWork 54 = .ok (.iload_n 3, 1) := by decide +kernel
theorem dX4_addWork_55 : decode cX4_addWork 55 = .ok (.invokestatic 124, 3) := by decide +kernel
theorem dX4_addWork_58 : decode cX4_addWork 58 = .ok (.invokestatic 100, 3) := by decide +kernel
theorem dX4_addWork_61 : decode cX4_addWork 61 = .ok (.iinc 3 1, 3) := by decide +kernel
theorem dX4_addWork_64 : decode cX4_addWork 64 = .ok (.goto (-31), 3) := by decide +kernel
theorem dX4_addWork_67 : decode cX4_addWork 67 = .ok (.aload_n 0, 1) := by decide +kernel
theorem dX4_addWork_68 : decode cX4_addWork 68 = .ok (.getfield 22, 3) := by decide +kernel
theorem dX4_addWork_71 : decode cX4_addWork 71 = .ok (.iload_n 2, 1) := by decide +kernel
theorem dX4_addWork_72 : decode cX4_addWork 72 = .ok (.aload_n 0, 1) := by decide +kernel
theorem dX4_addWork_73 : decode cX4_addWork 73 = .ok (.iload_n 2, 1) := by decide +kernel
theorem dX4_addWork_74 : decode cX4_addWork 74 = .ok (.aload_n 1, 1) := by decide +kernel
theorem dX4_addWork_75 : decode cX4_addWork 75 = .ok (.aload_n 1, 1) := by decide +kernel
theorem dX4_addWork_76 : decode cX4_addWork 76 = .ok (.invokevirtual 89, 3) := by decide +kernel
theorem dX4_addWork_79 : decode cX4_addWork 79 = .ok (.invokevirtual 114, 3) := by decide +kernel
theorem dX4_addWork_82 : decode cX4_addWork 82 = .ok (.invokevirtual 121, 3) := by decide +kernel
theorem dX4_addWork_85 : decode cX4_addWork 85 = .ok (.invokestatic 96, 3) := by decide +kernel
theorem dX4_addWork_88 : decode cX4_addWork 88 = .ok (.aload_n 0, 1) := by decide +kernel
theorem dX4_addWork_89 : decode cX4_addWork 89 = .ok (.getfield 29, 3) := by decide +kernel
theorem dX4_addWork_92 : decode cX4_addWork 92 = .ok (.iload_n 2, 1) := by decide +kernel
theorem dX4_addWork_93 : decode cX4_addWork 93 = .ok (.aload_n 0, 1) := by decide +kernel
theorem dX4_addWork_94 : decode cX4_addWork 94 = .ok (.getfield 26, 3) := by decide +kernel
theorem dX4_addWork_97 : decode cX4_addWork 97 = .ok (.aload_n 0, 1) := by decide +kernel
theorem dX4_addWork_98 : decode cX4_addWork 98 = .ok (.getfield 35, 3) := by decide +kernel
theorem dX4_addWork_101 : decode cX4_addWork 101 = .ok (.invokestatic 68, 3) := by decide +kernel
theorem dX4_addWork_104 : decode cX4_addWork 104 = .ok (.invokestatic 64, 3) := by decide +kernel
theorem dX4_addWork_107 : decode cX4_addWork 107 = .ok (.aload_n 0, 1) := by decide +kernel
theorem dX4_addWork_108 : decode cX4_addWork 108 = .ok (.getfield 26, 3) := by decide +kernel
theorem dX4_addWork_111 : decode cX4_addWork 111 = .ok (.aload_n 0, 1) := by decide +kernel
theorem dX4_addWork_112 : decode cX4_addWork 112 = .ok (.getfield 35, 3) := by decide +kernel
theorem dX4_addWork_115 : decode cX4_addWork 115 = .ok (.iload_n 2, 1) := by decide +kernel
theorem dX4_addWork_116 : decode cX4_addWork 116 = .ok (.invokestatic 64, 3) := by decide +kernel
theorem dX4_addWork_119 : decode cX4_addWork 119 = .ok (.aload_n 0, 1) := by decide +kernel
theorem dX4_addWork_120 : decode cX4_addWork 120 = .ok (.dup, 1) := by decide +kernel
theorem dX4_addWork_121 : decode cX4_addWork 121 = .ok (.getfield 45, 3) := by decide +kernel
theorem dX4_addWork_124 : decode cX4_addWork 124 = .ok (.iconst 1, 1) := by decide +kernel
theorem dX4_addWork_125 : decode cX4_addWork 125 = .ok (.iadd, 1) := by decide +kernel
theorem dX4_addWork_126 : decode cX4_addWork 126 = .ok (.putfield 45, 3) := by decide +kernel
theorem dX4_addWork_129 : decode cX4_addWork 129 = .ok (.iload_n 2, 1) := by decide +kernel
theorem dX4_addWork_130 : decode cX4_addWork 130 = .ok (.ireturn, 1) := by decide +kernel
theorem dX5_init_0 : decode cX5_init 0 = .ok (.aload_n 0, 1) := by decide +kernel
theorem dX5_init_1 : decode cX5_init 1 = .ok (.invokespecial 3, 3) := by decide +kernel
theorem dX5_init_4 : decode cX5_init 4 = .ok (.aload_n 0, 1) := by decide +kernel
theorem dX5_init_5 : decode cX5_init 5 = .ok (.new 9, 3) := by decide +kernel
theorem dX5_init_8 : decode cX5_init 8 = .ok (.dup, 1) := by decide +kernel
theorem dX5_init_9 : decode cX5_init 9 = .ok (.invokespecial 11, 3) := by decide +kernel
theorem dX5_init_12 : decode cX5_init 12 = .ok (.putfield 12, 3) := by decide +kernel
theorem dX5_init_15 : decode cX5_init 15 = .ok (.aload_n 0, 1) := by decide +kernel
theorem dX5_init_16 : decode cX5_init 16 = .ok (.iconst 0, 1) := by decide +kernel
theorem dX5_init_17 : decode cX5_init 17 = .ok (.newarray .int, 2) := by decide +kernel
theorem dX5_init_19 : decode cX5_init 19 = .ok (.putfield 18, 3) := by decide +kernel
theorem dX5_init_22 : decode cX5_init 22 = .ok (.aload_n 0, 1) := by decide +kernel
theorem dX5_init_23 : decode cX5_init 23 = .ok (.iconst 0, 1) := by decide +kernel
theorem dX5_init_24 : decode cX5_init 24 = .ok (.putfield 22, 3) := by decide +kernel
theorem dX5_init_27 : decode cX5_init 27 = .ok (.aload_n 0, 1) := by decide +kernel
theorem dX5_init_28 : decode cX5_init 28 = .ok (.iconst 0, 1) := by decide +kernel
theorem dX5_init_29 : decode cX5_init 29 = .ok (.putfield 26, 3) := by decide +kernel
theorem dX5_init_32 : decode cX5_init 32 = .ok (.aload_n 0, 1) := by decide +kernel
theorem dX5_init_33 : decode cX5_init 33 = .ok (.iconst 0, 1) := by decide +kernel
theorem dX5_init_34 : decode cX5_init 34 = .ok (.putfield 29, 3) := by decide +kernel
theorem dX5_init_37 : decode cX5_init 37 = .ok (.aload_n 0, 1) := by decide +kernel
theorem dX5_init_38 : decode cX5_init 38 = .ok (.iconst 0, 1) := by decide +kernel
theorem dX5_init_39 : decode cX5_init 39 = .ok (.putfield 32, 3) := by decide +kernel
theorem dX5_init_42 : decode cX5_init 42 = .ok (.aload_n 0, 1) := by decide +kernel
theorem dX5_init_43 : decode cX5_init 43 = .ok (.iconst 0, 1) := by decide +kernel
theorem dX5_init_44 : decode cX5_init 44 = .ok (.putfield 35, 3) := by decide +kernel
theorem dX5_init_47 : decode cX5_init 47 = .ok (.aload_n 0, 1) := by decide +kernel
theorem dX5_init_48 : decode cX5_init 48 = .ok (.iconst 0, 1) := by decide +kernel
theorem dX5_init_49 : decode cX5_init 49 = .ok (.putfield 38, 3) := by decide +kernel
theorem dX5_init_52 : decode cX5_init 52 = .ok (.aload_n 0, 1) := by decide +kernel
theorem dX5_init_53 : decode cX5_init 53 = .ok (.iconst 0, 1) := by decide +kernel
theorem dX5_init_54 : decode cX5_init 54 = .ok (.putfield 41, 3) := by decide +kernel
theorem dX5_init_57 : decode cX5_init 57 = .ok (.return_, 1) := by decide +kernel
theorem dX5_rule_0 : decode cX5_rule 0 = .ok (.aload_n 0, 1) := by decide +kernel
theorem dX5_rule_1 : decode cX5_rule 1 = .ok (.getfield 12, 3) := by decide +kernel
theorem dX5_rule_4 : decode cX5_rule 4 = .ok (.areturn, 1) := by decide +kernel
theorem dX5_faultKind_0 : decode cX5_faultKind 0 = .ok (.aload_n 0, 1) := by decide +kernel
theorem dX5_faultKind_1 : decode cX5_faultKind 1 = .ok (.getfield 38, 3) := by decide +kernel
theorem dX5_faultKind_4 : decode cX5_faultKind 4 = .ok (.ireturn, 1) := by decide +kernel
theorem dX5_faultByte_0 : decode cX5_faultByte 0 = .ok (.aload_n 0, 1) := by decide +kernel
theorem dX5_faultByte_1 : decode cX5_faultByte 1 = .ok (.getfield 41, 3) := by decide +kernel
theorem dX5_faultByte_4 : decode cX5_faultByte 4 = .ok (.ireturn, 1) := by decide +kernel
theorem dX5_reads_0 : decode cX5_reads 0 = .ok (.aload_n 0, 1) := by decide +kernel
theorem dX5_reads_1 : decode cX5_reads 1 = .ok (.aload_n 1, 1) := by decide +kernel
theorem dX5_reads_2 : decode cX5_reads 2 = .ok (.putfield 18, 3) := by decide +kernel
theorem dX5_reads_5 : decode cX5_reads 5 = .ok (.aload_n 0, 1) := by decide +kernel
theorem dX5_reads_6 : decode cX5_reads 6 = .ok (.iload_n 2, 1) := by decide +kernel
theorem dX5_reads_7 : decode cX5_reads 7 = .ok (.putfield 22, 3) := by decide +kernel
theorem dX5_reads_10 : decode cX5_reads 10 = .ok (.aload_n 0, 1) := by decide +kernel
theorem dX5_reads_11 : decode cX5_reads 11 = .ok (.iconst 0, 1) := by decide +kernel
theorem dX5_reads_12 : decode cX5_reads 12 = .ok (.putfield 26, 3) := by decide +kernel
theorem dX5_reads_15 : decode cX5_reads 15 = .ok (.aload_n 0, 1) := by decide +kernel
theorem dX5_reads_16 : decode cX5_reads 16 = .ok (.iconst 0, 1) := by decide +kernel
theorem dX5_reads_17 : decode cX5_reads 17 = .ok (.putfield 29, 3) := by decide +kernel
theorem dX5_reads_20 : decode cX5_reads 20 = .ok (.aload_n 0, 1) := by decide +kernel
theorem dX5_reads_21 : decode cX5_reads 21 = .ok (.iconst 0, 1) := by decide +kernel
theorem dX5_reads_22 : decode cX5_reads 22 = .ok (.putfield 32, 3) := by decide +kernel
theorem dX5_reads_25 : decode cX5_reads 25 = .ok (.aload_n 0, 1) := by decide +kernel
theorem dX5_reads_26 : decode cX5_reads 26 = .ok (.iconst 0, 1) := by decide +kernel
theorem dX5_reads_27 : decode cX5_reads 27 = .ok (.putfield 38, 3) := by decide +kernel
theorem dX5_reads_30 : decode cX5_reads 30 = .ok (.aload_n 0, 1) := by decide +kernel
theorem dX5_reads_31 : decode cX5_reads 31 = .ok (.iconst 0, 1) := by decide +kernel
theorem dX5_reads_32 : decode cX5_reads 32 = .ok (.putfield 41, 3) := by decide +kernel
theorem dX5_reads_35 : decode cX5_reads 35 = .ok (.aload_n 0, 1) := by decide +kernel
theorem dX5_reads_36 : decode cX5_reads 36 = .ok (.getfield 12, 3) := by decide +kernel
theorem dX5_reads_39 : decode cX5_reads 39 = .ok (.invokevirtual 44, 3) := by decide +kernel
theorem dX5_reads_42 : decode cX5_reads 42 = .ok (.aload_n 0, 1) := by decide +kernel
theorem dX5_reads_43 : decode cX5_reads 43 = .ok (.invokevirtual 47, 3) := by decide +kernel
theorem dX5_reads_46 : decode cX5_reads 46 = .ok (.pop, 1) := by decide +kernel
theorem dX5_reads_47 : decode cX5_reads 47 = .ok (.aload_n 0, 1) := by decide +kernel
theorem dX5_reads_48 : decode cX5_reads 48 = .ok (.invokevirtual 51, 3) := by decide +kernel
theorem dX5_reads_51 : decode cX5_reads 51 = .ok (.ifCond .ne 15, 3) := by decide +kernel
theorem dX5_reads_54 : decode cX5_reads 54 = .ok (.aload_n 0, 1) := by decide +kernel
theorem dX5_reads_55 : decode cX5_reads 55 = .ok (.invokevirtual 55, 3) := by decide +kernel
theorem dX5_reads_58 : decode cX5_reads 58 = .ok (.iconst (-1), 1) := by decide +kernel
theorem dX5_reads_59 : decode cX5_reads 59 = .ok (.if_icmp .eq 7, 3) := by decide +kernel
theorem dX5_reads_62 : decode cX5_reads 62 = .ok (.aload_n 0, 1) := by decide +kernel
theorem dX5_reads_63 : decode cX5_reads 63 = .ok (.invokevirtual 58, 3) := by decide +kernel
theorem dX5_reads_66 : decode cX5_reads 66 = .ok (.aload_n 0, 1) := by decide +kernel
theorem dX5_reads_67 : decode cX5_reads 67 = .ok (.invokevirtual 51, 3) := by decide +kernel
theorem dX5_reads_70 : decode cX5_reads 70 = .ok (.ifCond .ne 27, 3) := by decide +kernel
theorem dX5_reads_73 : decode cX5_reads 73 = .ok (.aload_n 0, 1) := by decide +kernel
theorem dX5_reads_74 : decode cX5_reads 74 = .ok (.getfield 12, 3) := by decide +kernel
theorem dX5_reads_77 : decode cX5_reads 77 = .ok (.invokevirtual 61, 3) := by decide +kernel
theorem dX5_reads_80 : decode cX5_reads 80 = .ok (.istore_n 3, 1) := by decide +kernel
theorem dX5_reads_81 : decode cX5_reads 81 = .ok (.iload_n 3, 1) := by decide +kernel
theorem dX5_reads_82 : decode cX5_reads 82 = .ok (.bipush (-9), 2) := by decide +kernel
theorem dX5_reads_84 : decode cX5_reads 84 = .ok (.if_icmp .eq 13, 3) := by decide +kernel
theorem dX5_reads_87 : decode cX5_reads 87 = .ok (.aload_n 0, 1) := by decide +kernel
theorem dX5_reads_88 : decode cX5_reads 88 = .ok (.iconst 2, 1) := by decide +kernel
theorem dX5_reads_89 : decode cX5_reads 89 = .ok (.putfield 38, 3) := by decide +kernel
theorem dX5_reads_92 : decode cX5_reads 92 = .ok (.aload_n 0, 1) := by decide +kernel
theorem dX5_reads_93 : decode cX5_reads 93 = .ok (.iload_n 3, 1) := by decide +kernel
theorem dX5_reads_94 : decode cX5_reads 94 = .ok (.putfield 41, 3) := by decide +kernel
theorem dX5_reads_97 : decode cX5_reads 97 = .ok (.aload_n 0, 1) := by decide +kernel
theorem dX5_reads_98 : decode cX5_reads 98 = .ok (.invokevirtual 51, 3) := by decide +kernel
theorem dX5_reads_101 : decode cX5_reads 101 = .ok (.ifCond .ne 7, 3) := by decide +kernel
theorem dX5_reads_104 : decode cX5_reads 104 = .ok (.iconst 1, 1) := by decide +kernel
theorem dX5_reads_105 : decode cX5_reads 105 = .ok (.goto 4, 3) := by decide +kernel
theorem dX5_reads_108 : decode cX5_reads 108 = .ok (.iconst 0, 1) := by decide +kernel
theorem dX5_reads_109 : decode cX5_reads 109 = .ok (.ireturn, 1) := by decide +kernel
theorem dX5_failed_0 : decode cX5_failed 0 = .ok (.aload_n 0, 1) := by decide +kernel
theorem dX5_failed_1 : decode cX5_failed 1 = .ok (.getfield 38, 3) := by decide +kernel
theorem dX5_failed_4 : decode cX5_failed 4 = .ok (.ifCond .eq 7, 3) := by decide +kernel
theorem dX5_failed_7 : decode cX5_failed 7 = .ok (.iconst 1, 1) := by decide +kernel
theorem dX5_failed_8 : decode cX5_failed 8 = .ok (.goto 4, 3) := by decide +kernel
theorem dX5_failed_11 : decode cX5_failed 11 = .ok (.iconst 0, 1) := by decide +kernel
theorem dX5_failed_12 : decode cX5_failed 12 = .ok (.ireturn, 1) := by decide +kernel
theorem dX5_failHere_0 : decode cX5_failHere 0 = .ok (.aload_n 0, 1) := by decide +kernel
theorem dX5_failHere_1 : decode cX5_failHere 1 = .ok (.invokevirtual 51, 3) := by decide +kernel
theorem dX5_failHere_4 : decode cX5_failHere 4 = .ok (.ifCond .ne 16, 3) := by decide +kernel
theorem dX5_failHere_7 : decode cX5_failHere 7 = .ok (.aload_n 0, 1) := by decide +kernel
theorem dX5_failHere_8 : decode cX5_failHere 8 = .ok (.iconst 1, 1) := by decide +kernel
theorem dX5_failHere_9 : decode cX5_failHere 9 = .ok (.putfield 38, 3) := by decide +kernel
theorem dX5_failHere_12 : decode cX5_failHere 12 = .ok (.aload_n 0, 1) := by decide +kernel
theorem dX5_failHere_13 : decode cX5_failHere 13 = .ok (.aload_n 0, 1) := by decide +kernel
theorem dX5_failHere_14 : decode cX5_failHere 14 = .ok (.getfield 26, 3) := by decide +kernel
theorem dX5_failHere_17 : decode cX5_failHere 17 = .ok (.putfield 41, 3) := by decide +kernel
theorem dX5_failHere_20 : decode cX5_failHere 20 = .ok (.return_, 1) := by decide +kernel
theorem dX5_here_0 : decode cX5_here 0 = .ok (.iconst 0, 1) := by decide +kernel
theorem dX5_here_1 : decode cX5_here 1 = .ok (.istore_n 1, 1) := by decide +kernel
theorem dX5_here_2 : decode cX5_here 2 = .ok (.iload_n 1, 1) := by decide +kernel
theorem dX5_here_3 : decode cX5_here 3 = .ok (.bipush 60, 2) := by decide +kernel
theorem dX5_here_5 : decode cX5_here 5 = .ok (.if_icmp .ge 46, 3) := by decide +kernel
theorem dX5_here_8 : decode cX5_here 8 = .ok (.aload_n 0, 1) := by decide +kernel
theorem dX5_here_9 : decode cX5_here 9 = .ok (.getfield 26, 3) := by decide +kernel
theorem dX5_here_12 : decode cX5_here 12 = .ok (.aload_n 0, 1) := by decide +kernel
theorem dX5_here_13 : decode cX5_here 13 = .ok (.getfield 22, 3) := by decide +kernel
theorem dX5_here_16 : decode cX5_here 16 = .ok (.if_icmp .ge 35, 3) := by decide +kernel
theorem dX5_here_19 : decode cX5_here 19 = .ok (.aload_n 0, 1) := by decide +kernel
theorem dX5_here_20 : decode cX5_here 20 = .ok (.getfield 18, 3) := by decide +kernel
theorem dX5_here_23 : decode cX5_here 23 = .ok (.aload_n 0, 1) := by decide +kernel
theorem dX5_here_24 : decode cX5_here 24 = .ok (.getfield 26, 3) := by decide +kernel
theorem dX5_here_27 : decode cX5_here 27 = .ok (.invokestatic 64, 3) := by decide +kernel
theorem dX5_here_30 : decode cX5_here 30 = .ok (.bipush 32, 2) := by decide +kernel
theorem dX5_here_32 : decode cX5_here 32 = .ok (.if_icmp .ne 19, 3) := by decide +kernel
theorem dX5_here_35 : decode cX5_here 35 = .ok (.aload_n 0, 1) := by decide +kernel
theorem dX5_here_36 : decode cX5_here 36 = .ok (.dup, 1) := by decide +kernel
theorem dX5_here_37 : decode cX5_here 37 = .ok (.getfield 26, 3) := by decide +kernel
theorem dX5_here_40 : decode cX5_here 40 = .ok (.iconst 1, 1) := by decide +kernel
theorem dX5_here_41 : decode cX5_here 41 = .ok (.iadd, 1) := by decide +kernel
theorem dX5_here_42 : decode cX5_here 42 = .ok (.putfield 26, 3) := by decide +kernel
theorem dX5_here_45 : decode cX5_here 45 = .ok (.iinc 1 1, 3) := by decide +kernel
theorem dX5_here_48 : decode cX5_here 48 = .ok (.goto (-46), 3) := by decide +kernel
theorem dX5_here_51 : decode cX5_here 51 = .ok (.aload_n 0, 1) := by decide +kernel
theorem dX5_here_52 : decode cX5_here 52 = .ok (.getfield 26, 3) := by decide +kernel
theorem dX5_here_55 : decode cX5_here 55 = .ok (.aload_n 0, 1) := by decide +kernel
theorem dX5_here_56 : decode cX5_here 56 = .ok (.getfield 22, 3) := by decide +kernel
theorem dX5_here_59 : decode cX5_here 59 = .ok (.if_icmp .ge 17, 3) := by decide +kernel
theorem dX5_here_62 : decode cX5_here 62 = .ok (.aload_n 0, 1) := by decide +kernel
theorem dX5_here_63 : decode cX5_here 63 = .ok (.getfield 18, 3) := by decide +kernel
theorem dX5_here_66 : decode cX5_here 66 = .ok (.aload_n 0, 1) := by decide +kernel
theorem dX5_here_67 : decode cX5_here 67 = .ok (.getfield 26, 3) := by decide +kernel
theorem dX5_here_70 : decode cX5_here 70 = .ok (.invokestatic 64, 3) := by decide +kernel
theorem dX5_here_73 : decode cX5_here 73 = .ok (.goto 4, 3) := by decide +kernel
theorem dX5_here_76 : decode cX5_here 76 = .ok (.iconst (-1), 1) := by decide +kernel
theorem dX5_here_77 : decode cX5_here 77 = .ok (.ireturn, 1) := by decide +kernel
theorem dX5_takes_0 : decode cX5_takes 0 = .ok (.aload_n 0, 1) := by decide +kernel
theorem dX5_takes_1 : decode cX5_takes 1 = .ok (.invokevirtual 51, 3) := by decide +kernel
theorem dX5_takes_4 : decode cX5_takes 4 = .ok (.ifCond .ne 22, 3) := by decide +kernel
theorem dX5_takes_7 : decode cX5_takes 7 = .ok (.aload_n 0, 1) := by decide +kernel
theorem dX5_takes_8 : decode cX5_takes 8 = .ok (.invokevirtual 55, 3) := by decide +kernel
theorem dX5_takes_11 : decode cX5_takes 11 = .ok (.iload_n 1, 1) := by decide +kernel
theorem dX5_takes_12 : decode cX5_takes 12 = .ok (.if_icmp .ne 14, 3) := by decide +kernel
theorem dX5_takes_15 : decode cX5_takes 15 = .ok (.aload_n 0, 1) := by decide +kernel
theorem dX5_takes_16 : decode cX5_takes 16 = .ok (.invokevirtual 68, 3) := by decide +kernel
theorem dX5_takes_19 : decode cX5_takes 19 = .ok (.ifCond .eq 7, 3) := by decide +kernel
theorem dX5_takes_22 : decode cX5_takes 22 = .ok (.iconst 1, 1) := by decide +kernel
theorem dX5_takes_23 : decode cX5_takes 23 = .ok (.goto 4, 3) := by decide +kernel
theorem dX5_takes_26 : decode cX5_takes 26 = .ok (.iconst 0, 1) := by decide +kernel
theorem dX5_takes_27 : decode cX5_takes 27 = .ok (.ireturn, 1) := by decide +kernel
theorem dX5_beginsNode_0 : decode cX5_beginsNode 0 = .ok (.aload_n 0, 1) := by decide +kernel
theorem dX5_beginsNode_1 : decode cX5_beginsNode 1 = .ok (.getfield 29, 3) := by decide +kernel
theorem dX5_beginsNode_4 : decode cX5_beginsNode 4 = .ok (.bipush 9, 2) := by decide +kernel
theorem dX5_beginsNode_6 : decode cX5_beginsNode 6 = .ok (.if_icmp .lt 9, 3) := by decide +kernel
theorem dX5_beginsNode_9 : decode cX5_beginsNode 9 = .ok (.aload_n 0, 1) := by decide +kernel
theorem dX5_beginsNode_10 : decode cX5_beginsNode 10 = .ok (.invokevirtual 58, 3) := by decide +kernel
theorem dX5_beginsNode_13 : decode cX5_beginsNode 13 = .ok (.iconst 0, 1) := by decide +kernel
theorem dX5_beginsNode_14 : decode cX5_beginsNode 14 = .ok (.ireturn, 1) := by decide +kernel
theorem dX5_beginsNode_15 : decode cX5_beginsNode 15 = .ok (.aload_n 0, 1) := by decide +kernel
theorem dX5_beginsNode_16 : decode cX5_beginsNode 16 = .ok (.dup, 1) := by decide +kernel
theorem dX5_beginsNode_17 : decode cX5_beginsNode 17 = .ok (.getfield 29, 3) := by decide +kernel
theorem dX5_beginsNode_20 : decode cX5_beginsNode 20 = .ok (.iconst 1, 1) := by decide +kernel
theorem dX5_beginsNode_21 : decode cX5_beginsNode 21 = .ok (.iadd, 1) := by decide +kernel
theorem dX5_beginsNode_22 : decode cX5_beginsNode 22 = .ok (.putfield 29, 3) := by decide +kernel
theorem dX5_beginsNode_25 : decode cX5_beginsNode 25 = .ok (.aload_n 0, 1) := by decide +kernel
theorem dX5_beginsNode_26 : decode cX5_beginsNode 26 = .ok (.aload_n 0, 1) := by decide +kernel
theorem dX5_beginsNode_27 : decode cX5_beginsNode 27 = .ok (.getfield 26, 3) := by decide +kernel
theorem dX5_beginsNode_30 : decode cX5_beginsNode 30 = .ok (.putfield 35, 3) := by decide +kernel
theorem dX5_beginsNode_33 : decode cX5_beginsNode 33 = .ok (.aload_n 0, 1) := by decide +kernel
theorem dX5_beginsNode_34 : decode cX5_beginsNode 34 = .ok (.dup, 1) := by decide +kernel
theorem dX5_beginsNode_35 : decode cX5_beginsNode 35 = .ok (.getfield 26, 3) := by decide +kernel
theorem dX5_beginsNode_38 : decode cX5_beginsNode 38 = .ok (.iconst 1, 1) := by decide +kernel
theorem dX5_beginsNode_39 : decode cX5_beginsNode 39 = .ok (.iadd, 1) := by decide +kernel
theorem dX5_beginsNode_40 : decode cX5_beginsNode 40 = .ok (.putfield 26, 3) := by decide +kernel
theorem dX5_beginsNode_43 : decode cX5_beginsNode 43 = .ok (.iconst 1, 1) := by decide +kernel
theorem dX5_beginsNode_44 : decode cX5_beginsNode 44 = .ok (.ireturn, 1) := by decide +kernel
theorem dX5_made_0 : decode cX5_made 0 = .ok (.aload_n 0, 1) := by decide +kernel
theorem dX5_made_1 : decode cX5_made 1 = .ok (.invokevirtual 51, 3) := by decide +kernel
theorem dX5_made_4 : decode cX5_made 4 = .ok (.ifCond .eq 8, 3) := by decide +kernel
theorem dX5_made_7 : decode cX5_made 7 = .ok (.bipush (-9), 2) := by decide +kernel
theorem dX5_made_9 : decode cX5_made 9 = .ok (.goto 15, 3) := by decide +kernel
theorem dX5_made_12 : decode cX5_made 12 = .ok (.aload_n 0, 1) := by decide +kernel
theorem dX5_made_13 : decode cX5_made 13 = .ok (.getfield 12, 3) := by decide +kernel
theorem dX5_made_16 : decode cX5_made 16 = .ok (.iload_n 1, 1) := by decide +kernel
theorem dX5_made_17 : decode cX5_made 17 = .ok (.iload_n 2, 1) := by decide +kernel
theorem dX5_made_18 : decode cX5_made 18 = .ok (.iload_n 3, 1) := by decide +kernel
theorem dX5_made_19 : decode cX5_made 19 = .ok (.iload 4, 2) := by decide +kernel
theorem dX5_made_21 : decode cX5_made 21 = .ok (.invokevirtual 71, 3) := by decide +kernel
theorem dX5_made_24 : decode cX5_made 24 = .ok (.ireturn, 1) := by decide +kernel
theorem dX5_readRule_0 : decode cX5_readRule 0 = .ok (.aload_n 0, 1) := by decide +kernel
theorem dX5_readRule_1 : decode cX5_readRule 1 = .ok (.invokevirtual 75, 3) := by decide +kernel
theorem dX5_readRule_4 : decode cX5_readRule 4 = .ok (.istore_n 1, 1) := by decide +kernel
theorem dX5_readRule_5 : decode cX5_readRule 5 = .ok (.aload_n 0, 1) := by decide +kernel
theorem dX5_readRule_6 : decode cX5_readRule 6 = .ok (.bipush 62, 2) := by decide +kernel
theorem dX5_readRule_8 : decode cX5_readRule 8 = .ok (.invokevirtual 78, 3) := by decide +kernel
theorem dX5_readRule_11 : decode cX5_readRule 11 = .ok (.ifCond .ne 5, 3) := by decide +kernel
theorem dX5_readRule_14 : decode cX5_readRule 14 = .ok (.iload_n 1, 1) := by decide +kernel
theorem dX5_readRule_15 : decode cX5_readRule 15 = .ok (.ireturn, 1) := by decide +kernel
theorem dX5_readRule_16 : decode cX5_readRule 16 = .ok (.aload_n 0, 1) := by decide +kernel
theorem dX5_readRule_17 : decode cX5_readRule 17 = .ok (.getfield 35, 3) := by decide +kernel
theorem dX5_readRule_20 : decode cX5_readRule 20 = .ok (.istore_n 2, 1) := by decide +kernel
theorem dX5_readRule_21 : decode cX5_readRule 21 = .ok (.aload_n 0, 1) := by decide +kernel
theorem dX5_readRule_22 : decode cX5_readRule 22 = .ok (.invokevirtual 47, 3) := by decide +kernel
theorem dX5_readRule_25 : decode cX5_readRule 25 = .ok (.istore_n 3, 1) := by decide +kernel
theorem dX5_readRule_26 : decode cX5_readRule 26 = .ok (.aload_n 0, 1) := by decide +kernel
theorem dX5_readRule_27 : decode cX5_readRule 27 = .ok (.bipush 62, 2) := by decide +kernel
theorem dX5_readRule_29 : decode cX5_readRule 29 = .ok (.iload_n 1, 1) := by decide +kernel
theorem dX5_readRule_30 : decode cX5_readRule 30 = .ok (.iload_n 3, 1) := by decide +kernel
theorem dX5_readRule_31 : decode cX5_readRule 31 = .ok (.iload_n 2, 1) := by decide +kernel
theorem dX5_readRule_32 : decode cX5_readRule 32 = .ok (.invokevirtual 82, 3) := by decide +kernel
theorem dX5_readRule_35 : decode cX5_readRule 35 = .ok (.ireturn, 1) := by decide +kernel
theorem dX5_readEither_0 : decode cX5_readEither 0 = .ok (.aload_n 0, 1) := by decide +kernel
theorem dX5_readEither_1 : decode cX5_readEither 1 = .ok (.invokevirtual 85, 3) := by decide +kernel
theorem dX5_readEither_4 : decode cX5_readEither 4 = .ok (.istore_n 1, 1) := by decide +kernel
theorem dX5_readEither_5 : decode cX5_readEither 5 = .ok (.iconst 0, 1) := by decide +kernel
theorem dX5_readEither_6 : decode cX5_readEither 6 = .ok (.istore_n 2, 1) := by decide +kernel
theorem dX5_readEither_7 : decode cX5_readEither 7 = .ok (.iload_n 2, 1) := by decide +kernel
theorem dX5_readEither_8 : decode cX5_readEither 8 = .ok (.bipush 9, 2) := by decide +kernel
theorem dX5_readEither_10 : decode cX5_readEither 10 = .ok (.if_icmp .ge 40, 3) := by decide +kernel
theorem dX5_readEither_13 : decode cX5_readEither 13 = .ok (.aload_n 0, 1) := by decide +kernel
theorem dX5_readEither_14 : decode cX5_readEither 14 = .ok (.bipush 47, 2) := by decide +kernel
theorem dX5_readEither_16 : decode cX5_readEither 16 = .ok (.invokevirtual 78, 3) := by decide +kernel
theorem dX5_readEither_19 : decode cX5_readEither 19 = .ok (.ifCond .eq 31, 3) := by decide +kernel
theorem dX5_readEither_22 : decode cX5_readEither 22 = .ok (.aload_n 0, 1) := by decide +kernel
theorem dX5_readEither_23 : decode cX5_readEither 23 = .ok (.getfield 35, 3) := by decide +kernel
theorem dX5_readEither_26 : decode cX5_readEither 26 = .ok (.istore_n 3, 1) := by decide +kernel
theorem dX5_readEither_27 : decode cX5_readEither 27 = .ok (.aload_n 0, 1) := by decide +kernel
theorem dX5_readEither_28 : decode cX5_readEither 28 = .ok (.invokevirtual 85, 3) := by decide +kernel
theorem dX5_readEither_31 : decode cX5_readEither 31 = .ok (.istore 4, 2) := by decide +kernel
theorem dX5_readEither_33 : decode cX5_readEither 33 = .ok (.aload_n 0, 1) := by decide +kernel
theorem dX5_readEither_34 : decode cX5_readEither 34 = .ok (.bipush 47, 2) := by decide +kernel
theorem dX5_readEither_36 : decode cX5_readEither 36 = .ok (.iload_n 1, 1) := by decide +kernel
theorem dX5_readEither_37 : decode cX5_readEither 37 = .ok (.iload 4, 2) := by decide +kernel
theorem dX5_readEither_39 : decode cX5_readEither 39 = .ok (.iload_n 3, 1) := by decide +kernel
theorem dX5_readEither_40 : decode cX5_readEither 40 = .ok (.invokevirtual 82, 3) := by decide +kernel
theorem dX5_readEither_43 : decode cX5_readEither 43 = .ok (.istore_n 1, 1) := by decide +kernel
theorem dX5_readEither_44 : decode cX5_readEither 44 = .ok (.iinc 2 1, 3) := by decide +kernel
theorem dX5_readEither_47 : decode cX5_readEither 47 = .ok (.goto (-40), 3) := by decide +kernel
theorem dX5_readEither_50 : decode cX5_readEither 50 = .ok (.iload_n 1, 1) := by decide +kernel
theorem dX5_readEither_51 : decode cX5_readEither 51 = .ok (.ireturn, 1) := by decide +kernel
theorem dX5_readBoth_0 : decode cX5_readBoth 0 = .ok (.aload_n 0, 1) := by decide +kernel
theorem dX5_readBoth_1 : decode cX5_readBoth 1 = .ok (.invokevirtual 88, 3) := by decide +kernel
theorem dX5_readBoth_4 : decode cX5_readBoth 4 = .ok (.istore_n 1, 1) := by decide +kernel
theorem dX5_readBoth_5 : decode cX5_readBoth 5 = .ok (.iconst 0, 1) := by decide +kernel
theorem dX5_readBoth_6 : decode cX5_readBoth 6 = .ok (.istore_n 2, 1) := by decide +kernel
theorem dX5_readBoth_7 : decode cX5_readBoth 7 = .ok (.iload_n 2, 1) := by decide +kernel
theorem dX5_readBoth_8 : decode cX5_readBoth 8 = .ok (.bipush 9, 2) := by decide +kernel
theorem dX5_readBoth_10 : decode cX5_readBoth 10 = .ok (.if_icmp .ge 40, 3) := by decide +kernel
theorem dX5_readBoth_13 : decode cX5_readBoth 13 = .ok (.aload_n 0, 1) := by decide +kernel
theorem dX5_readBoth_14 : decode cX5_readBoth 14 = .ok (.bipush 38, 2) := by decide +kernel
theorem dX5_readBoth_16 : decode cX5_readBoth 16 = .ok (.invokevirtual 78, 3) := by decide +kernel
theorem dX5_readBoth_19 : decode cX5_readBoth 19 = .ok (.ifCond .eq 31, 3) := by decide +kernel
theorem dX5_readBoth_22 : decode cX5_readBoth 22 = .ok (.aload_n 0, 1) := by decide +kernel
theorem dX5_readBoth_23 : decode cX5_readBoth 23 = .ok (.getfield 35, 3) := by decide +kernel
theorem dX5_readBoth_26 : decode cX5_readBoth 26 = .ok (.istore_n 3, 1) := by decide +kernel
theorem dX5_readBoth_27 : decode cX5_readBoth 27 = .ok (.aload_n 0, 1) := by decide +kernel
theorem dX5_readBoth_28 : decode cX5_readBoth 28 = .ok (.invokevirtual 88, 3) := by decide +kernel
theorem dX5_readBoth_31 : decode cX5_readBoth 31 = .ok (.istore 4, 2) := by decide +kernel
theorem dX5_readBoth_33 : decode cX5_readBoth 33 = .ok (.aload_n 0, 1) := by decide +kernel
theorem dX5_readBoth_34 : decode cX5_readBoth 34 = .ok (.bipush 38, 2) := by decide +kernel
theorem dX5_readBoth_36 : decode cX5_readBoth 36 = .ok (.iload_n 1, 1) := by decide +kernel
theorem dX5_readBoth_37 : decode cX5_readBoth 37 = .ok (.iload 4, 2) := by decide +kernel
theorem dX5_readBoth_39 : decode cX5_readBoth 39 = .ok (.iload_n 3, 1) := by decide +kernel
theorem dX5_readBoth_40 : decode cX5_readBoth 40 = .ok (.invokevirtual 82, 3) := by decide +kernel
theorem dX5_readBoth_43 : decode cX5_readBoth 43 = .ok (.istore_n 1, 1) := by decide +kernel
theorem dX5_readBoth_44 : decode cX5_readBoth 44 = .ok (.iinc 2 1, 3) := by decide +kernel
theorem dX5_readBoth_47 : decode cX5_readBoth 47 = .ok (.goto (-40), 3) := by decide +kernel
theorem dX5_readBoth_50 : decode cX5_readBoth 50 = .ok (.iload_n 1, 1) := by decide +kernel
theorem dX5_readBoth_51 : decode cX5_readBoth 51 = .ok (.ireturn, 1) := by decide +kernel
theorem dX5_readPair_0 : decode cX5_readPair 0 = .ok (.aload_n 0, 1) := by decide +kernel
theorem dX5_readPair_1 : decode cX5_readPair 1 = .ok (.invokevirtual 91, 3) := by decide +kernel
theorem dX5_readPair_4 : decode cX5_readPair 4 = .ok (.istore_n 1, 1) := by decide +kernel
theorem dX5_readPair_5 : decode cX5_readPair 5 = .ok (.aload_n 0, 1) := by decide +kernel
theorem dX5_readPair_6 : decode cX5_readPair 6 = .ok (.bipush 85, 2) := by decide +kernel
theorem dX5_readPair_8 : decode cX5_readPair 8 = .ok (.invokevirtual 78, 3) := by decide +kernel
theorem dX5_readPair_11 : decode cX5_readPair 11 = .ok (.ifCond .eq 8, 3) := by decide +kernel
theorem dX5_readPair_14 : decode cX5_readPair 14 = .ok (.bipush 85, 2) := by decide +kernel
theorem dX5_readPair_16 : decode cX5_readPair 16 = .ok (.goto 18, 3) := by decide +kernel
theorem dX5_readPair_19 : decode cX5_readPair 19 = .ok (.aload_n 0, 1) := by decide +kernel
theorem dX5_readPair_20 : decode cX5_readPair 20 = .ok (.bipush 83, 2) := by decide +kernel
theorem dX5_readPair_22 : decode cX5_readPair 22 = .ok (.invokevirtual 78, 3) := by decide +kernel
theorem dX5_readPair_25 : decode cX5_readPair 25 = .ok (.ifCond .eq 8, 3) := by decide +kernel
theorem dX5_readPair_28 : decode cX5_readPair 28 = .ok (.bipush 83, 2) := by decide +kernel
theorem dX5_readPair_30 : decode cX5_readPair 30 = .ok (.goto 4, 3) := by decide +kernel
theorem dX5_readPair_33 : decode cX5_readPair 33 = .ok (.iconst (-1), 1) := by decide +kernel
theorem dX5_readPair_34 : decode cX5_readPair 34 = .ok (.istore_n 2, 1) := by decide +kernel
theorem dX5_readPair_35 : decode cX5_readPair 35 = .ok (.iload_n 2, 1) := by decide +kernel
theorem dX5_readPair_36 : decode cX5_readPair 36 = .ok (.iconst (-1), 1) := by decide +kernel
theorem dX5_readPair_37 : decode cX5_readPair 37 = .ok (.if_icmp .ne 5, 3) := by decide +kernel
theorem dX5_readPair_40 : decode cX5_readPair 40 = .ok (.iload_n 1, 1) := by decide +kernel
theorem dX5_readPair_41 : decode cX5_readPair 41 = .ok (.ireturn, 1) := by decide +kernel
theorem dX5_readPair_42 : decode cX5_readPair 42 = .ok (.aload_n 0, 1) := by decide +kernel
theorem dX5_readPair_43 : decode cX5_readPair 43 = .ok (.getfield 35, 3) := by decide +kernel
theorem dX5_readPair_46 : decode cX5_readPair 46 = .ok (.istore_n 3, 1) := by decide +kernel
theorem dX5_readPair_47 : decode cX5_readPair 47 = .ok (.aload_n 0, 1) := by decide +kernel
theorem dX5_readPair_48 : decode cX5_readPair 48 = .ok (.invokevirtual 88, 3) := by decide +kernel
theorem dX5_readPair_51 : decode cX5_readPair 51 = .ok (.istore 4, 2) := by decide +kernel
theorem dX5_readPair_53 : decode cX5_readPair 53 = .ok (.aload_n 0, 1) := by decide +kernel
theorem dX5_readPair_54 : decode cX5_readPair 54 = .ok (.iload_n 2, 1) := by decide +kernel
theorem dX5_readPair_55 : decode cX5_readPair 55 = .ok (.iload_n 1, 1) := by decide +kernel
theorem dX5_readPair_56 : decode cX5_readPair 56 = .ok (.iload 4, 2) := by decide +kernel
theorem dX5_readPair_58 : decode cX5_readPair 58 = .ok (.iload_n 3, 1) := by decide +kernel
theorem dX5_readPair_59 : decode cX5_readPair 59 = .ok (.invokevirtual 82, 3) := by decide +kernel
theorem dX5_readPair_62 : decode cX5_readPair 62 = .ok (.ireturn, 1) := by decide +kernel
theorem dX5_readOne_0 : decode cX5_readOne 0 = .ok (.aload_n 0, 1) := by decide +kernel
theorem dX5_readOne_1 : decode cX5_readOne 1 = .ok (.invokevirtual 55, 3) := by decide +kernel
theorem dX5_readOne_4 : decode cX5_readOne 4 = .ok (.istore_n 1, 1) := by decide +kernel
theorem dX5_readOne_5 : decode cX5_readOne 5 = .ok (.iload_n 1, 1) := by decide +kernel
theorem dX5_readOne_6 : decode cX5_readOne 6 = .ok (.bipush 40, 2) := by decide +kernel
theorem dX5_readOne_8 : decode cX5_readOne 8 = .ok (.if_icmp .ne 8, 3) := by decide +kernel
theorem dX5_readOne_11 : decode cX5_readOne 11 = .ok (.aload_n 0, 1) := by decide +kernel
theorem dX5_readOne_12 : decode cX5_readOne 12 = .ok (.invokevirtual 94, 3) := by decide +kernel
theorem dX5_readOne_15 : decode cX5_readOne 15 = .ok (.ireturn, 1) := by decide +kernel
theorem dX5_readOne_16 : decode cX5_readOne 16 = .ok (.iload_n 1, 1) := by decide +kernel
theorem dX5_readOne_17 : decode cX5_readOne 17 = .ok (.bipush 46, 2) := by decide +kernel
theorem dX5_readOne_19 : decode cX5_readOne 19 = .ok (.if_icmp .eq 15, 3) := by decide +kernel
theorem dX5_readOne_22 : decode cX5_readOne 22 = .ok (.iload_n 1, 1) := by decide +kernel
theorem dX5_readOne_23 : decode cX5_readOne 23 = .ok (.bipush 97, 2) := by decide +kernel
theorem dX5_readOne_25 : decode cX5_readOne 25 = .ok (.if_icmp .lt 13, 3) := by decide +kernel
theorem dX5_readOne_28 : decode cX5_readOne 28 = .ok (.iload_n 1, 1) := by decide +kernel
theorem dX5_readOne_29 : decode cX5_readOne 29 = .ok (.bipush 101, 2) := by decide +kernel
theorem dX5_readOne_31 : decode cX5_readOne 31 = .ok (.if_icmp .ge 7, 3) := by decide +kernel
theorem dX5_readOne_34 : decode cX5_readOne 34 = .ok (.iconst 1, 1) := by decide +kernel
theorem dX5_readOne_35 : decode cX5_readOne 35 = .ok (.goto 4, 3) := by decide +kernel
theorem dX5_readOne_38 : decode cX5_readOne 38 = .ok (.iconst 0, 1) := by decide +kernel
theorem dX5_readOne_39 : decode cX5_readOne 39 = .ok (.istore_n 2, 1) := by decide +kernel
theorem dX5_readOne_40 : decode cX5_readOne 40 = .ok (.iload_n 2, 1) := by decide +kernel
theorem dX5_readOne_41 : decode cX5_readOne 41 = .ok (.ifCond .ne 17, 3) := by decide +kernel
theorem dX5_readOne_44 : decode cX5_readOne 44 = .ok (.iload_n 1, 1) := by decide +kernel
theorem dX5_readOne_45 : decode cX5_readOne 45 = .ok (.invokestatic 97, 3) := by decide +kernel
theorem dX5_readOne_48 : decode cX5_readOne 48 = .ok (.ifCond .ne 10, 3) := by decide +kernel
theorem dX5_readOne_51 : decode cX5_readOne 51 = .ok (.aload_n 0, 1) := by decide +kernel
theorem dX5_readOne_52 : decode cX5_readOne 52 = .ok (.invokevirtual 58, 3) := by decide +kernel
theorem dX5_readOne_55 : decode cX5_readOne 55 = .ok (.bipush (-9), 2) := by decide +kernel
theorem dX5_readOne_57 : decode cX5_readOne 57 = .ok (.ireturn, 1) := by decide +kernel
theorem dX5_readOne_58 : decode cX5_readOne 58 = .ok (.aload_n 0, 1) := by decide +kernel
theorem dX5_readOne_59 : decode cX5_readOne 59 = .ok (.invokevirtual 68, 3) := by decide +kernel
theorem dX5_readOne_62 : decode cX5_readOne 62 = .ok (.ifCond .ne 6, 3) := by decide +kernel
theorem dX5_readOne_65 : decode cX5_readOne 65 = .ok (.bipush (-9), 2) := by decide +kernel
theorem dX5_readOne_67 : decode cX5_readOne 67 = .ok (.ireturn, 1) := by decide +kernel
theorem dX5_readOne_68 : decode cX5_readOne 68 = .ok (.aload_n 0, 1) := by decide +kernel
theorem dX5_readOne_69 : decode cX5_readOne 69 = .ok (.getfield 35, 3) := by decide +kernel
theorem dX5_readOne_72 : decode cX5_readOne 72 = .ok (.istore_n 3, 1) := by decide +kernel
theorem dX5_readOne_73 : decode cX5_readOne 73 = .ok (.aload_n 0, 1) := by decide +kernel
theorem dX5_readOne_74 : decode cX5_readOne 74 = .ok (.iload_n 1, 1) := by decide +kernel
theorem dX5_readOne_75 : decode cX5_readOne 75 = .ok (.iload_n 2, 1) := by decide +kernel
theorem dX5_readOne_76 : decode cX5_readOne 76 = .ok (.ifCond .eq 8, 3) := by decide +kernel
theorem dX5_readOne_79 : decode cX5_readOne 79 = .ok (.bipush (-9), 2) := by decide +kernel
theorem dX5_readOne_81 : decode cX5_readOne 81 = .ok (.goto 7, 3) := by decide +kernel
theorem dX5_readOne_84 : decode cX5_readOne 84 = .ok (.aload_n 0, 1) := by decide +kernel
theorem dX5_readOne_85 : decode cX5_readOne 85 = .ok (.invokevirtual 91, 3) := by decide +kernel
theorem dX5_readOne_88 : decode cX5_readOne 88 = .ok (.bipush (-9), 2) := by decide +kernel
theorem dX5_readOne_90 : decode cX5_readOne 90 = .ok (.iload_n 3, 1) := by decide +kernel
theorem dX5_readOne_91 : decode cX5_readOne 91 = .ok (.invokevirtual 82, 3) := by decide +kernel
theorem dX5_readOne_94 : decode cX5_readOne 94 = .ok (.ireturn, 1) := by decide +kernel
theorem dX5_readBracket_0 : decode cX5_readBracket 0 = .ok (.aload_n 0, 1) := by decide +kernel
theorem dX5_readBracket_1 : decode cX5_readBracket 1 = .ok (.getfield 32, 3) := by decide +kernel
theorem dX5_readBracket_4 : decode cX5_readBracket 4 = .ok (.bipush 7, 2) := by decide +kernel
theorem dX5_readBracket_6 : decode cX5_readBracket 6 = .ok (.if_icmp .le 10, 3) := by decide +kernel
theorem dX5_readBracket_9 : decode cX5_readBracket 9 = .ok (.aload_n 0, 1) := by decide +kernel
theorem dX5_readBracket_10 : decode cX5_readBracket 10 = .ok (.invokevirtual 58, 3) := by decide +kernel
theorem dX5_readBracket_13 : decode cX5_readBracket 13 = .ok (.bipush (-9), 2) := by decide +kernel
theorem dX5_readBracket_15 : decode cX5_readBracket 15 = .ok (.ireturn, 1) := by decide +kernel
theorem dX5_readBracket_16 : decode cX5_readBracket 16 = .ok (.aload_n 0, 1) := by decide +kernel
theorem dX5_readBracket_17 : decode cX5_readBracket 17 = .ok (.dup, 1) := by decide +kernel
theorem dX5_readBracket_18 : decode cX5_readBracket 18 = .ok (.getfield 32, 3) := by decide +kernel
theorem dX5_readBracket_21 : decode cX5_readBracket 21 = .ok (.iconst 1, 1) := by decide +kernel
theorem dX5_readBracket_22 : decode cX5_readBracket 22 = .ok (.iadd, 1) := by decide +kernel
theorem dX5_readBracket_23 : decode cX5_readBracket 23 = .ok (.putfield 32, 3) := by decide +kernel
theorem dX5_readBracket_26 : decode cX5_readBracket 26 = .ok (.aload_n 0, 1) := by decide +kernel
theorem dX5_readBracket_27 : decode cX5_readBracket 27 = .ok (.dup, 1) := by decide +kernel
theorem dX5_readBracket_28 : decode cX5_readBracket 28 = .ok (.getfield 26, 3) := by decide +kernel
theorem dX5_readBracket_31 : decode cX5_readBracket 31 = .ok (.iconst 1, 1) := by decide +kernel
theorem dX5_readBracket_32 : decode cX5_readBracket 32 = .ok (.iadd, 1) := by decide +kernel
theorem dX5_readBracket_33 : decode cX5_readBracket 33 = .ok (.putfield 26, 3) := by decide +kernel
theorem dX5_readBracket_36 : decode cX5_readBracket 36 = .ok (.aload_n 0, 1) := by decide +kernel
theorem dX5_readBracket_37 : decode cX5_readBracket 37 = .ok (.invokevirtual 47, 3) := by decide +kernel
theorem dX5_readBracket_40 : decode cX5_readBracket 40 = .ok (.istore_n 1, 1) := by decide +kernel
theorem dX5_readBracket_41 : decode cX5_readBracket 41 = .ok (.aload_n 0, 1) := by decide +kernel
theorem dX5_readBracket_42 : decode cX5_readBracket 42 = .ok (.invokevirtual 51, 3) := by decide +kernel
theorem dX5_readBracket_45 : decode cX5_readBracket 45 = .ok (.ifCond .ne 16, 3) := by decide +kernel
theorem dX5_readBracket_48 : decode cX5_readBracket 48 = .ok (.aload_n 0, 1) := by decide +kernel
theorem dX5_readBracket_49 : decode cX5_readBracket 49 = .ok (.invokevirtual 55, 3) := by decide +kernel
theorem dX5_readBracket_52 : decode cX5_readBracket 52 = .ok (.bipush 41, 2) := by decide +kernel
theorem dX5_readBracket_54 : decode cX5_readBracket 54 = .ok (.if_icmp .eq 7, 3) := by decide +kernel
theorem dX5_readBracket_57 : decode cX5_readBracket 57 = .ok (.aload_n 0, 1) := by decide +kernel
theorem dX5_readBracket_58 : decode cX5_readBracket 58 = .ok (.invokevirtual 58, 3) := by decide +kernel
theorem dX5_readBracket_61 : decode cX5_readBracket 61 = .ok (.aload_n 0, 1) := by decide +kernel
theorem dX5_readBracket_62 : decode cX5_readBracket 62 = .ok (.dup, 1) := by decide +kernel
theorem dX5_readBracket_63 : decode cX5_readBracket 63 = .ok (.getfield 26, 3) := by decide +kernel
theorem dX5_readBracket_66 : decode cX5_readBracket 66 = .ok (.iconst 1, 1) := by decide +kernel
theorem dX5_readBracket_67 : decode cX5_readBracket 67 = .ok (.iadd, 1) := by decide +kernel
theorem dX5_readBracket_68 : decode cX5_readBracket 68 = .ok (.putfield 26, 3) := by decide +kernel
theorem dX5_readBracket_71 : decode cX5_readBracket 71 = .ok (.aload_n 0, 1) := by decide +kernel
theorem dX5_readBracket_72 : decode cX5_readBracket 72 = .ok (.dup, 1) := by decide +kernel
theorem dX5_readBracket_73 : decode cX5_readBracket 73 = .ok (.getfield 32, 3) := by decide +kernel
theorem dX5_readBracket_76 : decode cX5_readBracket 76 = .ok (.iconst 1, 1) := by decide +kernel
theorem dX5_readBracket_77 : decode cX5_readBracket 77 = .ok (.isub, 1) := by decide +kernel
theorem dX5_readBracket_78 : decode cX5_readBracket 78 = .ok (.putfield 32, 3) := by decide +kernel
theorem dX5_readBracket_81 : decode cX5_readBracket 81 = .ok (.iload_n 1, 1) := by decide +kernel
theorem dX5_readBracket_82 : decode cX5_readBracket 82 = .ok (.ireturn, 1) := by decide +kernel
theorem dX5_standsAheadOfOne_0 : decode cX5_standsAheadOfOne 0 = .ok (.iload_n 0, 1) := by decide +kernel
theorem dX5_standsAheadOfOne_1 : decode cX5_standsAheadOfOne 1 = .ok (.bipush 33, 2) := by decide +kernel
theorem dX5_standsAheadOfOne_3 : decode cX5_standsAheadOfOne 3 = .ok (.if_icmp .ne 5, 3) := by decide +kernel
theorem dX5_standsAheadOfOne_6 : decode cX5_standsAheadOfOne 6 = .ok (.iconst 1, 1) := by decide +kernel
theorem dX5_standsAheadOfOne_7 : decode cX5_standsAheadOfOne 7 = .ok (.ireturn, 1) := by decide +kernel
theorem dX5_standsAheadOfOne_8 : decode cX5_standsAheadOfOne 8 = .ok (.iload_n 0, 1) := by decide +kernel
theorem dX5_standsAheadOfOne_9 : decode cX5_standsAheadOfOne 9 = .ok (.bipush 85, 2) := by decide +kernel
theorem dX5_standsAheadOfOne_11 : decode cX5_standsAheadOfOne 11 = .ok (.if_icmp .eq 27, 3) := by decide +kernel
theorem dX5_standsAheadOfOne_14 : decode cX5_standsAheadOfOne 14 = .ok (.iload_n 0, 1) := by decide +kernel
theorem dX5_standsAheadOfOne_15 : decode cX5_standsAheadOfOne 15 = .ok (.bipush 83, 2) := by decide +kernel
theorem dX5_standsAheadOfOne_17 : decode cX5_standsAheadOfOne 17 = .ok (.if_icmp .eq 21, 3) := by decide +kernel
theorem dX5_standsAheadOfOne_20 : decode cX5_standsAheadOfOne 20 = .ok (.iload_n 0, 1) := by decide +kernel
theorem dX5_standsAheadOfOne_21 : decode cX5_standsAheadOfOne 21 = .ok (.invokestatic 100, 3) := by decide +kernel
theorem dX5_standsAheadOfOne_24 : decode cX5_standsAheadOfOne 24 = .ok (.ifCond .ne 10, 3) := by decide +kernel
theorem dX5_standsAheadOfOne_27 : decode cX5_standsAheadOfOne 27 = .ok (.iload_n 0, 1) := by decide +kernel
theorem dX5_standsAheadOfOne_28 : decode cX5_standsAheadOfOne 28 = .ok (.invokestatic 103, 3) := by decide +kernel
theorem dX5_standsAheadOfOne_31 : decode cX5_standsAheadOfOne 31 = .ok (.ifCond .eq 7, 3) := by decide +kernel
theorem dX5_standsAheadOfOne_34 : decode cX5_standsAheadOfOne 34 = .ok (.iconst 1, 1) := by decide +kernel
theorem dX5_standsAheadOfOne_35 : decode cX5_standsAheadOfOne 35 = .ok (.goto 4, 3) := by decide +kernel
theorem dX5_standsAheadOfOne_38 : decode cX5_standsAheadOfOne 38 = .ok (.iconst 0, 1) := by decide +kernel
theorem dX5_standsAheadOfOne_39 : decode cX5_standsAheadOfOne 39 = .ok (.ireturn, 1) := by decide +kernel
theorem dX6_init_0 : decode cX6_init 0 = .ok (.aload_n 0, 1) := by decide +kernel
theorem dX6_init_1 : decode cX6_init 1 = .ok (.invokespecial 3, 3) := by decide +kernel
theorem dX6_init_4 : decode cX6_init 4 = .ok (.aload_n 0, 1) := by decide +kernel
theorem dX6_init_5 : decode cX6_init 5 = .ok (.bipush 9, 2) := by decide +kernel
theorem dX6_init_7 : decode cX6_init 7 = .ok (.newarray .int, 2) := by decide +kernel
theorem dX6_init_9 : decode cX6_init 9 = .ok (.putfield 9, 3) := by decide +kernel
theorem dX6_init_12 : decode cX6_init 12 = .ok (.aload_n 0, 1) := by decide +kernel
theorem dX6_init_13 : decode cX6_init 13 = .ok (.bipush 9, 2) := by decide +kernel
theorem dX6_init_15 : decode cX6_init 15 = .ok (.newarray .int, 2) := by decide +kernel
theorem dX6_init_17 : decode cX6_init 17 = .ok (.putfield 15, 3) := by decide +kernel
theorem dX6_init_20 : decode cX6_init 20 = .ok (.aload_n 0, 1) := by decide +kernel
theorem dX6_init_21 : decode cX6_init 21 = .ok (.bipush 9, 2) := by decide +kernel
theorem dX6_init_23 : decode cX6_init 23 = .ok (.newarray .int, 2) := by decide +kernel
theorem dX6_init_25 : decode cX6_init 25 = .ok (.putfield 18, 3) := by decide +kernel
theorem dX6_init_28 : decode cX6_init 28 = .ok (.aload_n 0, 1) := by decide +kernel
theorem dX6_init_29 : decode cX6_init 29 = .ok (.bipush 9, 2) := by decide +kernel
theorem dX6_init_31 : decode cX6_init 31 = .ok (.newarray .int, 2) := by decide +kernel
theorem dX6_init_33 : decode cX6_init 33 = .ok (.putfield 21, 3) := by decide +kernel
theorem dX6_init_36 : decode cX6_init 36 = .ok (.aload_n 0, 1) := by decide +kernel
theorem dX6_init_37 : decode cX6_init 37 = .ok (.bipush 9, 2) := by decide +kernel
theorem dX6_init_39 : decode cX6_init 39 = .ok (.newarray .int, 2) := by decide +kernel
theorem dX6_init_41 : decode cX6_init 41 = .ok (.putfield 24, 3) := by decide +kernel
theorem dX6_init_44 : decode cX6_init 44 = .ok (.aload_n 0, 1) := by decide +kernel
theorem dX6_init_45 : decode cX6_init 45 = .ok (.bipush 9, 2) := by decide +kernel
theorem dX6_init_47 : decode cX6_init 47 = .ok (.newarray .boolean, 2) := by decide +kernel
theorem dX6_init_49 : decode cX6_init 49 = .ok (.putfield 27, 3) := by decide +kernel
theorem dX6_init_52 : decode cX6_init 52 = .ok (.aload_n 0, 1) := by decide +kernel
theorem dX6_init_53 : decode cX6_init 53 = .ok (.iconst 0, 1) := by decide +kernel
theorem dX6_init_54 : decode cX6_init 54 = .ok (.putfield 31, 3) := by decide +kernel
theorem dX6_init_57 : decode cX6_init 57 = .ok (.aload_n 0, 1) := by decide +kernel
theorem dX6_init_58 : decode cX6_init 58 = .ok (.iconst 0, 1) := by decide +kernel
theorem dX6_init_59 : decode cX6_init 59 = .ok (.putfield 35, 3) := by decide +kernel
theorem dX6_init_62 : decode cX6_init 62 = .ok (.aload_n 0, 1) := by decide +kernel
theorem dX6_init_63 : decode cX6_init 63 = .ok (.iconst 0, 1) := by decide +kernel
theorem dX6_init_64 : decode cX6_init 64 = .ok (.putfield 38, 3) := by decide +kernel
theorem dX6_init_67 : decode cX6_init 67 = .ok (.return_, 1) := by decide +kernel
theorem dX6_looksBehind_0 : decode cX6_looksBehind 0 = .ok (.iload_n 0, 1) := by decide +kernel
theorem dX6_looksBehind_1 : decode cX6_looksBehind 1 = .ok (.bipush 78, 2) := by decide +kernel
theorem dX6_looksBehind_3 : decode cX6_looksBehind 3 = .ok (.if_icmp .eq 27, 3) := by decide +kernel
theorem dX6_looksBehind_6 : decode cX6_looksBehind 6 = .ok (.iload_n 0, 1) := by decide +kernel
theorem dX6_looksBehind_7 : decode cX6_looksBehind 7 = .ok (.bipush 87, 2) := by decide +kernel
theorem dX6_looksBehind_9 : decode cX6_looksBehind 9 = .ok (.if_icmp .eq 21, 3) := by decide +kernel
theorem dX6_looksBehind_12 : decode cX6_looksBehind 12 = .ok (.iload_n 0, 1) := by decide +kernel
theorem dX6_looksBehind_13 : decode cX6_looksBehind 13 = .ok (.bipush 71, 2) := by decide +kernel
theorem dX6_looksBehind_15 : decode cX6_looksBehind 15 = .ok (.if_icmp .eq 15, 3) := by decide +kernel
theorem dX6_looksBehind_18 : decode cX6_looksBehind 18 = .ok (.iload_n 0, 1) := by decide +kernel
theorem dX6_looksBehind_19 : decode cX6_looksBehind 19 = .ok (.bipush 70, 2) := by decide +kernel
theorem dX6_looksBehind_21 : decode cX6_looksBehind 21 = .ok (.if_icmp .eq 9, 3) := by decide +kernel
theorem dX6_looksBehind_24 : decode cX6_looksBehind 24 = .ok (.iload_n 0, 1) := by decide +kernel
theorem dX6_looksBehind_25 : decode cX6_looksBehind 25 = .ok (.bipush 85, 2) := by decide +kernel
theorem dX6_looksBehind_27 : decode cX6_looksBehind 27 = .ok (.if_icmp .ne 7, 3) := by decide +kernel
theorem dX6_looksBehind_30 : decode cX6_looksBehind 30 = .ok (.iconst 1, 1) := by decide +kernel
theorem dX6_looksBehind_31 : decode cX6_looksBehind 31 = .ok (.goto 4, 3) := by decide +kernel
theorem dX6_looksBehind_34 : decode cX6_looksBehind 34 = .ok (.iconst 0, 1) := by decide +kernel
theorem dX6_looksBehind_35 : decode cX6_looksBehind 35 = .ok (.ireturn, 1) := by decide +kernel
theorem dX6_looksAhead_0 : decode cX6_looksAhead 0 = .ok (.iload_n 0, 1) := by decide +kernel
theorem dX6_looksAhead_1 : decode cX6_looksAhead 1 = .ok (.bipush 89, 2) := by decide +kernel
theorem dX6_looksAhead_3 : decode cX6_looksAhead 3 = .ok (.if_icmp .eq 21, 3) := by decide +kernel
theorem dX6_looksAhead_6 : decode cX6_looksAhead 6 = .ok (.iload_n 0, 1) := by decide +kernel
theorem dX6_looksAhead_7 : decode cX6_looksAhead 7 = .ok (.bipush 72, 2) := by decide +kernel
theorem dX6_looksAhead_9 : decode cX6_looksAhead 9 = .ok (.if_icmp .eq 15, 3) := by decide +kernel
theorem dX6_looksAhead_12 : decode cX6_looksAhead 12 = .ok (.iload_n 0, 1) := by decide +kernel
theorem dX6_looksAhead_13 : decode cX6_looksAhead 13 = .ok (.bipush 79, 2) := by decide +kernel
theorem dX6_looksAhead_15 : decode cX6_looksAhead 15 = .ok (.if_icmp .eq 9, 3) := by decide +kernel
theorem dX6_looksAhead_18 : decode cX6_looksAhead 18 = .ok (.iload_n 0, 1) := by decide +kernel
theorem dX6_looksAhead_19 : decode cX6_looksAhead 19 = .ok (.bipush 83, 2) := by decide +kernel
theorem dX6_looksAhead_21 : decode cX6_looksAhead 21 = .ok (.if_icmp .ne 7, 3) := by decide +kernel
theorem dX6_looksAhead_24 : decode cX6_looksAhead 24 = .ok (.iconst 1, 1) := by decide +kernel
theorem dX6_looksAhead_25 : decode cX6_looksAhead 25 = .ok (.goto 4, 3) := by decide +kernel
theorem dX6_looksAhead_28 : decode cX6_looksAhead 28 = .ok (.iconst 0, 1) := by decide +kernel
theorem dX6_looksAhead_29 : decode cX6_looksAhead 29 = .ok (.ireturn, 1) := by decide +kernel
theorem dX6_clear_0 : decode cX6_clear 0 = .ok (.aload_n 0, 1) := by decide +kernel
theorem dX6_clear_1 : decode cX6_clear 1 = .ok (.iconst 0, 1) := by decide +kernel
theorem dX6_clear_2 : decode cX6_clear 2 = .ok (.putfield 31, 3) := by decide +kernel
theorem dX6_clear_5 : decode cX6_clear 5 = .ok (.return_, 1) := by decide +kernel
theorem dX6_add_0 : decode cX6_add 0 = .ok (.aload_n 0, 1) := by decide +kernel
theorem dX6_add_1 : decode cX6_add 1 = .ok (.getfield 31, 3) := by decide +kernel
theorem dX6_add_4 : decode cX6_add 4 = .ok (.bipush 9, 2) := by decide +kernel
theorem dX6_add_6 : decode cX6_add 6 = .ok (.if_icmp .lt 6, 3) := by decide +kernel
theorem dX6_add_9 : decode cX6_add 9 = .ok (.bipush (-9), 2) := by decide +kernel
theorem dX6_add_11 : decode cX6_add 11 = .ok (.ireturn, 1) := by decide +kernel
theorem dX6_add_12 : decode cX6_add 12 = .ok (.aload_n 0, 1) := by decide +kernel
theorem dX6_add_13 : decode cX6_add 13 = .ok (.getfield 9, 3) := by decide +kernel
theorem dX6_add_16 : decode cX6_add 16 = .ok (.aload_n 0, 1) := by decide +kernel
theorem dX6_add_17 : decode cX6_add 17 = .ok (.getfield 31, 3) := by decide +kernel
theorem dX6_add_20 : decode cX6_add 20 = .ok (.iload_n 1, 1) := by decide +kernel
theorem dX6_add_21 : decode cX6_add 21 = .ok (.invokestatic 41, 3) := by decide +kernel
theorem dX6_add_24 : decode cX6_add 24 = .ok (.aload_n 0, 1) := by decide +kernel
theorem dX6_add_25 : decode cX6_add 25 = .ok (.getfield 15, 3) := by decide +kernel
theorem dX6_add_28 : decode cX6_add 28 = .ok (.aload_n 0, 1) := by decide +kernel
theorem dX6_add_29 : decode cX6_add 29 = .ok (.getfield 31, 3) := by decide +kernel
theorem dX6_add_32 : decode cX6_add 32 = .ok (.iload_n 2, 1) := by decide +kernel
theorem dX6_add_33 : decode cX6_add 33 = .ok (.invokestatic 41, 3) := by decide +kernel
theorem dX6_add_36 : decode cX6_add 36 = .ok (.aload_n 0, 1) := by decide +kernel
theorem dX6_add_37 : decode cX6_add 37 = .ok (.getfield 18, 3) := by decide +kernel
theorem dX6_add_40 : decode cX6_add 40 = .ok (.aload_n 0, 1) := by decide +kernel
theorem dX6_add_41 : decode cX6_add 41 = .ok (.getfield 31, 3) := by decide +kernel
theorem dX6_add_44 : decode cX6_add 44 = .ok (.iload_n 3, 1) := by decide +kernel
theorem dX6_add_45 : decode cX6_add 45 = .ok (.invokestatic 41, 3) := by decide +kernel
theorem dX6_add_48 : decode cX6_add 48 = .ok (.aload_n 0, 1) := by decide +kernel
theorem dX6_add_49 : decode cX6_add 49 = .ok (.getfield 21, 3) := by decide +kernel
theorem dX6_add_52 : decode cX6_add 52 = .ok (.aload_n 0, 1) := by decide +kernel
theorem dX6_add_53 : decode cX6_add 53 = .ok (.getfield 31, 3) := by decide +kernel
theorem dX6_add_56 : decode cX6_add 56 = .ok (.iload 4, 2) := by decide +kernel
theorem dX6_add_58 : decode cX6_add 58 = .ok (.invokestatic 41, 3) := by decide +kernel
theorem dX6_add_61 : decode cX6_add 61 = .ok (.aload_n 0, 1) := by decide +kernel
theorem dX6_add_62 : decode cX6_add 62 = .ok (.dup, 1) := by decide +kernel
theorem dX6_add_63 : decode cX6_add 63 = .ok (.getfield 31, 3) := by decide +kernel
theorem dX6_add_66 : decode cX6_add 66 = .ok (.iconst 1, 1) := by decide +kernel
theorem dX6_add_67 : decode cX6_add 67 = .ok (.iadd, 1) := by decide +kernel
theorem dX6_add_68 : decode cX6_add 68 = .ok (.putfield 31, 3) := by decide +kernel
theorem dX6_add_71 : decode cX6_add 71 = .ok (.aload_n 0, 1) := by decide +kernel
theorem dX6_add_72 : decode cX6_add 72 = .ok (.getfield 31, 3) := by decide +kernel
theorem dX6_add_75 : decode cX6_add 75 = .ok (.iconst 1, 1) := by decide +kernel
theorem dX6_add_76 : decode cX6_add 76 = .ok (.isub, 1) := by decide +kernel
theorem dX6_add_77 : decode cX6_add 77 = .ok (.ireturn, 1) := by decide +kernel
theorem dX6_firstPastFault_0 : decode cX6_firstPastFault 0 = .ok (.bipush (-9), 2) := by decide +kernel
theorem dX6_firstPastFault_2 : decode cX6_firstPastFault 2 = .ok (.istore_n 1, 1) := by decide +kernel
theorem dX6_firstPastFault_3 : decode cX6_firstPastFault 3 = .ok (.iconst 0, 1) := by decide +kernel
theorem dX6_firstPastFault_4 : decode cX6_firstPastFault 4 = .ok (.istore_n 2, 1) := by decide +kernel
theorem dX6_firstPastFault_5 : decode cX6_firstPastFault 5 = .ok (.iload_n 2, 1) := by decide +kernel
theorem dX6_firstPastFault_6 : decode cX6_firstPastFault 6 = .ok (.aload_n 0, 1) := by decide +kernel
theorem dX6_firstPastFault_7 : decode cX6_firstPastFault 7 = .ok (.getfield 31, 3) := by decide +kernel
theorem dX6_firstPastFault_10 : decode cX6_firstPastFault 10 = .ok (.if_icmp .ge 18, 3) := by decide +kernel
theorem dX6_firstPastFault_13 : decode cX6_firstPastFault 13 = .ok (.aload_n 0, 1) := by decide +kernel
theorem dX6_firstPastFault_14 : decode cX6_firstPastFault 14 = .ok (.getfield 27, 3) := by decide +kernel
theorem dX6_firstPastFault_17 : decode cX6_firstPastFault 17 = .ok (.iload_n 2, 1) := by decide +kernel
theorem dX6_firstPastFault_18 : decode cX6_firstPastFault 18 = .ok (.iconst 0, 1) := by decide +kernel
theorem dX6_firstPastFault_19 : decode cX6_firstPastFault 19 = .ok (.invokestatic 45, 3) := by decide +kernel
theorem dX6_firstPastFault_22 : decode cX6_firstPastFault 22 = .ok (.iinc 2 1, 3) := by decide +kernel
theorem dX6_firstPastFault_25 : decode cX6_firstPastFault 25 = .ok (.goto (-20), 3) := by decide +kernel
theorem dX6_firstPastFault_28 : decode cX6_firstPastFault 28 = .ok (.aload_n 0, 1) := by decide +kernel
theorem dX6_firstPastFault_29 : decode cX6_firstPastFault 29 = .ok (.getfield 31, 3) := by decide +kernel
theorem dX6_firstPastFault_32 : decode cX6_firstPastFault 32 = .ok (.iconst 1, 1) := by decide +kernel
theorem dX6_firstPastFault_33 : decode cX6_firstPastFault 33 = .ok (.isub, 1) := by decide +kernel
theorem dX6_firstPastFault_34 : decode cX6_firstPastFault 34 = .ok (.istore_n 2, 1) := by decide +kernel
theorem dX6_firstPastFault_35 : decode cX6_firstPastFault 35 = .ok (.iload_n 2, 1) := by decide +kernel
theorem dX6_firstPastFault_36 : decode cX6_firstPastFault 36 = .ok (.ifCond .lt 111, 3) := by decide +kernel
theorem dX6_firstPastFault_39 : decode cX6_firstPastFault 39 = .ok (.aload_n 0, 1) := by decide +kernel
theorem dX6_firstPastFault_40 : decode cX6_firstPastFault 40 = .ok (.getfield 9, 3) := by decide +kernel
theorem dX6_firstPastFault_43 : decode cX6_firstPastFault 43 = .ok (.iload_n 2, 1) := by decide +kernel
theorem dX6_firstPastFault_44 : decode cX6_firstPastFault 44 = .ok (.invokestatic 49, 3) := by decide +kernel
theorem dX6_firstPastFault_47 : decode cX6_firstPastFault 47 = .ok (.istore_n 3, 1) := by decide +kernel
theorem dX6_firstPastFault_48 : decode cX6_firstPastFault 48 = .ok (.aload_n 0, 1) := by decide +kernel
theorem dX6_firstPastFault_49 : decode cX6_firstPastFault 49 = .ok (.getfield 27, 3) := by decide +kernel
theorem dX6_firstPastFault_52 : decode cX6_firstPastFault 52 = .ok (.iload_n 2, 1) := by decide +kernel
theorem dX6_firstPastFault_53 : decode cX6_firstPastFault 53 = .ok (.invokestatic 53, 3) := by decide +kernel
theorem dX6_firstPastFault_56 : decode cX6_firstPastFault 56 = .ok (.ifCond .ne 10, 3) := by decide +kernel
theorem dX6_firstPastFault_59 : decode cX6_firstPastFault 59 = .ok (.iload_n 3, 1) := by decide +kernel
theorem dX6_firstPastFault_60 : decode cX6_firstPastFault 60 = .ok (.invokestatic 57, 3) := by decide +kernel
theorem dX6_firstPastFault_63 : decode cX6_firstPastFault 63 = .ok (.ifCond .eq 35, 3) := by decide +kernel
theorem dX6_firstPastFault_66 : decode cX6_firstPastFault 66 = .ok (.aload_n 0, 1) := by decide +kernel
theorem dX6_firstPastFault_67 : decode cX6_firstPastFault 67 = .ok (.getfield 27, 3) := by decide +kernel
theorem dX6_firstPastFault_70 : decode cX6_firstPastFault 70 = .ok (.aload_n 0, 1) := by decide +kernel
theorem dX6_firstPastFault_71 : decode cX6_firstPastFault 71 = .ok (.getfield 15, 3) := by decide +kernel
theorem dX6_firstPastFault_74 : decode cX6_firstPastFault 74 = .ok (.iload_n 2, 1) := by decide +kernel
theorem dX6_firstPastFault_75 : decode cX6_firstPastFault 75 = .ok (.invokestatic 49, 3) := by decide +kernel
theorem dX6_firstPastFault_78 : decode cX6_firstPastFault 78 = .ok (.iconst 1, 1) := by decide +kernel
theorem dX6_firstPastFault_79 : decode cX6_firstPastFault 79 = .ok (.invokestatic 45, 3) := by decide +kernel
theorem dX6_firstPastFault_82 : decode cX6_firstPastFault 82 = .ok (.aload_n 0, 1) := by decide +kernel
theorem dX6_firstPastFault_83 : decode cX6_firstPastFault 83 = .ok (.getfield 27, 3) := by decide +kernel
theorem dX6_firstPastFault_86 : decode cX6_firstPastFault 86 = .ok (.aload_n 0, 1) := by decide +kernel
theorem dX6_firstPastFault_87 : decode cX6_firstPastFault 87 = .ok (.getfield 18, 3) := by decide +kernel
theorem dX6_firstPastFault_90 : decode cX6_firstPastFault 90 = .ok (.iload_n 2, 1) := by decide +kernel
theorem dX6_firstPastFault_91 : decode cX6_firstPastFault 91 = .ok (.invokestatic 49, 3) := by decide +kernel
theorem dX6_firstPastFault_94 : decode cX6_firstPastFault 94 = .ok (.iconst 1, 1) := by decide +kernel
theorem dX6_firstPastFault_95 : decode cX6_firstPastFault 95 = .ok (.invokestatic 45, 3) := by decide +kernel
theorem dX6_firstPastFault_98 : decode cX6_firstPastFault 98 = .ok (.aload_n 0, 1) := by decide +kernel
theorem dX6_firstPastFault_99 : decode cX6_firstPastFault 99 = .ok (.getfield 21, 3) := by decide +kernel
theorem dX6_firstPastFault_102 : decode cX6_firstPastFault 102 = .ok (.iload_n 2, 1) := by decide +kernel
theorem dX6_firstPastFault_103 : decode cX6_firstPastFault 103 = .ok (.invokestatic 49, 3) := by decide +kernel
theorem dX6_firstPastFault_106 : decode cX6_firstPastFault 106 = .ok (.istore 4, 2) := by decide +kernel
theorem dX6_firstPastFault_108 : decode cX6_firstPastFault 108 = .ok (.aload_n 0, 1) := by decide +kernel
theorem dX6_firstPastFault_109 : decode cX6_firstPastFault 109 = .ok (.getfield 27, 3) := by decide +kernel
theorem dX6_firstPastFault_112 : decode cX6_firstPastFault 112 = .ok (.iload_n 2, 1) := by decide +kernel
theorem dX6_firstPastFault_113 : decode cX6_firstPastFault 113 = .ok (.invokestatic 53, 3) := by decide +kernel
theorem dX6_firstPastFault_116 : decode cX6_firstPastFault 116 = .ok (.ifCond .eq 25, 3) := by decide +kernel
theorem dX6_firstPastFault_119 : decode cX6_firstPastFault 119 = .ok (.iload_n 3, 1) := by decide +kernel
theorem dX6_firstPastFault_120 : decode cX6_firstPastFault 120 = .ok (.invokestatic 61, 3) := by decide +kernel
theorem dX6_firstPastFault_123 : decode cX6_firstPastFault 123 = .ok (.ifCond .eq 18, 3) := by decide +kernel
theorem dX6_firstPastFault_126 : decode cX6_firstPastFault 126 = .ok (.iload_n 1, 1) := by decide +kernel
theorem dX6_firstPastFault_127 : decode cX6_firstPastFault 127 = .ok (.bipush (-9), 2) := by decide +kernel
theorem dX6_firstPastFault_129 : decode cX6_firstPastFault 129 = .ok (.if_icmp .eq 9, 3) := by decide +kernel
theorem dX6_firstPastFault_132 : decode cX6_firstPastFault 132 = .ok (.iload 4, 2) := by decide +kernel
theorem dX6_firstPastFault_134 : decode cX6_firstPastFault 134 = .ok (.iload_n 1, 1) := by decide +kernel
theorem dX6_firstPastFault_135 : decode cX6_firstPastFault 135 = .ok (.if_icmp .ge 6, 3) := by decide +kernel
theorem dX6_firstPastFault_138 : decode cX6_firstPastFault 138 = .ok (.iload 4, 2) := by decide +kernel
theorem dX6_firstPastFault_140 : decode cX6_firstPastFault 140 = .ok (.istore_n 1, 1) := by decide +kernel
theorem dX6_firstPastFault_141 : decode cX6_firstPastFault 141 = .ok (.iinc 2 (-1), 3) := by decide +kernel
theorem dX6_firstPastFault_144 : decode cX6_firstPastFault 144 = .ok (.goto (-109), 3) := by decide +kernel
theorem dX6_firstPastFault_147 : decode cX6_firstPastFault 147 = .ok (.iload_n 1, 1) := by decide +kernel
theorem dX6_firstPastFault_148 : decode cX6_firstPastFault 148 = .ok (.ireturn, 1) := by decide +kernel
theorem dX6_giveBits_0 : decode cX6_giveBits 0 = .ok (.aload_n 0, 1) := by decide +kernel
theorem dX6_giveBits_1 : decode cX6_giveBits 1 = .ok (.iconst 0, 1) := by decide +kernel
theorem dX6_giveBits_2 : decode cX6_giveBits 2 = .ok (.putfield 35, 3) := by decide +kernel
theorem dX6_giveBits_5 : decode cX6_giveBits 5 = .ok (.iconst 0, 1) := by decide +kernel
theorem dX6_giveBits_6 : decode cX6_giveBits 6 = .ok (.istore_n 1, 1) := by decide +kernel
theorem dX6_giveBits_7 : decode cX6_giveBits 7 = .ok (.iload_n 1, 1) := by decide +kernel
theorem dX6_giveBits_8 : decode cX6_giveBits 8 = .ok (.aload_n 0, 1) := by decide +kernel
theorem dX6_giveBits_9 : decode cX6_giveBits 9 = .ok (.getfield 31, 3) := by decide +kernel
theorem dX6_giveBits_12 : decode cX6_giveBits 12 = .ok (.if_icmp .ge 55, 3) := by decide +kernel
theorem dX6_giveBits_15 : decode cX6_giveBits 15 = .ok (.aload_n 0, 1) := by decide +kernel
theorem dX6_giveBits_16 : decode cX6_giveBits 16 = .ok (.getfield 24, 3) := by decide +kernel
theorem dX6_giveBits_19 : decode cX6_giveBits 19 = .ok (.iload_n 1, 1) := by decide +kernel
theorem dX6_giveBits_20 : decode cX6_giveBits 20 = .ok (.bipush 31, 2) := by decide +kernel
theorem dX6_giveBits_22 : decode cX6_giveBits 22 = .ok (.invokestatic 41, 3) := by decide +kernel
theorem dX6_giveBits_25 : decode cX6_giveBits 25 = .ok (.aload_n 0, 1) := by decide +kernel
theorem dX6_giveBits_26 : decode cX6_giveBits 26 = .ok (.getfield 9, 3) := by decide +kernel
theorem dX6_giveBits_29 : decode cX6_giveBits 29 = .ok (.iload_n 1, 1) := by decide +kernel
theorem dX6_giveBits_30 : decode cX6_giveBits 30 = .ok (.invokestatic 49, 3) := by decide +kernel
theorem dX6_giveBits_33 : decode cX6_giveBits 33 = .ok (.invokestatic 61, 3) := by decide +kernel
theorem dX6_giveBits_36 : decode cX6_giveBits 36 = .ok (.ifCond .eq 25, 3) := by decide +kernel
theorem dX6_giveBits_39 : decode cX6_giveBits 39 = .ok (.aload_n 0, 1) := by decide +kernel
theorem dX6_giveBits_40 : decode cX6_giveBits 40 = .ok (.getfield 24, 3) := by decide +kernel
theorem dX6_giveBits_43 : decode cX6_giveBits 43 = .ok (.iload_n 1, 1) := by decide +kernel
theorem dX6_giveBits_44 : decode cX6_giveBits 44 = .ok (.aload_n 0, 1) := by decide +kernel
theorem dX6_giveBits_45 : decode cX6_giveBits 45 = .ok (.getfield 35, 3) := by decide +kernel
theorem dX6_giveBits_48 : decode cX6_giveBits 48 = .ok (.invokestatic 41, 3) := by decide +kernel
theorem dX6_giveBits_51 : decode cX6_giveBits 51 = .ok (.aload_n 0, 1) := by decide +kernel
theorem dX6_giveBits_52 : decode cX6_giveBits 52 = .ok (.dup, 1) := by decide +kernel
theorem dX6_giveBits_53 : decode cX6_giveBits 53 = .ok (.getfield 35, 3) := by decide +kernel
theorem dX6_giveBits_56 : decode cX6_giveBits 56 = .ok (.iconst 1, 1) := by decide +kernel
theorem dX6_giveBits_57 : decode cX6_giveBits 57 = .ok (.iadd, 1) := by decide +kernel
theorem dX6_giveBits_58 : decode cX6_giveBits 58 = .ok (.putfield 35, 3) := by decide +kernel
theorem dX6_giveBits_61 : decode cX6_giveBits 61 = .ok (.iinc 1 1, 3) := by decide +kernel
theorem dX6_giveBits_64 : decode cX6_giveBits 64 = .ok (.goto (-57), 3) := by decide +kernel
theorem dX6_giveBits_67 : decode cX6_giveBits 67 = .ok (.aload_n 0, 1) := by decide +kernel
theorem dX6_giveBits_68 : decode cX6_giveBits 68 = .ok (.iconst 0, 1) := by decide +kernel
theorem dX6_giveBits_69 : decode cX6_giveBits 69 = .ok (.putfield 38, 3) := by decide +kernel
theorem dX6_giveBits_72 : decode cX6_giveBits 72 = .ok (.iconst 0, 1) := by decide +kernel
theorem dX6_giveBits_73 : decode cX6_giveBits 73 = .ok (.istore_n 1, 1) := by decide +kernel
theorem dX6_giveBits_74 : decode cX6_giveBits 74 = .ok (.iload_n 1, 1) := by decide +kernel
theorem dX6_giveBits_75 : decode cX6_giveBits 75 = .ok (.aload_n 0, 1) := by decide +kernel
theorem dX6_giveBits_76 : decode cX6_giveBits 76 = .ok (.getfield 31, 3) := by decide +kernel
theorem dX6_giveBits_79 : decode cX6_giveBits 79 = .ok (.if_icmp .ge 50, 3) := by decide +kernel
theorem dX6_giveBits_82 : decode cX6_giveBits 82 = .ok (.aload_n 0, 1) := by decide +kernel
theorem dX6_giveBits_83 : decode cX6_giveBits 83 = .ok (.getfield 9, 3) := by decide +kernel
theorem dX6_giveBits_86 : decode cX6_giveBits 86 = .ok (.iload_n 1, 1) := by decide +kernel
theorem dX6_giveBits_87 : decode cX6_giveBits 87 = .ok (.invokestatic 49, 3) := by decide +kernel
theorem dX6_giveBits_90 : decode cX6_giveBits 90 = .ok (.invokestatic 57, 3) := by decide +kernel
theorem dX6_giveBits_93 : decode cX6_giveBits 93 = .ok (.ifCond .eq 30, 3) := by decide +kernel
theorem dX6_giveBits_96 : decode cX6_giveBits 96 = .ok (.aload_n 0, 1) := by decide +kernel
theorem dX6_giveBits_97 : decode cX6_giveBits 97 = .ok (.getfield 24, 3) := by decide +kernel
theorem dX6_giveBits_100 : decode cX6_giveBits 100 = .ok (.iload_n 1, 1) := by decide +kernel
theorem dX6_giveBits_101 : decode cX6_giveBits 101 = .ok (.aload_n 0, 1) := by decide +kernel
theorem dX6_giveBits_102 : decode cX6_giveBits 102 = .ok (.getfield 35, 3) := by decide +kernel
theorem dX6_giveBits_105 : decode cX6_giveBits 105 = .ok (.aload_n 0, 1) := by decide +kernel
theorem dX6_giveBits_106 : decode cX6_giveBits 106 = .ok (.getfield 38, 3) := by decide +kernel
theorem dX6_giveBits_109 : decode cX6_giveBits 109 = .ok (.iadd, 1) := by decide +kernel
theorem dX6_giveBits_110 : decode cX6_giveBits 110 = .ok (.invokestatic 41, 3) := by decide +kernel
theorem dX6_giveBits_113 : decode cX6_giveBits 113 = .ok (.aload_n 0, 1) := by decide +kernel
theorem dX6_giveBits_114 : decode cX6_giveBits 114 = .ok (.dup, 1) := by decide +kernel
theorem dX6_giveBits_115 : decode cX6_giveBits 115 = .ok (.getfield 38, 3) := by decide +kernel
theorem dX6_giveBits_118 : decode cX6_giveBits 118 = .ok (.iconst 1, 1) := by decide +kernel
theorem dX6_giveBits_119 : decode cX6_giveBits 119 = .ok (.iadd, 1) := by decide +kernel
theorem dX6_giveBits_120 : decode cX6_giveBits 120 = .ok (.putfield 38, 3) := by decide +kernel
theorem dX6_giveBits_123 : decode cX6_giveBits 123 = .ok (.iinc 1 1, 3) := by decide +kernel
theorem dX6_giveBits_126 : decode cX6_giveBits 126 = .ok (.goto (-52), 3) := by decide +kernel
theorem dX6_giveBits_129 : decode cX6_giveBits 129 = .ok (.return_, 1) := by decide +kernel
theorem dX6_futureBits_0 : decode cX6_futureBits 0 = .ok (.aload_n 0, 1) := by decide +kernel
theorem dX6_futureBits_1 : decode cX6_futureBits 1 = .ok (.getfield 35, 3) := by decide +kernel
theorem dX6_futureBits_4 : decode cX6_futureBits 4 = .ok (.ireturn, 1) := by decide +kernel
theorem dX6_pastBits_0 : decode cX6_pastBits 0 = .ok (.aload_n 0, 1) := by decide +kernel
theorem dX6_pastBits_1 : decode cX6_pastBits 1 = .ok (.getfield 38, 3) := by decide +kernel
theorem dX6_pastBits_4 : decode cX6_pastBits 4 = .ok (.ireturn, 1) := by decide +kernel
theorem dX6_bitsOfNoPlace_0 : decode cX6_bitsOfNoPlace 0 = .ok (.iconst 0, 1) := by decide +kernel
theorem dX6_bitsOfNoPlace_1 : decode cX6_bitsOfNoPlace 1 = .ok (.istore_n 1, 1) := by decide +kernel
theorem dX6_bitsOfNoPlace_2 : decode cX6_bitsOfNoPlace 2 = .ok (.iconst 0, 1) := by decide +kernel
theorem dX6_bitsOfNoPlace_3 : decode cX6_bitsOfNoPlace 3 = .ok (.istore_n 2, 1) := by decide +kernel
theorem dX6_bitsOfNoPlace_4 : decode cX6_bitsOfNoPlace 4 = .ok (.iload_n 2, 1) := by decide +kernel
theorem dX6_bitsOfNoPlace_5 : decode cX6_bitsOfNoPlace 5 = .ok (.aload_n 0, 1) := by decide +kernel
theorem dX6_bitsOfNoPlace_6 : decode cX6_bitsOfNoPlace 6 = .ok (.getfield 31, 3) := by decide +kernel
theorem dX6_bitsOfNoPlace_9 : decode cX6_bitsOfNoPlace 9 = .ok (.if_icmp .ge 49, 3) := by decide +kernel
theorem dX6_bitsOfNoPlace_12 : decode cX6_bitsOfNoPlace 12 = .ok (.aload_n 0, 1) := by decide +kernel
theorem dX6_bitsOfNoPlace_13 : decode cX6_bitsOfNoPlace 13 = .ok (.getfield 9, 3) := by decide +kernel
theorem dX6_bitsOfNoPlace_16 : decode cX6_bitsOfNoPlace 16 = .ok (.iload_n 2, 1) := by decide +kernel
theorem dX6_bitsOfNoPlace_17 : decode cX6_bitsOfNoPlace 17 = .ok (.invokestatic 49, 3) := by decide +kernel
theorem dX6_bitsOfNoPlace_20 : decode cX6_bitsOfNoPlace 20 = .ok (.istore_n 3, 1) := by decide +kernel
theorem dX6_bitsOfNoPlace_21 : decode cX6_bitsOfNoPlace 21 = .ok (.iload_n 3, 1) := by decide +kernel
theorem dX6_bitsOfNoPlace_22 : decode cX6_bitsOfNoPlace 22 = .ok (.bipush 87, 2) := by decide +kernel
theorem dX6_bitsOfNoPlace_24 : decode cX6_bitsOfNoPlace 24 = .ok (.if_icmp .eq 15, 3) := by decide +kernel
theorem dX6_bitsOfNoPlace_27 : decode cX6_bitsOfNoPlace 27 = .ok (.iload_n 3, 1) := by decide +kernel
theorem dX6_bitsOfNoPlace_28 : decode cX6_bitsOfNoPlace 28 = .ok (.bipush 71, 2) := by decide +kernel
theorem dX6_bitsOfNoPlace_30 : decode cX6_bitsOfNoPlace 30 = .ok (.if_icmp .eq 9, 3) := by decide +kernel
theorem dX6_bitsOfNoPlace_33 : decode cX6_bitsOfNoPlace 33 = .ok (.iload_n 3, 1) := by decide +kernel
theorem dX6_bitsOfNoPlace_34 : decode cX6_bitsOfNoPlace 34 = .ok (.bipush 72, 2) := by decide +kernel
theorem dX6_bitsOfNoPlace_36 : decode cX6_bitsOfNoPlace 36 = .ok (.if_icmp .ne 16, 3) := by decide +kernel
theorem dX6_bitsOfNoPlace_39 : decode cX6_bitsOfNoPlace 39 = .ok (.iload_n 1, 1) := by decide +kernel
theorem dX6_bitsOfNoPlace_40 : decode cX6_bitsOfNoPlace 40 = .ok (.iconst 1, 1) := by decide +kernel
theorem dX6_bitsOfNoPlace_41 : decode cX6_bitsOfNoPlace 41 = .ok (.aload_n 0, 1) := by decide +kernel
theorem dX6_bitsOfNoPlace_42 : decode cX6_bitsOfNoPlace 42 = .ok (.getfield 24, 3) := by decide +kernel
theorem dX6_bitsOfNoPlace_45 : decode cX6_bitsOfNoPlace 45 = .ok (.iload_n 2, 1) := by decide +kernel
theorem dX6_bitsOfNoPlace_46 : decode cX6_bitsOfNoPlace 46 = .ok (.invokestatic 49, 3) := by decide +kernel
theorem dX6_bitsOfNoPlace_49 : decode cX6_bitsOfNoPlace 49 = .ok (.ishl, 1) := by decide +kernel
theorem dX6_bitsOfNoPlace_50 : decode cX6_bitsOfNoPlace 50 = .ok (.ior, 1) := by decide +kernel
theorem dX6_bitsOfNoPlace_51 : decode cX6_bitsOfNoPlace 51 = .ok (.istore_n 1, 1) := by decide +kernel
theorem dX6_bitsOfNoPlace_52 : decode cX6_bitsOfNoPlace 52 = .ok (.iinc 2 1, 3) := by decide +kernel
theorem dX6_bitsOfNoPlace_55 : decode cX6_bitsOfNoPlace 55 = .ok (.goto (-51), 3) := by decide +kernel
theorem dX6_bitsOfNoPlace_58 : decode cX6_bitsOfNoPlace 58 = .ok (.iload_n 1, 1) := by decide +kernel
theorem dX6_bitsOfNoPlace_59 : decode cX6_bitsOfNoPlace 59 = .ok (.ireturn, 1) := by decide +kernel
theorem dX6_valuesAt_0 : decode cX6_valuesAt 0 = .ok (.iconst 0, 1) := by decide +kernel
theorem dX6_valuesAt_1 : decode cX6_valuesAt 1 = .ok (.istore_n 3, 1) := by decide +kernel
theorem dX6_valuesAt_2 : decode cX6_valuesAt 2 = .ok (.iconst 0, 1) := by decide +kernel
theorem dX6_valuesAt_3 : decode cX6_valuesAt 3 = .ok (.istore 4, 2) := by decide +kernel
theorem dX6_valuesAt_5 : decode cX6_valuesAt 5 = .ok (.iload 4, 2) := by decide +kernel
theorem dX6_valuesAt_7 : decode cX6_valuesAt 7 = .ok (.aload_n 0, 1) := by decide +kernel
theorem dX6_valuesAt_8 : decode cX6_valuesAt 8 = .ok (.getfield 31, 3) := by decide +kernel
theorem dX6_valuesAt_11 : decode cX6_valuesAt 11 = .ok (.if_icmp .ge 28, 3) := by decide +kernel
theorem dX6_valuesAt_14 : decode cX6_valuesAt 14 = .ok (.aload_n 0, 1) := by decide +kernel
theorem dX6_valuesAt_15 : decode cX6_valuesAt 15 = .ok (.iload 4, 2) := by decide +kernel
theorem dX6_valuesAt_17 : decode cX6_valuesAt 17 = .ok (.iload_n 1, 1) := by decide +kernel
theorem dX6_valuesAt_18 : decode cX6_valuesAt 18 = .ok (.iload_n 2, 1) := by decide +kernel
theorem dX6_valuesAt_19 : decode cX6_valuesAt 19 = .ok (.iload_n 3, 1) := by decide +kernel
theorem dX6_valuesAt_20 : decode cX6_valuesAt 20 = .ok (.invokevirtual 64, 3) := by decide +kernel
theorem dX6_valuesAt_23 : decode cX6_valuesAt 23 = .ok (.ifCond .eq 10, 3) := by decide +kernel
theorem dX6_valuesAt_26 : decode cX6_valuesAt 26 = .ok (.iload_n 3, 1) := by decide +kernel
theorem dX6_valuesAt_27 : decode cX6_valuesAt 27 = .ok (.iconst 1, 1) := by decide +kernel
theorem dX6_valuesAt_28 : decode cX6_valuesAt 28 = .ok (.iload 4, 2) := by decide +kernel
theorem dX6_valuesAt_30 : decode cX6_valuesAt 30 = .ok (.ishl, 1) := by decide +kernel
theorem dX6_valuesAt_31 : decode cX6_valuesAt 31 = .ok (.ior, 1) := by decide +kernel
theorem dX6_valuesAt_32 : decode cX6_valuesAt 32 = .ok (.istore_n 3, 1) := by decide +kernel
theorem dX6_valuesAt_33 : decode cX6_valuesAt 33 = .ok (.iinc 4 1, 3) := by decide +kernel
theorem dX6_valuesAt_36 : decode cX6_valuesAt 36 = .ok (.goto (-31), 3) := by decide +kernel
theorem dX6_valuesAt_39 : decode cX6_valuesAt 39 = .ok (.iload_n 3, 1) := by decide +kernel
theorem dX6_valuesAt_40 : decode cX6_valuesAt 40 = .ok (.ireturn, 1) := by decide +kernel
theorem dX6_holds_0 : decode cX6_holds 0 = .ok (.iload 4, 2) := by decide +kernel
theorem dX6_holds_2 : decode cX6_holds 2 = .ok (.i2l, 1) := by decide +kernel
theorem dX6_holds_3 : decode cX6_holds 3 = .ok (.aload_n 0, 1) := by decide +kernel
theorem dX6_holds_4 : decode cX6_holds 4 = .ok (.getfield 15, 3) := by decide +kernel
theorem dX6_holds_7 : decode cX6_holds 7 = .ok (.iload_n 1, 1) := by decide +kernel
theorem dX6_holds_8 : decode cX6_holds 8 = .ok (.invokestatic 49, 3) := by decide +kernel
theorem dX6_holds_11 : decode cX6_holds 11 = .ok (.invokestatic 68, 3) := by decide +kernel
theorem dX6_holds_14 : decode cX6_holds 14 = .ok (.istore 5, 2) := by decide +kernel
theorem dX6_holds_16 : decode cX6_holds 16 = .ok (.iload 4, 2) := by decide +kernel
theorem dX6_holds_18 : decode cX6_holds 18 = .ok (.i2l, 1) := by decide +kernel
theorem dX6_holds_19 : decode cX6_holds 19 = .ok (.aload_n 0, 1) := by decide +kernel
theorem dX6_holds_20 : decode cX6_holds 20 = .ok (.getfield 18, 3) := by decide +kernel
theorem dX6_holds_23 : decode cX6_holds 23 = .ok (.iload_n 1, 1) := by decide +kernel
theorem dX6_holds_24 : decode cX6_holds 24 = .ok (.invokestatic 49, 3) := by decide +kernel
theorem dX6_holds_27 : decode cX6_holds 27 = .ok (.invokestatic 68, 3) := by decide +kernel
theorem dX6_holds_30 : decode cX6_holds 30 = .ok (.istore 6, 2) := by decide +kernel
theorem dX6_holds_32 : decode cX6_holds 32 = .ok (.iload_n 3, 1) := by decide +kernel
theorem dX6_holds_33 : decode cX6_holds 33 = .ok (.i2l, 1) := by decide +kernel
theorem dX6_holds_34 : decode cX6_holds 34 = .ok (.aload_n 0, 1) := by decide +kernel
theorem dX6_holds_35 : decode cX6_holds 35 = .ok (.getfield 24, 3) := by decide +kernel
theorem dX6_holds_38 : decode cX6_holds 38 = .ok (.iload_n 1, 1) := by decide +kernel
theorem dX6_holds_39 : decode cX6_holds 39 = .ok (.invokestatic 49, 3) := by decide +kernel
theorem dX6_holds_42 : decode cX6_holds 42 = .ok (.invokestatic 68, 3) := by decide +kernel
theorem dX6_holds_45 : decode cX6_holds 45 = .ok (.istore 7, 2) := by decide +kernel
theorem dX6_holds_47 : decode cX6_holds 47 = .ok (.aload_n 0, 1) := by decide +kernel
theorem dX6_holds_48 : decode cX6_holds 48 = .ok (.getfield 9, 3) := by decide +kernel
theorem dX6_holds_51 : decode cX6_holds 51 = .ok (.iload_n 1, 1) := by decide +kernel
theorem dX6_holds_52 : decode cX6_holds 52 = .ok (.invokestatic 49, 3) := by decide +kernel
theorem dX6_holds_55 : decode cX6_holds 55 = .ok (.istore 8, 2) := by decide +kernel
theorem dX6_holds_57 : decode cX6_holds 57 = .ok (.iload 8, 2) := by decide +kernel
theorem dX6_holds_59 : decode cX6_holds 59 = .ok (.tableswitch 358 33 89 #[243, 358, 358, 358, 358, 254, 358, 358, 358, 358, 358, 358, 358, 241, 270, 358, 358, 358, 358, 358, 358, 358, 358, 358, 358, 358, 358, 358, 358, 286, 358, 358, 358, 358, 358, 358, 358, 321, 305, 305, 358, 358, 358, 358, 358, 302, 321, 358, 358, 358, 337, 358, 337, 358, 302, 358, 302], 241) := by decide +kernel
theorem dX6_holds_300 : decode cX6_holds 300 = .ok (.iconst 1, 1) := by decide +kernel
theorem dX6_holds_301 : decode cX6_holds 301 = .ok (.ireturn, 1) := by decide +kernel
theorem dX6_holds_302 : decode cX6_holds 302 = .ok (.iload 5, 2) := by decide +kernel
theorem dX6_holds_304 : decode cX6_holds 304 = .ok (.ifCond .ne 7, 3) := by decide +kernel
theorem dX6_holds_307 : decode cX6_holds 307 = .ok (.iconst 1, 1) := by decide +kernel
theorem dX6_holds_308 : decode cX6_holds 308 = .ok (.goto 4, 3) := by decide +kernel
theorem dX6_holds_311 : decode cX6_holds 311 = .ok (.iconst 0, 1) := by decide +kernel
theorem dX6_holds_312 : decode cX6_holds 312 = .ok (.ireturn, 1) := by decide +kernel
theorem dX6_holds_313 : decode cX6_holds 313 = .ok (.iload 5, 2) := by decide +kernel
theorem dX6_holds_315 : decode cX6_holds 315 = .ok (.ifCond .eq 12, 3) := by decide +kernel
theorem dX6_holds_318 : decode cX6_holds 318 = .ok (.iload 6, 2) := by decide +kernel
theorem dX6_holds_320 : decode cX6_holds 320 = .ok (.ifCond .eq 7, 3) := by decide +kernel
theorem dX6_holds_323 : decode cX6_holds 323 = .ok (.iconst 1, 1) := by decide +kernel
theorem dX6_holds_324 : decode cX6_holds 324 = .ok (.goto 4, 3) := by decide +kernel
theorem dX6_holds_327 : decode cX6_holds 327 = .ok (.iconst 0, 1) := by decide +kernel
theorem dX6_holds_328 : decode cX6_holds 328 = .ok (.ireturn, 1) := by decide +kernel
theorem dX6_holds_329 : decode cX6_holds 329 = .ok (.iload 5, 2) := by decide +kernel
theorem dX6_holds_331 : decode cX6_holds 331 = .ok (.ifCond .ne 8, 3) := by decide +kernel
theorem dX6_holds_334 : decode cX6_holds 334 = .ok (.iload 6, 2) := by decide +kernel
theorem dX6_holds_336 : decode cX6_holds 336 = .ok (.ifCond .eq 7, 3) := by decide +kernel
theorem dX6_holds_339 : decode cX6_holds 339 = .ok (.iconst 1, 1) := by decide +kernel
theorem dX6_holds_340 : decode cX6_holds 340 = .ok (.goto 4, 3) := by decide +kernel
theorem dX6_holds_343 : decode cX6_holds 343 = .ok (.iconst 0, 1) := by decide +kernel
theorem dX6_holds_344 : decode cX6_holds 344 = .ok (.ireturn, 1) := by decide +kernel
theorem dX6_holds_345 : decode cX6_holds 345 = .ok (.iload 5, 2) := by decide +kernel
theorem dX6_holds_347 : decode cX6_holds 347 = .ok (.ifCond .eq 8, 3) := by decide +kernel
theorem dX6_holds_350 : decode cX6_holds 350 = .ok (.iload 6, 2) := by decide +kernel
theorem dX6_holds_352 : decode cX6_holds 352 = .ok (.ifCond .eq 7, 3) := by decide +kernel
theorem dX6_holds_355 : decode cX6_holds 355 = .ok (.iconst 1, 1) := by decide +kernel
theorem dX6_holds_356 : decode cX6_holds 356 = .ok (.goto 4, 3) := by decide +kernel
theorem dX6_holds_359 : decode cX6_holds 359 = .ok (.iconst 0, 1) := by decide +kernel
theorem dX6_holds_360 : decode cX6_holds 360 = .ok (.ireturn, 1) := by decide +kernel
theorem dX6_holds_361 : decode cX6_holds 361 = .ok (.iload 7, 2) := by decide +kernel
theorem dX6_holds_363 : decode cX6_holds 363 = .ok (.ireturn, 1) := by decide +kernel
theorem dX6_holds_364 : decode cX6_holds 364 = .ok (.iload 5, 2) := by decide +kernel
theorem dX6_holds_366 : decode cX6_holds 366 = .ok (.ifCond .eq 12, 3) := by decide +kernel
theorem dX6_holds_369 : decode cX6_holds 369 = .ok (.iload 7, 2) := by decide +kernel
theorem dX6_holds_371 : decode cX6_holds 371 = .ok (.ifCond .eq 7, 3) := by decide +kernel
theorem dX6_holds_374 : decode cX6_holds 374 = .ok (.iconst 1, 1) := by decide +kernel
theorem dX6_holds_375 : decode cX6_holds 375 = .ok (.goto 4, 3) := by decide +kernel
theorem dX6_holds_378 : decode cX6_holds 378 = .ok (.iconst 0, 1) := by decide +kernel
theorem dX6_holds_379 : decode cX6_holds 379 = .ok (.ireturn, 1) := by decide +kernel
theorem dX6_holds_380 : decode cX6_holds 380 = .ok (.iload 5, 2) := by decide +kernel
theorem dX6_holds_382 : decode cX6_holds 382 = .ok (.ifCond .ne 8, 3) := by decide +kernel
theorem dX6_holds_385 : decode cX6_holds 385 = .ok (.iload 7, 2) := by decide +kernel
theorem dX6_holds_387 : decode cX6_holds 387 = .ok (.ifCond .eq 7, 3) := by decide +kernel
theorem dX6_holds_390 : decode cX6_holds 390 = .ok (.iconst 1, 1) := by decide +kernel
theorem dX6_holds_391 : decode cX6_holds 391 = .ok (.goto 4, 3) := by decide +kernel
theorem dX6_holds_394 : decode cX6_holds 394 = .ok (.iconst 0, 1) := by decide +kernel
theorem dX6_holds_395 : decode cX6_holds 395 = .ok (.ireturn, 1) := by decide +kernel
theorem dX6_holds_396 : decode cX6_holds 396 = .ok (.iload 6, 2) := by decide +kernel
theorem dX6_holds_398 : decode cX6_holds 398 = .ok (.ifCond .ne 13, 3) := by decide +kernel
theorem dX6_holds_401 : decode cX6_holds 401 = .ok (.iload 5, 2) := by decide +kernel
theorem dX6_holds_403 : decode cX6_holds 403 = .ok (.ifCond .eq 12, 3) := by decide +kernel
theorem dX6_holds_406 : decode cX6_holds 406 = .ok (.iload 7, 2) := by decide +kernel
theorem dX6_holds_408 : decode cX6_holds 408 = .ok (.ifCond .eq 7, 3) := by decide +kernel
theorem dX6_holds_411 : decode cX6_holds 411 = .ok (.iconst 1, 1) := by decide +kernel
theorem dX6_holds_412 : decode cX6_holds 412 = .ok (.goto 4, 3) := by decide +kernel
theorem dX6_holds_415 : decode cX6_holds 415 = .ok (.iconst 0, 1) := by decide +kernel
theorem dX6_holds_416 : decode cX6_holds 416 = .ok (.ireturn, 1) := by decide +kernel
theorem dX6_holds_417 : decode cX6_holds 417 = .ok (.iload 8, 2) := by decide +kernel
theorem dX6_holds_419 : decode cX6_holds 419 = .ok (.bipush 97, 2) := by decide +kernel
theorem dX6_holds_421 : decode cX6_holds 421 = .ok (.iload_n 2, 1) := by decide +kernel
theorem dX6_holds_422 : decode cX6_holds 422 = .ok (.iadd, 1) := by decide +kernel
theorem dX6_holds_423 : decode cX6_holds 423 = .ok (.if_icmp .ne 7, 3) := by decide +kernel
theorem dX6_holds_426 : decode cX6_holds 426 = .ok (.iconst 1, 1) := by decide +kernel
theorem dX6_holds_427 : decode cX6_holds 427 = .ok (.goto 4, 3) := by decide +kernel
theorem dX6_holds_430 : decode cX6_holds 430 = .ok (.iconst 0, 1) := by decide +kernel
theorem dX6_holds_431 : decode cX6_holds 431 = .ok (.ireturn, 1) := by decide +kernel
theorem dX6_bitsBeside_0 : decode cX6_bitsBeside 0 = .ok (.iconst 0, 1) := by decide +kernel
theorem dX6_bitsBeside_1 : decode cX6_bitsBeside 1 = .ok (.istore_n 2, 1) := by decide +kernel
theorem dX6_bitsBeside_2 : decode cX6_bitsBeside 2 = .ok (.iconst 0, 1) := by decide +kernel
theorem dX6_bitsBeside_3 : decode cX6_bitsBeside 3 = .ok (.istore_n 3, 1) := by decide +kernel
theorem dX6_bitsBeside_4 : decode cX6_bitsBeside 4 = .ok (.iload_n 3, 1) := by decide +kernel
theorem dX6_bitsBeside_5 : decode cX6_bitsBeside 5 = .ok (.aload_n 0, 1) := by decide +kernel
theorem dX6_bitsBeside_6 : decode cX6_bitsBeside 6 = .ok (.getfield 31, 3) := by decide +kernel
theorem dX6_bitsBeside_9 : decode cX6_bitsBeside 9 = .ok (.if_icmp .ge 105, 3) := by decide +kernel
theorem dX6_bitsBeside_12 : decode cX6_bitsBeside 12 = .ok (.aload_n 0, 1) := by decide +kernel
theorem dX6_bitsBeside_13 : decode cX6_bitsBeside 13 = .ok (.getfield 9, 3) := by decide +kernel
theorem dX6_bitsBeside_16 : decode cX6_bitsBeside 16 = .ok (.iload_n 3, 1) := by decide +kernel
theorem dX6_bitsBeside_17 : decode cX6_bitsBeside 17 = .ok (.invokestatic 49, 3) := by decide +kernel
theorem dX6_bitsBeside_20 : decode cX6_bitsBeside 20 = .ok (.istore 4, 2) := by decide +kernel
theorem dX6_bitsBeside_22 : decode cX6_bitsBeside 22 = .ok (.iload 4, 2) := by decide +kernel
theorem dX6_bitsBeside_24 : decode cX6_bitsBeside 24 = .ok (.bipush 78, 2) := by decide +kernel
theorem dX6_bitsBeside_26 : decode cX6_bitsBeside 26 = .ok (.if_icmp .eq 17, 3) := by decide +kernel
theorem dX6_bitsBeside_29 : decode cX6_bitsBeside 29 = .ok (.iload 4, 2) := by decide +kernel
theorem dX6_bitsBeside_31 : decode cX6_bitsBeside 31 = .ok (.bipush 87, 2) := by decide +kernel
theorem dX6_bitsBeside_33 : decode cX6_bitsBeside 33 = .ok (.if_icmp .eq 10, 3) := by decide +kernel
theorem dX6_bitsBeside_36 : decode cX6_bitsBeside 36 = .ok (.iload 4, 2) := by decide +kernel
theorem dX6_bitsBeside_38 : decode cX6_bitsBeside 38 = .ok (.bipush 89, 2) := by decide +kernel
theorem dX6_bitsBeside_40 : decode cX6_bitsBeside 40 = .ok (.if_icmp .ne 7, 3) := by decide +kernel
theorem dX6_bitsBeside_43 : decode cX6_bitsBeside 43 = .ok (.iconst 1, 1) := by decide +kernel
theorem dX6_bitsBeside_44 : decode cX6_bitsBeside 44 = .ok (.goto 4, 3) := by decide +kernel
theorem dX6_bitsBeside_47 : decode cX6_bitsBeside 47 = .ok (.iconst 0, 1) := by decide +kernel
theorem dX6_bitsBeside_48 : decode cX6_bitsBeside 48 = .ok (.istore 5, 2) := by decide +kernel
theorem dX6_bitsBeside_50 : decode cX6_bitsBeside 50 = .ok (.iload_n 1, 1) := by decide +kernel
theorem dX6_bitsBeside_51 : decode cX6_bitsBeside 51 = .ok (.i2l, 1) := by decide +kernel
theorem dX6_bitsBeside_52 : decode cX6_bitsBeside 52 = .ok (.iload 5, 2) := by decide +kernel
theorem dX6_bitsBeside_54 : decode cX6_bitsBeside 54 = .ok (.ifCond .eq 14, 3) := by decide +kernel
theorem dX6_bitsBeside_57 : decode cX6_bitsBeside 57 = .ok (.aload_n 0, 1) := by decide +kernel
theorem dX6_bitsBeside_58 : decode cX6_bitsBeside 58 = .ok (.getfield 15, 3) := by decide +kernel
theorem dX6_bitsBeside_61 : decode cX6_bitsBeside 61 = .ok (.iload_n 3, 1) := by decide +kernel
theorem dX6_bitsBeside_62 : decode cX6_bitsBeside 62 = .ok (.invokestatic 49, 3) := by decide +kernel
theorem dX6_bitsBeside_65 : decode cX6_bitsBeside 65 = .ok (.goto 4, 3) := by decide +kernel
theorem dX6_bitsBeside_68 : decode cX6_bitsBeside 68 = .ok (.iload_n 3, 1) := by decide +kernel
theorem dX6_bitsBeside_69 : decode cX6_bitsBeside 69 = .ok (.invokestatic 68, 3) := by decide +kernel
theorem dX6_bitsBeside_72 : decode cX6_bitsBeside 72 = .ok (.istore 6, 2) := by decide +kernel
theorem dX6_bitsBeside_74 : decode cX6_bitsBeside 74 = .ok (.iload 6, 2) := by decide +kernel
theorem dX6_bitsBeside_76 : decode cX6_bitsBeside 76 = .ok (.ifCond .eq 32, 3) := by decide +kernel
theorem dX6_bitsBeside_79 : decode cX6_bitsBeside 79 = .ok (.iload 4, 2) := by decide +kernel
theorem dX6_bitsBeside_81 : decode cX6_bitsBeside 81 = .ok (.invokestatic 61, 3) := by decide +kernel
theorem dX6_bitsBeside_84 : decode cX6_bitsBeside 84 = .ok (.ifCond .ne 11, 3) := by decide +kernel
theorem dX6_bitsBeside_87 : decode cX6_bitsBeside 87 = .ok (.iload 4, 2) := by decide +kernel
theorem dX6_bitsBeside_89 : decode cX6_bitsBeside 89 = .ok (.invokestatic 57, 3) := by decide +kernel
theorem dX6_bitsBeside_92 : decode cX6_bitsBeside 92 = .ok (.ifCond .eq 16, 3) := by decide +kernel
theorem dX6_bitsBeside_95 : decode cX6_bitsBeside 95 = .ok (.iload_n 2, 1) := by decide +kernel
theorem dX6_bitsBeside_96 : decode cX6_bitsBeside 96 = .ok (.iconst 1, 1) := by decide +kernel
theorem dX6_bitsBeside_97 : decode cX6_bitsBeside 97 = .ok (.aload_n 0, 1) := by decide +kernel
theorem dX6_bitsBeside_98 : decode cX6_bitsBeside 98 = .ok (.getfield 24, 3) := by decide +kernel
theorem dX6_bitsBeside_101 : decode cX6_bitsBeside 101 = .ok (.iload_n 3, 1) := by decide +kernel
theorem dX6_bitsBeside_102 : decode cX6_bitsBeside 102 = .ok (.invokestatic 49, 3) := by decide +kernel
theorem dX6_bitsBeside_105 : decode cX6_bitsBeside 105 = .ok (.ishl, 1) := by decide +kernel
theorem dX6_bitsBeside_106 : decode cX6_bitsBeside 106 = .ok (.ior, 1) := by decide +kernel
theorem dX6_bitsBeside_107 : decode cX6_bitsBeside 107 = .ok (.istore_n 2, 1) := by decide +kernel
theorem dX6_bitsBeside_108 : decode cX6_bitsBeside 108 = .ok (.iinc 3 1, 3) := by decide +kernel
theorem dX6_bitsBeside_111 : decode cX6_bitsBeside 111 = .ok (.goto (-107), 3) := by decide +kernel
theorem dX6_bitsBeside_114 : decode cX6_bitsBeside 114 = .ok (.iload_n 2, 1) := by decide +kernel
theorem dX6_bitsBeside_115 : decode cX6_bitsBeside 115 = .ok (.ireturn, 1) := by decide +kernel
theorem dX6_wholeHolds_0 : decode cX6_wholeHolds 0 = .ok (.aload_n 0, 1) := by decide +kernel
theorem dX6_wholeHolds_1 : decode cX6_wholeHolds 1 = .ok (.getfield 31, 3) := by decide +kernel
theorem dX6_wholeHolds_4 : decode cX6_wholeHolds 4 = .ok (.ifCond .le 21, 3) := by decide +kernel
theorem dX6_wholeHolds_7 : decode cX6_wholeHolds 7 = .ok (.iload_n 1, 1) := by decide +kernel
theorem dX6_wholeHolds_8 : decode cX6_wholeHolds 8 = .ok (.i2l, 1) := by decide +kernel
theorem dX6_wholeHolds_9 : decode cX6_wholeHolds 9 = .ok (.aload_n 0, 1) := by decide +kernel
theorem dX6_wholeHolds_10 : decode cX6_wholeHolds 10 = .ok (.getfield 31, 3) := by decide +kernel
theorem dX6_wholeHolds_13 : decode cX6_wholeHolds 13 = .ok (.iconst 1, 1) := by decide +kernel
theorem dX6_wholeHolds_14 : decode cX6_wholeHolds 14 = .ok (.isub, 1) := by decide +kernel
theorem dX6_wholeHolds_15 : decode cX6_wholeHolds 15 = .ok (.invokestatic 68, 3) := by decide +kernel
theorem dX6_wholeHolds_18 : decode cX6_wholeHolds 18 = .ok (.ifCond .eq 7, 3) := by decide +kernel
theorem dX6_wholeHolds_21 : decode cX6_wholeHolds 21 = .ok (.iconst 1, 1) := by decide +kernel
theorem dX6_wholeHolds_22 : decode cX6_wholeHolds 22 = .ok (.goto 4, 3) := by decide +kernel
theorem dX6_wholeHolds_25 : decode cX6_wholeHolds 25 = .ok (.iconst 0, 1) := by decide +kernel
theorem dX6_wholeHolds_26 : decode cX6_wholeHolds 26 = .ok (.ireturn, 1) := by decide +kernel
theorem dX7_init_0 : decode cX7_init 0 = .ok (.aload_n 0, 1) := by decide +kernel
theorem dX7_init_1 : decode cX7_init 1 = .ok (.invokespecial 3, 3) := by decide +kernel
theorem dX7_init_4 : decode cX7_init 4 = .ok (.aload_n 0, 1) := by decide +kernel
theorem dX7_init_5 : decode cX7_init 5 = .ok (.sipush 240, 3) := by decide +kernel
theorem dX7_init_8 : decode cX7_init 8 = .ok (.newarray .int, 2) := by decide +kernel
theorem dX7_init_10 : decode cX7_init 10 = .ok (.putfield 9, 3) := by decide +kernel
theorem dX7_init_13 : decode cX7_init 13 = .ok (.aload_n 0, 1) := by decide +kernel
theorem dX7_init_14 : decode cX7_init 14 = .ok (.bipush 60, 2) := by decide +kernel
theorem dX7_init_16 : decode cX7_init 16 = .ok (.newarray .int, 2) := by decide +kernel
theorem dX7_init_18 : decode cX7_init 18 = .ok (.putfield 15, 3) := by decide +kernel
theorem dX7_init_21 : decode cX7_init 21 = .ok (.aload_n 0, 1) := by decide +kernel
theorem dX7_init_22 : decode cX7_init 22 = .ok (.sipush 240, 3) := by decide +kernel
theorem dX7_init_25 : decode cX7_init 25 = .ok (.newarray .int, 2) := by decide +kernel
theorem dX7_init_27 : decode cX7_init 27 = .ok (.putfield 18, 3) := by decide +kernel
theorem dX7_init_30 : decode cX7_init 30 = .ok (.aload_n 0, 1) := by decide +kernel
theorem dX7_init_31 : decode cX7_init 31 = .ok (.sipush 1560, 3) := by decide +kernel
theorem dX7_init_34 : decode cX7_init 34 = .ok (.newarray .long, 2) := by decide +kernel
theorem dX7_init_36 : decode cX7_init 36 = .ok (.putfield 21, 3) := by decide +kernel
theorem dX7_init_39 : decode cX7_init 39 = .ok (.aload_n 0, 1) := by decide +kernel
theorem dX7_init_40 : decode cX7_init 40 = .ok (.iconst 0, 1) := by decide +kernel
theorem dX7_init_41 : decode cX7_init 41 = .ok (.putfield 25, 3) := by decide +kernel
theorem dX7_init_44 : decode cX7_init 44 = .ok (.return_, 1) := by decide +kernel
theorem dX7_clear_0 : decode cX7_clear 0 = .ok (.aload_n 0, 1) := by decide +kernel
theorem dX7_clear_1 : decode cX7_clear 1 = .ok (.iconst 0, 1) := by decide +kernel
theorem dX7_clear_2 : decode cX7_clear 2 = .ok (.putfield 25, 3) := by decide +kernel
theorem dX7_clear_5 : decode cX7_clear 5 = .ok (.return_, 1) := by decide +kernel
theorem dX7_add_0 : decode cX7_add 0 = .ok (.aload_n 0, 1) := by decide +kernel
theorem dX7_add_1 : decode cX7_add 1 = .ok (.getfield 25, 3) := by decide +kernel
theorem dX7_add_4 : decode cX7_add 4 = .ok (.bipush 60, 2) := by decide +kernel
theorem dX7_add_6 : decode cX7_add 6 = .ok (.if_icmp .lt 6, 3) := by decide +kernel
theorem dX7_add_9 : decode cX7_add 9 = .ok (.bipush (-9), 2) := by decide +kernel
theorem dX7_add_11 : decode cX7_add 11 = .ok (.ireturn, 1) := by decide +kernel
theorem dX7_add_12 : decode cX7_add 12 = .ok (.aload_n 0, 1) := by decide +kernel
theorem dX7_add_13 : decode cX7_add 13 = .ok (.getfield 15, 3) := by decide +kernel
theorem dX7_add_16 : decode cX7_add 16 = .ok (.aload_n 0, 1) := by decide +kernel
theorem dX7_add_17 : decode cX7_add 17 = .ok (.getfield 25, 3) := by decide +kernel
theorem dX7_add_20 : decode cX7_add 20 = .ok (.iload_n 1, 1) := by decide +kernel
theorem dX7_add_21 : decode cX7_add 21 = .ok (.ifCond .eq 7, 3) := by decide +kernel
theorem dX7_add_24 : decode cX7_add 24 = .ok (.iconst 1, 1) := by decide +kernel
theorem dX7_add_25 : decode cX7_add 25 = .ok (.goto 4, 3) := by decide +kernel
theorem dX7_add_28 : decode cX7_add 28 = .ok (.iconst 0, 1) := by decide +kernel
theorem dX7_add_29 : decode cX7_add 29 = .ok (.invokestatic 29, 3) := by decide +kernel
theorem dX7_add_32 : decode cX7_add 32 = .ok (.aload_n 0, 1) := by decide +kernel
theorem dX7_add_33 : decode cX7_add 33 = .ok (.dup, 1) := by decide +kernel
theorem dX7_add_34 : decode cX7_add 34 = .ok (.getfield 25, 3) := by decide +kernel
theorem dX7_add_37 : decode cX7_add 37 = .ok (.iconst 1, 1) := by decide +kernel
theorem dX7_add_38 : decode cX7_add 38 = .ok (.iadd, 1) := by decide +kernel
theorem dX7_add_39 : decode cX7_add 39 = .ok (.putfield 25, 3) := by decide +kernel
theorem dX7_add_42 : decode cX7_add 42 = .ok (.aload_n 0, 1) := by decide +kernel
theorem dX7_add_43 : decode cX7_add 43 = .ok (.getfield 25, 3) := by decide +kernel
theorem dX7_add_46 : decode cX7_add 46 = .ok (.iconst 1, 1) := by decide +kernel
theorem dX7_add_47 : decode cX7_add 47 = .ok (.isub, 1) := by decide +kernel
theorem dX7_add_48 : decode cX7_add 48 = .ok (.ireturn, 1) := by decide +kernel
theorem dX7_lead_0 : decode cX7_lead 0 = .ok (.aload_n 0, 1) := by decide +kernel
theorem dX7_lead_1 : decode cX7_lead 1 = .ok (.getfield 9, 3) := by decide +kernel
theorem dX7_lead_4 : decode cX7_lead 4 = .ok (.iload_n 1, 1) := by decide +kernel
theorem dX7_lead_5 : decode cX7_lead 5 = .ok (.iconst 4, 1) := by decide +kernel
theorem dX7_lead_6 : decode cX7_lead 6 = .ok (.imul, 1) := by decide +kernel
theorem dX7_lead_7 : decode cX7_lead 7 = .ok (.iload_n 2, 1) := by decide +kernel
theorem dX7_lead_8 : decode cX7_lead 8 = .ok (.iadd, 1) := by decide +kernel
theorem dX7_lead_9 : decode cX7_lead 9 = .ok (.iload_n 3, 1) := by decide +kernel
theorem dX7_lead_10 : decode cX7_lead 10 = .ok (.invokestatic 29, 3) := by decide +kernel
theorem dX7_lead_13 : decode cX7_lead 13 = .ok (.return_, 1) := by decide +kernel
theorem dX7_finish_0 : decode cX7_finish 0 = .ok (.aload_n 0, 1) := by decide +kernel
theorem dX7_finish_1 : decode cX7_finish 1 = .ok (.invokevirtual 33, 3) := by decide +kernel
theorem dX7_finish_4 : decode cX7_finish 4 = .ok (.iconst 0, 1) := by decide +kernel
theorem dX7_finish_5 : decode cX7_finish 5 = .ok (.istore_n 1, 1) := by decide +kernel
theorem dX7_finish_6 : decode cX7_finish 6 = .ok (.iload_n 1, 1) := by decide +kernel
theorem dX7_finish_7 : decode cX7_finish 7 = .ok (.iconst 4, 1) := by decide +kernel
theorem dX7_finish_8 : decode cX7_finish 8 = .ok (.if_icmp .ge 14, 3) := by decide +kernel
theorem dX7_finish_11 : decode cX7_finish 11 = .ok (.aload_n 0, 1) := by decide +kernel
theorem dX7_finish_12 : decode cX7_finish 12 = .ok (.iload_n 1, 1) := by decide +kernel
theorem dX7_finish_13 : decode cX7_finish 13 = .ok (.invokevirtual 36, 3) := by decide +kernel
theorem dX7_finish_16 : decode cX7_finish 16 = .ok (.iinc 1 1, 3) := by decide +kernel
theorem dX7_finish_19 : decode cX7_finish 19 = .ok (.goto (-13), 3) := by decide +kernel
theorem dX7_finish_22 : decode cX7_finish 22 = .ok (.aload_n 0, 1) := by decide +kernel
theorem dX7_finish_23 : decode cX7_finish 23 = .ok (.invokevirtual 40, 3) := by decide +kernel
theorem dX7_finish_26 : decode cX7_finish 26 = .ok (.return_, 1) := by decide +kernel
theorem dX7_copyFrom_0 : decode cX7_copyFrom 0 = .ok (.aload_n 0, 1) := by decide +kernel
theorem dX7_copyFrom_1 : decode cX7_copyFrom 1 = .ok (.aload_n 1, 1) := by decide +kernel
theorem dX7_copyFrom_2 : decode cX7_copyFrom 2 = .ok (.getfield 25, 3) := by decide +kernel
theorem dX7_copyFrom_5 : decode cX7_copyFrom 5 = .ok (.putfield 25, 3) := by decide +kernel
theorem dX7_copyFrom_8 : decode cX7_copyFrom 8 = .ok (.aload_n 1, 1) := by decide +kernel
theorem dX7_copyFrom_9 : decode cX7_copyFrom 9 = .ok (.getfield 9, 3) := by decide +kernel
theorem dX7_copyFrom_12 : decode cX7_copyFrom 12 = .ok (.iconst 0, 1) := by decide +kernel
theorem dX7_copyFrom_13 : decode cX7_copyFrom 13 = .ok (.aload_n 0, 1) := by decide +kernel
theorem dX7_copyFrom_14 : decode cX7_copyFrom 14 = .ok (.getfield 9, 3) := by decide +kernel
theorem dX7_copyFrom_17 : decode cX7_copyFrom 17 = .ok (.iconst 0, 1) := by decide +kernel
theorem dX7_copyFrom_18 : decode cX7_copyFrom 18 = .ok (.aload_n 0, 1) := by decide +kernel
theorem dX7_copyFrom_19 : decode cX7_copyFrom 19 = .ok (.getfield 9, 3) := by decide +kernel
theorem dX7_copyFrom_22 : decode cX7_copyFrom 22 = .ok (.arraylength, 1) := by decide +kernel
theorem dX7_copyFrom_23 : decode cX7_copyFrom 23 = .ok (.invokestatic 43, 3) := by decide +kernel
theorem dX7_copyFrom_26 : decode cX7_copyFrom 26 = .ok (.aload_n 1, 1) := by decide +kernel
theorem dX7_copyFrom_27 : decode cX7_copyFrom 27 = .ok (.getfield 15, 3) := by decide +kernel
theorem dX7_copyFrom_30 : decode cX7_copyFrom 30 = .ok (.iconst 0, 1) := by decide +kernel
theorem dX7_copyFrom_31 : decode cX7_copyFrom 31 = .ok (.aload_n 0, 1) := by decide +kernel
theorem dX7_copyFrom_32 : decode cX7_copyFrom 32 = .ok (.getfield 15, 3) := by decide +kernel
theorem dX7_copyFrom_35 : decode cX7_copyFrom 35 = .ok (.iconst 0, 1) := by decide +kernel
theorem dX7_copyFrom_36 : decode cX7_copyFrom 36 = .ok (.aload_n 0, 1) := by decide +kernel
theorem dX7_copyFrom_37 : decode cX7_copyFrom 37 = .ok (.getfield 15, 3) := by decide +kernel
theorem dX7_copyFrom_40 : decode cX7_copyFrom 40 = .ok (.arraylength, 1) := by decide +kernel
theorem dX7_copyFrom_41 : decode cX7_copyFrom 41 = .ok (.invokestatic 43, 3) := by decide +kernel
theorem dX7_copyFrom_44 : decode cX7_copyFrom 44 = .ok (.return_, 1) := by decide +kernel
theorem dX7_isThere_0 : decode cX7_isThere 0 = .ok (.aload_n 0, 1) := by decide +kernel
theorem dX7_isThere_1 : decode cX7_isThere 1 = .ok (.getfield 25, 3) := by decide +kernel
theorem dX7_isThere_4 : decode cX7_isThere 4 = .ok (.ifCond .le 7, 3) := by decide +kernel
theorem dX7_isThere_7 : decode cX7_isThere 7 = .ok (.iconst 1, 1) := by decide +kernel
theorem dX7_isThere_8 : decode cX7_isThere 8 = .ok (.goto 4, 3) := by decide +kernel
theorem dX7_isThere_11 : decode cX7_isThere 11 = .ok (.iconst 0, 1) := by decide +kernel
theorem dX7_isThere_12 : decode cX7_isThere 12 = .ok (.ireturn, 1) := by decide +kernel
theorem dX7_size_0 : decode cX7_size 0 = .ok (.aload_n 0, 1) := by decide +kernel
theorem dX7_size_1 : decode cX7_size 1 = .ok (.getfield 25, 3) := by decide +kernel
theorem dX7_size_4 : decode cX7_size 4 = .ok (.ireturn, 1) := by decide +kernel
theorem dX7_has_0 : decode cX7_has 0 = .ok (.iload_n 1, 1) := by decide +kernel
theorem dX7_has_1 : decode cX7_has 1 = .ok (.ifCond .lt 15, 3) := by decide +kernel
theorem dX7_has_4 : decode cX7_has 4 = .ok (.iload_n 1, 1) := by decide +kernel
theorem dX7_has_5 : decode cX7_has 5 = .ok (.aload_n 0, 1) := by decide +kernel
theorem dX7_has_6 : decode cX7_has 6 = .ok (.getfield 25, 3) := by decide +kernel
theorem dX7_has_9 : decode cX7_has 9 = .ok (.if_icmp .ge 7, 3) := by decide +kernel
theorem dX7_has_12 : decode cX7_has 12 = .ok (.iconst 1, 1) := by decide +kernel
theorem dX7_has_13 : decode cX7_has 13 = .ok (.goto 4, 3) := by decide +kernel
theorem dX7_has_16 : decode cX7_has 16 = .ok (.iconst 0, 1) := by decide +kernel
theorem dX7_has_17 : decode cX7_has 17 = .ok (.ireturn, 1) := by decide +kernel
theorem dX7_next_0 : decode cX7_next 0 = .ok (.aload_n 0, 1) := by decide +kernel
theorem dX7_next_1 : decode cX7_next 1 = .ok (.getfield 9, 3) := by decide +kernel
theorem dX7_next_4 : decode cX7_next 4 = .ok (.iload_n 1, 1) := by decide +kernel
theorem dX7_next_5 : decode cX7_next 5 = .ok (.iconst 4, 1) := by decide +kernel
theorem dX7_next_6 : decode cX7_next 6 = .ok (.imul, 1) := by decide +kernel
theorem dX7_next_7 : decode cX7_next 7 = .ok (.iload_n 2, 1) := by decide +kernel
theorem dX7_next_8 : decode cX7_next 8 = .ok (.iadd, 1) := by decide +kernel
theorem dX7_next_9 : decode cX7_next 9 = .ok (.invokestatic 49, 3) := by decide +kernel
theorem dX7_next_12 : decode cX7_next 12 = .ok (.ireturn, 1) := by decide +kernel
theorem dX7_verdictOf_0 : decode cX7_verdictOf 0 = .ok (.aload_n 0, 1) := by decide +kernel
theorem dX7_verdictOf_1 : decode cX7_verdictOf 1 = .ok (.getfield 15, 3) := by decide +kernel
theorem dX7_verdictOf_4 : decode cX7_verdictOf 4 = .ok (.iload_n 1, 1) := by decide +kernel
theorem dX7_verdictOf_5 : decode cX7_verdictOf 5 = .ok (.invokestatic 49, 3) := by decide +kernel
theorem dX7_verdictOf_8 : decode cX7_verdictOf 8 = .ok (.ireturn, 1) := by decide +kernel
theorem dX7_keeps_0 : decode cX7_keeps 0 = .ok (.aload_n 0, 1) := by decide +kernel
theorem dX7_keeps_1 : decode cX7_keeps 1 = .ok (.iload_n 1, 1) := by decide +kernel
theorem dX7_keeps_2 : decode cX7_keeps 2 = .ok (.invokevirtual 53, 3) := by decide +kernel
theorem dX7_keeps_5 : decode cX7_keeps 5 = .ok (.iconst 1, 1) := by decide +kernel
theorem dX7_keeps_6 : decode cX7_keeps 6 = .ok (.iand, 1) := by decide +kernel
theorem dX7_keeps_7 : decode cX7_keeps 7 = .ok (.ifCond .eq 7, 3) := by decide +kernel
theorem dX7_keeps_10 : decode cX7_keeps 10 = .ok (.iconst 1, 1) := by decide +kernel
theorem dX7_keeps_11 : decode cX7_keeps 11 = .ok (.goto 4, 3) := by decide +kernel
theorem dX7_keeps_14 : decode cX7_keeps 14 = .ok (.iconst 0, 1) := by decide +kernel
theorem dX7_keeps_15 : decode cX7_keeps 15 = .ok (.ireturn, 1) := by decide +kernel
theorem dX7_isSure_0 : decode cX7_isSure 0 = .ok (.aload_n 0, 1) := by decide +kernel
theorem dX7_isSure_1 : decode cX7_isSure 1 = .ok (.iload_n 1, 1) := by decide +kernel
theorem dX7_isSure_2 : decode cX7_isSure 2 = .ok (.invokevirtual 53, 3) := by decide +kernel
theorem dX7_isSure_5 : decode cX7_isSure 5 = .ok (.iconst 2, 1) := by decide +kernel
theorem dX7_isSure_6 : decode cX7_isSure 6 = .ok (.iand, 1) := by decide +kernel
theorem dX7_isSure_7 : decode cX7_isSure 7 = .ok (.ifCond .eq 7, 3) := by decide +kernel
theorem dX7_isSure_10 : decode cX7_isSure 10 = .ok (.iconst 1, 1) := by decide +kernel
theorem dX7_isSure_11 : decode cX7_isSure 11 = .ok (.goto 4, 3) := by decide +kernel
theorem dX7_isSure_14 : decode cX7_isSure 14 = .ok (.iconst 0, 1) := by decide +kernel
theorem dX7_isSure_15 : decode cX7_isSure 15 = .ok (.ireturn, 1) := by decide +kernel
theorem dX7_sureStates_0 : decode cX7_sureStates 0 = .ok (.iconst 0, 1) := by decide +kernel
theorem dX7_sureStates_1 : decode cX7_sureStates 1 = .ok (.istore_n 1, 1) := by decide +kernel
theorem dX7_sureStates_2 : decode cX7_sureStates 2 = .ok (.iconst 0, 1) := by decide +kernel
theorem dX7_sureStates_3 : decode cX7_sureStates 3 = .ok (.istore_n 2, 1) := by decide +kernel
theorem dX7_sureStates_4 : decode cX7_sureStates 4 = .ok (.iload_n 2, 1) := by decide +kernel
theorem dX7_sureStates_5 : decode cX7_sureStates 5 = .ok (.aload_n 0, 1) := by decide +kernel
theorem dX7_sureStates_6 : decode cX7_sureStates 6 = .ok (.getfield 25, 3) := by decide +kernel
theorem dX7_sureStates_9 : decode cX7_sureStates 9 = .ok (.if_icmp .ge 25, 3) := by decide +kernel
theorem dX7_sureStates_12 : decode cX7_sureStates 12 = .ok (.iload_n 1, 1) := by decide +kernel
theorem dX7_sureStates_13 : decode cX7_sureStates 13 = .ok (.aload_n 0, 1) := by decide +kernel
theorem dX7_sureStates_14 : decode cX7_sureStates 14 = .ok (.iload_n 2, 1) := by decide +kernel
theorem dX7_sureStates_15 : decode cX7_sureStates 15 = .ok (.invokevirtual 57, 3) := by decide +kernel
theorem dX7_sureStates_18 : decode cX7_sureStates 18 = .ok (.ifCond .eq 7, 3) := by decide +kernel
theorem dX7_sureStates_21 : decode cX7_sureStates 21 = .ok (.iconst 1, 1) := by decide +kernel
theorem dX7_sureStates_22 : decode cX7_sureStates 22 = .ok (.goto 4, 3) := by decide +kernel
theorem dX7_sureStates_25 : decode cX7_sureStates 25 = .ok (.iconst 0, 1) := by decide +kernel
theorem dX7_sureStates_26 : decode cX7_sureStates 26 = .ok (.iadd, 1) := by decide +kernel
theorem dX7_sureStates_27 : decode cX7_sureStates 27 = .ok (.istore_n 1, 1) := by decide +kernel
theorem dX7_sureStates_28 : decode cX7_sureStates 28 = .ok (.iinc 2 1, 3) := by decide +kernel
theorem dX7_sureStates_31 : decode cX7_sureStates 31 = .ok (.goto (-27), 3) := by decide +kernel
theorem dX7_sureStates_34 : decode cX7_sureStates 34 = .ok (.iload_n 1, 1) := by decide +kernel
theorem dX7_sureStates_35 : decode cX7_sureStates 35 = .ok (.ireturn, 1) := by decide +kernel
theorem dX7_markSure_0 : decode cX7_markSure 0 = .ok (.iconst 0, 1) := by decide +kernel
theorem dX7_markSure_1 : decode cX7_markSure 1 = .ok (.istore_n 1, 1) := by decide +kernel
theorem dX7_markSure_2 : decode cX7_markSure 2 = .ok (.iload_n 1, 1) := by decide +kernel
theorem dX7_markSure_3 : decode cX7_markSure 3 = .ok (.aload_n 0, 1) := by decide +kernel
theorem dX7_markSure_4 : decode cX7_markSure 4 = .ok (.getfield 25, 3) := by decide +kernel
theorem dX7_markSure_7 : decode cX7_markSure 7 = .ok (.if_icmp .ge 63, 3) := by decide +kernel
theorem dX7_markSure_10 : decode cX7_markSure 10 = .ok (.iconst 1, 1) := by decide +kernel
theorem dX7_markSure_11 : decode cX7_markSure 11 = .ok (.istore_n 2, 1) := by decide +kernel
theorem dX7_markSure_12 : decode cX7_markSure 12 = .ok (.iconst 0, 1) := by decide +kernel
theorem dX7_markSure_13 : decode cX7_markSure 13 = .ok (.istore_n 3, 1) := by decide +kernel
theorem dX7_markSure_14 : decode cX7_markSure 14 = .ok (.iload_n 3, 1) := by decide +kernel
theorem dX7_markSure_15 : decode cX7_markSure 15 = .ok (.iconst 4, 1) := by decide +kernel
theorem dX7_markSure_16 : decode cX7_markSure 16 = .ok (.if_icmp .ge 29, 3) := by decide +kernel
theorem dX7_markSure_19 : decode cX7_markSure 19 = .ok (.iload_n 2, 1) := by decide +kernel
theorem dX7_markSure_20 : decode cX7_markSure 20 = .ok (.ifCond .eq 17, 3) := by decide +kernel
theorem dX7_markSure_23 : decode cX7_markSure 23 = .ok (.aload_n 0, 1) := by decide +kernel
theorem dX7_markSure_24 : decode cX7_markSure 24 = .ok (.iload_n 1, 1) := by decide +kernel
theorem dX7_markSure_25 : decode cX7_markSure 25 = .ok (.iload_n 3, 1) := by decide +kernel
theorem dX7_markSure_26 : decode cX7_markSure 26 = .ok (.invokevirtual 61, 3) := by decide +kernel
theorem dX7_markSure_29 : decode cX7_markSure 29 = .ok (.iload_n 1, 1) := by decide +kernel
theorem dX7_markSure_30 : decode cX7_markSure 30 = .ok (.if_icmp .ne 7, 3) := by decide +kernel
theorem dX7_markSure_33 : decode cX7_markSure 33 = .ok (.iconst 1, 1) := by decide +kernel
theorem dX7_markSure_34 : decode cX7_markSure 34 = .ok (.goto 4, 3) := by decide +kernel
theorem dX7_markSure_37 : decode cX7_markSure 37 = .ok (.iconst 0, 1) := by decide +kernel
theorem dX7_markSure_38 : decode cX7_markSure 38 = .ok (.istore_n 2, 1) := by decide +kernel
theorem dX7_markSure_39 : decode cX7_markSure 39 = .ok (.iinc 3 1, 3) := by decide +kernel
theorem dX7_markSure_42 : decode cX7_markSure 42 = .ok (.goto (-28), 3) := by decide +kernel
theorem dX7_markSure_45 : decode cX7_markSure 45 = .ok (.iload_n 2, 1) := by decide +kernel
theorem dX7_markSure_46 : decode cX7_markSure 46 = .ok (.ifCond .eq 18, 3) := by decide +kernel
theorem dX7_markSure_49 : decode cX7_markSure 49 = .ok (.aload_n 0, 1) := by decide +kernel
theorem dX7_markSure_50 : decode cX7_markSure 50 = .ok (.getfield 15, 3) := by decide +kernel
theorem dX7_markSure_53 : decode cX7_markSure 53 = .ok (.iload_n 1, 1) := by decide +kernel
end
section
theorem dX7_markSure_54 : decode cX7_markSure 54 = .ok (.aload_n 0, 1) := by decide +kernel
theorem dX7_markSure_55 : decode cX7_markSure 55 = .ok (.iload_n 1, 1) := by decide +kernel
theorem dX7_markSure_56 : decode cX7_markSure 56 = .ok (.invokevirtual 53, 3) := by decide +kernel
theorem dX7_markSure_59 : decode cX7_markSure 59 = .ok (.iconst 2, 1) := by decide +kernel
theorem dX7_markSure_60 : decode cX7_markSure 60 = .ok (.ior, 1) := by decide +kernel
theorem dX7_markSure_61 : decode cX7_markSure 61 = .ok (.invokestatic 29, 3) := by decide +kernel
theorem dX7_markSure_64 : decode cX7_markSure 64 = .ok (.iinc 1 1, 3) := by decide +kernel
theorem dX7_markSure_67 : decode cX7_markSure 67 = .ok (.goto (-65), 3) := by decide +kernel
theorem dX7_markSure_70 : decode cX7_markSure 70 = .ok (.return_, 1) := by decide +kernel
theorem dX7_measure_0 : decode cX7_measure 0 = .ok (.iconst 0, 1) := by decide +kernel
theorem dX7_measure_1 : decode cX7_measure 1 = .ok (.istore_n 2, 1) := by decide +kernel
theorem dX7_measure_2 : decode cX7_measure 2 = .ok (.iload_n 2, 1) := by decide +kernel
theorem dX7_measure_3 : decode cX7_measure 3 = .ok (.aload_n 0, 1) := by decide +kernel
theorem dX7_measure_4 : decode cX7_measure 4 = .ok (.getfield 25, 3) := by decide +kernel
theorem dX7_measure_7 : decode cX7_measure 7 = .ok (.if_icmp .ge 36, 3) := by decide +kernel
theorem dX7_measure_10 : decode cX7_measure 10 = .ok (.aload_n 0, 1) := by decide +kernel
theorem dX7_measure_11 : decode cX7_measure 11 = .ok (.getfield 18, 3) := by decide +kernel
theorem dX7_measure_14 : decode cX7_measure 14 = .ok (.iload_n 2, 1) := by decide +kernel
theorem dX7_measure_15 : decode cX7_measure 15 = .ok (.iconst 4, 1) := by decide +kernel
theorem dX7_measure_16 : decode cX7_measure 16 = .ok (.imul, 1) := by decide +kernel
theorem dX7_measure_17 : decode cX7_measure 17 = .ok (.iload_n 1, 1) := by decide +kernel
theorem dX7_measure_18 : decode cX7_measure 18 = .ok (.iadd, 1) := by decide +kernel
theorem dX7_measure_19 : decode cX7_measure 19 = .ok (.aload_n 0, 1) := by decide +kernel
theorem dX7_measure_20 : decode cX7_measure 20 = .ok (.iload_n 2, 1) := by decide +kernel
theorem dX7_measure_21 : decode cX7_measure 21 = .ok (.invokevirtual 53, 3) := by decide +kernel
theorem dX7_measure_24 : decode cX7_measure 24 = .ok (.iload_n 1, 1) := by decide +kernel
theorem dX7_measure_25 : decode cX7_measure 25 = .ok (.if_icmp .ne 7, 3) := by decide +kernel
theorem dX7_measure_28 : decode cX7_measure 28 = .ok (.iconst 0, 1) := by decide +kernel
theorem dX7_measure_29 : decode cX7_measure 29 = .ok (.goto 5, 3) := by decide +kernel
theorem dX7_measure_32 : decode cX7_measure 32 = .ok (.bipush (-9), 2) := by decide +kernel
theorem dX7_measure_34 : decode cX7_measure 34 = .ok (.invokestatic 29, 3) := by decide +kernel
theorem dX7_measure_37 : decode cX7_measure 37 = .ok (.iinc 2 1, 3) := by decide +kernel
theorem dX7_measure_40 : decode cX7_measure 40 = .ok (.goto (-38), 3) := by decide +kernel
theorem dX7_measure_43 : decode cX7_measure 43 = .ok (.iconst 1, 1) := by decide +kernel
theorem dX7_measure_44 : decode cX7_measure 44 = .ok (.istore_n 2, 1) := by decide +kernel
theorem dX7_measure_45 : decode cX7_measure 45 = .ok (.iconst 1, 1) := by decide +kernel
theorem dX7_measure_46 : decode cX7_measure 46 = .ok (.istore_n 3, 1) := by decide +kernel
theorem dX7_measure_47 : decode cX7_measure 47 = .ok (.iload_n 3, 1) := by decide +kernel
theorem dX7_measure_48 : decode cX7_measure 48 = .ok (.bipush 60, 2) := by decide +kernel
theorem dX7_measure_50 : decode cX7_measure 50 = .ok (.if_icmp .gt 76, 3) := by decide +kernel
theorem dX7_measure_53 : decode cX7_measure 53 = .ok (.iload_n 2, 1) := by decide +kernel
theorem dX7_measure_54 : decode cX7_measure 54 = .ok (.ifCond .eq 72, 3) := by decide +kernel
theorem dX7_measure_57 : decode cX7_measure 57 = .ok (.iconst 0, 1) := by decide +kernel
theorem dX7_measure_58 : decode cX7_measure 58 = .ok (.istore_n 2, 1) := by decide +kernel
theorem dX7_measure_59 : decode cX7_measure 59 = .ok (.iconst 0, 1) := by decide +kernel
theorem dX7_measure_60 : decode cX7_measure 60 = .ok (.istore 4, 2) := by decide +kernel
theorem dX7_measure_62 : decode cX7_measure 62 = .ok (.iload 4, 2) := by decide +kernel
theorem dX7_measure_64 : decode cX7_measure 64 = .ok (.aload_n 0, 1) := by decide +kernel
theorem dX7_measure_65 : decode cX7_measure 65 = .ok (.getfield 25, 3) := by decide +kernel
theorem dX7_measure_68 : decode cX7_measure 68 = .ok (.if_icmp .ge 52, 3) := by decide +kernel
theorem dX7_measure_71 : decode cX7_measure 71 = .ok (.aload_n 0, 1) := by decide +kernel
theorem dX7_measure_72 : decode cX7_measure 72 = .ok (.iload 4, 2) := by decide +kernel
theorem dX7_measure_74 : decode cX7_measure 74 = .ok (.iload_n 1, 1) := by decide +kernel
theorem dX7_measure_75 : decode cX7_measure 75 = .ok (.invokevirtual 65, 3) := by decide +kernel
theorem dX7_measure_78 : decode cX7_measure 78 = .ok (.bipush (-9), 2) := by decide +kernel
theorem dX7_measure_80 : decode cX7_measure 80 = .ok (.if_icmp .ne 34, 3) := by decide +kernel
theorem dX7_measure_83 : decode cX7_measure 83 = .ok (.aload_n 0, 1) := by decide +kernel
theorem dX7_measure_84 : decode cX7_measure 84 = .ok (.iload 4, 2) := by decide +kernel
theorem dX7_measure_86 : decode cX7_measure 86 = .ok (.iload_n 1, 1) := by decide +kernel
theorem dX7_measure_87 : decode cX7_measure 87 = .ok (.iload_n 3, 1) := by decide +kernel
theorem dX7_measure_88 : decode cX7_measure 88 = .ok (.iconst 1, 1) := by decide +kernel
theorem dX7_measure_89 : decode cX7_measure 89 = .ok (.isub, 1) := by decide +kernel
theorem dX7_measure_90 : decode cX7_measure 90 = .ok (.invokevirtual 68, 3) := by decide +kernel
theorem dX7_measure_93 : decode cX7_measure 93 = .ok (.bipush (-9), 2) := by decide +kernel
theorem dX7_measure_95 : decode cX7_measure 95 = .ok (.if_icmp .eq 19, 3) := by decide +kernel
theorem dX7_measure_98 : decode cX7_measure 98 = .ok (.aload_n 0, 1) := by decide +kernel
theorem dX7_measure_99 : decode cX7_measure 99 = .ok (.getfield 18, 3) := by decide +kernel
theorem dX7_measure_102 : decode cX7_measure 102 = .ok (.iload 4, 2) := by decide +kernel
theorem dX7_measure_104 : decode cX7_measure 104 = .ok (.iconst 4, 1) := by decide +kernel
theorem dX7_measure_105 : decode cX7_measure 105 = .ok (.imul, 1) := by decide +kernel
theorem dX7_measure_106 : decode cX7_measure 106 = .ok (.iload_n 1, 1) := by decide +kernel
theorem dX7_measure_107 : decode cX7_measure 107 = .ok (.iadd, 1) := by decide +kernel
theorem dX7_measure_108 : decode cX7_measure 108 = .ok (.iload_n 3, 1) := by decide +kernel
theorem dX7_measure_109 : decode cX7_measure 109 = .ok (.invokestatic 29, 3) := by decide +kernel
theorem dX7_measure_112 : decode cX7_measure 112 = .ok (.iconst 1, 1) := by decide +kernel
theorem dX7_measure_113 : decode cX7_measure 113 = .ok (.istore_n 2, 1) := by decide +kernel
theorem dX7_measure_114 : decode cX7_measure 114 = .ok (.iinc 4 1, 3) := by decide +kernel
theorem dX7_measure_117 : decode cX7_measure 117 = .ok (.goto (-55), 3) := by decide +kernel
theorem dX7_measure_120 : decode cX7_measure 120 = .ok (.iinc 3 1, 3) := by decide +kernel
theorem dX7_measure_123 : decode cX7_measure 123 = .ok (.goto (-76), 3) := by decide +kernel
theorem dX7_measure_126 : decode cX7_measure 126 = .ok (.return_, 1) := by decide +kernel
theorem dX7_distance_0 : decode cX7_distance 0 = .ok (.aload_n 0, 1) := by decide +kernel
theorem dX7_distance_1 : decode cX7_distance 1 = .ok (.getfield 18, 3) := by decide +kernel
theorem dX7_distance_4 : decode cX7_distance 4 = .ok (.iload_n 1, 1) := by decide +kernel
theorem dX7_distance_5 : decode cX7_distance 5 = .ok (.iconst 4, 1) := by decide +kernel
theorem dX7_distance_6 : decode cX7_distance 6 = .ok (.imul, 1) := by decide +kernel
theorem dX7_distance_7 : decode cX7_distance 7 = .ok (.iload_n 2, 1) := by decide +kernel
theorem dX7_distance_8 : decode cX7_distance 8 = .ok (.iadd, 1) := by decide +kernel
theorem dX7_distance_9 : decode cX7_distance 9 = .ok (.invokestatic 49, 3) := by decide +kernel
theorem dX7_distance_12 : decode cX7_distance 12 = .ok (.ireturn, 1) := by decide +kernel
theorem dX7_stepTo_0 : decode cX7_stepTo 0 = .ok (.iconst 0, 1) := by decide +kernel
theorem dX7_stepTo_1 : decode cX7_stepTo 1 = .ok (.istore 4, 2) := by decide +kernel
theorem dX7_stepTo_3 : decode cX7_stepTo 3 = .ok (.iload 4, 2) := by decide +kernel
theorem dX7_stepTo_5 : decode cX7_stepTo 5 = .ok (.iconst 4, 1) := by decide +kernel
theorem dX7_stepTo_6 : decode cX7_stepTo 6 = .ok (.if_icmp .ge 28, 3) := by decide +kernel
theorem dX7_stepTo_9 : decode cX7_stepTo 9 = .ok (.aload_n 0, 1) := by decide +kernel
theorem dX7_stepTo_10 : decode cX7_stepTo 10 = .ok (.aload_n 0, 1) := by decide +kernel
theorem dX7_stepTo_11 : decode cX7_stepTo 11 = .ok (.iload_n 1, 1) := by decide +kernel
theorem dX7_stepTo_12 : decode cX7_stepTo 12 = .ok (.iload 4, 2) := by decide +kernel
theorem dX7_stepTo_14 : decode cX7_stepTo 14 = .ok (.invokevirtual 61, 3) := by decide +kernel
theorem dX7_stepTo_17 : decode cX7_stepTo 17 = .ok (.iload_n 2, 1) := by decide +kernel
theorem dX7_stepTo_18 : decode cX7_stepTo 18 = .ok (.invokevirtual 65, 3) := by decide +kernel
theorem dX7_stepTo_21 : decode cX7_stepTo 21 = .ok (.iload_n 3, 1) := by decide +kernel
theorem dX7_stepTo_22 : decode cX7_stepTo 22 = .ok (.if_icmp .ne 6, 3) := by decide +kernel
theorem dX7_stepTo_25 : decode cX7_stepTo 25 = .ok (.iload 4, 2) := by decide +kernel
theorem dX7_stepTo_27 : decode cX7_stepTo 27 = .ok (.ireturn, 1) := by decide +kernel
theorem dX7_stepTo_28 : decode cX7_stepTo 28 = .ok (.iinc 4 1, 3) := by decide +kernel
theorem dX7_stepTo_31 : decode cX7_stepTo 31 = .ok (.goto (-28), 3) := by decide +kernel
theorem dX7_stepTo_34 : decode cX7_stepTo 34 = .ok (.bipush (-9), 2) := by decide +kernel
theorem dX7_stepTo_36 : decode cX7_stepTo 36 = .ok (.ireturn, 1) := by decide +kernel
theorem dX7_firstStep_0 : decode cX7_firstStep 0 = .ok (.aload_n 0, 1) := by decide +kernel
theorem dX7_firstStep_1 : decode cX7_firstStep 1 = .ok (.iload_n 1, 1) := by decide +kernel
theorem dX7_firstStep_2 : decode cX7_firstStep 2 = .ok (.iload_n 2, 1) := by decide +kernel
theorem dX7_firstStep_3 : decode cX7_firstStep 3 = .ok (.invokevirtual 65, 3) := by decide +kernel
theorem dX7_firstStep_6 : decode cX7_firstStep 6 = .ok (.istore_n 3, 1) := by decide +kernel
theorem dX7_firstStep_7 : decode cX7_firstStep 7 = .ok (.iload_n 3, 1) := by decide +kernel
theorem dX7_firstStep_8 : decode cX7_firstStep 8 = .ok (.ifCond .le 15, 3) := by decide +kernel
theorem dX7_firstStep_11 : decode cX7_firstStep 11 = .ok (.aload_n 0, 1) := by decide +kernel
theorem dX7_firstStep_12 : decode cX7_firstStep 12 = .ok (.iload_n 1, 1) := by decide +kernel
theorem dX7_firstStep_13 : decode cX7_firstStep 13 = .ok (.iload_n 2, 1) := by decide +kernel
theorem dX7_firstStep_14 : decode cX7_firstStep 14 = .ok (.iload_n 3, 1) := by decide +kernel
theorem dX7_firstStep_15 : decode cX7_firstStep 15 = .ok (.iconst 1, 1) := by decide +kernel
theorem dX7_firstStep_16 : decode cX7_firstStep 16 = .ok (.isub, 1) := by decide +kernel
theorem dX7_firstStep_17 : decode cX7_firstStep 17 = .ok (.invokevirtual 68, 3) := by decide +kernel
theorem dX7_firstStep_20 : decode cX7_firstStep 20 = .ok (.goto 5, 3) := by decide +kernel
theorem dX7_firstStep_23 : decode cX7_firstStep 23 = .ok (.bipush (-9), 2) := by decide +kernel
theorem dX7_firstStep_25 : decode cX7_firstStep 25 = .ok (.ireturn, 1) := by decide +kernel
theorem dX7_countWays_0 : decode cX7_countWays 0 = .ok (.iconst 0, 1) := by decide +kernel
theorem dX7_countWays_1 : decode cX7_countWays 1 = .ok (.istore_n 1, 1) := by decide +kernel
theorem dX7_countWays_2 : decode cX7_countWays 2 = .ok (.iload_n 1, 1) := by decide +kernel
theorem dX7_countWays_3 : decode cX7_countWays 3 = .ok (.aload_n 0, 1) := by decide +kernel
theorem dX7_countWays_4 : decode cX7_countWays 4 = .ok (.getfield 25, 3) := by decide +kernel
theorem dX7_countWays_7 : decode cX7_countWays 7 = .ok (.if_icmp .ge 30, 3) := by decide +kernel
theorem dX7_countWays_10 : decode cX7_countWays 10 = .ok (.aload_n 0, 1) := by decide +kernel
theorem dX7_countWays_11 : decode cX7_countWays 11 = .ok (.getfield 21, 3) := by decide +kernel
theorem dX7_countWays_14 : decode cX7_countWays 14 = .ok (.iload_n 1, 1) := by decide +kernel
theorem dX7_countWays_15 : decode cX7_countWays 15 = .ok (.aload_n 0, 1) := by decide +kernel
theorem dX7_countWays_16 : decode cX7_countWays 16 = .ok (.iload_n 1, 1) := by decide +kernel
theorem dX7_countWays_17 : decode cX7_countWays 17 = .ok (.invokevirtual 72, 3) := by decide +kernel
theorem dX7_countWays_20 : decode cX7_countWays 20 = .ok (.ifCond .eq 7, 3) := by decide +kernel
theorem dX7_countWays_23 : decode cX7_countWays 23 = .ok (.lconst 1, 1) := by decide +kernel
theorem dX7_countWays_24 : decode cX7_countWays 24 = .ok (.goto 4, 3) := by decide +kernel
theorem dX7_countWays_27 : decode cX7_countWays 27 = .ok (.lconst 0, 1) := by decide +kernel
theorem dX7_countWays_28 : decode cX7_countWays 28 = .ok (.invokestatic 75, 3) := by decide +kernel
theorem dX7_countWays_31 : decode cX7_countWays 31 = .ok (.iinc 1 1, 3) := by decide +kernel
theorem dX7_countWays_34 : decode cX7_countWays 34 = .ok (.goto (-32), 3) := by decide +kernel
theorem dX7_countWays_37 : decode cX7_countWays 37 = .ok (.iconst 1, 1) := by decide +kernel
theorem dX7_countWays_38 : decode cX7_countWays 38 = .ok (.istore_n 1, 1) := by decide +kernel
theorem dX7_countWays_39 : decode cX7_countWays 39 = .ok (.iload_n 1, 1) := by decide +kernel
theorem dX7_countWays_40 : decode cX7_countWays 40 = .ok (.bipush 25, 2) := by decide +kernel
theorem dX7_countWays_42 : decode cX7_countWays 42 = .ok (.if_icmp .gt 73, 3) := by decide +kernel
theorem dX7_countWays_45 : decode cX7_countWays 45 = .ok (.iconst 0, 1) := by decide +kernel
theorem dX7_countWays_46 : decode cX7_countWays 46 = .ok (.istore_n 2, 1) := by decide +kernel
theorem dX7_countWays_47 : decode cX7_countWays 47 = .ok (.iload_n 2, 1) := by decide +kernel
theorem dX7_countWays_48 : decode cX7_countWays 48 = .ok (.aload_n 0, 1) := by decide +kernel
theorem dX7_countWays_49 : decode cX7_countWays 49 = .ok (.getfield 25, 3) := by decide +kernel
theorem dX7_countWays_52 : decode cX7_countWays 52 = .ok (.if_icmp .ge 57, 3) := by decide +kernel
theorem dX7_countWays_55 : decode cX7_countWays 55 = .ok (.lconst 0, 1) := by decide +kernel
theorem dX7_countWays_56 : decode cX7_countWays 56 = .ok (.lstore_n 3, 1) := by decide +kernel
theorem dX7_countWays_57 : decode cX7_countWays 57 = .ok (.iconst 0, 1) := by decide +kernel
theorem dX7_countWays_58 : decode cX7_countWays 58 = .ok (.istore 5, 2) := by decide +kernel
theorem dX7_countWays_60 : decode cX7_countWays 60 = .ok (.iload 5, 2) := by decide +kernel
theorem dX7_countWays_62 : decode cX7_countWays 62 = .ok (.iconst 4, 1) := by decide +kernel
theorem dX7_countWays_63 : decode cX7_countWays 63 = .ok (.if_icmp .ge 26, 3) := by decide +kernel
theorem dX7_countWays_66 : decode cX7_countWays 66 = .ok (.lload_n 3, 1) := by decide +kernel
theorem dX7_countWays_67 : decode cX7_countWays 67 = .ok (.aload_n 0, 1) := by decide +kernel
theorem dX7_countWays_68 : decode cX7_countWays 68 = .ok (.aload_n 0, 1) := by decide +kernel
theorem dX7_countWays_69 : decode cX7_countWays 69 = .ok (.iload_n 2, 1) := by decide +kernel
theorem dX7_countWays_70 : decode cX7_countWays 70 = .ok (.iload 5, 2) := by decide +kernel
theorem dX7_countWays_72 : decode cX7_countWays 72 = .ok (.invokevirtual 61, 3) := by decide +kernel
theorem dX7_countWays_75 : decode cX7_countWays 75 = .ok (.iload_n 1, 1) := by decide +kernel
theorem dX7_countWays_76 : decode cX7_countWays 76 = .ok (.iconst 1, 1) := by decide +kernel
theorem dX7_countWays_77 : decode cX7_countWays 77 = .ok (.isub, 1) := by decide +kernel
theorem dX7_countWays_78 : decode cX7_countWays 78 = .ok (.invokevirtual 79, 3) := by decide +kernel
theorem dX7_countWays_81 : decode cX7_countWays 81 = .ok (.ladd, 1) := by decide +kernel
theorem dX7_countWays_82 : decode cX7_countWays 82 = .ok (.lstore_n 3, 1) := by decide +kernel
theorem dX7_countWays_83 : decode cX7_countWays 83 = .ok (.iinc 5 1, 3) := by decide +kernel
theorem dX7_countWays_86 : decode cX7_countWays 86 = .ok (.goto (-26), 3) := by decide +kernel
theorem dX7_countWays_89 : decode cX7_countWays 89 = .ok (.aload_n 0, 1) := by decide +kernel
theorem dX7_countWays_90 : decode cX7_countWays 90 = .ok (.getfield 21, 3) := by decide +kernel
theorem dX7_countWays_93 : decode cX7_countWays 93 = .ok (.iload_n 1, 1) := by decide +kernel
theorem dX7_countWays_94 : decode cX7_countWays 94 = .ok (.bipush 60, 2) := by decide +kernel
theorem dX7_countWays_96 : decode cX7_countWays 96 = .ok (.imul, 1) := by decide +kernel
theorem dX7_countWays_97 : decode cX7_countWays 97 = .ok (.iload_n 2, 1) := by decide +kernel
theorem dX7_countWays_98 : decode cX7_countWays 98 = .ok (.iadd, 1) := by decide +kernel
theorem dX7_countWays_99 : decode cX7_countWays 99 = .ok (.lload_n 3, 1) := by decide +kernel
theorem dX7_countWays_100 : decode cX7_countWays 100 = .ok (.invokestatic 75, 3) := by decide +kernel
theorem dX7_countWays_103 : decode cX7_countWays 103 = .ok (.iinc 2 1, 3) := by decide +kernel
theorem dX7_countWays_106 : decode cX7_countWays 106 = .ok (.goto (-59), 3) := by decide +kernel
theorem dX7_countWays_109 : decode cX7_countWays 109 = .ok (.iinc 1 1, 3) := by decide +kernel
theorem dX7_countWays_112 : decode cX7_countWays 112 = .ok (.goto (-73), 3) := by decide +kernel
theorem dX7_countWays_115 : decode cX7_countWays 115 = .ok (.return_, 1) := by decide +kernel
theorem dX7_waysOf_0 : decode cX7_waysOf 0 = .ok (.aload_n 0, 1) := by decide +kernel
theorem dX7_waysOf_1 : decode cX7_waysOf 1 = .ok (.getfield 21, 3) := by decide +kernel
theorem dX7_waysOf_4 : decode cX7_waysOf 4 = .ok (.iload_n 2, 1) := by decide +kernel
theorem dX7_waysOf_5 : decode cX7_waysOf 5 = .ok (.bipush 60, 2) := by decide +kernel
theorem dX7_waysOf_7 : decode cX7_waysOf 7 = .ok (.imul, 1) := by decide +kernel
theorem dX7_waysOf_8 : decode cX7_waysOf 8 = .ok (.iload_n 1, 1) := by decide +kernel
theorem dX7_waysOf_9 : decode cX7_waysOf 9 = .ok (.iadd, 1) := by decide +kernel
theorem dX7_waysOf_10 : decode cX7_waysOf 10 = .ok (.invokestatic 83, 3) := by decide +kernel
theorem dX7_waysOf_13 : decode cX7_waysOf 13 = .ok (.lreturn, 1) := by decide +kernel
theorem dX7_eventOfFirstRow_0 : decode cX7_eventOfFirstRow 0 = .ok (.iload_n 3, 1) := by decide +kernel
theorem dX7_eventOfFirstRow_1 : decode cX7_eventOfFirstRow 1 = .ok (.ifCond .lt 19, 3) := by decide +kernel
theorem dX7_eventOfFirstRow_4 : decode cX7_eventOfFirstRow 4 = .ok (.iload_n 3, 1) := by decide +kernel
theorem dX7_eventOfFirstRow_5 : decode cX7_eventOfFirstRow 5 = .ok (.iload_n 2, 1) := by decide +kernel
theorem dX7_eventOfFirstRow_6 : decode cX7_eventOfFirstRow 6 = .ok (.if_icmp .ge 14, 3) := by decide +kernel
theorem dX7_eventOfFirstRow_9 : decode cX7_eventOfFirstRow 9 = .ok (.aload_n 0, 1) := by decide +kernel
theorem dX7_eventOfFirstRow_10 : decode cX7_eventOfFirstRow 10 = .ok (.iload_n 1, 1) := by decide +kernel
theorem dX7_eventOfFirstRow_11 : decode cX7_eventOfFirstRow 11 = .ok (.iload_n 2, 1) := by decide +kernel
theorem dX7_eventOfFirstRow_12 : decode cX7_eventOfFirstRow 12 = .ok (.invokevirtual 79, 3) := by decide +kernel
theorem dX7_eventOfFirstRow_15 : decode cX7_eventOfFirstRow 15 = .ok (.lconst 0, 1) := by decide +kernel
theorem dX7_eventOfFirstRow_16 : decode cX7_eventOfFirstRow 16 = .ok (.lcmp, 1) := by decide +kernel
theorem dX7_eventOfFirstRow_17 : decode cX7_eventOfFirstRow 17 = .ok (.ifCond .ne 6, 3) := by decide +kernel
theorem dX7_eventOfFirstRow_20 : decode cX7_eventOfFirstRow 20 = .ok (.bipush (-9), 2) := by decide +kernel
theorem dX7_eventOfFirstRow_22 : decode cX7_eventOfFirstRow 22 = .ok (.ireturn, 1) := by decide +kernel
theorem dX7_eventOfFirstRow_23 : decode cX7_eventOfFirstRow 23 = .ok (.iload_n 1, 1) := by decide +kernel
theorem dX7_eventOfFirstRow_24 : decode cX7_eventOfFirstRow 24 = .ok (.istore 4, 2) := by decide +kernel
theorem dX7_eventOfFirstRow_26 : decode cX7_eventOfFirstRow 26 = .ok (.iconst 0, 1) := by decide +kernel
theorem dX7_eventOfFirstRow_27 : decode cX7_eventOfFirstRow 27 = .ok (.istore 5, 2) := by decide +kernel
theorem dX7_eventOfFirstRow_29 : decode cX7_eventOfFirstRow 29 = .ok (.iload 5, 2) := by decide +kernel
theorem dX7_eventOfFirstRow_31 : decode cX7_eventOfFirstRow 31 = .ok (.iload_n 2, 1) := by decide +kernel
theorem dX7_eventOfFirstRow_32 : decode cX7_eventOfFirstRow 32 = .ok (.if_icmp .ge 49, 3) := by decide +kernel
theorem dX7_eventOfFirstRow_35 : decode cX7_eventOfFirstRow 35 = .ok (.aload_n 0, 1) := by decide +kernel
theorem dX7_eventOfFirstRow_36 : decode cX7_eventOfFirstRow 36 = .ok (.iload 4, 2) := by decide +kernel
theorem dX7_eventOfFirstRow_38 : decode cX7_eventOfFirstRow 38 = .ok (.iload_n 2, 1) := by decide +kernel
theorem dX7_eventOfFirstRow_39 : decode cX7_eventOfFirstRow 39 = .ok (.iload 5, 2) := by decide +kernel
theorem dX7_eventOfFirstRow_41 : decode cX7_eventOfFirstRow 41 = .ok (.isub, 1) := by decide +kernel
theorem dX7_eventOfFirstRow_42 : decode cX7_eventOfFirstRow 42 = .ok (.iconst 1, 1) := by decide +kernel
theorem dX7_eventOfFirstRow_43 : decode cX7_eventOfFirstRow 43 = .ok (.isub, 1) := by decide +kernel
theorem dX7_eventOfFirstRow_44 : decode cX7_eventOfFirstRow 44 = .ok (.invokevirtual 87, 3) := by decide +kernel
theorem dX7_eventOfFirstRow_47 : decode cX7_eventOfFirstRow 47 = .ok (.istore 6, 2) := by decide +kernel
theorem dX7_eventOfFirstRow_49 : decode cX7_eventOfFirstRow 49 = .ok (.iload 5, 2) := by decide +kernel
theorem dX7_eventOfFirstRow_51 : decode cX7_eventOfFirstRow 51 = .ok (.iload_n 3, 1) := by decide +kernel
theorem dX7_eventOfFirstRow_52 : decode cX7_eventOfFirstRow 52 = .ok (.if_icmp .eq 10, 3) := by decide +kernel
theorem dX7_eventOfFirstRow_55 : decode cX7_eventOfFirstRow 55 = .ok (.iload 6, 2) := by decide +kernel
theorem dX7_eventOfFirstRow_57 : decode cX7_eventOfFirstRow 57 = .ok (.bipush (-9), 2) := by decide +kernel
theorem dX7_eventOfFirstRow_59 : decode cX7_eventOfFirstRow 59 = .ok (.if_icmp .ne 6, 3) := by decide +kernel
theorem dX7_eventOfFirstRow_62 : decode cX7_eventOfFirstRow 62 = .ok (.iload 6, 2) := by decide +kernel
theorem dX7_eventOfFirstRow_64 : decode cX7_eventOfFirstRow 64 = .ok (.ireturn, 1) := by decide +kernel
theorem dX7_eventOfFirstRow_65 : decode cX7_eventOfFirstRow 65 = .ok (.aload_n 0, 1) := by decide +kernel
theorem dX7_eventOfFirstRow_66 : decode cX7_eventOfFirstRow 66 = .ok (.iload 4, 2) := by decide +kernel
theorem dX7_eventOfFirstRow_68 : decode cX7_eventOfFirstRow 68 = .ok (.iload 6, 2) := by decide +kernel
theorem dX7_eventOfFirstRow_70 : decode cX7_eventOfFirstRow 70 = .ok (.invokevirtual 61, 3) := by decide +kernel
theorem dX7_eventOfFirstRow_73 : decode cX7_eventOfFirstRow 73 = .ok (.istore 4, 2) := by decide +kernel
theorem dX7_eventOfFirstRow_75 : decode cX7_eventOfFirstRow 75 = .ok (.iinc 5 1, 3) := by decide +kernel
theorem dX7_eventOfFirstRow_78 : decode cX7_eventOfFirstRow 78 = .ok (.goto (-49), 3) := by decide +kernel
theorem dX7_eventOfFirstRow_81 : decode cX7_eventOfFirstRow 81 = .ok (.bipush (-9), 2) := by decide +kernel
theorem dX7_eventOfFirstRow_83 : decode cX7_eventOfFirstRow 83 = .ok (.ireturn, 1) := by decide +kernel
theorem dX7_firstKeptEvent_0 : decode cX7_firstKeptEvent 0 = .ok (.iconst 0, 1) := by decide +kernel
theorem dX7_firstKeptEvent_1 : decode cX7_firstKeptEvent 1 = .ok (.istore_n 3, 1) := by decide +kernel
theorem dX7_firstKeptEvent_2 : decode cX7_firstKeptEvent 2 = .ok (.iload_n 3, 1) := by decide +kernel
theorem dX7_firstKeptEvent_3 : decode cX7_firstKeptEvent 3 = .ok (.iconst 4, 1) := by decide +kernel
theorem dX7_firstKeptEvent_4 : decode cX7_firstKeptEvent 4 = .ok (.if_icmp .ge 27, 3) := by decide +kernel
theorem dX7_firstKeptEvent_7 : decode cX7_firstKeptEvent 7 = .ok (.aload_n 0, 1) := by decide +kernel
theorem dX7_firstKeptEvent_8 : decode cX7_firstKeptEvent 8 = .ok (.aload_n 0, 1) := by decide +kernel
theorem dX7_firstKeptEvent_9 : decode cX7_firstKeptEvent 9 = .ok (.iload_n 1, 1) := by decide +kernel
theorem dX7_firstKeptEvent_10 : decode cX7_firstKeptEvent 10 = .ok (.iload_n 3, 1) := by decide +kernel
theorem dX7_firstKeptEvent_11 : decode cX7_firstKeptEvent 11 = .ok (.invokevirtual 61, 3) := by decide +kernel
theorem dX7_firstKeptEvent_14 : decode cX7_firstKeptEvent 14 = .ok (.iload_n 2, 1) := by decide +kernel
theorem dX7_firstKeptEvent_15 : decode cX7_firstKeptEvent 15 = .ok (.invokevirtual 79, 3) := by decide +kernel
theorem dX7_firstKeptEvent_18 : decode cX7_firstKeptEvent 18 = .ok (.lconst 0, 1) := by decide +kernel
theorem dX7_firstKeptEvent_19 : decode cX7_firstKeptEvent 19 = .ok (.lcmp, 1) := by decide +kernel
theorem dX7_firstKeptEvent_20 : decode cX7_firstKeptEvent 20 = .ok (.ifCond .le 5, 3) := by decide +kernel
theorem dX7_firstKeptEvent_23 : decode cX7_firstKeptEvent 23 = .ok (.iload_n 3, 1) := by decide +kernel
theorem dX7_firstKeptEvent_24 : decode cX7_firstKeptEvent 24 = .ok (.ireturn, 1) := by decide +kernel
theorem dX7_firstKeptEvent_25 : decode cX7_firstKeptEvent 25 = .ok (.iinc 3 1, 3) := by decide +kernel
theorem dX7_firstKeptEvent_28 : decode cX7_firstKeptEvent 28 = .ok (.goto (-26), 3) := by decide +kernel
theorem dX7_firstKeptEvent_31 : decode cX7_firstKeptEvent 31 = .ok (.bipush (-9), 2) := by decide +kernel
theorem dX7_firstKeptEvent_33 : decode cX7_firstKeptEvent 33 = .ok (.ireturn, 1) := by decide +kernel
theorem dX8_init_0 : decode cX8_init 0 = .ok (.aload_n 0, 1) := by decide +kernel
theorem dX8_init_1 : decode cX8_init 1 = .ok (.invokespecial 3, 3) := by decide +kernel
theorem dX8_init_4 : decode cX8_init 4 = .ok (.aload_n 0, 1) := by decide +kernel
theorem dX8_init_5 : decode cX8_init 5 = .ok (.bipush 60, 2) := by decide +kernel
theorem dX8_init_7 : decode cX8_init 7 = .ok (.newarray .int, 2) := by decide +kernel
theorem dX8_init_9 : decode cX8_init 9 = .ok (.putfield 9, 3) := by decide +kernel
theorem dX8_init_12 : decode cX8_init 12 = .ok (.aload_n 0, 1) := by decide +kernel
theorem dX8_init_13 : decode cX8_init 13 = .ok (.iconst 0, 1) := by decide +kernel
theorem dX8_init_14 : decode cX8_init 14 = .ok (.putfield 13, 3) := by decide +kernel
theorem dX8_init_17 : decode cX8_init 17 = .ok (.aload_n 0, 1) := by decide +kernel
theorem dX8_init_18 : decode cX8_init 18 = .ok (.iconst 0, 1) := by decide +kernel
theorem dX8_init_19 : decode cX8_init 19 = .ok (.putfield 17, 3) := by decide +kernel
theorem dX8_init_22 : decode cX8_init 22 = .ok (.aload_n 0, 1) := by decide +kernel
theorem dX8_init_23 : decode cX8_init 23 = .ok (.new 20, 3) := by decide +kernel
theorem dX8_init_26 : decode cX8_init 26 = .ok (.dup, 1) := by decide +kernel
theorem dX8_init_27 : decode cX8_init 27 = .ok (.invokespecial 22, 3) := by decide +kernel
theorem dX8_init_30 : decode cX8_init 30 = .ok (.putfield 23, 3) := by decide +kernel
theorem dX8_init_33 : decode cX8_init 33 = .ok (.aload_n 0, 1) := by decide +kernel
theorem dX8_init_34 : decode cX8_init 34 = .ok (.new 27, 3) := by decide +kernel
theorem dX8_init_37 : decode cX8_init 37 = .ok (.dup, 1) := by decide +kernel
theorem dX8_init_38 : decode cX8_init 38 = .ok (.invokespecial 29, 3) := by decide +kernel
theorem dX8_init_41 : decode cX8_init 41 = .ok (.putfield 30, 3) := by decide +kernel
theorem dX8_init_44 : decode cX8_init 44 = .ok (.aload_n 0, 1) := by decide +kernel
theorem dX8_init_45 : decode cX8_init 45 = .ok (.new 34, 3) := by decide +kernel
theorem dX8_init_48 : decode cX8_init 48 = .ok (.dup, 1) := by decide +kernel
theorem dX8_init_49 : decode cX8_init 49 = .ok (.invokespecial 36, 3) := by decide +kernel
theorem dX8_init_52 : decode cX8_init 52 = .ok (.putfield 37, 3) := by decide +kernel
theorem dX8_init_55 : decode cX8_init 55 = .ok (.aload_n 0, 1) := by decide +kernel
theorem dX8_init_56 : decode cX8_init 56 = .ok (.new 41, 3) := by decide +kernel
theorem dX8_init_59 : decode cX8_init 59 = .ok (.dup, 1) := by decide +kernel
theorem dX8_init_60 : decode cX8_init 60 = .ok (.invokespecial 43, 3) := by decide +kernel
theorem dX8_init_63 : decode cX8_init 63 = .ok (.putfield 44, 3) := by decide +kernel
theorem dX8_init_66 : decode cX8_init 66 = .ok (.aload_n 0, 1) := by decide +kernel
theorem dX8_init_67 : decode cX8_init 67 = .ok (.new 48, 3) := by decide +kernel
theorem dX8_init_70 : decode cX8_init 70 = .ok (.dup, 1) := by decide +kernel
theorem dX8_init_71 : decode cX8_init 71 = .ok (.invokespecial 50, 3) := by decide +kernel
theorem dX8_init_74 : decode cX8_init 74 = .ok (.putfield 51, 3) := by decide +kernel
theorem dX8_init_77 : decode cX8_init 77 = .ok (.aload_n 0, 1) := by decide +kernel
theorem dX8_init_78 : decode cX8_init 78 = .ok (.new 48, 3) := by decide +kernel
theorem dX8_init_81 : decode cX8_init 81 = .ok (.dup, 1) := by decide +kernel
theorem dX8_init_82 : decode cX8_init 82 = .ok (.invokespecial 50, 3) := by decide +kernel
theorem dX8_init_85 : decode cX8_init 85 = .ok (.putfield 55, 3) := by decide +kernel
theorem dX8_init_88 : decode cX8_init 88 = .ok (.aload_n 0, 1) := by decide +kernel
theorem dX8_init_89 : decode cX8_init 89 = .ok (.new 58, 3) := by decide +kernel
theorem dX8_init_92 : decode cX8_init 92 = .ok (.dup, 1) := by decide +kernel
theorem dX8_init_93 : decode cX8_init 93 = .ok (.invokespecial 60, 3) := by decide +kernel
theorem dX8_init_96 : decode cX8_init 96 = .ok (.putfield 61, 3) := by decide +kernel
theorem dX8_init_99 : decode cX8_init 99 = .ok (.aload_n 0, 1) := by decide +kernel
theorem dX8_init_100 : decode cX8_init 100 = .ok (.new 65, 3) := by decide +kernel
theorem dX8_init_103 : decode cX8_init 103 = .ok (.dup, 1) := by decide +kernel
theorem dX8_init_104 : decode cX8_init 104 = .ok (.invokespecial 67, 3) := by decide +kernel
theorem dX8_init_107 : decode cX8_init 107 = .ok (.putfield 68, 3) := by decide +kernel
theorem dX8_init_110 : decode cX8_init 110 = .ok (.return_, 1) := by decide +kernel
theorem dX8_feed_0 : decode cX8_feed 0 = .ok (.lload_n 1, 1) := by decide +kernel
theorem dX8_feed_1 : decode cX8_feed 1 = .ok (.invokestatic 72, 3) := by decide +kernel
theorem dX8_feed_4 : decode cX8_feed 4 = .ok (.istore_n 3, 1) := by decide +kernel
theorem dX8_feed_5 : decode cX8_feed 5 = .ok (.aload_n 0, 1) := by decide +kernel
theorem dX8_feed_6 : decode cX8_feed 6 = .ok (.getfield 13, 3) := by decide +kernel
theorem dX8_feed_9 : decode cX8_feed 9 = .ok (.iload_n 3, 1) := by decide +kernel
theorem dX8_feed_10 : decode cX8_feed 10 = .ok (.iadd, 1) := by decide +kernel
theorem dX8_feed_11 : decode cX8_feed 11 = .ok (.bipush 60, 2) := by decide +kernel
theorem dX8_feed_13 : decode cX8_feed 13 = .ok (.if_icmp .le 6, 3) := by decide +kernel
theorem dX8_feed_16 : decode cX8_feed 16 = .ok (.bipush (-4), 2) := by decide +kernel
theorem dX8_feed_18 : decode cX8_feed 18 = .ok (.ireturn, 1) := by decide +kernel
theorem dX8_feed_19 : decode cX8_feed 19 = .ok (.iconst 0, 1) := by decide +kernel
theorem dX8_feed_20 : decode cX8_feed 20 = .ok (.istore 4, 2) := by decide +kernel
theorem dX8_feed_22 : decode cX8_feed 22 = .ok (.iload 4, 2) := by decide +kernel
theorem dX8_feed_24 : decode cX8_feed 24 = .ok (.iload_n 3, 1) := by decide +kernel
theorem dX8_feed_25 : decode cX8_feed 25 = .ok (.if_icmp .ge 46, 3) := by decide +kernel
theorem dX8_feed_28 : decode cX8_feed 28 = .ok (.aload_n 0, 1) := by decide +kernel
theorem dX8_feed_29 : decode cX8_feed 29 = .ok (.getfield 13, 3) := by decide +kernel
theorem dX8_feed_32 : decode cX8_feed 32 = .ok (.aload_n 0, 1) := by decide +kernel
theorem dX8_feed_33 : decode cX8_feed 33 = .ok (.getfield 9, 3) := by decide +kernel
theorem dX8_feed_36 : decode cX8_feed 36 = .ok (.arraylength, 1) := by decide +kernel
theorem dX8_feed_37 : decode cX8_feed 37 = .ok (.if_icmp .ge 34, 3) := by decide +kernel
theorem dX8_feed_40 : decode cX8_feed 40 = .ok (.aload_n 0, 1) := by decide +kernel
theorem dX8_feed_41 : decode cX8_feed 41 = .ok (.getfield 9, 3) := by decide +kernel
theorem dX8_feed_44 : decode cX8_feed 44 = .ok (.aload_n 0, 1) := by decide +kernel
theorem dX8_feed_45 : decode cX8_feed 45 = .ok (.getfield 13, 3) := by decide +kernel
theorem dX8_feed_48 : decode cX8_feed 48 = .ok (.lload_n 1, 1) := by decide +kernel
theorem dX8_feed_49 : decode cX8_feed 49 = .ok (.iload 4, 2) := by decide +kernel
theorem dX8_feed_51 : decode cX8_feed 51 = .ok (.invokestatic 76, 3) := by decide +kernel
theorem dX8_feed_54 : decode cX8_feed 54 = .ok (.iastore, 1) := by decide +kernel
theorem dX8_feed_55 : decode cX8_feed 55 = .ok (.aload_n 0, 1) := by decide +kernel
theorem dX8_feed_56 : decode cX8_feed 56 = .ok (.dup, 1) := by decide +kernel
theorem dX8_feed_57 : decode cX8_feed 57 = .ok (.getfield 13, 3) := by decide +kernel
theorem dX8_feed_60 : decode cX8_feed 60 = .ok (.iconst 1, 1) := by decide +kernel
theorem dX8_feed_61 : decode cX8_feed 61 = .ok (.iadd, 1) := by decide +kernel
theorem dX8_feed_62 : decode cX8_feed 62 = .ok (.putfield 13, 3) := by decide +kernel
theorem dX8_feed_65 : decode cX8_feed 65 = .ok (.iinc 4 1, 3) := by decide +kernel
theorem dX8_feed_68 : decode cX8_feed 68 = .ok (.goto (-46), 3) := by decide +kernel
theorem dX8_feed_71 : decode cX8_feed 71 = .ok (.aload_n 0, 1) := by decide +kernel
theorem dX8_feed_72 : decode cX8_feed 72 = .ok (.getfield 13, 3) := by decide +kernel
theorem dX8_feed_75 : decode cX8_feed 75 = .ok (.ireturn, 1) := by decide +kernel
theorem dX8_read_0 : decode cX8_read 0 = .ok (.aload_n 0, 1) := by decide +kernel
theorem dX8_read_1 : decode cX8_read 1 = .ok (.getfield 23, 3) := by decide +kernel
theorem dX8_read_4 : decode cX8_read 4 = .ok (.aload_n 0, 1) := by decide +kernel
theorem dX8_read_5 : decode cX8_read 5 = .ok (.getfield 9, 3) := by decide +kernel
theorem dX8_read_8 : decode cX8_read 8 = .ok (.aload_n 0, 1) := by decide +kernel
theorem dX8_read_9 : decode cX8_read 9 = .ok (.getfield 13, 3) := by decide +kernel
theorem dX8_read_12 : decode cX8_read 12 = .ok (.invokevirtual 80, 3) := by decide +kernel
theorem dX8_read_15 : decode cX8_read 15 = .ok (.istore_n 1, 1) := by decide +kernel
theorem dX8_read_16 : decode cX8_read 16 = .ok (.aload_n 0, 1) := by decide +kernel
theorem dX8_read_17 : decode cX8_read 17 = .ok (.aload_n 0, 1) := by decide +kernel
theorem dX8_read_18 : decode cX8_read 18 = .ok (.getfield 23, 3) := by decide +kernel
theorem dX8_read_21 : decode cX8_read 21 = .ok (.invokevirtual 84, 3) := by decide +kernel
theorem dX8_read_24 : decode cX8_read 24 = .ok (.putfield 17, 3) := by decide +kernel
theorem dX8_read_27 : decode cX8_read 27 = .ok (.iload_n 1, 1) := by decide +kernel
theorem dX8_read_28 : decode cX8_read 28 = .ok (.ifCond .ne 14, 3) := by decide +kernel
theorem dX8_read_31 : decode cX8_read 31 = .ok (.bipush (-100), 2) := by decide +kernel
theorem dX8_read_33 : decode cX8_read 33 = .ok (.aload_n 0, 1) := by decide +kernel
theorem dX8_read_34 : decode cX8_read 34 = .ok (.getfield 23, 3) := by decide +kernel
theorem dX8_read_37 : decode cX8_read 37 = .ok (.invokevirtual 87, 3) := by decide +kernel
theorem dX8_read_40 : decode cX8_read 40 = .ok (.isub, 1) := by decide +kernel
theorem dX8_read_41 : decode cX8_read 41 = .ok (.ireturn, 1) := by decide +kernel
theorem dX8_read_42 : decode cX8_read 42 = .ok (.aload_n 0, 1) := by decide +kernel
theorem dX8_read_43 : decode cX8_read 43 = .ok (.getfield 30, 3) := by decide +kernel
theorem dX8_read_46 : decode cX8_read 46 = .ok (.aload_n 0, 1) := by decide +kernel
theorem dX8_read_47 : decode cX8_read 47 = .ok (.getfield 23, 3) := by decide +kernel
theorem dX8_read_50 : decode cX8_read 50 = .ok (.invokevirtual 90, 3) := by decide +kernel
theorem dX8_read_53 : decode cX8_read 53 = .ok (.invokevirtual 94, 3) := by decide +kernel
theorem dX8_read_56 : decode cX8_read 56 = .ok (.aload_n 0, 1) := by decide +kernel
theorem dX8_read_57 : decode cX8_read 57 = .ok (.getfield 37, 3) := by decide +kernel
theorem dX8_read_60 : decode cX8_read 60 = .ok (.aload_n 0, 1) := by decide +kernel
theorem dX8_read_61 : decode cX8_read 61 = .ok (.getfield 30, 3) := by decide +kernel
theorem dX8_read_64 : decode cX8_read 64 = .ok (.invokevirtual 98, 3) := by decide +kernel
theorem dX8_read_67 : decode cX8_read 67 = .ok (.ifCond .eq 17, 3) := by decide +kernel
theorem dX8_read_70 : decode cX8_read 70 = .ok (.aload_n 0, 1) := by decide +kernel
theorem dX8_read_71 : decode cX8_read 71 = .ok (.getfield 44, 3) := by decide +kernel
theorem dX8_read_74 : decode cX8_read 74 = .ok (.aload_n 0, 1) := by decide +kernel
theorem dX8_read_75 : decode cX8_read 75 = .ok (.getfield 37, 3) := by decide +kernel
theorem dX8_read_78 : decode cX8_read 78 = .ok (.invokevirtual 101, 3) := by decide +kernel
theorem dX8_read_81 : decode cX8_read 81 = .ok (.ifCond .ne 6, 3) := by decide +kernel
theorem dX8_read_84 : decode cX8_read 84 = .ok (.bipush (-4), 2) := by decide +kernel
theorem dX8_read_86 : decode cX8_read 86 = .ok (.ireturn, 1) := by decide +kernel
theorem dX8_read_87 : decode cX8_read 87 = .ok (.aload_n 0, 1) := by decide +kernel
theorem dX8_read_88 : decode cX8_read 88 = .ok (.getfield 44, 3) := by decide +kernel
theorem dX8_read_91 : decode cX8_read 91 = .ok (.aload_n 0, 1) := by decide +kernel
theorem dX8_read_92 : decode cX8_read 92 = .ok (.getfield 51, 3) := by decide +kernel
theorem dX8_read_95 : decode cX8_read 95 = .ok (.aload_n 0, 1) := by decide +kernel
theorem dX8_read_96 : decode cX8_read 96 = .ok (.getfield 37, 3) := by decide +kernel
theorem dX8_read_99 : decode cX8_read 99 = .ok (.invokevirtual 105, 3) := by decide +kernel
theorem dX8_read_102 : decode cX8_read 102 = .ok (.aload_n 0, 1) := by decide +kernel
theorem dX8_read_103 : decode cX8_read 103 = .ok (.getfield 68, 3) := by decide +kernel
theorem dX8_read_106 : decode cX8_read 106 = .ok (.invokevirtual 109, 3) := by decide +kernel
theorem dX8_read_109 : decode cX8_read 109 = .ok (.aload_n 0, 1) := by decide +kernel
theorem dX8_read_110 : decode cX8_read 110 = .ok (.iconst 0, 1) := by decide +kernel
theorem dX8_read_111 : decode cX8_read 111 = .ok (.putfield 13, 3) := by decide +kernel
theorem dX8_read_114 : decode cX8_read 114 = .ok (.aload_n 0, 1) := by decide +kernel
theorem dX8_read_115 : decode cX8_read 115 = .ok (.getfield 51, 3) := by decide +kernel
theorem dX8_read_118 : decode cX8_read 118 = .ok (.invokevirtual 112, 3) := by decide +kernel
theorem dX8_read_121 : decode cX8_read 121 = .ok (.ireturn, 1) := by decide +kernel
theorem dX8_fault_0 : decode cX8_fault 0 = .ok (.aload_n 0, 1) := by decide +kernel
theorem dX8_fault_1 : decode cX8_fault 1 = .ok (.getfield 17, 3) := by decide +kernel
theorem dX8_fault_4 : decode cX8_fault 4 = .ok (.ireturn, 1) := by decide +kernel
theorem dX8_cut_0 : decode cX8_cut 0 = .ok (.aload_n 0, 1) := by decide +kernel
theorem dX8_cut_1 : decode cX8_cut 1 = .ok (.getfield 13, 3) := by decide +kernel
theorem dX8_cut_4 : decode cX8_cut 4 = .ok (.istore_n 1, 1) := by decide +kernel
theorem dX8_cut_5 : decode cX8_cut 5 = .ok (.aload_n 0, 1) := by decide +kernel
theorem dX8_cut_6 : decode cX8_cut 6 = .ok (.iconst 0, 1) := by decide +kernel
theorem dX8_cut_7 : decode cX8_cut 7 = .ok (.putfield 13, 3) := by decide +kernel
theorem dX8_cut_10 : decode cX8_cut 10 = .ok (.iload_n 1, 1) := by decide +kernel
theorem dX8_cut_11 : decode cX8_cut 11 = .ok (.ireturn, 1) := by decide +kernel
theorem dX8_leads_0 : decode cX8_leads 0 = .ok (.aload_n 0, 1) := by decide +kernel
theorem dX8_leads_1 : decode cX8_leads 1 = .ok (.getfield 51, 3) := by decide +kernel
theorem dX8_leads_4 : decode cX8_leads 4 = .ok (.invokevirtual 115, 3) := by decide +kernel
theorem dX8_leads_7 : decode cX8_leads 7 = .ok (.ifCond .ne 6, 3) := by decide +kernel
theorem dX8_leads_10 : decode cX8_leads 10 = .ok (.bipush (-3), 2) := by decide +kernel
theorem dX8_leads_12 : decode cX8_leads 12 = .ok (.ireturn, 1) := by decide +kernel
theorem dX8_leads_13 : decode cX8_leads 13 = .ok (.aload_n 0, 1) := by decide +kernel
theorem dX8_leads_14 : decode cX8_leads 14 = .ok (.getfield 51, 3) := by decide +kernel
theorem dX8_leads_17 : decode cX8_leads 17 = .ok (.iload_n 1, 1) := by decide +kernel
theorem dX8_leads_18 : decode cX8_leads 18 = .ok (.invokevirtual 119, 3) := by decide +kernel
theorem dX8_leads_21 : decode cX8_leads 21 = .ok (.ifCond .eq 10, 3) := by decide +kernel
theorem dX8_leads_24 : decode cX8_leads 24 = .ok (.iload_n 2, 1) := by decide +kernel
theorem dX8_leads_25 : decode cX8_leads 25 = .ok (.invokestatic 123, 3) := by decide +kernel
theorem dX8_leads_28 : decode cX8_leads 28 = .ok (.ifCond .ne 5, 3) := by decide +kernel
theorem dX8_leads_31 : decode cX8_leads 31 = .ok (.iconst (-1), 1) := by decide +kernel
theorem dX8_leads_32 : decode cX8_leads 32 = .ok (.ireturn, 1) := by decide +kernel
theorem dX8_leads_33 : decode cX8_leads 33 = .ok (.aload_n 0, 1) := by decide +kernel
theorem dX8_leads_34 : decode cX8_leads 34 = .ok (.getfield 51, 3) := by decide +kernel
theorem dX8_leads_37 : decode cX8_leads 37 = .ok (.iload_n 1, 1) := by decide +kernel
theorem dX8_leads_38 : decode cX8_leads 38 = .ok (.iload_n 2, 1) := by decide +kernel
theorem dX8_leads_39 : decode cX8_leads 39 = .ok (.invokevirtual 126, 3) := by decide +kernel
theorem dX8_leads_42 : decode cX8_leads 42 = .ok (.ireturn, 1) := by decide +kernel
theorem dX8_verdict_0 : decode cX8_verdict 0 = .ok (.aload_n 0, 1) := by decide +kernel
theorem dX8_verdict_1 : decode cX8_verdict 1 = .ok (.iload_n 1, 1) := by decide +kernel
theorem dX8_verdict_2 : decode cX8_verdict 2 = .ok (.invokevirtual 130, 3) := by decide +kernel
theorem dX8_verdict_5 : decode cX8_verdict 5 = .ok (.istore_n 2, 1) := by decide +kernel
theorem dX8_verdict_6 : decode cX8_verdict 6 = .ok (.iload_n 2, 1) := by decide +kernel
theorem dX8_verdict_7 : decode cX8_verdict 7 = .ok (.ifCond .eq 7, 3) := by decide +kernel
theorem dX8_verdict_10 : decode cX8_verdict 10 = .ok (.iload_n 2, 1) := by decide +kernel
theorem dX8_verdict_11 : decode cX8_verdict 11 = .ok (.goto 11, 3) := by decide +kernel
theorem dX8_verdict_14 : decode cX8_verdict 14 = .ok (.aload_n 0, 1) := by decide +kernel
theorem dX8_verdict_15 : decode cX8_verdict 15 = .ok (.getfield 51, 3) := by decide +kernel
theorem dX8_verdict_18 : decode cX8_verdict 18 = .ok (.iload_n 1, 1) := by decide +kernel
theorem dX8_verdict_19 : decode cX8_verdict 19 = .ok (.invokevirtual 134, 3) := by decide +kernel
theorem dX8_verdict_22 : decode cX8_verdict 22 = .ok (.ireturn, 1) := by decide +kernel
theorem dX8_far_0 : decode cX8_far 0 = .ok (.aload_n 0, 1) := by decide +kernel
theorem dX8_far_1 : decode cX8_far 1 = .ok (.iload_n 1, 1) := by decide +kernel
theorem dX8_far_2 : decode cX8_far 2 = .ok (.invokevirtual 130, 3) := by decide +kernel
theorem dX8_far_5 : decode cX8_far 5 = .ok (.istore_n 3, 1) := by decide +kernel
theorem dX8_far_6 : decode cX8_far 6 = .ok (.iload_n 3, 1) := by decide +kernel
theorem dX8_far_7 : decode cX8_far 7 = .ok (.ifCond .eq 5, 3) := by decide +kernel
theorem dX8_far_10 : decode cX8_far 10 = .ok (.iload_n 3, 1) := by decide +kernel
theorem dX8_far_11 : decode cX8_far 11 = .ok (.ireturn, 1) := by decide +kernel
theorem dX8_far_12 : decode cX8_far 12 = .ok (.iload_n 2, 1) := by decide +kernel
theorem dX8_far_13 : decode cX8_far 13 = .ok (.invokestatic 137, 3) := by decide +kernel
theorem dX8_far_16 : decode cX8_far 16 = .ok (.ifCond .eq 15, 3) := by decide +kernel
theorem dX8_far_19 : decode cX8_far 19 = .ok (.aload_n 0, 1) := by decide +kernel
theorem dX8_far_20 : decode cX8_far 20 = .ok (.getfield 51, 3) := by decide +kernel
theorem dX8_far_23 : decode cX8_far 23 = .ok (.iload_n 1, 1) := by decide +kernel
theorem dX8_far_24 : decode cX8_far 24 = .ok (.iload_n 2, 1) := by decide +kernel
theorem dX8_far_25 : decode cX8_far 25 = .ok (.invokevirtual 140, 3) := by decide +kernel
theorem dX8_far_28 : decode cX8_far 28 = .ok (.goto 5, 3) := by decide +kernel
theorem dX8_far_31 : decode cX8_far 31 = .ok (.bipush (-2), 2) := by decide +kernel
theorem dX8_far_33 : decode cX8_far 33 = .ok (.ireturn, 1) := by decide +kernel
theorem dX8_toward_0 : decode cX8_toward 0 = .ok (.aload_n 0, 1) := by decide +kernel
theorem dX8_toward_1 : decode cX8_toward 1 = .ok (.iload_n 1, 1) := by decide +kernel
theorem dX8_toward_2 : decode cX8_toward 2 = .ok (.invokevirtual 130, 3) := by decide +kernel
theorem dX8_toward_5 : decode cX8_toward 5 = .ok (.istore_n 3, 1) := by decide +kernel
theorem dX8_toward_6 : decode cX8_toward 6 = .ok (.iload_n 3, 1) := by decide +kernel
theorem dX8_toward_7 : decode cX8_toward 7 = .ok (.ifCond .eq 5, 3) := by decide +kernel
theorem dX8_toward_10 : decode cX8_toward 10 = .ok (.iload_n 3, 1) := by decide +kernel
theorem dX8_toward_11 : decode cX8_toward 11 = .ok (.ireturn, 1) := by decide +kernel
theorem dX8_toward_12 : decode cX8_toward 12 = .ok (.iload_n 2, 1) := by decide +kernel
theorem dX8_toward_13 : decode cX8_toward 13 = .ok (.invokestatic 137, 3) := by decide +kernel
theorem dX8_toward_16 : decode cX8_toward 16 = .ok (.ifCond .eq 15, 3) := by decide +kernel
theorem dX8_toward_19 : decode cX8_toward 19 = .ok (.aload_n 0, 1) := by decide +kernel
theorem dX8_toward_20 : decode cX8_toward 20 = .ok (.getfield 51, 3) := by decide +kernel
theorem dX8_toward_23 : decode cX8_toward 23 = .ok (.iload_n 1, 1) := by decide +kernel
theorem dX8_toward_24 : decode cX8_toward 24 = .ok (.iload_n 2, 1) := by decide +kernel
theorem dX8_toward_25 : decode cX8_toward 25 = .ok (.invokevirtual 143, 3) := by decide +kernel
theorem dX8_toward_28 : decode cX8_toward 28 = .ok (.goto 5, 3) := by decide +kernel
theorem dX8_toward_31 : decode cX8_toward 31 = .ok (.bipush (-2), 2) := by decide +kernel
theorem dX8_toward_33 : decode cX8_toward 33 = .ok (.ireturn, 1) := by decide +kernel
theorem dX8_runs_0 : decode cX8_runs 0 = .ok (.aload_n 0, 1) := by decide +kernel
theorem dX8_runs_1 : decode cX8_runs 1 = .ok (.iload_n 1, 1) := by decide +kernel
theorem dX8_runs_2 : decode cX8_runs 2 = .ok (.invokevirtual 130, 3) := by decide +kernel
theorem dX8_runs_5 : decode cX8_runs 5 = .ok (.istore_n 3, 1) := by decide +kernel
theorem dX8_runs_6 : decode cX8_runs 6 = .ok (.iload_n 3, 1) := by decide +kernel
theorem dX8_runs_7 : decode cX8_runs 7 = .ok (.ifCond .eq 6, 3) := by decide +kernel
theorem dX8_runs_10 : decode cX8_runs 10 = .ok (.iload_n 3, 1) := by decide +kernel
theorem dX8_runs_11 : decode cX8_runs 11 = .ok (.i2l, 1) := by decide +kernel
theorem dX8_runs_12 : decode cX8_runs 12 = .ok (.lreturn, 1) := by decide +kernel
theorem dX8_runs_13 : decode cX8_runs 13 = .ok (.iload_n 2, 1) := by decide +kernel
theorem dX8_runs_14 : decode cX8_runs 14 = .ok (.invokestatic 146, 3) := by decide +kernel
theorem dX8_runs_17 : decode cX8_runs 17 = .ok (.ifCond .eq 15, 3) := by decide +kernel
theorem dX8_runs_20 : decode cX8_runs 20 = .ok (.aload_n 0, 1) := by decide +kernel
theorem dX8_runs_21 : decode cX8_runs 21 = .ok (.getfield 51, 3) := by decide +kernel
theorem dX8_runs_24 : decode cX8_runs 24 = .ok (.iload_n 1, 1) := by decide +kernel
theorem dX8_runs_25 : decode cX8_runs 25 = .ok (.iload_n 2, 1) := by decide +kernel
theorem dX8_runs_26 : decode cX8_runs 26 = .ok (.invokevirtual 149, 3) := by decide +kernel
theorem dX8_runs_29 : decode cX8_runs 29 = .ok (.goto 6, 3) := by decide +kernel
theorem dX8_runs_32 : decode cX8_runs 32 = .ok (.ldc2_w 153, 3) := by decide +kernel
theorem dX8_runs_35 : decode cX8_runs 35 = .ok (.lreturn, 1) := by decide +kernel
theorem dX8_run_0 : decode cX8_run 0 = .ok (.aload_n 0, 1) := by decide +kernel
theorem dX8_run_1 : decode cX8_run 1 = .ok (.iload_n 1, 1) := by decide +kernel
theorem dX8_run_2 : decode cX8_run 2 = .ok (.invokevirtual 130, 3) := by decide +kernel
theorem dX8_run_5 : decode cX8_run 5 = .ok (.istore 4, 2) := by decide +kernel
theorem dX8_run_7 : decode cX8_run 7 = .ok (.iload 4, 2) := by decide +kernel
theorem dX8_run_9 : decode cX8_run 9 = .ok (.ifCond .eq 6, 3) := by decide +kernel
theorem dX8_run_12 : decode cX8_run 12 = .ok (.iload 4, 2) := by decide +kernel
theorem dX8_run_14 : decode cX8_run 14 = .ok (.ireturn, 1) := by decide +kernel
theorem dX8_run_15 : decode cX8_run 15 = .ok (.iload_n 2, 1) := by decide +kernel
theorem dX8_run_16 : decode cX8_run 16 = .ok (.invokestatic 146, 3) := by decide +kernel
theorem dX8_run_19 : decode cX8_run 19 = .ok (.ifCond .eq 16, 3) := by decide +kernel
theorem dX8_run_22 : decode cX8_run 22 = .ok (.aload_n 0, 1) := by decide +kernel
theorem dX8_run_23 : decode cX8_run 23 = .ok (.getfield 51, 3) := by decide +kernel
theorem dX8_run_26 : decode cX8_run 26 = .ok (.iload_n 1, 1) := by decide +kernel
theorem dX8_run_27 : decode cX8_run 27 = .ok (.iload_n 2, 1) := by decide +kernel
theorem dX8_run_28 : decode cX8_run 28 = .ok (.iload_n 3, 1) := by decide +kernel
theorem dX8_run_29 : decode cX8_run 29 = .ok (.invokevirtual 155, 3) := by decide +kernel
theorem dX8_run_32 : decode cX8_run 32 = .ok (.goto 5, 3) := by decide +kernel
theorem dX8_run_35 : decode cX8_run 35 = .ok (.bipush (-2), 2) := by decide +kernel
theorem dX8_run_37 : decode cX8_run 37 = .ok (.ireturn, 1) := by decide +kernel
theorem dX8_event_0 : decode cX8_event 0 = .ok (.aload_n 0, 1) := by decide +kernel
theorem dX8_event_1 : decode cX8_event 1 = .ok (.getfield 51, 3) := by decide +kernel
theorem dX8_event_4 : decode cX8_event 4 = .ok (.invokevirtual 115, 3) := by decide +kernel
theorem dX8_event_7 : decode cX8_event 7 = .ok (.ifCond .ne 6, 3) := by decide +kernel
theorem dX8_event_10 : decode cX8_event 10 = .ok (.bipush (-3), 2) := by decide +kernel
theorem dX8_event_12 : decode cX8_event 12 = .ok (.ireturn, 1) := by decide +kernel
theorem dX8_event_13 : decode cX8_event 13 = .ok (.iload_n 1, 1) := by decide +kernel
theorem dX8_event_14 : decode cX8_event 14 = .ok (.invokestatic 123, 3) := by decide +kernel
theorem dX8_event_17 : decode cX8_event 17 = .ok (.ifCond .eq 10, 3) := by decide +kernel
theorem dX8_event_20 : decode cX8_event 20 = .ok (.iload_n 2, 1) := by decide +kernel
theorem dX8_event_21 : decode cX8_event 21 = .ok (.invokestatic 159, 3) := by decide +kernel
theorem dX8_event_24 : decode cX8_event 24 = .ok (.ifCond .ne 5, 3) := by decide +kernel
theorem dX8_event_27 : decode cX8_event 27 = .ok (.iconst (-1), 1) := by decide +kernel
theorem dX8_event_28 : decode cX8_event 28 = .ok (.ireturn, 1) := by decide +kernel
theorem dX8_event_29 : decode cX8_event 29 = .ok (.aload_n 0, 1) := by decide +kernel
theorem dX8_event_30 : decode cX8_event 30 = .ok (.getfield 68, 3) := by decide +kernel
theorem dX8_event_33 : decode cX8_event 33 = .ok (.aload_n 0, 1) := by decide +kernel
theorem dX8_event_34 : decode cX8_event 34 = .ok (.getfield 51, 3) := by decide +kernel
theorem dX8_event_37 : decode cX8_event 37 = .ok (.iload_n 2, 1) := by decide +kernel
theorem dX8_event_38 : decode cX8_event 38 = .ok (.iload_n 1, 1) := by decide +kernel
theorem dX8_event_39 : decode cX8_event 39 = .ok (.invokevirtual 162, 3) := by decide +kernel
theorem dX8_event_42 : decode cX8_event 42 = .ok (.ireturn, 1) := by decide +kernel
theorem dX8_lost_0 : decode cX8_lost 0 = .ok (.aload_n 0, 1) := by decide +kernel
theorem dX8_lost_1 : decode cX8_lost 1 = .ok (.iload_n 1, 1) := by decide +kernel
theorem dX8_lost_2 : decode cX8_lost 2 = .ok (.invokevirtual 166, 3) := by decide +kernel
theorem dX8_lost_5 : decode cX8_lost 5 = .ok (.istore_n 3, 1) := by decide +kernel
theorem dX8_lost_6 : decode cX8_lost 6 = .ok (.iload_n 3, 1) := by decide +kernel
theorem dX8_lost_7 : decode cX8_lost 7 = .ok (.ifCond .eq 5, 3) := by decide +kernel
theorem dX8_lost_10 : decode cX8_lost 10 = .ok (.iload_n 3, 1) := by decide +kernel
theorem dX8_lost_11 : decode cX8_lost 11 = .ok (.ireturn, 1) := by decide +kernel
theorem dX8_lost_12 : decode cX8_lost 12 = .ok (.iload_n 2, 1) := by decide +kernel
theorem dX8_lost_13 : decode cX8_lost 13 = .ok (.iconst 1, 1) := by decide +kernel
theorem dX8_lost_14 : decode cX8_lost 14 = .ok (.if_icmp .lt 9, 3) := by decide +kernel
theorem dX8_lost_17 : decode cX8_lost 17 = .ok (.iload_n 2, 1) := by decide +kernel
theorem dX8_lost_18 : decode cX8_lost 18 = .ok (.bipush 100, 2) := by decide +kernel
theorem dX8_lost_20 : decode cX8_lost 20 = .ok (.if_icmp .le 6, 3) := by decide +kernel
theorem dX8_lost_23 : decode cX8_lost 23 = .ok (.bipush (-2), 2) := by decide +kernel
theorem dX8_lost_25 : decode cX8_lost 25 = .ok (.ireturn, 1) := by decide +kernel
theorem dX8_lost_26 : decode cX8_lost 26 = .ok (.aload_n 0, 1) := by decide +kernel
theorem dX8_lost_27 : decode cX8_lost 27 = .ok (.getfield 68, 3) := by decide +kernel
theorem dX8_lost_30 : decode cX8_lost 30 = .ok (.aload_n 0, 1) := by decide +kernel
theorem dX8_lost_31 : decode cX8_lost 31 = .ok (.getfield 51, 3) := by decide +kernel
theorem dX8_lost_34 : decode cX8_lost 34 = .ok (.iload_n 1, 1) := by decide +kernel
theorem dX8_lost_35 : decode cX8_lost 35 = .ok (.iload_n 2, 1) := by decide +kernel
theorem dX8_lost_36 : decode cX8_lost 36 = .ok (.invokevirtual 169, 3) := by decide +kernel
theorem dX8_lost_39 : decode cX8_lost 39 = .ok (.ireturn, 1) := by decide +kernel
theorem dX8_told_0 : decode cX8_told 0 = .ok (.aload_n 0, 1) := by decide +kernel
theorem dX8_told_1 : decode cX8_told 1 = .ok (.iload_n 1, 1) := by decide +kernel
theorem dX8_told_2 : decode cX8_told 2 = .ok (.invokevirtual 166, 3) := by decide +kernel
theorem dX8_told_5 : decode cX8_told 5 = .ok (.istore_n 2, 1) := by decide +kernel
theorem dX8_told_6 : decode cX8_told 6 = .ok (.iload_n 2, 1) := by decide +kernel
theorem dX8_told_7 : decode cX8_told 7 = .ok (.ifCond .eq 7, 3) := by decide +kernel
theorem dX8_told_10 : decode cX8_told 10 = .ok (.iload_n 2, 1) := by decide +kernel
theorem dX8_told_11 : decode cX8_told 11 = .ok (.goto 15, 3) := by decide +kernel
theorem dX8_told_14 : decode cX8_told 14 = .ok (.aload_n 0, 1) := by decide +kernel
theorem dX8_told_15 : decode cX8_told 15 = .ok (.getfield 68, 3) := by decide +kernel
theorem dX8_told_18 : decode cX8_told 18 = .ok (.aload_n 0, 1) := by decide +kernel
theorem dX8_told_19 : decode cX8_told 19 = .ok (.getfield 51, 3) := by decide +kernel
theorem dX8_told_22 : decode cX8_told 22 = .ok (.iload_n 1, 1) := by decide +kernel
theorem dX8_told_23 : decode cX8_told 23 = .ok (.invokevirtual 172, 3) := by decide +kernel
theorem dX8_told_26 : decode cX8_told 26 = .ok (.ireturn, 1) := by decide +kernel
theorem dX8_may_0 : decode cX8_may 0 = .ok (.aload_n 0, 1) := by decide +kernel
theorem dX8_may_1 : decode cX8_may 1 = .ok (.iload_n 1, 1) := by decide +kernel
theorem dX8_may_2 : decode cX8_may 2 = .ok (.invokevirtual 166, 3) := by decide +kernel
theorem dX8_may_5 : decode cX8_may 5 = .ok (.istore_n 2, 1) := by decide +kernel
theorem dX8_may_6 : decode cX8_may 6 = .ok (.iload_n 2, 1) := by decide +kernel
theorem dX8_may_7 : decode cX8_may 7 = .ok (.ifCond .eq 7, 3) := by decide +kernel
theorem dX8_may_10 : decode cX8_may 10 = .ok (.iload_n 2, 1) := by decide +kernel
theorem dX8_may_11 : decode cX8_may 11 = .ok (.goto 11, 3) := by decide +kernel
theorem dX8_may_14 : decode cX8_may 14 = .ok (.aload_n 0, 1) := by decide +kernel
theorem dX8_may_15 : decode cX8_may 15 = .ok (.getfield 68, 3) := by decide +kernel
theorem dX8_may_18 : decode cX8_may 18 = .ok (.iload_n 1, 1) := by decide +kernel
theorem dX8_may_19 : decode cX8_may 19 = .ok (.invokevirtual 175, 3) := by decide +kernel
theorem dX8_may_22 : decode cX8_may 22 = .ok (.ireturn, 1) := by decide +kernel
theorem dX8_state_0 : decode cX8_state 0 = .ok (.aload_n 0, 1) := by decide +kernel
theorem dX8_state_1 : decode cX8_state 1 = .ok (.iload_n 1, 1) := by decide +kernel
theorem dX8_state_2 : decode cX8_state 2 = .ok (.invokevirtual 166, 3) := by decide +kernel
theorem dX8_state_5 : decode cX8_state 5 = .ok (.istore_n 3, 1) := by decide +kernel
theorem dX8_state_6 : decode cX8_state 6 = .ok (.iload_n 3, 1) := by decide +kernel
theorem dX8_state_7 : decode cX8_state 7 = .ok (.ifCond .eq 7, 3) := by decide +kernel
theorem dX8_state_10 : decode cX8_state 10 = .ok (.iload_n 3, 1) := by decide +kernel
theorem dX8_state_11 : decode cX8_state 11 = .ok (.goto 12, 3) := by decide +kernel
theorem dX8_state_14 : decode cX8_state 14 = .ok (.aload_n 0, 1) := by decide +kernel
theorem dX8_state_15 : decode cX8_state 15 = .ok (.getfield 68, 3) := by decide +kernel
theorem dX8_state_18 : decode cX8_state 18 = .ok (.iload_n 1, 1) := by decide +kernel
theorem dX8_state_19 : decode cX8_state 19 = .ok (.iload_n 2, 1) := by decide +kernel
theorem dX8_state_20 : decode cX8_state 20 = .ok (.invokevirtual 178, 3) := by decide +kernel
theorem dX8_state_23 : decode cX8_state 23 = .ok (.ireturn, 1) := by decide +kernel
theorem dX8_events_0 : decode cX8_events 0 = .ok (.aload_n 0, 1) := by decide +kernel
theorem dX8_events_1 : decode cX8_events 1 = .ok (.iload_n 1, 1) := by decide +kernel
theorem dX8_events_2 : decode cX8_events 2 = .ok (.invokevirtual 166, 3) := by decide +kernel
theorem dX8_events_5 : decode cX8_events 5 = .ok (.istore_n 2, 1) := by decide +kernel
theorem dX8_events_6 : decode cX8_events 6 = .ok (.iload_n 2, 1) := by decide +kernel
theorem dX8_events_7 : decode cX8_events 7 = .ok (.ifCond .eq 7, 3) := by decide +kernel
theorem dX8_events_10 : decode cX8_events 10 = .ok (.iload_n 2, 1) := by decide +kernel
theorem dX8_events_11 : decode cX8_events 11 = .ok (.goto 11, 3) := by decide +kernel
theorem dX8_events_14 : decode cX8_events 14 = .ok (.aload_n 0, 1) := by decide +kernel
theorem dX8_events_15 : decode cX8_events 15 = .ok (.getfield 68, 3) := by decide +kernel
theorem dX8_events_18 : decode cX8_events 18 = .ok (.iload_n 1, 1) := by decide +kernel
theorem dX8_events_19 : decode cX8_events 19 = .ok (.invokevirtual 181, 3) := by decide +kernel
theorem dX8_events_22 : decode cX8_events 22 = .ok (.ireturn, 1) := by decide +kernel
theorem dX8_anew_0 : decode cX8_anew 0 = .ok (.aload_n 0, 1) := by decide +kernel
theorem dX8_anew_1 : decode cX8_anew 1 = .ok (.iload_n 1, 1) := by decide +kernel
theorem dX8_anew_2 : decode cX8_anew 2 = .ok (.invokevirtual 166, 3) := by decide +kernel
theorem dX8_anew_5 : decode cX8_anew 5 = .ok (.istore_n 2, 1) := by decide +kernel
theorem dX8_anew_6 : decode cX8_anew 6 = .ok (.iload_n 2, 1) := by decide +kernel
theorem dX8_anew_7 : decode cX8_anew 7 = .ok (.ifCond .eq 5, 3) := by decide +kernel
theorem dX8_anew_10 : decode cX8_anew 10 = .ok (.iload_n 2, 1) := by decide +kernel
theorem dX8_anew_11 : decode cX8_anew 11 = .ok (.ireturn, 1) := by decide +kernel
theorem dX8_anew_12 : decode cX8_anew 12 = .ok (.aload_n 0, 1) := by decide +kernel
theorem dX8_anew_13 : decode cX8_anew 13 = .ok (.getfield 68, 3) := by decide +kernel
theorem dX8_anew_16 : decode cX8_anew 16 = .ok (.aload_n 0, 1) := by decide +kernel
theorem dX8_anew_17 : decode cX8_anew 17 = .ok (.getfield 51, 3) := by decide +kernel
theorem dX8_anew_20 : decode cX8_anew 20 = .ok (.iload_n 1, 1) := by decide +kernel
theorem dX8_anew_21 : decode cX8_anew 21 = .ok (.invokevirtual 172, 3) := by decide +kernel
theorem dX8_anew_24 : decode cX8_anew 24 = .ok (.istore_n 3, 1) := by decide +kernel
theorem dX8_anew_25 : decode cX8_anew 25 = .ok (.aload_n 0, 1) := by decide +kernel
theorem dX8_anew_26 : decode cX8_anew 26 = .ok (.getfield 68, 3) := by decide +kernel
theorem dX8_anew_29 : decode cX8_anew 29 = .ok (.iload_n 1, 1) := by decide +kernel
theorem dX8_anew_30 : decode cX8_anew 30 = .ok (.invokevirtual 184, 3) := by decide +kernel
theorem dX8_anew_33 : decode cX8_anew 33 = .ok (.iload_n 3, 1) := by decide +kernel
theorem dX8_anew_34 : decode cX8_anew 34 = .ok (.ireturn, 1) := by decide +kernel
theorem dX8_keep_0 : decode cX8_keep 0 = .ok (.aload_n 0, 1) := by decide +kernel
theorem dX8_keep_1 : decode cX8_keep 1 = .ok (.getfield 51, 3) := by decide +kernel
theorem dX8_keep_4 : decode cX8_keep 4 = .ok (.invokevirtual 115, 3) := by decide +kernel
theorem dX8_keep_7 : decode cX8_keep 7 = .ok (.ifCond .ne 6, 3) := by decide +kernel
theorem dX8_keep_10 : decode cX8_keep 10 = .ok (.bipush (-3), 2) := by decide +kernel
theorem dX8_keep_12 : decode cX8_keep 12 = .ok (.ireturn, 1) := by decide +kernel
theorem dX8_keep_13 : decode cX8_keep 13 = .ok (.aload_n 0, 1) := by decide +kernel
theorem dX8_keep_14 : decode cX8_keep 14 = .ok (.getfield 55, 3) := by decide +kernel
theorem dX8_keep_17 : decode cX8_keep 17 = .ok (.aload_n 0, 1) := by decide +kernel
theorem dX8_keep_18 : decode cX8_keep 18 = .ok (.getfield 51, 3) := by decide +kernel
theorem dX8_keep_21 : decode cX8_keep 21 = .ok (.invokevirtual 187, 3) := by decide +kernel
theorem dX8_keep_24 : decode cX8_keep 24 = .ok (.aload_n 0, 1) := by decide +kernel
theorem dX8_keep_25 : decode cX8_keep 25 = .ok (.getfield 55, 3) := by decide +kernel
theorem dX8_keep_28 : decode cX8_keep 28 = .ok (.invokevirtual 112, 3) := by decide +kernel
theorem dX8_keep_31 : decode cX8_keep 31 = .ok (.ireturn, 1) := by decide +kernel
theorem dX8_against_0 : decode cX8_against 0 = .ok (.aload_n 0, 1) := by decide +kernel
theorem dX8_against_1 : decode cX8_against 1 = .ok (.getfield 51, 3) := by decide +kernel
theorem dX8_against_4 : decode cX8_against 4 = .ok (.invokevirtual 115, 3) := by decide +kernel
theorem dX8_against_7 : decode cX8_against 7 = .ok (.ifCond .eq 13, 3) := by decide +kernel
theorem dX8_against_10 : decode cX8_against 10 = .ok (.aload_n 0, 1) := by decide +kernel
theorem dX8_against_11 : decode cX8_against 11 = .ok (.getfield 55, 3) := by decide +kernel
theorem dX8_against_14 : decode cX8_against 14 = .ok (.invokevirtual 115, 3) := by decide +kernel
theorem dX8_against_17 : decode cX8_against 17 = .ok (.ifCond .ne 6, 3) := by decide +kernel
theorem dX8_against_20 : decode cX8_against 20 = .ok (.bipush (-3), 2) := by decide +kernel
theorem dX8_against_22 : decode cX8_against 22 = .ok (.ireturn, 1) := by decide +kernel
theorem dX8_against_23 : decode cX8_against 23 = .ok (.aload_n 0, 1) := by decide +kernel
theorem dX8_against_24 : decode cX8_against 24 = .ok (.getfield 61, 3) := by decide +kernel
theorem dX8_against_27 : decode cX8_against 27 = .ok (.aload_n 0, 1) := by decide +kernel
theorem dX8_against_28 : decode cX8_against 28 = .ok (.getfield 51, 3) := by decide +kernel
theorem dX8_against_31 : decode cX8_against 31 = .ok (.aload_n 0, 1) := by decide +kernel
theorem dX8_against_32 : decode cX8_against 32 = .ok (.getfield 55, 3) := by decide +kernel
theorem dX8_against_35 : decode cX8_against 35 = .ok (.invokevirtual 191, 3) := by decide +kernel
theorem dX8_against_38 : decode cX8_against 38 = .ok (.aload_n 0, 1) := by decide +kernel
theorem dX8_against_39 : decode cX8_against 39 = .ok (.getfield 61, 3) := by decide +kernel
theorem dX8_against_42 : decode cX8_against 42 = .ok (.invokevirtual 195, 3) := by decide +kernel
theorem dX8_against_45 : decode cX8_against 45 = .ok (.ireturn, 1) := by decide +kernel
theorem dX8_apart_0 : decode cX8_apart 0 = .ok (.aload_n 0, 1) := by decide +kernel
theorem dX8_apart_1 : decode cX8_apart 1 = .ok (.getfield 51, 3) := by decide +kernel
theorem dX8_apart_4 : decode cX8_apart 4 = .ok (.invokevirtual 115, 3) := by decide +kernel
theorem dX8_apart_7 : decode cX8_apart 7 = .ok (.ifCond .eq 13, 3) := by decide +kernel
theorem dX8_apart_10 : decode cX8_apart 10 = .ok (.aload_n 0, 1) := by decide +kernel
theorem dX8_apart_11 : decode cX8_apart 11 = .ok (.getfield 55, 3) := by decide +kernel
theorem dX8_apart_14 : decode cX8_apart 14 = .ok (.invokevirtual 115, 3) := by decide +kernel
theorem dX8_apart_17 : decode cX8_apart 17 = .ok (.ifCond .ne 6, 3) := by decide +kernel
theorem dX8_apart_20 : decode cX8_apart 20 = .ok (.bipush (-3), 2) := by decide +kernel
theorem dX8_apart_22 : decode cX8_apart 22 = .ok (.ireturn, 1) := by decide +kernel
theorem dX8_apart_23 : decode cX8_apart 23 = .ok (.aload_n 0, 1) := by decide +kernel
theorem dX8_apart_24 : decode cX8_apart 24 = .ok (.getfield 61, 3) := by decide +kernel
theorem dX8_apart_27 : decode cX8_apart 27 = .ok (.aload_n 0, 1) := by decide +kernel
theorem dX8_apart_28 : decode cX8_apart 28 = .ok (.getfield 51, 3) := by decide +kernel
theorem dX8_apart_31 : decode cX8_apart 31 = .ok (.aload_n 0, 1) := by decide +kernel
theorem dX8_apart_32 : decode cX8_apart 32 = .ok (.getfield 55, 3) := by decide +kernel
theorem dX8_apart_35 : decode cX8_apart 35 = .ok (.invokevirtual 191, 3) := by decide +kernel
theorem dX8_apart_38 : decode cX8_apart 38 = .ok (.aload_n 0, 1) := by decide +kernel
theorem dX8_apart_39 : decode cX8_apart 39 = .ok (.getfield 61, 3) := by decide +kernel
theorem dX8_apart_42 : decode cX8_apart 42 = .ok (.invokevirtual 198, 3) := by decide +kernel
theorem dX8_apart_45 : decode cX8_apart 45 = .ok (.ireturn, 1) := by decide +kernel
theorem dX8_count_0 : decode cX8_count 0 = .ok (.iload_n 1, 1) := by decide +kernel
theorem dX8_count_1 : decode cX8_count 1 = .ok (.tableswitch 98 0 4 #[35, 43, 51, 77, 82], 35) := by decide +kernel
theorem dX8_count_36 : decode cX8_count 36 = .ok (.aload_n 0, 1) := by decide +kernel
theorem dX8_count_37 : decode cX8_count 37 = .ok (.getfield 51, 3) := by decide +kernel
theorem dX8_count_40 : decode cX8_count 40 = .ok (.invokevirtual 112, 3) := by decide +kernel
theorem dX8_count_43 : decode cX8_count 43 = .ok (.ireturn, 1) := by decide +kernel
theorem dX8_count_44 : decode cX8_count 44 = .ok (.aload_n 0, 1) := by decide +kernel
theorem dX8_count_45 : decode cX8_count 45 = .ok (.getfield 51, 3) := by decide +kernel
theorem dX8_count_48 : decode cX8_count 48 = .ok (.invokevirtual 201, 3) := by decide +kernel
theorem dX8_count_51 : decode cX8_count 51 = .ok (.ireturn, 1) := by decide +kernel
theorem dX8_count_52 : decode cX8_count 52 = .ok (.aload_n 0, 1) := by decide +kernel
theorem dX8_count_53 : decode cX8_count 53 = .ok (.getfield 51, 3) := by decide +kernel
theorem dX8_count_56 : decode cX8_count 56 = .ok (.invokevirtual 115, 3) := by decide +kernel
theorem dX8_count_59 : decode cX8_count 59 = .ok (.ifCond .eq 17, 3) := by decide +kernel
theorem dX8_count_62 : decode cX8_count 62 = .ok (.aload_n 0, 1) := by decide +kernel
theorem dX8_count_63 : decode cX8_count 63 = .ok (.getfield 68, 3) := by decide +kernel
theorem dX8_count_66 : decode cX8_count 66 = .ok (.aload_n 0, 1) := by decide +kernel
theorem dX8_count_67 : decode cX8_count 67 = .ok (.getfield 51, 3) := by decide +kernel
theorem dX8_count_70 : decode cX8_count 70 = .ok (.invokevirtual 204, 3) := by decide +kernel
theorem dX8_count_73 : decode cX8_count 73 = .ok (.goto 4, 3) := by decide +kernel
theorem dX8_count_76 : decode cX8_count 76 = .ok (.iconst 0, 1) := by decide +kernel
theorem dX8_count_77 : decode cX8_count 77 = .ok (.ireturn, 1) := by decide +kernel
theorem dX8_count_78 : decode cX8_count 78 = .ok (.aload_n 0, 1) := by decide +kernel
theorem dX8_count_79 : decode cX8_count 79 = .ok (.getfield 13, 3) := by decide +kernel
theorem dX8_count_82 : decode cX8_count 82 = .ok (.ireturn, 1) := by decide +kernel
theorem dX8_count_83 : decode cX8_count 83 = .ok (.aload_n 0, 1) := by decide +kernel
theorem dX8_count_84 : decode cX8_count 84 = .ok (.getfield 55, 3) := by decide +kernel
theorem dX8_count_87 : decode cX8_count 87 = .ok (.invokevirtual 115, 3) := by decide +kernel
theorem dX8_count_90 : decode cX8_count 90 = .ok (.ifCond .eq 7, 3) := by decide +kernel
theorem dX8_count_93 : decode cX8_count 93 = .ok (.iconst 1, 1) := by decide +kernel
theorem dX8_count_94 : decode cX8_count 94 = .ok (.goto 4, 3) := by decide +kernel
theorem dX8_count_97 : decode cX8_count 97 = .ok (.iconst 0, 1) := by decide +kernel
theorem dX8_count_98 : decode cX8_count 98 = .ok (.ireturn, 1) := by decide +kernel
theorem dX8_count_99 : decode cX8_count 99 = .ok (.bipush (-2), 2) := by decide +kernel
theorem dX8_count_101 : decode cX8_count 101 = .ok (.ireturn, 1) := by decide +kernel
theorem dX8_refusalOfState_0 : decode cX8_refusalOfState 0 = .ok (.aload_n 0, 1) := by decide +kernel
theorem dX8_refusalOfState_1 : decode cX8_refusalOfState 1 = .ok (.getfield 51, 3) := by decide +kernel
theorem dX8_refusalOfState_4 : decode cX8_refusalOfState 4 = .ok (.invokevirtual 115, 3) := by decide +kernel
theorem dX8_refusalOfState_7 : decode cX8_refusalOfState 7 = .ok (.ifCond .ne 6, 3) := by decide +kernel
theorem dX8_refusalOfState_10 : decode cX8_refusalOfState 10 = .ok (.bipush (-3), 2) := by decide +kernel
theorem dX8_refusalOfState_12 : decode cX8_refusalOfState 12 = .ok (.ireturn, 1) := by decide +kernel
theorem dX8_refusalOfState_13 : decode cX8_refusalOfState 13 = .ok (.aload_n 0, 1) := by decide +kernel
theorem dX8_refusalOfState_14 : decode cX8_refusalOfState 14 = .ok (.getfield 51, 3) := by decide +kernel
theorem dX8_refusalOfState_17 : decode cX8_refusalOfState 17 = .ok (.iload_n 1, 1) := by decide +kernel
theorem dX8_refusalOfState_18 : decode cX8_refusalOfState 18 = .ok (.invokevirtual 119, 3) := by decide +kernel
theorem dX8_refusalOfState_21 : decode cX8_refusalOfState 21 = .ok (.ifCond .eq 7, 3) := by decide +kernel
theorem dX8_refusalOfState_24 : decode cX8_refusalOfState 24 = .ok (.iconst 0, 1) := by decide +kernel
theorem dX8_refusalOfState_25 : decode cX8_refusalOfState 25 = .ok (.goto 4, 3) := by decide +kernel
theorem dX8_refusalOfState_28 : decode cX8_refusalOfState 28 = .ok (.iconst (-1), 1) := by decide +kernel
theorem dX8_refusalOfState_29 : decode cX8_refusalOfState 29 = .ok (.ireturn, 1) := by decide +kernel
theorem dX8_refusalOfKey_0 : decode cX8_refusalOfKey 0 = .ok (.aload_n 0, 1) := by decide +kernel
theorem dX8_refusalOfKey_1 : decode cX8_refusalOfKey 1 = .ok (.getfield 51, 3) := by decide +kernel
theorem dX8_refusalOfKey_4 : decode cX8_refusalOfKey 4 = .ok (.invokevirtual 115, 3) := by decide +kernel
theorem dX8_refusalOfKey_7 : decode cX8_refusalOfKey 7 = .ok (.ifCond .ne 6, 3) := by decide +kernel
theorem dX8_refusalOfKey_10 : decode cX8_refusalOfKey 10 = .ok (.bipush (-3), 2) := by decide +kernel
theorem dX8_refusalOfKey_12 : decode cX8_refusalOfKey 12 = .ok (.ireturn, 1) := by decide +kernel
theorem dX8_refusalOfKey_13 : decode cX8_refusalOfKey 13 = .ok (.iload_n 1, 1) := by decide +kernel
theorem dX8_refusalOfKey_14 : decode cX8_refusalOfKey 14 = .ok (.invokestatic 159, 3) := by decide +kernel
theorem dX8_refusalOfKey_17 : decode cX8_refusalOfKey 17 = .ok (.ifCond .eq 7, 3) := by decide +kernel
theorem dX8_refusalOfKey_20 : decode cX8_refusalOfKey 20 = .ok (.iconst 0, 1) := by decide +kernel
theorem dX8_refusalOfKey_21 : decode cX8_refusalOfKey 21 = .ok (.goto 4, 3) := by decide +kernel
theorem dX8_refusalOfKey_24 : decode cX8_refusalOfKey 24 = .ok (.iconst (-1), 1) := by decide +kernel
theorem dX8_refusalOfKey_25 : decode cX8_refusalOfKey 25 = .ok (.ireturn, 1) := by decide +kernel
theorem dX8_isEvent_0 : decode cX8_isEvent 0 = .ok (.iload_n 0, 1) := by decide +kernel
theorem dX8_isEvent_1 : decode cX8_isEvent 1 = .ok (.ifCond .lt 12, 3) := by decide +kernel
theorem dX8_isEvent_4 : decode cX8_isEvent 4 = .ok (.iload_n 0, 1) := by decide +kernel
theorem dX8_isEvent_5 : decode cX8_isEvent 5 = .ok (.iconst 4, 1) := by decide +kernel
theorem dX8_isEvent_6 : decode cX8_isEvent 6 = .ok (.if_icmp .ge 7, 3) := by decide +kernel
theorem dX8_isEvent_9 : decode cX8_isEvent 9 = .ok (.iconst 1, 1) := by decide +kernel
theorem dX8_isEvent_10 : decode cX8_isEvent 10 = .ok (.goto 4, 3) := by decide +kernel
theorem dX8_isEvent_13 : decode cX8_isEvent 13 = .ok (.iconst 0, 1) := by decide +kernel
theorem dX8_isEvent_14 : decode cX8_isEvent 14 = .ok (.ireturn, 1) := by decide +kernel
theorem dX8_isVerdict_0 : decode cX8_isVerdict 0 = .ok (.iload_n 0, 1) := by decide +kernel
theorem dX8_isVerdict_1 : decode cX8_isVerdict 1 = .ok (.ifCond .lt 12, 3) := by decide +kernel
theorem dX8_isVerdict_4 : decode cX8_isVerdict 4 = .ok (.iload_n 0, 1) := by decide +kernel
theorem dX8_isVerdict_5 : decode cX8_isVerdict 5 = .ok (.iconst 4, 1) := by decide +kernel
theorem dX8_isVerdict_6 : decode cX8_isVerdict 6 = .ok (.if_icmp .ge 7, 3) := by decide +kernel
theorem dX8_isVerdict_9 : decode cX8_isVerdict 9 = .ok (.iconst 1, 1) := by decide +kernel
theorem dX8_isVerdict_10 : decode cX8_isVerdict 10 = .ok (.goto 4, 3) := by decide +kernel
theorem dX8_isVerdict_13 : decode cX8_isVerdict 13 = .ok (.iconst 0, 1) := by decide +kernel
theorem dX8_isVerdict_14 : decode cX8_isVerdict 14 = .ok (.ireturn, 1) := by decide +kernel
theorem dX8_isKey_0 : decode cX8_isKey 0 = .ok (.iload_n 0, 1) := by decide +kernel
theorem dX8_isKey_1 : decode cX8_isKey 1 = .ok (.ifCond .lt 13, 3) := by decide +kernel
theorem dX8_isKey_4 : decode cX8_isKey 4 = .ok (.iload_n 0, 1) := by decide +kernel
theorem dX8_isKey_5 : decode cX8_isKey 5 = .ok (.bipush 16, 2) := by decide +kernel
theorem dX8_isKey_7 : decode cX8_isKey 7 = .ok (.if_icmp .ge 7, 3) := by decide +kernel
theorem dX8_isKey_10 : decode cX8_isKey 10 = .ok (.iconst 1, 1) := by decide +kernel
theorem dX8_isKey_11 : decode cX8_isKey 11 = .ok (.goto 4, 3) := by decide +kernel
theorem dX8_isKey_14 : decode cX8_isKey 14 = .ok (.iconst 0, 1) := by decide +kernel
theorem dX8_isKey_15 : decode cX8_isKey 15 = .ok (.ireturn, 1) := by decide +kernel
theorem dX8_isRow_0 : decode cX8_isRow 0 = .ok (.iload_n 0, 1) := by decide +kernel
theorem dX8_isRow_1 : decode cX8_isRow 1 = .ok (.ifCond .lt 13, 3) := by decide +kernel
theorem dX8_isRow_4 : decode cX8_isRow 4 = .ok (.iload_n 0, 1) := by decide +kernel
theorem dX8_isRow_5 : decode cX8_isRow 5 = .ok (.bipush 25, 2) := by decide +kernel
theorem dX8_isRow_7 : decode cX8_isRow 7 = .ok (.if_icmp .gt 7, 3) := by decide +kernel
theorem dX8_isRow_10 : decode cX8_isRow 10 = .ok (.iconst 1, 1) := by decide +kernel
theorem dX8_isRow_11 : decode cX8_isRow 11 = .ok (.goto 4, 3) := by decide +kernel
theorem dX8_isRow_14 : decode cX8_isRow 14 = .ok (.iconst 0, 1) := by decide +kernel
theorem dX8_isRow_15 : decode cX8_isRow 15 = .ok (.ireturn, 1) := by decide +kernel
theorem dX8_byteOf_0 : decode cX8_byteOf 0 = .ok (.lload_n 0, 1) := by decide +kernel
theorem dX8_byteOf_1 : decode cX8_byteOf 1 = .ok (.bipush 8, 2) := by decide +kernel
theorem dX8_byteOf_3 : decode cX8_byteOf 3 = .ok (.iload_n 2, 1) := by decide +kernel
theorem dX8_byteOf_4 : decode cX8_byteOf 4 = .ok (.imul, 1) := by decide +kernel
theorem dX8_byteOf_5 : decode cX8_byteOf 5 = .ok (.lushr, 1) := by decide +kernel
theorem dX8_byteOf_6 : decode cX8_byteOf 6 = .ok (.l2i, 1) := by decide +kernel
theorem dX8_byteOf_7 : decode cX8_byteOf 7 = .ok (.sipush 255, 3) := by decide +kernel
theorem dX8_byteOf_10 : decode cX8_byteOf 10 = .ok (.iand, 1) := by decide +kernel
theorem dX8_byteOf_11 : decode cX8_byteOf 11 = .ok (.ireturn, 1) := by decide +kernel
theorem dX8_bytesIn_0 : decode cX8_bytesIn 0 = .ok (.iconst 0, 1) := by decide +kernel
theorem dX8_bytesIn_1 : decode cX8_bytesIn 1 = .ok (.istore_n 2, 1) := by decide +kernel
theorem dX8_bytesIn_2 : decode cX8_bytesIn 2 = .ok (.iload_n 2, 1) := by decide +kernel
theorem dX8_bytesIn_3 : decode cX8_bytesIn 3 = .ok (.bipush 8, 2) := by decide +kernel
theorem dX8_bytesIn_5 : decode cX8_bytesIn 5 = .ok (.if_icmp .ge 19, 3) := by decide +kernel
theorem dX8_bytesIn_8 : decode cX8_bytesIn 8 = .ok (.lload_n 0, 1) := by decide +kernel
theorem dX8_bytesIn_9 : decode cX8_bytesIn 9 = .ok (.iload_n 2, 1) := by decide +kernel
theorem dX8_bytesIn_10 : decode cX8_bytesIn 10 = .ok (.invokestatic 76, 3) := by decide +kernel
theorem dX8_bytesIn_13 : decode cX8_bytesIn 13 = .ok (.ifCond .ne 5, 3) := by decide +kernel
theorem dX8_bytesIn_16 : decode cX8_bytesIn 16 = .ok (.iload_n 2, 1) := by decide +kernel
theorem dX8_bytesIn_17 : decode cX8_bytesIn 17 = .ok (.ireturn, 1) := by decide +kernel
theorem dX8_bytesIn_18 : decode cX8_bytesIn 18 = .ok (.iinc 2 1, 3) := by decide +kernel
theorem dX8_bytesIn_21 : decode cX8_bytesIn 21 = .ok (.goto (-19), 3) := by decide +kernel
theorem dX8_bytesIn_24 : decode cX8_bytesIn 24 = .ok (.bipush 8, 2) := by decide +kernel
theorem dX8_bytesIn_26 : decode cX8_bytesIn 26 = .ok (.ireturn, 1) := by decide +kernel
theorem dX8_pick_0 : decode cX8_pick 0 = .ok (.iload_n 1, 1) := by decide +kernel
theorem dX8_pick_1 : decode cX8_pick 1 = .ok (.ifCond .lt 15, 3) := by decide +kernel
theorem dX8_pick_4 : decode cX8_pick 4 = .ok (.iload_n 1, 1) := by decide +kernel
theorem dX8_pick_5 : decode cX8_pick 5 = .ok (.aload_n 0, 1) := by decide +kernel
theorem dX8_pick_6 : decode cX8_pick 6 = .ok (.arraylength, 1) := by decide +kernel
theorem dX8_pick_7 : decode cX8_pick 7 = .ok (.if_icmp .ge 9, 3) := by decide +kernel
theorem dX8_pick_10 : decode cX8_pick 10 = .ok (.aload_n 0, 1) := by decide +kernel
theorem dX8_pick_11 : decode cX8_pick 11 = .ok (.iload_n 1, 1) := by decide +kernel
theorem dX8_pick_12 : decode cX8_pick 12 = .ok (.iaload, 1) := by decide +kernel
theorem dX8_pick_13 : decode cX8_pick 13 = .ok (.goto 5, 3) := by decide +kernel
theorem dX8_pick_16 : decode cX8_pick 16 = .ok (.bipush (-9), 2) := by decide +kernel
theorem dX8_pick_18 : decode cX8_pick 18 = .ok (.ireturn, 1) := by decide +kernel
theorem dX8_put_0 : decode cX8_put 0 = .ok (.iload_n 1, 1) := by decide +kernel
theorem dX8_put_1 : decode cX8_put 1 = .ok (.ifCond .lt 13, 3) := by decide +kernel
theorem dX8_put_4 : decode cX8_put 4 = .ok (.iload_n 1, 1) := by decide +kernel
theorem dX8_put_5 : decode cX8_put 5 = .ok (.aload_n 0, 1) := by decide +kernel
theorem dX8_put_6 : decode cX8_put 6 = .ok (.arraylength, 1) := by decide +kernel
theorem dX8_put_7 : decode cX8_put 7 = .ok (.if_icmp .ge 7, 3) := by decide +kernel
theorem dX8_put_10 : decode cX8_put 10 = .ok (.aload_n 0, 1) := by decide +kernel
theorem dX8_put_11 : decode cX8_put 11 = .ok (.iload_n 1, 1) := by decide +kernel
theorem dX8_put_12 : decode cX8_put 12 = .ok (.iload_n 2, 1) := by decide +kernel
theorem dX8_put_13 : decode cX8_put 13 = .ok (.iastore, 1) := by decide +kernel
theorem dX8_put_14 : decode cX8_put 14 = .ok (.return_, 1) := by decide +kernel
theorem dX8_pickLong_0 : decode cX8_pickLong 0 = .ok (.iload_n 1, 1) := by decide +kernel
theorem dX8_pickLong_1 : decode cX8_pickLong 1 = .ok (.ifCond .lt 15, 3) := by decide +kernel
theorem dX8_pickLong_4 : decode cX8_pickLong 4 = .ok (.iload_n 1, 1) := by decide +kernel
theorem dX8_pickLong_5 : decode cX8_pickLong 5 = .ok (.aload_n 0, 1) := by decide +kernel
theorem dX8_pickLong_6 : decode cX8_pickLong 6 = .ok (.arraylength, 1) := by decide +kernel
theorem dX8_pickLong_7 : decode cX8_pickLong 7 = .ok (.if_icmp .ge 9, 3) := by decide +kernel
theorem dX8_pickLong_10 : decode cX8_pickLong 10 = .ok (.aload_n 0, 1) := by decide +kernel
theorem dX8_pickLong_11 : decode cX8_pickLong 11 = .ok (.iload_n 1, 1) := by decide +kernel
theorem dX8_pickLong_12 : decode cX8_pickLong 12 = .ok (.laload, 1) := by decide +kernel
theorem dX8_pickLong_13 : decode cX8_pickLong 13 = .ok (.goto 4, 3) := by decide +kernel
theorem dX8_pickLong_16 : decode cX8_pickLong 16 = .ok (.lconst 0, 1) := by decide +kernel
theorem dX8_pickLong_17 : decode cX8_pickLong 17 = .ok (.lreturn, 1) := by decide +kernel
theorem dX8_putLong_0 : decode cX8_putLong 0 = .ok (.iload_n 1, 1) := by decide +kernel
theorem dX8_putLong_1 : decode cX8_putLong 1 = .ok (.ifCond .lt 13, 3) := by decide +kernel
theorem dX8_putLong_4 : decode cX8_putLong 4 = .ok (.iload_n 1, 1) := by decide +kernel
theorem dX8_putLong_5 : decode cX8_putLong 5 = .ok (.aload_n 0, 1) := by decide +kernel
theorem dX8_putLong_6 : decode cX8_putLong 6 = .ok (.arraylength, 1) := by decide +kernel
theorem dX8_putLong_7 : decode cX8_putLong 7 = .ok (.if_icmp .ge 7, 3) := by decide +kernel
theorem dX8_putLong_10 : decode cX8_putLong 10 = .ok (.aload_n 0, 1) := by decide +kernel
theorem dX8_putLong_11 : decode cX8_putLong 11 = .ok (.iload_n 1, 1) := by decide +kernel
theorem dX8_putLong_12 : decode cX8_putLong 12 = .ok (.lload_n 2, 1) := by decide +kernel
theorem dX8_putLong_13 : decode cX8_putLong 13 = .ok (.lastore, 1) := by decide +kernel
theorem dX8_putLong_14 : decode cX8_putLong 14 = .ok (.return_, 1) := by decide +kernel
theorem dX8_isSet_0 : decode cX8_isSet 0 = .ok (.iload_n 1, 1) := by decide +kernel
theorem dX8_isSet_1 : decode cX8_isSet 1 = .ok (.ifCond .lt 19, 3) := by decide +kernel
theorem dX8_isSet_4 : decode cX8_isSet 4 = .ok (.iload_n 1, 1) := by decide +kernel
theorem dX8_isSet_5 : decode cX8_isSet 5 = .ok (.aload_n 0, 1) := by decide +kernel
theorem dX8_isSet_6 : decode cX8_isSet 6 = .ok (.arraylength, 1) := by decide +kernel
theorem dX8_isSet_7 : decode cX8_isSet 7 = .ok (.if_icmp .ge 13, 3) := by decide +kernel
theorem dX8_isSet_10 : decode cX8_isSet 10 = .ok (.aload_n 0, 1) := by decide +kernel
theorem dX8_isSet_11 : decode cX8_isSet 11 = .ok (.iload_n 1, 1) := by decide +kernel
theorem dX8_isSet_12 : decode cX8_isSet 12 = .ok (.baload, 1) := by decide +kernel
theorem dX8_isSet_13 : decode cX8_isSet 13 = .ok (.ifCond .eq 7, 3) := by decide +kernel
theorem dX8_isSet_16 : decode cX8_isSet 16 = .ok (.iconst 1, 1) := by decide +kernel
theorem dX8_isSet_17 : decode cX8_isSet 17 = .ok (.goto 4, 3) := by decide +kernel
theorem dX8_isSet_20 : decode cX8_isSet 20 = .ok (.iconst 0, 1) := by decide +kernel
theorem dX8_isSet_21 : decode cX8_isSet 21 = .ok (.ireturn, 1) := by decide +kernel
theorem dX8_set_0 : decode cX8_set 0 = .ok (.iload_n 1, 1) := by decide +kernel
theorem dX8_set_1 : decode cX8_set 1 = .ok (.ifCond .lt 13, 3) := by decide +kernel
theorem dX8_set_4 : decode cX8_set 4 = .ok (.iload_n 1, 1) := by decide +kernel
theorem dX8_set_5 : decode cX8_set 5 = .ok (.aload_n 0, 1) := by decide +kernel
theorem dX8_set_6 : decode cX8_set 6 = .ok (.arraylength, 1) := by decide +kernel
theorem dX8_set_7 : decode cX8_set 7 = .ok (.if_icmp .ge 7, 3) := by decide +kernel
theorem dX8_set_10 : decode cX8_set 10 = .ok (.aload_n 0, 1) := by decide +kernel
theorem dX8_set_11 : decode cX8_set 11 = .ok (.iload_n 1, 1) := by decide +kernel
theorem dX8_set_12 : decode cX8_set 12 = .ok (.iload_n 2, 1) := by decide +kernel
theorem dX8_set_13 : decode cX8_set 13 = .ok (.bastore, 1) := by decide +kernel
theorem dX8_set_14 : decode cX8_set 14 = .ok (.return_, 1) := by decide +kernel
theorem dX8_hasBit_0 : decode cX8_hasBit 0 = .ok (.lload_n 0, 1) := by decide +kernel
theorem dX8_hasBit_1 : decode cX8_hasBit 1 = .ok (.iload_n 2, 1) := by decide +kernel
theorem dX8_hasBit_2 : decode cX8_hasBit 2 = .ok (.lushr, 1) := by decide +kernel
theorem dX8_hasBit_3 : decode cX8_hasBit 3 = .ok (.lconst 1, 1) := by decide +kernel
theorem dX8_hasBit_4 : decode cX8_hasBit 4 = .ok (.land, 1) := by decide +kernel
theorem dX8_hasBit_5 : decode cX8_hasBit 5 = .ok (.lconst 1, 1) := by decide +kernel
theorem dX8_hasBit_6 : decode cX8_hasBit 6 = .ok (.lcmp, 1) := by decide +kernel
theorem dX8_hasBit_7 : decode cX8_hasBit 7 = .ok (.ifCond .ne 7, 3) := by decide +kernel
theorem dX8_hasBit_10 : decode cX8_hasBit 10 = .ok (.iconst 1, 1) := by decide +kernel
theorem dX8_hasBit_11 : decode cX8_hasBit 11 = .ok (.goto 4, 3) := by decide +kernel
theorem dX8_hasBit_14 : decode cX8_hasBit 14 = .ok (.iconst 0, 1) := by decide +kernel
theorem dX8_hasBit_15 : decode cX8_hasBit 15 = .ok (.ireturn, 1) := by decide +kernel
theorem dX9_init_0 : decode cX9_init 0 = .ok (.aload_n 0, 1) := by decide +kernel
theorem dX9_init_1 : decode cX9_init 1 = .ok (.invokespecial 1, 3) := by decide +kernel
theorem dX9_init_4 : decode cX9_init 4 = .ok (.aload_n 0, 1) := by decide +kernel
theorem dX9_init_5 : decode cX9_init 5 = .ok (.bipush 60, 2) := by decide +kernel
theorem dX9_init_7 : decode cX9_init 7 = .ok (.newarray .byte, 2) := by decide +kernel
theorem dX9_init_9 : decode cX9_init 9 = .ok (.putfield 7, 3) := by decide +kernel
theorem dX9_init_12 : decode cX9_init 12 = .ok (.aload_n 0, 1) := by decide +kernel
theorem dX9_init_13 : decode cX9_init 13 = .ok (.bipush 9, 2) := by decide +kernel
theorem dX9_init_15 : decode cX9_init 15 = .ok (.newarray .int, 2) := by decide +kernel
theorem dX9_init_17 : decode cX9_init 17 = .ok (.putfield 13, 3) := by decide +kernel
theorem dX9_init_20 : decode cX9_init 20 = .ok (.aload_n 0, 1) := by decide +kernel
theorem dX9_init_21 : decode cX9_init 21 = .ok (.bipush 9, 2) := by decide +kernel
theorem dX9_init_23 : decode cX9_init 23 = .ok (.newarray .int, 2) := by decide +kernel
theorem dX9_init_25 : decode cX9_init 25 = .ok (.putfield 17, 3) := by decide +kernel
theorem dX9_init_28 : decode cX9_init 28 = .ok (.aload_n 0, 1) := by decide +kernel
theorem dX9_init_29 : decode cX9_init 29 = .ok (.bipush 9, 2) := by decide +kernel
theorem dX9_init_31 : decode cX9_init 31 = .ok (.newarray .int, 2) := by decide +kernel
theorem dX9_init_33 : decode cX9_init 33 = .ok (.putfield 20, 3) := by decide +kernel
theorem dX9_init_36 : decode cX9_init 36 = .ok (.aload_n 0, 1) := by decide +kernel
theorem dX9_init_37 : decode cX9_init 37 = .ok (.bipush 9, 2) := by decide +kernel
theorem dX9_init_39 : decode cX9_init 39 = .ok (.newarray .int, 2) := by decide +kernel
theorem dX9_init_41 : decode cX9_init 41 = .ok (.putfield 23, 3) := by decide +kernel
theorem dX9_init_44 : decode cX9_init 44 = .ok (.aload_n 0, 1) := by decide +kernel
theorem dX9_init_45 : decode cX9_init 45 = .ok (.bipush 16, 2) := by decide +kernel
theorem dX9_init_47 : decode cX9_init 47 = .ok (.newarray .int, 2) := by decide +kernel
theorem dX9_init_49 : decode cX9_init 49 = .ok (.putfield 26, 3) := by decide +kernel
theorem dX9_init_52 : decode cX9_init 52 = .ok (.aload_n 0, 1) := by decide +kernel
theorem dX9_init_53 : decode cX9_init 53 = .ok (.bipush 64, 2) := by decide +kernel
theorem dX9_init_55 : decode cX9_init 55 = .ok (.newarray .int, 2) := by decide +kernel
theorem dX9_init_57 : decode cX9_init 57 = .ok (.putfield 29, 3) := by decide +kernel
theorem dX9_init_60 : decode cX9_init 60 = .ok (.aload_n 0, 1) := by decide +kernel
theorem dX9_init_61 : decode cX9_init 61 = .ok (.bipush 64, 2) := by decide +kernel
theorem dX9_init_63 : decode cX9_init 63 = .ok (.newarray .int, 2) := by decide +kernel
theorem dX9_init_65 : decode cX9_init 65 = .ok (.putfield 32, 3) := by decide +kernel
theorem dX9_init_68 : decode cX9_init 68 = .ok (.aload_n 0, 1) := by decide +kernel
theorem dX9_init_69 : decode cX9_init 69 = .ok (.bipush 9, 2) := by decide +kernel
theorem dX9_init_71 : decode cX9_init 71 = .ok (.newarray .boolean, 2) := by decide +kernel
theorem dX9_init_73 : decode cX9_init 73 = .ok (.putfield 35, 3) := by decide +kernel
theorem dX9_init_76 : decode cX9_init 76 = .ok (.aload_n 0, 1) := by decide +kernel
theorem dX9_init_77 : decode cX9_init 77 = .ok (.bipush 9, 2) := by decide +kernel
theorem dX9_init_79 : decode cX9_init 79 = .ok (.newarray .int, 2) := by decide +kernel
theorem dX9_init_81 : decode cX9_init 81 = .ok (.putfield 39, 3) := by decide +kernel
theorem dX9_init_84 : decode cX9_init 84 = .ok (.aload_n 0, 1) := by decide +kernel
theorem dX9_init_85 : decode cX9_init 85 = .ok (.bipush 9, 2) := by decide +kernel
theorem dX9_init_87 : decode cX9_init 87 = .ok (.newarray .boolean, 2) := by decide +kernel
theorem dX9_init_89 : decode cX9_init 89 = .ok (.putfield 42, 3) := by decide +kernel
theorem dX9_init_92 : decode cX9_init 92 = .ok (.aload_n 0, 1) := by decide +kernel
theorem dX9_init_93 : decode cX9_init 93 = .ok (.sipush 1024, 3) := by decide +kernel
theorem dX9_init_96 : decode cX9_init 96 = .ok (.newarray .int, 2) := by decide +kernel
theorem dX9_init_98 : decode cX9_init 98 = .ok (.putfield 45, 3) := by decide +kernel
theorem dX9_init_101 : decode cX9_init 101 = .ok (.aload_n 0, 1) := by decide +kernel
theorem dX9_init_102 : decode cX9_init 102 = .ok (.sipush 1024, 3) := by decide +kernel
theorem dX9_init_105 : decode cX9_init 105 = .ok (.newarray .int, 2) := by decide +kernel
theorem dX9_init_107 : decode cX9_init 107 = .ok (.putfield 48, 3) := by decide +kernel
theorem dX9_init_110 : decode cX9_init 110 = .ok (.aload_n 0, 1) := by decide +kernel
theorem dX9_init_111 : decode cX9_init 111 = .ok (.sipush 1024, 3) := by decide +kernel
theorem dX9_init_114 : decode cX9_init 114 = .ok (.newarray .boolean, 2) := by decide +kernel
theorem dX9_init_116 : decode cX9_init 116 = .ok (.putfield 51, 3) := by decide +kernel
theorem dX9_init_119 : decode cX9_init 119 = .ok (.aload_n 0, 1) := by decide +kernel
theorem dX9_init_120 : decode cX9_init 120 = .ok (.sipush 256, 3) := by decide +kernel
theorem dX9_init_123 : decode cX9_init 123 = .ok (.newarray .boolean, 2) := by decide +kernel
theorem dX9_init_125 : decode cX9_init 125 = .ok (.putfield 54, 3) := by decide +kernel
theorem dX9_init_128 : decode cX9_init 128 = .ok (.aload_n 0, 1) := by decide +kernel
theorem dX9_init_129 : decode cX9_init 129 = .ok (.sipush 2600, 3) := by decide +kernel
theorem dX9_init_132 : decode cX9_init 132 = .ok (.newarray .int, 2) := by decide +kernel
theorem dX9_init_134 : decode cX9_init 134 = .ok (.putfield 57, 3) := by decide +kernel
theorem dX9_init_137 : decode cX9_init 137 = .ok (.aload_n 0, 1) := by decide +kernel
theorem dX9_init_138 : decode cX9_init 138 = .ok (.ldc 60, 2) := by decide +kernel
theorem dX9_init_140 : decode cX9_init 140 = .ok (.newarray .boolean, 2) := by decide +kernel
theorem dX9_init_142 : decode cX9_init 142 = .ok (.putfield 61, 3) := by decide +kernel
theorem dX9_init_145 : decode cX9_init 145 = .ok (.aload_n 0, 1) := by decide +kernel
theorem dX9_init_146 : decode cX9_init 146 = .ok (.sipush 10400, 3) := by decide +kernel
theorem dX9_init_149 : decode cX9_init 149 = .ok (.newarray .int, 2) := by decide +kernel
theorem dX9_init_151 : decode cX9_init 151 = .ok (.putfield 64, 3) := by decide +kernel
theorem dX9_init_154 : decode cX9_init 154 = .ok (.aload_n 0, 1) := by decide +kernel
theorem dX9_init_155 : decode cX9_init 155 = .ok (.sipush 256, 3) := by decide +kernel
theorem dX9_init_158 : decode cX9_init 158 = .ok (.newarray .int, 2) := by decide +kernel
theorem dX9_init_160 : decode cX9_init 160 = .ok (.putfield 67, 3) := by decide +kernel
theorem dX9_init_163 : decode cX9_init 163 = .ok (.aload_n 0, 1) := by decide +kernel
theorem dX9_init_164 : decode cX9_init 164 = .ok (.sipush 15616, 3) := by decide +kernel
theorem dX9_init_167 : decode cX9_init 167 = .ok (.newarray .int, 2) := by decide +kernel
theorem dX9_init_169 : decode cX9_init 169 = .ok (.putfield 70, 3) := by decide +kernel
theorem dX9_init_172 : decode cX9_init 172 = .ok (.aload_n 0, 1) := by decide +kernel
theorem dX9_init_173 : decode cX9_init 173 = .ok (.sipush 256, 3) := by decide +kernel
theorem dX9_init_176 : decode cX9_init 176 = .ok (.newarray .boolean, 2) := by decide +kernel
theorem dX9_init_178 : decode cX9_init 178 = .ok (.putfield 73, 3) := by decide +kernel
theorem dX9_init_181 : decode cX9_init 181 = .ok (.aload_n 0, 1) := by decide +kernel
theorem dX9_init_182 : decode cX9_init 182 = .ok (.sipush 2600, 3) := by decide +kernel
theorem dX9_init_185 : decode cX9_init 185 = .ok (.newarray .int, 2) := by decide +kernel
theorem dX9_init_187 : decode cX9_init 187 = .ok (.putfield 76, 3) := by decide +kernel
theorem dX9_init_190 : decode cX9_init 190 = .ok (.aload_n 0, 1) := by decide +kernel
theorem dX9_init_191 : decode cX9_init 191 = .ok (.sipush 2600, 3) := by decide +kernel
theorem dX9_init_194 : decode cX9_init 194 = .ok (.newarray .int, 2) := by decide +kernel
theorem dX9_init_196 : decode cX9_init 196 = .ok (.putfield 79, 3) := by decide +kernel
theorem dX9_init_199 : decode cX9_init 199 = .ok (.aload_n 0, 1) := by decide +kernel
theorem dX9_init_200 : decode cX9_init 200 = .ok (.bipush 64, 2) := by decide +kernel
theorem dX9_init_202 : decode cX9_init 202 = .ok (.newarray .int, 2) := by decide +kernel
theorem dX9_init_204 : decode cX9_init 204 = .ok (.putfield 82, 3) := by decide +kernel
theorem dX9_init_207 : decode cX9_init 207 = .ok (.aload_n 0, 1) := by decide +kernel
theorem dX9_init_208 : decode cX9_init 208 = .ok (.sipush 240, 3) := by decide +kernel
theorem dX9_init_211 : decode cX9_init 211 = .ok (.newarray .int, 2) := by decide +kernel
theorem dX9_init_213 : decode cX9_init 213 = .ok (.putfield 85, 3) := by decide +kernel
theorem dX9_init_216 : decode cX9_init 216 = .ok (.aload_n 0, 1) := by decide +kernel
theorem dX9_init_217 : decode cX9_init 217 = .ok (.bipush 60, 2) := by decide +kernel
theorem dX9_init_219 : decode cX9_init 219 = .ok (.newarray .boolean, 2) := by decide +kernel
theorem dX9_init_221 : decode cX9_init 221 = .ok (.putfield 88, 3) := by decide +kernel
theorem dX9_init_224 : decode cX9_init 224 = .ok (.aload_n 0, 1) := by decide +kernel
theorem dX9_init_225 : decode cX9_init 225 = .ok (.bipush 60, 2) := by decide +kernel
theorem dX9_init_227 : decode cX9_init 227 = .ok (.newarray .int, 2) := by decide +kernel
theorem dX9_init_229 : decode cX9_init 229 = .ok (.putfield 91, 3) := by decide +kernel
theorem dX9_init_232 : decode cX9_init 232 = .ok (.aload_n 0, 1) := by decide +kernel
theorem dX9_init_233 : decode cX9_init 233 = .ok (.bipush 64, 2) := by decide +kernel
theorem dX9_init_235 : decode cX9_init 235 = .ok (.newarray .int, 2) := by decide +kernel
theorem dX9_init_237 : decode cX9_init 237 = .ok (.putfield 94, 3) := by decide +kernel
theorem dX9_init_240 : decode cX9_init 240 = .ok (.aload_n 0, 1) := by decide +kernel
theorem dX9_init_241 : decode cX9_init 241 = .ok (.bipush 64, 2) := by decide +kernel
theorem dX9_init_243 : decode cX9_init 243 = .ok (.newarray .int, 2) := by decide +kernel
theorem dX9_init_245 : decode cX9_init 245 = .ok (.putfield 97, 3) := by decide +kernel
theorem dX9_init_248 : decode cX9_init 248 = .ok (.aload_n 0, 1) := by decide +kernel
theorem dX9_init_249 : decode cX9_init 249 = .ok (.bipush 60, 2) := by decide +kernel
theorem dX9_init_251 : decode cX9_init 251 = .ok (.newarray .int, 2) := by decide +kernel
theorem dX9_init_253 : decode cX9_init 253 = .ok (.putfield 100, 3) := by decide +kernel
theorem dX9_init_256 : decode cX9_init 256 = .ok (.aload_n 0, 1) := by decide +kernel
theorem dX9_init_257 : decode cX9_init 257 = .ok (.bipush 60, 2) := by decide +kernel
theorem dX9_init_259 : decode cX9_init 259 = .ok (.newarray .int, 2) := by decide +kernel
theorem dX9_init_261 : decode cX9_init 261 = .ok (.putfield 103, 3) := by decide +kernel
theorem dX9_init_264 : decode cX9_init 264 = .ok (.aload_n 0, 1) := by decide +kernel
theorem dX9_init_265 : decode cX9_init 265 = .ok (.sipush 1560, 3) := by decide +kernel
theorem dX9_init_268 : decode cX9_init 268 = .ok (.newarray .long, 2) := by decide +kernel
theorem dX9_init_270 : decode cX9_init 270 = .ok (.putfield 106, 3) := by decide +kernel
theorem dX9_init_273 : decode cX9_init 273 = .ok (.aload_n 0, 1) := by decide +kernel
theorem dX9_init_274 : decode cX9_init 274 = .ok (.sipush 960, 3) := by decide +kernel
theorem dX9_init_277 : decode cX9_init 277 = .ok (.newarray .boolean, 2) := by decide +kernel
theorem dX9_init_279 : decode cX9_init 279 = .ok (.putfield 110, 3) := by decide +kernel
theorem dX9_init_282 : decode cX9_init 282 = .ok (.aload_n 0, 1) := by decide +kernel
theorem dX9_init_283 : decode cX9_init 283 = .ok (.bipush 60, 2) := by decide +kernel
theorem dX9_init_285 : decode cX9_init 285 = .ok (.newarray .boolean, 2) := by decide +kernel
theorem dX9_init_287 : decode cX9_init 287 = .ok (.putfield 113, 3) := by decide +kernel
theorem dX9_init_290 : decode cX9_init 290 = .ok (.aload_n 0, 1) := by decide +kernel
theorem dX9_init_291 : decode cX9_init 291 = .ok (.bipush 16, 2) := by decide +kernel
theorem dX9_init_293 : decode cX9_init 293 = .ok (.newarray .int, 2) := by decide +kernel
theorem dX9_init_295 : decode cX9_init 295 = .ok (.putfield 116, 3) := by decide +kernel
theorem dX9_init_298 : decode cX9_init 298 = .ok (.aload_n 0, 1) := by decide +kernel
theorem dX9_init_299 : decode cX9_init 299 = .ok (.sipush 240, 3) := by decide +kernel
theorem dX9_init_302 : decode cX9_init 302 = .ok (.newarray .int, 2) := by decide +kernel
theorem dX9_init_304 : decode cX9_init 304 = .ok (.putfield 119, 3) := by decide +kernel
theorem dX9_init_307 : decode cX9_init 307 = .ok (.aload_n 0, 1) := by decide +kernel
theorem dX9_init_308 : decode cX9_init 308 = .ok (.bipush 60, 2) := by decide +kernel
theorem dX9_init_310 : decode cX9_init 310 = .ok (.newarray .boolean, 2) := by decide +kernel
theorem dX9_init_312 : decode cX9_init 312 = .ok (.putfield 122, 3) := by decide +kernel
theorem dX9_init_315 : decode cX9_init 315 = .ok (.aload_n 0, 1) := by decide +kernel
theorem dX9_init_316 : decode cX9_init 316 = .ok (.sipush 3600, 3) := by decide +kernel
theorem dX9_init_319 : decode cX9_init 319 = .ok (.newarray .int, 2) := by decide +kernel
theorem dX9_init_321 : decode cX9_init 321 = .ok (.putfield 125, 3) := by decide +kernel
theorem dX9_init_324 : decode cX9_init 324 = .ok (.aload_n 0, 1) := by decide +kernel
theorem dX9_init_325 : decode cX9_init 325 = .ok (.sipush 3600, 3) := by decide +kernel
theorem dX9_init_328 : decode cX9_init 328 = .ok (.newarray .int, 2) := by decide +kernel
theorem dX9_init_330 : decode cX9_init 330 = .ok (.putfield 128, 3) := by decide +kernel
theorem dX9_init_333 : decode cX9_init 333 = .ok (.aload_n 0, 1) := by decide +kernel
theorem dX9_init_334 : decode cX9_init 334 = .ok (.sipush 3600, 3) := by decide +kernel
theorem dX9_init_337 : decode cX9_init 337 = .ok (.newarray .boolean, 2) := by decide +kernel
theorem dX9_init_339 : decode cX9_init 339 = .ok (.putfield 131, 3) := by decide +kernel
theorem dX9_init_342 : decode cX9_init 342 = .ok (.return_, 1) := by decide +kernel
theorem dX9_in_0 : decode cX9_in 0 = .ok (.lload_n 0, 1) := by decide +kernel
theorem dX9_in_1 : decode cX9_in 1 = .ok (.lload_n 2, 1) := by decide +kernel
theorem dX9_in_2 : decode cX9_in 2 = .ok (.lcmp, 1) := by decide +kernel
theorem dX9_in_3 : decode cX9_in 3 = .ok (.ifCond .lt 14, 3) := by decide +kernel
theorem dX9_in_6 : decode cX9_in 6 = .ok (.lload_n 0, 1) := by decide +kernel
theorem dX9_in_7 : decode cX9_in 7 = .ok (.lload 4, 2) := by decide +kernel
theorem dX9_in_9 : decode cX9_in 9 = .ok (.lcmp, 1) := by decide +kernel
theorem dX9_in_10 : decode cX9_in 10 = .ok (.ifCond .gt 7, 3) := by decide +kernel
theorem dX9_in_13 : decode cX9_in 13 = .ok (.iconst 1, 1) := by decide +kernel
theorem dX9_in_14 : decode cX9_in 14 = .ok (.goto 4, 3) := by decide +kernel
theorem dX9_in_17 : decode cX9_in 17 = .ok (.iconst 0, 1) := by decide +kernel
theorem dX9_in_18 : decode cX9_in 18 = .ok (.ireturn, 1) := by decide +kernel
theorem dX9_feed_0 : decode cX9_feed 0 = .ok (.iconst 0, 1) := by decide +kernel
theorem dX9_feed_1 : decode cX9_feed 1 = .ok (.istore_n 3, 1) := by decide +kernel
theorem dX9_feed_2 : decode cX9_feed 2 = .ok (.iload_n 3, 1) := by decide +kernel
theorem dX9_feed_3 : decode cX9_feed 3 = .ok (.bipush 8, 2) := by decide +kernel
theorem dX9_feed_5 : decode cX9_feed 5 = .ok (.if_icmp .ge 24, 3) := by decide +kernel
theorem dX9_feed_8 : decode cX9_feed 8 = .ok (.lload_n 1, 1) := by decide +kernel
theorem dX9_feed_9 : decode cX9_feed 9 = .ok (.bipush 8, 2) := by decide +kernel
theorem dX9_feed_11 : decode cX9_feed 11 = .ok (.iload_n 3, 1) := by decide +kernel
theorem dX9_feed_12 : decode cX9_feed 12 = .ok (.imul, 1) := by decide +kernel
theorem dX9_feed_13 : decode cX9_feed 13 = .ok (.lushr, 1) := by decide +kernel
theorem dX9_feed_14 : decode cX9_feed 14 = .ok (.ldc2_w 134, 3) := by decide +kernel
theorem dX9_feed_17 : decode cX9_feed 17 = .ok (.land, 1) := by decide +kernel
theorem dX9_feed_18 : decode cX9_feed 18 = .ok (.lconst 0, 1) := by decide +kernel
theorem dX9_feed_19 : decode cX9_feed 19 = .ok (.lcmp, 1) := by decide +kernel
theorem dX9_feed_20 : decode cX9_feed 20 = .ok (.ifCond .eq 9, 3) := by decide +kernel
theorem dX9_feed_23 : decode cX9_feed 23 = .ok (.iinc 3 1, 3) := by decide +kernel
theorem dX9_feed_26 : decode cX9_feed 26 = .ok (.goto (-24), 3) := by decide +kernel
theorem dX9_feed_29 : decode cX9_feed 29 = .ok (.aload_n 0, 1) := by decide +kernel
theorem dX9_feed_30 : decode cX9_feed 30 = .ok (.getfield 136, 3) := by decide +kernel
theorem dX9_feed_33 : decode cX9_feed 33 = .ok (.iload_n 3, 1) := by decide +kernel
theorem dX9_feed_34 : decode cX9_feed 34 = .ok (.iadd, 1) := by decide +kernel
theorem dX9_feed_35 : decode cX9_feed 35 = .ok (.bipush 60, 2) := by decide +kernel
theorem dX9_feed_37 : decode cX9_feed 37 = .ok (.if_icmp .le 6, 3) := by decide +kernel
theorem dX9_feed_40 : decode cX9_feed 40 = .ok (.bipush (-4), 2) := by decide +kernel
theorem dX9_feed_42 : decode cX9_feed 42 = .ok (.ireturn, 1) := by decide +kernel
theorem dX9_feed_43 : decode cX9_feed 43 = .ok (.iconst 0, 1) := by decide +kernel
theorem dX9_feed_44 : decode cX9_feed 44 = .ok (.istore 4, 2) := by decide +kernel
theorem dX9_feed_46 : decode cX9_feed 46 = .ok (.iload 4, 2) := by decide +kernel
theorem dX9_feed_48 : decode cX9_feed 48 = .ok (.iload_n 3, 1) := by decide +kernel
theorem dX9_feed_49 : decode cX9_feed 49 = .ok (.if_icmp .ge 30, 3) := by decide +kernel
theorem dX9_feed_52 : decode cX9_feed 52 = .ok (.aload_n 0, 1) := by decide +kernel
theorem dX9_feed_53 : decode cX9_feed 53 = .ok (.getfield 7, 3) := by decide +kernel
theorem dX9_feed_56 : decode cX9_feed 56 = .ok (.aload_n 0, 1) := by decide +kernel
theorem dX9_feed_57 : decode cX9_feed 57 = .ok (.getfield 136, 3) := by decide +kernel
theorem dX9_feed_60 : decode cX9_feed 60 = .ok (.iload 4, 2) := by decide +kernel
theorem dX9_feed_62 : decode cX9_feed 62 = .ok (.iadd, 1) := by decide +kernel
theorem dX9_feed_63 : decode cX9_feed 63 = .ok (.lload_n 1, 1) := by decide +kernel
theorem dX9_feed_64 : decode cX9_feed 64 = .ok (.bipush 8, 2) := by decide +kernel
theorem dX9_feed_66 : decode cX9_feed 66 = .ok (.iload 4, 2) := by decide +kernel
theorem dX9_feed_68 : decode cX9_feed 68 = .ok (.imul, 1) := by decide +kernel
theorem dX9_feed_69 : decode cX9_feed 69 = .ok (.lushr, 1) := by decide +kernel
theorem dX9_feed_70 : decode cX9_feed 70 = .ok (.l2i, 1) := by decide +kernel
theorem dX9_feed_71 : decode cX9_feed 71 = .ok (.i2b, 1) := by decide +kernel
theorem dX9_feed_72 : decode cX9_feed 72 = .ok (.bastore, 1) := by decide +kernel
theorem dX9_feed_73 : decode cX9_feed 73 = .ok (.iinc 4 1, 3) := by decide +kernel
theorem dX9_feed_76 : decode cX9_feed 76 = .ok (.goto (-30), 3) := by decide +kernel
theorem dX9_feed_79 : decode cX9_feed 79 = .ok (.aload_n 0, 1) := by decide +kernel
theorem dX9_feed_80 : decode cX9_feed 80 = .ok (.dup, 1) := by decide +kernel
theorem dX9_feed_81 : decode cX9_feed 81 = .ok (.getfield 136, 3) := by decide +kernel
theorem dX9_feed_84 : decode cX9_feed 84 = .ok (.iload_n 3, 1) := by decide +kernel
theorem dX9_feed_85 : decode cX9_feed 85 = .ok (.iadd, 1) := by decide +kernel
theorem dX9_feed_86 : decode cX9_feed 86 = .ok (.putfield 136, 3) := by decide +kernel
theorem dX9_feed_89 : decode cX9_feed 89 = .ok (.aload_n 0, 1) := by decide +kernel
theorem dX9_feed_90 : decode cX9_feed 90 = .ok (.getfield 136, 3) := by decide +kernel
theorem dX9_feed_93 : decode cX9_feed 93 = .ok (.ireturn, 1) := by decide +kernel
theorem dX9_cut_0 : decode cX9_cut 0 = .ok (.aload_n 0, 1) := by decide +kernel
theorem dX9_cut_1 : decode cX9_cut 1 = .ok (.getfield 136, 3) := by decide +kernel
theorem dX9_cut_4 : decode cX9_cut 4 = .ok (.istore_n 1, 1) := by decide +kernel
theorem dX9_cut_5 : decode cX9_cut 5 = .ok (.aload_n 0, 1) := by decide +kernel
theorem dX9_cut_6 : decode cX9_cut 6 = .ok (.iconst 0, 1) := by decide +kernel
theorem dX9_cut_7 : decode cX9_cut 7 = .ok (.putfield 136, 3) := by decide +kernel
theorem dX9_cut_10 : decode cX9_cut 10 = .ok (.iload_n 1, 1) := by decide +kernel
theorem dX9_cut_11 : decode cX9_cut 11 = .ok (.ireturn, 1) := by decide +kernel
theorem dX9_fault_0 : decode cX9_fault 0 = .ok (.aload_n 0, 1) := by decide +kernel
theorem dX9_fault_1 : decode cX9_fault 1 = .ok (.getfield 140, 3) := by decide +kernel
theorem dX9_fault_4 : decode cX9_fault 4 = .ok (.ireturn, 1) := by decide +kernel
theorem dX9_isPrefix_0 : decode cX9_isPrefix 0 = .ok (.iload_n 0, 1) := by decide +kernel
theorem dX9_isPrefix_1 : decode cX9_isPrefix 1 = .ok (.bipush 33, 2) := by decide +kernel
theorem dX9_isPrefix_3 : decode cX9_isPrefix 3 = .ok (.if_icmp .eq 45, 3) := by decide +kernel
theorem dX9_isPrefix_6 : decode cX9_isPrefix 6 = .ok (.iload_n 0, 1) := by decide +kernel
theorem dX9_isPrefix_7 : decode cX9_isPrefix 7 = .ok (.bipush 78, 2) := by decide +kernel
theorem dX9_isPrefix_9 : decode cX9_isPrefix 9 = .ok (.if_icmp .eq 39, 3) := by decide +kernel
theorem dX9_isPrefix_12 : decode cX9_isPrefix 12 = .ok (.iload_n 0, 1) := by decide +kernel
theorem dX9_isPrefix_13 : decode cX9_isPrefix 13 = .ok (.bipush 87, 2) := by decide +kernel
theorem dX9_isPrefix_15 : decode cX9_isPrefix 15 = .ok (.if_icmp .eq 33, 3) := by decide +kernel
theorem dX9_isPrefix_18 : decode cX9_isPrefix 18 = .ok (.iload_n 0, 1) := by decide +kernel
theorem dX9_isPrefix_19 : decode cX9_isPrefix 19 = .ok (.bipush 71, 2) := by decide +kernel
theorem dX9_isPrefix_21 : decode cX9_isPrefix 21 = .ok (.if_icmp .eq 27, 3) := by decide +kernel
theorem dX9_isPrefix_24 : decode cX9_isPrefix 24 = .ok (.iload_n 0, 1) := by decide +kernel
theorem dX9_isPrefix_25 : decode cX9_isPrefix 25 = .ok (.bipush 70, 2) := by decide +kernel
theorem dX9_isPrefix_27 : decode cX9_isPrefix 27 = .ok (.if_icmp .eq 21, 3) := by decide +kernel
theorem dX9_isPrefix_30 : decode cX9_isPrefix 30 = .ok (.iload_n 0, 1) := by decide +kernel
theorem dX9_isPrefix_31 : decode cX9_isPrefix 31 = .ok (.bipush 89, 2) := by decide +kernel
theorem dX9_isPrefix_33 : decode cX9_isPrefix 33 = .ok (.if_icmp .eq 15, 3) := by decide +kernel
theorem dX9_isPrefix_36 : decode cX9_isPrefix 36 = .ok (.iload_n 0, 1) := by decide +kernel
theorem dX9_isPrefix_37 : decode cX9_isPrefix 37 = .ok (.bipush 72, 2) := by decide +kernel
theorem dX9_isPrefix_39 : decode cX9_isPrefix 39 = .ok (.if_icmp .eq 9, 3) := by decide +kernel
theorem dX9_isPrefix_42 : decode cX9_isPrefix 42 = .ok (.iload_n 0, 1) := by decide +kernel
theorem dX9_isPrefix_43 : decode cX9_isPrefix 43 = .ok (.bipush 79, 2) := by decide +kernel
theorem dX9_isPrefix_45 : decode cX9_isPrefix 45 = .ok (.if_icmp .ne 7, 3) := by decide +kernel
theorem dX9_isPrefix_48 : decode cX9_isPrefix 48 = .ok (.iconst 1, 1) := by decide +kernel
theorem dX9_isPrefix_49 : decode cX9_isPrefix 49 = .ok (.goto 4, 3) := by decide +kernel
theorem dX9_isPrefix_52 : decode cX9_isPrefix 52 = .ok (.iconst 0, 1) := by decide +kernel
theorem dX9_isPrefix_53 : decode cX9_isPrefix 53 = .ok (.ireturn, 1) := by decide +kernel
theorem dX9_rank_0 : decode cX9_rank 0 = .ok (.iload_n 0, 1) := by decide +kernel
theorem dX9_rank_1 : decode cX9_rank 1 = .ok (.bipush 85, 2) := by decide +kernel
theorem dX9_rank_3 : decode cX9_rank 3 = .ok (.if_icmp .eq 9, 3) := by decide +kernel
theorem dX9_rank_6 : decode cX9_rank 6 = .ok (.iload_n 0, 1) := by decide +kernel
theorem dX9_rank_7 : decode cX9_rank 7 = .ok (.bipush 83, 2) := by decide +kernel
theorem dX9_rank_9 : decode cX9_rank 9 = .ok (.if_icmp .ne 7, 3) := by decide +kernel
theorem dX9_rank_12 : decode cX9_rank 12 = .ok (.iconst 4, 1) := by decide +kernel
theorem dX9_rank_13 : decode cX9_rank 13 = .ok (.goto 34, 3) := by decide +kernel
theorem dX9_rank_16 : decode cX9_rank 16 = .ok (.iload_n 0, 1) := by decide +kernel
theorem dX9_rank_17 : decode cX9_rank 17 = .ok (.bipush 38, 2) := by decide +kernel
theorem dX9_rank_19 : decode cX9_rank 19 = .ok (.if_icmp .ne 7, 3) := by decide +kernel
theorem dX9_rank_22 : decode cX9_rank 22 = .ok (.iconst 3, 1) := by decide +kernel
theorem dX9_rank_23 : decode cX9_rank 23 = .ok (.goto 24, 3) := by decide +kernel
theorem dX9_rank_26 : decode cX9_rank 26 = .ok (.iload_n 0, 1) := by decide +kernel
theorem dX9_rank_27 : decode cX9_rank 27 = .ok (.bipush 47, 2) := by decide +kernel
theorem dX9_rank_29 : decode cX9_rank 29 = .ok (.if_icmp .ne 7, 3) := by decide +kernel
theorem dX9_rank_32 : decode cX9_rank 32 = .ok (.iconst 2, 1) := by decide +kernel
theorem dX9_rank_33 : decode cX9_rank 33 = .ok (.goto 14, 3) := by decide +kernel
theorem dX9_rank_36 : decode cX9_rank 36 = .ok (.iload_n 0, 1) := by decide +kernel
theorem dX9_rank_37 : decode cX9_rank 37 = .ok (.bipush 62, 2) := by decide +kernel
theorem dX9_rank_39 : decode cX9_rank 39 = .ok (.if_icmp .ne 7, 3) := by decide +kernel
theorem dX9_rank_42 : decode cX9_rank 42 = .ok (.iconst 1, 1) := by decide +kernel
theorem dX9_rank_43 : decode cX9_rank 43 = .ok (.goto 4, 3) := by decide +kernel
theorem dX9_rank_46 : decode cX9_rank 46 = .ok (.iconst 0, 1) := by decide +kernel
theorem dX9_rank_47 : decode cX9_rank 47 = .ok (.ireturn, 1) := by decide +kernel
theorem dX9_node_0 : decode cX9_node 0 = .ok (.aload_n 0, 1) := by decide +kernel
theorem dX9_node_1 : decode cX9_node 1 = .ok (.getfield 13, 3) := by decide +kernel
theorem dX9_node_4 : decode cX9_node 4 = .ok (.aload_n 0, 1) := by decide +kernel
theorem dX9_node_5 : decode cX9_node 5 = .ok (.getfield 143, 3) := by decide +kernel
theorem dX9_node_8 : decode cX9_node 8 = .ok (.iload_n 1, 1) := by decide +kernel
theorem dX9_node_9 : decode cX9_node 9 = .ok (.iastore, 1) := by decide +kernel
theorem dX9_node_10 : decode cX9_node 10 = .ok (.aload_n 0, 1) := by decide +kernel
theorem dX9_node_11 : decode cX9_node 11 = .ok (.getfield 17, 3) := by decide +kernel
theorem dX9_node_14 : decode cX9_node 14 = .ok (.aload_n 0, 1) := by decide +kernel
theorem dX9_node_15 : decode cX9_node 15 = .ok (.getfield 143, 3) := by decide +kernel
theorem dX9_node_18 : decode cX9_node 18 = .ok (.iload_n 2, 1) := by decide +kernel
theorem dX9_node_19 : decode cX9_node 19 = .ok (.iastore, 1) := by decide +kernel
theorem dX9_node_20 : decode cX9_node 20 = .ok (.aload_n 0, 1) := by decide +kernel
theorem dX9_node_21 : decode cX9_node 21 = .ok (.getfield 20, 3) := by decide +kernel
theorem dX9_node_24 : decode cX9_node 24 = .ok (.aload_n 0, 1) := by decide +kernel
theorem dX9_node_25 : decode cX9_node 25 = .ok (.getfield 143, 3) := by decide +kernel
theorem dX9_node_28 : decode cX9_node 28 = .ok (.iload_n 3, 1) := by decide +kernel
theorem dX9_node_29 : decode cX9_node 29 = .ok (.iastore, 1) := by decide +kernel
theorem dX9_node_30 : decode cX9_node 30 = .ok (.aload_n 0, 1) := by decide +kernel
theorem dX9_node_31 : decode cX9_node 31 = .ok (.getfield 23, 3) := by decide +kernel
theorem dX9_node_34 : decode cX9_node 34 = .ok (.aload_n 0, 1) := by decide +kernel
theorem dX9_node_35 : decode cX9_node 35 = .ok (.getfield 143, 3) := by decide +kernel
theorem dX9_node_38 : decode cX9_node 38 = .ok (.iload 4, 2) := by decide +kernel
theorem dX9_node_40 : decode cX9_node 40 = .ok (.iastore, 1) := by decide +kernel
theorem dX9_node_41 : decode cX9_node 41 = .ok (.aload_n 0, 1) := by decide +kernel
theorem dX9_node_42 : decode cX9_node 42 = .ok (.getfield 26, 3) := by decide +kernel
theorem dX9_node_45 : decode cX9_node 45 = .ok (.aload_n 0, 1) := by decide +kernel
theorem dX9_node_46 : decode cX9_node 46 = .ok (.getfield 146, 3) := by decide +kernel
theorem dX9_node_49 : decode cX9_node 49 = .ok (.aload_n 0, 1) := by decide +kernel
theorem dX9_node_50 : decode cX9_node 50 = .ok (.getfield 143, 3) := by decide +kernel
theorem dX9_node_53 : decode cX9_node 53 = .ok (.iastore, 1) := by decide +kernel
theorem dX9_node_54 : decode cX9_node 54 = .ok (.aload_n 0, 1) := by decide +kernel
theorem dX9_node_55 : decode cX9_node 55 = .ok (.dup, 1) := by decide +kernel
theorem dX9_node_56 : decode cX9_node 56 = .ok (.getfield 146, 3) := by decide +kernel
theorem dX9_node_59 : decode cX9_node 59 = .ok (.iconst 1, 1) := by decide +kernel
theorem dX9_node_60 : decode cX9_node 60 = .ok (.iadd, 1) := by decide +kernel
theorem dX9_node_61 : decode cX9_node 61 = .ok (.putfield 146, 3) := by decide +kernel
theorem dX9_node_64 : decode cX9_node 64 = .ok (.aload_n 0, 1) := by decide +kernel
theorem dX9_node_65 : decode cX9_node 65 = .ok (.dup, 1) := by decide +kernel
theorem dX9_node_66 : decode cX9_node 66 = .ok (.getfield 143, 3) := by decide +kernel
theorem dX9_node_69 : decode cX9_node 69 = .ok (.iconst 1, 1) := by decide +kernel
theorem dX9_node_70 : decode cX9_node 70 = .ok (.iadd, 1) := by decide +kernel
theorem dX9_node_71 : decode cX9_node 71 = .ok (.putfield 143, 3) := by decide +kernel
theorem dX9_node_74 : decode cX9_node 74 = .ok (.return_, 1) := by decide +kernel
theorem dX9_reduce_0 : decode cX9_reduce 0 = .ok (.aload_n 0, 1) := by decide +kernel
theorem dX9_reduce_1 : decode cX9_reduce 1 = .ok (.dup, 1) := by decide +kernel
theorem dX9_reduce_2 : decode cX9_reduce 2 = .ok (.getfield 149, 3) := by decide +kernel
theorem dX9_reduce_5 : decode cX9_reduce 5 = .ok (.iconst 1, 1) := by decide +kernel
theorem dX9_reduce_6 : decode cX9_reduce 6 = .ok (.isub, 1) := by decide +kernel
theorem dX9_reduce_7 : decode cX9_reduce 7 = .ok (.putfield 149, 3) := by decide +kernel
theorem dX9_reduce_10 : decode cX9_reduce 10 = .ok (.aload_n 0, 1) := by decide +kernel
theorem dX9_reduce_11 : decode cX9_reduce 11 = .ok (.dup, 1) := by decide +kernel
theorem dX9_reduce_12 : decode cX9_reduce 12 = .ok (.getfield 146, 3) := by decide +kernel
theorem dX9_reduce_15 : decode cX9_reduce 15 = .ok (.iconst 1, 1) := by decide +kernel
theorem dX9_reduce_16 : decode cX9_reduce 16 = .ok (.isub, 1) := by decide +kernel
theorem dX9_reduce_17 : decode cX9_reduce 17 = .ok (.putfield 146, 3) := by decide +kernel
theorem dX9_reduce_20 : decode cX9_reduce 20 = .ok (.aload_n 0, 1) := by decide +kernel
theorem dX9_reduce_21 : decode cX9_reduce 21 = .ok (.getfield 26, 3) := by decide +kernel
theorem dX9_reduce_24 : decode cX9_reduce 24 = .ok (.aload_n 0, 1) := by decide +kernel
theorem dX9_reduce_25 : decode cX9_reduce 25 = .ok (.getfield 146, 3) := by decide +kernel
theorem dX9_reduce_28 : decode cX9_reduce 28 = .ok (.iaload, 1) := by decide +kernel
theorem dX9_reduce_29 : decode cX9_reduce 29 = .ok (.istore_n 1, 1) := by decide +kernel
theorem dX9_reduce_30 : decode cX9_reduce 30 = .ok (.aload_n 0, 1) := by decide +kernel
theorem dX9_reduce_31 : decode cX9_reduce 31 = .ok (.getfield 29, 3) := by decide +kernel
theorem dX9_reduce_34 : decode cX9_reduce 34 = .ok (.aload_n 0, 1) := by decide +kernel
theorem dX9_reduce_35 : decode cX9_reduce 35 = .ok (.getfield 149, 3) := by decide +kernel
theorem dX9_reduce_38 : decode cX9_reduce 38 = .ok (.iaload, 1) := by decide +kernel
theorem dX9_reduce_39 : decode cX9_reduce 39 = .ok (.invokestatic 152, 3) := by decide +kernel
theorem dX9_reduce_42 : decode cX9_reduce 42 = .ok (.ifCond .eq 31, 3) := by decide +kernel
theorem dX9_reduce_45 : decode cX9_reduce 45 = .ok (.aload_n 0, 1) := by decide +kernel
theorem dX9_reduce_46 : decode cX9_reduce 46 = .ok (.aload_n 0, 1) := by decide +kernel
theorem dX9_reduce_47 : decode cX9_reduce 47 = .ok (.getfield 29, 3) := by decide +kernel
theorem dX9_reduce_50 : decode cX9_reduce 50 = .ok (.aload_n 0, 1) := by decide +kernel
theorem dX9_reduce_51 : decode cX9_reduce 51 = .ok (.getfield 149, 3) := by decide +kernel
theorem dX9_reduce_54 : decode cX9_reduce 54 = .ok (.iaload, 1) := by decide +kernel
theorem dX9_reduce_55 : decode cX9_reduce 55 = .ok (.iload_n 1, 1) := by decide +kernel
theorem dX9_reduce_56 : decode cX9_reduce 56 = .ok (.bipush (-9), 2) := by decide +kernel
theorem dX9_reduce_58 : decode cX9_reduce 58 = .ok (.aload_n 0, 1) := by decide +kernel
theorem dX9_reduce_59 : decode cX9_reduce 59 = .ok (.getfield 32, 3) := by decide +kernel
theorem dX9_reduce_62 : decode cX9_reduce 62 = .ok (.aload_n 0, 1) := by decide +kernel
theorem dX9_reduce_63 : decode cX9_reduce 63 = .ok (.getfield 149, 3) := by decide +kernel
theorem dX9_reduce_66 : decode cX9_reduce 66 = .ok (.iaload, 1) := by decide +kernel
theorem dX9_reduce_67 : decode cX9_reduce 67 = .ok (.invokevirtual 156, 3) := by decide +kernel
theorem dX9_reduce_70 : decode cX9_reduce 70 = .ok (.goto 45, 3) := by decide +kernel
theorem dX9_reduce_73 : decode cX9_reduce 73 = .ok (.aload_n 0, 1) := by decide +kernel
theorem dX9_reduce_74 : decode cX9_reduce 74 = .ok (.dup, 1) := by decide +kernel
theorem dX9_reduce_75 : decode cX9_reduce 75 = .ok (.getfield 146, 3) := by decide +kernel
theorem dX9_reduce_78 : decode cX9_reduce 78 = .ok (.iconst 1, 1) := by decide +kernel
theorem dX9_reduce_79 : decode cX9_reduce 79 = .ok (.isub, 1) := by decide +kernel
theorem dX9_reduce_80 : decode cX9_reduce 80 = .ok (.putfield 146, 3) := by decide +kernel
theorem dX9_reduce_83 : decode cX9_reduce 83 = .ok (.aload_n 0, 1) := by decide +kernel
theorem dX9_reduce_84 : decode cX9_reduce 84 = .ok (.aload_n 0, 1) := by decide +kernel
theorem dX9_reduce_85 : decode cX9_reduce 85 = .ok (.getfield 29, 3) := by decide +kernel
theorem dX9_reduce_88 : decode cX9_reduce 88 = .ok (.aload_n 0, 1) := by decide +kernel
theorem dX9_reduce_89 : decode cX9_reduce 89 = .ok (.getfield 149, 3) := by decide +kernel
theorem dX9_reduce_92 : decode cX9_reduce 92 = .ok (.iaload, 1) := by decide +kernel
theorem dX9_reduce_93 : decode cX9_reduce 93 = .ok (.aload_n 0, 1) := by decide +kernel
theorem dX9_reduce_94 : decode cX9_reduce 94 = .ok (.getfield 26, 3) := by decide +kernel
theorem dX9_reduce_97 : decode cX9_reduce 97 = .ok (.aload_n 0, 1) := by decide +kernel
theorem dX9_reduce_98 : decode cX9_reduce 98 = .ok (.getfield 146, 3) := by decide +kernel
theorem dX9_reduce_101 : decode cX9_reduce 101 = .ok (.iaload, 1) := by decide +kernel
theorem dX9_reduce_102 : decode cX9_reduce 102 = .ok (.iload_n 1, 1) := by decide +kernel
theorem dX9_reduce_103 : decode cX9_reduce 103 = .ok (.aload_n 0, 1) := by decide +kernel
theorem dX9_reduce_104 : decode cX9_reduce 104 = .ok (.getfield 32, 3) := by decide +kernel
theorem dX9_reduce_107 : decode cX9_reduce 107 = .ok (.aload_n 0, 1) := by decide +kernel
theorem dX9_reduce_108 : decode cX9_reduce 108 = .ok (.getfield 149, 3) := by decide +kernel
theorem dX9_reduce_111 : decode cX9_reduce 111 = .ok (.iaload, 1) := by decide +kernel
theorem dX9_reduce_112 : decode cX9_reduce 112 = .ok (.invokevirtual 156, 3) := by decide +kernel
theorem dX9_reduce_115 : decode cX9_reduce 115 = .ok (.return_, 1) := by decide +kernel
theorem dX9_fail_0 : decode cX9_fail 0 = .ok (.aload_n 0, 1) := by decide +kernel
theorem dX9_fail_1 : decode cX9_fail 1 = .ok (.iconst 1, 1) := by decide +kernel
theorem dX9_fail_2 : decode cX9_fail 2 = .ok (.putfield 140, 3) := by decide +kernel
theorem dX9_fail_5 : decode cX9_fail 5 = .ok (.aload_n 0, 1) := by decide +kernel
theorem dX9_fail_6 : decode cX9_fail 6 = .ok (.iload_n 1, 1) := by decide +kernel
theorem dX9_fail_7 : decode cX9_fail 7 = .ok (.putfield 160, 3) := by decide +kernel
theorem dX9_fail_10 : decode cX9_fail 10 = .ok (.iconst 0, 1) := by decide +kernel
theorem dX9_fail_11 : decode cX9_fail 11 = .ok (.ireturn, 1) := by decide +kernel
theorem dX9_reduceTo_0 : decode cX9_reduceTo 0 = .ok (.iload_n 1, 1) := by decide +kernel
theorem dX9_reduceTo_1 : decode cX9_reduceTo 1 = .ok (.invokestatic 163, 3) := by decide +kernel
theorem dX9_reduceTo_4 : decode cX9_reduceTo 4 = .ok (.istore_n 2, 1) := by decide +kernel
theorem dX9_reduceTo_5 : decode cX9_reduceTo 5 = .ok (.iload_n 2, 1) := by decide +kernel
theorem dX9_reduceTo_6 : decode cX9_reduceTo 6 = .ok (.iconst 4, 1) := by decide +kernel
theorem dX9_reduceTo_7 : decode cX9_reduceTo 7 = .ok (.if_icmp .eq 8, 3) := by decide +kernel
theorem dX9_reduceTo_10 : decode cX9_reduceTo 10 = .ok (.iload_n 2, 1) := by decide +kernel
theorem dX9_reduceTo_11 : decode cX9_reduceTo 11 = .ok (.iconst 1, 1) := by decide +kernel
theorem dX9_reduceTo_12 : decode cX9_reduceTo 12 = .ok (.if_icmp .ne 7, 3) := by decide +kernel
theorem dX9_reduceTo_15 : decode cX9_reduceTo 15 = .ok (.iconst 1, 1) := by decide +kernel
theorem dX9_reduceTo_16 : decode cX9_reduceTo 16 = .ok (.goto 4, 3) := by decide +kernel
theorem dX9_reduceTo_19 : decode cX9_reduceTo 19 = .ok (.iconst 0, 1) := by decide +kernel
theorem dX9_reduceTo_20 : decode cX9_reduceTo 20 = .ok (.istore_n 3, 1) := by decide +kernel
theorem dX9_reduceTo_21 : decode cX9_reduceTo 21 = .ok (.aload_n 0, 1) := by decide +kernel
theorem dX9_reduceTo_22 : decode cX9_reduceTo 22 = .ok (.getfield 149, 3) := by decide +kernel
theorem dX9_reduceTo_25 : decode cX9_reduceTo 25 = .ok (.ifCond .le 66, 3) := by decide +kernel
theorem dX9_reduceTo_28 : decode cX9_reduceTo 28 = .ok (.aload_n 0, 1) := by decide +kernel
theorem dX9_reduceTo_29 : decode cX9_reduceTo 29 = .ok (.getfield 29, 3) := by decide +kernel
theorem dX9_reduceTo_32 : decode cX9_reduceTo 32 = .ok (.aload_n 0, 1) := by decide +kernel
theorem dX9_reduceTo_33 : decode cX9_reduceTo 33 = .ok (.getfield 149, 3) := by decide +kernel
theorem dX9_reduceTo_36 : decode cX9_reduceTo 36 = .ok (.iconst 1, 1) := by decide +kernel
theorem dX9_reduceTo_37 : decode cX9_reduceTo 37 = .ok (.isub, 1) := by decide +kernel
theorem dX9_reduceTo_38 : decode cX9_reduceTo 38 = .ok (.iaload, 1) := by decide +kernel
theorem dX9_reduceTo_39 : decode cX9_reduceTo 39 = .ok (.bipush 40, 2) := by decide +kernel
theorem dX9_reduceTo_41 : decode cX9_reduceTo 41 = .ok (.if_icmp .eq 50, 3) := by decide +kernel
theorem dX9_reduceTo_44 : decode cX9_reduceTo 44 = .ok (.aload_n 0, 1) := by decide +kernel
theorem dX9_reduceTo_45 : decode cX9_reduceTo 45 = .ok (.getfield 29, 3) := by decide +kernel
theorem dX9_reduceTo_48 : decode cX9_reduceTo 48 = .ok (.aload_n 0, 1) := by decide +kernel
theorem dX9_reduceTo_49 : decode cX9_reduceTo 49 = .ok (.getfield 149, 3) := by decide +kernel
theorem dX9_reduceTo_52 : decode cX9_reduceTo 52 = .ok (.iconst 1, 1) := by decide +kernel
theorem dX9_reduceTo_53 : decode cX9_reduceTo 53 = .ok (.isub, 1) := by decide +kernel
theorem dX9_reduceTo_54 : decode cX9_reduceTo 54 = .ok (.iaload, 1) := by decide +kernel
theorem dX9_reduceTo_55 : decode cX9_reduceTo 55 = .ok (.invokestatic 163, 3) := by decide +kernel
theorem dX9_reduceTo_58 : decode cX9_reduceTo 58 = .ok (.iload_n 2, 1) := by decide +kernel
theorem dX9_reduceTo_59 : decode cX9_reduceTo 59 = .ok (.if_icmp .gt 25, 3) := by decide +kernel
theorem dX9_reduceTo_62 : decode cX9_reduceTo 62 = .ok (.aload_n 0, 1) := by decide +kernel
theorem dX9_reduceTo_63 : decode cX9_reduceTo 63 = .ok (.getfield 29, 3) := by decide +kernel
theorem dX9_reduceTo_66 : decode cX9_reduceTo 66 = .ok (.aload_n 0, 1) := by decide +kernel
theorem dX9_reduceTo_67 : decode cX9_reduceTo 67 = .ok (.getfield 149, 3) := by decide +kernel
theorem dX9_reduceTo_70 : decode cX9_reduceTo 70 = .ok (.iconst 1, 1) := by decide +kernel
theorem dX9_reduceTo_71 : decode cX9_reduceTo 71 = .ok (.isub, 1) := by decide +kernel
theorem dX9_reduceTo_72 : decode cX9_reduceTo 72 = .ok (.iaload, 1) := by decide +kernel
theorem dX9_reduceTo_73 : decode cX9_reduceTo 73 = .ok (.invokestatic 163, 3) := by decide +kernel
theorem dX9_reduceTo_76 : decode cX9_reduceTo 76 = .ok (.iload_n 2, 1) := by decide +kernel
theorem dX9_reduceTo_77 : decode cX9_reduceTo 77 = .ok (.if_icmp .ne 14, 3) := by decide +kernel
theorem dX9_reduceTo_80 : decode cX9_reduceTo 80 = .ok (.iload_n 3, 1) := by decide +kernel
theorem dX9_reduceTo_81 : decode cX9_reduceTo 81 = .ok (.ifCond .ne 10, 3) := by decide +kernel
theorem dX9_reduceTo_84 : decode cX9_reduceTo 84 = .ok (.aload_n 0, 1) := by decide +kernel
theorem dX9_reduceTo_85 : decode cX9_reduceTo 85 = .ok (.invokevirtual 167, 3) := by decide +kernel
theorem dX9_reduceTo_88 : decode cX9_reduceTo 88 = .ok (.goto (-67), 3) := by decide +kernel
theorem dX9_reduceTo_91 : decode cX9_reduceTo 91 = .ok (.return_, 1) := by decide +kernel
theorem dX9_push_0 : decode cX9_push 0 = .ok (.aload_n 0, 1) := by decide +kernel
theorem dX9_push_1 : decode cX9_push 1 = .ok (.getfield 29, 3) := by decide +kernel
theorem dX9_push_4 : decode cX9_push 4 = .ok (.aload_n 0, 1) := by decide +kernel
theorem dX9_push_5 : decode cX9_push 5 = .ok (.getfield 149, 3) := by decide +kernel
theorem dX9_push_8 : decode cX9_push 8 = .ok (.iload_n 1, 1) := by decide +kernel
theorem dX9_push_9 : decode cX9_push 9 = .ok (.iastore, 1) := by decide +kernel
theorem dX9_push_10 : decode cX9_push 10 = .ok (.aload_n 0, 1) := by decide +kernel
theorem dX9_push_11 : decode cX9_push 11 = .ok (.getfield 32, 3) := by decide +kernel
theorem dX9_push_14 : decode cX9_push 14 = .ok (.aload_n 0, 1) := by decide +kernel
theorem dX9_push_15 : decode cX9_push 15 = .ok (.getfield 149, 3) := by decide +kernel
theorem dX9_push_18 : decode cX9_push 18 = .ok (.iload_n 2, 1) := by decide +kernel
theorem dX9_push_19 : decode cX9_push 19 = .ok (.iastore, 1) := by decide +kernel
theorem dX9_push_20 : decode cX9_push 20 = .ok (.aload_n 0, 1) := by decide +kernel
theorem dX9_push_21 : decode cX9_push 21 = .ok (.dup, 1) := by decide +kernel
theorem dX9_push_22 : decode cX9_push 22 = .ok (.getfield 149, 3) := by decide +kernel
theorem dX9_push_25 : decode cX9_push 25 = .ok (.iconst 1, 1) := by decide +kernel
theorem dX9_push_26 : decode cX9_push 26 = .ok (.iadd, 1) := by decide +kernel
theorem dX9_push_27 : decode cX9_push 27 = .ok (.putfield 149, 3) := by decide +kernel
theorem dX9_push_30 : decode cX9_push 30 = .ok (.return_, 1) := by decide +kernel
theorem dX9_parse_0 : decode cX9_parse 0 = .ok (.aload_n 0, 1) := by decide +kernel
theorem dX9_parse_1 : decode cX9_parse 1 = .ok (.iconst 0, 1) := by decide +kernel
theorem dX9_parse_2 : decode cX9_parse 2 = .ok (.putfield 143, 3) := by decide +kernel
theorem dX9_parse_5 : decode cX9_parse 5 = .ok (.aload_n 0, 1) := by decide +kernel
theorem dX9_parse_6 : decode cX9_parse 6 = .ok (.iconst 0, 1) := by decide +kernel
theorem dX9_parse_7 : decode cX9_parse 7 = .ok (.putfield 146, 3) := by decide +kernel
theorem dX9_parse_10 : decode cX9_parse 10 = .ok (.aload_n 0, 1) := by decide +kernel
theorem dX9_parse_11 : decode cX9_parse 11 = .ok (.iconst 0, 1) := by decide +kernel
theorem dX9_parse_12 : decode cX9_parse 12 = .ok (.putfield 149, 3) := by decide +kernel
theorem dX9_parse_15 : decode cX9_parse 15 = .ok (.iconst 0, 1) := by decide +kernel
theorem dX9_parse_16 : decode cX9_parse 16 = .ok (.istore_n 1, 1) := by decide +kernel
theorem dX9_parse_17 : decode cX9_parse 17 = .ok (.iconst 0, 1) := by decide +kernel
theorem dX9_parse_18 : decode cX9_parse 18 = .ok (.istore_n 2, 1) := by decide +kernel
theorem dX9_parse_19 : decode cX9_parse 19 = .ok (.iconst 1, 1) := by decide +kernel
theorem dX9_parse_20 : decode cX9_parse 20 = .ok (.istore_n 3, 1) := by decide +kernel
theorem dX9_parse_21 : decode cX9_parse 21 = .ok (.iconst 0, 1) := by decide +kernel
theorem dX9_parse_22 : decode cX9_parse 22 = .ok (.istore 4, 2) := by decide +kernel
theorem dX9_parse_24 : decode cX9_parse 24 = .ok (.iload 4, 2) := by decide +kernel
theorem dX9_parse_26 : decode cX9_parse 26 = .ok (.aload_n 0, 1) := by decide +kernel
theorem dX9_parse_27 : decode cX9_parse 27 = .ok (.getfield 136, 3) := by decide +kernel
theorem dX9_parse_30 : decode cX9_parse 30 = .ok (.if_icmp .ge 312, 3) := by decide +kernel
theorem dX9_parse_33 : decode cX9_parse 33 = .ok (.aload_n 0, 1) := by decide +kernel
theorem dX9_parse_34 : decode cX9_parse 34 = .ok (.getfield 7, 3) := by decide +kernel
theorem dX9_parse_37 : decode cX9_parse 37 = .ok (.iload 4, 2) := by decide +kernel
theorem dX9_parse_39 : decode cX9_parse 39 = .ok (.baload, 1) := by decide +kernel
theorem dX9_parse_40 : decode cX9_parse 40 = .ok (.sipush 255, 3) := by decide +kernel
theorem dX9_parse_43 : decode cX9_parse 43 = .ok (.iand, 1) := by decide +kernel
theorem dX9_parse_44 : decode cX9_parse 44 = .ok (.istore 5, 2) := by decide +kernel
theorem dX9_parse_46 : decode cX9_parse 46 = .ok (.iload 5, 2) := by decide +kernel
theorem dX9_parse_48 : decode cX9_parse 48 = .ok (.bipush 97, 2) := by decide +kernel
theorem dX9_parse_50 : decode cX9_parse 50 = .ok (.if_icmp .lt 10, 3) := by decide +kernel
theorem dX9_parse_53 : decode cX9_parse 53 = .ok (.iload 5, 2) := by decide +kernel
theorem dX9_parse_55 : decode cX9_parse 55 = .ok (.bipush 100, 2) := by decide +kernel
theorem dX9_parse_57 : decode cX9_parse 57 = .ok (.if_icmp .le 10, 3) := by decide +kernel
theorem dX9_parse_60 : decode cX9_parse 60 = .ok (.iload 5, 2) := by decide +kernel
theorem dX9_parse_62 : decode cX9_parse 62 = .ok (.bipush 46, 2) := by decide +kernel
theorem dX9_parse_64 : decode cX9_parse 64 = .ok (.if_icmp .ne 7, 3) := by decide +kernel
theorem dX9_parse_67 : decode cX9_parse 67 = .ok (.iconst 1, 1) := by decide +kernel
theorem dX9_parse_68 : decode cX9_parse 68 = .ok (.goto 4, 3) := by decide +kernel
theorem dX9_parse_71 : decode cX9_parse 71 = .ok (.iconst 0, 1) := by decide +kernel
theorem dX9_parse_72 : decode cX9_parse 72 = .ok (.istore 6, 2) := by decide +kernel
theorem dX9_parse_74 : decode cX9_parse 74 = .ok (.iload 6, 2) := by decide +kernel
theorem dX9_parse_76 : decode cX9_parse 76 = .ok (.ifCond .ne 19, 3) := by decide +kernel
theorem dX9_parse_79 : decode cX9_parse 79 = .ok (.iload 5, 2) := by decide +kernel
theorem dX9_parse_81 : decode cX9_parse 81 = .ok (.invokestatic 152, 3) := by decide +kernel
theorem dX9_parse_84 : decode cX9_parse 84 = .ok (.ifCond .ne 11, 3) := by decide +kernel
theorem dX9_parse_87 : decode cX9_parse 87 = .ok (.iload 5, 2) := by decide +kernel
theorem dX9_parse_89 : decode cX9_parse 89 = .ok (.invokestatic 163, 3) := by decide +kernel
theorem dX9_parse_92 : decode cX9_parse 92 = .ok (.ifCond .le 7, 3) := by decide +kernel
theorem dX9_parse_95 : decode cX9_parse 95 = .ok (.iconst 1, 1) := by decide +kernel
theorem dX9_parse_96 : decode cX9_parse 96 = .ok (.goto 4, 3) := by decide +kernel
theorem dX9_parse_99 : decode cX9_parse 99 = .ok (.iconst 0, 1) := by decide +kernel
theorem dX9_parse_100 : decode cX9_parse 100 = .ok (.istore 7, 2) := by decide +kernel
theorem dX9_parse_102 : decode cX9_parse 102 = .ok (.iload 5, 2) := by decide +kernel
theorem dX9_parse_104 : decode cX9_parse 104 = .ok (.bipush 32, 2) := by decide +kernel
theorem dX9_parse_106 : decode cX9_parse 106 = .ok (.if_icmp .ne 6, 3) := by decide +kernel
theorem dX9_parse_109 : decode cX9_parse 109 = .ok (.goto 227, 3) := by decide +kernel
theorem dX9_parse_112 : decode cX9_parse 112 = .ok (.iload_n 3, 1) := by decide +kernel
theorem dX9_parse_113 : decode cX9_parse 113 = .ok (.ifCond .eq 37, 3) := by decide +kernel
theorem dX9_parse_116 : decode cX9_parse 116 = .ok (.iload 6, 2) := by decide +kernel
theorem dX9_parse_118 : decode cX9_parse 118 = .ok (.ifCond .ne 24, 3) := by decide +kernel
theorem dX9_parse_121 : decode cX9_parse 121 = .ok (.iload 5, 2) := by decide +kernel
theorem dX9_parse_123 : decode cX9_parse 123 = .ok (.invokestatic 152, 3) := by decide +kernel
theorem dX9_parse_126 : decode cX9_parse 126 = .ok (.ifCond .ne 16, 3) := by decide +kernel
theorem dX9_parse_129 : decode cX9_parse 129 = .ok (.iload 5, 2) := by decide +kernel
theorem dX9_parse_131 : decode cX9_parse 131 = .ok (.bipush 40, 2) := by decide +kernel
theorem dX9_parse_133 : decode cX9_parse 133 = .ok (.if_icmp .ne 13, 3) := by decide +kernel
theorem dX9_parse_136 : decode cX9_parse 136 = .ok (.iload_n 2, 1) := by decide +kernel
theorem dX9_parse_137 : decode cX9_parse 137 = .ok (.bipush 7, 2) := by decide +kernel
theorem dX9_parse_139 : decode cX9_parse 139 = .ok (.if_icmp .gt 7, 3) := by decide +kernel
theorem dX9_parse_142 : decode cX9_parse 142 = .ok (.iconst 1, 1) := by decide +kernel
theorem dX9_parse_143 : decode cX9_parse 143 = .ok (.goto 31, 3) := by decide +kernel
theorem dX9_parse_146 : decode cX9_parse 146 = .ok (.iconst 0, 1) := by decide +kernel
theorem dX9_parse_147 : decode cX9_parse 147 = .ok (.goto 27, 3) := by decide +kernel
theorem dX9_parse_150 : decode cX9_parse 150 = .ok (.iload 5, 2) := by decide +kernel
theorem dX9_parse_152 : decode cX9_parse 152 = .ok (.invokestatic 163, 3) := by decide +kernel
theorem dX9_parse_155 : decode cX9_parse 155 = .ok (.ifCond .gt 14, 3) := by decide +kernel
theorem dX9_parse_158 : decode cX9_parse 158 = .ok (.iload 5, 2) := by decide +kernel
theorem dX9_parse_160 : decode cX9_parse 160 = .ok (.bipush 41, 2) := by decide +kernel
theorem dX9_parse_162 : decode cX9_parse 162 = .ok (.if_icmp .ne 11, 3) := by decide +kernel
theorem dX9_parse_165 : decode cX9_parse 165 = .ok (.iload_n 2, 1) := by decide +kernel
theorem dX9_parse_166 : decode cX9_parse 166 = .ok (.ifCond .le 7, 3) := by decide +kernel
theorem dX9_parse_169 : decode cX9_parse 169 = .ok (.iconst 1, 1) := by decide +kernel
theorem dX9_parse_170 : decode cX9_parse 170 = .ok (.goto 4, 3) := by decide +kernel
theorem dX9_parse_173 : decode cX9_parse 173 = .ok (.iconst 0, 1) := by decide +kernel
theorem dX9_parse_174 : decode cX9_parse 174 = .ok (.istore 8, 2) := by decide +kernel
theorem dX9_parse_176 : decode cX9_parse 176 = .ok (.iload_n 1, 1) := by decide +kernel
theorem dX9_parse_177 : decode cX9_parse 177 = .ok (.iload 8, 2) := by decide +kernel
theorem dX9_parse_179 : decode cX9_parse 179 = .ok (.ifCond .eq 12, 3) := by decide +kernel
theorem dX9_parse_182 : decode cX9_parse 182 = .ok (.iload 7, 2) := by decide +kernel
theorem dX9_parse_184 : decode cX9_parse 184 = .ok (.ifCond .eq 7, 3) := by decide +kernel
theorem dX9_parse_187 : decode cX9_parse 187 = .ok (.iconst 1, 1) := by decide +kernel
theorem dX9_parse_188 : decode cX9_parse 188 = .ok (.goto 4, 3) := by decide +kernel
theorem dX9_parse_191 : decode cX9_parse 191 = .ok (.iconst 0, 1) := by decide +kernel
theorem dX9_parse_192 : decode cX9_parse 192 = .ok (.iadd, 1) := by decide +kernel
theorem dX9_parse_193 : decode cX9_parse 193 = .ok (.istore_n 1, 1) := by decide +kernel
theorem dX9_parse_194 : decode cX9_parse 194 = .ok (.iload 8, 2) := by decide +kernel
theorem dX9_parse_196 : decode cX9_parse 196 = .ok (.ifCond .eq 9, 3) := by decide +kernel
theorem dX9_parse_199 : decode cX9_parse 199 = .ok (.iload_n 1, 1) := by decide +kernel
theorem dX9_parse_200 : decode cX9_parse 200 = .ok (.bipush 9, 2) := by decide +kernel
theorem dX9_parse_202 : decode cX9_parse 202 = .ok (.if_icmp .le 10, 3) := by decide +kernel
theorem dX9_parse_205 : decode cX9_parse 205 = .ok (.aload_n 0, 1) := by decide +kernel
theorem dX9_parse_206 : decode cX9_parse 206 = .ok (.iload 4, 2) := by decide +kernel
theorem dX9_parse_208 : decode cX9_parse 208 = .ok (.invokevirtual 170, 3) := by decide +kernel
theorem dX9_parse_211 : decode cX9_parse 211 = .ok (.ireturn, 1) := by decide +kernel
theorem dX9_parse_212 : decode cX9_parse 212 = .ok (.iload 6, 2) := by decide +kernel
theorem dX9_parse_214 : decode cX9_parse 214 = .ok (.ifCond .eq 20, 3) := by decide +kernel
theorem dX9_parse_217 : decode cX9_parse 217 = .ok (.aload_n 0, 1) := by decide +kernel
theorem dX9_parse_218 : decode cX9_parse 218 = .ok (.iload 5, 2) := by decide +kernel
theorem dX9_parse_220 : decode cX9_parse 220 = .ok (.bipush (-9), 2) := by decide +kernel
theorem dX9_parse_222 : decode cX9_parse 222 = .ok (.bipush (-9), 2) := by decide +kernel
theorem dX9_parse_224 : decode cX9_parse 224 = .ok (.iload 4, 2) := by decide +kernel
theorem dX9_parse_226 : decode cX9_parse 226 = .ok (.invokevirtual 156, 3) := by decide +kernel
theorem dX9_parse_229 : decode cX9_parse 229 = .ok (.iconst 0, 1) := by decide +kernel
theorem dX9_parse_230 : decode cX9_parse 230 = .ok (.istore_n 3, 1) := by decide +kernel
theorem dX9_parse_231 : decode cX9_parse 231 = .ok (.goto 70, 3) := by decide +kernel
theorem dX9_parse_234 : decode cX9_parse 234 = .ok (.iload 5, 2) := by decide +kernel
theorem dX9_parse_236 : decode cX9_parse 236 = .ok (.bipush 41, 2) := by decide +kernel
theorem dX9_parse_238 : decode cX9_parse 238 = .ok (.if_icmp .ne 24, 3) := by decide +kernel
theorem dX9_parse_241 : decode cX9_parse 241 = .ok (.aload_n 0, 1) := by decide +kernel
theorem dX9_parse_242 : decode cX9_parse 242 = .ok (.iconst 0, 1) := by decide +kernel
theorem dX9_parse_243 : decode cX9_parse 243 = .ok (.invokevirtual 173, 3) := by decide +kernel
theorem dX9_parse_246 : decode cX9_parse 246 = .ok (.aload_n 0, 1) := by decide +kernel
theorem dX9_parse_247 : decode cX9_parse 247 = .ok (.dup, 1) := by decide +kernel
theorem dX9_parse_248 : decode cX9_parse 248 = .ok (.getfield 149, 3) := by decide +kernel
theorem dX9_parse_251 : decode cX9_parse 251 = .ok (.iconst 1, 1) := by decide +kernel
theorem dX9_parse_252 : decode cX9_parse 252 = .ok (.isub, 1) := by decide +kernel
theorem dX9_parse_253 : decode cX9_parse 253 = .ok (.putfield 149, 3) := by decide +kernel
theorem dX9_parse_256 : decode cX9_parse 256 = .ok (.iinc 2 (-1), 3) := by decide +kernel
theorem dX9_parse_259 : decode cX9_parse 259 = .ok (.goto 42, 3) := by decide +kernel
theorem dX9_parse_262 : decode cX9_parse 262 = .ok (.iload 5, 2) := by decide +kernel
theorem dX9_parse_264 : decode cX9_parse 264 = .ok (.invokestatic 163, 3) := by decide +kernel
theorem dX9_parse_267 : decode cX9_parse 267 = .ok (.ifCond .le 9, 3) := by decide +kernel
theorem dX9_parse_270 : decode cX9_parse 270 = .ok (.aload_n 0, 1) := by decide +kernel
theorem dX9_parse_271 : decode cX9_parse 271 = .ok (.iload 5, 2) := by decide +kernel
theorem dX9_parse_273 : decode cX9_parse 273 = .ok (.invokevirtual 173, 3) := by decide +kernel
theorem dX9_parse_276 : decode cX9_parse 276 = .ok (.aload_n 0, 1) := by decide +kernel
theorem dX9_parse_277 : decode cX9_parse 277 = .ok (.iload 5, 2) := by decide +kernel
theorem dX9_parse_279 : decode cX9_parse 279 = .ok (.iload 4, 2) := by decide +kernel
theorem dX9_parse_281 : decode cX9_parse 281 = .ok (.invokevirtual 177, 3) := by decide +kernel
theorem dX9_parse_284 : decode cX9_parse 284 = .ok (.iload_n 2, 1) := by decide +kernel
theorem dX9_parse_285 : decode cX9_parse 285 = .ok (.iload 5, 2) := by decide +kernel
theorem dX9_parse_287 : decode cX9_parse 287 = .ok (.bipush 40, 2) := by decide +kernel
theorem dX9_parse_289 : decode cX9_parse 289 = .ok (.if_icmp .ne 7, 3) := by decide +kernel
theorem dX9_parse_292 : decode cX9_parse 292 = .ok (.iconst 1, 1) := by decide +kernel
theorem dX9_parse_293 : decode cX9_parse 293 = .ok (.goto 4, 3) := by decide +kernel
theorem dX9_parse_296 : decode cX9_parse 296 = .ok (.iconst 0, 1) := by decide +kernel
theorem dX9_parse_297 : decode cX9_parse 297 = .ok (.iadd, 1) := by decide +kernel
theorem dX9_parse_298 : decode cX9_parse 298 = .ok (.istore_n 2, 1) := by decide +kernel
theorem dX9_parse_299 : decode cX9_parse 299 = .ok (.iconst 1, 1) := by decide +kernel
theorem dX9_parse_300 : decode cX9_parse 300 = .ok (.istore_n 3, 1) := by decide +kernel
theorem dX9_parse_301 : decode cX9_parse 301 = .ok (.iload_n 3, 1) := by decide +kernel
theorem dX9_parse_302 : decode cX9_parse 302 = .ok (.ifCond .ne 34, 3) := by decide +kernel
theorem dX9_parse_305 : decode cX9_parse 305 = .ok (.aload_n 0, 1) := by decide +kernel
theorem dX9_parse_306 : decode cX9_parse 306 = .ok (.getfield 149, 3) := by decide +kernel
theorem dX9_parse_309 : decode cX9_parse 309 = .ok (.ifCond .le 27, 3) := by decide +kernel
theorem dX9_parse_312 : decode cX9_parse 312 = .ok (.aload_n 0, 1) := by decide +kernel
theorem dX9_parse_313 : decode cX9_parse 313 = .ok (.getfield 29, 3) := by decide +kernel
theorem dX9_parse_316 : decode cX9_parse 316 = .ok (.aload_n 0, 1) := by decide +kernel
theorem dX9_parse_317 : decode cX9_parse 317 = .ok (.getfield 149, 3) := by decide +kernel
theorem dX9_parse_320 : decode cX9_parse 320 = .ok (.iconst 1, 1) := by decide +kernel
theorem dX9_parse_321 : decode cX9_parse 321 = .ok (.isub, 1) := by decide +kernel
theorem dX9_parse_322 : decode cX9_parse 322 = .ok (.iaload, 1) := by decide +kernel
theorem dX9_parse_323 : decode cX9_parse 323 = .ok (.invokestatic 152, 3) := by decide +kernel
theorem dX9_parse_326 : decode cX9_parse 326 = .ok (.ifCond .eq 10, 3) := by decide +kernel
theorem dX9_parse_329 : decode cX9_parse 329 = .ok (.aload_n 0, 1) := by decide +kernel
theorem dX9_parse_330 : decode cX9_parse 330 = .ok (.invokevirtual 167, 3) := by decide +kernel
theorem dX9_parse_333 : decode cX9_parse 333 = .ok (.goto (-32), 3) := by decide +kernel
theorem dX9_parse_336 : decode cX9_parse 336 = .ok (.iinc 4 1, 3) := by decide +kernel
theorem dX9_parse_339 : decode cX9_parse 339 = .ok (.goto (-315), 3) := by decide +kernel
theorem dX9_parse_342 : decode cX9_parse 342 = .ok (.iload_n 3, 1) := by decide +kernel
theorem dX9_parse_343 : decode cX9_parse 343 = .ok (.ifCond .ne 7, 3) := by decide +kernel
theorem dX9_parse_346 : decode cX9_parse 346 = .ok (.iload_n 2, 1) := by decide +kernel
theorem dX9_parse_347 : decode cX9_parse 347 = .ok (.ifCond .le 12, 3) := by decide +kernel
theorem dX9_parse_350 : decode cX9_parse 350 = .ok (.aload_n 0, 1) := by decide +kernel
theorem dX9_parse_351 : decode cX9_parse 351 = .ok (.aload_n 0, 1) := by decide +kernel
theorem dX9_parse_352 : decode cX9_parse 352 = .ok (.getfield 136, 3) := by decide +kernel
theorem dX9_parse_355 : decode cX9_parse 355 = .ok (.invokevirtual 170, 3) := by decide +kernel
theorem dX9_parse_358 : decode cX9_parse 358 = .ok (.ireturn, 1) := by decide +kernel
theorem dX9_parse_359 : decode cX9_parse 359 = .ok (.aload_n 0, 1) := by decide +kernel
theorem dX9_parse_360 : decode cX9_parse 360 = .ok (.iconst 0, 1) := by decide +kernel
theorem dX9_parse_361 : decode cX9_parse 361 = .ok (.invokevirtual 173, 3) := by decide +kernel
theorem dX9_parse_364 : decode cX9_parse 364 = .ok (.aload_n 0, 1) := by decide +kernel
theorem dX9_parse_365 : decode cX9_parse 365 = .ok (.invokevirtual 181, 3) := by decide +kernel
theorem dX9_parse_368 : decode cX9_parse 368 = .ok (.ireturn, 1) := by decide +kernel
theorem dX9_isPure_0 : decode cX9_isPure 0 = .ok (.iconst 0, 1) := by decide +kernel
theorem dX9_isPure_1 : decode cX9_isPure 1 = .ok (.istore_n 1, 1) := by decide +kernel
theorem dX9_isPure_2 : decode cX9_isPure 2 = .ok (.iload_n 1, 1) := by decide +kernel
theorem dX9_isPure_3 : decode cX9_isPure 3 = .ok (.bipush 9, 2) := by decide +kernel
theorem dX9_isPure_5 : decode cX9_isPure 5 = .ok (.if_icmp .ge 16, 3) := by decide +kernel
theorem dX9_isPure_8 : decode cX9_isPure 8 = .ok (.aload_n 0, 1) := by decide +kernel
theorem dX9_isPure_9 : decode cX9_isPure 9 = .ok (.getfield 35, 3) := by decide +kernel
theorem dX9_isPure_12 : decode cX9_isPure 12 = .ok (.iload_n 1, 1) := by decide +kernel
theorem dX9_isPure_13 : decode cX9_isPure 13 = .ok (.iconst 0, 1) := by decide +kernel
theorem dX9_isPure_14 : decode cX9_isPure 14 = .ok (.bastore, 1) := by decide +kernel
theorem dX9_isPure_15 : decode cX9_isPure 15 = .ok (.iinc 1 1, 3) := by decide +kernel
theorem dX9_isPure_18 : decode cX9_isPure 18 = .ok (.goto (-16), 3) := by decide +kernel
theorem dX9_isPure_21 : decode cX9_isPure 21 = .ok (.bipush 99, 2) := by decide +kernel
theorem dX9_isPure_23 : decode cX9_isPure 23 = .ok (.istore_n 1, 1) := by decide +kernel
theorem dX9_isPure_24 : decode cX9_isPure 24 = .ok (.aload_n 0, 1) := by decide +kernel
theorem dX9_isPure_25 : decode cX9_isPure 25 = .ok (.getfield 143, 3) := by decide +kernel
theorem dX9_isPure_28 : decode cX9_isPure 28 = .ok (.iconst 1, 1) := by decide +kernel
theorem dX9_isPure_29 : decode cX9_isPure 29 = .ok (.isub, 1) := by decide +kernel
theorem dX9_isPure_30 : decode cX9_isPure 30 = .ok (.istore_n 2, 1) := by decide +kernel
theorem dX9_isPure_31 : decode cX9_isPure 31 = .ok (.iload_n 2, 1) := by decide +kernel
theorem dX9_isPure_32 : decode cX9_isPure 32 = .ok (.ifCond .lt 176, 3) := by decide +kernel
theorem dX9_isPure_35 : decode cX9_isPure 35 = .ok (.aload_n 0, 1) := by decide +kernel
theorem dX9_isPure_36 : decode cX9_isPure 36 = .ok (.getfield 13, 3) := by decide +kernel
theorem dX9_isPure_39 : decode cX9_isPure 39 = .ok (.iload_n 2, 1) := by decide +kernel
theorem dX9_isPure_40 : decode cX9_isPure 40 = .ok (.iaload, 1) := by decide +kernel
theorem dX9_isPure_41 : decode cX9_isPure 41 = .ok (.istore_n 3, 1) := by decide +kernel
theorem dX9_isPure_42 : decode cX9_isPure 42 = .ok (.aload_n 0, 1) := by decide +kernel
theorem dX9_isPure_43 : decode cX9_isPure 43 = .ok (.getfield 35, 3) := by decide +kernel
theorem dX9_isPure_46 : decode cX9_isPure 46 = .ok (.iload_n 2, 1) := by decide +kernel
theorem dX9_isPure_47 : decode cX9_isPure 47 = .ok (.baload, 1) := by decide +kernel
theorem dX9_isPure_48 : decode cX9_isPure 48 = .ok (.ifCond .ne 27, 3) := by decide +kernel
theorem dX9_isPure_51 : decode cX9_isPure 51 = .ok (.iload_n 3, 1) := by decide +kernel
theorem dX9_isPure_52 : decode cX9_isPure 52 = .ok (.bipush 89, 2) := by decide +kernel
theorem dX9_isPure_54 : decode cX9_isPure 54 = .ok (.if_icmp .eq 21, 3) := by decide +kernel
theorem dX9_isPure_57 : decode cX9_isPure 57 = .ok (.iload_n 3, 1) := by decide +kernel
theorem dX9_isPure_58 : decode cX9_isPure 58 = .ok (.bipush 72, 2) := by decide +kernel
theorem dX9_isPure_60 : decode cX9_isPure 60 = .ok (.if_icmp .eq 15, 3) := by decide +kernel
theorem dX9_isPure_63 : decode cX9_isPure 63 = .ok (.iload_n 3, 1) := by decide +kernel
theorem dX9_isPure_64 : decode cX9_isPure 64 = .ok (.bipush 79, 2) := by decide +kernel
theorem dX9_isPure_66 : decode cX9_isPure 66 = .ok (.if_icmp .eq 9, 3) := by decide +kernel
theorem dX9_isPure_69 : decode cX9_isPure 69 = .ok (.iload_n 3, 1) := by decide +kernel
theorem dX9_isPure_70 : decode cX9_isPure 70 = .ok (.bipush 83, 2) := by decide +kernel
theorem dX9_isPure_72 : decode cX9_isPure 72 = .ok (.if_icmp .ne 7, 3) := by decide +kernel
theorem dX9_isPure_75 : decode cX9_isPure 75 = .ok (.iconst 1, 1) := by decide +kernel
theorem dX9_isPure_76 : decode cX9_isPure 76 = .ok (.goto 4, 3) := by decide +kernel
theorem dX9_isPure_79 : decode cX9_isPure 79 = .ok (.iconst 0, 1) := by decide +kernel
theorem dX9_isPure_80 : decode cX9_isPure 80 = .ok (.istore 4, 2) := by decide +kernel
theorem dX9_isPure_82 : decode cX9_isPure 82 = .ok (.iload_n 3, 1) := by decide +kernel
theorem dX9_isPure_83 : decode cX9_isPure 83 = .ok (.bipush 78, 2) := by decide +kernel
theorem dX9_isPure_85 : decode cX9_isPure 85 = .ok (.if_icmp .eq 27, 3) := by decide +kernel
theorem dX9_isPure_88 : decode cX9_isPure 88 = .ok (.iload_n 3, 1) := by decide +kernel
theorem dX9_isPure_89 : decode cX9_isPure 89 = .ok (.bipush 87, 2) := by decide +kernel
theorem dX9_isPure_91 : decode cX9_isPure 91 = .ok (.if_icmp .eq 21, 3) := by decide +kernel
theorem dX9_isPure_94 : decode cX9_isPure 94 = .ok (.iload_n 3, 1) := by decide +kernel
theorem dX9_isPure_95 : decode cX9_isPure 95 = .ok (.bipush 71, 2) := by decide +kernel
theorem dX9_isPure_97 : decode cX9_isPure 97 = .ok (.if_icmp .eq 15, 3) := by decide +kernel
theorem dX9_isPure_100 : decode cX9_isPure 100 = .ok (.iload_n 3, 1) := by decide +kernel
theorem dX9_isPure_101 : decode cX9_isPure 101 = .ok (.bipush 70, 2) := by decide +kernel
theorem dX9_isPure_103 : decode cX9_isPure 103 = .ok (.if_icmp .eq 9, 3) := by decide +kernel
theorem dX9_isPure_106 : decode cX9_isPure 106 = .ok (.iload_n 3, 1) := by decide +kernel
theorem dX9_isPure_107 : decode cX9_isPure 107 = .ok (.bipush 85, 2) := by decide +kernel
theorem dX9_isPure_109 : decode cX9_isPure 109 = .ok (.if_icmp .ne 7, 3) := by decide +kernel
theorem dX9_isPure_112 : decode cX9_isPure 112 = .ok (.iconst 1, 1) := by decide +kernel
theorem dX9_isPure_113 : decode cX9_isPure 113 = .ok (.goto 4, 3) := by decide +kernel
theorem dX9_isPure_116 : decode cX9_isPure 116 = .ok (.iconst 0, 1) := by decide +kernel
theorem dX9_isPure_117 : decode cX9_isPure 117 = .ok (.istore 5, 2) := by decide +kernel
theorem dX9_isPure_119 : decode cX9_isPure 119 = .ok (.aload_n 0, 1) := by decide +kernel
theorem dX9_isPure_120 : decode cX9_isPure 120 = .ok (.getfield 35, 3) := by decide +kernel
theorem dX9_isPure_123 : decode cX9_isPure 123 = .ok (.iload_n 2, 1) := by decide +kernel
theorem dX9_isPure_124 : decode cX9_isPure 124 = .ok (.baload, 1) := by decide +kernel
theorem dX9_isPure_125 : decode cX9_isPure 125 = .ok (.ifCond .eq 27, 3) := by decide +kernel
theorem dX9_isPure_128 : decode cX9_isPure 128 = .ok (.iload 5, 2) := by decide +kernel
theorem dX9_isPure_130 : decode cX9_isPure 130 = .ok (.ifCond .eq 22, 3) := by decide +kernel
theorem dX9_isPure_133 : decode cX9_isPure 133 = .ok (.aload_n 0, 1) := by decide +kernel
theorem dX9_isPure_134 : decode cX9_isPure 134 = .ok (.getfield 23, 3) := by decide +kernel
theorem dX9_isPure_137 : decode cX9_isPure 137 = .ok (.iload_n 2, 1) := by decide +kernel
theorem dX9_isPure_138 : decode cX9_isPure 138 = .ok (.iaload, 1) := by decide +kernel
theorem dX9_isPure_139 : decode cX9_isPure 139 = .ok (.iload_n 1, 1) := by decide +kernel
theorem dX9_isPure_140 : decode cX9_isPure 140 = .ok (.if_icmp .ge 12, 3) := by decide +kernel
theorem dX9_isPure_143 : decode cX9_isPure 143 = .ok (.aload_n 0, 1) := by decide +kernel
theorem dX9_isPure_144 : decode cX9_isPure 144 = .ok (.getfield 23, 3) := by decide +kernel
theorem dX9_isPure_147 : decode cX9_isPure 147 = .ok (.iload_n 2, 1) := by decide +kernel
theorem dX9_isPure_148 : decode cX9_isPure 148 = .ok (.iaload, 1) := by decide +kernel
theorem dX9_isPure_149 : decode cX9_isPure 149 = .ok (.goto 4, 3) := by decide +kernel
theorem dX9_isPure_152 : decode cX9_isPure 152 = .ok (.iload_n 1, 1) := by decide +kernel
theorem dX9_isPure_153 : decode cX9_isPure 153 = .ok (.istore_n 1, 1) := by decide +kernel
theorem dX9_isPure_154 : decode cX9_isPure 154 = .ok (.aload_n 0, 1) := by decide +kernel
theorem dX9_isPure_155 : decode cX9_isPure 155 = .ok (.getfield 17, 3) := by decide +kernel
theorem dX9_isPure_158 : decode cX9_isPure 158 = .ok (.iload_n 2, 1) := by decide +kernel
theorem dX9_isPure_159 : decode cX9_isPure 159 = .ok (.iaload, 1) := by decide +kernel
theorem dX9_isPure_160 : decode cX9_isPure 160 = .ok (.bipush (-9), 2) := by decide +kernel
theorem dX9_isPure_162 : decode cX9_isPure 162 = .ok (.if_icmp .eq 16, 3) := by decide +kernel
theorem dX9_isPure_165 : decode cX9_isPure 165 = .ok (.aload_n 0, 1) := by decide +kernel
theorem dX9_isPure_166 : decode cX9_isPure 166 = .ok (.getfield 35, 3) := by decide +kernel
theorem dX9_isPure_169 : decode cX9_isPure 169 = .ok (.aload_n 0, 1) := by decide +kernel
theorem dX9_isPure_170 : decode cX9_isPure 170 = .ok (.getfield 17, 3) := by decide +kernel
theorem dX9_isPure_173 : decode cX9_isPure 173 = .ok (.iload_n 2, 1) := by decide +kernel
theorem dX9_isPure_174 : decode cX9_isPure 174 = .ok (.iaload, 1) := by decide +kernel
theorem dX9_isPure_175 : decode cX9_isPure 175 = .ok (.iload 4, 2) := by decide +kernel
theorem dX9_isPure_177 : decode cX9_isPure 177 = .ok (.bastore, 1) := by decide +kernel
theorem dX9_isPure_178 : decode cX9_isPure 178 = .ok (.aload_n 0, 1) := by decide +kernel
theorem dX9_isPure_179 : decode cX9_isPure 179 = .ok (.getfield 20, 3) := by decide +kernel
theorem dX9_isPure_182 : decode cX9_isPure 182 = .ok (.iload_n 2, 1) := by decide +kernel
theorem dX9_isPure_183 : decode cX9_isPure 183 = .ok (.iaload, 1) := by decide +kernel
theorem dX9_isPure_184 : decode cX9_isPure 184 = .ok (.bipush (-9), 2) := by decide +kernel
theorem dX9_isPure_186 : decode cX9_isPure 186 = .ok (.if_icmp .eq 16, 3) := by decide +kernel
theorem dX9_isPure_189 : decode cX9_isPure 189 = .ok (.aload_n 0, 1) := by decide +kernel
theorem dX9_isPure_190 : decode cX9_isPure 190 = .ok (.getfield 35, 3) := by decide +kernel
theorem dX9_isPure_193 : decode cX9_isPure 193 = .ok (.aload_n 0, 1) := by decide +kernel
theorem dX9_isPure_194 : decode cX9_isPure 194 = .ok (.getfield 20, 3) := by decide +kernel
theorem dX9_isPure_197 : decode cX9_isPure 197 = .ok (.iload_n 2, 1) := by decide +kernel
theorem dX9_isPure_198 : decode cX9_isPure 198 = .ok (.iaload, 1) := by decide +kernel
theorem dX9_isPure_199 : decode cX9_isPure 199 = .ok (.iload 4, 2) := by decide +kernel
theorem dX9_isPure_201 : decode cX9_isPure 201 = .ok (.bastore, 1) := by decide +kernel
theorem dX9_isPure_202 : decode cX9_isPure 202 = .ok (.iinc 2 (-1), 3) := by decide +kernel
theorem dX9_isPure_205 : decode cX9_isPure 205 = .ok (.goto (-174), 3) := by decide +kernel
theorem dX9_isPure_208 : decode cX9_isPure 208 = .ok (.iload_n 1, 1) := by decide +kernel
theorem dX9_isPure_209 : decode cX9_isPure 209 = .ok (.bipush 99, 2) := by decide +kernel
theorem dX9_isPure_211 : decode cX9_isPure 211 = .ok (.if_icmp .ge 13, 3) := by decide +kernel
theorem dX9_isPure_214 : decode cX9_isPure 214 = .ok (.aload_n 0, 1) := by decide +kernel
theorem dX9_isPure_215 : decode cX9_isPure 215 = .ok (.iconst 2, 1) := by decide +kernel
theorem dX9_isPure_216 : decode cX9_isPure 216 = .ok (.putfield 140, 3) := by decide +kernel
theorem dX9_isPure_219 : decode cX9_isPure 219 = .ok (.aload_n 0, 1) := by decide +kernel
theorem dX9_isPure_220 : decode cX9_isPure 220 = .ok (.iload_n 1, 1) := by decide +kernel
theorem dX9_isPure_221 : decode cX9_isPure 221 = .ok (.putfield 160, 3) := by decide +kernel
theorem dX9_isPure_224 : decode cX9_isPure 224 = .ok (.iload_n 1, 1) := by decide +kernel
theorem dX9_isPure_225 : decode cX9_isPure 225 = .ok (.bipush 99, 2) := by decide +kernel
theorem dX9_isPure_227 : decode cX9_isPure 227 = .ok (.if_icmp .ne 7, 3) := by decide +kernel
theorem dX9_isPure_230 : decode cX9_isPure 230 = .ok (.iconst 1, 1) := by decide +kernel
theorem dX9_isPure_231 : decode cX9_isPure 231 = .ok (.goto 4, 3) := by decide +kernel
theorem dX9_isPure_234 : decode cX9_isPure 234 = .ok (.iconst 0, 1) := by decide +kernel
theorem dX9_isPure_235 : decode cX9_isPure 235 = .ok (.ireturn, 1) := by decide +kernel
theorem dX9_layBits_0 : decode cX9_layBits 0 = .ok (.aload_n 0, 1) := by decide +kernel
theorem dX9_layBits_1 : decode cX9_layBits 1 = .ok (.iconst 0, 1) := by decide +kernel
theorem dX9_layBits_2 : decode cX9_layBits 2 = .ok (.putfield 185, 3) := by decide +kernel
theorem dX9_layBits_5 : decode cX9_layBits 5 = .ok (.aload_n 0, 1) := by decide +kernel
theorem dX9_layBits_6 : decode cX9_layBits 6 = .ok (.iconst 0, 1) := by decide +kernel
theorem dX9_layBits_7 : decode cX9_layBits 7 = .ok (.putfield 188, 3) := by decide +kernel
theorem dX9_layBits_10 : decode cX9_layBits 10 = .ok (.aload_n 0, 1) := by decide +kernel
theorem dX9_layBits_11 : decode cX9_layBits 11 = .ok (.iconst 0, 1) := by decide +kernel
theorem dX9_layBits_12 : decode cX9_layBits 12 = .ok (.putfield 191, 3) := by decide +kernel
theorem dX9_layBits_15 : decode cX9_layBits 15 = .ok (.aload_n 0, 1) := by decide +kernel
theorem dX9_layBits_16 : decode cX9_layBits 16 = .ok (.iconst 0, 1) := by decide +kernel
theorem dX9_layBits_17 : decode cX9_layBits 17 = .ok (.putfield 194, 3) := by decide +kernel
theorem dX9_layBits_20 : decode cX9_layBits 20 = .ok (.iconst 0, 1) := by decide +kernel
theorem dX9_layBits_21 : decode cX9_layBits 21 = .ok (.istore_n 1, 1) := by decide +kernel
theorem dX9_layBits_22 : decode cX9_layBits 22 = .ok (.iload_n 1, 1) := by decide +kernel
theorem dX9_layBits_23 : decode cX9_layBits 23 = .ok (.aload_n 0, 1) := by decide +kernel
theorem dX9_layBits_24 : decode cX9_layBits 24 = .ok (.getfield 143, 3) := by decide +kernel
theorem dX9_layBits_27 : decode cX9_layBits 27 = .ok (.if_icmp .ge 169, 3) := by decide +kernel
theorem dX9_layBits_30 : decode cX9_layBits 30 = .ok (.aload_n 0, 1) := by decide +kernel
theorem dX9_layBits_31 : decode cX9_layBits 31 = .ok (.getfield 13, 3) := by decide +kernel
theorem dX9_layBits_34 : decode cX9_layBits 34 = .ok (.iload_n 1, 1) := by decide +kernel
theorem dX9_layBits_35 : decode cX9_layBits 35 = .ok (.iaload, 1) := by decide +kernel
theorem dX9_layBits_36 : decode cX9_layBits 36 = .ok (.istore_n 2, 1) := by decide +kernel
theorem dX9_layBits_37 : decode cX9_layBits 37 = .ok (.iload_n 2, 1) := by decide +kernel
theorem dX9_layBits_38 : decode cX9_layBits 38 = .ok (.bipush 78, 2) := by decide +kernel
theorem dX9_layBits_40 : decode cX9_layBits 40 = .ok (.if_icmp .eq 27, 3) := by decide +kernel
theorem dX9_layBits_43 : decode cX9_layBits 43 = .ok (.iload_n 2, 1) := by decide +kernel
theorem dX9_layBits_44 : decode cX9_layBits 44 = .ok (.bipush 87, 2) := by decide +kernel
theorem dX9_layBits_46 : decode cX9_layBits 46 = .ok (.if_icmp .eq 21, 3) := by decide +kernel
theorem dX9_layBits_49 : decode cX9_layBits 49 = .ok (.iload_n 2, 1) := by decide +kernel
theorem dX9_layBits_50 : decode cX9_layBits 50 = .ok (.bipush 71, 2) := by decide +kernel
theorem dX9_layBits_52 : decode cX9_layBits 52 = .ok (.if_icmp .eq 15, 3) := by decide +kernel
theorem dX9_layBits_55 : decode cX9_layBits 55 = .ok (.iload_n 2, 1) := by decide +kernel
theorem dX9_layBits_56 : decode cX9_layBits 56 = .ok (.bipush 70, 2) := by decide +kernel
theorem dX9_layBits_58 : decode cX9_layBits 58 = .ok (.if_icmp .eq 9, 3) := by decide +kernel
theorem dX9_layBits_61 : decode cX9_layBits 61 = .ok (.iload_n 2, 1) := by decide +kernel
theorem dX9_layBits_62 : decode cX9_layBits 62 = .ok (.bipush 85, 2) := by decide +kernel
theorem dX9_layBits_64 : decode cX9_layBits 64 = .ok (.if_icmp .ne 57, 3) := by decide +kernel
theorem dX9_layBits_67 : decode cX9_layBits 67 = .ok (.aload_n 0, 1) := by decide +kernel
theorem dX9_layBits_68 : decode cX9_layBits 68 = .ok (.getfield 39, 3) := by decide +kernel
theorem dX9_layBits_71 : decode cX9_layBits 71 = .ok (.iload_n 1, 1) := by decide +kernel
theorem dX9_layBits_72 : decode cX9_layBits 72 = .ok (.aload_n 0, 1) := by decide +kernel
theorem dX9_layBits_73 : decode cX9_layBits 73 = .ok (.getfield 185, 3) := by decide +kernel
theorem dX9_layBits_76 : decode cX9_layBits 76 = .ok (.iastore, 1) := by decide +kernel
theorem dX9_layBits_77 : decode cX9_layBits 77 = .ok (.aload_n 0, 1) := by decide +kernel
theorem dX9_layBits_78 : decode cX9_layBits 78 = .ok (.dup, 1) := by decide +kernel
theorem dX9_layBits_79 : decode cX9_layBits 79 = .ok (.getfield 191, 3) := by decide +kernel
theorem dX9_layBits_82 : decode cX9_layBits 82 = .ok (.iload_n 2, 1) := by decide +kernel
theorem dX9_layBits_83 : decode cX9_layBits 83 = .ok (.bipush 87, 2) := by decide +kernel
theorem dX9_layBits_85 : decode cX9_layBits 85 = .ok (.if_icmp .eq 9, 3) := by decide +kernel
theorem dX9_layBits_88 : decode cX9_layBits 88 = .ok (.iload_n 2, 1) := by decide +kernel
theorem dX9_layBits_89 : decode cX9_layBits 89 = .ok (.bipush 71, 2) := by decide +kernel
theorem dX9_layBits_91 : decode cX9_layBits 91 = .ok (.if_icmp .ne 12, 3) := by decide +kernel
theorem dX9_layBits_94 : decode cX9_layBits 94 = .ok (.iconst 1, 1) := by decide +kernel
theorem dX9_layBits_95 : decode cX9_layBits 95 = .ok (.aload_n 0, 1) := by decide +kernel
theorem dX9_layBits_96 : decode cX9_layBits 96 = .ok (.getfield 185, 3) := by decide +kernel
theorem dX9_layBits_99 : decode cX9_layBits 99 = .ok (.ishl, 1) := by decide +kernel
theorem dX9_layBits_100 : decode cX9_layBits 100 = .ok (.goto 4, 3) := by decide +kernel
theorem dX9_layBits_103 : decode cX9_layBits 103 = .ok (.iconst 0, 1) := by decide +kernel
theorem dX9_layBits_104 : decode cX9_layBits 104 = .ok (.ior, 1) := by decide +kernel
theorem dX9_layBits_105 : decode cX9_layBits 105 = .ok (.putfield 191, 3) := by decide +kernel
theorem dX9_layBits_108 : decode cX9_layBits 108 = .ok (.aload_n 0, 1) := by decide +kernel
theorem dX9_layBits_109 : decode cX9_layBits 109 = .ok (.dup, 1) := by decide +kernel
theorem dX9_layBits_110 : decode cX9_layBits 110 = .ok (.getfield 185, 3) := by decide +kernel
theorem dX9_layBits_113 : decode cX9_layBits 113 = .ok (.iconst 1, 1) := by decide +kernel
theorem dX9_layBits_114 : decode cX9_layBits 114 = .ok (.iadd, 1) := by decide +kernel
theorem dX9_layBits_115 : decode cX9_layBits 115 = .ok (.putfield 185, 3) := by decide +kernel
theorem dX9_layBits_118 : decode cX9_layBits 118 = .ok (.goto 72, 3) := by decide +kernel
theorem dX9_layBits_121 : decode cX9_layBits 121 = .ok (.iload_n 2, 1) := by decide +kernel
theorem dX9_layBits_122 : decode cX9_layBits 122 = .ok (.bipush 89, 2) := by decide +kernel
theorem dX9_layBits_124 : decode cX9_layBits 124 = .ok (.if_icmp .eq 21, 3) := by decide +kernel
theorem dX9_layBits_127 : decode cX9_layBits 127 = .ok (.iload_n 2, 1) := by decide +kernel
theorem dX9_layBits_128 : decode cX9_layBits 128 = .ok (.bipush 72, 2) := by decide +kernel
theorem dX9_layBits_130 : decode cX9_layBits 130 = .ok (.if_icmp .eq 15, 3) := by decide +kernel
theorem dX9_layBits_133 : decode cX9_layBits 133 = .ok (.iload_n 2, 1) := by decide +kernel
theorem dX9_layBits_134 : decode cX9_layBits 134 = .ok (.bipush 79, 2) := by decide +kernel
theorem dX9_layBits_136 : decode cX9_layBits 136 = .ok (.if_icmp .eq 9, 3) := by decide +kernel
theorem dX9_layBits_139 : decode cX9_layBits 139 = .ok (.iload_n 2, 1) := by decide +kernel
theorem dX9_layBits_140 : decode cX9_layBits 140 = .ok (.bipush 83, 2) := by decide +kernel
theorem dX9_layBits_142 : decode cX9_layBits 142 = .ok (.if_icmp .ne 48, 3) := by decide +kernel
theorem dX9_layBits_145 : decode cX9_layBits 145 = .ok (.aload_n 0, 1) := by decide +kernel
theorem dX9_layBits_146 : decode cX9_layBits 146 = .ok (.getfield 39, 3) := by decide +kernel
theorem dX9_layBits_149 : decode cX9_layBits 149 = .ok (.iload_n 1, 1) := by decide +kernel
theorem dX9_layBits_150 : decode cX9_layBits 150 = .ok (.aload_n 0, 1) := by decide +kernel
theorem dX9_layBits_151 : decode cX9_layBits 151 = .ok (.getfield 188, 3) := by decide +kernel
theorem dX9_layBits_154 : decode cX9_layBits 154 = .ok (.iastore, 1) := by decide +kernel
theorem dX9_layBits_155 : decode cX9_layBits 155 = .ok (.aload_n 0, 1) := by decide +kernel
theorem dX9_layBits_156 : decode cX9_layBits 156 = .ok (.dup, 1) := by decide +kernel
theorem dX9_layBits_157 : decode cX9_layBits 157 = .ok (.getfield 194, 3) := by decide +kernel
theorem dX9_layBits_160 : decode cX9_layBits 160 = .ok (.iload_n 2, 1) := by decide +kernel
theorem dX9_layBits_161 : decode cX9_layBits 161 = .ok (.bipush 72, 2) := by decide +kernel
theorem dX9_layBits_163 : decode cX9_layBits 163 = .ok (.if_icmp .ne 12, 3) := by decide +kernel
theorem dX9_layBits_166 : decode cX9_layBits 166 = .ok (.iconst 1, 1) := by decide +kernel
theorem dX9_layBits_167 : decode cX9_layBits 167 = .ok (.aload_n 0, 1) := by decide +kernel
theorem dX9_layBits_168 : decode cX9_layBits 168 = .ok (.getfield 188, 3) := by decide +kernel
theorem dX9_layBits_171 : decode cX9_layBits 171 = .ok (.ishl, 1) := by decide +kernel
theorem dX9_layBits_172 : decode cX9_layBits 172 = .ok (.goto 4, 3) := by decide +kernel
theorem dX9_layBits_175 : decode cX9_layBits 175 = .ok (.iconst 0, 1) := by decide +kernel
theorem dX9_layBits_176 : decode cX9_layBits 176 = .ok (.ior, 1) := by decide +kernel
theorem dX9_layBits_177 : decode cX9_layBits 177 = .ok (.putfield 194, 3) := by decide +kernel
theorem dX9_layBits_180 : decode cX9_layBits 180 = .ok (.aload_n 0, 1) := by decide +kernel
theorem dX9_layBits_181 : decode cX9_layBits 181 = .ok (.dup, 1) := by decide +kernel
theorem dX9_layBits_182 : decode cX9_layBits 182 = .ok (.getfield 188, 3) := by decide +kernel
theorem dX9_layBits_185 : decode cX9_layBits 185 = .ok (.iconst 1, 1) := by decide +kernel
theorem dX9_layBits_186 : decode cX9_layBits 186 = .ok (.iadd, 1) := by decide +kernel
theorem dX9_layBits_187 : decode cX9_layBits 187 = .ok (.putfield 188, 3) := by decide +kernel
theorem dX9_layBits_190 : decode cX9_layBits 190 = .ok (.iinc 1 1, 3) := by decide +kernel
theorem dX9_layBits_193 : decode cX9_layBits 193 = .ok (.goto (-171), 3) := by decide +kernel
theorem dX9_layBits_196 : decode cX9_layBits 196 = .ok (.return_, 1) := by decide +kernel
theorem dX9_look_0 : decode cX9_look 0 = .ok (.aload_n 0, 1) := by decide +kernel
theorem dX9_look_1 : decode cX9_look 1 = .ok (.iconst 0, 1) := by decide +kernel
theorem dX9_look_2 : decode cX9_look 2 = .ok (.putfield 197, 3) := by decide +kernel
theorem dX9_look_5 : decode cX9_look 5 = .ok (.aload_n 0, 1) := by decide +kernel
theorem dX9_look_6 : decode cX9_look 6 = .ok (.iconst 0, 1) := by decide +kernel
theorem dX9_look_7 : decode cX9_look 7 = .ok (.putfield 200, 3) := by decide +kernel
theorem dX9_look_10 : decode cX9_look 10 = .ok (.iconst 0, 1) := by decide +kernel
theorem dX9_look_11 : decode cX9_look 11 = .ok (.istore 4, 2) := by decide +kernel
theorem dX9_look_13 : decode cX9_look 13 = .ok (.iload 4, 2) := by decide +kernel
theorem dX9_look_15 : decode cX9_look 15 = .ok (.aload_n 0, 1) := by decide +kernel
theorem dX9_look_16 : decode cX9_look 16 = .ok (.getfield 143, 3) := by decide +kernel
theorem dX9_look_19 : decode cX9_look 19 = .ok (.if_icmp .ge 589, 3) := by decide +kernel
theorem dX9_look_22 : decode cX9_look 22 = .ok (.aload_n 0, 1) := by decide +kernel
theorem dX9_look_23 : decode cX9_look 23 = .ok (.getfield 13, 3) := by decide +kernel
theorem dX9_look_26 : decode cX9_look 26 = .ok (.iload 4, 2) := by decide +kernel
theorem dX9_look_28 : decode cX9_look 28 = .ok (.iaload, 1) := by decide +kernel
theorem dX9_look_29 : decode cX9_look 29 = .ok (.istore 5, 2) := by decide +kernel
theorem dX9_look_31 : decode cX9_look 31 = .ok (.aload_n 0, 1) := by decide +kernel
theorem dX9_look_32 : decode cX9_look 32 = .ok (.getfield 17, 3) := by decide +kernel
theorem dX9_look_35 : decode cX9_look 35 = .ok (.iload 4, 2) := by decide +kernel
theorem dX9_look_37 : decode cX9_look 37 = .ok (.iaload, 1) := by decide +kernel
theorem dX9_look_38 : decode cX9_look 38 = .ok (.bipush (-9), 2) := by decide +kernel
theorem dX9_look_40 : decode cX9_look 40 = .ok (.if_icmp .eq 22, 3) := by decide +kernel
theorem dX9_look_43 : decode cX9_look 43 = .ok (.aload_n 0, 1) := by decide +kernel
theorem dX9_look_44 : decode cX9_look 44 = .ok (.getfield 42, 3) := by decide +kernel
theorem dX9_look_47 : decode cX9_look 47 = .ok (.aload_n 0, 1) := by decide +kernel
theorem dX9_look_48 : decode cX9_look 48 = .ok (.getfield 17, 3) := by decide +kernel
theorem dX9_look_51 : decode cX9_look 51 = .ok (.iload 4, 2) := by decide +kernel
theorem dX9_look_53 : decode cX9_look 53 = .ok (.iaload, 1) := by decide +kernel
theorem dX9_look_54 : decode cX9_look 54 = .ok (.baload, 1) := by decide +kernel
theorem dX9_look_55 : decode cX9_look 55 = .ok (.ifCond .eq 7, 3) := by decide +kernel
theorem dX9_look_58 : decode cX9_look 58 = .ok (.iconst 1, 1) := by decide +kernel
theorem dX9_look_59 : decode cX9_look 59 = .ok (.goto 4, 3) := by decide +kernel
theorem dX9_look_62 : decode cX9_look 62 = .ok (.iconst 0, 1) := by decide +kernel
theorem dX9_look_63 : decode cX9_look 63 = .ok (.istore 6, 2) := by decide +kernel
theorem dX9_look_65 : decode cX9_look 65 = .ok (.aload_n 0, 1) := by decide +kernel
theorem dX9_look_66 : decode cX9_look 66 = .ok (.getfield 20, 3) := by decide +kernel
theorem dX9_look_69 : decode cX9_look 69 = .ok (.iload 4, 2) := by decide +kernel
theorem dX9_look_71 : decode cX9_look 71 = .ok (.iaload, 1) := by decide +kernel
theorem dX9_look_72 : decode cX9_look 72 = .ok (.bipush (-9), 2) := by decide +kernel
theorem dX9_look_74 : decode cX9_look 74 = .ok (.if_icmp .eq 22, 3) := by decide +kernel
theorem dX9_look_77 : decode cX9_look 77 = .ok (.aload_n 0, 1) := by decide +kernel
theorem dX9_look_78 : decode cX9_look 78 = .ok (.getfield 42, 3) := by decide +kernel
theorem dX9_look_81 : decode cX9_look 81 = .ok (.aload_n 0, 1) := by decide +kernel
theorem dX9_look_82 : decode cX9_look 82 = .ok (.getfield 20, 3) := by decide +kernel
theorem dX9_look_85 : decode cX9_look 85 = .ok (.iload 4, 2) := by decide +kernel
theorem dX9_look_87 : decode cX9_look 87 = .ok (.iaload, 1) := by decide +kernel
theorem dX9_look_88 : decode cX9_look 88 = .ok (.baload, 1) := by decide +kernel
theorem dX9_look_89 : decode cX9_look 89 = .ok (.ifCond .eq 7, 3) := by decide +kernel
theorem dX9_look_92 : decode cX9_look 92 = .ok (.iconst 1, 1) := by decide +kernel
theorem dX9_look_93 : decode cX9_look 93 = .ok (.goto 4, 3) := by decide +kernel
theorem dX9_look_96 : decode cX9_look 96 = .ok (.iconst 0, 1) := by decide +kernel
theorem dX9_look_97 : decode cX9_look 97 = .ok (.istore 7, 2) := by decide +kernel
theorem dX9_look_99 : decode cX9_look 99 = .ok (.iload_n 3, 1) := by decide +kernel
theorem dX9_look_100 : decode cX9_look 100 = .ok (.aload_n 0, 1) := by decide +kernel
theorem dX9_look_101 : decode cX9_look 101 = .ok (.getfield 39, 3) := by decide +kernel
theorem dX9_look_104 : decode cX9_look 104 = .ok (.iload 4, 2) := by decide +kernel
theorem dX9_look_106 : decode cX9_look 106 = .ok (.iaload, 1) := by decide +kernel
theorem dX9_look_107 : decode cX9_look 107 = .ok (.ishr, 1) := by decide +kernel
theorem dX9_look_108 : decode cX9_look 108 = .ok (.iconst 1, 1) := by decide +kernel
theorem dX9_look_109 : decode cX9_look 109 = .ok (.iand, 1) := by decide +kernel
theorem dX9_look_110 : decode cX9_look 110 = .ok (.iconst 1, 1) := by decide +kernel
theorem dX9_look_111 : decode cX9_look 111 = .ok (.if_icmp .ne 7, 3) := by decide +kernel
theorem dX9_look_114 : decode cX9_look 114 = .ok (.iconst 1, 1) := by decide +kernel
theorem dX9_look_115 : decode cX9_look 115 = .ok (.goto 4, 3) := by decide +kernel
theorem dX9_look_118 : decode cX9_look 118 = .ok (.iconst 0, 1) := by decide +kernel
theorem dX9_look_119 : decode cX9_look 119 = .ok (.istore 8, 2) := by decide +kernel
theorem dX9_look_121 : decode cX9_look 121 = .ok (.iload_n 2, 1) := by decide +kernel
theorem dX9_look_122 : decode cX9_look 122 = .ok (.aload_n 0, 1) := by decide +kernel
theorem dX9_look_123 : decode cX9_look 123 = .ok (.getfield 39, 3) := by decide +kernel
theorem dX9_look_126 : decode cX9_look 126 = .ok (.iload 4, 2) := by decide +kernel
theorem dX9_look_128 : decode cX9_look 128 = .ok (.iaload, 1) := by decide +kernel
theorem dX9_look_129 : decode cX9_look 129 = .ok (.ishr, 1) := by decide +kernel
theorem dX9_look_130 : decode cX9_look 130 = .ok (.iconst 1, 1) := by decide +kernel
theorem dX9_look_131 : decode cX9_look 131 = .ok (.iand, 1) := by decide +kernel
theorem dX9_look_132 : decode cX9_look 132 = .ok (.iconst 1, 1) := by decide +kernel
theorem dX9_look_133 : decode cX9_look 133 = .ok (.if_icmp .ne 7, 3) := by decide +kernel
theorem dX9_look_136 : decode cX9_look 136 = .ok (.iconst 1, 1) := by decide +kernel
theorem dX9_look_137 : decode cX9_look 137 = .ok (.goto 4, 3) := by decide +kernel
theorem dX9_look_140 : decode cX9_look 140 = .ok (.iconst 0, 1) := by decide +kernel
theorem dX9_look_141 : decode cX9_look 141 = .ok (.istore 9, 2) := by decide +kernel
theorem dX9_look_143 : decode cX9_look 143 = .ok (.iload 5, 2) := by decide +kernel
theorem dX9_look_145 : decode cX9_look 145 = .ok (.bipush 46, 2) := by decide +kernel
theorem dX9_look_147 : decode cX9_look 147 = .ok (.if_icmp .eq 12, 3) := by decide +kernel
theorem dX9_look_150 : decode cX9_look 150 = .ok (.iload 5, 2) := by decide +kernel
theorem dX9_look_152 : decode cX9_look 152 = .ok (.bipush 97, 2) := by decide +kernel
theorem dX9_look_154 : decode cX9_look 154 = .ok (.isub, 1) := by decide +kernel
theorem dX9_look_155 : decode cX9_look 155 = .ok (.iload_n 1, 1) := by decide +kernel
theorem dX9_look_156 : decode cX9_look 156 = .ok (.if_icmp .ne 7, 3) := by decide +kernel
theorem dX9_look_159 : decode cX9_look 159 = .ok (.iconst 1, 1) := by decide +kernel
theorem dX9_look_160 : decode cX9_look 160 = .ok (.goto 4, 3) := by decide +kernel
theorem dX9_look_163 : decode cX9_look 163 = .ok (.iconst 0, 1) := by decide +kernel
theorem dX9_look_164 : decode cX9_look 164 = .ok (.istore 10, 2) := by decide +kernel
theorem dX9_look_166 : decode cX9_look 166 = .ok (.iconst 0, 1) := by decide +kernel
theorem dX9_look_167 : decode cX9_look 167 = .ok (.istore 11, 2) := by decide +kernel
theorem dX9_look_169 : decode cX9_look 169 = .ok (.iconst 0, 1) := by decide +kernel
theorem dX9_look_170 : decode cX9_look 170 = .ok (.istore 12, 2) := by decide +kernel
theorem dX9_look_172 : decode cX9_look 172 = .ok (.iload 5, 2) := by decide +kernel
theorem dX9_look_174 : decode cX9_look 174 = .ok (.lookupswitch 365 #[(33, 114), (38, 129), (47, 149), (62, 169), (70, 224), (71, 200), (72, 288), (78, 189), (79, 312), (83, 336), (85, 248), (87, 189), (89, 277)], 114) := by decide +kernel
theorem dX9_look_288 : decode cX9_look 288 = .ok (.iload 6, 2) := by decide +kernel
theorem dX9_look_290 : decode cX9_look 290 = .ok (.ifCond .ne 7, 3) := by decide +kernel
theorem dX9_look_293 : decode cX9_look 293 = .ok (.iconst 1, 1) := by decide +kernel
theorem dX9_look_294 : decode cX9_look 294 = .ok (.goto 4, 3) := by decide +kernel
theorem dX9_look_297 : decode cX9_look 297 = .ok (.iconst 0, 1) := by decide +kernel
theorem dX9_look_298 : decode cX9_look 298 = .ok (.istore 10, 2) := by decide +kernel
theorem dX9_look_300 : decode cX9_look 300 = .ok (.goto 239, 3) := by decide +kernel
theorem dX9_look_303 : decode cX9_look 303 = .ok (.iload 6, 2) := by decide +kernel
theorem dX9_look_305 : decode cX9_look 305 = .ok (.ifCond .eq 12, 3) := by decide +kernel
theorem dX9_look_308 : decode cX9_look 308 = .ok (.iload 7, 2) := by decide +kernel
theorem dX9_look_310 : decode cX9_look 310 = .ok (.ifCond .eq 7, 3) := by decide +kernel
theorem dX9_look_313 : decode cX9_look 313 = .ok (.iconst 1, 1) := by decide +kernel
theorem dX9_look_314 : decode cX9_look 314 = .ok (.goto 4, 3) := by decide +kernel
theorem dX9_look_317 : decode cX9_look 317 = .ok (.iconst 0, 1) := by decide +kernel
theorem dX9_look_318 : decode cX9_look 318 = .ok (.istore 10, 2) := by decide +kernel
theorem dX9_look_320 : decode cX9_look 320 = .ok (.goto 219, 3) := by decide +kernel
theorem dX9_look_323 : decode cX9_look 323 = .ok (.iload 6, 2) := by decide +kernel
theorem dX9_look_325 : decode cX9_look 325 = .ok (.ifCond .ne 8, 3) := by decide +kernel
theorem dX9_look_328 : decode cX9_look 328 = .ok (.iload 7, 2) := by decide +kernel
theorem dX9_look_330 : decode cX9_look 330 = .ok (.ifCond .eq 7, 3) := by decide +kernel
theorem dX9_look_333 : decode cX9_look 333 = .ok (.iconst 1, 1) := by decide +kernel
theorem dX9_look_334 : decode cX9_look 334 = .ok (.goto 4, 3) := by decide +kernel
theorem dX9_look_337 : decode cX9_look 337 = .ok (.iconst 0, 1) := by decide +kernel
theorem dX9_look_338 : decode cX9_look 338 = .ok (.istore 10, 2) := by decide +kernel
theorem dX9_look_340 : decode cX9_look 340 = .ok (.goto 199, 3) := by decide +kernel
theorem dX9_look_343 : decode cX9_look 343 = .ok (.iload 6, 2) := by decide +kernel
theorem dX9_look_345 : decode cX9_look 345 = .ok (.ifCond .eq 8, 3) := by decide +kernel
theorem dX9_look_348 : decode cX9_look 348 = .ok (.iload 7, 2) := by decide +kernel
theorem dX9_look_350 : decode cX9_look 350 = .ok (.ifCond .eq 7, 3) := by decide +kernel
theorem dX9_look_353 : decode cX9_look 353 = .ok (.iconst 1, 1) := by decide +kernel
theorem dX9_look_354 : decode cX9_look 354 = .ok (.goto 4, 3) := by decide +kernel
theorem dX9_look_357 : decode cX9_look 357 = .ok (.iconst 0, 1) := by decide +kernel
theorem dX9_look_358 : decode cX9_look 358 = .ok (.istore 10, 2) := by decide +kernel
theorem dX9_look_360 : decode cX9_look 360 = .ok (.goto 179, 3) := by decide +kernel
theorem dX9_look_363 : decode cX9_look 363 = .ok (.iload 8, 2) := by decide +kernel
theorem dX9_look_365 : decode cX9_look 365 = .ok (.istore 10, 2) := by decide +kernel
theorem dX9_look_367 : decode cX9_look 367 = .ok (.iload 6, 2) := by decide +kernel
theorem dX9_look_369 : decode cX9_look 369 = .ok (.istore 11, 2) := by decide +kernel
theorem dX9_look_371 : decode cX9_look 371 = .ok (.goto 168, 3) := by decide +kernel
theorem dX9_look_374 : decode cX9_look 374 = .ok (.iload 6, 2) := by decide +kernel
theorem dX9_look_376 : decode cX9_look 376 = .ok (.ifCond .eq 12, 3) := by decide +kernel
theorem dX9_look_379 : decode cX9_look 379 = .ok (.iload 8, 2) := by decide +kernel
theorem dX9_look_381 : decode cX9_look 381 = .ok (.ifCond .eq 7, 3) := by decide +kernel
theorem dX9_look_384 : decode cX9_look 384 = .ok (.iconst 1, 1) := by decide +kernel
theorem dX9_look_385 : decode cX9_look 385 = .ok (.goto 4, 3) := by decide +kernel
theorem dX9_look_388 : decode cX9_look 388 = .ok (.iconst 0, 1) := by decide +kernel
theorem dX9_look_389 : decode cX9_look 389 = .ok (.istore 10, 2) := by decide +kernel
theorem dX9_look_391 : decode cX9_look 391 = .ok (.iload 10, 2) := by decide +kernel
theorem dX9_look_393 : decode cX9_look 393 = .ok (.istore 11, 2) := by decide +kernel
theorem dX9_look_395 : decode cX9_look 395 = .ok (.goto 144, 3) := by decide +kernel
theorem dX9_look_398 : decode cX9_look 398 = .ok (.iload 6, 2) := by decide +kernel
theorem dX9_look_400 : decode cX9_look 400 = .ok (.ifCond .ne 8, 3) := by decide +kernel
theorem dX9_look_403 : decode cX9_look 403 = .ok (.iload 8, 2) := by decide +kernel
theorem dX9_look_405 : decode cX9_look 405 = .ok (.ifCond .eq 7, 3) := by decide +kernel
theorem dX9_look_408 : decode cX9_look 408 = .ok (.iconst 1, 1) := by decide +kernel
theorem dX9_look_409 : decode cX9_look 409 = .ok (.goto 4, 3) := by decide +kernel
theorem dX9_look_412 : decode cX9_look 412 = .ok (.iconst 0, 1) := by decide +kernel
theorem dX9_look_413 : decode cX9_look 413 = .ok (.istore 10, 2) := by decide +kernel
theorem dX9_look_415 : decode cX9_look 415 = .ok (.iload 10, 2) := by decide +kernel
theorem dX9_look_417 : decode cX9_look 417 = .ok (.istore 11, 2) := by decide +kernel
theorem dX9_look_419 : decode cX9_look 419 = .ok (.goto 120, 3) := by decide +kernel
theorem dX9_look_422 : decode cX9_look 422 = .ok (.iload 7, 2) := by decide +kernel
theorem dX9_look_424 : decode cX9_look 424 = .ok (.ifCond .ne 13, 3) := by decide +kernel
theorem dX9_look_427 : decode cX9_look 427 = .ok (.iload 6, 2) := by decide +kernel
theorem dX9_look_429 : decode cX9_look 429 = .ok (.ifCond .eq 12, 3) := by decide +kernel
theorem dX9_look_432 : decode cX9_look 432 = .ok (.iload 8, 2) := by decide +kernel
theorem dX9_look_434 : decode cX9_look 434 = .ok (.ifCond .eq 7, 3) := by decide +kernel
theorem dX9_look_437 : decode cX9_look 437 = .ok (.iconst 1, 1) := by decide +kernel
theorem dX9_look_438 : decode cX9_look 438 = .ok (.goto 4, 3) := by decide +kernel
theorem dX9_look_441 : decode cX9_look 441 = .ok (.iconst 0, 1) := by decide +kernel
theorem dX9_look_442 : decode cX9_look 442 = .ok (.istore 10, 2) := by decide +kernel
theorem dX9_look_444 : decode cX9_look 444 = .ok (.iload 10, 2) := by decide +kernel
theorem dX9_look_446 : decode cX9_look 446 = .ok (.istore 11, 2) := by decide +kernel
theorem dX9_look_448 : decode cX9_look 448 = .ok (.goto 91, 3) := by decide +kernel
theorem dX9_look_451 : decode cX9_look 451 = .ok (.iload 9, 2) := by decide +kernel
theorem dX9_look_453 : decode cX9_look 453 = .ok (.istore 10, 2) := by decide +kernel
theorem dX9_look_455 : decode cX9_look 455 = .ok (.iload 6, 2) := by decide +kernel
theorem dX9_look_457 : decode cX9_look 457 = .ok (.istore 12, 2) := by decide +kernel
theorem dX9_look_459 : decode cX9_look 459 = .ok (.goto 80, 3) := by decide +kernel
theorem dX9_look_462 : decode cX9_look 462 = .ok (.iload 6, 2) := by decide +kernel
theorem dX9_look_464 : decode cX9_look 464 = .ok (.ifCond .eq 12, 3) := by decide +kernel
theorem dX9_look_467 : decode cX9_look 467 = .ok (.iload 9, 2) := by decide +kernel
theorem dX9_look_469 : decode cX9_look 469 = .ok (.ifCond .eq 7, 3) := by decide +kernel
theorem dX9_look_472 : decode cX9_look 472 = .ok (.iconst 1, 1) := by decide +kernel
theorem dX9_look_473 : decode cX9_look 473 = .ok (.goto 4, 3) := by decide +kernel
theorem dX9_look_476 : decode cX9_look 476 = .ok (.iconst 0, 1) := by decide +kernel
theorem dX9_look_477 : decode cX9_look 477 = .ok (.istore 10, 2) := by decide +kernel
theorem dX9_look_479 : decode cX9_look 479 = .ok (.iload 10, 2) := by decide +kernel
theorem dX9_look_481 : decode cX9_look 481 = .ok (.istore 12, 2) := by decide +kernel
theorem dX9_look_483 : decode cX9_look 483 = .ok (.goto 56, 3) := by decide +kernel
theorem dX9_look_486 : decode cX9_look 486 = .ok (.iload 6, 2) := by decide +kernel
theorem dX9_look_488 : decode cX9_look 488 = .ok (.ifCond .ne 8, 3) := by decide +kernel
theorem dX9_look_491 : decode cX9_look 491 = .ok (.iload 9, 2) := by decide +kernel
theorem dX9_look_493 : decode cX9_look 493 = .ok (.ifCond .eq 7, 3) := by decide +kernel
theorem dX9_look_496 : decode cX9_look 496 = .ok (.iconst 1, 1) := by decide +kernel
theorem dX9_look_497 : decode cX9_look 497 = .ok (.goto 4, 3) := by decide +kernel
theorem dX9_look_500 : decode cX9_look 500 = .ok (.iconst 0, 1) := by decide +kernel
theorem dX9_look_501 : decode cX9_look 501 = .ok (.istore 10, 2) := by decide +kernel
theorem dX9_look_503 : decode cX9_look 503 = .ok (.iload 10, 2) := by decide +kernel
theorem dX9_look_505 : decode cX9_look 505 = .ok (.istore 12, 2) := by decide +kernel
theorem dX9_look_507 : decode cX9_look 507 = .ok (.goto 32, 3) := by decide +kernel
theorem dX9_look_510 : decode cX9_look 510 = .ok (.iload 7, 2) := by decide +kernel
theorem dX9_look_512 : decode cX9_look 512 = .ok (.ifCond .ne 13, 3) := by decide +kernel
theorem dX9_look_515 : decode cX9_look 515 = .ok (.iload 6, 2) := by decide +kernel
theorem dX9_look_517 : decode cX9_look 517 = .ok (.ifCond .eq 12, 3) := by decide +kernel
theorem dX9_look_520 : decode cX9_look 520 = .ok (.iload 9, 2) := by decide +kernel
theorem dX9_look_522 : decode cX9_look 522 = .ok (.ifCond .eq 7, 3) := by decide +kernel
theorem dX9_look_525 : decode cX9_look 525 = .ok (.iconst 1, 1) := by decide +kernel
theorem dX9_look_526 : decode cX9_look 526 = .ok (.goto 4, 3) := by decide +kernel
theorem dX9_look_529 : decode cX9_look 529 = .ok (.iconst 0, 1) := by decide +kernel
theorem dX9_look_530 : decode cX9_look 530 = .ok (.istore 10, 2) := by decide +kernel
theorem dX9_look_532 : decode cX9_look 532 = .ok (.iload 10, 2) := by decide +kernel
theorem dX9_look_534 : decode cX9_look 534 = .ok (.istore 12, 2) := by decide +kernel
theorem dX9_look_536 : decode cX9_look 536 = .ok (.goto 3, 3) := by decide +kernel
theorem dX9_look_539 : decode cX9_look 539 = .ok (.aload_n 0, 1) := by decide +kernel
theorem dX9_look_540 : decode cX9_look 540 = .ok (.getfield 42, 3) := by decide +kernel
theorem dX9_look_543 : decode cX9_look 543 = .ok (.iload 4, 2) := by decide +kernel
theorem dX9_look_545 : decode cX9_look 545 = .ok (.iload 10, 2) := by decide +kernel
theorem dX9_look_547 : decode cX9_look 547 = .ok (.bastore, 1) := by decide +kernel
theorem dX9_look_548 : decode cX9_look 548 = .ok (.aload_n 0, 1) := by decide +kernel
theorem dX9_look_549 : decode cX9_look 549 = .ok (.dup, 1) := by decide +kernel
theorem dX9_look_550 : decode cX9_look 550 = .ok (.getfield 200, 3) := by decide +kernel
theorem dX9_look_553 : decode cX9_look 553 = .ok (.iload 11, 2) := by decide +kernel
theorem dX9_look_555 : decode cX9_look 555 = .ok (.ifCond .eq 15, 3) := by decide +kernel
theorem dX9_look_558 : decode cX9_look 558 = .ok (.iconst 1, 1) := by decide +kernel
theorem dX9_look_559 : decode cX9_look 559 = .ok (.aload_n 0, 1) := by decide +kernel
theorem dX9_look_560 : decode cX9_look 560 = .ok (.getfield 39, 3) := by decide +kernel
theorem dX9_look_563 : decode cX9_look 563 = .ok (.iload 4, 2) := by decide +kernel
theorem dX9_look_565 : decode cX9_look 565 = .ok (.iaload, 1) := by decide +kernel
theorem dX9_look_566 : decode cX9_look 566 = .ok (.ishl, 1) := by decide +kernel
theorem dX9_look_567 : decode cX9_look 567 = .ok (.goto 4, 3) := by decide +kernel
theorem dX9_look_570 : decode cX9_look 570 = .ok (.iconst 0, 1) := by decide +kernel
theorem dX9_look_571 : decode cX9_look 571 = .ok (.ior, 1) := by decide +kernel
theorem dX9_look_572 : decode cX9_look 572 = .ok (.putfield 200, 3) := by decide +kernel
theorem dX9_look_575 : decode cX9_look 575 = .ok (.aload_n 0, 1) := by decide +kernel
theorem dX9_look_576 : decode cX9_look 576 = .ok (.dup, 1) := by decide +kernel
theorem dX9_look_577 : decode cX9_look 577 = .ok (.getfield 197, 3) := by decide +kernel
theorem dX9_look_580 : decode cX9_look 580 = .ok (.iload 12, 2) := by decide +kernel
theorem dX9_look_582 : decode cX9_look 582 = .ok (.ifCond .eq 15, 3) := by decide +kernel
theorem dX9_look_585 : decode cX9_look 585 = .ok (.iconst 1, 1) := by decide +kernel
theorem dX9_look_586 : decode cX9_look 586 = .ok (.aload_n 0, 1) := by decide +kernel
theorem dX9_look_587 : decode cX9_look 587 = .ok (.getfield 39, 3) := by decide +kernel
theorem dX9_look_590 : decode cX9_look 590 = .ok (.iload 4, 2) := by decide +kernel
theorem dX9_look_592 : decode cX9_look 592 = .ok (.iaload, 1) := by decide +kernel
theorem dX9_look_593 : decode cX9_look 593 = .ok (.ishl, 1) := by decide +kernel
theorem dX9_look_594 : decode cX9_look 594 = .ok (.goto 4, 3) := by decide +kernel
theorem dX9_look_597 : decode cX9_look 597 = .ok (.iconst 0, 1) := by decide +kernel
theorem dX9_look_598 : decode cX9_look 598 = .ok (.ior, 1) := by decide +kernel
theorem dX9_look_599 : decode cX9_look 599 = .ok (.putfield 197, 3) := by decide +kernel
theorem dX9_look_602 : decode cX9_look 602 = .ok (.iinc 4 1, 3) := by decide +kernel
theorem dX9_look_605 : decode cX9_look 605 = .ok (.goto (-592), 3) := by decide +kernel
theorem dX9_look_608 : decode cX9_look 608 = .ok (.return_, 1) := by decide +kernel
theorem dX9_wide_0 : decode cX9_wide 0 = .ok (.iconst 1, 1) := by decide +kernel
theorem dX9_wide_1 : decode cX9_wide 1 = .ok (.aload_n 0, 1) := by decide +kernel
theorem dX9_wide_2 : decode cX9_wide 2 = .ok (.getfield 185, 3) := by decide +kernel
theorem dX9_wide_5 : decode cX9_wide 5 = .ok (.ishl, 1) := by decide +kernel
theorem dX9_wide_6 : decode cX9_wide 6 = .ok (.ireturn, 1) := by decide +kernel
theorem dX9_spot_0 : decode cX9_spot 0 = .ok (.iconst 4, 1) := by decide +kernel
theorem dX9_spot_1 : decode cX9_spot 1 = .ok (.iload_n 1, 1) := by decide +kernel
theorem dX9_spot_2 : decode cX9_spot 2 = .ok (.imul, 1) := by decide +kernel
theorem dX9_spot_3 : decode cX9_spot 3 = .ok (.iload_n 2, 1) := by decide +kernel
theorem dX9_spot_4 : decode cX9_spot 4 = .ok (.iadd, 1) := by decide +kernel
theorem dX9_spot_5 : decode cX9_spot 5 = .ok (.aload_n 0, 1) := by decide +kernel
theorem dX9_spot_6 : decode cX9_spot 6 = .ok (.invokevirtual 203, 3) := by decide +kernel
theorem dX9_spot_9 : decode cX9_spot 9 = .ok (.imul, 1) := by decide +kernel
theorem dX9_spot_10 : decode cX9_spot 10 = .ok (.iload_n 3, 1) := by decide +kernel
theorem dX9_spot_11 : decode cX9_spot 11 = .ok (.iadd, 1) := by decide +kernel
theorem dX9_spot_12 : decode cX9_spot 12 = .ok (.ireturn, 1) := by decide +kernel
theorem dX9_prepare_0 : decode cX9_prepare 0 = .ok (.aload_n 0, 1) := by decide +kernel
theorem dX9_prepare_1 : decode cX9_prepare 1 = .ok (.invokevirtual 207, 3) := by decide +kernel
theorem dX9_prepare_4 : decode cX9_prepare 4 = .ok (.iconst 1, 1) := by decide +kernel
theorem dX9_prepare_5 : decode cX9_prepare 5 = .ok (.aload_n 0, 1) := by decide +kernel
theorem dX9_prepare_6 : decode cX9_prepare 6 = .ok (.getfield 188, 3) := by decide +kernel
theorem dX9_prepare_9 : decode cX9_prepare 9 = .ok (.ishl, 1) := by decide +kernel
theorem dX9_prepare_10 : decode cX9_prepare 10 = .ok (.istore_n 1, 1) := by decide +kernel
theorem dX9_prepare_11 : decode cX9_prepare 11 = .ok (.iconst 0, 1) := by decide +kernel
theorem dX9_prepare_12 : decode cX9_prepare 12 = .ok (.istore_n 2, 1) := by decide +kernel
theorem dX9_prepare_13 : decode cX9_prepare 13 = .ok (.iload_n 2, 1) := by decide +kernel
theorem dX9_prepare_14 : decode cX9_prepare 14 = .ok (.iload_n 1, 1) := by decide +kernel
theorem dX9_prepare_15 : decode cX9_prepare 15 = .ok (.if_icmp .ge 103, 3) := by decide +kernel
theorem dX9_prepare_18 : decode cX9_prepare 18 = .ok (.iconst 0, 1) := by decide +kernel
theorem dX9_prepare_19 : decode cX9_prepare 19 = .ok (.istore_n 3, 1) := by decide +kernel
theorem dX9_prepare_20 : decode cX9_prepare 20 = .ok (.iload_n 3, 1) := by decide +kernel
theorem dX9_prepare_21 : decode cX9_prepare 21 = .ok (.iconst 4, 1) := by decide +kernel
theorem dX9_prepare_22 : decode cX9_prepare 22 = .ok (.if_icmp .ge 90, 3) := by decide +kernel
theorem dX9_prepare_25 : decode cX9_prepare 25 = .ok (.iconst 0, 1) := by decide +kernel
theorem dX9_prepare_26 : decode cX9_prepare 26 = .ok (.istore 4, 2) := by decide +kernel
theorem dX9_prepare_28 : decode cX9_prepare 28 = .ok (.iload 4, 2) := by decide +kernel
theorem dX9_prepare_30 : decode cX9_prepare 30 = .ok (.aload_n 0, 1) := by decide +kernel
theorem dX9_prepare_31 : decode cX9_prepare 31 = .ok (.invokevirtual 203, 3) := by decide +kernel
theorem dX9_prepare_34 : decode cX9_prepare 34 = .ok (.if_icmp .ge 72, 3) := by decide +kernel
theorem dX9_prepare_37 : decode cX9_prepare 37 = .ok (.aload_n 0, 1) := by decide +kernel
theorem dX9_prepare_38 : decode cX9_prepare 38 = .ok (.iload_n 3, 1) := by decide +kernel
theorem dX9_prepare_39 : decode cX9_prepare 39 = .ok (.iload_n 2, 1) := by decide +kernel
theorem dX9_prepare_40 : decode cX9_prepare 40 = .ok (.iload 4, 2) := by decide +kernel
theorem dX9_prepare_42 : decode cX9_prepare 42 = .ok (.invokevirtual 210, 3) := by decide +kernel
theorem dX9_prepare_45 : decode cX9_prepare 45 = .ok (.aload_n 0, 1) := by decide +kernel
theorem dX9_prepare_46 : decode cX9_prepare 46 = .ok (.getfield 48, 3) := by decide +kernel
theorem dX9_prepare_49 : decode cX9_prepare 49 = .ok (.aload_n 0, 1) := by decide +kernel
theorem dX9_prepare_50 : decode cX9_prepare 50 = .ok (.iload_n 2, 1) := by decide +kernel
theorem dX9_prepare_51 : decode cX9_prepare 51 = .ok (.iload_n 3, 1) := by decide +kernel
theorem dX9_prepare_52 : decode cX9_prepare 52 = .ok (.iload 4, 2) := by decide +kernel
theorem dX9_prepare_54 : decode cX9_prepare 54 = .ok (.invokevirtual 214, 3) := by decide +kernel
theorem dX9_prepare_57 : decode cX9_prepare 57 = .ok (.aload_n 0, 1) := by decide +kernel
theorem dX9_prepare_58 : decode cX9_prepare 58 = .ok (.getfield 200, 3) := by decide +kernel
theorem dX9_prepare_61 : decode cX9_prepare 61 = .ok (.iastore, 1) := by decide +kernel
theorem dX9_prepare_62 : decode cX9_prepare 62 = .ok (.aload_n 0, 1) := by decide +kernel
theorem dX9_prepare_63 : decode cX9_prepare 63 = .ok (.getfield 51, 3) := by decide +kernel
theorem dX9_prepare_66 : decode cX9_prepare 66 = .ok (.aload_n 0, 1) := by decide +kernel
theorem dX9_prepare_67 : decode cX9_prepare 67 = .ok (.iload_n 2, 1) := by decide +kernel
theorem dX9_prepare_68 : decode cX9_prepare 68 = .ok (.iload_n 3, 1) := by decide +kernel
theorem dX9_prepare_69 : decode cX9_prepare 69 = .ok (.iload 4, 2) := by decide +kernel
theorem dX9_prepare_71 : decode cX9_prepare 71 = .ok (.invokevirtual 214, 3) := by decide +kernel
theorem dX9_prepare_74 : decode cX9_prepare 74 = .ok (.aload_n 0, 1) := by decide +kernel
theorem dX9_prepare_75 : decode cX9_prepare 75 = .ok (.getfield 42, 3) := by decide +kernel
theorem dX9_prepare_78 : decode cX9_prepare 78 = .ok (.aload_n 0, 1) := by decide +kernel
theorem dX9_prepare_79 : decode cX9_prepare 79 = .ok (.getfield 143, 3) := by decide +kernel
theorem dX9_prepare_82 : decode cX9_prepare 82 = .ok (.iconst 1, 1) := by decide +kernel
theorem dX9_prepare_83 : decode cX9_prepare 83 = .ok (.isub, 1) := by decide +kernel
theorem dX9_prepare_84 : decode cX9_prepare 84 = .ok (.baload, 1) := by decide +kernel
theorem dX9_prepare_85 : decode cX9_prepare 85 = .ok (.bastore, 1) := by decide +kernel
theorem dX9_prepare_86 : decode cX9_prepare 86 = .ok (.aload_n 0, 1) := by decide +kernel
theorem dX9_prepare_87 : decode cX9_prepare 87 = .ok (.getfield 45, 3) := by decide +kernel
theorem dX9_prepare_90 : decode cX9_prepare 90 = .ok (.iconst 4, 1) := by decide +kernel
theorem dX9_prepare_91 : decode cX9_prepare 91 = .ok (.iload_n 2, 1) := by decide +kernel
theorem dX9_prepare_92 : decode cX9_prepare 92 = .ok (.imul, 1) := by decide +kernel
theorem dX9_prepare_93 : decode cX9_prepare 93 = .ok (.iload_n 3, 1) := by decide +kernel
theorem dX9_prepare_94 : decode cX9_prepare 94 = .ok (.iadd, 1) := by decide +kernel
theorem dX9_prepare_95 : decode cX9_prepare 95 = .ok (.aload_n 0, 1) := by decide +kernel
theorem dX9_prepare_96 : decode cX9_prepare 96 = .ok (.getfield 197, 3) := by decide +kernel
theorem dX9_prepare_99 : decode cX9_prepare 99 = .ok (.iastore, 1) := by decide +kernel
theorem dX9_prepare_100 : decode cX9_prepare 100 = .ok (.iinc 4 1, 3) := by decide +kernel
theorem dX9_prepare_103 : decode cX9_prepare 103 = .ok (.goto (-75), 3) := by decide +kernel
theorem dX9_prepare_106 : decode cX9_prepare 106 = .ok (.iinc 3 1, 3) := by decide +kernel
theorem dX9_prepare_109 : decode cX9_prepare 109 = .ok (.goto (-89), 3) := by decide +kernel
theorem dX9_prepare_112 : decode cX9_prepare 112 = .ok (.iinc 2 1, 3) := by decide +kernel
theorem dX9_prepare_115 : decode cX9_prepare 115 = .ok (.goto (-102), 3) := by decide +kernel
theorem dX9_prepare_118 : decode cX9_prepare 118 = .ok (.iconst 0, 1) := by decide +kernel
theorem dX9_prepare_119 : decode cX9_prepare 119 = .ok (.istore_n 2, 1) := by decide +kernel
theorem dX9_prepare_120 : decode cX9_prepare 120 = .ok (.iload_n 2, 1) := by decide +kernel
theorem dX9_prepare_121 : decode cX9_prepare 121 = .ok (.iload_n 1, 1) := by decide +kernel
theorem dX9_prepare_122 : decode cX9_prepare 122 = .ok (.if_icmp .ge 51, 3) := by decide +kernel
theorem dX9_prepare_125 : decode cX9_prepare 125 = .ok (.iconst 0, 1) := by decide +kernel
theorem dX9_prepare_126 : decode cX9_prepare 126 = .ok (.istore_n 3, 1) := by decide +kernel
theorem dX9_prepare_127 : decode cX9_prepare 127 = .ok (.iload_n 3, 1) := by decide +kernel
theorem dX9_prepare_128 : decode cX9_prepare 128 = .ok (.aload_n 0, 1) := by decide +kernel
theorem dX9_prepare_129 : decode cX9_prepare 129 = .ok (.invokevirtual 203, 3) := by decide +kernel
theorem dX9_prepare_132 : decode cX9_prepare 132 = .ok (.if_icmp .ge 35, 3) := by decide +kernel
theorem dX9_prepare_135 : decode cX9_prepare 135 = .ok (.aload_n 0, 1) := by decide +kernel
theorem dX9_prepare_136 : decode cX9_prepare 136 = .ok (.getfield 54, 3) := by decide +kernel
theorem dX9_prepare_139 : decode cX9_prepare 139 = .ok (.iload_n 2, 1) := by decide +kernel
theorem dX9_prepare_140 : decode cX9_prepare 140 = .ok (.aload_n 0, 1) := by decide +kernel
theorem dX9_prepare_141 : decode cX9_prepare 141 = .ok (.invokevirtual 203, 3) := by decide +kernel
theorem dX9_prepare_144 : decode cX9_prepare 144 = .ok (.imul, 1) := by decide +kernel
theorem dX9_prepare_145 : decode cX9_prepare 145 = .ok (.iload_n 3, 1) := by decide +kernel
theorem dX9_prepare_146 : decode cX9_prepare 146 = .ok (.iadd, 1) := by decide +kernel
theorem dX9_prepare_147 : decode cX9_prepare 147 = .ok (.iload_n 3, 1) := by decide +kernel
theorem dX9_prepare_148 : decode cX9_prepare 148 = .ok (.aload_n 0, 1) := by decide +kernel
theorem dX9_prepare_149 : decode cX9_prepare 149 = .ok (.getfield 191, 3) := by decide +kernel
theorem dX9_prepare_152 : decode cX9_prepare 152 = .ok (.if_icmp .ne 7, 3) := by decide +kernel
theorem dX9_prepare_155 : decode cX9_prepare 155 = .ok (.iconst 1, 1) := by decide +kernel
theorem dX9_prepare_156 : decode cX9_prepare 156 = .ok (.goto 4, 3) := by decide +kernel
theorem dX9_prepare_159 : decode cX9_prepare 159 = .ok (.iconst 0, 1) := by decide +kernel
theorem dX9_prepare_160 : decode cX9_prepare 160 = .ok (.bastore, 1) := by decide +kernel
theorem dX9_prepare_161 : decode cX9_prepare 161 = .ok (.iinc 3 1, 3) := by decide +kernel
theorem dX9_prepare_164 : decode cX9_prepare 164 = .ok (.goto (-37), 3) := by decide +kernel
theorem dX9_prepare_167 : decode cX9_prepare 167 = .ok (.iinc 2 1, 3) := by decide +kernel
theorem dX9_prepare_170 : decode cX9_prepare 170 = .ok (.goto (-50), 3) := by decide +kernel
theorem dX9_prepare_173 : decode cX9_prepare 173 = .ok (.iconst 1, 1) := by decide +kernel
theorem dX9_prepare_174 : decode cX9_prepare 174 = .ok (.istore_n 2, 1) := by decide +kernel
theorem dX9_prepare_175 : decode cX9_prepare 175 = .ok (.iload_n 2, 1) := by decide +kernel
theorem dX9_prepare_176 : decode cX9_prepare 176 = .ok (.ifCond .eq 108, 3) := by decide +kernel
theorem dX9_prepare_179 : decode cX9_prepare 179 = .ok (.iconst 0, 1) := by decide +kernel
theorem dX9_prepare_180 : decode cX9_prepare 180 = .ok (.istore_n 2, 1) := by decide +kernel
theorem dX9_prepare_181 : decode cX9_prepare 181 = .ok (.iconst 0, 1) := by decide +kernel
theorem dX9_prepare_182 : decode cX9_prepare 182 = .ok (.istore_n 3, 1) := by decide +kernel
theorem dX9_prepare_183 : decode cX9_prepare 183 = .ok (.iload_n 3, 1) := by decide +kernel
theorem dX9_prepare_184 : decode cX9_prepare 184 = .ok (.iconst 4, 1) := by decide +kernel
theorem dX9_prepare_185 : decode cX9_prepare 185 = .ok (.iload_n 1, 1) := by decide +kernel
theorem dX9_prepare_186 : decode cX9_prepare 186 = .ok (.imul, 1) := by decide +kernel
theorem dX9_prepare_187 : decode cX9_prepare 187 = .ok (.if_icmp .ge 94, 3) := by decide +kernel
theorem dX9_prepare_190 : decode cX9_prepare 190 = .ok (.iconst 0, 1) := by decide +kernel
theorem dX9_prepare_191 : decode cX9_prepare 191 = .ok (.istore 4, 2) := by decide +kernel
theorem dX9_prepare_193 : decode cX9_prepare 193 = .ok (.iload 4, 2) := by decide +kernel
theorem dX9_prepare_195 : decode cX9_prepare 195 = .ok (.aload_n 0, 1) := by decide +kernel
theorem dX9_prepare_196 : decode cX9_prepare 196 = .ok (.invokevirtual 203, 3) := by decide +kernel
theorem dX9_prepare_199 : decode cX9_prepare 199 = .ok (.if_icmp .ge 76, 3) := by decide +kernel
theorem dX9_prepare_202 : decode cX9_prepare 202 = .ok (.iload_n 3, 1) := by decide +kernel
theorem dX9_prepare_203 : decode cX9_prepare 203 = .ok (.iconst 4, 1) := by decide +kernel
theorem dX9_prepare_204 : decode cX9_prepare 204 = .ok (.idiv, 1) := by decide +kernel
theorem dX9_prepare_205 : decode cX9_prepare 205 = .ok (.aload_n 0, 1) := by decide +kernel
theorem dX9_prepare_206 : decode cX9_prepare 206 = .ok (.invokevirtual 203, 3) := by decide +kernel
theorem dX9_prepare_209 : decode cX9_prepare 209 = .ok (.imul, 1) := by decide +kernel
theorem dX9_prepare_210 : decode cX9_prepare 210 = .ok (.aload_n 0, 1) := by decide +kernel
theorem dX9_prepare_211 : decode cX9_prepare 211 = .ok (.getfield 48, 3) := by decide +kernel
theorem dX9_prepare_214 : decode cX9_prepare 214 = .ok (.iload_n 3, 1) := by decide +kernel
theorem dX9_prepare_215 : decode cX9_prepare 215 = .ok (.aload_n 0, 1) := by decide +kernel
theorem dX9_prepare_216 : decode cX9_prepare 216 = .ok (.invokevirtual 203, 3) := by decide +kernel
theorem dX9_prepare_219 : decode cX9_prepare 219 = .ok (.imul, 1) := by decide +kernel
theorem dX9_prepare_220 : decode cX9_prepare 220 = .ok (.iload 4, 2) := by decide +kernel
theorem dX9_prepare_222 : decode cX9_prepare 222 = .ok (.iadd, 1) := by decide +kernel
theorem dX9_prepare_223 : decode cX9_prepare 223 = .ok (.iaload, 1) := by decide +kernel
theorem dX9_prepare_224 : decode cX9_prepare 224 = .ok (.iadd, 1) := by decide +kernel
theorem dX9_prepare_225 : decode cX9_prepare 225 = .ok (.istore 5, 2) := by decide +kernel
theorem dX9_prepare_227 : decode cX9_prepare 227 = .ok (.aload_n 0, 1) := by decide +kernel
theorem dX9_prepare_228 : decode cX9_prepare 228 = .ok (.getfield 54, 3) := by decide +kernel
theorem dX9_prepare_231 : decode cX9_prepare 231 = .ok (.aload_n 0, 1) := by decide +kernel
theorem dX9_prepare_232 : decode cX9_prepare 232 = .ok (.getfield 45, 3) := by decide +kernel
theorem dX9_prepare_235 : decode cX9_prepare 235 = .ok (.iload_n 3, 1) := by decide +kernel
theorem dX9_prepare_236 : decode cX9_prepare 236 = .ok (.iaload, 1) := by decide +kernel
theorem dX9_prepare_237 : decode cX9_prepare 237 = .ok (.aload_n 0, 1) := by decide +kernel
theorem dX9_prepare_238 : decode cX9_prepare 238 = .ok (.invokevirtual 203, 3) := by decide +kernel
theorem dX9_prepare_241 : decode cX9_prepare 241 = .ok (.imul, 1) := by decide +kernel
theorem dX9_prepare_242 : decode cX9_prepare 242 = .ok (.iload 4, 2) := by decide +kernel
theorem dX9_prepare_244 : decode cX9_prepare 244 = .ok (.iadd, 1) := by decide +kernel
theorem dX9_prepare_245 : decode cX9_prepare 245 = .ok (.baload, 1) := by decide +kernel
theorem dX9_prepare_246 : decode cX9_prepare 246 = .ok (.ifCond .eq 23, 3) := by decide +kernel
theorem dX9_prepare_249 : decode cX9_prepare 249 = .ok (.aload_n 0, 1) := by decide +kernel
theorem dX9_prepare_250 : decode cX9_prepare 250 = .ok (.getfield 54, 3) := by decide +kernel
theorem dX9_prepare_253 : decode cX9_prepare 253 = .ok (.iload 5, 2) := by decide +kernel
theorem dX9_prepare_255 : decode cX9_prepare 255 = .ok (.baload, 1) := by decide +kernel
theorem dX9_prepare_256 : decode cX9_prepare 256 = .ok (.ifCond .ne 13, 3) := by decide +kernel
theorem dX9_prepare_259 : decode cX9_prepare 259 = .ok (.aload_n 0, 1) := by decide +kernel
theorem dX9_prepare_260 : decode cX9_prepare 260 = .ok (.getfield 54, 3) := by decide +kernel
theorem dX9_prepare_263 : decode cX9_prepare 263 = .ok (.iload 5, 2) := by decide +kernel
theorem dX9_prepare_265 : decode cX9_prepare 265 = .ok (.iconst 1, 1) := by decide +kernel
theorem dX9_prepare_266 : decode cX9_prepare 266 = .ok (.bastore, 1) := by decide +kernel
theorem dX9_prepare_267 : decode cX9_prepare 267 = .ok (.iconst 1, 1) := by decide +kernel
theorem dX9_prepare_268 : decode cX9_prepare 268 = .ok (.istore_n 2, 1) := by decide +kernel
theorem dX9_prepare_269 : decode cX9_prepare 269 = .ok (.iinc 4 1, 3) := by decide +kernel
theorem dX9_prepare_272 : decode cX9_prepare 272 = .ok (.goto (-79), 3) := by decide +kernel
theorem dX9_prepare_275 : decode cX9_prepare 275 = .ok (.iinc 3 1, 3) := by decide +kernel
theorem dX9_prepare_278 : decode cX9_prepare 278 = .ok (.goto (-95), 3) := by decide +kernel
theorem dX9_prepare_281 : decode cX9_prepare 281 = .ok (.goto (-106), 3) := by decide +kernel
theorem dX9_prepare_284 : decode cX9_prepare 284 = .ok (.return_, 1) := by decide +kernel
theorem dX9_state_0 : decode cX9_state 0 = .ok (.iconst 0, 1) := by decide +kernel
theorem dX9_state_1 : decode cX9_state 1 = .ok (.istore_n 2, 1) := by decide +kernel
theorem dX9_state_2 : decode cX9_state 2 = .ok (.iload_n 2, 1) := by decide +kernel
theorem dX9_state_3 : decode cX9_state 3 = .ok (.aload_n 0, 1) := by decide +kernel
theorem dX9_state_4 : decode cX9_state 4 = .ok (.getfield 67, 3) := by decide +kernel
theorem dX9_state_7 : decode cX9_state 7 = .ok (.iload_n 1, 1) := by decide +kernel
theorem dX9_state_8 : decode cX9_state 8 = .ok (.iaload, 1) := by decide +kernel
theorem dX9_state_9 : decode cX9_state 9 = .ok (.if_icmp .ge 85, 3) := by decide +kernel
theorem dX9_state_12 : decode cX9_state 12 = .ok (.aload_n 0, 1) := by decide +kernel
theorem dX9_state_13 : decode cX9_state 13 = .ok (.getfield 70, 3) := by decide +kernel
theorem dX9_state_16 : decode cX9_state 16 = .ok (.bipush 61, 2) := by decide +kernel
theorem dX9_state_18 : decode cX9_state 18 = .ok (.iload_n 1, 1) := by decide +kernel
theorem dX9_state_19 : decode cX9_state 19 = .ok (.imul, 1) := by decide +kernel
theorem dX9_state_20 : decode cX9_state 20 = .ok (.iload_n 2, 1) := by decide +kernel
theorem dX9_state_21 : decode cX9_state 21 = .ok (.iadd, 1) := by decide +kernel
theorem dX9_state_22 : decode cX9_state 22 = .ok (.iaload, 1) := by decide +kernel
theorem dX9_state_23 : decode cX9_state 23 = .ok (.istore_n 3, 1) := by decide +kernel
theorem dX9_state_24 : decode cX9_state 24 = .ok (.iconst 1, 1) := by decide +kernel
theorem dX9_state_25 : decode cX9_state 25 = .ok (.istore 4, 2) := by decide +kernel
theorem dX9_state_27 : decode cX9_state 27 = .ok (.iconst 0, 1) := by decide +kernel
theorem dX9_state_28 : decode cX9_state 28 = .ok (.istore 5, 2) := by decide +kernel
theorem dX9_state_30 : decode cX9_state 30 = .ok (.iload 5, 2) := by decide +kernel
theorem dX9_state_32 : decode cX9_state 32 = .ok (.aload_n 0, 1) := by decide +kernel
theorem dX9_state_33 : decode cX9_state 33 = .ok (.invokevirtual 203, 3) := by decide +kernel
theorem dX9_state_36 : decode cX9_state 36 = .ok (.if_icmp .ge 45, 3) := by decide +kernel
theorem dX9_state_39 : decode cX9_state 39 = .ok (.iload 4, 2) := by decide +kernel
theorem dX9_state_41 : decode cX9_state 41 = .ok (.ifCond .eq 40, 3) := by decide +kernel
theorem dX9_state_44 : decode cX9_state 44 = .ok (.aload_n 0, 1) := by decide +kernel
theorem dX9_state_45 : decode cX9_state 45 = .ok (.getfield 61, 3) := by decide +kernel
theorem dX9_state_48 : decode cX9_state 48 = .ok (.iload_n 3, 1) := by decide +kernel
theorem dX9_state_49 : decode cX9_state 49 = .ok (.aload_n 0, 1) := by decide +kernel
theorem dX9_state_50 : decode cX9_state 50 = .ok (.invokevirtual 203, 3) := by decide +kernel
theorem dX9_state_53 : decode cX9_state 53 = .ok (.imul, 1) := by decide +kernel
theorem dX9_state_54 : decode cX9_state 54 = .ok (.iload 5, 2) := by decide +kernel
theorem dX9_state_56 : decode cX9_state 56 = .ok (.iadd, 1) := by decide +kernel
theorem dX9_state_57 : decode cX9_state 57 = .ok (.baload, 1) := by decide +kernel
theorem dX9_state_58 : decode cX9_state 58 = .ok (.aload_n 0, 1) := by decide +kernel
theorem dX9_state_59 : decode cX9_state 59 = .ok (.getfield 73, 3) := by decide +kernel
theorem dX9_state_62 : decode cX9_state 62 = .ok (.iload 5, 2) := by decide +kernel
theorem dX9_state_64 : decode cX9_state 64 = .ok (.baload, 1) := by decide +kernel
theorem dX9_state_65 : decode cX9_state 65 = .ok (.if_icmp .ne 7, 3) := by decide +kernel
theorem dX9_state_68 : decode cX9_state 68 = .ok (.iconst 1, 1) := by decide +kernel
theorem dX9_state_69 : decode cX9_state 69 = .ok (.goto 4, 3) := by decide +kernel
theorem dX9_state_72 : decode cX9_state 72 = .ok (.iconst 0, 1) := by decide +kernel
theorem dX9_state_73 : decode cX9_state 73 = .ok (.istore 4, 2) := by decide +kernel
theorem dX9_state_75 : decode cX9_state 75 = .ok (.iinc 5 1, 3) := by decide +kernel
theorem dX9_state_78 : decode cX9_state 78 = .ok (.goto (-48), 3) := by decide +kernel
theorem dX9_state_81 : decode cX9_state 81 = .ok (.iload 4, 2) := by decide +kernel
theorem dX9_state_83 : decode cX9_state 83 = .ok (.ifCond .eq 5, 3) := by decide +kernel
theorem dX9_state_86 : decode cX9_state 86 = .ok (.iload_n 3, 1) := by decide +kernel
theorem dX9_state_87 : decode cX9_state 87 = .ok (.ireturn, 1) := by decide +kernel
theorem dX9_state_88 : decode cX9_state 88 = .ok (.iinc 2 1, 3) := by decide +kernel
theorem dX9_state_91 : decode cX9_state 91 = .ok (.goto (-89), 3) := by decide +kernel
theorem dX9_state_94 : decode cX9_state 94 = .ok (.aload_n 0, 1) := by decide +kernel
theorem dX9_state_95 : decode cX9_state 95 = .ok (.getfield 67, 3) := by decide +kernel
theorem dX9_state_98 : decode cX9_state 98 = .ok (.iload_n 1, 1) := by decide +kernel
theorem dX9_state_99 : decode cX9_state 99 = .ok (.iaload, 1) := by decide +kernel
theorem dX9_state_100 : decode cX9_state 100 = .ok (.bipush 60, 2) := by decide +kernel
theorem dX9_state_102 : decode cX9_state 102 = .ok (.if_icmp .ne 6, 3) := by decide +kernel
theorem dX9_state_105 : decode cX9_state 105 = .ok (.bipush (-9), 2) := by decide +kernel
theorem dX9_state_107 : decode cX9_state 107 = .ok (.ireturn, 1) := by decide +kernel
theorem dX9_state_108 : decode cX9_state 108 = .ok (.aload_n 0, 1) := by decide +kernel
theorem dX9_state_109 : decode cX9_state 109 = .ok (.getfield 218, 3) := by decide +kernel
theorem dX9_state_112 : decode cX9_state 112 = .ok (.istore_n 2, 1) := by decide +kernel
theorem dX9_state_113 : decode cX9_state 113 = .ok (.aload_n 0, 1) := by decide +kernel
theorem dX9_state_114 : decode cX9_state 114 = .ok (.dup, 1) := by decide +kernel
theorem dX9_state_115 : decode cX9_state 115 = .ok (.getfield 218, 3) := by decide +kernel
theorem dX9_state_118 : decode cX9_state 118 = .ok (.iconst 1, 1) := by decide +kernel
theorem dX9_state_119 : decode cX9_state 119 = .ok (.iadd, 1) := by decide +kernel
theorem dX9_state_120 : decode cX9_state 120 = .ok (.putfield 218, 3) := by decide +kernel
theorem dX9_state_123 : decode cX9_state 123 = .ok (.aload_n 0, 1) := by decide +kernel
theorem dX9_state_124 : decode cX9_state 124 = .ok (.getfield 70, 3) := by decide +kernel
theorem dX9_state_127 : decode cX9_state 127 = .ok (.bipush 61, 2) := by decide +kernel
theorem dX9_state_129 : decode cX9_state 129 = .ok (.iload_n 1, 1) := by decide +kernel
theorem dX9_state_130 : decode cX9_state 130 = .ok (.imul, 1) := by decide +kernel
theorem dX9_state_131 : decode cX9_state 131 = .ok (.aload_n 0, 1) := by decide +kernel
theorem dX9_state_132 : decode cX9_state 132 = .ok (.getfield 67, 3) := by decide +kernel
theorem dX9_state_135 : decode cX9_state 135 = .ok (.iload_n 1, 1) := by decide +kernel
theorem dX9_state_136 : decode cX9_state 136 = .ok (.iaload, 1) := by decide +kernel
theorem dX9_state_137 : decode cX9_state 137 = .ok (.iadd, 1) := by decide +kernel
theorem dX9_state_138 : decode cX9_state 138 = .ok (.iload_n 2, 1) := by decide +kernel
theorem dX9_state_139 : decode cX9_state 139 = .ok (.iastore, 1) := by decide +kernel
theorem dX9_state_140 : decode cX9_state 140 = .ok (.aload_n 0, 1) := by decide +kernel
theorem dX9_state_141 : decode cX9_state 141 = .ok (.getfield 67, 3) := by decide +kernel
theorem dX9_state_144 : decode cX9_state 144 = .ok (.iload_n 1, 1) := by decide +kernel
theorem dX9_state_145 : decode cX9_state 145 = .ok (.dup2, 1) := by decide +kernel
theorem dX9_state_146 : decode cX9_state 146 = .ok (.iaload, 1) := by decide +kernel
theorem dX9_state_147 : decode cX9_state 147 = .ok (.iconst 1, 1) := by decide +kernel
theorem dX9_state_148 : decode cX9_state 148 = .ok (.iadd, 1) := by decide +kernel
theorem dX9_state_149 : decode cX9_state 149 = .ok (.iastore, 1) := by decide +kernel
theorem dX9_state_150 : decode cX9_state 150 = .ok (.aload_n 0, 1) := by decide +kernel
theorem dX9_state_151 : decode cX9_state 151 = .ok (.getfield 57, 3) := by decide +kernel
theorem dX9_state_154 : decode cX9_state 154 = .ok (.iload_n 2, 1) := by decide +kernel
theorem dX9_state_155 : decode cX9_state 155 = .ok (.iload_n 1, 1) := by decide +kernel
theorem dX9_state_156 : decode cX9_state 156 = .ok (.iastore, 1) := by decide +kernel
theorem dX9_state_157 : decode cX9_state 157 = .ok (.iconst 0, 1) := by decide +kernel
theorem dX9_state_158 : decode cX9_state 158 = .ok (.istore_n 3, 1) := by decide +kernel
theorem dX9_state_159 : decode cX9_state 159 = .ok (.iload_n 3, 1) := by decide +kernel
theorem dX9_state_160 : decode cX9_state 160 = .ok (.aload_n 0, 1) := by decide +kernel
theorem dX9_state_161 : decode cX9_state 161 = .ok (.invokevirtual 203, 3) := by decide +kernel
theorem dX9_state_164 : decode cX9_state 164 = .ok (.if_icmp .ge 28, 3) := by decide +kernel
theorem dX9_state_167 : decode cX9_state 167 = .ok (.aload_n 0, 1) := by decide +kernel
theorem dX9_state_168 : decode cX9_state 168 = .ok (.getfield 61, 3) := by decide +kernel
theorem dX9_state_171 : decode cX9_state 171 = .ok (.iload_n 2, 1) := by decide +kernel
theorem dX9_state_172 : decode cX9_state 172 = .ok (.aload_n 0, 1) := by decide +kernel
theorem dX9_state_173 : decode cX9_state 173 = .ok (.invokevirtual 203, 3) := by decide +kernel
theorem dX9_state_176 : decode cX9_state 176 = .ok (.imul, 1) := by decide +kernel
theorem dX9_state_177 : decode cX9_state 177 = .ok (.iload_n 3, 1) := by decide +kernel
theorem dX9_state_178 : decode cX9_state 178 = .ok (.iadd, 1) := by decide +kernel
theorem dX9_state_179 : decode cX9_state 179 = .ok (.aload_n 0, 1) := by decide +kernel
theorem dX9_state_180 : decode cX9_state 180 = .ok (.getfield 73, 3) := by decide +kernel
theorem dX9_state_183 : decode cX9_state 183 = .ok (.iload_n 3, 1) := by decide +kernel
theorem dX9_state_184 : decode cX9_state 184 = .ok (.baload, 1) := by decide +kernel
theorem dX9_state_185 : decode cX9_state 185 = .ok (.bastore, 1) := by decide +kernel
theorem dX9_state_186 : decode cX9_state 186 = .ok (.iinc 3 1, 3) := by decide +kernel
theorem dX9_state_189 : decode cX9_state 189 = .ok (.goto (-30), 3) := by decide +kernel
theorem dX9_state_192 : decode cX9_state 192 = .ok (.iload_n 2, 1) := by decide +kernel
theorem dX9_state_193 : decode cX9_state 193 = .ok (.ireturn, 1) := by decide +kernel
theorem dX9_meet_0 : decode cX9_meet 0 = .ok (.iconst 0, 1) := by decide +kernel
theorem dX9_meet_1 : decode cX9_meet 1 = .ok (.istore_n 1, 1) := by decide +kernel
theorem dX9_meet_2 : decode cX9_meet 2 = .ok (.iload_n 1, 1) := by decide +kernel
theorem dX9_meet_3 : decode cX9_meet 3 = .ok (.sipush 256, 3) := by decide +kernel
theorem dX9_meet_6 : decode cX9_meet 6 = .ok (.if_icmp .ge 16, 3) := by decide +kernel
theorem dX9_meet_9 : decode cX9_meet 9 = .ok (.aload_n 0, 1) := by decide +kernel
theorem dX9_meet_10 : decode cX9_meet 10 = .ok (.getfield 67, 3) := by decide +kernel
theorem dX9_meet_13 : decode cX9_meet 13 = .ok (.iload_n 1, 1) := by decide +kernel
theorem dX9_meet_14 : decode cX9_meet 14 = .ok (.iconst 0, 1) := by decide +kernel
theorem dX9_meet_15 : decode cX9_meet 15 = .ok (.iastore, 1) := by decide +kernel
theorem dX9_meet_16 : decode cX9_meet 16 = .ok (.iinc 1 1, 3) := by decide +kernel
theorem dX9_meet_19 : decode cX9_meet 19 = .ok (.goto (-17), 3) := by decide +kernel
theorem dX9_meet_22 : decode cX9_meet 22 = .ok (.aload_n 0, 1) := by decide +kernel
theorem dX9_meet_23 : decode cX9_meet 23 = .ok (.iconst 1, 1) := by decide +kernel
theorem dX9_meet_24 : decode cX9_meet 24 = .ok (.putfield 218, 3) := by decide +kernel
theorem dX9_meet_27 : decode cX9_meet 27 = .ok (.iconst 0, 1) := by decide +kernel
theorem dX9_meet_28 : decode cX9_meet 28 = .ok (.istore_n 1, 1) := by decide +kernel
theorem dX9_meet_29 : decode cX9_meet 29 = .ok (.iload_n 1, 1) := by decide +kernel
theorem dX9_meet_30 : decode cX9_meet 30 = .ok (.aload_n 0, 1) := by decide +kernel
theorem dX9_meet_31 : decode cX9_meet 31 = .ok (.getfield 218, 3) := by decide +kernel
theorem dX9_meet_34 : decode cX9_meet 34 = .ok (.if_icmp .ge 181, 3) := by decide +kernel
theorem dX9_meet_37 : decode cX9_meet 37 = .ok (.iconst 0, 1) := by decide +kernel
theorem dX9_meet_38 : decode cX9_meet 38 = .ok (.istore_n 2, 1) := by decide +kernel
theorem dX9_meet_39 : decode cX9_meet 39 = .ok (.iload_n 2, 1) := by decide +kernel
theorem dX9_meet_40 : decode cX9_meet 40 = .ok (.iconst 4, 1) := by decide +kernel
theorem dX9_meet_41 : decode cX9_meet 41 = .ok (.if_icmp .ge 168, 3) := by decide +kernel
theorem dX9_meet_44 : decode cX9_meet 44 = .ok (.iload_n 1, 1) := by decide +kernel
theorem dX9_meet_45 : decode cX9_meet 45 = .ok (.ifCond .ne 10, 3) := by decide +kernel
theorem dX9_meet_48 : decode cX9_meet 48 = .ok (.aload_n 0, 1) := by decide +kernel
theorem dX9_meet_49 : decode cX9_meet 49 = .ok (.getfield 194, 3) := by decide +kernel
theorem dX9_meet_52 : decode cX9_meet 52 = .ok (.goto 9, 3) := by decide +kernel
theorem dX9_meet_55 : decode cX9_meet 55 = .ok (.aload_n 0, 1) := by decide +kernel
theorem dX9_meet_56 : decode cX9_meet 56 = .ok (.getfield 57, 3) := by decide +kernel
theorem dX9_meet_59 : decode cX9_meet 59 = .ok (.iload_n 1, 1) := by decide +kernel
theorem dX9_meet_60 : decode cX9_meet 60 = .ok (.iaload, 1) := by decide +kernel
theorem dX9_meet_61 : decode cX9_meet 61 = .ok (.istore_n 3, 1) := by decide +kernel
theorem dX9_meet_62 : decode cX9_meet 62 = .ok (.aload_n 0, 1) := by decide +kernel
theorem dX9_meet_63 : decode cX9_meet 63 = .ok (.getfield 45, 3) := by decide +kernel
theorem dX9_meet_66 : decode cX9_meet 66 = .ok (.iconst 4, 1) := by decide +kernel
theorem dX9_meet_67 : decode cX9_meet 67 = .ok (.iload_n 3, 1) := by decide +kernel
theorem dX9_meet_68 : decode cX9_meet 68 = .ok (.imul, 1) := by decide +kernel
theorem dX9_meet_69 : decode cX9_meet 69 = .ok (.iload_n 2, 1) := by decide +kernel
theorem dX9_meet_70 : decode cX9_meet 70 = .ok (.iadd, 1) := by decide +kernel
theorem dX9_meet_71 : decode cX9_meet 71 = .ok (.iaload, 1) := by decide +kernel
theorem dX9_meet_72 : decode cX9_meet 72 = .ok (.istore 4, 2) := by decide +kernel
theorem dX9_meet_74 : decode cX9_meet 74 = .ok (.iconst 0, 1) := by decide +kernel
theorem dX9_meet_75 : decode cX9_meet 75 = .ok (.istore 5, 2) := by decide +kernel
theorem dX9_meet_77 : decode cX9_meet 77 = .ok (.iload 5, 2) := by decide +kernel
theorem dX9_meet_79 : decode cX9_meet 79 = .ok (.aload_n 0, 1) := by decide +kernel
theorem dX9_meet_80 : decode cX9_meet 80 = .ok (.invokevirtual 203, 3) := by decide +kernel
theorem dX9_meet_83 : decode cX9_meet 83 = .ok (.if_icmp .ge 91, 3) := by decide +kernel
theorem dX9_meet_86 : decode cX9_meet 86 = .ok (.iload_n 1, 1) := by decide +kernel
theorem dX9_meet_87 : decode cX9_meet 87 = .ok (.ifCond .ne 19, 3) := by decide +kernel
theorem dX9_meet_90 : decode cX9_meet 90 = .ok (.aload_n 0, 1) := by decide +kernel
theorem dX9_meet_91 : decode cX9_meet 91 = .ok (.getfield 51, 3) := by decide +kernel
theorem dX9_meet_94 : decode cX9_meet 94 = .ok (.aload_n 0, 1) := by decide +kernel
theorem dX9_meet_95 : decode cX9_meet 95 = .ok (.iload_n 3, 1) := by decide +kernel
theorem dX9_meet_96 : decode cX9_meet 96 = .ok (.iload_n 2, 1) := by decide +kernel
theorem dX9_meet_97 : decode cX9_meet 97 = .ok (.iload 5, 2) := by decide +kernel
theorem dX9_meet_99 : decode cX9_meet 99 = .ok (.invokevirtual 214, 3) := by decide +kernel
theorem dX9_meet_102 : decode cX9_meet 102 = .ok (.baload, 1) := by decide +kernel
theorem dX9_meet_103 : decode cX9_meet 103 = .ok (.goto 28, 3) := by decide +kernel
theorem dX9_meet_106 : decode cX9_meet 106 = .ok (.aload_n 0, 1) := by decide +kernel
theorem dX9_meet_107 : decode cX9_meet 107 = .ok (.getfield 61, 3) := by decide +kernel
theorem dX9_meet_110 : decode cX9_meet 110 = .ok (.iload_n 1, 1) := by decide +kernel
theorem dX9_meet_111 : decode cX9_meet 111 = .ok (.aload_n 0, 1) := by decide +kernel
theorem dX9_meet_112 : decode cX9_meet 112 = .ok (.invokevirtual 203, 3) := by decide +kernel
theorem dX9_meet_115 : decode cX9_meet 115 = .ok (.imul, 1) := by decide +kernel
theorem dX9_meet_116 : decode cX9_meet 116 = .ok (.aload_n 0, 1) := by decide +kernel
theorem dX9_meet_117 : decode cX9_meet 117 = .ok (.getfield 48, 3) := by decide +kernel
theorem dX9_meet_120 : decode cX9_meet 120 = .ok (.aload_n 0, 1) := by decide +kernel
theorem dX9_meet_121 : decode cX9_meet 121 = .ok (.iload_n 3, 1) := by decide +kernel
theorem dX9_meet_122 : decode cX9_meet 122 = .ok (.iload_n 2, 1) := by decide +kernel
theorem dX9_meet_123 : decode cX9_meet 123 = .ok (.iload 5, 2) := by decide +kernel
theorem dX9_meet_125 : decode cX9_meet 125 = .ok (.invokevirtual 214, 3) := by decide +kernel
theorem dX9_meet_128 : decode cX9_meet 128 = .ok (.iaload, 1) := by decide +kernel
theorem dX9_meet_129 : decode cX9_meet 129 = .ok (.iadd, 1) := by decide +kernel
theorem dX9_meet_130 : decode cX9_meet 130 = .ok (.baload, 1) := by decide +kernel
theorem dX9_meet_131 : decode cX9_meet 131 = .ok (.istore 6, 2) := by decide +kernel
theorem dX9_meet_133 : decode cX9_meet 133 = .ok (.aload_n 0, 1) := by decide +kernel
theorem dX9_meet_134 : decode cX9_meet 134 = .ok (.getfield 73, 3) := by decide +kernel
theorem dX9_meet_137 : decode cX9_meet 137 = .ok (.iload 5, 2) := by decide +kernel
theorem dX9_meet_139 : decode cX9_meet 139 = .ok (.aload_n 0, 1) := by decide +kernel
theorem dX9_meet_140 : decode cX9_meet 140 = .ok (.getfield 54, 3) := by decide +kernel
theorem dX9_meet_143 : decode cX9_meet 143 = .ok (.iload 4, 2) := by decide +kernel
theorem dX9_meet_145 : decode cX9_meet 145 = .ok (.aload_n 0, 1) := by decide +kernel
theorem dX9_meet_146 : decode cX9_meet 146 = .ok (.invokevirtual 203, 3) := by decide +kernel
theorem dX9_meet_149 : decode cX9_meet 149 = .ok (.imul, 1) := by decide +kernel
theorem dX9_meet_150 : decode cX9_meet 150 = .ok (.iload 5, 2) := by decide +kernel
theorem dX9_meet_152 : decode cX9_meet 152 = .ok (.iadd, 1) := by decide +kernel
theorem dX9_meet_153 : decode cX9_meet 153 = .ok (.baload, 1) := by decide +kernel
theorem dX9_meet_154 : decode cX9_meet 154 = .ok (.ifCond .eq 12, 3) := by decide +kernel
theorem dX9_meet_157 : decode cX9_meet 157 = .ok (.iload 6, 2) := by decide +kernel
theorem dX9_meet_159 : decode cX9_meet 159 = .ok (.ifCond .eq 7, 3) := by decide +kernel
theorem dX9_meet_162 : decode cX9_meet 162 = .ok (.iconst 1, 1) := by decide +kernel
theorem dX9_meet_163 : decode cX9_meet 163 = .ok (.goto 4, 3) := by decide +kernel
theorem dX9_meet_166 : decode cX9_meet 166 = .ok (.iconst 0, 1) := by decide +kernel
theorem dX9_meet_167 : decode cX9_meet 167 = .ok (.bastore, 1) := by decide +kernel
theorem dX9_meet_168 : decode cX9_meet 168 = .ok (.iinc 5 1, 3) := by decide +kernel
theorem dX9_meet_171 : decode cX9_meet 171 = .ok (.goto (-94), 3) := by decide +kernel
theorem dX9_meet_174 : decode cX9_meet 174 = .ok (.aload_n 0, 1) := by decide +kernel
theorem dX9_meet_175 : decode cX9_meet 175 = .ok (.iload 4, 2) := by decide +kernel
theorem dX9_meet_177 : decode cX9_meet 177 = .ok (.invokevirtual 221, 3) := by decide +kernel
theorem dX9_meet_180 : decode cX9_meet 180 = .ok (.istore 5, 2) := by decide +kernel
theorem dX9_meet_182 : decode cX9_meet 182 = .ok (.iload 5, 2) := by decide +kernel
theorem dX9_meet_184 : decode cX9_meet 184 = .ok (.bipush (-9), 2) := by decide +kernel
theorem dX9_meet_186 : decode cX9_meet 186 = .ok (.if_icmp .ne 5, 3) := by decide +kernel
theorem dX9_meet_189 : decode cX9_meet 189 = .ok (.iconst 0, 1) := by decide +kernel
theorem dX9_meet_190 : decode cX9_meet 190 = .ok (.ireturn, 1) := by decide +kernel
theorem dX9_meet_191 : decode cX9_meet 191 = .ok (.aload_n 0, 1) := by decide +kernel
theorem dX9_meet_192 : decode cX9_meet 192 = .ok (.getfield 64, 3) := by decide +kernel
theorem dX9_meet_195 : decode cX9_meet 195 = .ok (.iconst 4, 1) := by decide +kernel
theorem dX9_meet_196 : decode cX9_meet 196 = .ok (.iload_n 1, 1) := by decide +kernel
theorem dX9_meet_197 : decode cX9_meet 197 = .ok (.imul, 1) := by decide +kernel
theorem dX9_meet_198 : decode cX9_meet 198 = .ok (.iload_n 2, 1) := by decide +kernel
theorem dX9_meet_199 : decode cX9_meet 199 = .ok (.iadd, 1) := by decide +kernel
theorem dX9_meet_200 : decode cX9_meet 200 = .ok (.iload 5, 2) := by decide +kernel
theorem dX9_meet_202 : decode cX9_meet 202 = .ok (.iastore, 1) := by decide +kernel
theorem dX9_meet_203 : decode cX9_meet 203 = .ok (.iinc 2 1, 3) := by decide +kernel
theorem dX9_meet_206 : decode cX9_meet 206 = .ok (.goto (-167), 3) := by decide +kernel
theorem dX9_meet_209 : decode cX9_meet 209 = .ok (.iinc 1 1, 3) := by decide +kernel
theorem dX9_meet_212 : decode cX9_meet 212 = .ok (.goto (-183), 3) := by decide +kernel
theorem dX9_meet_215 : decode cX9_meet 215 = .ok (.iconst 1, 1) := by decide +kernel
theorem dX9_meet_216 : decode cX9_meet 216 = .ok (.ireturn, 1) := by decide +kernel
theorem dX9_isKept_0 : decode cX9_isKept 0 = .ok (.iload_n 1, 1) := by decide +kernel
theorem dX9_isKept_1 : decode cX9_isKept 1 = .ok (.ifCond .eq 22, 3) := by decide +kernel
theorem dX9_isKept_4 : decode cX9_isKept 4 = .ok (.aload_n 0, 1) := by decide +kernel
theorem dX9_isKept_5 : decode cX9_isKept 5 = .ok (.getfield 61, 3) := by decide +kernel
theorem dX9_isKept_8 : decode cX9_isKept 8 = .ok (.iload_n 1, 1) := by decide +kernel
theorem dX9_isKept_9 : decode cX9_isKept 9 = .ok (.aload_n 0, 1) := by decide +kernel
theorem dX9_isKept_10 : decode cX9_isKept 10 = .ok (.invokevirtual 203, 3) := by decide +kernel
theorem dX9_isKept_13 : decode cX9_isKept 13 = .ok (.imul, 1) := by decide +kernel
theorem dX9_isKept_14 : decode cX9_isKept 14 = .ok (.aload_n 0, 1) := by decide +kernel
theorem dX9_isKept_15 : decode cX9_isKept 15 = .ok (.getfield 191, 3) := by decide +kernel
theorem dX9_isKept_18 : decode cX9_isKept 18 = .ok (.iadd, 1) := by decide +kernel
theorem dX9_isKept_19 : decode cX9_isKept 19 = .ok (.baload, 1) := by decide +kernel
theorem dX9_isKept_20 : decode cX9_isKept 20 = .ok (.ifCond .eq 7, 3) := by decide +kernel
theorem dX9_isKept_23 : decode cX9_isKept 23 = .ok (.iconst 1, 1) := by decide +kernel
theorem dX9_isKept_24 : decode cX9_isKept 24 = .ok (.goto 4, 3) := by decide +kernel
theorem dX9_isKept_27 : decode cX9_isKept 27 = .ok (.iconst 0, 1) := by decide +kernel
theorem dX9_isKept_28 : decode cX9_isKept 28 = .ok (.ireturn, 1) := by decide +kernel
theorem dX9_isLike_0 : decode cX9_isLike 0 = .ok (.aload_n 0, 1) := by decide +kernel
theorem dX9_isLike_1 : decode cX9_isLike 1 = .ok (.getfield 76, 3) := by decide +kernel
theorem dX9_isLike_4 : decode cX9_isLike 4 = .ok (.iload_n 1, 1) := by decide +kernel
theorem dX9_isLike_5 : decode cX9_isLike 5 = .ok (.iaload, 1) := by decide +kernel
theorem dX9_isLike_6 : decode cX9_isLike 6 = .ok (.aload_n 0, 1) := by decide +kernel
theorem dX9_isLike_7 : decode cX9_isLike 7 = .ok (.getfield 76, 3) := by decide +kernel
theorem dX9_isLike_10 : decode cX9_isLike 10 = .ok (.iload_n 2, 1) := by decide +kernel
theorem dX9_isLike_11 : decode cX9_isLike 11 = .ok (.iaload, 1) := by decide +kernel
theorem dX9_isLike_12 : decode cX9_isLike 12 = .ok (.if_icmp .ne 7, 3) := by decide +kernel
theorem dX9_isLike_15 : decode cX9_isLike 15 = .ok (.iconst 1, 1) := by decide +kernel
theorem dX9_isLike_16 : decode cX9_isLike 16 = .ok (.goto 4, 3) := by decide +kernel
theorem dX9_isLike_19 : decode cX9_isLike 19 = .ok (.iconst 0, 1) := by decide +kernel
theorem dX9_isLike_20 : decode cX9_isLike 20 = .ok (.istore_n 3, 1) := by decide +kernel
theorem dX9_isLike_21 : decode cX9_isLike 21 = .ok (.iconst 0, 1) := by decide +kernel
theorem dX9_isLike_22 : decode cX9_isLike 22 = .ok (.istore 4, 2) := by decide +kernel
theorem dX9_isLike_24 : decode cX9_isLike 24 = .ok (.iload 4, 2) := by decide +kernel
theorem dX9_isLike_26 : decode cX9_isLike 26 = .ok (.iconst 4, 1) := by decide +kernel
theorem dX9_isLike_27 : decode cX9_isLike 27 = .ok (.if_icmp .ge 54, 3) := by decide +kernel
theorem dX9_isLike_30 : decode cX9_isLike 30 = .ok (.iload_n 3, 1) := by decide +kernel
theorem dX9_isLike_31 : decode cX9_isLike 31 = .ok (.ifCond .eq 50, 3) := by decide +kernel
theorem dX9_isLike_34 : decode cX9_isLike 34 = .ok (.aload_n 0, 1) := by decide +kernel
theorem dX9_isLike_35 : decode cX9_isLike 35 = .ok (.getfield 76, 3) := by decide +kernel
theorem dX9_isLike_38 : decode cX9_isLike 38 = .ok (.aload_n 0, 1) := by decide +kernel
theorem dX9_isLike_39 : decode cX9_isLike 39 = .ok (.getfield 64, 3) := by decide +kernel
theorem dX9_isLike_42 : decode cX9_isLike 42 = .ok (.iconst 4, 1) := by decide +kernel
theorem dX9_isLike_43 : decode cX9_isLike 43 = .ok (.iload_n 1, 1) := by decide +kernel
theorem dX9_isLike_44 : decode cX9_isLike 44 = .ok (.imul, 1) := by decide +kernel
theorem dX9_isLike_45 : decode cX9_isLike 45 = .ok (.iload 4, 2) := by decide +kernel
theorem dX9_isLike_47 : decode cX9_isLike 47 = .ok (.iadd, 1) := by decide +kernel
theorem dX9_isLike_48 : decode cX9_isLike 48 = .ok (.iaload, 1) := by decide +kernel
theorem dX9_isLike_49 : decode cX9_isLike 49 = .ok (.iaload, 1) := by decide +kernel
theorem dX9_isLike_50 : decode cX9_isLike 50 = .ok (.aload_n 0, 1) := by decide +kernel
theorem dX9_isLike_51 : decode cX9_isLike 51 = .ok (.getfield 76, 3) := by decide +kernel
theorem dX9_isLike_54 : decode cX9_isLike 54 = .ok (.aload_n 0, 1) := by decide +kernel
theorem dX9_isLike_55 : decode cX9_isLike 55 = .ok (.getfield 64, 3) := by decide +kernel
theorem dX9_isLike_58 : decode cX9_isLike 58 = .ok (.iconst 4, 1) := by decide +kernel
theorem dX9_isLike_59 : decode cX9_isLike 59 = .ok (.iload_n 2, 1) := by decide +kernel
theorem dX9_isLike_60 : decode cX9_isLike 60 = .ok (.imul, 1) := by decide +kernel
theorem dX9_isLike_61 : decode cX9_isLike 61 = .ok (.iload 4, 2) := by decide +kernel
theorem dX9_isLike_63 : decode cX9_isLike 63 = .ok (.iadd, 1) := by decide +kernel
theorem dX9_isLike_64 : decode cX9_isLike 64 = .ok (.iaload, 1) := by decide +kernel
theorem dX9_isLike_65 : decode cX9_isLike 65 = .ok (.iaload, 1) := by decide +kernel
theorem dX9_isLike_66 : decode cX9_isLike 66 = .ok (.if_icmp .ne 7, 3) := by decide +kernel
theorem dX9_isLike_69 : decode cX9_isLike 69 = .ok (.iconst 1, 1) := by decide +kernel
theorem dX9_isLike_70 : decode cX9_isLike 70 = .ok (.goto 4, 3) := by decide +kernel
theorem dX9_isLike_73 : decode cX9_isLike 73 = .ok (.iconst 0, 1) := by decide +kernel
theorem dX9_isLike_74 : decode cX9_isLike 74 = .ok (.istore_n 3, 1) := by decide +kernel
theorem dX9_isLike_75 : decode cX9_isLike 75 = .ok (.iinc 4 1, 3) := by decide +kernel
theorem dX9_isLike_78 : decode cX9_isLike 78 = .ok (.goto (-54), 3) := by decide +kernel
theorem dX9_isLike_81 : decode cX9_isLike 81 = .ok (.iload_n 3, 1) := by decide +kernel
theorem dX9_isLike_82 : decode cX9_isLike 82 = .ok (.ireturn, 1) := by decide +kernel
theorem dX9_part_0 : decode cX9_part 0 = .ok (.iconst 0, 1) := by decide +kernel
theorem dX9_part_1 : decode cX9_part 1 = .ok (.istore_n 1, 1) := by decide +kernel
theorem dX9_part_2 : decode cX9_part 2 = .ok (.iconst 0, 1) := by decide +kernel
theorem dX9_part_3 : decode cX9_part 3 = .ok (.istore_n 2, 1) := by decide +kernel
theorem dX9_part_4 : decode cX9_part 4 = .ok (.iload_n 2, 1) := by decide +kernel
theorem dX9_part_5 : decode cX9_part 5 = .ok (.aload_n 0, 1) := by decide +kernel
theorem dX9_part_6 : decode cX9_part 6 = .ok (.getfield 218, 3) := by decide +kernel
theorem dX9_part_9 : decode cX9_part 9 = .ok (.if_icmp .ge 66, 3) := by decide +kernel
theorem dX9_part_12 : decode cX9_part 12 = .ok (.iconst 0, 1) := by decide +kernel
theorem dX9_part_13 : decode cX9_part 13 = .ok (.istore_n 3, 1) := by decide +kernel
theorem dX9_part_14 : decode cX9_part 14 = .ok (.iload_n 3, 1) := by decide +kernel
theorem dX9_part_15 : decode cX9_part 15 = .ok (.iload_n 1, 1) := by decide +kernel
theorem dX9_part_16 : decode cX9_part 16 = .ok (.if_icmp .ge 23, 3) := by decide +kernel
theorem dX9_part_19 : decode cX9_part 19 = .ok (.aload_n 0, 1) := by decide +kernel
theorem dX9_part_20 : decode cX9_part 20 = .ok (.aload_n 0, 1) := by decide +kernel
theorem dX9_part_21 : decode cX9_part 21 = .ok (.getfield 82, 3) := by decide +kernel
theorem dX9_part_24 : decode cX9_part 24 = .ok (.iload_n 3, 1) := by decide +kernel
theorem dX9_part_25 : decode cX9_part 25 = .ok (.iaload, 1) := by decide +kernel
theorem dX9_part_26 : decode cX9_part 26 = .ok (.iload_n 2, 1) := by decide +kernel
end
section
theorem dX9_part_27 : decode cX9_part 27 = .ok (.invokevirtual 224, 3) := by decide +kernel
theorem dX9_part_30 : decode cX9_part 30 = .ok (.ifCond .ne 9, 3) := by decide +kernel
theorem dX9_part_33 : decode cX9_part 33 = .ok (.iinc 3 1, 3) := by decide +kernel
theorem dX9_part_36 : decode cX9_part 36 = .ok (.goto (-22), 3) := by decide +kernel
theorem dX9_part_39 : decode cX9_part 39 = .ok (.iload_n 3, 1) := by decide +kernel
theorem dX9_part_40 : decode cX9_part 40 = .ok (.bipush 60, 2) := by decide +kernel
theorem dX9_part_42 : decode cX9_part 42 = .ok (.if_icmp .ne 5, 3) := by decide +kernel
theorem dX9_part_45 : decode cX9_part 45 = .ok (.iconst 0, 1) := by decide +kernel
theorem dX9_part_46 : decode cX9_part 46 = .ok (.ireturn, 1) := by decide +kernel
theorem dX9_part_47 : decode cX9_part 47 = .ok (.iload_n 3, 1) := by decide +kernel
theorem dX9_part_48 : decode cX9_part 48 = .ok (.iload_n 1, 1) := by decide +kernel
theorem dX9_part_49 : decode cX9_part 49 = .ok (.if_icmp .ne 13, 3) := by decide +kernel
theorem dX9_part_52 : decode cX9_part 52 = .ok (.aload_n 0, 1) := by decide +kernel
theorem dX9_part_53 : decode cX9_part 53 = .ok (.getfield 82, 3) := by decide +kernel
theorem dX9_part_56 : decode cX9_part 56 = .ok (.iload_n 1, 1) := by decide +kernel
theorem dX9_part_57 : decode cX9_part 57 = .ok (.iload_n 2, 1) := by decide +kernel
theorem dX9_part_58 : decode cX9_part 58 = .ok (.iastore, 1) := by decide +kernel
theorem dX9_part_59 : decode cX9_part 59 = .ok (.iinc 1 1, 3) := by decide +kernel
theorem dX9_part_62 : decode cX9_part 62 = .ok (.aload_n 0, 1) := by decide +kernel
theorem dX9_part_63 : decode cX9_part 63 = .ok (.getfield 79, 3) := by decide +kernel
theorem dX9_part_66 : decode cX9_part 66 = .ok (.iload_n 2, 1) := by decide +kernel
theorem dX9_part_67 : decode cX9_part 67 = .ok (.iload_n 3, 1) := by decide +kernel
theorem dX9_part_68 : decode cX9_part 68 = .ok (.iastore, 1) := by decide +kernel
theorem dX9_part_69 : decode cX9_part 69 = .ok (.iinc 2 1, 3) := by decide +kernel
theorem dX9_part_72 : decode cX9_part 72 = .ok (.goto (-68), 3) := by decide +kernel
theorem dX9_part_75 : decode cX9_part 75 = .ok (.iconst 0, 1) := by decide +kernel
theorem dX9_part_76 : decode cX9_part 76 = .ok (.istore_n 2, 1) := by decide +kernel
theorem dX9_part_77 : decode cX9_part 77 = .ok (.iload_n 2, 1) := by decide +kernel
theorem dX9_part_78 : decode cX9_part 78 = .ok (.aload_n 0, 1) := by decide +kernel
theorem dX9_part_79 : decode cX9_part 79 = .ok (.getfield 218, 3) := by decide +kernel
theorem dX9_part_82 : decode cX9_part 82 = .ok (.if_icmp .ge 21, 3) := by decide +kernel
theorem dX9_part_85 : decode cX9_part 85 = .ok (.aload_n 0, 1) := by decide +kernel
theorem dX9_part_86 : decode cX9_part 86 = .ok (.getfield 76, 3) := by decide +kernel
theorem dX9_part_89 : decode cX9_part 89 = .ok (.iload_n 2, 1) := by decide +kernel
theorem dX9_part_90 : decode cX9_part 90 = .ok (.aload_n 0, 1) := by decide +kernel
theorem dX9_part_91 : decode cX9_part 91 = .ok (.getfield 79, 3) := by decide +kernel
theorem dX9_part_94 : decode cX9_part 94 = .ok (.iload_n 2, 1) := by decide +kernel
theorem dX9_part_95 : decode cX9_part 95 = .ok (.iaload, 1) := by decide +kernel
theorem dX9_part_96 : decode cX9_part 96 = .ok (.iastore, 1) := by decide +kernel
theorem dX9_part_97 : decode cX9_part 97 = .ok (.iinc 2 1, 3) := by decide +kernel
theorem dX9_part_100 : decode cX9_part 100 = .ok (.goto (-23), 3) := by decide +kernel
theorem dX9_part_103 : decode cX9_part 103 = .ok (.aload_n 0, 1) := by decide +kernel
theorem dX9_part_104 : decode cX9_part 104 = .ok (.iload_n 1, 1) := by decide +kernel
theorem dX9_part_105 : decode cX9_part 105 = .ok (.putfield 228, 3) := by decide +kernel
theorem dX9_part_108 : decode cX9_part 108 = .ok (.iconst 1, 1) := by decide +kernel
theorem dX9_part_109 : decode cX9_part 109 = .ok (.ireturn, 1) := by decide +kernel
theorem dX9_least_0 : decode cX9_least 0 = .ok (.iconst 0, 1) := by decide +kernel
theorem dX9_least_1 : decode cX9_least 1 = .ok (.istore_n 1, 1) := by decide +kernel
theorem dX9_least_2 : decode cX9_least 2 = .ok (.iload_n 1, 1) := by decide +kernel
theorem dX9_least_3 : decode cX9_least 3 = .ok (.aload_n 0, 1) := by decide +kernel
theorem dX9_least_4 : decode cX9_least 4 = .ok (.getfield 218, 3) := by decide +kernel
theorem dX9_least_7 : decode cX9_least 7 = .ok (.if_icmp .ge 28, 3) := by decide +kernel
theorem dX9_least_10 : decode cX9_least 10 = .ok (.aload_n 0, 1) := by decide +kernel
theorem dX9_least_11 : decode cX9_least 11 = .ok (.getfield 76, 3) := by decide +kernel
theorem dX9_least_14 : decode cX9_least 14 = .ok (.iload_n 1, 1) := by decide +kernel
theorem dX9_least_15 : decode cX9_least 15 = .ok (.aload_n 0, 1) := by decide +kernel
theorem dX9_least_16 : decode cX9_least 16 = .ok (.iload_n 1, 1) := by decide +kernel
theorem dX9_least_17 : decode cX9_least 17 = .ok (.invokevirtual 231, 3) := by decide +kernel
theorem dX9_least_20 : decode cX9_least 20 = .ok (.ifCond .eq 7, 3) := by decide +kernel
theorem dX9_least_23 : decode cX9_least 23 = .ok (.iconst 1, 1) := by decide +kernel
theorem dX9_least_24 : decode cX9_least 24 = .ok (.goto 4, 3) := by decide +kernel
theorem dX9_least_27 : decode cX9_least 27 = .ok (.iconst 0, 1) := by decide +kernel
theorem dX9_least_28 : decode cX9_least 28 = .ok (.iastore, 1) := by decide +kernel
theorem dX9_least_29 : decode cX9_least 29 = .ok (.iinc 1 1, 3) := by decide +kernel
theorem dX9_least_32 : decode cX9_least 32 = .ok (.goto (-30), 3) := by decide +kernel
theorem dX9_least_35 : decode cX9_least 35 = .ok (.aload_n 0, 1) := by decide +kernel
theorem dX9_least_36 : decode cX9_least 36 = .ok (.iconst 0, 1) := by decide +kernel
theorem dX9_least_37 : decode cX9_least 37 = .ok (.putfield 228, 3) := by decide +kernel
theorem dX9_least_40 : decode cX9_least 40 = .ok (.iconst (-1), 1) := by decide +kernel
theorem dX9_least_41 : decode cX9_least 41 = .ok (.istore_n 1, 1) := by decide +kernel
theorem dX9_least_42 : decode cX9_least 42 = .ok (.aload_n 0, 1) := by decide +kernel
theorem dX9_least_43 : decode cX9_least 43 = .ok (.getfield 228, 3) := by decide +kernel
theorem dX9_least_46 : decode cX9_least 46 = .ok (.iload_n 1, 1) := by decide +kernel
theorem dX9_least_47 : decode cX9_least 47 = .ok (.if_icmp .eq 17, 3) := by decide +kernel
theorem dX9_least_50 : decode cX9_least 50 = .ok (.aload_n 0, 1) := by decide +kernel
theorem dX9_least_51 : decode cX9_least 51 = .ok (.getfield 228, 3) := by decide +kernel
theorem dX9_least_54 : decode cX9_least 54 = .ok (.istore_n 1, 1) := by decide +kernel
theorem dX9_least_55 : decode cX9_least 55 = .ok (.aload_n 0, 1) := by decide +kernel
theorem dX9_least_56 : decode cX9_least 56 = .ok (.invokevirtual 234, 3) := by decide +kernel
theorem dX9_least_59 : decode cX9_least 59 = .ok (.ifCond .ne (-17), 3) := by decide +kernel
theorem dX9_least_62 : decode cX9_least 62 = .ok (.iconst 0, 1) := by decide +kernel
theorem dX9_least_63 : decode cX9_least 63 = .ok (.ireturn, 1) := by decide +kernel
theorem dX9_least_64 : decode cX9_least 64 = .ok (.iconst 1, 1) := by decide +kernel
theorem dX9_least_65 : decode cX9_least 65 = .ok (.ireturn, 1) := by decide +kernel
theorem dX9_number_0 : decode cX9_number 0 = .ok (.iconst 0, 1) := by decide +kernel
theorem dX9_number_1 : decode cX9_number 1 = .ok (.istore_n 1, 1) := by decide +kernel
theorem dX9_number_2 : decode cX9_number 2 = .ok (.iload_n 1, 1) := by decide +kernel
theorem dX9_number_3 : decode cX9_number 3 = .ok (.aload_n 0, 1) := by decide +kernel
theorem dX9_number_4 : decode cX9_number 4 = .ok (.getfield 228, 3) := by decide +kernel
theorem dX9_number_7 : decode cX9_number 7 = .ok (.if_icmp .ge 17, 3) := by decide +kernel
theorem dX9_number_10 : decode cX9_number 10 = .ok (.aload_n 0, 1) := by decide +kernel
theorem dX9_number_11 : decode cX9_number 11 = .ok (.getfield 94, 3) := by decide +kernel
theorem dX9_number_14 : decode cX9_number 14 = .ok (.iload_n 1, 1) := by decide +kernel
theorem dX9_number_15 : decode cX9_number 15 = .ok (.bipush (-9), 2) := by decide +kernel
theorem dX9_number_17 : decode cX9_number 17 = .ok (.iastore, 1) := by decide +kernel
theorem dX9_number_18 : decode cX9_number 18 = .ok (.iinc 1 1, 3) := by decide +kernel
theorem dX9_number_21 : decode cX9_number 21 = .ok (.goto (-19), 3) := by decide +kernel
theorem dX9_number_24 : decode cX9_number 24 = .ok (.aload_n 0, 1) := by decide +kernel
theorem dX9_number_25 : decode cX9_number 25 = .ok (.iconst 1, 1) := by decide +kernel
theorem dX9_number_26 : decode cX9_number 26 = .ok (.putfield 237, 3) := by decide +kernel
theorem dX9_number_29 : decode cX9_number 29 = .ok (.aload_n 0, 1) := by decide +kernel
theorem dX9_number_30 : decode cX9_number 30 = .ok (.getfield 94, 3) := by decide +kernel
theorem dX9_number_33 : decode cX9_number 33 = .ok (.aload_n 0, 1) := by decide +kernel
theorem dX9_number_34 : decode cX9_number 34 = .ok (.getfield 76, 3) := by decide +kernel
theorem dX9_number_37 : decode cX9_number 37 = .ok (.iconst 0, 1) := by decide +kernel
theorem dX9_number_38 : decode cX9_number 38 = .ok (.iaload, 1) := by decide +kernel
theorem dX9_number_39 : decode cX9_number 39 = .ok (.iconst 0, 1) := by decide +kernel
theorem dX9_number_40 : decode cX9_number 40 = .ok (.iastore, 1) := by decide +kernel
theorem dX9_number_41 : decode cX9_number 41 = .ok (.aload_n 0, 1) := by decide +kernel
theorem dX9_number_42 : decode cX9_number 42 = .ok (.getfield 97, 3) := by decide +kernel
theorem dX9_number_45 : decode cX9_number 45 = .ok (.iconst 0, 1) := by decide +kernel
theorem dX9_number_46 : decode cX9_number 46 = .ok (.aload_n 0, 1) := by decide +kernel
theorem dX9_number_47 : decode cX9_number 47 = .ok (.getfield 76, 3) := by decide +kernel
theorem dX9_number_50 : decode cX9_number 50 = .ok (.iconst 0, 1) := by decide +kernel
theorem dX9_number_51 : decode cX9_number 51 = .ok (.iaload, 1) := by decide +kernel
theorem dX9_number_52 : decode cX9_number 52 = .ok (.iastore, 1) := by decide +kernel
theorem dX9_number_53 : decode cX9_number 53 = .ok (.iconst 0, 1) := by decide +kernel
theorem dX9_number_54 : decode cX9_number 54 = .ok (.istore_n 1, 1) := by decide +kernel
theorem dX9_number_55 : decode cX9_number 55 = .ok (.iload_n 1, 1) := by decide +kernel
theorem dX9_number_56 : decode cX9_number 56 = .ok (.aload_n 0, 1) := by decide +kernel
theorem dX9_number_57 : decode cX9_number 57 = .ok (.getfield 237, 3) := by decide +kernel
theorem dX9_number_60 : decode cX9_number 60 = .ok (.if_icmp .ge 123, 3) := by decide +kernel
theorem dX9_number_63 : decode cX9_number 63 = .ok (.aload_n 0, 1) := by decide +kernel
theorem dX9_number_64 : decode cX9_number 64 = .ok (.getfield 82, 3) := by decide +kernel
theorem dX9_number_67 : decode cX9_number 67 = .ok (.aload_n 0, 1) := by decide +kernel
theorem dX9_number_68 : decode cX9_number 68 = .ok (.getfield 97, 3) := by decide +kernel
theorem dX9_number_71 : decode cX9_number 71 = .ok (.iload_n 1, 1) := by decide +kernel
theorem dX9_number_72 : decode cX9_number 72 = .ok (.iaload, 1) := by decide +kernel
theorem dX9_number_73 : decode cX9_number 73 = .ok (.iaload, 1) := by decide +kernel
theorem dX9_number_74 : decode cX9_number 74 = .ok (.istore_n 2, 1) := by decide +kernel
theorem dX9_number_75 : decode cX9_number 75 = .ok (.aload_n 0, 1) := by decide +kernel
theorem dX9_number_76 : decode cX9_number 76 = .ok (.getfield 88, 3) := by decide +kernel
theorem dX9_number_79 : decode cX9_number 79 = .ok (.iload_n 1, 1) := by decide +kernel
theorem dX9_number_80 : decode cX9_number 80 = .ok (.aload_n 0, 1) := by decide +kernel
theorem dX9_number_81 : decode cX9_number 81 = .ok (.iload_n 2, 1) := by decide +kernel
theorem dX9_number_82 : decode cX9_number 82 = .ok (.invokevirtual 231, 3) := by decide +kernel
theorem dX9_number_85 : decode cX9_number 85 = .ok (.bastore, 1) := by decide +kernel
theorem dX9_number_86 : decode cX9_number 86 = .ok (.iconst 0, 1) := by decide +kernel
theorem dX9_number_87 : decode cX9_number 87 = .ok (.istore_n 3, 1) := by decide +kernel
theorem dX9_number_88 : decode cX9_number 88 = .ok (.iload_n 3, 1) := by decide +kernel
theorem dX9_number_89 : decode cX9_number 89 = .ok (.iconst 4, 1) := by decide +kernel
theorem dX9_number_90 : decode cX9_number 90 = .ok (.if_icmp .ge 87, 3) := by decide +kernel
theorem dX9_number_93 : decode cX9_number 93 = .ok (.aload_n 0, 1) := by decide +kernel
theorem dX9_number_94 : decode cX9_number 94 = .ok (.getfield 76, 3) := by decide +kernel
theorem dX9_number_97 : decode cX9_number 97 = .ok (.aload_n 0, 1) := by decide +kernel
theorem dX9_number_98 : decode cX9_number 98 = .ok (.getfield 64, 3) := by decide +kernel
theorem dX9_number_101 : decode cX9_number 101 = .ok (.iconst 4, 1) := by decide +kernel
theorem dX9_number_102 : decode cX9_number 102 = .ok (.iload_n 2, 1) := by decide +kernel
theorem dX9_number_103 : decode cX9_number 103 = .ok (.imul, 1) := by decide +kernel
theorem dX9_number_104 : decode cX9_number 104 = .ok (.iload_n 3, 1) := by decide +kernel
theorem dX9_number_105 : decode cX9_number 105 = .ok (.iadd, 1) := by decide +kernel
theorem dX9_number_106 : decode cX9_number 106 = .ok (.iaload, 1) := by decide +kernel
theorem dX9_number_107 : decode cX9_number 107 = .ok (.iaload, 1) := by decide +kernel
theorem dX9_number_108 : decode cX9_number 108 = .ok (.istore 4, 2) := by decide +kernel
theorem dX9_number_110 : decode cX9_number 110 = .ok (.aload_n 0, 1) := by decide +kernel
theorem dX9_number_111 : decode cX9_number 111 = .ok (.getfield 94, 3) := by decide +kernel
theorem dX9_number_114 : decode cX9_number 114 = .ok (.iload 4, 2) := by decide +kernel
theorem dX9_number_116 : decode cX9_number 116 = .ok (.iaload, 1) := by decide +kernel
theorem dX9_number_117 : decode cX9_number 117 = .ok (.bipush (-9), 2) := by decide +kernel
theorem dX9_number_119 : decode cX9_number 119 = .ok (.if_icmp .ne 35, 3) := by decide +kernel
theorem dX9_number_122 : decode cX9_number 122 = .ok (.aload_n 0, 1) := by decide +kernel
theorem dX9_number_123 : decode cX9_number 123 = .ok (.getfield 94, 3) := by decide +kernel
theorem dX9_number_126 : decode cX9_number 126 = .ok (.iload 4, 2) := by decide +kernel
theorem dX9_number_128 : decode cX9_number 128 = .ok (.aload_n 0, 1) := by decide +kernel
theorem dX9_number_129 : decode cX9_number 129 = .ok (.getfield 237, 3) := by decide +kernel
theorem dX9_number_132 : decode cX9_number 132 = .ok (.iastore, 1) := by decide +kernel
theorem dX9_number_133 : decode cX9_number 133 = .ok (.aload_n 0, 1) := by decide +kernel
theorem dX9_number_134 : decode cX9_number 134 = .ok (.getfield 97, 3) := by decide +kernel
theorem dX9_number_137 : decode cX9_number 137 = .ok (.aload_n 0, 1) := by decide +kernel
theorem dX9_number_138 : decode cX9_number 138 = .ok (.getfield 237, 3) := by decide +kernel
theorem dX9_number_141 : decode cX9_number 141 = .ok (.iload 4, 2) := by decide +kernel
theorem dX9_number_143 : decode cX9_number 143 = .ok (.iastore, 1) := by decide +kernel
theorem dX9_number_144 : decode cX9_number 144 = .ok (.aload_n 0, 1) := by decide +kernel
theorem dX9_number_145 : decode cX9_number 145 = .ok (.dup, 1) := by decide +kernel
theorem dX9_number_146 : decode cX9_number 146 = .ok (.getfield 237, 3) := by decide +kernel
theorem dX9_number_149 : decode cX9_number 149 = .ok (.iconst 1, 1) := by decide +kernel
theorem dX9_number_150 : decode cX9_number 150 = .ok (.iadd, 1) := by decide +kernel
theorem dX9_number_151 : decode cX9_number 151 = .ok (.putfield 237, 3) := by decide +kernel
theorem dX9_number_154 : decode cX9_number 154 = .ok (.aload_n 0, 1) := by decide +kernel
theorem dX9_number_155 : decode cX9_number 155 = .ok (.getfield 85, 3) := by decide +kernel
theorem dX9_number_158 : decode cX9_number 158 = .ok (.iconst 4, 1) := by decide +kernel
theorem dX9_number_159 : decode cX9_number 159 = .ok (.iload_n 1, 1) := by decide +kernel
theorem dX9_number_160 : decode cX9_number 160 = .ok (.imul, 1) := by decide +kernel
theorem dX9_number_161 : decode cX9_number 161 = .ok (.iload_n 3, 1) := by decide +kernel
theorem dX9_number_162 : decode cX9_number 162 = .ok (.iadd, 1) := by decide +kernel
theorem dX9_number_163 : decode cX9_number 163 = .ok (.aload_n 0, 1) := by decide +kernel
theorem dX9_number_164 : decode cX9_number 164 = .ok (.getfield 94, 3) := by decide +kernel
theorem dX9_number_167 : decode cX9_number 167 = .ok (.iload 4, 2) := by decide +kernel
theorem dX9_number_169 : decode cX9_number 169 = .ok (.iaload, 1) := by decide +kernel
theorem dX9_number_170 : decode cX9_number 170 = .ok (.iastore, 1) := by decide +kernel
theorem dX9_number_171 : decode cX9_number 171 = .ok (.iinc 3 1, 3) := by decide +kernel
theorem dX9_number_174 : decode cX9_number 174 = .ok (.goto (-86), 3) := by decide +kernel
theorem dX9_number_177 : decode cX9_number 177 = .ok (.iinc 1 1, 3) := by decide +kernel
theorem dX9_number_180 : decode cX9_number 180 = .ok (.goto (-125), 3) := by decide +kernel
theorem dX9_number_183 : decode cX9_number 183 = .ok (.iconst 0, 1) := by decide +kernel
theorem dX9_number_184 : decode cX9_number 184 = .ok (.istore_n 1, 1) := by decide +kernel
theorem dX9_number_185 : decode cX9_number 185 = .ok (.iload_n 1, 1) := by decide +kernel
theorem dX9_number_186 : decode cX9_number 186 = .ok (.aload_n 0, 1) := by decide +kernel
theorem dX9_number_187 : decode cX9_number 187 = .ok (.getfield 237, 3) := by decide +kernel
theorem dX9_number_190 : decode cX9_number 190 = .ok (.if_icmp .ge 109, 3) := by decide +kernel
theorem dX9_number_193 : decode cX9_number 193 = .ok (.aload_n 0, 1) := by decide +kernel
theorem dX9_number_194 : decode cX9_number 194 = .ok (.iload_n 1, 1) := by decide +kernel
theorem dX9_number_195 : decode cX9_number 195 = .ok (.invokevirtual 240, 3) := by decide +kernel
theorem dX9_number_198 : decode cX9_number 198 = .ok (.iconst 1, 1) := by decide +kernel
theorem dX9_number_199 : decode cX9_number 199 = .ok (.istore_n 2, 1) := by decide +kernel
theorem dX9_number_200 : decode cX9_number 200 = .ok (.iconst 0, 1) := by decide +kernel
theorem dX9_number_201 : decode cX9_number 201 = .ok (.istore_n 3, 1) := by decide +kernel
theorem dX9_number_202 : decode cX9_number 202 = .ok (.iload_n 3, 1) := by decide +kernel
theorem dX9_number_203 : decode cX9_number 203 = .ok (.aload_n 0, 1) := by decide +kernel
theorem dX9_number_204 : decode cX9_number 204 = .ok (.getfield 237, 3) := by decide +kernel
theorem dX9_number_207 : decode cX9_number 207 = .ok (.if_icmp .ge 45, 3) := by decide +kernel
theorem dX9_number_210 : decode cX9_number 210 = .ok (.iload_n 2, 1) := by decide +kernel
theorem dX9_number_211 : decode cX9_number 211 = .ok (.ifCond .eq 33, 3) := by decide +kernel
theorem dX9_number_214 : decode cX9_number 214 = .ok (.aload_n 0, 1) := by decide +kernel
theorem dX9_number_215 : decode cX9_number 215 = .ok (.getfield 100, 3) := by decide +kernel
theorem dX9_number_218 : decode cX9_number 218 = .ok (.iload_n 3, 1) := by decide +kernel
theorem dX9_number_219 : decode cX9_number 219 = .ok (.iaload, 1) := by decide +kernel
theorem dX9_number_220 : decode cX9_number 220 = .ok (.bipush (-9), 2) := by decide +kernel
theorem dX9_number_222 : decode cX9_number 222 = .ok (.if_icmp .eq 18, 3) := by decide +kernel
theorem dX9_number_225 : decode cX9_number 225 = .ok (.aload_n 0, 1) := by decide +kernel
theorem dX9_number_226 : decode cX9_number 226 = .ok (.getfield 88, 3) := by decide +kernel
theorem dX9_number_229 : decode cX9_number 229 = .ok (.iload_n 3, 1) := by decide +kernel
theorem dX9_number_230 : decode cX9_number 230 = .ok (.baload, 1) := by decide +kernel
theorem dX9_number_231 : decode cX9_number 231 = .ok (.aload_n 0, 1) := by decide +kernel
theorem dX9_number_232 : decode cX9_number 232 = .ok (.getfield 88, 3) := by decide +kernel
theorem dX9_number_235 : decode cX9_number 235 = .ok (.iload_n 1, 1) := by decide +kernel
theorem dX9_number_236 : decode cX9_number 236 = .ok (.baload, 1) := by decide +kernel
theorem dX9_number_237 : decode cX9_number 237 = .ok (.if_icmp .ne 7, 3) := by decide +kernel
theorem dX9_number_240 : decode cX9_number 240 = .ok (.iconst 1, 1) := by decide +kernel
theorem dX9_number_241 : decode cX9_number 241 = .ok (.goto 4, 3) := by decide +kernel
theorem dX9_number_244 : decode cX9_number 244 = .ok (.iconst 0, 1) := by decide +kernel
theorem dX9_number_245 : decode cX9_number 245 = .ok (.istore_n 2, 1) := by decide +kernel
theorem dX9_number_246 : decode cX9_number 246 = .ok (.iinc 3 1, 3) := by decide +kernel
theorem dX9_number_249 : decode cX9_number 249 = .ok (.goto (-47), 3) := by decide +kernel
theorem dX9_number_252 : decode cX9_number 252 = .ok (.aload_n 0, 1) := by decide +kernel
theorem dX9_number_253 : decode cX9_number 253 = .ok (.getfield 91, 3) := by decide +kernel
theorem dX9_number_256 : decode cX9_number 256 = .ok (.iload_n 1, 1) := by decide +kernel
theorem dX9_number_257 : decode cX9_number 257 = .ok (.iload_n 2, 1) := by decide +kernel
theorem dX9_number_258 : decode cX9_number 258 = .ok (.ifCond .eq 20, 3) := by decide +kernel
theorem dX9_number_261 : decode cX9_number 261 = .ok (.aload_n 0, 1) := by decide +kernel
theorem dX9_number_262 : decode cX9_number 262 = .ok (.getfield 88, 3) := by decide +kernel
theorem dX9_number_265 : decode cX9_number 265 = .ok (.iload_n 1, 1) := by decide +kernel
theorem dX9_number_266 : decode cX9_number 266 = .ok (.baload, 1) := by decide +kernel
theorem dX9_number_267 : decode cX9_number 267 = .ok (.ifCond .eq 7, 3) := by decide +kernel
theorem dX9_number_270 : decode cX9_number 270 = .ok (.iconst 3, 1) := by decide +kernel
theorem dX9_number_271 : decode cX9_number 271 = .ok (.goto 21, 3) := by decide +kernel
theorem dX9_number_274 : decode cX9_number 274 = .ok (.iconst 2, 1) := by decide +kernel
theorem dX9_number_275 : decode cX9_number 275 = .ok (.goto 17, 3) := by decide +kernel
theorem dX9_number_278 : decode cX9_number 278 = .ok (.aload_n 0, 1) := by decide +kernel
theorem dX9_number_279 : decode cX9_number 279 = .ok (.getfield 88, 3) := by decide +kernel
theorem dX9_number_282 : decode cX9_number 282 = .ok (.iload_n 1, 1) := by decide +kernel
theorem dX9_number_283 : decode cX9_number 283 = .ok (.baload, 1) := by decide +kernel
theorem dX9_number_284 : decode cX9_number 284 = .ok (.ifCond .eq 7, 3) := by decide +kernel
theorem dX9_number_287 : decode cX9_number 287 = .ok (.iconst 1, 1) := by decide +kernel
theorem dX9_number_288 : decode cX9_number 288 = .ok (.goto 4, 3) := by decide +kernel
theorem dX9_number_291 : decode cX9_number 291 = .ok (.iconst 0, 1) := by decide +kernel
theorem dX9_number_292 : decode cX9_number 292 = .ok (.iastore, 1) := by decide +kernel
theorem dX9_number_293 : decode cX9_number 293 = .ok (.iinc 1 1, 3) := by decide +kernel
theorem dX9_number_296 : decode cX9_number 296 = .ok (.goto (-111), 3) := by decide +kernel
theorem dX9_number_299 : decode cX9_number 299 = .ok (.return_, 1) := by decide +kernel
theorem dX9_spread_0 : decode cX9_spread 0 = .ok (.iconst 0, 1) := by decide +kernel
theorem dX9_spread_1 : decode cX9_spread 1 = .ok (.istore_n 2, 1) := by decide +kernel
theorem dX9_spread_2 : decode cX9_spread 2 = .ok (.iload_n 2, 1) := by decide +kernel
theorem dX9_spread_3 : decode cX9_spread 3 = .ok (.aload_n 0, 1) := by decide +kernel
theorem dX9_spread_4 : decode cX9_spread 4 = .ok (.getfield 237, 3) := by decide +kernel
theorem dX9_spread_7 : decode cX9_spread 7 = .ok (.if_icmp .ge 17, 3) := by decide +kernel
theorem dX9_spread_10 : decode cX9_spread 10 = .ok (.aload_n 0, 1) := by decide +kernel
theorem dX9_spread_11 : decode cX9_spread 11 = .ok (.getfield 100, 3) := by decide +kernel
theorem dX9_spread_14 : decode cX9_spread 14 = .ok (.iload_n 2, 1) := by decide +kernel
theorem dX9_spread_15 : decode cX9_spread 15 = .ok (.bipush (-9), 2) := by decide +kernel
theorem dX9_spread_17 : decode cX9_spread 17 = .ok (.iastore, 1) := by decide +kernel
theorem dX9_spread_18 : decode cX9_spread 18 = .ok (.iinc 2 1, 3) := by decide +kernel
theorem dX9_spread_21 : decode cX9_spread 21 = .ok (.goto (-19), 3) := by decide +kernel
theorem dX9_spread_24 : decode cX9_spread 24 = .ok (.aload_n 0, 1) := by decide +kernel
theorem dX9_spread_25 : decode cX9_spread 25 = .ok (.getfield 100, 3) := by decide +kernel
theorem dX9_spread_28 : decode cX9_spread 28 = .ok (.iload_n 1, 1) := by decide +kernel
theorem dX9_spread_29 : decode cX9_spread 29 = .ok (.iconst 0, 1) := by decide +kernel
theorem dX9_spread_30 : decode cX9_spread 30 = .ok (.iastore, 1) := by decide +kernel
theorem dX9_spread_31 : decode cX9_spread 31 = .ok (.aload_n 0, 1) := by decide +kernel
theorem dX9_spread_32 : decode cX9_spread 32 = .ok (.getfield 103, 3) := by decide +kernel
theorem dX9_spread_35 : decode cX9_spread 35 = .ok (.iconst 0, 1) := by decide +kernel
theorem dX9_spread_36 : decode cX9_spread 36 = .ok (.iload_n 1, 1) := by decide +kernel
theorem dX9_spread_37 : decode cX9_spread 37 = .ok (.iastore, 1) := by decide +kernel
theorem dX9_spread_38 : decode cX9_spread 38 = .ok (.iconst 1, 1) := by decide +kernel
theorem dX9_spread_39 : decode cX9_spread 39 = .ok (.istore_n 2, 1) := by decide +kernel
theorem dX9_spread_40 : decode cX9_spread 40 = .ok (.iconst 0, 1) := by decide +kernel
theorem dX9_spread_41 : decode cX9_spread 41 = .ok (.istore_n 3, 1) := by decide +kernel
theorem dX9_spread_42 : decode cX9_spread 42 = .ok (.iload_n 3, 1) := by decide +kernel
theorem dX9_spread_43 : decode cX9_spread 43 = .ok (.iload_n 2, 1) := by decide +kernel
theorem dX9_spread_44 : decode cX9_spread 44 = .ok (.if_icmp .ge 85, 3) := by decide +kernel
theorem dX9_spread_47 : decode cX9_spread 47 = .ok (.iconst 0, 1) := by decide +kernel
theorem dX9_spread_48 : decode cX9_spread 48 = .ok (.istore 4, 2) := by decide +kernel
theorem dX9_spread_50 : decode cX9_spread 50 = .ok (.iload 4, 2) := by decide +kernel
theorem dX9_spread_52 : decode cX9_spread 52 = .ok (.iconst 4, 1) := by decide +kernel
theorem dX9_spread_53 : decode cX9_spread 53 = .ok (.if_icmp .ge 70, 3) := by decide +kernel
theorem dX9_spread_56 : decode cX9_spread 56 = .ok (.aload_n 0, 1) := by decide +kernel
theorem dX9_spread_57 : decode cX9_spread 57 = .ok (.getfield 85, 3) := by decide +kernel
theorem dX9_spread_60 : decode cX9_spread 60 = .ok (.iconst 4, 1) := by decide +kernel
theorem dX9_spread_61 : decode cX9_spread 61 = .ok (.aload_n 0, 1) := by decide +kernel
theorem dX9_spread_62 : decode cX9_spread 62 = .ok (.getfield 103, 3) := by decide +kernel
theorem dX9_spread_65 : decode cX9_spread 65 = .ok (.iload_n 3, 1) := by decide +kernel
theorem dX9_spread_66 : decode cX9_spread 66 = .ok (.iaload, 1) := by decide +kernel
theorem dX9_spread_67 : decode cX9_spread 67 = .ok (.imul, 1) := by decide +kernel
theorem dX9_spread_68 : decode cX9_spread 68 = .ok (.iload 4, 2) := by decide +kernel
theorem dX9_spread_70 : decode cX9_spread 70 = .ok (.iadd, 1) := by decide +kernel
theorem dX9_spread_71 : decode cX9_spread 71 = .ok (.iaload, 1) := by decide +kernel
theorem dX9_spread_72 : decode cX9_spread 72 = .ok (.istore 5, 2) := by decide +kernel
theorem dX9_spread_74 : decode cX9_spread 74 = .ok (.aload_n 0, 1) := by decide +kernel
theorem dX9_spread_75 : decode cX9_spread 75 = .ok (.getfield 100, 3) := by decide +kernel
theorem dX9_spread_78 : decode cX9_spread 78 = .ok (.iload 5, 2) := by decide +kernel
theorem dX9_spread_80 : decode cX9_spread 80 = .ok (.iaload, 1) := by decide +kernel
theorem dX9_spread_81 : decode cX9_spread 81 = .ok (.bipush (-9), 2) := by decide +kernel
theorem dX9_spread_83 : decode cX9_spread 83 = .ok (.if_icmp .ne 34, 3) := by decide +kernel
theorem dX9_spread_86 : decode cX9_spread 86 = .ok (.aload_n 0, 1) := by decide +kernel
theorem dX9_spread_87 : decode cX9_spread 87 = .ok (.getfield 100, 3) := by decide +kernel
theorem dX9_spread_90 : decode cX9_spread 90 = .ok (.iload 5, 2) := by decide +kernel
theorem dX9_spread_92 : decode cX9_spread 92 = .ok (.aload_n 0, 1) := by decide +kernel
theorem dX9_spread_93 : decode cX9_spread 93 = .ok (.getfield 100, 3) := by decide +kernel
theorem dX9_spread_96 : decode cX9_spread 96 = .ok (.aload_n 0, 1) := by decide +kernel
theorem dX9_spread_97 : decode cX9_spread 97 = .ok (.getfield 103, 3) := by decide +kernel
theorem dX9_spread_100 : decode cX9_spread 100 = .ok (.iload_n 3, 1) := by decide +kernel
theorem dX9_spread_101 : decode cX9_spread 101 = .ok (.iaload, 1) := by decide +kernel
theorem dX9_spread_102 : decode cX9_spread 102 = .ok (.iaload, 1) := by decide +kernel
theorem dX9_spread_103 : decode cX9_spread 103 = .ok (.iconst 1, 1) := by decide +kernel
theorem dX9_spread_104 : decode cX9_spread 104 = .ok (.iadd, 1) := by decide +kernel
theorem dX9_spread_105 : decode cX9_spread 105 = .ok (.iastore, 1) := by decide +kernel
theorem dX9_spread_106 : decode cX9_spread 106 = .ok (.aload_n 0, 1) := by decide +kernel
theorem dX9_spread_107 : decode cX9_spread 107 = .ok (.getfield 103, 3) := by decide +kernel
theorem dX9_spread_110 : decode cX9_spread 110 = .ok (.iload_n 2, 1) := by decide +kernel
theorem dX9_spread_111 : decode cX9_spread 111 = .ok (.iload 5, 2) := by decide +kernel
theorem dX9_spread_113 : decode cX9_spread 113 = .ok (.iastore, 1) := by decide +kernel
theorem dX9_spread_114 : decode cX9_spread 114 = .ok (.iinc 2 1, 3) := by decide +kernel
theorem dX9_spread_117 : decode cX9_spread 117 = .ok (.iinc 4 1, 3) := by decide +kernel
theorem dX9_spread_120 : decode cX9_spread 120 = .ok (.goto (-70), 3) := by decide +kernel
theorem dX9_spread_123 : decode cX9_spread 123 = .ok (.iinc 3 1, 3) := by decide +kernel
theorem dX9_spread_126 : decode cX9_spread 126 = .ok (.goto (-84), 3) := by decide +kernel
theorem dX9_spread_129 : decode cX9_spread 129 = .ok (.return_, 1) := by decide +kernel
theorem dX9_read_0 : decode cX9_read 0 = .ok (.aload_n 0, 1) := by decide +kernel
theorem dX9_read_1 : decode cX9_read 1 = .ok (.iconst 0, 1) := by decide +kernel
theorem dX9_read_2 : decode cX9_read 2 = .ok (.putfield 140, 3) := by decide +kernel
theorem dX9_read_5 : decode cX9_read 5 = .ok (.aload_n 0, 1) := by decide +kernel
theorem dX9_read_6 : decode cX9_read 6 = .ok (.invokevirtual 243, 3) := by decide +kernel
theorem dX9_read_9 : decode cX9_read 9 = .ok (.ifCond .ne 11, 3) := by decide +kernel
theorem dX9_read_12 : decode cX9_read 12 = .ok (.bipush (-100), 2) := by decide +kernel
theorem dX9_read_14 : decode cX9_read 14 = .ok (.aload_n 0, 1) := by decide +kernel
theorem dX9_read_15 : decode cX9_read 15 = .ok (.getfield 160, 3) := by decide +kernel
theorem dX9_read_18 : decode cX9_read 18 = .ok (.isub, 1) := by decide +kernel
theorem dX9_read_19 : decode cX9_read 19 = .ok (.ireturn, 1) := by decide +kernel
theorem dX9_read_20 : decode cX9_read 20 = .ok (.aload_n 0, 1) := by decide +kernel
theorem dX9_read_21 : decode cX9_read 21 = .ok (.invokevirtual 246, 3) := by decide +kernel
theorem dX9_read_24 : decode cX9_read 24 = .ok (.aload_n 0, 1) := by decide +kernel
theorem dX9_read_25 : decode cX9_read 25 = .ok (.invokevirtual 249, 3) := by decide +kernel
theorem dX9_read_28 : decode cX9_read 28 = .ok (.ifCond .eq 10, 3) := by decide +kernel
theorem dX9_read_31 : decode cX9_read 31 = .ok (.aload_n 0, 1) := by decide +kernel
theorem dX9_read_32 : decode cX9_read 32 = .ok (.invokevirtual 252, 3) := by decide +kernel
theorem dX9_read_35 : decode cX9_read 35 = .ok (.ifCond .ne 6, 3) := by decide +kernel
theorem dX9_read_38 : decode cX9_read 38 = .ok (.bipush (-4), 2) := by decide +kernel
theorem dX9_read_40 : decode cX9_read 40 = .ok (.ireturn, 1) := by decide +kernel
theorem dX9_read_41 : decode cX9_read 41 = .ok (.aload_n 0, 1) := by decide +kernel
theorem dX9_read_42 : decode cX9_read 42 = .ok (.invokevirtual 255, 3) := by decide +kernel
theorem dX9_read_45 : decode cX9_read 45 = .ok (.aload_n 0, 1) := by decide +kernel
theorem dX9_read_46 : decode cX9_read 46 = .ok (.iconst 0, 1) := by decide +kernel
theorem dX9_read_47 : decode cX9_read 47 = .ok (.putfield 136, 3) := by decide +kernel
theorem dX9_read_50 : decode cX9_read 50 = .ok (.aload_n 0, 1) := by decide +kernel
theorem dX9_read_51 : decode cX9_read 51 = .ok (.iconst 1, 1) := by decide +kernel
theorem dX9_read_52 : decode cX9_read 52 = .ok (.putfield 257, 3) := by decide +kernel
theorem dX9_read_55 : decode cX9_read 55 = .ok (.iconst 0, 1) := by decide +kernel
theorem dX9_read_56 : decode cX9_read 56 = .ok (.istore_n 1, 1) := by decide +kernel
theorem dX9_read_57 : decode cX9_read 57 = .ok (.iload_n 1, 1) := by decide +kernel
theorem dX9_read_58 : decode cX9_read 58 = .ok (.bipush 16, 2) := by decide +kernel
theorem dX9_read_60 : decode cX9_read 60 = .ok (.if_icmp .ge 14, 3) := by decide +kernel
theorem dX9_read_63 : decode cX9_read 63 = .ok (.aload_n 0, 1) := by decide +kernel
theorem dX9_read_64 : decode cX9_read 64 = .ok (.iload_n 1, 1) := by decide +kernel
theorem dX9_read_65 : decode cX9_read 65 = .ok (.invokevirtual 261, 3) := by decide +kernel
theorem dX9_read_68 : decode cX9_read 68 = .ok (.iinc 1 1, 3) := by decide +kernel
theorem dX9_read_71 : decode cX9_read 71 = .ok (.goto (-14), 3) := by decide +kernel
theorem dX9_read_74 : decode cX9_read 74 = .ok (.aload_n 0, 1) := by decide +kernel
theorem dX9_read_75 : decode cX9_read 75 = .ok (.getfield 237, 3) := by decide +kernel
theorem dX9_read_78 : decode cX9_read 78 = .ok (.ireturn, 1) := by decide +kernel
theorem dX9_isState_0 : decode cX9_isState 0 = .ok (.iload_n 1, 1) := by decide +kernel
theorem dX9_isState_1 : decode cX9_isState 1 = .ok (.i2l, 1) := by decide +kernel
theorem dX9_isState_2 : decode cX9_isState 2 = .ok (.lconst 0, 1) := by decide +kernel
theorem dX9_isState_3 : decode cX9_isState 3 = .ok (.aload_n 0, 1) := by decide +kernel
theorem dX9_isState_4 : decode cX9_isState 4 = .ok (.getfield 237, 3) := by decide +kernel
theorem dX9_isState_7 : decode cX9_isState 7 = .ok (.iconst 1, 1) := by decide +kernel
theorem dX9_isState_8 : decode cX9_isState 8 = .ok (.isub, 1) := by decide +kernel
theorem dX9_isState_9 : decode cX9_isState 9 = .ok (.i2l, 1) := by decide +kernel
theorem dX9_isState_10 : decode cX9_isState 10 = .ok (.invokestatic 264, 3) := by decide +kernel
theorem dX9_isState_13 : decode cX9_isState 13 = .ok (.ireturn, 1) := by decide +kernel
theorem dX9_leads_0 : decode cX9_leads 0 = .ok (.aload_n 0, 1) := by decide +kernel
theorem dX9_leads_1 : decode cX9_leads 1 = .ok (.getfield 257, 3) := by decide +kernel
theorem dX9_leads_4 : decode cX9_leads 4 = .ok (.ifCond .ne 6, 3) := by decide +kernel
theorem dX9_leads_7 : decode cX9_leads 7 = .ok (.bipush (-3), 2) := by decide +kernel
theorem dX9_leads_9 : decode cX9_leads 9 = .ok (.ireturn, 1) := by decide +kernel
theorem dX9_leads_10 : decode cX9_leads 10 = .ok (.aload_n 0, 1) := by decide +kernel
theorem dX9_leads_11 : decode cX9_leads 11 = .ok (.iload_n 1, 1) := by decide +kernel
theorem dX9_leads_12 : decode cX9_leads 12 = .ok (.invokevirtual 268, 3) := by decide +kernel
theorem dX9_leads_15 : decode cX9_leads 15 = .ok (.ifCond .eq 28, 3) := by decide +kernel
theorem dX9_leads_18 : decode cX9_leads 18 = .ok (.iload_n 2, 1) := by decide +kernel
theorem dX9_leads_19 : decode cX9_leads 19 = .ok (.i2l, 1) := by decide +kernel
theorem dX9_leads_20 : decode cX9_leads 20 = .ok (.lconst 0, 1) := by decide +kernel
theorem dX9_leads_21 : decode cX9_leads 21 = .ok (.ldc2_w 271, 3) := by decide +kernel
theorem dX9_leads_24 : decode cX9_leads 24 = .ok (.invokestatic 264, 3) := by decide +kernel
theorem dX9_leads_27 : decode cX9_leads 27 = .ok (.ifCond .eq 16, 3) := by decide +kernel
theorem dX9_leads_30 : decode cX9_leads 30 = .ok (.aload_n 0, 1) := by decide +kernel
theorem dX9_leads_31 : decode cX9_leads 31 = .ok (.getfield 85, 3) := by decide +kernel
theorem dX9_leads_34 : decode cX9_leads 34 = .ok (.iconst 4, 1) := by decide +kernel
theorem dX9_leads_35 : decode cX9_leads 35 = .ok (.iload_n 1, 1) := by decide +kernel
theorem dX9_leads_36 : decode cX9_leads 36 = .ok (.imul, 1) := by decide +kernel
theorem dX9_leads_37 : decode cX9_leads 37 = .ok (.iload_n 2, 1) := by decide +kernel
theorem dX9_leads_38 : decode cX9_leads 38 = .ok (.iadd, 1) := by decide +kernel
theorem dX9_leads_39 : decode cX9_leads 39 = .ok (.iaload, 1) := by decide +kernel
theorem dX9_leads_40 : decode cX9_leads 40 = .ok (.goto 4, 3) := by decide +kernel
theorem dX9_leads_43 : decode cX9_leads 43 = .ok (.iconst (-1), 1) := by decide +kernel
theorem dX9_leads_44 : decode cX9_leads 44 = .ok (.ireturn, 1) := by decide +kernel
theorem dX9_verdict_0 : decode cX9_verdict 0 = .ok (.aload_n 0, 1) := by decide +kernel
theorem dX9_verdict_1 : decode cX9_verdict 1 = .ok (.getfield 257, 3) := by decide +kernel
theorem dX9_verdict_4 : decode cX9_verdict 4 = .ok (.ifCond .ne 6, 3) := by decide +kernel
theorem dX9_verdict_7 : decode cX9_verdict 7 = .ok (.bipush (-3), 2) := by decide +kernel
theorem dX9_verdict_9 : decode cX9_verdict 9 = .ok (.ireturn, 1) := by decide +kernel
theorem dX9_verdict_10 : decode cX9_verdict 10 = .ok (.aload_n 0, 1) := by decide +kernel
theorem dX9_verdict_11 : decode cX9_verdict 11 = .ok (.iload_n 1, 1) := by decide +kernel
theorem dX9_verdict_12 : decode cX9_verdict 12 = .ok (.invokevirtual 268, 3) := by decide +kernel
theorem dX9_verdict_15 : decode cX9_verdict 15 = .ok (.ifCond .eq 12, 3) := by decide +kernel
theorem dX9_verdict_18 : decode cX9_verdict 18 = .ok (.aload_n 0, 1) := by decide +kernel
theorem dX9_verdict_19 : decode cX9_verdict 19 = .ok (.getfield 91, 3) := by decide +kernel
theorem dX9_verdict_22 : decode cX9_verdict 22 = .ok (.iload_n 1, 1) := by decide +kernel
theorem dX9_verdict_23 : decode cX9_verdict 23 = .ok (.iaload, 1) := by decide +kernel
theorem dX9_verdict_24 : decode cX9_verdict 24 = .ok (.goto 4, 3) := by decide +kernel
theorem dX9_verdict_27 : decode cX9_verdict 27 = .ok (.iconst (-1), 1) := by decide +kernel
theorem dX9_verdict_28 : decode cX9_verdict 28 = .ok (.ireturn, 1) := by decide +kernel
theorem dX9_farTo_0 : decode cX9_farTo 0 = .ok (.aload_n 0, 1) := by decide +kernel
theorem dX9_farTo_1 : decode cX9_farTo 1 = .ok (.iload_n 1, 1) := by decide +kernel
theorem dX9_farTo_2 : decode cX9_farTo 2 = .ok (.invokevirtual 240, 3) := by decide +kernel
theorem dX9_farTo_5 : decode cX9_farTo 5 = .ok (.bipush (-9), 2) := by decide +kernel
theorem dX9_farTo_7 : decode cX9_farTo 7 = .ok (.istore_n 3, 1) := by decide +kernel
theorem dX9_farTo_8 : decode cX9_farTo 8 = .ok (.iconst 0, 1) := by decide +kernel
theorem dX9_farTo_9 : decode cX9_farTo 9 = .ok (.istore 4, 2) := by decide +kernel
theorem dX9_farTo_11 : decode cX9_farTo 11 = .ok (.iload 4, 2) := by decide +kernel
theorem dX9_farTo_13 : decode cX9_farTo 13 = .ok (.aload_n 0, 1) := by decide +kernel
theorem dX9_farTo_14 : decode cX9_farTo 14 = .ok (.getfield 237, 3) := by decide +kernel
theorem dX9_farTo_17 : decode cX9_farTo 17 = .ok (.if_icmp .ge 61, 3) := by decide +kernel
theorem dX9_farTo_20 : decode cX9_farTo 20 = .ok (.aload_n 0, 1) := by decide +kernel
theorem dX9_farTo_21 : decode cX9_farTo 21 = .ok (.getfield 91, 3) := by decide +kernel
theorem dX9_farTo_24 : decode cX9_farTo 24 = .ok (.iload 4, 2) := by decide +kernel
theorem dX9_farTo_26 : decode cX9_farTo 26 = .ok (.iaload, 1) := by decide +kernel
theorem dX9_farTo_27 : decode cX9_farTo 27 = .ok (.iload_n 2, 1) := by decide +kernel
theorem dX9_farTo_28 : decode cX9_farTo 28 = .ok (.if_icmp .ne 42, 3) := by decide +kernel
theorem dX9_farTo_31 : decode cX9_farTo 31 = .ok (.aload_n 0, 1) := by decide +kernel
theorem dX9_farTo_32 : decode cX9_farTo 32 = .ok (.getfield 100, 3) := by decide +kernel
theorem dX9_farTo_35 : decode cX9_farTo 35 = .ok (.iload 4, 2) := by decide +kernel
theorem dX9_farTo_37 : decode cX9_farTo 37 = .ok (.iaload, 1) := by decide +kernel
theorem dX9_farTo_38 : decode cX9_farTo 38 = .ok (.bipush (-9), 2) := by decide +kernel
theorem dX9_farTo_40 : decode cX9_farTo 40 = .ok (.if_icmp .eq 30, 3) := by decide +kernel
theorem dX9_farTo_43 : decode cX9_farTo 43 = .ok (.iload_n 3, 1) := by decide +kernel
theorem dX9_farTo_44 : decode cX9_farTo 44 = .ok (.bipush (-9), 2) := by decide +kernel
theorem dX9_farTo_46 : decode cX9_farTo 46 = .ok (.if_icmp .eq 14, 3) := by decide +kernel
theorem dX9_farTo_49 : decode cX9_farTo 49 = .ok (.aload_n 0, 1) := by decide +kernel
theorem dX9_farTo_50 : decode cX9_farTo 50 = .ok (.getfield 100, 3) := by decide +kernel
theorem dX9_farTo_53 : decode cX9_farTo 53 = .ok (.iload 4, 2) := by decide +kernel
theorem dX9_farTo_55 : decode cX9_farTo 55 = .ok (.iaload, 1) := by decide +kernel
theorem dX9_farTo_56 : decode cX9_farTo 56 = .ok (.iload_n 3, 1) := by decide +kernel
theorem dX9_farTo_57 : decode cX9_farTo 57 = .ok (.if_icmp .ge 13, 3) := by decide +kernel
theorem dX9_farTo_60 : decode cX9_farTo 60 = .ok (.aload_n 0, 1) := by decide +kernel
theorem dX9_farTo_61 : decode cX9_farTo 61 = .ok (.getfield 100, 3) := by decide +kernel
theorem dX9_farTo_64 : decode cX9_farTo 64 = .ok (.iload 4, 2) := by decide +kernel
theorem dX9_farTo_66 : decode cX9_farTo 66 = .ok (.iaload, 1) := by decide +kernel
theorem dX9_farTo_67 : decode cX9_farTo 67 = .ok (.goto 4, 3) := by decide +kernel
theorem dX9_farTo_70 : decode cX9_farTo 70 = .ok (.iload_n 3, 1) := by decide +kernel
theorem dX9_farTo_71 : decode cX9_farTo 71 = .ok (.istore_n 3, 1) := by decide +kernel
theorem dX9_farTo_72 : decode cX9_farTo 72 = .ok (.iinc 4 1, 3) := by decide +kernel
theorem dX9_farTo_75 : decode cX9_farTo 75 = .ok (.goto (-64), 3) := by decide +kernel
theorem dX9_farTo_78 : decode cX9_farTo 78 = .ok (.iload_n 3, 1) := by decide +kernel
theorem dX9_farTo_79 : decode cX9_farTo 79 = .ok (.ireturn, 1) := by decide +kernel
theorem dX9_far_0 : decode cX9_far 0 = .ok (.aload_n 0, 1) := by decide +kernel
theorem dX9_far_1 : decode cX9_far 1 = .ok (.getfield 257, 3) := by decide +kernel
theorem dX9_far_4 : decode cX9_far 4 = .ok (.ifCond .ne 6, 3) := by decide +kernel
theorem dX9_far_7 : decode cX9_far 7 = .ok (.bipush (-3), 2) := by decide +kernel
theorem dX9_far_9 : decode cX9_far 9 = .ok (.ireturn, 1) := by decide +kernel
theorem dX9_far_10 : decode cX9_far 10 = .ok (.aload_n 0, 1) := by decide +kernel
theorem dX9_far_11 : decode cX9_far 11 = .ok (.iload_n 1, 1) := by decide +kernel
theorem dX9_far_12 : decode cX9_far 12 = .ok (.invokevirtual 268, 3) := by decide +kernel
theorem dX9_far_15 : decode cX9_far 15 = .ok (.ifCond .ne 5, 3) := by decide +kernel
theorem dX9_far_18 : decode cX9_far 18 = .ok (.iconst (-1), 1) := by decide +kernel
theorem dX9_far_19 : decode cX9_far 19 = .ok (.ireturn, 1) := by decide +kernel
theorem dX9_far_20 : decode cX9_far 20 = .ok (.iload_n 2, 1) := by decide +kernel
theorem dX9_far_21 : decode cX9_far 21 = .ok (.i2l, 1) := by decide +kernel
theorem dX9_far_22 : decode cX9_far 22 = .ok (.lconst 0, 1) := by decide +kernel
theorem dX9_far_23 : decode cX9_far 23 = .ok (.ldc2_w 271, 3) := by decide +kernel
theorem dX9_far_26 : decode cX9_far 26 = .ok (.invokestatic 264, 3) := by decide +kernel
theorem dX9_far_29 : decode cX9_far 29 = .ok (.ifCond .eq 12, 3) := by decide +kernel
theorem dX9_far_32 : decode cX9_far 32 = .ok (.aload_n 0, 1) := by decide +kernel
theorem dX9_far_33 : decode cX9_far 33 = .ok (.iload_n 1, 1) := by decide +kernel
theorem dX9_far_34 : decode cX9_far 34 = .ok (.iload_n 2, 1) := by decide +kernel
theorem dX9_far_35 : decode cX9_far 35 = .ok (.invokevirtual 273, 3) := by decide +kernel
theorem dX9_far_38 : decode cX9_far 38 = .ok (.goto 5, 3) := by decide +kernel
theorem dX9_far_41 : decode cX9_far 41 = .ok (.bipush (-2), 2) := by decide +kernel
theorem dX9_far_43 : decode cX9_far 43 = .ok (.ireturn, 1) := by decide +kernel
theorem dX9_toward_0 : decode cX9_toward 0 = .ok (.aload_n 0, 1) := by decide +kernel
theorem dX9_toward_1 : decode cX9_toward 1 = .ok (.iload_n 1, 1) := by decide +kernel
theorem dX9_toward_2 : decode cX9_toward 2 = .ok (.iload_n 2, 1) := by decide +kernel
theorem dX9_toward_3 : decode cX9_toward 3 = .ok (.invokevirtual 277, 3) := by decide +kernel
theorem dX9_toward_6 : decode cX9_toward 6 = .ok (.istore_n 3, 1) := by decide +kernel
theorem dX9_toward_7 : decode cX9_toward 7 = .ok (.iload_n 3, 1) := by decide +kernel
theorem dX9_toward_8 : decode cX9_toward 8 = .ok (.ifCond .gt 14, 3) := by decide +kernel
theorem dX9_toward_11 : decode cX9_toward 11 = .ok (.iload_n 3, 1) := by decide +kernel
theorem dX9_toward_12 : decode cX9_toward 12 = .ok (.ifCond .ne 8, 3) := by decide +kernel
theorem dX9_toward_15 : decode cX9_toward 15 = .ok (.bipush (-9), 2) := by decide +kernel
theorem dX9_toward_17 : decode cX9_toward 17 = .ok (.goto 4, 3) := by decide +kernel
theorem dX9_toward_20 : decode cX9_toward 20 = .ok (.iload_n 3, 1) := by decide +kernel
theorem dX9_toward_21 : decode cX9_toward 21 = .ok (.ireturn, 1) := by decide +kernel
theorem dX9_toward_22 : decode cX9_toward 22 = .ok (.iconst 0, 1) := by decide +kernel
theorem dX9_toward_23 : decode cX9_toward 23 = .ok (.istore 4, 2) := by decide +kernel
theorem dX9_toward_25 : decode cX9_toward 25 = .ok (.aload_n 0, 1) := by decide +kernel
theorem dX9_toward_26 : decode cX9_toward 26 = .ok (.aload_n 0, 1) := by decide +kernel
theorem dX9_toward_27 : decode cX9_toward 27 = .ok (.getfield 85, 3) := by decide +kernel
theorem dX9_toward_30 : decode cX9_toward 30 = .ok (.iconst 4, 1) := by decide +kernel
theorem dX9_toward_31 : decode cX9_toward 31 = .ok (.iload_n 1, 1) := by decide +kernel
theorem dX9_toward_32 : decode cX9_toward 32 = .ok (.imul, 1) := by decide +kernel
theorem dX9_toward_33 : decode cX9_toward 33 = .ok (.iload 4, 2) := by decide +kernel
theorem dX9_toward_35 : decode cX9_toward 35 = .ok (.iadd, 1) := by decide +kernel
theorem dX9_toward_36 : decode cX9_toward 36 = .ok (.iaload, 1) := by decide +kernel
theorem dX9_toward_37 : decode cX9_toward 37 = .ok (.iload_n 2, 1) := by decide +kernel
theorem dX9_toward_38 : decode cX9_toward 38 = .ok (.invokevirtual 273, 3) := by decide +kernel
theorem dX9_toward_41 : decode cX9_toward 41 = .ok (.iload_n 3, 1) := by decide +kernel
theorem dX9_toward_42 : decode cX9_toward 42 = .ok (.iconst 1, 1) := by decide +kernel
theorem dX9_toward_43 : decode cX9_toward 43 = .ok (.isub, 1) := by decide +kernel
theorem dX9_toward_44 : decode cX9_toward 44 = .ok (.if_icmp .eq 9, 3) := by decide +kernel
theorem dX9_toward_47 : decode cX9_toward 47 = .ok (.iinc 4 1, 3) := by decide +kernel
theorem dX9_toward_50 : decode cX9_toward 50 = .ok (.goto (-25), 3) := by decide +kernel
theorem dX9_toward_53 : decode cX9_toward 53 = .ok (.iload 4, 2) := by decide +kernel
theorem dX9_toward_55 : decode cX9_toward 55 = .ok (.ireturn, 1) := by decide +kernel
theorem dX9_countTo_0 : decode cX9_countTo 0 = .ok (.iconst 0, 1) := by decide +kernel
theorem dX9_countTo_1 : decode cX9_countTo 1 = .ok (.istore_n 2, 1) := by decide +kernel
theorem dX9_countTo_2 : decode cX9_countTo 2 = .ok (.iload_n 2, 1) := by decide +kernel
theorem dX9_countTo_3 : decode cX9_countTo 3 = .ok (.iload_n 1, 1) := by decide +kernel
theorem dX9_countTo_4 : decode cX9_countTo 4 = .ok (.if_icmp .gt 105, 3) := by decide +kernel
theorem dX9_countTo_7 : decode cX9_countTo 7 = .ok (.iconst 0, 1) := by decide +kernel
theorem dX9_countTo_8 : decode cX9_countTo 8 = .ok (.istore_n 3, 1) := by decide +kernel
theorem dX9_countTo_9 : decode cX9_countTo 9 = .ok (.iload_n 3, 1) := by decide +kernel
theorem dX9_countTo_10 : decode cX9_countTo 10 = .ok (.aload_n 0, 1) := by decide +kernel
theorem dX9_countTo_11 : decode cX9_countTo 11 = .ok (.getfield 237, 3) := by decide +kernel
theorem dX9_countTo_14 : decode cX9_countTo 14 = .ok (.if_icmp .ge 89, 3) := by decide +kernel
theorem dX9_countTo_17 : decode cX9_countTo 17 = .ok (.iload_n 2, 1) := by decide +kernel
theorem dX9_countTo_18 : decode cX9_countTo 18 = .ok (.ifCond .ne 16, 3) := by decide +kernel
theorem dX9_countTo_21 : decode cX9_countTo 21 = .ok (.aload_n 0, 1) := by decide +kernel
theorem dX9_countTo_22 : decode cX9_countTo 22 = .ok (.getfield 88, 3) := by decide +kernel
theorem dX9_countTo_25 : decode cX9_countTo 25 = .ok (.iload_n 3, 1) := by decide +kernel
theorem dX9_countTo_26 : decode cX9_countTo 26 = .ok (.baload, 1) := by decide +kernel
theorem dX9_countTo_27 : decode cX9_countTo 27 = .ok (.ifCond .eq 7, 3) := by decide +kernel
theorem dX9_countTo_30 : decode cX9_countTo 30 = .ok (.lconst 1, 1) := by decide +kernel
theorem dX9_countTo_31 : decode cX9_countTo 31 = .ok (.goto 4, 3) := by decide +kernel
theorem dX9_countTo_34 : decode cX9_countTo 34 = .ok (.lconst 0, 1) := by decide +kernel
theorem dX9_countTo_35 : decode cX9_countTo 35 = .ok (.lstore 4, 2) := by decide +kernel
theorem dX9_countTo_37 : decode cX9_countTo 37 = .ok (.iconst 0, 1) := by decide +kernel
theorem dX9_countTo_38 : decode cX9_countTo 38 = .ok (.istore 6, 2) := by decide +kernel
theorem dX9_countTo_40 : decode cX9_countTo 40 = .ok (.iload 6, 2) := by decide +kernel
theorem dX9_countTo_42 : decode cX9_countTo 42 = .ok (.iconst 4, 1) := by decide +kernel
theorem dX9_countTo_43 : decode cX9_countTo 43 = .ok (.if_icmp .ge 41, 3) := by decide +kernel
theorem dX9_countTo_46 : decode cX9_countTo 46 = .ok (.iload_n 2, 1) := by decide +kernel
theorem dX9_countTo_47 : decode cX9_countTo 47 = .ok (.ifCond .le 37, 3) := by decide +kernel
theorem dX9_countTo_50 : decode cX9_countTo 50 = .ok (.lload 4, 2) := by decide +kernel
theorem dX9_countTo_52 : decode cX9_countTo 52 = .ok (.aload_n 0, 1) := by decide +kernel
theorem dX9_countTo_53 : decode cX9_countTo 53 = .ok (.getfield 106, 3) := by decide +kernel
theorem dX9_countTo_56 : decode cX9_countTo 56 = .ok (.bipush 60, 2) := by decide +kernel
theorem dX9_countTo_58 : decode cX9_countTo 58 = .ok (.iload_n 2, 1) := by decide +kernel
theorem dX9_countTo_59 : decode cX9_countTo 59 = .ok (.iconst 1, 1) := by decide +kernel
theorem dX9_countTo_60 : decode cX9_countTo 60 = .ok (.isub, 1) := by decide +kernel
theorem dX9_countTo_61 : decode cX9_countTo 61 = .ok (.imul, 1) := by decide +kernel
theorem dX9_countTo_62 : decode cX9_countTo 62 = .ok (.aload_n 0, 1) := by decide +kernel
theorem dX9_countTo_63 : decode cX9_countTo 63 = .ok (.getfield 85, 3) := by decide +kernel
theorem dX9_countTo_66 : decode cX9_countTo 66 = .ok (.iconst 4, 1) := by decide +kernel
theorem dX9_countTo_67 : decode cX9_countTo 67 = .ok (.iload_n 3, 1) := by decide +kernel
theorem dX9_countTo_68 : decode cX9_countTo 68 = .ok (.imul, 1) := by decide +kernel
theorem dX9_countTo_69 : decode cX9_countTo 69 = .ok (.iload 6, 2) := by decide +kernel
theorem dX9_countTo_71 : decode cX9_countTo 71 = .ok (.iadd, 1) := by decide +kernel
theorem dX9_countTo_72 : decode cX9_countTo 72 = .ok (.iaload, 1) := by decide +kernel
theorem dX9_countTo_73 : decode cX9_countTo 73 = .ok (.iadd, 1) := by decide +kernel
theorem dX9_countTo_74 : decode cX9_countTo 74 = .ok (.laload, 1) := by decide +kernel
theorem dX9_countTo_75 : decode cX9_countTo 75 = .ok (.ladd, 1) := by decide +kernel
theorem dX9_countTo_76 : decode cX9_countTo 76 = .ok (.lstore 4, 2) := by decide +kernel
theorem dX9_countTo_78 : decode cX9_countTo 78 = .ok (.iinc 6 1, 3) := by decide +kernel
theorem dX9_countTo_81 : decode cX9_countTo 81 = .ok (.goto (-41), 3) := by decide +kernel
theorem dX9_countTo_84 : decode cX9_countTo 84 = .ok (.aload_n 0, 1) := by decide +kernel
theorem dX9_countTo_85 : decode cX9_countTo 85 = .ok (.getfield 106, 3) := by decide +kernel
theorem dX9_countTo_88 : decode cX9_countTo 88 = .ok (.bipush 60, 2) := by decide +kernel
theorem dX9_countTo_90 : decode cX9_countTo 90 = .ok (.iload_n 2, 1) := by decide +kernel
theorem dX9_countTo_91 : decode cX9_countTo 91 = .ok (.imul, 1) := by decide +kernel
theorem dX9_countTo_92 : decode cX9_countTo 92 = .ok (.iload_n 3, 1) := by decide +kernel
theorem dX9_countTo_93 : decode cX9_countTo 93 = .ok (.iadd, 1) := by decide +kernel
theorem dX9_countTo_94 : decode cX9_countTo 94 = .ok (.lload 4, 2) := by decide +kernel
theorem dX9_countTo_96 : decode cX9_countTo 96 = .ok (.lastore, 1) := by decide +kernel
theorem dX9_countTo_97 : decode cX9_countTo 97 = .ok (.iinc 3 1, 3) := by decide +kernel
theorem dX9_countTo_100 : decode cX9_countTo 100 = .ok (.goto (-91), 3) := by decide +kernel
theorem dX9_countTo_103 : decode cX9_countTo 103 = .ok (.iinc 2 1, 3) := by decide +kernel
theorem dX9_countTo_106 : decode cX9_countTo 106 = .ok (.goto (-104), 3) := by decide +kernel
theorem dX9_countTo_109 : decode cX9_countTo 109 = .ok (.return_, 1) := by decide +kernel
theorem dX9_runs_0 : decode cX9_runs 0 = .ok (.aload_n 0, 1) := by decide +kernel
theorem dX9_runs_1 : decode cX9_runs 1 = .ok (.getfield 257, 3) := by decide +kernel
theorem dX9_runs_4 : decode cX9_runs 4 = .ok (.ifCond .ne 7, 3) := by decide +kernel
theorem dX9_runs_7 : decode cX9_runs 7 = .ok (.ldc2_w 279, 3) := by decide +kernel
theorem dX9_runs_10 : decode cX9_runs 10 = .ok (.lreturn, 1) := by decide +kernel
theorem dX9_runs_11 : decode cX9_runs 11 = .ok (.aload_n 0, 1) := by decide +kernel
theorem dX9_runs_12 : decode cX9_runs 12 = .ok (.iload_n 1, 1) := by decide +kernel
theorem dX9_runs_13 : decode cX9_runs 13 = .ok (.invokevirtual 268, 3) := by decide +kernel
theorem dX9_runs_16 : decode cX9_runs 16 = .ok (.ifCond .ne 7, 3) := by decide +kernel
theorem dX9_runs_19 : decode cX9_runs 19 = .ok (.ldc2_w 281, 3) := by decide +kernel
theorem dX9_runs_22 : decode cX9_runs 22 = .ok (.lreturn, 1) := by decide +kernel
theorem dX9_runs_23 : decode cX9_runs 23 = .ok (.iload_n 2, 1) := by decide +kernel
theorem dX9_runs_24 : decode cX9_runs 24 = .ok (.i2l, 1) := by decide +kernel
theorem dX9_runs_25 : decode cX9_runs 25 = .ok (.lconst 0, 1) := by decide +kernel
theorem dX9_runs_26 : decode cX9_runs 26 = .ok (.ldc2_w 283, 3) := by decide +kernel
theorem dX9_runs_29 : decode cX9_runs 29 = .ok (.invokestatic 264, 3) := by decide +kernel
theorem dX9_runs_32 : decode cX9_runs 32 = .ok (.ifCond .ne 7, 3) := by decide +kernel
theorem dX9_runs_35 : decode cX9_runs 35 = .ok (.ldc2_w 285, 3) := by decide +kernel
theorem dX9_runs_38 : decode cX9_runs 38 = .ok (.lreturn, 1) := by decide +kernel
theorem dX9_runs_39 : decode cX9_runs 39 = .ok (.aload_n 0, 1) := by decide +kernel
theorem dX9_runs_40 : decode cX9_runs 40 = .ok (.iload_n 2, 1) := by decide +kernel
theorem dX9_runs_41 : decode cX9_runs 41 = .ok (.invokevirtual 287, 3) := by decide +kernel
theorem dX9_runs_44 : decode cX9_runs 44 = .ok (.aload_n 0, 1) := by decide +kernel
theorem dX9_runs_45 : decode cX9_runs 45 = .ok (.getfield 106, 3) := by decide +kernel
theorem dX9_runs_48 : decode cX9_runs 48 = .ok (.bipush 60, 2) := by decide +kernel
theorem dX9_runs_50 : decode cX9_runs 50 = .ok (.iload_n 2, 1) := by decide +kernel
theorem dX9_runs_51 : decode cX9_runs 51 = .ok (.imul, 1) := by decide +kernel
theorem dX9_runs_52 : decode cX9_runs 52 = .ok (.iload_n 1, 1) := by decide +kernel
theorem dX9_runs_53 : decode cX9_runs 53 = .ok (.iadd, 1) := by decide +kernel
theorem dX9_runs_54 : decode cX9_runs 54 = .ok (.laload, 1) := by decide +kernel
theorem dX9_runs_55 : decode cX9_runs 55 = .ok (.lreturn, 1) := by decide +kernel
theorem dX9_run_0 : decode cX9_run 0 = .ok (.aload_n 0, 1) := by decide +kernel
theorem dX9_run_1 : decode cX9_run 1 = .ok (.iload_n 1, 1) := by decide +kernel
theorem dX9_run_2 : decode cX9_run 2 = .ok (.iload_n 2, 1) := by decide +kernel
theorem dX9_run_3 : decode cX9_run 3 = .ok (.invokevirtual 290, 3) := by decide +kernel
theorem dX9_run_6 : decode cX9_run 6 = .ok (.lstore 4, 2) := by decide +kernel
theorem dX9_run_8 : decode cX9_run 8 = .ok (.lload 4, 2) := by decide +kernel
theorem dX9_run_10 : decode cX9_run 10 = .ok (.lconst 0, 1) := by decide +kernel
theorem dX9_run_11 : decode cX9_run 11 = .ok (.lcmp, 1) := by decide +kernel
theorem dX9_run_12 : decode cX9_run 12 = .ok (.ifCond .le 16, 3) := by decide +kernel
theorem dX9_run_15 : decode cX9_run 15 = .ok (.iload_n 3, 1) := by decide +kernel
theorem dX9_run_16 : decode cX9_run 16 = .ok (.i2l, 1) := by decide +kernel
theorem dX9_run_17 : decode cX9_run 17 = .ok (.lconst 0, 1) := by decide +kernel
theorem dX9_run_18 : decode cX9_run 18 = .ok (.iload_n 2, 1) := by decide +kernel
theorem dX9_run_19 : decode cX9_run 19 = .ok (.iconst 1, 1) := by decide +kernel
theorem dX9_run_20 : decode cX9_run 20 = .ok (.isub, 1) := by decide +kernel
theorem dX9_run_21 : decode cX9_run 21 = .ok (.i2l, 1) := by decide +kernel
theorem dX9_run_22 : decode cX9_run 22 = .ok (.invokestatic 264, 3) := by decide +kernel
theorem dX9_run_25 : decode cX9_run 25 = .ok (.ifCond .ne 19, 3) := by decide +kernel
theorem dX9_run_28 : decode cX9_run 28 = .ok (.lload 4, 2) := by decide +kernel
theorem dX9_run_30 : decode cX9_run 30 = .ok (.lconst 0, 1) := by decide +kernel
theorem dX9_run_31 : decode cX9_run 31 = .ok (.lcmp, 1) := by decide +kernel
theorem dX9_run_32 : decode cX9_run 32 = .ok (.ifCond .ge 9, 3) := by decide +kernel
theorem dX9_run_35 : decode cX9_run 35 = .ok (.lload 4, 2) := by decide +kernel
theorem dX9_run_37 : decode cX9_run 37 = .ok (.l2i, 1) := by decide +kernel
theorem dX9_run_38 : decode cX9_run 38 = .ok (.goto 5, 3) := by decide +kernel
theorem dX9_run_41 : decode cX9_run 41 = .ok (.bipush (-9), 2) := by decide +kernel
theorem dX9_run_43 : decode cX9_run 43 = .ok (.ireturn, 1) := by decide +kernel
theorem dX9_run_44 : decode cX9_run 44 = .ok (.iload_n 1, 1) := by decide +kernel
theorem dX9_run_45 : decode cX9_run 45 = .ok (.istore 6, 2) := by decide +kernel
theorem dX9_run_47 : decode cX9_run 47 = .ok (.iconst 0, 1) := by decide +kernel
theorem dX9_run_48 : decode cX9_run 48 = .ok (.istore 7, 2) := by decide +kernel
theorem dX9_run_50 : decode cX9_run 50 = .ok (.iconst 0, 1) := by decide +kernel
theorem dX9_run_51 : decode cX9_run 51 = .ok (.istore 8, 2) := by decide +kernel
theorem dX9_run_53 : decode cX9_run 53 = .ok (.iload 8, 2) := by decide +kernel
theorem dX9_run_55 : decode cX9_run 55 = .ok (.iload_n 3, 1) := by decide +kernel
theorem dX9_run_56 : decode cX9_run 56 = .ok (.if_icmp .gt 64, 3) := by decide +kernel
theorem dX9_run_59 : decode cX9_run 59 = .ok (.iconst 0, 1) := by decide +kernel
theorem dX9_run_60 : decode cX9_run 60 = .ok (.istore 7, 2) := by decide +kernel
theorem dX9_run_62 : decode cX9_run 62 = .ok (.aload_n 0, 1) := by decide +kernel
theorem dX9_run_63 : decode cX9_run 63 = .ok (.getfield 106, 3) := by decide +kernel
theorem dX9_run_66 : decode cX9_run 66 = .ok (.bipush 60, 2) := by decide +kernel
theorem dX9_run_68 : decode cX9_run 68 = .ok (.iload_n 2, 1) := by decide +kernel
theorem dX9_run_69 : decode cX9_run 69 = .ok (.iload 8, 2) := by decide +kernel
theorem dX9_run_71 : decode cX9_run 71 = .ok (.isub, 1) := by decide +kernel
theorem dX9_run_72 : decode cX9_run 72 = .ok (.iconst 1, 1) := by decide +kernel
theorem dX9_run_73 : decode cX9_run 73 = .ok (.isub, 1) := by decide +kernel
theorem dX9_run_74 : decode cX9_run 74 = .ok (.imul, 1) := by decide +kernel
theorem dX9_run_75 : decode cX9_run 75 = .ok (.aload_n 0, 1) := by decide +kernel
theorem dX9_run_76 : decode cX9_run 76 = .ok (.getfield 85, 3) := by decide +kernel
theorem dX9_run_79 : decode cX9_run 79 = .ok (.iconst 4, 1) := by decide +kernel
theorem dX9_run_80 : decode cX9_run 80 = .ok (.iload 6, 2) := by decide +kernel
theorem dX9_run_82 : decode cX9_run 82 = .ok (.imul, 1) := by decide +kernel
theorem dX9_run_83 : decode cX9_run 83 = .ok (.iload 7, 2) := by decide +kernel
theorem dX9_run_85 : decode cX9_run 85 = .ok (.iadd, 1) := by decide +kernel
theorem dX9_run_86 : decode cX9_run 86 = .ok (.iaload, 1) := by decide +kernel
theorem dX9_run_87 : decode cX9_run 87 = .ok (.iadd, 1) := by decide +kernel
theorem dX9_run_88 : decode cX9_run 88 = .ok (.laload, 1) := by decide +kernel
theorem dX9_run_89 : decode cX9_run 89 = .ok (.lconst 0, 1) := by decide +kernel
theorem dX9_run_90 : decode cX9_run 90 = .ok (.lcmp, 1) := by decide +kernel
theorem dX9_run_91 : decode cX9_run 91 = .ok (.ifCond .ne 9, 3) := by decide +kernel
theorem dX9_run_94 : decode cX9_run 94 = .ok (.iinc 7 1, 3) := by decide +kernel
theorem dX9_run_97 : decode cX9_run 97 = .ok (.goto (-35), 3) := by decide +kernel
theorem dX9_run_100 : decode cX9_run 100 = .ok (.aload_n 0, 1) := by decide +kernel
theorem dX9_run_101 : decode cX9_run 101 = .ok (.getfield 85, 3) := by decide +kernel
theorem dX9_run_104 : decode cX9_run 104 = .ok (.iconst 4, 1) := by decide +kernel
theorem dX9_run_105 : decode cX9_run 105 = .ok (.iload 6, 2) := by decide +kernel
theorem dX9_run_107 : decode cX9_run 107 = .ok (.imul, 1) := by decide +kernel
theorem dX9_run_108 : decode cX9_run 108 = .ok (.iload 7, 2) := by decide +kernel
theorem dX9_run_110 : decode cX9_run 110 = .ok (.iadd, 1) := by decide +kernel
theorem dX9_run_111 : decode cX9_run 111 = .ok (.iaload, 1) := by decide +kernel
theorem dX9_run_112 : decode cX9_run 112 = .ok (.istore 6, 2) := by decide +kernel
theorem dX9_run_114 : decode cX9_run 114 = .ok (.iinc 8 1, 3) := by decide +kernel
theorem dX9_run_117 : decode cX9_run 117 = .ok (.goto (-64), 3) := by decide +kernel
theorem dX9_run_120 : decode cX9_run 120 = .ok (.iload 7, 2) := by decide +kernel
theorem dX9_run_122 : decode cX9_run 122 = .ok (.ireturn, 1) := by decide +kernel
theorem dX9_begin_0 : decode cX9_begin 0 = .ok (.iconst 0, 1) := by decide +kernel
theorem dX9_begin_1 : decode cX9_begin 1 = .ok (.istore_n 2, 1) := by decide +kernel
theorem dX9_begin_2 : decode cX9_begin 2 = .ok (.iload_n 2, 1) := by decide +kernel
theorem dX9_begin_3 : decode cX9_begin 3 = .ok (.bipush 60, 2) := by decide +kernel
theorem dX9_begin_5 : decode cX9_begin 5 = .ok (.if_icmp .ge 29, 3) := by decide +kernel
theorem dX9_begin_8 : decode cX9_begin 8 = .ok (.aload_n 0, 1) := by decide +kernel
theorem dX9_begin_9 : decode cX9_begin 9 = .ok (.getfield 110, 3) := by decide +kernel
theorem dX9_begin_12 : decode cX9_begin 12 = .ok (.bipush 60, 2) := by decide +kernel
theorem dX9_begin_14 : decode cX9_begin 14 = .ok (.iload_n 1, 1) := by decide +kernel
theorem dX9_begin_15 : decode cX9_begin 15 = .ok (.imul, 1) := by decide +kernel
theorem dX9_begin_16 : decode cX9_begin 16 = .ok (.iload_n 2, 1) := by decide +kernel
theorem dX9_begin_17 : decode cX9_begin 17 = .ok (.iadd, 1) := by decide +kernel
theorem dX9_begin_18 : decode cX9_begin 18 = .ok (.iload_n 2, 1) := by decide +kernel
theorem dX9_begin_19 : decode cX9_begin 19 = .ok (.ifCond .ne 7, 3) := by decide +kernel
theorem dX9_begin_22 : decode cX9_begin 22 = .ok (.iconst 1, 1) := by decide +kernel
theorem dX9_begin_23 : decode cX9_begin 23 = .ok (.goto 4, 3) := by decide +kernel
theorem dX9_begin_26 : decode cX9_begin 26 = .ok (.iconst 0, 1) := by decide +kernel
theorem dX9_begin_27 : decode cX9_begin 27 = .ok (.bastore, 1) := by decide +kernel
theorem dX9_begin_28 : decode cX9_begin 28 = .ok (.iinc 2 1, 3) := by decide +kernel
theorem dX9_begin_31 : decode cX9_begin 31 = .ok (.goto (-29), 3) := by decide +kernel
theorem dX9_begin_34 : decode cX9_begin 34 = .ok (.aload_n 0, 1) := by decide +kernel
theorem dX9_begin_35 : decode cX9_begin 35 = .ok (.getfield 116, 3) := by decide +kernel
theorem dX9_begin_38 : decode cX9_begin 38 = .ok (.iload_n 1, 1) := by decide +kernel
theorem dX9_begin_39 : decode cX9_begin 39 = .ok (.iconst 0, 1) := by decide +kernel
theorem dX9_begin_40 : decode cX9_begin 40 = .ok (.iastore, 1) := by decide +kernel
theorem dX9_begin_41 : decode cX9_begin 41 = .ok (.return_, 1) := by decide +kernel
theorem dX9_verdictOf_0 : decode cX9_verdictOf 0 = .ok (.bipush (-9), 2) := by decide +kernel
theorem dX9_verdictOf_2 : decode cX9_verdictOf 2 = .ok (.istore_n 2, 1) := by decide +kernel
theorem dX9_verdictOf_3 : decode cX9_verdictOf 3 = .ok (.iconst 1, 1) := by decide +kernel
theorem dX9_verdictOf_4 : decode cX9_verdictOf 4 = .ok (.istore_n 3, 1) := by decide +kernel
theorem dX9_verdictOf_5 : decode cX9_verdictOf 5 = .ok (.iconst 1, 1) := by decide +kernel
theorem dX9_verdictOf_6 : decode cX9_verdictOf 6 = .ok (.istore 4, 2) := by decide +kernel
theorem dX9_verdictOf_8 : decode cX9_verdictOf 8 = .ok (.iconst 1, 1) := by decide +kernel
theorem dX9_verdictOf_9 : decode cX9_verdictOf 9 = .ok (.istore 5, 2) := by decide +kernel
theorem dX9_verdictOf_11 : decode cX9_verdictOf 11 = .ok (.iconst 0, 1) := by decide +kernel
theorem dX9_verdictOf_12 : decode cX9_verdictOf 12 = .ok (.istore 6, 2) := by decide +kernel
theorem dX9_verdictOf_14 : decode cX9_verdictOf 14 = .ok (.iload 6, 2) := by decide +kernel
theorem dX9_verdictOf_16 : decode cX9_verdictOf 16 = .ok (.aload_n 0, 1) := by decide +kernel
theorem dX9_verdictOf_17 : decode cX9_verdictOf 17 = .ok (.getfield 237, 3) := by decide +kernel
theorem dX9_verdictOf_20 : decode cX9_verdictOf 20 = .ok (.if_icmp .ge 103, 3) := by decide +kernel
theorem dX9_verdictOf_23 : decode cX9_verdictOf 23 = .ok (.aload_n 0, 1) := by decide +kernel
theorem dX9_verdictOf_24 : decode cX9_verdictOf 24 = .ok (.getfield 110, 3) := by decide +kernel
theorem dX9_verdictOf_27 : decode cX9_verdictOf 27 = .ok (.bipush 60, 2) := by decide +kernel
theorem dX9_verdictOf_29 : decode cX9_verdictOf 29 = .ok (.iload_n 1, 1) := by decide +kernel
theorem dX9_verdictOf_30 : decode cX9_verdictOf 30 = .ok (.imul, 1) := by decide +kernel
theorem dX9_verdictOf_31 : decode cX9_verdictOf 31 = .ok (.iload 6, 2) := by decide +kernel
theorem dX9_verdictOf_33 : decode cX9_verdictOf 33 = .ok (.iadd, 1) := by decide +kernel
theorem dX9_verdictOf_34 : decode cX9_verdictOf 34 = .ok (.baload, 1) := by decide +kernel
theorem dX9_verdictOf_35 : decode cX9_verdictOf 35 = .ok (.ifCond .eq 82, 3) := by decide +kernel
theorem dX9_verdictOf_38 : decode cX9_verdictOf 38 = .ok (.iload_n 3, 1) := by decide +kernel
theorem dX9_verdictOf_39 : decode cX9_verdictOf 39 = .ok (.ifCond .eq 24, 3) := by decide +kernel
theorem dX9_verdictOf_42 : decode cX9_verdictOf 42 = .ok (.iload_n 2, 1) := by decide +kernel
theorem dX9_verdictOf_43 : decode cX9_verdictOf 43 = .ok (.bipush (-9), 2) := by decide +kernel
theorem dX9_verdictOf_45 : decode cX9_verdictOf 45 = .ok (.if_icmp .eq 14, 3) := by decide +kernel
theorem dX9_verdictOf_48 : decode cX9_verdictOf 48 = .ok (.iload_n 2, 1) := by decide +kernel
theorem dX9_verdictOf_49 : decode cX9_verdictOf 49 = .ok (.aload_n 0, 1) := by decide +kernel
theorem dX9_verdictOf_50 : decode cX9_verdictOf 50 = .ok (.getfield 91, 3) := by decide +kernel
theorem dX9_verdictOf_53 : decode cX9_verdictOf 53 = .ok (.iload 6, 2) := by decide +kernel
theorem dX9_verdictOf_55 : decode cX9_verdictOf 55 = .ok (.iaload, 1) := by decide +kernel
theorem dX9_verdictOf_56 : decode cX9_verdictOf 56 = .ok (.if_icmp .ne 7, 3) := by decide +kernel
theorem dX9_verdictOf_59 : decode cX9_verdictOf 59 = .ok (.iconst 1, 1) := by decide +kernel
theorem dX9_verdictOf_60 : decode cX9_verdictOf 60 = .ok (.goto 4, 3) := by decide +kernel
theorem dX9_verdictOf_63 : decode cX9_verdictOf 63 = .ok (.iconst 0, 1) := by decide +kernel
theorem dX9_verdictOf_64 : decode cX9_verdictOf 64 = .ok (.istore_n 3, 1) := by decide +kernel
theorem dX9_verdictOf_65 : decode cX9_verdictOf 65 = .ok (.aload_n 0, 1) := by decide +kernel
theorem dX9_verdictOf_66 : decode cX9_verdictOf 66 = .ok (.getfield 91, 3) := by decide +kernel
theorem dX9_verdictOf_69 : decode cX9_verdictOf 69 = .ok (.iload 6, 2) := by decide +kernel
theorem dX9_verdictOf_71 : decode cX9_verdictOf 71 = .ok (.iaload, 1) := by decide +kernel
theorem dX9_verdictOf_72 : decode cX9_verdictOf 72 = .ok (.istore_n 2, 1) := by decide +kernel
theorem dX9_verdictOf_73 : decode cX9_verdictOf 73 = .ok (.iload 4, 2) := by decide +kernel
theorem dX9_verdictOf_75 : decode cX9_verdictOf 75 = .ok (.ifCond .eq 17, 3) := by decide +kernel
theorem dX9_verdictOf_78 : decode cX9_verdictOf 78 = .ok (.aload_n 0, 1) := by decide +kernel
theorem dX9_verdictOf_79 : decode cX9_verdictOf 79 = .ok (.getfield 88, 3) := by decide +kernel
theorem dX9_verdictOf_82 : decode cX9_verdictOf 82 = .ok (.iload 6, 2) := by decide +kernel
theorem dX9_verdictOf_84 : decode cX9_verdictOf 84 = .ok (.baload, 1) := by decide +kernel
theorem dX9_verdictOf_85 : decode cX9_verdictOf 85 = .ok (.ifCond .eq 7, 3) := by decide +kernel
theorem dX9_verdictOf_88 : decode cX9_verdictOf 88 = .ok (.iconst 1, 1) := by decide +kernel
theorem dX9_verdictOf_89 : decode cX9_verdictOf 89 = .ok (.goto 4, 3) := by decide +kernel
theorem dX9_verdictOf_92 : decode cX9_verdictOf 92 = .ok (.iconst 0, 1) := by decide +kernel
theorem dX9_verdictOf_93 : decode cX9_verdictOf 93 = .ok (.istore 4, 2) := by decide +kernel
theorem dX9_verdictOf_95 : decode cX9_verdictOf 95 = .ok (.iload 5, 2) := by decide +kernel
theorem dX9_verdictOf_97 : decode cX9_verdictOf 97 = .ok (.ifCond .eq 17, 3) := by decide +kernel
theorem dX9_verdictOf_100 : decode cX9_verdictOf 100 = .ok (.aload_n 0, 1) := by decide +kernel
theorem dX9_verdictOf_101 : decode cX9_verdictOf 101 = .ok (.getfield 88, 3) := by decide +kernel
theorem dX9_verdictOf_104 : decode cX9_verdictOf 104 = .ok (.iload 6, 2) := by decide +kernel
theorem dX9_verdictOf_106 : decode cX9_verdictOf 106 = .ok (.baload, 1) := by decide +kernel
theorem dX9_verdictOf_107 : decode cX9_verdictOf 107 = .ok (.ifCond .ne 7, 3) := by decide +kernel
theorem dX9_verdictOf_110 : decode cX9_verdictOf 110 = .ok (.iconst 1, 1) := by decide +kernel
theorem dX9_verdictOf_111 : decode cX9_verdictOf 111 = .ok (.goto 4, 3) := by decide +kernel
theorem dX9_verdictOf_114 : decode cX9_verdictOf 114 = .ok (.iconst 0, 1) := by decide +kernel
theorem dX9_verdictOf_115 : decode cX9_verdictOf 115 = .ok (.istore 5, 2) := by decide +kernel
theorem dX9_verdictOf_117 : decode cX9_verdictOf 117 = .ok (.iinc 6 1, 3) := by decide +kernel
theorem dX9_verdictOf_120 : decode cX9_verdictOf 120 = .ok (.goto (-106), 3) := by decide +kernel
theorem dX9_verdictOf_123 : decode cX9_verdictOf 123 = .ok (.iload_n 3, 1) := by decide +kernel
theorem dX9_verdictOf_124 : decode cX9_verdictOf 124 = .ok (.ifCond .eq 7, 3) := by decide +kernel
theorem dX9_verdictOf_127 : decode cX9_verdictOf 127 = .ok (.iload_n 2, 1) := by decide +kernel
theorem dX9_verdictOf_128 : decode cX9_verdictOf 128 = .ok (.goto 22, 3) := by decide +kernel
theorem dX9_verdictOf_131 : decode cX9_verdictOf 131 = .ok (.iload 4, 2) := by decide +kernel
theorem dX9_verdictOf_133 : decode cX9_verdictOf 133 = .ok (.ifCond .eq 7, 3) := by decide +kernel
theorem dX9_verdictOf_136 : decode cX9_verdictOf 136 = .ok (.iconst 1, 1) := by decide +kernel
theorem dX9_verdictOf_137 : decode cX9_verdictOf 137 = .ok (.goto 13, 3) := by decide +kernel
theorem dX9_verdictOf_140 : decode cX9_verdictOf 140 = .ok (.iload 5, 2) := by decide +kernel
theorem dX9_verdictOf_142 : decode cX9_verdictOf 142 = .ok (.ifCond .eq 7, 3) := by decide +kernel
theorem dX9_verdictOf_145 : decode cX9_verdictOf 145 = .ok (.iconst 0, 1) := by decide +kernel
theorem dX9_verdictOf_146 : decode cX9_verdictOf 146 = .ok (.goto 4, 3) := by decide +kernel
theorem dX9_verdictOf_149 : decode cX9_verdictOf 149 = .ok (.iconst 4, 1) := by decide +kernel
theorem dX9_verdictOf_150 : decode cX9_verdictOf 150 = .ok (.ireturn, 1) := by decide +kernel
theorem dX9_isGone_0 : decode cX9_isGone 0 = .ok (.aload_n 0, 1) := by decide +kernel
theorem dX9_isGone_1 : decode cX9_isGone 1 = .ok (.iload_n 1, 1) := by decide +kernel
theorem dX9_isGone_2 : decode cX9_isGone 2 = .ok (.invokevirtual 294, 3) := by decide +kernel
theorem dX9_isGone_5 : decode cX9_isGone 5 = .ok (.istore_n 2, 1) := by decide +kernel
theorem dX9_isGone_6 : decode cX9_isGone 6 = .ok (.iload_n 2, 1) := by decide +kernel
theorem dX9_isGone_7 : decode cX9_isGone 7 = .ok (.iconst 2, 1) := by decide +kernel
theorem dX9_isGone_8 : decode cX9_isGone 8 = .ok (.if_icmp .eq 8, 3) := by decide +kernel
theorem dX9_isGone_11 : decode cX9_isGone 11 = .ok (.iload_n 2, 1) := by decide +kernel
theorem dX9_isGone_12 : decode cX9_isGone 12 = .ok (.iconst 3, 1) := by decide +kernel
theorem dX9_isGone_13 : decode cX9_isGone 13 = .ok (.if_icmp .ne 7, 3) := by decide +kernel
theorem dX9_isGone_16 : decode cX9_isGone 16 = .ok (.iconst 1, 1) := by decide +kernel
theorem dX9_isGone_17 : decode cX9_isGone 17 = .ok (.goto 4, 3) := by decide +kernel
theorem dX9_isGone_20 : decode cX9_isGone 20 = .ok (.iconst 0, 1) := by decide +kernel
theorem dX9_isGone_21 : decode cX9_isGone 21 = .ok (.ireturn, 1) := by decide +kernel
theorem dX9_isKey_0 : decode cX9_isKey 0 = .ok (.iload_n 0, 1) := by decide +kernel
theorem dX9_isKey_1 : decode cX9_isKey 1 = .ok (.i2l, 1) := by decide +kernel
theorem dX9_isKey_2 : decode cX9_isKey 2 = .ok (.lconst 0, 1) := by decide +kernel
theorem dX9_isKey_3 : decode cX9_isKey 3 = .ok (.ldc2_w 297, 3) := by decide +kernel
theorem dX9_isKey_6 : decode cX9_isKey 6 = .ok (.invokestatic 264, 3) := by decide +kernel
theorem dX9_isKey_9 : decode cX9_isKey 9 = .ok (.ireturn, 1) := by decide +kernel
theorem dX9_step_0 : decode cX9_step 0 = .ok (.iconst 0, 1) := by decide +kernel
theorem dX9_step_1 : decode cX9_step 1 = .ok (.istore 5, 2) := by decide +kernel
theorem dX9_step_3 : decode cX9_step 3 = .ok (.iload 5, 2) := by decide +kernel
theorem dX9_step_5 : decode cX9_step 5 = .ok (.aload_n 0, 1) := by decide +kernel
theorem dX9_step_6 : decode cX9_step 6 = .ok (.getfield 237, 3) := by decide +kernel
theorem dX9_step_9 : decode cX9_step 9 = .ok (.if_icmp .ge 41, 3) := by decide +kernel
theorem dX9_step_12 : decode cX9_step 12 = .ok (.aload_n 0, 1) := by decide +kernel
theorem dX9_step_13 : decode cX9_step 13 = .ok (.getfield 113, 3) := by decide +kernel
theorem dX9_step_16 : decode cX9_step 16 = .ok (.iload 5, 2) := by decide +kernel
theorem dX9_step_18 : decode cX9_step 18 = .ok (.iload 4, 2) := by decide +kernel
theorem dX9_step_20 : decode cX9_step 20 = .ok (.ifCond .eq 22, 3) := by decide +kernel
theorem dX9_step_23 : decode cX9_step 23 = .ok (.aload_n 0, 1) := by decide +kernel
theorem dX9_step_24 : decode cX9_step 24 = .ok (.getfield 110, 3) := by decide +kernel
theorem dX9_step_27 : decode cX9_step 27 = .ok (.bipush 60, 2) := by decide +kernel
theorem dX9_step_29 : decode cX9_step 29 = .ok (.iload_n 1, 1) := by decide +kernel
theorem dX9_step_30 : decode cX9_step 30 = .ok (.imul, 1) := by decide +kernel
theorem dX9_step_31 : decode cX9_step 31 = .ok (.iload 5, 2) := by decide +kernel
theorem dX9_step_33 : decode cX9_step 33 = .ok (.iadd, 1) := by decide +kernel
theorem dX9_step_34 : decode cX9_step 34 = .ok (.baload, 1) := by decide +kernel
theorem dX9_step_35 : decode cX9_step 35 = .ok (.ifCond .eq 7, 3) := by decide +kernel
theorem dX9_step_38 : decode cX9_step 38 = .ok (.iconst 1, 1) := by decide +kernel
theorem dX9_step_39 : decode cX9_step 39 = .ok (.goto 4, 3) := by decide +kernel
theorem dX9_step_42 : decode cX9_step 42 = .ok (.iconst 0, 1) := by decide +kernel
theorem dX9_step_43 : decode cX9_step 43 = .ok (.bastore, 1) := by decide +kernel
theorem dX9_step_44 : decode cX9_step 44 = .ok (.iinc 5 1, 3) := by decide +kernel
theorem dX9_step_47 : decode cX9_step 47 = .ok (.goto (-44), 3) := by decide +kernel
theorem dX9_step_50 : decode cX9_step 50 = .ok (.iconst 0, 1) := by decide +kernel
theorem dX9_step_51 : decode cX9_step 51 = .ok (.istore 5, 2) := by decide +kernel
theorem dX9_step_53 : decode cX9_step 53 = .ok (.iload 5, 2) := by decide +kernel
theorem dX9_step_55 : decode cX9_step 55 = .ok (.aload_n 0, 1) := by decide +kernel
theorem dX9_step_56 : decode cX9_step 56 = .ok (.getfield 237, 3) := by decide +kernel
theorem dX9_step_59 : decode cX9_step 59 = .ok (.if_icmp .ge 57, 3) := by decide +kernel
theorem dX9_step_62 : decode cX9_step 62 = .ok (.iload_n 2, 1) := by decide +kernel
theorem dX9_step_63 : decode cX9_step 63 = .ok (.istore 6, 2) := by decide +kernel
theorem dX9_step_65 : decode cX9_step 65 = .ok (.iload 6, 2) := by decide +kernel
theorem dX9_step_67 : decode cX9_step 67 = .ok (.iload_n 3, 1) := by decide +kernel
theorem dX9_step_68 : decode cX9_step 68 = .ok (.if_icmp .gt 42, 3) := by decide +kernel
theorem dX9_step_71 : decode cX9_step 71 = .ok (.aload_n 0, 1) := by decide +kernel
theorem dX9_step_72 : decode cX9_step 72 = .ok (.getfield 110, 3) := by decide +kernel
theorem dX9_step_75 : decode cX9_step 75 = .ok (.bipush 60, 2) := by decide +kernel
theorem dX9_step_77 : decode cX9_step 77 = .ok (.iload_n 1, 1) := by decide +kernel
theorem dX9_step_78 : decode cX9_step 78 = .ok (.imul, 1) := by decide +kernel
theorem dX9_step_79 : decode cX9_step 79 = .ok (.iload 5, 2) := by decide +kernel
theorem dX9_step_81 : decode cX9_step 81 = .ok (.iadd, 1) := by decide +kernel
theorem dX9_step_82 : decode cX9_step 82 = .ok (.baload, 1) := by decide +kernel
theorem dX9_step_83 : decode cX9_step 83 = .ok (.ifCond .eq 27, 3) := by decide +kernel
theorem dX9_step_86 : decode cX9_step 86 = .ok (.aload_n 0, 1) := by decide +kernel
theorem dX9_step_87 : decode cX9_step 87 = .ok (.getfield 113, 3) := by decide +kernel
theorem dX9_step_90 : decode cX9_step 90 = .ok (.aload_n 0, 1) := by decide +kernel
theorem dX9_step_91 : decode cX9_step 91 = .ok (.getfield 85, 3) := by decide +kernel
theorem dX9_step_94 : decode cX9_step 94 = .ok (.iconst 4, 1) := by decide +kernel
theorem dX9_step_95 : decode cX9_step 95 = .ok (.iload 5, 2) := by decide +kernel
theorem dX9_step_97 : decode cX9_step 97 = .ok (.imul, 1) := by decide +kernel
theorem dX9_step_98 : decode cX9_step 98 = .ok (.iload 6, 2) := by decide +kernel
theorem dX9_step_100 : decode cX9_step 100 = .ok (.iadd, 1) := by decide +kernel
theorem dX9_step_101 : decode cX9_step 101 = .ok (.iaload, 1) := by decide +kernel
theorem dX9_step_102 : decode cX9_step 102 = .ok (.iconst 1, 1) := by decide +kernel
theorem dX9_step_103 : decode cX9_step 103 = .ok (.bastore, 1) := by decide +kernel
theorem dX9_step_104 : decode cX9_step 104 = .ok (.iinc 6 1, 3) := by decide +kernel
theorem dX9_step_107 : decode cX9_step 107 = .ok (.goto (-42), 3) := by decide +kernel
theorem dX9_step_110 : decode cX9_step 110 = .ok (.iinc 5 1, 3) := by decide +kernel
theorem dX9_step_113 : decode cX9_step 113 = .ok (.goto (-60), 3) := by decide +kernel
theorem dX9_step_116 : decode cX9_step 116 = .ok (.iconst 0, 1) := by decide +kernel
theorem dX9_step_117 : decode cX9_step 117 = .ok (.istore 5, 2) := by decide +kernel
theorem dX9_step_119 : decode cX9_step 119 = .ok (.iload 5, 2) := by decide +kernel
theorem dX9_step_121 : decode cX9_step 121 = .ok (.aload_n 0, 1) := by decide +kernel
theorem dX9_step_122 : decode cX9_step 122 = .ok (.getfield 237, 3) := by decide +kernel
theorem dX9_step_125 : decode cX9_step 125 = .ok (.if_icmp .ge 28, 3) := by decide +kernel
theorem dX9_step_128 : decode cX9_step 128 = .ok (.aload_n 0, 1) := by decide +kernel
theorem dX9_step_129 : decode cX9_step 129 = .ok (.getfield 110, 3) := by decide +kernel
theorem dX9_step_132 : decode cX9_step 132 = .ok (.bipush 60, 2) := by decide +kernel
theorem dX9_step_134 : decode cX9_step 134 = .ok (.iload_n 1, 1) := by decide +kernel
theorem dX9_step_135 : decode cX9_step 135 = .ok (.imul, 1) := by decide +kernel
theorem dX9_step_136 : decode cX9_step 136 = .ok (.iload 5, 2) := by decide +kernel
theorem dX9_step_138 : decode cX9_step 138 = .ok (.iadd, 1) := by decide +kernel
theorem dX9_step_139 : decode cX9_step 139 = .ok (.aload_n 0, 1) := by decide +kernel
theorem dX9_step_140 : decode cX9_step 140 = .ok (.getfield 113, 3) := by decide +kernel
theorem dX9_step_143 : decode cX9_step 143 = .ok (.iload 5, 2) := by decide +kernel
theorem dX9_step_145 : decode cX9_step 145 = .ok (.baload, 1) := by decide +kernel
theorem dX9_step_146 : decode cX9_step 146 = .ok (.bastore, 1) := by decide +kernel
theorem dX9_step_147 : decode cX9_step 147 = .ok (.iinc 5 1, 3) := by decide +kernel
theorem dX9_step_150 : decode cX9_step 150 = .ok (.goto (-31), 3) := by decide +kernel
theorem dX9_step_153 : decode cX9_step 153 = .ok (.return_, 1) := by decide +kernel
theorem dX9_event_0 : decode cX9_event 0 = .ok (.aload_n 0, 1) := by decide +kernel
theorem dX9_event_1 : decode cX9_event 1 = .ok (.getfield 257, 3) := by decide +kernel
theorem dX9_event_4 : decode cX9_event 4 = .ok (.ifCond .ne 6, 3) := by decide +kernel
theorem dX9_event_7 : decode cX9_event 7 = .ok (.bipush (-3), 2) := by decide +kernel
theorem dX9_event_9 : decode cX9_event 9 = .ok (.ireturn, 1) := by decide +kernel
theorem dX9_event_10 : decode cX9_event 10 = .ok (.iload_n 1, 1) := by decide +kernel
theorem dX9_event_11 : decode cX9_event 11 = .ok (.i2l, 1) := by decide +kernel
theorem dX9_event_12 : decode cX9_event 12 = .ok (.lconst 0, 1) := by decide +kernel
theorem dX9_event_13 : decode cX9_event 13 = .ok (.ldc2_w 271, 3) := by decide +kernel
theorem dX9_event_16 : decode cX9_event 16 = .ok (.invokestatic 264, 3) := by decide +kernel
theorem dX9_event_19 : decode cX9_event 19 = .ok (.ifCond .eq 10, 3) := by decide +kernel
theorem dX9_event_22 : decode cX9_event 22 = .ok (.iload_n 2, 1) := by decide +kernel
theorem dX9_event_23 : decode cX9_event 23 = .ok (.invokestatic 299, 3) := by decide +kernel
theorem dX9_event_26 : decode cX9_event 26 = .ok (.ifCond .ne 5, 3) := by decide +kernel
theorem dX9_event_29 : decode cX9_event 29 = .ok (.iconst (-1), 1) := by decide +kernel
theorem dX9_event_30 : decode cX9_event 30 = .ok (.ireturn, 1) := by decide +kernel
theorem dX9_event_31 : decode cX9_event 31 = .ok (.aload_n 0, 1) := by decide +kernel
theorem dX9_event_32 : decode cX9_event 32 = .ok (.iload_n 2, 1) := by decide +kernel
theorem dX9_event_33 : decode cX9_event 33 = .ok (.invokevirtual 302, 3) := by decide +kernel
theorem dX9_event_36 : decode cX9_event 36 = .ok (.ifCond .ne 21, 3) := by decide +kernel
theorem dX9_event_39 : decode cX9_event 39 = .ok (.aload_n 0, 1) := by decide +kernel
theorem dX9_event_40 : decode cX9_event 40 = .ok (.iload_n 2, 1) := by decide +kernel
theorem dX9_event_41 : decode cX9_event 41 = .ok (.iload_n 1, 1) := by decide +kernel
theorem dX9_event_42 : decode cX9_event 42 = .ok (.iload_n 1, 1) := by decide +kernel
theorem dX9_event_43 : decode cX9_event 43 = .ok (.iconst 0, 1) := by decide +kernel
theorem dX9_event_44 : decode cX9_event 44 = .ok (.invokevirtual 305, 3) := by decide +kernel
theorem dX9_event_47 : decode cX9_event 47 = .ok (.aload_n 0, 1) := by decide +kernel
theorem dX9_event_48 : decode cX9_event 48 = .ok (.getfield 116, 3) := by decide +kernel
theorem dX9_event_51 : decode cX9_event 51 = .ok (.iload_n 2, 1) := by decide +kernel
theorem dX9_event_52 : decode cX9_event 52 = .ok (.dup2, 1) := by decide +kernel
theorem dX9_event_53 : decode cX9_event 53 = .ok (.iaload, 1) := by decide +kernel
theorem dX9_event_54 : decode cX9_event 54 = .ok (.iconst 1, 1) := by decide +kernel
theorem dX9_event_55 : decode cX9_event 55 = .ok (.iadd, 1) := by decide +kernel
theorem dX9_event_56 : decode cX9_event 56 = .ok (.iastore, 1) := by decide +kernel
theorem dX9_event_57 : decode cX9_event 57 = .ok (.aload_n 0, 1) := by decide +kernel
theorem dX9_event_58 : decode cX9_event 58 = .ok (.iload_n 2, 1) := by decide +kernel
theorem dX9_event_59 : decode cX9_event 59 = .ok (.invokevirtual 294, 3) := by decide +kernel
theorem dX9_event_62 : decode cX9_event 62 = .ok (.ireturn, 1) := by decide +kernel
theorem dX9_lost_0 : decode cX9_lost 0 = .ok (.aload_n 0, 1) := by decide +kernel
theorem dX9_lost_1 : decode cX9_lost 1 = .ok (.getfield 257, 3) := by decide +kernel
theorem dX9_lost_4 : decode cX9_lost 4 = .ok (.ifCond .ne 6, 3) := by decide +kernel
theorem dX9_lost_7 : decode cX9_lost 7 = .ok (.bipush (-3), 2) := by decide +kernel
theorem dX9_lost_9 : decode cX9_lost 9 = .ok (.ireturn, 1) := by decide +kernel
theorem dX9_lost_10 : decode cX9_lost 10 = .ok (.iload_n 1, 1) := by decide +kernel
theorem dX9_lost_11 : decode cX9_lost 11 = .ok (.invokestatic 299, 3) := by decide +kernel
theorem dX9_lost_14 : decode cX9_lost 14 = .ok (.ifCond .ne 5, 3) := by decide +kernel
theorem dX9_lost_17 : decode cX9_lost 17 = .ok (.iconst (-1), 1) := by decide +kernel
theorem dX9_lost_18 : decode cX9_lost 18 = .ok (.ireturn, 1) := by decide +kernel
theorem dX9_lost_19 : decode cX9_lost 19 = .ok (.iload_n 2, 1) := by decide +kernel
theorem dX9_lost_20 : decode cX9_lost 20 = .ok (.i2l, 1) := by decide +kernel
theorem dX9_lost_21 : decode cX9_lost 21 = .ok (.lconst 1, 1) := by decide +kernel
theorem dX9_lost_22 : decode cX9_lost 22 = .ok (.ldc2_w 309, 3) := by decide +kernel
theorem dX9_lost_25 : decode cX9_lost 25 = .ok (.invokestatic 264, 3) := by decide +kernel
theorem dX9_lost_28 : decode cX9_lost 28 = .ok (.ifCond .ne 6, 3) := by decide +kernel
theorem dX9_lost_31 : decode cX9_lost 31 = .ok (.bipush (-2), 2) := by decide +kernel
theorem dX9_lost_33 : decode cX9_lost 33 = .ok (.ireturn, 1) := by decide +kernel
theorem dX9_lost_34 : decode cX9_lost 34 = .ok (.aload_n 0, 1) := by decide +kernel
theorem dX9_lost_35 : decode cX9_lost 35 = .ok (.iload_n 1, 1) := by decide +kernel
theorem dX9_lost_36 : decode cX9_lost 36 = .ok (.invokevirtual 302, 3) := by decide +kernel
theorem dX9_lost_39 : decode cX9_lost 39 = .ok (.istore_n 3, 1) := by decide +kernel
theorem dX9_lost_40 : decode cX9_lost 40 = .ok (.iconst 0, 1) := by decide +kernel
theorem dX9_lost_41 : decode cX9_lost 41 = .ok (.istore 4, 2) := by decide +kernel
theorem dX9_lost_43 : decode cX9_lost 43 = .ok (.iload 4, 2) := by decide +kernel
theorem dX9_lost_45 : decode cX9_lost 45 = .ok (.iload_n 2, 1) := by decide +kernel
theorem dX9_lost_46 : decode cX9_lost 46 = .ok (.if_icmp .ge 21, 3) := by decide +kernel
theorem dX9_lost_49 : decode cX9_lost 49 = .ok (.iload_n 3, 1) := by decide +kernel
theorem dX9_lost_50 : decode cX9_lost 50 = .ok (.ifCond .ne 17, 3) := by decide +kernel
theorem dX9_lost_53 : decode cX9_lost 53 = .ok (.aload_n 0, 1) := by decide +kernel
theorem dX9_lost_54 : decode cX9_lost 54 = .ok (.iload_n 1, 1) := by decide +kernel
theorem dX9_lost_55 : decode cX9_lost 55 = .ok (.iconst 0, 1) := by decide +kernel
theorem dX9_lost_56 : decode cX9_lost 56 = .ok (.iconst 3, 1) := by decide +kernel
theorem dX9_lost_57 : decode cX9_lost 57 = .ok (.iconst 1, 1) := by decide +kernel
theorem dX9_lost_58 : decode cX9_lost 58 = .ok (.invokevirtual 305, 3) := by decide +kernel
theorem dX9_lost_61 : decode cX9_lost 61 = .ok (.iinc 4 1, 3) := by decide +kernel
theorem dX9_lost_64 : decode cX9_lost 64 = .ok (.goto (-21), 3) := by decide +kernel
theorem dX9_lost_67 : decode cX9_lost 67 = .ok (.aload_n 0, 1) := by decide +kernel
theorem dX9_lost_68 : decode cX9_lost 68 = .ok (.iload_n 1, 1) := by decide +kernel
theorem dX9_lost_69 : decode cX9_lost 69 = .ok (.invokevirtual 294, 3) := by decide +kernel
theorem dX9_lost_72 : decode cX9_lost 72 = .ok (.ireturn, 1) := by decide +kernel
theorem dX9_told_0 : decode cX9_told 0 = .ok (.aload_n 0, 1) := by decide +kernel
theorem dX9_told_1 : decode cX9_told 1 = .ok (.getfield 257, 3) := by decide +kernel
theorem dX9_told_4 : decode cX9_told 4 = .ok (.ifCond .ne 6, 3) := by decide +kernel
theorem dX9_told_7 : decode cX9_told 7 = .ok (.bipush (-3), 2) := by decide +kernel
theorem dX9_told_9 : decode cX9_told 9 = .ok (.ireturn, 1) := by decide +kernel
theorem dX9_told_10 : decode cX9_told 10 = .ok (.iload_n 1, 1) := by decide +kernel
theorem dX9_told_11 : decode cX9_told 11 = .ok (.invokestatic 299, 3) := by decide +kernel
theorem dX9_told_14 : decode cX9_told 14 = .ok (.ifCond .eq 11, 3) := by decide +kernel
theorem dX9_told_17 : decode cX9_told 17 = .ok (.aload_n 0, 1) := by decide +kernel
theorem dX9_told_18 : decode cX9_told 18 = .ok (.iload_n 1, 1) := by decide +kernel
theorem dX9_told_19 : decode cX9_told 19 = .ok (.invokevirtual 294, 3) := by decide +kernel
theorem dX9_told_22 : decode cX9_told 22 = .ok (.goto 4, 3) := by decide +kernel
theorem dX9_told_25 : decode cX9_told 25 = .ok (.iconst (-1), 1) := by decide +kernel
theorem dX9_told_26 : decode cX9_told 26 = .ok (.ireturn, 1) := by decide +kernel
theorem dX9_may_0 : decode cX9_may 0 = .ok (.aload_n 0, 1) := by decide +kernel
theorem dX9_may_1 : decode cX9_may 1 = .ok (.getfield 257, 3) := by decide +kernel
theorem dX9_may_4 : decode cX9_may 4 = .ok (.ifCond .ne 6, 3) := by decide +kernel
theorem dX9_may_7 : decode cX9_may 7 = .ok (.bipush (-3), 2) := by decide +kernel
theorem dX9_may_9 : decode cX9_may 9 = .ok (.ireturn, 1) := by decide +kernel
theorem dX9_may_10 : decode cX9_may 10 = .ok (.iload_n 1, 1) := by decide +kernel
theorem dX9_may_11 : decode cX9_may 11 = .ok (.invokestatic 299, 3) := by decide +kernel
theorem dX9_may_14 : decode cX9_may 14 = .ok (.ifCond .ne 5, 3) := by decide +kernel
theorem dX9_may_17 : decode cX9_may 17 = .ok (.iconst (-1), 1) := by decide +kernel
theorem dX9_may_18 : decode cX9_may 18 = .ok (.ireturn, 1) := by decide +kernel
theorem dX9_may_19 : decode cX9_may 19 = .ok (.iconst 0, 1) := by decide +kernel
theorem dX9_may_20 : decode cX9_may 20 = .ok (.istore_n 2, 1) := by decide +kernel
theorem dX9_may_21 : decode cX9_may 21 = .ok (.iconst 0, 1) := by decide +kernel
theorem dX9_may_22 : decode cX9_may 22 = .ok (.istore_n 3, 1) := by decide +kernel
theorem dX9_may_23 : decode cX9_may 23 = .ok (.iload_n 3, 1) := by decide +kernel
theorem dX9_may_24 : decode cX9_may 24 = .ok (.aload_n 0, 1) := by decide +kernel
theorem dX9_may_25 : decode cX9_may 25 = .ok (.getfield 237, 3) := by decide +kernel
theorem dX9_may_28 : decode cX9_may 28 = .ok (.if_icmp .ge 31, 3) := by decide +kernel
theorem dX9_may_31 : decode cX9_may 31 = .ok (.iload_n 2, 1) := by decide +kernel
theorem dX9_may_32 : decode cX9_may 32 = .ok (.aload_n 0, 1) := by decide +kernel
theorem dX9_may_33 : decode cX9_may 33 = .ok (.getfield 110, 3) := by decide +kernel
theorem dX9_may_36 : decode cX9_may 36 = .ok (.bipush 60, 2) := by decide +kernel
theorem dX9_may_38 : decode cX9_may 38 = .ok (.iload_n 1, 1) := by decide +kernel
theorem dX9_may_39 : decode cX9_may 39 = .ok (.imul, 1) := by decide +kernel
theorem dX9_may_40 : decode cX9_may 40 = .ok (.iload_n 3, 1) := by decide +kernel
theorem dX9_may_41 : decode cX9_may 41 = .ok (.iadd, 1) := by decide +kernel
theorem dX9_may_42 : decode cX9_may 42 = .ok (.baload, 1) := by decide +kernel
theorem dX9_may_43 : decode cX9_may 43 = .ok (.ifCond .eq 7, 3) := by decide +kernel
theorem dX9_may_46 : decode cX9_may 46 = .ok (.iconst 1, 1) := by decide +kernel
theorem dX9_may_47 : decode cX9_may 47 = .ok (.goto 4, 3) := by decide +kernel
theorem dX9_may_50 : decode cX9_may 50 = .ok (.iconst 0, 1) := by decide +kernel
theorem dX9_may_51 : decode cX9_may 51 = .ok (.iadd, 1) := by decide +kernel
theorem dX9_may_52 : decode cX9_may 52 = .ok (.istore_n 2, 1) := by decide +kernel
theorem dX9_may_53 : decode cX9_may 53 = .ok (.iinc 3 1, 3) := by decide +kernel
theorem dX9_may_56 : decode cX9_may 56 = .ok (.goto (-33), 3) := by decide +kernel
theorem dX9_may_59 : decode cX9_may 59 = .ok (.iload_n 2, 1) := by decide +kernel
theorem dX9_may_60 : decode cX9_may 60 = .ok (.ireturn, 1) := by decide +kernel
theorem dX9_state__0 : decode cX9_state_ 0 = .ok (.aload_n 0, 1) := by decide +kernel
theorem dX9_state__1 : decode cX9_state_ 1 = .ok (.getfield 257, 3) := by decide +kernel
theorem dX9_state__4 : decode cX9_state_ 4 = .ok (.ifCond .ne 6, 3) := by decide +kernel
theorem dX9_state__7 : decode cX9_state_ 7 = .ok (.bipush (-3), 2) := by decide +kernel
theorem dX9_state__9 : decode cX9_state_ 9 = .ok (.ireturn, 1) := by decide +kernel
theorem dX9_state__10 : decode cX9_state_ 10 = .ok (.iload_n 1, 1) := by decide +kernel
theorem dX9_state__11 : decode cX9_state_ 11 = .ok (.invokestatic 299, 3) := by decide +kernel
theorem dX9_state__14 : decode cX9_state_ 14 = .ok (.ifCond .ne 5, 3) := by decide +kernel
theorem dX9_state__17 : decode cX9_state_ 17 = .ok (.iconst (-1), 1) := by decide +kernel
theorem dX9_state__18 : decode cX9_state_ 18 = .ok (.ireturn, 1) := by decide +kernel
theorem dX9_state__19 : decode cX9_state_ 19 = .ok (.iload_n 2, 1) := by decide +kernel
theorem dX9_state__20 : decode cX9_state_ 20 = .ok (.istore_n 3, 1) := by decide +kernel
theorem dX9_state__21 : decode cX9_state_ 21 = .ok (.iconst 0, 1) := by decide +kernel
theorem dX9_state__22 : decode cX9_state_ 22 = .ok (.istore 4, 2) := by decide +kernel
theorem dX9_state__24 : decode cX9_state_ 24 = .ok (.iload 4, 2) := by decide +kernel
theorem dX9_state__26 : decode cX9_state_ 26 = .ok (.aload_n 0, 1) := by decide +kernel
theorem dX9_state__27 : decode cX9_state_ 27 = .ok (.getfield 237, 3) := by decide +kernel
theorem dX9_state__30 : decode cX9_state_ 30 = .ok (.if_icmp .ge 38, 3) := by decide +kernel
theorem dX9_state__33 : decode cX9_state_ 33 = .ok (.iload_n 2, 1) := by decide +kernel
theorem dX9_state__34 : decode cX9_state_ 34 = .ok (.ifCond .lt 34, 3) := by decide +kernel
theorem dX9_state__37 : decode cX9_state_ 37 = .ok (.aload_n 0, 1) := by decide +kernel
theorem dX9_state__38 : decode cX9_state_ 38 = .ok (.getfield 110, 3) := by decide +kernel
theorem dX9_state__41 : decode cX9_state_ 41 = .ok (.bipush 60, 2) := by decide +kernel
theorem dX9_state__43 : decode cX9_state_ 43 = .ok (.iload_n 1, 1) := by decide +kernel
theorem dX9_state__44 : decode cX9_state_ 44 = .ok (.imul, 1) := by decide +kernel
theorem dX9_state__45 : decode cX9_state_ 45 = .ok (.iload 4, 2) := by decide +kernel
theorem dX9_state__47 : decode cX9_state_ 47 = .ok (.iadd, 1) := by decide +kernel
theorem dX9_state__48 : decode cX9_state_ 48 = .ok (.baload, 1) := by decide +kernel
theorem dX9_state__49 : decode cX9_state_ 49 = .ok (.ifCond .eq 13, 3) := by decide +kernel
theorem dX9_state__52 : decode cX9_state_ 52 = .ok (.iload_n 3, 1) := by decide +kernel
theorem dX9_state__53 : decode cX9_state_ 53 = .ok (.ifCond .ne 6, 3) := by decide +kernel
theorem dX9_state__56 : decode cX9_state_ 56 = .ok (.iload 4, 2) := by decide +kernel
theorem dX9_state__58 : decode cX9_state_ 58 = .ok (.ireturn, 1) := by decide +kernel
theorem dX9_state__59 : decode cX9_state_ 59 = .ok (.iinc 3 (-1), 3) := by decide +kernel
theorem dX9_state__62 : decode cX9_state_ 62 = .ok (.iinc 4 1, 3) := by decide +kernel
theorem dX9_state__65 : decode cX9_state_ 65 = .ok (.goto (-41), 3) := by decide +kernel
theorem dX9_state__68 : decode cX9_state_ 68 = .ok (.bipush (-9), 2) := by decide +kernel
theorem dX9_state__70 : decode cX9_state_ 70 = .ok (.ireturn, 1) := by decide +kernel
theorem dX9_events_0 : decode cX9_events 0 = .ok (.aload_n 0, 1) := by decide +kernel
theorem dX9_events_1 : decode cX9_events 1 = .ok (.getfield 257, 3) := by decide +kernel
theorem dX9_events_4 : decode cX9_events 4 = .ok (.ifCond .ne 6, 3) := by decide +kernel
theorem dX9_events_7 : decode cX9_events 7 = .ok (.bipush (-3), 2) := by decide +kernel
theorem dX9_events_9 : decode cX9_events 9 = .ok (.ireturn, 1) := by decide +kernel
theorem dX9_events_10 : decode cX9_events 10 = .ok (.iload_n 1, 1) := by decide +kernel
theorem dX9_events_11 : decode cX9_events 11 = .ok (.invokestatic 299, 3) := by decide +kernel
theorem dX9_events_14 : decode cX9_events 14 = .ok (.ifCond .eq 12, 3) := by decide +kernel
theorem dX9_events_17 : decode cX9_events 17 = .ok (.aload_n 0, 1) := by decide +kernel
theorem dX9_events_18 : decode cX9_events 18 = .ok (.getfield 116, 3) := by decide +kernel
theorem dX9_events_21 : decode cX9_events 21 = .ok (.iload_n 1, 1) := by decide +kernel
theorem dX9_events_22 : decode cX9_events 22 = .ok (.iaload, 1) := by decide +kernel
theorem dX9_events_23 : decode cX9_events 23 = .ok (.goto 4, 3) := by decide +kernel
theorem dX9_events_26 : decode cX9_events 26 = .ok (.iconst (-1), 1) := by decide +kernel
theorem dX9_events_27 : decode cX9_events 27 = .ok (.ireturn, 1) := by decide +kernel
theorem dX9_anew_0 : decode cX9_anew 0 = .ok (.aload_n 0, 1) := by decide +kernel
theorem dX9_anew_1 : decode cX9_anew 1 = .ok (.getfield 257, 3) := by decide +kernel
theorem dX9_anew_4 : decode cX9_anew 4 = .ok (.ifCond .ne 6, 3) := by decide +kernel
theorem dX9_anew_7 : decode cX9_anew 7 = .ok (.bipush (-3), 2) := by decide +kernel
theorem dX9_anew_9 : decode cX9_anew 9 = .ok (.ireturn, 1) := by decide +kernel
theorem dX9_anew_10 : decode cX9_anew 10 = .ok (.iload_n 1, 1) := by decide +kernel
theorem dX9_anew_11 : decode cX9_anew 11 = .ok (.invokestatic 299, 3) := by decide +kernel
theorem dX9_anew_14 : decode cX9_anew 14 = .ok (.ifCond .ne 5, 3) := by decide +kernel
theorem dX9_anew_17 : decode cX9_anew 17 = .ok (.iconst (-1), 1) := by decide +kernel
theorem dX9_anew_18 : decode cX9_anew 18 = .ok (.ireturn, 1) := by decide +kernel
theorem dX9_anew_19 : decode cX9_anew 19 = .ok (.aload_n 0, 1) := by decide +kernel
theorem dX9_anew_20 : decode cX9_anew 20 = .ok (.iload_n 1, 1) := by decide +kernel
theorem dX9_anew_21 : decode cX9_anew 21 = .ok (.invokevirtual 294, 3) := by decide +kernel
theorem dX9_anew_24 : decode cX9_anew 24 = .ok (.istore_n 2, 1) := by decide +kernel
theorem dX9_anew_25 : decode cX9_anew 25 = .ok (.aload_n 0, 1) := by decide +kernel
theorem dX9_anew_26 : decode cX9_anew 26 = .ok (.iload_n 1, 1) := by decide +kernel
theorem dX9_anew_27 : decode cX9_anew 27 = .ok (.invokevirtual 261, 3) := by decide +kernel
theorem dX9_anew_30 : decode cX9_anew 30 = .ok (.iload_n 2, 1) := by decide +kernel
theorem dX9_anew_31 : decode cX9_anew 31 = .ok (.ireturn, 1) := by decide +kernel
theorem dX9_keep_0 : decode cX9_keep 0 = .ok (.aload_n 0, 1) := by decide +kernel
theorem dX9_keep_1 : decode cX9_keep 1 = .ok (.getfield 257, 3) := by decide +kernel
theorem dX9_keep_4 : decode cX9_keep 4 = .ok (.ifCond .ne 6, 3) := by decide +kernel
theorem dX9_keep_7 : decode cX9_keep 7 = .ok (.bipush (-3), 2) := by decide +kernel
theorem dX9_keep_9 : decode cX9_keep 9 = .ok (.ireturn, 1) := by decide +kernel
theorem dX9_keep_10 : decode cX9_keep 10 = .ok (.aload_n 0, 1) := by decide +kernel
theorem dX9_keep_11 : decode cX9_keep 11 = .ok (.iconst 1, 1) := by decide +kernel
theorem dX9_keep_12 : decode cX9_keep 12 = .ok (.putfield 311, 3) := by decide +kernel
theorem dX9_keep_15 : decode cX9_keep 15 = .ok (.aload_n 0, 1) := by decide +kernel
theorem dX9_keep_16 : decode cX9_keep 16 = .ok (.aload_n 0, 1) := by decide +kernel
theorem dX9_keep_17 : decode cX9_keep 17 = .ok (.getfield 237, 3) := by decide +kernel
theorem dX9_keep_20 : decode cX9_keep 20 = .ok (.putfield 314, 3) := by decide +kernel
theorem dX9_keep_23 : decode cX9_keep 23 = .ok (.iconst 0, 1) := by decide +kernel
theorem dX9_keep_24 : decode cX9_keep 24 = .ok (.istore_n 1, 1) := by decide +kernel
theorem dX9_keep_25 : decode cX9_keep 25 = .ok (.iload_n 1, 1) := by decide +kernel
theorem dX9_keep_26 : decode cX9_keep 26 = .ok (.iconst 4, 1) := by decide +kernel
theorem dX9_keep_27 : decode cX9_keep 27 = .ok (.aload_n 0, 1) := by decide +kernel
theorem dX9_keep_28 : decode cX9_keep 28 = .ok (.getfield 237, 3) := by decide +kernel
theorem dX9_keep_31 : decode cX9_keep 31 = .ok (.imul, 1) := by decide +kernel
theorem dX9_keep_32 : decode cX9_keep 32 = .ok (.if_icmp .ge 21, 3) := by decide +kernel
theorem dX9_keep_35 : decode cX9_keep 35 = .ok (.aload_n 0, 1) := by decide +kernel
theorem dX9_keep_36 : decode cX9_keep 36 = .ok (.getfield 119, 3) := by decide +kernel
theorem dX9_keep_39 : decode cX9_keep 39 = .ok (.iload_n 1, 1) := by decide +kernel
theorem dX9_keep_40 : decode cX9_keep 40 = .ok (.aload_n 0, 1) := by decide +kernel
theorem dX9_keep_41 : decode cX9_keep 41 = .ok (.getfield 85, 3) := by decide +kernel
theorem dX9_keep_44 : decode cX9_keep 44 = .ok (.iload_n 1, 1) := by decide +kernel
theorem dX9_keep_45 : decode cX9_keep 45 = .ok (.iaload, 1) := by decide +kernel
theorem dX9_keep_46 : decode cX9_keep 46 = .ok (.iastore, 1) := by decide +kernel
theorem dX9_keep_47 : decode cX9_keep 47 = .ok (.iinc 1 1, 3) := by decide +kernel
theorem dX9_keep_50 : decode cX9_keep 50 = .ok (.goto (-25), 3) := by decide +kernel
theorem dX9_keep_53 : decode cX9_keep 53 = .ok (.iconst 0, 1) := by decide +kernel
theorem dX9_keep_54 : decode cX9_keep 54 = .ok (.istore_n 1, 1) := by decide +kernel
theorem dX9_keep_55 : decode cX9_keep 55 = .ok (.iload_n 1, 1) := by decide +kernel
theorem dX9_keep_56 : decode cX9_keep 56 = .ok (.aload_n 0, 1) := by decide +kernel
theorem dX9_keep_57 : decode cX9_keep 57 = .ok (.getfield 237, 3) := by decide +kernel
theorem dX9_keep_60 : decode cX9_keep 60 = .ok (.if_icmp .ge 21, 3) := by decide +kernel
theorem dX9_keep_63 : decode cX9_keep 63 = .ok (.aload_n 0, 1) := by decide +kernel
theorem dX9_keep_64 : decode cX9_keep 64 = .ok (.getfield 122, 3) := by decide +kernel
theorem dX9_keep_67 : decode cX9_keep 67 = .ok (.iload_n 1, 1) := by decide +kernel
theorem dX9_keep_68 : decode cX9_keep 68 = .ok (.aload_n 0, 1) := by decide +kernel
theorem dX9_keep_69 : decode cX9_keep 69 = .ok (.getfield 88, 3) := by decide +kernel
theorem dX9_keep_72 : decode cX9_keep 72 = .ok (.iload_n 1, 1) := by decide +kernel
theorem dX9_keep_73 : decode cX9_keep 73 = .ok (.baload, 1) := by decide +kernel
theorem dX9_keep_74 : decode cX9_keep 74 = .ok (.bastore, 1) := by decide +kernel
theorem dX9_keep_75 : decode cX9_keep 75 = .ok (.iinc 1 1, 3) := by decide +kernel
theorem dX9_keep_78 : decode cX9_keep 78 = .ok (.goto (-23), 3) := by decide +kernel
theorem dX9_keep_81 : decode cX9_keep 81 = .ok (.aload_n 0, 1) := by decide +kernel
theorem dX9_keep_82 : decode cX9_keep 82 = .ok (.getfield 237, 3) := by decide +kernel
theorem dX9_keep_85 : decode cX9_keep 85 = .ok (.ireturn, 1) := by decide +kernel
theorem dX9_meetPair_0 : decode cX9_meetPair 0 = .ok (.aload_n 0, 1) := by decide +kernel
theorem dX9_meetPair_1 : decode cX9_meetPair 1 = .ok (.getfield 131, 3) := by decide +kernel
theorem dX9_meetPair_4 : decode cX9_meetPair 4 = .ok (.iload_n 1, 1) := by decide +kernel
theorem dX9_meetPair_5 : decode cX9_meetPair 5 = .ok (.baload, 1) := by decide +kernel
theorem dX9_meetPair_6 : decode cX9_meetPair 6 = .ok (.ifCond .ne 40, 3) := by decide +kernel
theorem dX9_meetPair_9 : decode cX9_meetPair 9 = .ok (.aload_n 0, 1) := by decide +kernel
theorem dX9_meetPair_10 : decode cX9_meetPair 10 = .ok (.getfield 131, 3) := by decide +kernel
theorem dX9_meetPair_13 : decode cX9_meetPair 13 = .ok (.iload_n 1, 1) := by decide +kernel
theorem dX9_meetPair_14 : decode cX9_meetPair 14 = .ok (.iconst 1, 1) := by decide +kernel
theorem dX9_meetPair_15 : decode cX9_meetPair 15 = .ok (.bastore, 1) := by decide +kernel
theorem dX9_meetPair_16 : decode cX9_meetPair 16 = .ok (.aload_n 0, 1) := by decide +kernel
theorem dX9_meetPair_17 : decode cX9_meetPair 17 = .ok (.getfield 125, 3) := by decide +kernel
theorem dX9_meetPair_20 : decode cX9_meetPair 20 = .ok (.aload_n 0, 1) := by decide +kernel
theorem dX9_meetPair_21 : decode cX9_meetPair 21 = .ok (.getfield 317, 3) := by decide +kernel
theorem dX9_meetPair_24 : decode cX9_meetPair 24 = .ok (.iload_n 1, 1) := by decide +kernel
theorem dX9_meetPair_25 : decode cX9_meetPair 25 = .ok (.iastore, 1) := by decide +kernel
theorem dX9_meetPair_26 : decode cX9_meetPair 26 = .ok (.aload_n 0, 1) := by decide +kernel
theorem dX9_meetPair_27 : decode cX9_meetPair 27 = .ok (.getfield 128, 3) := by decide +kernel
theorem dX9_meetPair_30 : decode cX9_meetPair 30 = .ok (.aload_n 0, 1) := by decide +kernel
theorem dX9_meetPair_31 : decode cX9_meetPair 31 = .ok (.getfield 317, 3) := by decide +kernel
theorem dX9_meetPair_34 : decode cX9_meetPair 34 = .ok (.iload_n 2, 1) := by decide +kernel
theorem dX9_meetPair_35 : decode cX9_meetPair 35 = .ok (.iastore, 1) := by decide +kernel
theorem dX9_meetPair_36 : decode cX9_meetPair 36 = .ok (.aload_n 0, 1) := by decide +kernel
theorem dX9_meetPair_37 : decode cX9_meetPair 37 = .ok (.dup, 1) := by decide +kernel
theorem dX9_meetPair_38 : decode cX9_meetPair 38 = .ok (.getfield 317, 3) := by decide +kernel
theorem dX9_meetPair_41 : decode cX9_meetPair 41 = .ok (.iconst 1, 1) := by decide +kernel
theorem dX9_meetPair_42 : decode cX9_meetPair 42 = .ok (.iadd, 1) := by decide +kernel
theorem dX9_meetPair_43 : decode cX9_meetPair 43 = .ok (.putfield 317, 3) := by decide +kernel
theorem dX9_meetPair_46 : decode cX9_meetPair 46 = .ok (.return_, 1) := by decide +kernel
theorem dX9_pairUp_0 : decode cX9_pairUp 0 = .ok (.aload_n 0, 1) := by decide +kernel
theorem dX9_pairUp_1 : decode cX9_pairUp 1 = .ok (.iconst 0, 1) := by decide +kernel
theorem dX9_pairUp_2 : decode cX9_pairUp 2 = .ok (.putfield 317, 3) := by decide +kernel
theorem dX9_pairUp_5 : decode cX9_pairUp 5 = .ok (.iconst 0, 1) := by decide +kernel
theorem dX9_pairUp_6 : decode cX9_pairUp 6 = .ok (.istore_n 1, 1) := by decide +kernel
theorem dX9_pairUp_7 : decode cX9_pairUp 7 = .ok (.iload_n 1, 1) := by decide +kernel
theorem dX9_pairUp_8 : decode cX9_pairUp 8 = .ok (.sipush 3600, 3) := by decide +kernel
theorem dX9_pairUp_11 : decode cX9_pairUp 11 = .ok (.if_icmp .ge 16, 3) := by decide +kernel
theorem dX9_pairUp_14 : decode cX9_pairUp 14 = .ok (.aload_n 0, 1) := by decide +kernel
theorem dX9_pairUp_15 : decode cX9_pairUp 15 = .ok (.getfield 131, 3) := by decide +kernel
theorem dX9_pairUp_18 : decode cX9_pairUp 18 = .ok (.iload_n 1, 1) := by decide +kernel
theorem dX9_pairUp_19 : decode cX9_pairUp 19 = .ok (.iconst 0, 1) := by decide +kernel
theorem dX9_pairUp_20 : decode cX9_pairUp 20 = .ok (.bastore, 1) := by decide +kernel
theorem dX9_pairUp_21 : decode cX9_pairUp 21 = .ok (.iinc 1 1, 3) := by decide +kernel
theorem dX9_pairUp_24 : decode cX9_pairUp 24 = .ok (.goto (-17), 3) := by decide +kernel
theorem dX9_pairUp_27 : decode cX9_pairUp 27 = .ok (.iconst 0, 1) := by decide +kernel
theorem dX9_pairUp_28 : decode cX9_pairUp 28 = .ok (.istore_n 1, 1) := by decide +kernel
theorem dX9_pairUp_29 : decode cX9_pairUp 29 = .ok (.iload_n 1, 1) := by decide +kernel
theorem dX9_pairUp_30 : decode cX9_pairUp 30 = .ok (.iconst 4, 1) := by decide +kernel
theorem dX9_pairUp_31 : decode cX9_pairUp 31 = .ok (.if_icmp .ge 30, 3) := by decide +kernel
theorem dX9_pairUp_34 : decode cX9_pairUp 34 = .ok (.aload_n 0, 1) := by decide +kernel
theorem dX9_pairUp_35 : decode cX9_pairUp 35 = .ok (.bipush 60, 2) := by decide +kernel
theorem dX9_pairUp_37 : decode cX9_pairUp 37 = .ok (.aload_n 0, 1) := by decide +kernel
theorem dX9_pairUp_38 : decode cX9_pairUp 38 = .ok (.getfield 85, 3) := by decide +kernel
theorem dX9_pairUp_41 : decode cX9_pairUp 41 = .ok (.iload_n 1, 1) := by decide +kernel
theorem dX9_pairUp_42 : decode cX9_pairUp 42 = .ok (.iaload, 1) := by decide +kernel
theorem dX9_pairUp_43 : decode cX9_pairUp 43 = .ok (.imul, 1) := by decide +kernel
theorem dX9_pairUp_44 : decode cX9_pairUp 44 = .ok (.aload_n 0, 1) := by decide +kernel
theorem dX9_pairUp_45 : decode cX9_pairUp 45 = .ok (.getfield 119, 3) := by decide +kernel
theorem dX9_pairUp_48 : decode cX9_pairUp 48 = .ok (.iload_n 1, 1) := by decide +kernel
theorem dX9_pairUp_49 : decode cX9_pairUp 49 = .ok (.iaload, 1) := by decide +kernel
theorem dX9_pairUp_50 : decode cX9_pairUp 50 = .ok (.iadd, 1) := by decide +kernel
theorem dX9_pairUp_51 : decode cX9_pairUp 51 = .ok (.iconst 1, 1) := by decide +kernel
theorem dX9_pairUp_52 : decode cX9_pairUp 52 = .ok (.invokevirtual 320, 3) := by decide +kernel
theorem dX9_pairUp_55 : decode cX9_pairUp 55 = .ok (.iinc 1 1, 3) := by decide +kernel
theorem dX9_pairUp_58 : decode cX9_pairUp 58 = .ok (.goto (-29), 3) := by decide +kernel
theorem dX9_pairUp_61 : decode cX9_pairUp 61 = .ok (.iconst 0, 1) := by decide +kernel
theorem dX9_pairUp_62 : decode cX9_pairUp 62 = .ok (.istore_n 1, 1) := by decide +kernel
theorem dX9_pairUp_63 : decode cX9_pairUp 63 = .ok (.iload_n 1, 1) := by decide +kernel
theorem dX9_pairUp_64 : decode cX9_pairUp 64 = .ok (.aload_n 0, 1) := by decide +kernel
theorem dX9_pairUp_65 : decode cX9_pairUp 65 = .ok (.getfield 317, 3) := by decide +kernel
theorem dX9_pairUp_68 : decode cX9_pairUp 68 = .ok (.if_icmp .ge 74, 3) := by decide +kernel
theorem dX9_pairUp_71 : decode cX9_pairUp 71 = .ok (.iconst 0, 1) := by decide +kernel
theorem dX9_pairUp_72 : decode cX9_pairUp 72 = .ok (.istore_n 2, 1) := by decide +kernel
theorem dX9_pairUp_73 : decode cX9_pairUp 73 = .ok (.iload_n 2, 1) := by decide +kernel
theorem dX9_pairUp_74 : decode cX9_pairUp 74 = .ok (.iconst 4, 1) := by decide +kernel
theorem dX9_pairUp_75 : decode cX9_pairUp 75 = .ok (.if_icmp .ge 61, 3) := by decide +kernel
theorem dX9_pairUp_78 : decode cX9_pairUp 78 = .ok (.aload_n 0, 1) := by decide +kernel
theorem dX9_pairUp_79 : decode cX9_pairUp 79 = .ok (.bipush 60, 2) := by decide +kernel
theorem dX9_pairUp_81 : decode cX9_pairUp 81 = .ok (.aload_n 0, 1) := by decide +kernel
theorem dX9_pairUp_82 : decode cX9_pairUp 82 = .ok (.getfield 85, 3) := by decide +kernel
theorem dX9_pairUp_85 : decode cX9_pairUp 85 = .ok (.iconst 4, 1) := by decide +kernel
theorem dX9_pairUp_86 : decode cX9_pairUp 86 = .ok (.aload_n 0, 1) := by decide +kernel
theorem dX9_pairUp_87 : decode cX9_pairUp 87 = .ok (.getfield 125, 3) := by decide +kernel
theorem dX9_pairUp_90 : decode cX9_pairUp 90 = .ok (.iload_n 1, 1) := by decide +kernel
theorem dX9_pairUp_91 : decode cX9_pairUp 91 = .ok (.iaload, 1) := by decide +kernel
theorem dX9_pairUp_92 : decode cX9_pairUp 92 = .ok (.bipush 60, 2) := by decide +kernel
theorem dX9_pairUp_94 : decode cX9_pairUp 94 = .ok (.idiv, 1) := by decide +kernel
theorem dX9_pairUp_95 : decode cX9_pairUp 95 = .ok (.imul, 1) := by decide +kernel
theorem dX9_pairUp_96 : decode cX9_pairUp 96 = .ok (.iload_n 2, 1) := by decide +kernel
theorem dX9_pairUp_97 : decode cX9_pairUp 97 = .ok (.iadd, 1) := by decide +kernel
theorem dX9_pairUp_98 : decode cX9_pairUp 98 = .ok (.iaload, 1) := by decide +kernel
theorem dX9_pairUp_99 : decode cX9_pairUp 99 = .ok (.imul, 1) := by decide +kernel
theorem dX9_pairUp_100 : decode cX9_pairUp 100 = .ok (.aload_n 0, 1) := by decide +kernel
theorem dX9_pairUp_101 : decode cX9_pairUp 101 = .ok (.getfield 119, 3) := by decide +kernel
theorem dX9_pairUp_104 : decode cX9_pairUp 104 = .ok (.iconst 4, 1) := by decide +kernel
theorem dX9_pairUp_105 : decode cX9_pairUp 105 = .ok (.aload_n 0, 1) := by decide +kernel
theorem dX9_pairUp_106 : decode cX9_pairUp 106 = .ok (.getfield 125, 3) := by decide +kernel
theorem dX9_pairUp_109 : decode cX9_pairUp 109 = .ok (.iload_n 1, 1) := by decide +kernel
theorem dX9_pairUp_110 : decode cX9_pairUp 110 = .ok (.iaload, 1) := by decide +kernel
theorem dX9_pairUp_111 : decode cX9_pairUp 111 = .ok (.bipush 60, 2) := by decide +kernel
theorem dX9_pairUp_113 : decode cX9_pairUp 113 = .ok (.irem, 1) := by decide +kernel
theorem dX9_pairUp_114 : decode cX9_pairUp 114 = .ok (.imul, 1) := by decide +kernel
theorem dX9_pairUp_115 : decode cX9_pairUp 115 = .ok (.iload_n 2, 1) := by decide +kernel
theorem dX9_pairUp_116 : decode cX9_pairUp 116 = .ok (.iadd, 1) := by decide +kernel
theorem dX9_pairUp_117 : decode cX9_pairUp 117 = .ok (.iaload, 1) := by decide +kernel
theorem dX9_pairUp_118 : decode cX9_pairUp 118 = .ok (.iadd, 1) := by decide +kernel
theorem dX9_pairUp_119 : decode cX9_pairUp 119 = .ok (.aload_n 0, 1) := by decide +kernel
theorem dX9_pairUp_120 : decode cX9_pairUp 120 = .ok (.getfield 128, 3) := by decide +kernel
theorem dX9_pairUp_123 : decode cX9_pairUp 123 = .ok (.iload_n 1, 1) := by decide +kernel
theorem dX9_pairUp_124 : decode cX9_pairUp 124 = .ok (.iaload, 1) := by decide +kernel
theorem dX9_pairUp_125 : decode cX9_pairUp 125 = .ok (.iconst 1, 1) := by decide +kernel
theorem dX9_pairUp_126 : decode cX9_pairUp 126 = .ok (.iadd, 1) := by decide +kernel
theorem dX9_pairUp_127 : decode cX9_pairUp 127 = .ok (.invokevirtual 320, 3) := by decide +kernel
theorem dX9_pairUp_130 : decode cX9_pairUp 130 = .ok (.iinc 2 1, 3) := by decide +kernel
theorem dX9_pairUp_133 : decode cX9_pairUp 133 = .ok (.goto (-60), 3) := by decide +kernel
theorem dX9_pairUp_136 : decode cX9_pairUp 136 = .ok (.iinc 1 1, 3) := by decide +kernel
theorem dX9_pairUp_139 : decode cX9_pairUp 139 = .ok (.goto (-76), 3) := by decide +kernel
theorem dX9_pairUp_142 : decode cX9_pairUp 142 = .ok (.return_, 1) := by decide +kernel
theorem dX9_against_0 : decode cX9_against 0 = .ok (.aload_n 0, 1) := by decide +kernel
theorem dX9_against_1 : decode cX9_against 1 = .ok (.getfield 257, 3) := by decide +kernel
theorem dX9_against_4 : decode cX9_against 4 = .ok (.ifCond .eq 10, 3) := by decide +kernel
theorem dX9_against_7 : decode cX9_against 7 = .ok (.aload_n 0, 1) := by decide +kernel
theorem dX9_against_8 : decode cX9_against 8 = .ok (.getfield 311, 3) := by decide +kernel
theorem dX9_against_11 : decode cX9_against 11 = .ok (.ifCond .ne 6, 3) := by decide +kernel
theorem dX9_against_14 : decode cX9_against 14 = .ok (.bipush (-3), 2) := by decide +kernel
theorem dX9_against_16 : decode cX9_against 16 = .ok (.ireturn, 1) := by decide +kernel
theorem dX9_against_17 : decode cX9_against 17 = .ok (.aload_n 0, 1) := by decide +kernel
theorem dX9_against_18 : decode cX9_against 18 = .ok (.invokevirtual 323, 3) := by decide +kernel
theorem dX9_against_21 : decode cX9_against 21 = .ok (.iconst 0, 1) := by decide +kernel
theorem dX9_against_22 : decode cX9_against 22 = .ok (.istore_n 1, 1) := by decide +kernel
theorem dX9_against_23 : decode cX9_against 23 = .ok (.iconst 0, 1) := by decide +kernel
theorem dX9_against_24 : decode cX9_against 24 = .ok (.istore_n 2, 1) := by decide +kernel
theorem dX9_against_25 : decode cX9_against 25 = .ok (.iconst 0, 1) := by decide +kernel
theorem dX9_against_26 : decode cX9_against 26 = .ok (.istore_n 3, 1) := by decide +kernel
theorem dX9_against_27 : decode cX9_against 27 = .ok (.iconst 0, 1) := by decide +kernel
theorem dX9_against_28 : decode cX9_against 28 = .ok (.istore 4, 2) := by decide +kernel
theorem dX9_against_30 : decode cX9_against 30 = .ok (.iload 4, 2) := by decide +kernel
theorem dX9_against_32 : decode cX9_against 32 = .ok (.aload_n 0, 1) := by decide +kernel
theorem dX9_against_33 : decode cX9_against 33 = .ok (.getfield 317, 3) := by decide +kernel
theorem dX9_against_36 : decode cX9_against 36 = .ok (.if_icmp .ge 103, 3) := by decide +kernel
theorem dX9_against_39 : decode cX9_against 39 = .ok (.aload_n 0, 1) := by decide +kernel
theorem dX9_against_40 : decode cX9_against 40 = .ok (.getfield 88, 3) := by decide +kernel
theorem dX9_against_43 : decode cX9_against 43 = .ok (.aload_n 0, 1) := by decide +kernel
theorem dX9_against_44 : decode cX9_against 44 = .ok (.getfield 125, 3) := by decide +kernel
theorem dX9_against_47 : decode cX9_against 47 = .ok (.iload 4, 2) := by decide +kernel
theorem dX9_against_49 : decode cX9_against 49 = .ok (.iaload, 1) := by decide +kernel
theorem dX9_against_50 : decode cX9_against 50 = .ok (.bipush 60, 2) := by decide +kernel
theorem dX9_against_52 : decode cX9_against 52 = .ok (.idiv, 1) := by decide +kernel
theorem dX9_against_53 : decode cX9_against 53 = .ok (.baload, 1) := by decide +kernel
theorem dX9_against_54 : decode cX9_against 54 = .ok (.istore 5, 2) := by decide +kernel
theorem dX9_against_56 : decode cX9_against 56 = .ok (.aload_n 0, 1) := by decide +kernel
theorem dX9_against_57 : decode cX9_against 57 = .ok (.getfield 122, 3) := by decide +kernel
theorem dX9_against_60 : decode cX9_against 60 = .ok (.aload_n 0, 1) := by decide +kernel
theorem dX9_against_61 : decode cX9_against 61 = .ok (.getfield 125, 3) := by decide +kernel
theorem dX9_against_64 : decode cX9_against 64 = .ok (.iload 4, 2) := by decide +kernel
theorem dX9_against_66 : decode cX9_against 66 = .ok (.iaload, 1) := by decide +kernel
theorem dX9_against_67 : decode cX9_against 67 = .ok (.bipush 60, 2) := by decide +kernel
theorem dX9_against_69 : decode cX9_against 69 = .ok (.irem, 1) := by decide +kernel
theorem dX9_against_70 : decode cX9_against 70 = .ok (.baload, 1) := by decide +kernel
theorem dX9_against_71 : decode cX9_against 71 = .ok (.istore 6, 2) := by decide +kernel
theorem dX9_against_73 : decode cX9_against 73 = .ok (.iload_n 1, 1) := by decide +kernel
theorem dX9_against_74 : decode cX9_against 74 = .ok (.ifCond .ne 13, 3) := by decide +kernel
theorem dX9_against_77 : decode cX9_against 77 = .ok (.iload 5, 2) := by decide +kernel
theorem dX9_against_79 : decode cX9_against 79 = .ok (.ifCond .eq 12, 3) := by decide +kernel
theorem dX9_against_82 : decode cX9_against 82 = .ok (.iload 6, 2) := by decide +kernel
theorem dX9_against_84 : decode cX9_against 84 = .ok (.ifCond .eq 7, 3) := by decide +kernel
theorem dX9_against_87 : decode cX9_against 87 = .ok (.iconst 1, 1) := by decide +kernel
theorem dX9_against_88 : decode cX9_against 88 = .ok (.goto 4, 3) := by decide +kernel
theorem dX9_against_91 : decode cX9_against 91 = .ok (.iconst 0, 1) := by decide +kernel
theorem dX9_against_92 : decode cX9_against 92 = .ok (.istore_n 1, 1) := by decide +kernel
theorem dX9_against_93 : decode cX9_against 93 = .ok (.iload_n 2, 1) := by decide +kernel
theorem dX9_against_94 : decode cX9_against 94 = .ok (.ifCond .ne 13, 3) := by decide +kernel
theorem dX9_against_97 : decode cX9_against 97 = .ok (.iload 5, 2) := by decide +kernel
theorem dX9_against_99 : decode cX9_against 99 = .ok (.ifCond .eq 12, 3) := by decide +kernel
theorem dX9_against_102 : decode cX9_against 102 = .ok (.iload 6, 2) := by decide +kernel
theorem dX9_against_104 : decode cX9_against 104 = .ok (.ifCond .ne 7, 3) := by decide +kernel
theorem dX9_against_107 : decode cX9_against 107 = .ok (.iconst 1, 1) := by decide +kernel
theorem dX9_against_108 : decode cX9_against 108 = .ok (.goto 4, 3) := by decide +kernel
theorem dX9_against_111 : decode cX9_against 111 = .ok (.iconst 0, 1) := by decide +kernel
theorem dX9_against_112 : decode cX9_against 112 = .ok (.istore_n 2, 1) := by decide +kernel
theorem dX9_against_113 : decode cX9_against 113 = .ok (.iload_n 3, 1) := by decide +kernel
theorem dX9_against_114 : decode cX9_against 114 = .ok (.ifCond .ne 13, 3) := by decide +kernel
theorem dX9_against_117 : decode cX9_against 117 = .ok (.iload 5, 2) := by decide +kernel
theorem dX9_against_119 : decode cX9_against 119 = .ok (.ifCond .ne 12, 3) := by decide +kernel
theorem dX9_against_122 : decode cX9_against 122 = .ok (.iload 6, 2) := by decide +kernel
theorem dX9_against_124 : decode cX9_against 124 = .ok (.ifCond .eq 7, 3) := by decide +kernel
theorem dX9_against_127 : decode cX9_against 127 = .ok (.iconst 1, 1) := by decide +kernel
theorem dX9_against_128 : decode cX9_against 128 = .ok (.goto 4, 3) := by decide +kernel
theorem dX9_against_131 : decode cX9_against 131 = .ok (.iconst 0, 1) := by decide +kernel
theorem dX9_against_132 : decode cX9_against 132 = .ok (.istore_n 3, 1) := by decide +kernel
theorem dX9_against_133 : decode cX9_against 133 = .ok (.iinc 4 1, 3) := by decide +kernel
theorem dX9_against_136 : decode cX9_against 136 = .ok (.goto (-106), 3) := by decide +kernel
theorem dX9_against_139 : decode cX9_against 139 = .ok (.iload_n 2, 1) := by decide +kernel
theorem dX9_against_140 : decode cX9_against 140 = .ok (.ifCond .ne 11, 3) := by decide +kernel
theorem dX9_against_143 : decode cX9_against 143 = .ok (.iload_n 3, 1) := by decide +kernel
theorem dX9_against_144 : decode cX9_against 144 = .ok (.ifCond .ne 7, 3) := by decide +kernel
theorem dX9_against_147 : decode cX9_against 147 = .ok (.iconst 1, 1) := by decide +kernel
theorem dX9_against_148 : decode cX9_against 148 = .ok (.goto 28, 3) := by decide +kernel
theorem dX9_against_151 : decode cX9_against 151 = .ok (.iload_n 1, 1) := by decide +kernel
theorem dX9_against_152 : decode cX9_against 152 = .ok (.ifCond .ne 7, 3) := by decide +kernel
theorem dX9_against_155 : decode cX9_against 155 = .ok (.iconst 2, 1) := by decide +kernel
theorem dX9_against_156 : decode cX9_against 156 = .ok (.goto 20, 3) := by decide +kernel
theorem dX9_against_159 : decode cX9_against 159 = .ok (.iload_n 2, 1) := by decide +kernel
theorem dX9_against_160 : decode cX9_against 160 = .ok (.ifCond .ne 7, 3) := by decide +kernel
theorem dX9_against_163 : decode cX9_against 163 = .ok (.iconst 3, 1) := by decide +kernel
theorem dX9_against_164 : decode cX9_against 164 = .ok (.goto 12, 3) := by decide +kernel
theorem dX9_against_167 : decode cX9_against 167 = .ok (.iload_n 3, 1) := by decide +kernel
theorem dX9_against_168 : decode cX9_against 168 = .ok (.ifCond .ne 7, 3) := by decide +kernel
theorem dX9_against_171 : decode cX9_against 171 = .ok (.iconst 4, 1) := by decide +kernel
theorem dX9_against_172 : decode cX9_against 172 = .ok (.goto 4, 3) := by decide +kernel
theorem dX9_against_175 : decode cX9_against 175 = .ok (.iconst 0, 1) := by decide +kernel
theorem dX9_against_176 : decode cX9_against 176 = .ok (.ireturn, 1) := by decide +kernel
theorem dX9_apart_0 : decode cX9_apart 0 = .ok (.aload_n 0, 1) := by decide +kernel
theorem dX9_apart_1 : decode cX9_apart 1 = .ok (.getfield 257, 3) := by decide +kernel
theorem dX9_apart_4 : decode cX9_apart 4 = .ok (.ifCond .eq 10, 3) := by decide +kernel
theorem dX9_apart_7 : decode cX9_apart 7 = .ok (.aload_n 0, 1) := by decide +kernel
theorem dX9_apart_8 : decode cX9_apart 8 = .ok (.getfield 311, 3) := by decide +kernel
theorem dX9_apart_11 : decode cX9_apart 11 = .ok (.ifCond .ne 6, 3) := by decide +kernel
theorem dX9_apart_14 : decode cX9_apart 14 = .ok (.bipush (-3), 2) := by decide +kernel
theorem dX9_apart_16 : decode cX9_apart 16 = .ok (.ireturn, 1) := by decide +kernel
theorem dX9_apart_17 : decode cX9_apart 17 = .ok (.aload_n 0, 1) := by decide +kernel
theorem dX9_apart_18 : decode cX9_apart 18 = .ok (.invokevirtual 323, 3) := by decide +kernel
theorem dX9_apart_21 : decode cX9_apart 21 = .ok (.iconst 0, 1) := by decide +kernel
theorem dX9_apart_22 : decode cX9_apart 22 = .ok (.istore_n 1, 1) := by decide +kernel
theorem dX9_apart_23 : decode cX9_apart 23 = .ok (.iload_n 1, 1) := by decide +kernel
theorem dX9_apart_24 : decode cX9_apart 24 = .ok (.aload_n 0, 1) := by decide +kernel
theorem dX9_apart_25 : decode cX9_apart 25 = .ok (.getfield 317, 3) := by decide +kernel
theorem dX9_apart_28 : decode cX9_apart 28 = .ok (.if_icmp .ge 47, 3) := by decide +kernel
theorem dX9_apart_31 : decode cX9_apart 31 = .ok (.aload_n 0, 1) := by decide +kernel
theorem dX9_apart_32 : decode cX9_apart 32 = .ok (.getfield 88, 3) := by decide +kernel
theorem dX9_apart_35 : decode cX9_apart 35 = .ok (.aload_n 0, 1) := by decide +kernel
theorem dX9_apart_36 : decode cX9_apart 36 = .ok (.getfield 125, 3) := by decide +kernel
theorem dX9_apart_39 : decode cX9_apart 39 = .ok (.iload_n 1, 1) := by decide +kernel
theorem dX9_apart_40 : decode cX9_apart 40 = .ok (.iaload, 1) := by decide +kernel
theorem dX9_apart_41 : decode cX9_apart 41 = .ok (.bipush 60, 2) := by decide +kernel
theorem dX9_apart_43 : decode cX9_apart 43 = .ok (.idiv, 1) := by decide +kernel
theorem dX9_apart_44 : decode cX9_apart 44 = .ok (.baload, 1) := by decide +kernel
theorem dX9_apart_45 : decode cX9_apart 45 = .ok (.aload_n 0, 1) := by decide +kernel
theorem dX9_apart_46 : decode cX9_apart 46 = .ok (.getfield 122, 3) := by decide +kernel
theorem dX9_apart_49 : decode cX9_apart 49 = .ok (.aload_n 0, 1) := by decide +kernel
theorem dX9_apart_50 : decode cX9_apart 50 = .ok (.getfield 125, 3) := by decide +kernel
theorem dX9_apart_53 : decode cX9_apart 53 = .ok (.iload_n 1, 1) := by decide +kernel
theorem dX9_apart_54 : decode cX9_apart 54 = .ok (.iaload, 1) := by decide +kernel
theorem dX9_apart_55 : decode cX9_apart 55 = .ok (.bipush 60, 2) := by decide +kernel
theorem dX9_apart_57 : decode cX9_apart 57 = .ok (.irem, 1) := by decide +kernel
theorem dX9_apart_58 : decode cX9_apart 58 = .ok (.baload, 1) := by decide +kernel
theorem dX9_apart_59 : decode cX9_apart 59 = .ok (.if_icmp .eq 10, 3) := by decide +kernel
theorem dX9_apart_62 : decode cX9_apart 62 = .ok (.aload_n 0, 1) := by decide +kernel
theorem dX9_apart_63 : decode cX9_apart 63 = .ok (.getfield 128, 3) := by decide +kernel
theorem dX9_apart_66 : decode cX9_apart 66 = .ok (.iload_n 1, 1) := by decide +kernel
theorem dX9_apart_67 : decode cX9_apart 67 = .ok (.iaload, 1) := by decide +kernel
theorem dX9_apart_68 : decode cX9_apart 68 = .ok (.ireturn, 1) := by decide +kernel
theorem dX9_apart_69 : decode cX9_apart 69 = .ok (.iinc 1 1, 3) := by decide +kernel
theorem dX9_apart_72 : decode cX9_apart 72 = .ok (.goto (-49), 3) := by decide +kernel
theorem dX9_apart_75 : decode cX9_apart 75 = .ok (.bipush (-9), 2) := by decide +kernel
theorem dX9_apart_77 : decode cX9_apart 77 = .ok (.ireturn, 1) := by decide +kernel
theorem dX9_count_0 : decode cX9_count 0 = .ok (.iconst 0, 1) := by decide +kernel
theorem dX9_count_1 : decode cX9_count 1 = .ok (.istore_n 2, 1) := by decide +kernel
theorem dX9_count_2 : decode cX9_count 2 = .ok (.iload_n 1, 1) := by decide +kernel
theorem dX9_count_3 : decode cX9_count 3 = .ok (.tableswitch 131 0 4 #[33, 38, 74, 113, 118], 33) := by decide +kernel
theorem dX9_count_36 : decode cX9_count 36 = .ok (.aload_n 0, 1) := by decide +kernel
theorem dX9_count_37 : decode cX9_count 37 = .ok (.getfield 237, 3) := by decide +kernel
theorem dX9_count_40 : decode cX9_count 40 = .ok (.ireturn, 1) := by decide +kernel
theorem dX9_count_41 : decode cX9_count 41 = .ok (.iconst 0, 1) := by decide +kernel
theorem dX9_count_42 : decode cX9_count 42 = .ok (.istore_n 3, 1) := by decide +kernel
theorem dX9_count_43 : decode cX9_count 43 = .ok (.iload_n 3, 1) := by decide +kernel
theorem dX9_count_44 : decode cX9_count 44 = .ok (.aload_n 0, 1) := by decide +kernel
theorem dX9_count_45 : decode cX9_count 45 = .ok (.getfield 237, 3) := by decide +kernel
theorem dX9_count_48 : decode cX9_count 48 = .ok (.if_icmp .ge 27, 3) := by decide +kernel
theorem dX9_count_51 : decode cX9_count 51 = .ok (.iload_n 2, 1) := by decide +kernel
theorem dX9_count_52 : decode cX9_count 52 = .ok (.aload_n 0, 1) := by decide +kernel
theorem dX9_count_53 : decode cX9_count 53 = .ok (.getfield 91, 3) := by decide +kernel
theorem dX9_count_56 : decode cX9_count 56 = .ok (.iload_n 3, 1) := by decide +kernel
theorem dX9_count_57 : decode cX9_count 57 = .ok (.iaload, 1) := by decide +kernel
theorem dX9_count_58 : decode cX9_count 58 = .ok (.iconst 1, 1) := by decide +kernel
theorem dX9_count_59 : decode cX9_count 59 = .ok (.if_icmp .le 7, 3) := by decide +kernel
theorem dX9_count_62 : decode cX9_count 62 = .ok (.iconst 1, 1) := by decide +kernel
theorem dX9_count_63 : decode cX9_count 63 = .ok (.goto 4, 3) := by decide +kernel
theorem dX9_count_66 : decode cX9_count 66 = .ok (.iconst 0, 1) := by decide +kernel
theorem dX9_count_67 : decode cX9_count 67 = .ok (.iadd, 1) := by decide +kernel
theorem dX9_count_68 : decode cX9_count 68 = .ok (.istore_n 2, 1) := by decide +kernel
theorem dX9_count_69 : decode cX9_count 69 = .ok (.iinc 3 1, 3) := by decide +kernel
theorem dX9_count_72 : decode cX9_count 72 = .ok (.goto (-29), 3) := by decide +kernel
theorem dX9_count_75 : decode cX9_count 75 = .ok (.iload_n 2, 1) := by decide +kernel
theorem dX9_count_76 : decode cX9_count 76 = .ok (.ireturn, 1) := by decide +kernel
theorem dX9_count_77 : decode cX9_count 77 = .ok (.iconst 0, 1) := by decide +kernel
theorem dX9_count_78 : decode cX9_count 78 = .ok (.istore_n 3, 1) := by decide +kernel
theorem dX9_count_79 : decode cX9_count 79 = .ok (.iload_n 3, 1) := by decide +kernel
theorem dX9_count_80 : decode cX9_count 80 = .ok (.bipush 16, 2) := by decide +kernel
theorem dX9_count_82 : decode cX9_count 82 = .ok (.if_icmp .ge 32, 3) := by decide +kernel
theorem dX9_count_85 : decode cX9_count 85 = .ok (.iload_n 2, 1) := by decide +kernel
theorem dX9_count_86 : decode cX9_count 86 = .ok (.aload_n 0, 1) := by decide +kernel
theorem dX9_count_87 : decode cX9_count 87 = .ok (.getfield 257, 3) := by decide +kernel
theorem dX9_count_90 : decode cX9_count 90 = .ok (.ifCond .eq 15, 3) := by decide +kernel
theorem dX9_count_93 : decode cX9_count 93 = .ok (.aload_n 0, 1) := by decide +kernel
theorem dX9_count_94 : decode cX9_count 94 = .ok (.iload_n 3, 1) := by decide +kernel
theorem dX9_count_95 : decode cX9_count 95 = .ok (.invokevirtual 302, 3) := by decide +kernel
theorem dX9_count_98 : decode cX9_count 98 = .ok (.ifCond .eq 7, 3) := by decide +kernel
theorem dX9_count_101 : decode cX9_count 101 = .ok (.iconst 1, 1) := by decide +kernel
theorem dX9_count_102 : decode cX9_count 102 = .ok (.goto 4, 3) := by decide +kernel
theorem dX9_count_105 : decode cX9_count 105 = .ok (.iconst 0, 1) := by decide +kernel
theorem dX9_count_106 : decode cX9_count 106 = .ok (.iadd, 1) := by decide +kernel
theorem dX9_count_107 : decode cX9_count 107 = .ok (.istore_n 2, 1) := by decide +kernel
theorem dX9_count_108 : decode cX9_count 108 = .ok (.iinc 3 1, 3) := by decide +kernel
theorem dX9_count_111 : decode cX9_count 111 = .ok (.goto (-32), 3) := by decide +kernel
theorem dX9_count_114 : decode cX9_count 114 = .ok (.iload_n 2, 1) := by decide +kernel
theorem dX9_count_115 : decode cX9_count 115 = .ok (.ireturn, 1) := by decide +kernel
theorem dX9_count_116 : decode cX9_count 116 = .ok (.aload_n 0, 1) := by decide +kernel
theorem dX9_count_117 : decode cX9_count 117 = .ok (.getfield 136, 3) := by decide +kernel
theorem dX9_count_120 : decode cX9_count 120 = .ok (.ireturn, 1) := by decide +kernel
theorem dX9_count_121 : decode cX9_count 121 = .ok (.aload_n 0, 1) := by decide +kernel
theorem dX9_count_122 : decode cX9_count 122 = .ok (.getfield 311, 3) := by decide +kernel
theorem dX9_count_125 : decode cX9_count 125 = .ok (.ifCond .eq 7, 3) := by decide +kernel
theorem dX9_count_128 : decode cX9_count 128 = .ok (.iconst 1, 1) := by decide +kernel
theorem dX9_count_129 : decode cX9_count 129 = .ok (.goto 4, 3) := by decide +kernel
theorem dX9_count_132 : decode cX9_count 132 = .ok (.iconst 0, 1) := by decide +kernel
theorem dX9_count_133 : decode cX9_count 133 = .ok (.ireturn, 1) := by decide +kernel
theorem dX9_count_134 : decode cX9_count 134 = .ok (.bipush (-2), 2) := by decide +kernel
theorem dX9_count_136 : decode cX9_count 136 = .ok (.ireturn, 1) := by decide +kernel
theorem dJ13_bitCount_95d88_0 : decode cJ13_bitCount_95d88 0 = .ok (.lload_n 0, 1) := by decide +kernel
theorem dJ13_bitCount_95d88_1 : decode cJ13_bitCount_95d88 1 = .ok (.lload_n 0, 1) := by decide +kernel
theorem dJ13_bitCount_95d88_2 : decode cJ13_bitCount_95d88 2 = .ok (.iconst 1, 1) := by decide +kernel
theorem dJ13_bitCount_95d88_3 : decode cJ13_bitCount_95d88 3 = .ok (.lushr, 1) := by decide +kernel
theorem dJ13_bitCount_95d88_4 : decode cJ13_bitCount_95d88 4 = .ok (.ldc2_w 314, 3) := by decide +kernel
theorem dJ13_bitCount_95d88_7 : decode cJ13_bitCount_95d88 7 = .ok (.land, 1) := by decide +kernel
theorem dJ13_bitCount_95d88_8 : decode cJ13_bitCount_95d88 8 = .ok (.lsub, 1) := by decide +kernel
theorem dJ13_bitCount_95d88_9 : decode cJ13_bitCount_95d88 9 = .ok (.lstore_n 0, 1) := by decide +kernel
theorem dJ13_bitCount_95d88_10 : decode cJ13_bitCount_95d88 10 = .ok (.lload_n 0, 1) := by decide +kernel
theorem dJ13_bitCount_95d88_11 : decode cJ13_bitCount_95d88 11 = .ok (.ldc2_w 316, 3) := by decide +kernel
theorem dJ13_bitCount_95d88_14 : decode cJ13_bitCount_95d88 14 = .ok (.land, 1) := by decide +kernel
theorem dJ13_bitCount_95d88_15 : decode cJ13_bitCount_95d88 15 = .ok (.lload_n 0, 1) := by decide +kernel
theorem dJ13_bitCount_95d88_16 : decode cJ13_bitCount_95d88 16 = .ok (.iconst 2, 1) := by decide +kernel
theorem dJ13_bitCount_95d88_17 : decode cJ13_bitCount_95d88 17 = .ok (.lushr, 1) := by decide +kernel
theorem dJ13_bitCount_95d88_18 : decode cJ13_bitCount_95d88 18 = .ok (.ldc2_w 316, 3) := by decide +kernel
theorem dJ13_bitCount_95d88_21 : decode cJ13_bitCount_95d88 21 = .ok (.land, 1) := by decide +kernel
theorem dJ13_bitCount_95d88_22 : decode cJ13_bitCount_95d88 22 = .ok (.ladd, 1) := by decide +kernel
theorem dJ13_bitCount_95d88_23 : decode cJ13_bitCount_95d88 23 = .ok (.lstore_n 0, 1) := by decide +kernel
theorem dJ13_bitCount_95d88_24 : decode cJ13_bitCount_95d88 24 = .ok (.lload_n 0, 1) := by decide +kernel
theorem dJ13_bitCount_95d88_25 : decode cJ13_bitCount_95d88 25 = .ok (.lload_n 0, 1) := by decide +kernel
theorem dJ13_bitCount_95d88_26 : decode cJ13_bitCount_95d88 26 = .ok (.iconst 4, 1) := by decide +kernel
theorem dJ13_bitCount_95d88_27 : decode cJ13_bitCount_95d88 27 = .ok (.lushr, 1) := by decide +kernel
theorem dJ13_bitCount_95d88_28 : decode cJ13_bitCount_95d88 28 = .ok (.ladd, 1) := by decide +kernel
theorem dJ13_bitCount_95d88_29 : decode cJ13_bitCount_95d88 29 = .ok (.ldc2_w 318, 3) := by decide +kernel
theorem dJ13_bitCount_95d88_32 : decode cJ13_bitCount_95d88 32 = .ok (.land, 1) := by decide +kernel
theorem dJ13_bitCount_95d88_33 : decode cJ13_bitCount_95d88 33 = .ok (.lstore_n 0, 1) := by decide +kernel
theorem dJ13_bitCount_95d88_34 : decode cJ13_bitCount_95d88 34 = .ok (.lload_n 0, 1) := by decide +kernel
theorem dJ13_bitCount_95d88_35 : decode cJ13_bitCount_95d88 35 = .ok (.lload_n 0, 1) := by decide +kernel
theorem dJ13_bitCount_95d88_36 : decode cJ13_bitCount_95d88 36 = .ok (.bipush 8, 2) := by decide +kernel
theorem dJ13_bitCount_95d88_38 : decode cJ13_bitCount_95d88 38 = .ok (.lushr, 1) := by decide +kernel
theorem dJ13_bitCount_95d88_39 : decode cJ13_bitCount_95d88 39 = .ok (.ladd, 1) := by decide +kernel
theorem dJ13_bitCount_95d88_40 : decode cJ13_bitCount_95d88 40 = .ok (.lstore_n 0, 1) := by decide +kernel
theorem dJ13_bitCount_95d88_41 : decode cJ13_bitCount_95d88 41 = .ok (.lload_n 0, 1) := by decide +kernel
theorem dJ13_bitCount_95d88_42 : decode cJ13_bitCount_95d88 42 = .ok (.lload_n 0, 1) := by decide +kernel
theorem dJ13_bitCount_95d88_43 : decode cJ13_bitCount_95d88 43 = .ok (.bipush 16, 2) := by decide +kernel
theorem dJ13_bitCount_95d88_45 : decode cJ13_bitCount_95d88 45 = .ok (.lushr, 1) := by decide +kernel
theorem dJ13_bitCount_95d88_46 : decode cJ13_bitCount_95d88 46 = .ok (.ladd, 1) := by decide +kernel
theorem dJ13_bitCount_95d88_47 : decode cJ13_bitCount_95d88 47 = .ok (.lstore_n 0, 1) := by decide +kernel
theorem dJ13_bitCount_95d88_48 : decode cJ13_bitCount_95d88 48 = .ok (.lload_n 0, 1) := by decide +kernel
theorem dJ13_bitCount_95d88_49 : decode cJ13_bitCount_95d88 49 = .ok (.lload_n 0, 1) := by decide +kernel
theorem dJ13_bitCount_95d88_50 : decode cJ13_bitCount_95d88 50 = .ok (.bipush 32, 2) := by decide +kernel
theorem dJ13_bitCount_95d88_52 : decode cJ13_bitCount_95d88 52 = .ok (.lushr, 1) := by decide +kernel
theorem dJ13_bitCount_95d88_53 : decode cJ13_bitCount_95d88 53 = .ok (.ladd, 1) := by decide +kernel
theorem dJ13_bitCount_95d88_54 : decode cJ13_bitCount_95d88 54 = .ok (.lstore_n 0, 1) := by decide +kernel
theorem dJ13_bitCount_95d88_55 : decode cJ13_bitCount_95d88 55 = .ok (.lload_n 0, 1) := by decide +kernel
theorem dJ13_bitCount_95d88_56 : decode cJ13_bitCount_95d88 56 = .ok (.l2i, 1) := by decide +kernel
theorem dJ13_bitCount_95d88_57 : decode cJ13_bitCount_95d88 57 = .ok (.bipush 127, 2) := by decide +kernel
theorem dJ13_bitCount_95d88_59 : decode cJ13_bitCount_95d88 59 = .ok (.iand, 1) := by decide +kernel
theorem dJ13_bitCount_95d88_60 : decode cJ13_bitCount_95d88 60 = .ok (.ireturn, 1) := by decide +kernel
theorem dJ9_min_7cf53_0 : decode cJ9_min_7cf53 0 = .ok (.iload_n 0, 1) := by decide +kernel
theorem dJ9_min_7cf53_1 : decode cJ9_min_7cf53 1 = .ok (.iload_n 1, 1) := by decide +kernel
theorem dJ9_min_7cf53_2 : decode cJ9_min_7cf53 2 = .ok (.if_icmp .gt 7, 3) := by decide +kernel
theorem dJ9_min_7cf53_5 : decode cJ9_min_7cf53 5 = .ok (.iload_n 0, 1) := by decide +kernel
theorem dJ9_min_7cf53_6 : decode cJ9_min_7cf53 6 = .ok (.goto 4, 3) := by decide +kernel
theorem dJ9_min_7cf53_9 : decode cJ9_min_7cf53 9 = .ok (.iload_n 1, 1) := by decide +kernel
theorem dJ9_min_7cf53_10 : decode cJ9_min_7cf53 10 = .ok (.ireturn, 1) := by decide +kernel
theorem dL_law_0 : decode cL_law 0 = .ok (.new 7, 3) := by decide +kernel
theorem dL_law_3 : decode cL_law 3 = .ok (.dup, 1) := by decide +kernel
theorem dL_law_4 : decode cL_law 4 = .ok (.invokespecial 9, 3) := by decide +kernel
theorem dL_law_7 : decode cL_law 7 = .ok (.astore_n 1, 1) := by decide +kernel
theorem dL_law_8 : decode cL_law 8 = .ok (.new 10, 3) := by decide +kernel
theorem dL_law_11 : decode cL_law 11 = .ok (.dup, 1) := by decide +kernel
theorem dL_law_12 : decode cL_law 12 = .ok (.invokespecial 12, 3) := by decide +kernel
theorem dL_law_15 : decode cL_law 15 = .ok (.astore_n 2, 1) := by decide +kernel
theorem dL_law_16 : decode cL_law 16 = .ok (.iconst 0, 1) := by decide +kernel
theorem dL_law_17 : decode cL_law 17 = .ok (.istore_n 3, 1) := by decide +kernel
theorem dL_law_18 : decode cL_law 18 = .ok (.iload_n 3, 1) := by decide +kernel
theorem dL_law_19 : decode cL_law 19 = .ok (.aload_n 0, 1) := by decide +kernel
theorem dL_law_20 : decode cL_law 20 = .ok (.arraylength, 1) := by decide +kernel
theorem dL_law_21 : decode cL_law 21 = .ok (.iconst 4, 1) := by decide +kernel
theorem dL_law_22 : decode cL_law 22 = .ok (.isub, 1) := by decide +kernel
theorem dL_law_23 : decode cL_law 23 = .ok (.if_icmp .gt 659, 3) := by decide +kernel
theorem dL_law_26 : decode cL_law 26 = .ok (.aload_n 0, 1) := by decide +kernel
theorem dL_law_27 : decode cL_law 27 = .ok (.iload_n 3, 1) := by decide +kernel
theorem dL_law_28 : decode cL_law 28 = .ok (.iaload, 1) := by decide +kernel
theorem dL_law_29 : decode cL_law 29 = .ok (.bipush 31, 2) := by decide +kernel
theorem dL_law_31 : decode cL_law 31 = .ok (.iand, 1) := by decide +kernel
theorem dL_law_32 : decode cL_law 32 = .ok (.tableswitch 644 0 20 #[100, 153, 166, 179, 192, 225, 248, 281, 314, 348, 391, 424, 457, 480, 503, 536, 559, 582, 595, 608, 621], 100) := by decide +kernel
theorem dL_law_132 : decode cL_law 132 = .ok (.aload_n 1, 1) := by decide +kernel
theorem dL_law_133 : decode cL_law 133 = .ok (.aload_n 0, 1) := by decide +kernel
theorem dL_law_134 : decode cL_law 134 = .ok (.iload_n 3, 1) := by decide +kernel
theorem dL_law_135 : decode cL_law 135 = .ok (.iconst 1, 1) := by decide +kernel
theorem dL_law_136 : decode cL_law 136 = .ok (.iadd, 1) := by decide +kernel
theorem dL_law_137 : decode cL_law 137 = .ok (.iaload, 1) := by decide +kernel
theorem dL_law_138 : decode cL_law 138 = .ok (.i2l, 1) := by decide +kernel
theorem dL_law_139 : decode cL_law 139 = .ok (.bipush 32, 2) := by decide +kernel
theorem dL_law_141 : decode cL_law 141 = .ok (.lshl, 1) := by decide +kernel
theorem dL_law_142 : decode cL_law 142 = .ok (.aload_n 0, 1) := by decide +kernel
theorem dL_law_143 : decode cL_law 143 = .ok (.iload_n 3, 1) := by decide +kernel
theorem dL_law_144 : decode cL_law 144 = .ok (.iconst 2, 1) := by decide +kernel
theorem dL_law_145 : decode cL_law 145 = .ok (.iadd, 1) := by decide +kernel
theorem dL_law_146 : decode cL_law 146 = .ok (.iaload, 1) := by decide +kernel
theorem dL_law_147 : decode cL_law 147 = .ok (.i2l, 1) := by decide +kernel
theorem dL_law_148 : decode cL_law 148 = .ok (.ldc2_w 13, 3) := by decide +kernel
theorem dL_law_151 : decode cL_law 151 = .ok (.land, 1) := by decide +kernel
theorem dL_law_152 : decode cL_law 152 = .ok (.lor, 1) := by decide +kernel
theorem dL_law_153 : decode cL_law 153 = .ok (.invokevirtual 15, 3) := by decide +kernel
theorem dL_law_156 : decode cL_law 156 = .ok (.aload_n 2, 1) := by decide +kernel
theorem dL_law_157 : decode cL_law 157 = .ok (.aload_n 0, 1) := by decide +kernel
theorem dL_law_158 : decode cL_law 158 = .ok (.iload_n 3, 1) := by decide +kernel
theorem dL_law_159 : decode cL_law 159 = .ok (.iconst 1, 1) := by decide +kernel
theorem dL_law_160 : decode cL_law 160 = .ok (.iadd, 1) := by decide +kernel
theorem dL_law_161 : decode cL_law 161 = .ok (.iaload, 1) := by decide +kernel
theorem dL_law_162 : decode cL_law 162 = .ok (.i2l, 1) := by decide +kernel
theorem dL_law_163 : decode cL_law 163 = .ok (.bipush 32, 2) := by decide +kernel
theorem dL_law_165 : decode cL_law 165 = .ok (.lshl, 1) := by decide +kernel
theorem dL_law_166 : decode cL_law 166 = .ok (.aload_n 0, 1) := by decide +kernel
theorem dL_law_167 : decode cL_law 167 = .ok (.iload_n 3, 1) := by decide +kernel
theorem dL_law_168 : decode cL_law 168 = .ok (.iconst 2, 1) := by decide +kernel
theorem dL_law_169 : decode cL_law 169 = .ok (.iadd, 1) := by decide +kernel
theorem dL_law_170 : decode cL_law 170 = .ok (.iaload, 1) := by decide +kernel
theorem dL_law_171 : decode cL_law 171 = .ok (.i2l, 1) := by decide +kernel
theorem dL_law_172 : decode cL_law 172 = .ok (.ldc2_w 13, 3) := by decide +kernel
theorem dL_law_175 : decode cL_law 175 = .ok (.land, 1) := by decide +kernel
theorem dL_law_176 : decode cL_law 176 = .ok (.lor, 1) := by decide +kernel
theorem dL_law_177 : decode cL_law 177 = .ok (.invokevirtual 19, 3) := by decide +kernel
theorem dL_law_180 : decode cL_law 180 = .ok (.if_icmp .eq 496, 3) := by decide +kernel
theorem dL_law_183 : decode cL_law 183 = .ok (.iconst 0, 1) := by decide +kernel
theorem dL_law_184 : decode cL_law 184 = .ok (.ireturn, 1) := by decide +kernel
theorem dL_law_185 : decode cL_law 185 = .ok (.aload_n 1, 1) := by decide +kernel
theorem dL_law_186 : decode cL_law 186 = .ok (.invokevirtual 20, 3) := by decide +kernel
theorem dL_law_189 : decode cL_law 189 = .ok (.aload_n 2, 1) := by decide +kernel
theorem dL_law_190 : decode cL_law 190 = .ok (.invokevirtual 24, 3) := by decide +kernel
theorem dL_law_193 : decode cL_law 193 = .ok (.if_icmp .eq 483, 3) := by decide +kernel
theorem dL_law_196 : decode cL_law 196 = .ok (.iconst 0, 1) := by decide +kernel
theorem dL_law_197 : decode cL_law 197 = .ok (.ireturn, 1) := by decide +kernel
theorem dL_law_198 : decode cL_law 198 = .ok (.aload_n 1, 1) := by decide +kernel
theorem dL_law_199 : decode cL_law 199 = .ok (.invokevirtual 25, 3) := by decide +kernel
theorem dL_law_202 : decode cL_law 202 = .ok (.aload_n 2, 1) := by decide +kernel
theorem dL_law_203 : decode cL_law 203 = .ok (.invokevirtual 28, 3) := by decide +kernel
theorem dL_law_206 : decode cL_law 206 = .ok (.if_icmp .eq 470, 3) := by decide +kernel
theorem dL_law_209 : decode cL_law 209 = .ok (.iconst 0, 1) := by decide +kernel
theorem dL_law_210 : decode cL_law 210 = .ok (.ireturn, 1) := by decide +kernel
theorem dL_law_211 : decode cL_law 211 = .ok (.aload_n 1, 1) := by decide +kernel
theorem dL_law_212 : decode cL_law 212 = .ok (.invokevirtual 29, 3) := by decide +kernel
theorem dL_law_215 : decode cL_law 215 = .ok (.aload_n 2, 1) := by decide +kernel
theorem dL_law_216 : decode cL_law 216 = .ok (.invokevirtual 32, 3) := by decide +kernel
theorem dL_law_219 : decode cL_law 219 = .ok (.if_icmp .eq 457, 3) := by decide +kernel
theorem dL_law_222 : decode cL_law 222 = .ok (.iconst 0, 1) := by decide +kernel
theorem dL_law_223 : decode cL_law 223 = .ok (.ireturn, 1) := by decide +kernel
theorem dL_law_224 : decode cL_law 224 = .ok (.aload_n 1, 1) := by decide +kernel
theorem dL_law_225 : decode cL_law 225 = .ok (.aload_n 0, 1) := by decide +kernel
theorem dL_law_226 : decode cL_law 226 = .ok (.iload_n 3, 1) := by decide +kernel
theorem dL_law_227 : decode cL_law 227 = .ok (.iconst 1, 1) := by decide +kernel
theorem dL_law_228 : decode cL_law 228 = .ok (.iadd, 1) := by decide +kernel
theorem dL_law_229 : decode cL_law 229 = .ok (.iaload, 1) := by decide +kernel
theorem dL_law_230 : decode cL_law 230 = .ok (.aload_n 0, 1) := by decide +kernel
theorem dL_law_231 : decode cL_law 231 = .ok (.iload_n 3, 1) := by decide +kernel
theorem dL_law_232 : decode cL_law 232 = .ok (.iconst 2, 1) := by decide +kernel
theorem dL_law_233 : decode cL_law 233 = .ok (.iadd, 1) := by decide +kernel
theorem dL_law_234 : decode cL_law 234 = .ok (.iaload, 1) := by decide +kernel
theorem dL_law_235 : decode cL_law 235 = .ok (.invokevirtual 33, 3) := by decide +kernel
theorem dL_law_238 : decode cL_law 238 = .ok (.aload_n 2, 1) := by decide +kernel
theorem dL_law_239 : decode cL_law 239 = .ok (.aload_n 0, 1) := by decide +kernel
theorem dL_law_240 : decode cL_law 240 = .ok (.iload_n 3, 1) := by decide +kernel
theorem dL_law_241 : decode cL_law 241 = .ok (.iconst 1, 1) := by decide +kernel
theorem dL_law_242 : decode cL_law 242 = .ok (.iadd, 1) := by decide +kernel
theorem dL_law_243 : decode cL_law 243 = .ok (.iaload, 1) := by decide +kernel
theorem dL_law_244 : decode cL_law 244 = .ok (.aload_n 0, 1) := by decide +kernel
theorem dL_law_245 : decode cL_law 245 = .ok (.iload_n 3, 1) := by decide +kernel
theorem dL_law_246 : decode cL_law 246 = .ok (.iconst 2, 1) := by decide +kernel
theorem dL_law_247 : decode cL_law 247 = .ok (.iadd, 1) := by decide +kernel
theorem dL_law_248 : decode cL_law 248 = .ok (.iaload, 1) := by decide +kernel
theorem dL_law_249 : decode cL_law 249 = .ok (.invokevirtual 37, 3) := by decide +kernel
theorem dL_law_252 : decode cL_law 252 = .ok (.if_icmp .eq 424, 3) := by decide +kernel
theorem dL_law_255 : decode cL_law 255 = .ok (.iconst 0, 1) := by decide +kernel
theorem dL_law_256 : decode cL_law 256 = .ok (.ireturn, 1) := by decide +kernel
theorem dL_law_257 : decode cL_law 257 = .ok (.aload_n 1, 1) := by decide +kernel
theorem dL_law_258 : decode cL_law 258 = .ok (.aload_n 0, 1) := by decide +kernel
theorem dL_law_259 : decode cL_law 259 = .ok (.iload_n 3, 1) := by decide +kernel
theorem dL_law_260 : decode cL_law 260 = .ok (.iconst 1, 1) := by decide +kernel
theorem dL_law_261 : decode cL_law 261 = .ok (.iadd, 1) := by decide +kernel
theorem dL_law_262 : decode cL_law 262 = .ok (.iaload, 1) := by decide +kernel
theorem dL_law_263 : decode cL_law 263 = .ok (.invokevirtual 38, 3) := by decide +kernel
theorem dL_law_266 : decode cL_law 266 = .ok (.aload_n 2, 1) := by decide +kernel
theorem dL_law_267 : decode cL_law 267 = .ok (.aload_n 0, 1) := by decide +kernel
theorem dL_law_268 : decode cL_law 268 = .ok (.iload_n 3, 1) := by decide +kernel
theorem dL_law_269 : decode cL_law 269 = .ok (.iconst 1, 1) := by decide +kernel
theorem dL_law_270 : decode cL_law 270 = .ok (.iadd, 1) := by decide +kernel
theorem dL_law_271 : decode cL_law 271 = .ok (.iaload, 1) := by decide +kernel
theorem dL_law_272 : decode cL_law 272 = .ok (.invokevirtual 42, 3) := by decide +kernel
theorem dL_law_275 : decode cL_law 275 = .ok (.if_icmp .eq 401, 3) := by decide +kernel
theorem dL_law_278 : decode cL_law 278 = .ok (.iconst 0, 1) := by decide +kernel
theorem dL_law_279 : decode cL_law 279 = .ok (.ireturn, 1) := by decide +kernel
theorem dL_law_280 : decode cL_law 280 = .ok (.aload_n 1, 1) := by decide +kernel
theorem dL_law_281 : decode cL_law 281 = .ok (.aload_n 0, 1) := by decide +kernel
theorem dL_law_282 : decode cL_law 282 = .ok (.iload_n 3, 1) := by decide +kernel
theorem dL_law_283 : decode cL_law 283 = .ok (.iconst 1, 1) := by decide +kernel
theorem dL_law_284 : decode cL_law 284 = .ok (.iadd, 1) := by decide +kernel
theorem dL_law_285 : decode cL_law 285 = .ok (.iaload, 1) := by decide +kernel
theorem dL_law_286 : decode cL_law 286 = .ok (.aload_n 0, 1) := by decide +kernel
theorem dL_law_287 : decode cL_law 287 = .ok (.iload_n 3, 1) := by decide +kernel
theorem dL_law_288 : decode cL_law 288 = .ok (.iconst 2, 1) := by decide +kernel
theorem dL_law_289 : decode cL_law 289 = .ok (.iadd, 1) := by decide +kernel
theorem dL_law_290 : decode cL_law 290 = .ok (.iaload, 1) := by decide +kernel
theorem dL_law_291 : decode cL_law 291 = .ok (.invokevirtual 43, 3) := by decide +kernel
theorem dL_law_294 : decode cL_law 294 = .ok (.aload_n 2, 1) := by decide +kernel
theorem dL_law_295 : decode cL_law 295 = .ok (.aload_n 0, 1) := by decide +kernel
theorem dL_law_296 : decode cL_law 296 = .ok (.iload_n 3, 1) := by decide +kernel
theorem dL_law_297 : decode cL_law 297 = .ok (.iconst 1, 1) := by decide +kernel
theorem dL_law_298 : decode cL_law 298 = .ok (.iadd, 1) := by decide +kernel
theorem dL_law_299 : decode cL_law 299 = .ok (.iaload, 1) := by decide +kernel
theorem dL_law_300 : decode cL_law 300 = .ok (.aload_n 0, 1) := by decide +kernel
theorem dL_law_301 : decode cL_law 301 = .ok (.iload_n 3, 1) := by decide +kernel
theorem dL_law_302 : decode cL_law 302 = .ok (.iconst 2, 1) := by decide +kernel
theorem dL_law_303 : decode cL_law 303 = .ok (.iadd, 1) := by decide +kernel
theorem dL_law_304 : decode cL_law 304 = .ok (.iaload, 1) := by decide +kernel
theorem dL_law_305 : decode cL_law 305 = .ok (.invokevirtual 46, 3) := by decide +kernel
theorem dL_law_308 : decode cL_law 308 = .ok (.if_icmp .eq 368, 3) := by decide +kernel
theorem dL_law_311 : decode cL_law 311 = .ok (.iconst 0, 1) := by decide +kernel
theorem dL_law_312 : decode cL_law 312 = .ok (.ireturn, 1) := by decide +kernel
theorem dL_law_313 : decode cL_law 313 = .ok (.aload_n 1, 1) := by decide +kernel
theorem dL_law_314 : decode cL_law 314 = .ok (.aload_n 0, 1) := by decide +kernel
theorem dL_law_315 : decode cL_law 315 = .ok (.iload_n 3, 1) := by decide +kernel
theorem dL_law_316 : decode cL_law 316 = .ok (.iconst 1, 1) := by decide +kernel
theorem dL_law_317 : decode cL_law 317 = .ok (.iadd, 1) := by decide +kernel
theorem dL_law_318 : decode cL_law 318 = .ok (.iaload, 1) := by decide +kernel
theorem dL_law_319 : decode cL_law 319 = .ok (.aload_n 0, 1) := by decide +kernel
theorem dL_law_320 : decode cL_law 320 = .ok (.iload_n 3, 1) := by decide +kernel
theorem dL_law_321 : decode cL_law 321 = .ok (.iconst 2, 1) := by decide +kernel
theorem dL_law_322 : decode cL_law 322 = .ok (.iadd, 1) := by decide +kernel
theorem dL_law_323 : decode cL_law 323 = .ok (.iaload, 1) := by decide +kernel
theorem dL_law_324 : decode cL_law 324 = .ok (.invokevirtual 47, 3) := by decide +kernel
theorem dL_law_327 : decode cL_law 327 = .ok (.aload_n 2, 1) := by decide +kernel
theorem dL_law_328 : decode cL_law 328 = .ok (.aload_n 0, 1) := by decide +kernel
theorem dL_law_329 : decode cL_law 329 = .ok (.iload_n 3, 1) := by decide +kernel
theorem dL_law_330 : decode cL_law 330 = .ok (.iconst 1, 1) := by decide +kernel
theorem dL_law_331 : decode cL_law 331 = .ok (.iadd, 1) := by decide +kernel
theorem dL_law_332 : decode cL_law 332 = .ok (.iaload, 1) := by decide +kernel
theorem dL_law_333 : decode cL_law 333 = .ok (.aload_n 0, 1) := by decide +kernel
theorem dL_law_334 : decode cL_law 334 = .ok (.iload_n 3, 1) := by decide +kernel
theorem dL_law_335 : decode cL_law 335 = .ok (.iconst 2, 1) := by decide +kernel
theorem dL_law_336 : decode cL_law 336 = .ok (.iadd, 1) := by decide +kernel
theorem dL_law_337 : decode cL_law 337 = .ok (.iaload, 1) := by decide +kernel
theorem dL_law_338 : decode cL_law 338 = .ok (.invokevirtual 50, 3) := by decide +kernel
theorem dL_law_341 : decode cL_law 341 = .ok (.if_icmp .eq 335, 3) := by decide +kernel
theorem dL_law_344 : decode cL_law 344 = .ok (.iconst 0, 1) := by decide +kernel
theorem dL_law_345 : decode cL_law 345 = .ok (.ireturn, 1) := by decide +kernel
theorem dL_law_346 : decode cL_law 346 = .ok (.aload_n 1, 1) := by decide +kernel
theorem dL_law_347 : decode cL_law 347 = .ok (.aload_n 0, 1) := by decide +kernel
theorem dL_law_348 : decode cL_law 348 = .ok (.iload_n 3, 1) := by decide +kernel
theorem dL_law_349 : decode cL_law 349 = .ok (.iconst 1, 1) := by decide +kernel
theorem dL_law_350 : decode cL_law 350 = .ok (.iadd, 1) := by decide +kernel
theorem dL_law_351 : decode cL_law 351 = .ok (.iaload, 1) := by decide +kernel
theorem dL_law_352 : decode cL_law 352 = .ok (.aload_n 0, 1) := by decide +kernel
theorem dL_law_353 : decode cL_law 353 = .ok (.iload_n 3, 1) := by decide +kernel
theorem dL_law_354 : decode cL_law 354 = .ok (.iconst 2, 1) := by decide +kernel
theorem dL_law_355 : decode cL_law 355 = .ok (.iadd, 1) := by decide +kernel
theorem dL_law_356 : decode cL_law 356 = .ok (.iaload, 1) := by decide +kernel
theorem dL_law_357 : decode cL_law 357 = .ok (.invokevirtual 51, 3) := by decide +kernel
theorem dL_law_360 : decode cL_law 360 = .ok (.aload_n 2, 1) := by decide +kernel
theorem dL_law_361 : decode cL_law 361 = .ok (.aload_n 0, 1) := by decide +kernel
theorem dL_law_362 : decode cL_law 362 = .ok (.iload_n 3, 1) := by decide +kernel
theorem dL_law_363 : decode cL_law 363 = .ok (.iconst 1, 1) := by decide +kernel
theorem dL_law_364 : decode cL_law 364 = .ok (.iadd, 1) := by decide +kernel
theorem dL_law_365 : decode cL_law 365 = .ok (.iaload, 1) := by decide +kernel
theorem dL_law_366 : decode cL_law 366 = .ok (.aload_n 0, 1) := by decide +kernel
theorem dL_law_367 : decode cL_law 367 = .ok (.iload_n 3, 1) := by decide +kernel
theorem dL_law_368 : decode cL_law 368 = .ok (.iconst 2, 1) := by decide +kernel
theorem dL_law_369 : decode cL_law 369 = .ok (.iadd, 1) := by decide +kernel
theorem dL_law_370 : decode cL_law 370 = .ok (.iaload, 1) := by decide +kernel
theorem dL_law_371 : decode cL_law 371 = .ok (.invokevirtual 55, 3) := by decide +kernel
theorem dL_law_374 : decode cL_law 374 = .ok (.lcmp, 1) := by decide +kernel
theorem dL_law_375 : decode cL_law 375 = .ok (.ifCond .eq 301, 3) := by decide +kernel
theorem dL_law_378 : decode cL_law 378 = .ok (.iconst 0, 1) := by decide +kernel
theorem dL_law_379 : decode cL_law 379 = .ok (.ireturn, 1) := by decide +kernel
theorem dL_law_380 : decode cL_law 380 = .ok (.aload_n 1, 1) := by decide +kernel
theorem dL_law_381 : decode cL_law 381 = .ok (.aload_n 0, 1) := by decide +kernel
theorem dL_law_382 : decode cL_law 382 = .ok (.iload_n 3, 1) := by decide +kernel
theorem dL_law_383 : decode cL_law 383 = .ok (.iconst 1, 1) := by decide +kernel
theorem dL_law_384 : decode cL_law 384 = .ok (.iadd, 1) := by decide +kernel
theorem dL_law_385 : decode cL_law 385 = .ok (.iaload, 1) := by decide +kernel
theorem dL_law_386 : decode cL_law 386 = .ok (.aload_n 0, 1) := by decide +kernel
theorem dL_law_387 : decode cL_law 387 = .ok (.iload_n 3, 1) := by decide +kernel
theorem dL_law_388 : decode cL_law 388 = .ok (.iconst 2, 1) := by decide +kernel
theorem dL_law_389 : decode cL_law 389 = .ok (.iadd, 1) := by decide +kernel
theorem dL_law_390 : decode cL_law 390 = .ok (.iaload, 1) := by decide +kernel
theorem dL_law_391 : decode cL_law 391 = .ok (.aload_n 0, 1) := by decide +kernel
theorem dL_law_392 : decode cL_law 392 = .ok (.iload_n 3, 1) := by decide +kernel
theorem dL_law_393 : decode cL_law 393 = .ok (.iconst 3, 1) := by decide +kernel
theorem dL_law_394 : decode cL_law 394 = .ok (.iadd, 1) := by decide +kernel
theorem dL_law_395 : decode cL_law 395 = .ok (.iaload, 1) := by decide +kernel
theorem dL_law_396 : decode cL_law 396 = .ok (.invokevirtual 56, 3) := by decide +kernel
theorem dL_law_399 : decode cL_law 399 = .ok (.aload_n 2, 1) := by decide +kernel
theorem dL_law_400 : decode cL_law 400 = .ok (.aload_n 0, 1) := by decide +kernel
theorem dL_law_401 : decode cL_law 401 = .ok (.iload_n 3, 1) := by decide +kernel
theorem dL_law_402 : decode cL_law 402 = .ok (.iconst 1, 1) := by decide +kernel
theorem dL_law_403 : decode cL_law 403 = .ok (.iadd, 1) := by decide +kernel
theorem dL_law_404 : decode cL_law 404 = .ok (.iaload, 1) := by decide +kernel
theorem dL_law_405 : decode cL_law 405 = .ok (.aload_n 0, 1) := by decide +kernel
theorem dL_law_406 : decode cL_law 406 = .ok (.iload_n 3, 1) := by decide +kernel
theorem dL_law_407 : decode cL_law 407 = .ok (.iconst 2, 1) := by decide +kernel
theorem dL_law_408 : decode cL_law 408 = .ok (.iadd, 1) := by decide +kernel
theorem dL_law_409 : decode cL_law 409 = .ok (.iaload, 1) := by decide +kernel
theorem dL_law_410 : decode cL_law 410 = .ok (.aload_n 0, 1) := by decide +kernel
theorem dL_law_411 : decode cL_law 411 = .ok (.iload_n 3, 1) := by decide +kernel
theorem dL_law_412 : decode cL_law 412 = .ok (.iconst 3, 1) := by decide +kernel
theorem dL_law_413 : decode cL_law 413 = .ok (.iadd, 1) := by decide +kernel
theorem dL_law_414 : decode cL_law 414 = .ok (.iaload, 1) := by decide +kernel
theorem dL_law_415 : decode cL_law 415 = .ok (.invokevirtual 60, 3) := by decide +kernel
theorem dL_law_418 : decode cL_law 418 = .ok (.if_icmp .eq 258, 3) := by decide +kernel
theorem dL_law_421 : decode cL_law 421 = .ok (.iconst 0, 1) := by decide +kernel
theorem dL_law_422 : decode cL_law 422 = .ok (.ireturn, 1) := by decide +kernel
theorem dL_law_423 : decode cL_law 423 = .ok (.aload_n 1, 1) := by decide +kernel
theorem dL_law_424 : decode cL_law 424 = .ok (.aload_n 0, 1) := by decide +kernel
theorem dL_law_425 : decode cL_law 425 = .ok (.iload_n 3, 1) := by decide +kernel
theorem dL_law_426 : decode cL_law 426 = .ok (.iconst 1, 1) := by decide +kernel
theorem dL_law_427 : decode cL_law 427 = .ok (.iadd, 1) := by decide +kernel
theorem dL_law_428 : decode cL_law 428 = .ok (.iaload, 1) := by decide +kernel
theorem dL_law_429 : decode cL_law 429 = .ok (.aload_n 0, 1) := by decide +kernel
theorem dL_law_430 : decode cL_law 430 = .ok (.iload_n 3, 1) := by decide +kernel
theorem dL_law_431 : decode cL_law 431 = .ok (.iconst 2, 1) := by decide +kernel
theorem dL_law_432 : decode cL_law 432 = .ok (.iadd, 1) := by decide +kernel
theorem dL_law_433 : decode cL_law 433 = .ok (.iaload, 1) := by decide +kernel
theorem dL_law_434 : decode cL_law 434 = .ok (.invokevirtual 61, 3) := by decide +kernel
theorem dL_law_437 : decode cL_law 437 = .ok (.aload_n 2, 1) := by decide +kernel
theorem dL_law_438 : decode cL_law 438 = .ok (.aload_n 0, 1) := by decide +kernel
theorem dL_law_439 : decode cL_law 439 = .ok (.iload_n 3, 1) := by decide +kernel
theorem dL_law_440 : decode cL_law 440 = .ok (.iconst 1, 1) := by decide +kernel
theorem dL_law_441 : decode cL_law 441 = .ok (.iadd, 1) := by decide +kernel
theorem dL_law_442 : decode cL_law 442 = .ok (.iaload, 1) := by decide +kernel
theorem dL_law_443 : decode cL_law 443 = .ok (.aload_n 0, 1) := by decide +kernel
theorem dL_law_444 : decode cL_law 444 = .ok (.iload_n 3, 1) := by decide +kernel
theorem dL_law_445 : decode cL_law 445 = .ok (.iconst 2, 1) := by decide +kernel
theorem dL_law_446 : decode cL_law 446 = .ok (.iadd, 1) := by decide +kernel
theorem dL_law_447 : decode cL_law 447 = .ok (.iaload, 1) := by decide +kernel
theorem dL_law_448 : decode cL_law 448 = .ok (.invokevirtual 64, 3) := by decide +kernel
theorem dL_law_451 : decode cL_law 451 = .ok (.if_icmp .eq 225, 3) := by decide +kernel
theorem dL_law_454 : decode cL_law 454 = .ok (.iconst 0, 1) := by decide +kernel
theorem dL_law_455 : decode cL_law 455 = .ok (.ireturn, 1) := by decide +kernel
theorem dL_law_456 : decode cL_law 456 = .ok (.aload_n 1, 1) := by decide +kernel
theorem dL_law_457 : decode cL_law 457 = .ok (.aload_n 0, 1) := by decide +kernel
theorem dL_law_458 : decode cL_law 458 = .ok (.iload_n 3, 1) := by decide +kernel
theorem dL_law_459 : decode cL_law 459 = .ok (.iconst 1, 1) := by decide +kernel
theorem dL_law_460 : decode cL_law 460 = .ok (.iadd, 1) := by decide +kernel
theorem dL_law_461 : decode cL_law 461 = .ok (.iaload, 1) := by decide +kernel
theorem dL_law_462 : decode cL_law 462 = .ok (.aload_n 0, 1) := by decide +kernel
theorem dL_law_463 : decode cL_law 463 = .ok (.iload_n 3, 1) := by decide +kernel
theorem dL_law_464 : decode cL_law 464 = .ok (.iconst 2, 1) := by decide +kernel
theorem dL_law_465 : decode cL_law 465 = .ok (.iadd, 1) := by decide +kernel
theorem dL_law_466 : decode cL_law 466 = .ok (.iaload, 1) := by decide +kernel
theorem dL_law_467 : decode cL_law 467 = .ok (.invokevirtual 65, 3) := by decide +kernel
theorem dL_law_470 : decode cL_law 470 = .ok (.aload_n 2, 1) := by decide +kernel
theorem dL_law_471 : decode cL_law 471 = .ok (.aload_n 0, 1) := by decide +kernel
theorem dL_law_472 : decode cL_law 472 = .ok (.iload_n 3, 1) := by decide +kernel
theorem dL_law_473 : decode cL_law 473 = .ok (.iconst 1, 1) := by decide +kernel
theorem dL_law_474 : decode cL_law 474 = .ok (.iadd, 1) := by decide +kernel
theorem dL_law_475 : decode cL_law 475 = .ok (.iaload, 1) := by decide +kernel
theorem dL_law_476 : decode cL_law 476 = .ok (.aload_n 0, 1) := by decide +kernel
theorem dL_law_477 : decode cL_law 477 = .ok (.iload_n 3, 1) := by decide +kernel
theorem dL_law_478 : decode cL_law 478 = .ok (.iconst 2, 1) := by decide +kernel
theorem dL_law_479 : decode cL_law 479 = .ok (.iadd, 1) := by decide +kernel
theorem dL_law_480 : decode cL_law 480 = .ok (.iaload, 1) := by decide +kernel
theorem dL_law_481 : decode cL_law 481 = .ok (.invokevirtual 68, 3) := by decide +kernel
theorem dL_law_484 : decode cL_law 484 = .ok (.if_icmp .eq 192, 3) := by decide +kernel
theorem dL_law_487 : decode cL_law 487 = .ok (.iconst 0, 1) := by decide +kernel
theorem dL_law_488 : decode cL_law 488 = .ok (.ireturn, 1) := by decide +kernel
theorem dL_law_489 : decode cL_law 489 = .ok (.aload_n 1, 1) := by decide +kernel
theorem dL_law_490 : decode cL_law 490 = .ok (.aload_n 0, 1) := by decide +kernel
theorem dL_law_491 : decode cL_law 491 = .ok (.iload_n 3, 1) := by decide +kernel
theorem dL_law_492 : decode cL_law 492 = .ok (.iconst 1, 1) := by decide +kernel
theorem dL_law_493 : decode cL_law 493 = .ok (.iadd, 1) := by decide +kernel
theorem dL_law_494 : decode cL_law 494 = .ok (.iaload, 1) := by decide +kernel
theorem dL_law_495 : decode cL_law 495 = .ok (.invokevirtual 69, 3) := by decide +kernel
theorem dL_law_498 : decode cL_law 498 = .ok (.aload_n 2, 1) := by decide +kernel
theorem dL_law_499 : decode cL_law 499 = .ok (.aload_n 0, 1) := by decide +kernel
theorem dL_law_500 : decode cL_law 500 = .ok (.iload_n 3, 1) := by decide +kernel
theorem dL_law_501 : decode cL_law 501 = .ok (.iconst 1, 1) := by decide +kernel
theorem dL_law_502 : decode cL_law 502 = .ok (.iadd, 1) := by decide +kernel
theorem dL_law_503 : decode cL_law 503 = .ok (.iaload, 1) := by decide +kernel
theorem dL_law_504 : decode cL_law 504 = .ok (.invokevirtual 72, 3) := by decide +kernel
theorem dL_law_507 : decode cL_law 507 = .ok (.if_icmp .eq 169, 3) := by decide +kernel
theorem dL_law_510 : decode cL_law 510 = .ok (.iconst 0, 1) := by decide +kernel
theorem dL_law_511 : decode cL_law 511 = .ok (.ireturn, 1) := by decide +kernel
theorem dL_law_512 : decode cL_law 512 = .ok (.aload_n 1, 1) := by decide +kernel
theorem dL_law_513 : decode cL_law 513 = .ok (.aload_n 0, 1) := by decide +kernel
theorem dL_law_514 : decode cL_law 514 = .ok (.iload_n 3, 1) := by decide +kernel
theorem dL_law_515 : decode cL_law 515 = .ok (.iconst 1, 1) := by decide +kernel
theorem dL_law_516 : decode cL_law 516 = .ok (.iadd, 1) := by decide +kernel
theorem dL_law_517 : decode cL_law 517 = .ok (.iaload, 1) := by decide +kernel
theorem dL_law_518 : decode cL_law 518 = .ok (.invokevirtual 73, 3) := by decide +kernel
theorem dL_law_521 : decode cL_law 521 = .ok (.aload_n 2, 1) := by decide +kernel
theorem dL_law_522 : decode cL_law 522 = .ok (.aload_n 0, 1) := by decide +kernel
theorem dL_law_523 : decode cL_law 523 = .ok (.iload_n 3, 1) := by decide +kernel
theorem dL_law_524 : decode cL_law 524 = .ok (.iconst 1, 1) := by decide +kernel
theorem dL_law_525 : decode cL_law 525 = .ok (.iadd, 1) := by decide +kernel
theorem dL_law_526 : decode cL_law 526 = .ok (.iaload, 1) := by decide +kernel
theorem dL_law_527 : decode cL_law 527 = .ok (.invokevirtual 76, 3) := by decide +kernel
theorem dL_law_530 : decode cL_law 530 = .ok (.if_icmp .eq 146, 3) := by decide +kernel
theorem dL_law_533 : decode cL_law 533 = .ok (.iconst 0, 1) := by decide +kernel
theorem dL_law_534 : decode cL_law 534 = .ok (.ireturn, 1) := by decide +kernel
theorem dL_law_535 : decode cL_law 535 = .ok (.aload_n 1, 1) := by decide +kernel
theorem dL_law_536 : decode cL_law 536 = .ok (.aload_n 0, 1) := by decide +kernel
theorem dL_law_537 : decode cL_law 537 = .ok (.iload_n 3, 1) := by decide +kernel
theorem dL_law_538 : decode cL_law 538 = .ok (.iconst 1, 1) := by decide +kernel
theorem dL_law_539 : decode cL_law 539 = .ok (.iadd, 1) := by decide +kernel
theorem dL_law_540 : decode cL_law 540 = .ok (.iaload, 1) := by decide +kernel
theorem dL_law_541 : decode cL_law 541 = .ok (.aload_n 0, 1) := by decide +kernel
theorem dL_law_542 : decode cL_law 542 = .ok (.iload_n 3, 1) := by decide +kernel
theorem dL_law_543 : decode cL_law 543 = .ok (.iconst 2, 1) := by decide +kernel
theorem dL_law_544 : decode cL_law 544 = .ok (.iadd, 1) := by decide +kernel
theorem dL_law_545 : decode cL_law 545 = .ok (.iaload, 1) := by decide +kernel
theorem dL_law_546 : decode cL_law 546 = .ok (.invokevirtual 77, 3) := by decide +kernel
theorem dL_law_549 : decode cL_law 549 = .ok (.aload_n 2, 1) := by decide +kernel
theorem dL_law_550 : decode cL_law 550 = .ok (.aload_n 0, 1) := by decide +kernel
theorem dL_law_551 : decode cL_law 551 = .ok (.iload_n 3, 1) := by decide +kernel
theorem dL_law_552 : decode cL_law 552 = .ok (.iconst 1, 1) := by decide +kernel
theorem dL_law_553 : decode cL_law 553 = .ok (.iadd, 1) := by decide +kernel
theorem dL_law_554 : decode cL_law 554 = .ok (.iaload, 1) := by decide +kernel
theorem dL_law_555 : decode cL_law 555 = .ok (.aload_n 0, 1) := by decide +kernel
theorem dL_law_556 : decode cL_law 556 = .ok (.iload_n 3, 1) := by decide +kernel
theorem dL_law_557 : decode cL_law 557 = .ok (.iconst 2, 1) := by decide +kernel
theorem dL_law_558 : decode cL_law 558 = .ok (.iadd, 1) := by decide +kernel
theorem dL_law_559 : decode cL_law 559 = .ok (.iaload, 1) := by decide +kernel
theorem dL_law_560 : decode cL_law 560 = .ok (.invokevirtual 80, 3) := by decide +kernel
theorem dL_law_563 : decode cL_law 563 = .ok (.if_icmp .eq 113, 3) := by decide +kernel
theorem dL_law_566 : decode cL_law 566 = .ok (.iconst 0, 1) := by decide +kernel
theorem dL_law_567 : decode cL_law 567 = .ok (.ireturn, 1) := by decide +kernel
theorem dL_law_568 : decode cL_law 568 = .ok (.aload_n 1, 1) := by decide +kernel
theorem dL_law_569 : decode cL_law 569 = .ok (.aload_n 0, 1) := by decide +kernel
theorem dL_law_570 : decode cL_law 570 = .ok (.iload_n 3, 1) := by decide +kernel
theorem dL_law_571 : decode cL_law 571 = .ok (.iconst 1, 1) := by decide +kernel
theorem dL_law_572 : decode cL_law 572 = .ok (.iadd, 1) := by decide +kernel
theorem dL_law_573 : decode cL_law 573 = .ok (.iaload, 1) := by decide +kernel
theorem dL_law_574 : decode cL_law 574 = .ok (.invokevirtual 81, 3) := by decide +kernel
theorem dL_law_577 : decode cL_law 577 = .ok (.aload_n 2, 1) := by decide +kernel
theorem dL_law_578 : decode cL_law 578 = .ok (.aload_n 0, 1) := by decide +kernel
theorem dL_law_579 : decode cL_law 579 = .ok (.iload_n 3, 1) := by decide +kernel
theorem dL_law_580 : decode cL_law 580 = .ok (.iconst 1, 1) := by decide +kernel
theorem dL_law_581 : decode cL_law 581 = .ok (.iadd, 1) := by decide +kernel
theorem dL_law_582 : decode cL_law 582 = .ok (.iaload, 1) := by decide +kernel
theorem dL_law_583 : decode cL_law 583 = .ok (.invokevirtual 84, 3) := by decide +kernel
theorem dL_law_586 : decode cL_law 586 = .ok (.if_icmp .eq 90, 3) := by decide +kernel
theorem dL_law_589 : decode cL_law 589 = .ok (.iconst 0, 1) := by decide +kernel
theorem dL_law_590 : decode cL_law 590 = .ok (.ireturn, 1) := by decide +kernel
theorem dL_law_591 : decode cL_law 591 = .ok (.aload_n 1, 1) := by decide +kernel
theorem dL_law_592 : decode cL_law 592 = .ok (.aload_n 0, 1) := by decide +kernel
theorem dL_law_593 : decode cL_law 593 = .ok (.iload_n 3, 1) := by decide +kernel
theorem dL_law_594 : decode cL_law 594 = .ok (.iconst 1, 1) := by decide +kernel
theorem dL_law_595 : decode cL_law 595 = .ok (.iadd, 1) := by decide +kernel
theorem dL_law_596 : decode cL_law 596 = .ok (.iaload, 1) := by decide +kernel
theorem dL_law_597 : decode cL_law 597 = .ok (.invokevirtual 85, 3) := by decide +kernel
theorem dL_law_600 : decode cL_law 600 = .ok (.aload_n 2, 1) := by decide +kernel
theorem dL_law_601 : decode cL_law 601 = .ok (.aload_n 0, 1) := by decide +kernel
theorem dL_law_602 : decode cL_law 602 = .ok (.iload_n 3, 1) := by decide +kernel
theorem dL_law_603 : decode cL_law 603 = .ok (.iconst 1, 1) := by decide +kernel
theorem dL_law_604 : decode cL_law 604 = .ok (.iadd, 1) := by decide +kernel
theorem dL_law_605 : decode cL_law 605 = .ok (.iaload, 1) := by decide +kernel
theorem dL_law_606 : decode cL_law 606 = .ok (.invokevirtual 88, 3) := by decide +kernel
theorem dL_law_609 : decode cL_law 609 = .ok (.if_icmp .eq 67, 3) := by decide +kernel
theorem dL_law_612 : decode cL_law 612 = .ok (.iconst 0, 1) := by decide +kernel
theorem dL_law_613 : decode cL_law 613 = .ok (.ireturn, 1) := by decide +kernel
theorem dL_law_614 : decode cL_law 614 = .ok (.aload_n 1, 1) := by decide +kernel
theorem dL_law_615 : decode cL_law 615 = .ok (.invokevirtual 89, 3) := by decide +kernel
theorem dL_law_618 : decode cL_law 618 = .ok (.aload_n 2, 1) := by decide +kernel
theorem dL_law_619 : decode cL_law 619 = .ok (.invokevirtual 92, 3) := by decide +kernel
theorem dL_law_622 : decode cL_law 622 = .ok (.if_icmp .eq 54, 3) := by decide +kernel
theorem dL_law_625 : decode cL_law 625 = .ok (.iconst 0, 1) := by decide +kernel
theorem dL_law_626 : decode cL_law 626 = .ok (.ireturn, 1) := by decide +kernel
theorem dL_law_627 : decode cL_law 627 = .ok (.aload_n 1, 1) := by decide +kernel
theorem dL_law_628 : decode cL_law 628 = .ok (.invokevirtual 93, 3) := by decide +kernel
theorem dL_law_631 : decode cL_law 631 = .ok (.aload_n 2, 1) := by decide +kernel
theorem dL_law_632 : decode cL_law 632 = .ok (.invokevirtual 96, 3) := by decide +kernel
theorem dL_law_635 : decode cL_law 635 = .ok (.if_icmp .eq 41, 3) := by decide +kernel
theorem dL_law_638 : decode cL_law 638 = .ok (.iconst 0, 1) := by decide +kernel
theorem dL_law_639 : decode cL_law 639 = .ok (.ireturn, 1) := by decide +kernel
theorem dL_law_640 : decode cL_law 640 = .ok (.aload_n 1, 1) := by decide +kernel
theorem dL_law_641 : decode cL_law 641 = .ok (.invokevirtual 97, 3) := by decide +kernel
theorem dL_law_644 : decode cL_law 644 = .ok (.aload_n 2, 1) := by decide +kernel
theorem dL_law_645 : decode cL_law 645 = .ok (.invokevirtual 100, 3) := by decide +kernel
theorem dL_law_648 : decode cL_law 648 = .ok (.if_icmp .eq 28, 3) := by decide +kernel
theorem dL_law_651 : decode cL_law 651 = .ok (.iconst 0, 1) := by decide +kernel
theorem dL_law_652 : decode cL_law 652 = .ok (.ireturn, 1) := by decide +kernel
theorem dL_law_653 : decode cL_law 653 = .ok (.aload_n 1, 1) := by decide +kernel
theorem dL_law_654 : decode cL_law 654 = .ok (.aload_n 0, 1) := by decide +kernel
theorem dL_law_655 : decode cL_law 655 = .ok (.iload_n 3, 1) := by decide +kernel
theorem dL_law_656 : decode cL_law 656 = .ok (.iconst 1, 1) := by decide +kernel
theorem dL_law_657 : decode cL_law 657 = .ok (.iadd, 1) := by decide +kernel
theorem dL_law_658 : decode cL_law 658 = .ok (.iaload, 1) := by decide +kernel
theorem dL_law_659 : decode cL_law 659 = .ok (.invokevirtual 101, 3) := by decide +kernel
theorem dL_law_662 : decode cL_law 662 = .ok (.aload_n 2, 1) := by decide +kernel
theorem dL_law_663 : decode cL_law 663 = .ok (.aload_n 0, 1) := by decide +kernel
theorem dL_law_664 : decode cL_law 664 = .ok (.iload_n 3, 1) := by decide +kernel
theorem dL_law_665 : decode cL_law 665 = .ok (.iconst 1, 1) := by decide +kernel
theorem dL_law_666 : decode cL_law 666 = .ok (.iadd, 1) := by decide +kernel
theorem dL_law_667 : decode cL_law 667 = .ok (.iaload, 1) := by decide +kernel
theorem dL_law_668 : decode cL_law 668 = .ok (.invokevirtual 104, 3) := by decide +kernel
theorem dL_law_671 : decode cL_law 671 = .ok (.if_icmp .eq 5, 3) := by decide +kernel
theorem dL_law_674 : decode cL_law 674 = .ok (.iconst 0, 1) := by decide +kernel
theorem dL_law_675 : decode cL_law 675 = .ok (.ireturn, 1) := by decide +kernel
theorem dL_law_676 : decode cL_law 676 = .ok (.iinc 3 4, 3) := by decide +kernel
theorem dL_law_679 : decode cL_law 679 = .ok (.goto (-661), 3) := by decide +kernel
theorem dL_law_682 : decode cL_law 682 = .ok (.iconst 1, 1) := by decide +kernel
theorem dL_law_683 : decode cL_law 683 = .ok (.ireturn, 1) := by decide +kernel
end
section
/-! the one world: objects 0..10 and arrays 11..86 -/
def lyOC : List Nat := [8, 5, 6, 0, 4, 2, 7, 7, 3, 1, 9]
def lyNF : List Nat := [11, 9, 9, 6, 11, 7, 5, 5, 7, 2, 59]
def lyK : List (List Nat) := [[1, 0, 0, 1, 1, 1, 1, 1, 1, 1, 1], [1, 2, 0, 0, 0, 0, 0, 0, 0], [1, 1, 1, 1, 1, 1, 0, 0, 0], [1, 1, 1, 0, 0, 0], [1, 1, 1, 1, 1, 1, 1, 0, 0, 0, 0], [2, 2, 1, 1, 1, 1, 0], [1, 1, 1, 1, 0], [1, 1, 1, 1, 0], [1, 1, 0, 0, 0, 0, 0], [1, 1], [1, 0, 0, 0, 0, 1, 1, 1, 1, 0, 1, 0, 1, 1, 1, 0, 0, 1, 0, 0, 1, 0, 0, 1, 1, 1, 1, 0, 1, 1, 1, 1, 1, 1, 1, 1, 0, 1, 0, 0, 1, 1, 1, 1, 1, 1, 1, 1, 1, 1, 1, 0, 0, 1, 1, 0, 1, 1, 1]]
def lyR : List (List Nat) := [[11, 0, 0, 1, 3, 4, 5, 6, 7, 8, 9], [2, 12, 0, 0, 0, 0, 0, 0, 0], [13, 14, 15, 16, 17, 18, 0, 0, 0], [19, 20, 21, 0, 0, 0], [22, 23, 24, 25, 26, 27, 28, 0, 0, 0, 0], [29, 30, 31, 32, 33, 34, 0], [35, 36, 37, 38, 0], [39, 40, 41, 42, 0], [43, 44, 0, 0, 0, 0, 0], [45, 46], [47, 0, 0, 0, 0, 48, 49, 50, 51, 0, 52, 0, 53, 54, 55, 0, 0, 56, 0, 0, 57, 0, 0, 58, 59, 60, 61, 0, 62, 63, 64, 65, 66, 67, 68, 69, 0, 70, 0, 0, 71, 72, 73, 74, 75, 76, 77, 78, 79, 80, 81, 0, 0, 82, 83, 0, 84, 85, 86]]
def lyAK : List Nat := [0, 0, 0, 0, 0, 0, 0, 1, 0, 1, 1, 0, 2, 0, 1, 0, 0, 2, 0, 0, 0, 0, 0, 0, 0, 0, 0, 2, 0, 0, 0, 2, 0, 0, 2, 0, 3, 0, 0, 0, 0, 0, 0, 0, 1, 0, 1, 0, 0, 1, 1, 0, 1, 0, 0, 0, 1, 0, 0, 0, 0, 1, 0, 0, 0, 0, 0, 2, 1, 1, 0, 0, 1, 0, 0, 1]
def lyAL : List Nat := [60, 0, 9, 9, 9, 9, 9, 9, 1024, 1024, 256, 1921, 7684, 7684, 1921, 256, 1921, 4, 1921, 1921, 60, 60, 60, 60, 240, 60, 240, 1560, 240, 60, 240, 1560, 3600, 3600, 16, 16, 60, 9, 9, 9, 9, 16, 64, 64, 9, 9, 9, 1024, 1024, 1024, 256, 2600, 33300, 10400, 256, 15616, 256, 2600, 2600, 64, 240, 60, 60, 64, 64, 60, 60, 1560, 960, 60, 16, 240, 60, 3600, 3600, 3600]
def NW : Nat := 87
end
section
/-! ===== the layer: one world, one state, one row an instruction ===== -/
/-- the state: scalar fields by object and field; arrays of ints (booleans, bytes), of longs, by cell; which cell a mutable reference names -/
abbrev Sg : Type := (Nat → Nat → Int32) × (Nat → Nat → Int32) × (Nat → Nat → Int64) × (Nat → Nat → Nat)
def up2 {α : Type} (f : Nat → Nat → α) (o k : Nat) (v : α) : Nat → Nat → α := fun a b => if a = o then (if b = k then v else f a b) else f a b
def stF (σ : Sg) (o k : Nat) (v : Int32) : Sg := (up2 σ.1 o k v, σ.2)
def stA (σ : Sg) (a i : Nat) (v : Int32) : Sg := (σ.1, up2 σ.2.1 a i v, σ.2.2)
def stL (σ : Sg) (a i : Nat) (v : Int64) : Sg := (σ.1, σ.2.1, up2 σ.2.2.1 a i v, σ.2.2.2)
def stR (σ : Sg) (o k : Nat) (v : Nat) : Sg := (σ.1, σ.2.1, σ.2.2.1, up2 σ.2.2.2 o k v)
def gF (σ : Sg) (o k : Nat) : Int32 := σ.1 o k
def gA (σ : Sg) (a i : Nat) : Int32 := σ.2.1 a i
def gL (σ : Sg) (a i : Nat) : Int64 := σ.2.2.1 a i
def gR (σ : Sg) (o k : Nat) : Nat := σ.2.2.2 o k
def oc (o : Nat) : Nat := lyOC.getD o 0
def nF (o : Nat) : Nat := lyNF.getD o 0
def kd (o k : Nat) : Nat := (lyK.getD o []).getD k 9
def rfT (o k : Nat) : Nat := (lyR.getD o []).getD k 0
def aK (c : Nat) : Nat := lyAK.getD (c - 11) 9
def aN (c : Nat) : Nat := lyAL.getD (c - 11) 0
def fV (ad : Nat → Nat) (σ : Sg) (o k : Nat) : Value := if kd o k = 0 then .int (gF σ o k) else if kd o k = 1 then .ref (ad (rfT o k)) else .ref (ad (gR σ o k))
def oF (ad : Nat → Nat) (σ : Sg) (o : Nat) : List Value := (List.range (nF o)).map (fV ad σ o)
def wE (ad : Nat → Nat) (cy : Nat → ClassId) (σ : Sg) (c : Nat) : va_E := if c < 11 then .inr (oc c, oF ad σ c) else if aK c = 2 then .inl (cy 2, aN c, .inr (.inl (gL σ c))) else .inl (cy (aK c), aN c, .inl (gA σ c))
def wld (ad : Nat → Nat) (cy : Nat → ClassId) (σ : Sg) : va_W := (List.range NW).map (fun c => (ad c, wE ad cy σ c))
def ftK (k : Nat) : FieldType := if k = 0 then .int else if k = 1 then .boolean else if k = 2 then .long else .byte
def tysW (cy : Nat → ClassId) : List (ClassId × FieldType) := [(cy 0, .int), (cy 1, .boolean), (cy 2, .long), (cy 3, .byte)]
def AdOk (ad : Nat → Nat) (b0 : Nat) : Prop := (∀ i j, i < NW → j < NW → ad i = ad j → i = j) ∧ ∀ i, i < NW → b0 ≤ ad i
def clE (o : Nat) : vw_C := vwCl.getD (oc o) (RX0, TX0, 6)
theorem wld_get {ad : Nat → Nat} {cy : Nat → ClassId} {σ : Sg} {c : Nat} (h : c < NW) : (wld ad cy σ)[c]? = some (ad c, wE ad cy σ c) := by
  unfold wld
  rw [List.getElem?_map, List.getElem?_range h]
  rfl
theorem wld_set {ad : Nat → Nat} {cy : Nat → ClassId} {σ σ' : Sg} {c : Nat} {e : va_E} (he : wE ad cy σ' c = e) (ho : ∀ j, j < NW → j ≠ c → wE ad cy σ' j = wE ad cy σ j) : (wld ad cy σ).set c (ad c, e) = wld ad cy σ' := by
  refine List.ext_getElem? (fun k => ?_)
  by_cases hk : k < NW
  · by_cases hkc : k = c
    · subst hkc
      rw [List.getElem?_set_self (by simpa [wld] using hk), wld_get hk, he]
    · rw [List.getElem?_set_ne (Ne.symm hkc), wld_get hk, wld_get hk, ho k hk hkc]
  · have h1 : ((wld ad cy σ).set c (ad c, e)).length ≤ k := by simp [wld]; omega
    have h2 : (wld ad cy σ').length ≤ k := by simp [wld]; omega
    rw [List.getElem?_eq_none h1, List.getElem?_eq_none h2]
theorem wld_D {ad : Nat → Nat} {cy : Nat → ClassId} {b0 : Nat} (hA : AdOk ad b0) (σ : Sg) : va_D (fun q => b0 ≤ q) (wld ad cy σ) := by
  have key : ∀ (k : Nat) (q : Nat × va_E), (wld ad cy σ)[k]? = some q → k < NW ∧ q.1 = ad k := by
    intro k q h
    by_cases hk : k < NW
    · rw [wld_get hk] at h
      cases h
      exact ⟨hk, rfl⟩
    · have h2 : (wld ad cy σ).length ≤ k := by simp [wld]; omega
      rw [List.getElem?_eq_none h2] at h
      cases h
  refine ⟨fun i j p q hi hj hpq => ?_, fun k q hk => ?_⟩
  · obtain ⟨h1, h2⟩ := key i p hi
    obtain ⟨h3, h4⟩ := key j q hj
    exact hA.1 i j h1 h3 (by rw [← h2, ← h4]; exact hpq)
  · obtain ⟨h1, h2⟩ := key k q hk
    rw [h2]
    exact hA.2 k h1
theorem up2_same {α : Type} {f : Nat → Nat → α} {o k : Nat} {v : α} : up2 f o k v o k = v := by simp [up2]
theorem up2_row {α : Type} {f : Nat → Nat → α} {o k a : Nat} {v : α} (h : a ≠ o) : up2 f o k v a = f a := by
  funext b
  simp [up2, h]
theorem up2_upd {f : Nat → Nat → Int32} {o k : Nat} {v : Int32} : up2 f o k v o = upd (f o) k v := by
  funext b
  simp [up2, upd]
theorem up2_updL {f : Nat → Nat → Int64} {o k : Nat} {v : Int64} : up2 f o k v o = vp_updL (f o) k v := by
  funext b
  simp [up2, vp_updL]
theorem oF_set {ad : Nat → Nat} {σ σ' : Sg} {o k : Nat} (h : ∀ j, j ≠ k → fV ad σ' o j = fV ad σ o j) : (oF ad σ o).set k (fV ad σ' o k) = oF ad σ' o := by
  unfold oF
  refine List.ext_getElem? (fun j => ?_)
  by_cases hj : j < nF o
  · by_cases hjk : j = k
    · subst hjk
      rw [List.getElem?_set_self (by simpa using hj), List.getElem?_map, List.getElem?_range hj]
      rfl
    · rw [List.getElem?_set_ne (Ne.symm hjk), List.getElem?_map, List.getElem?_map, List.getElem?_range hj]
      simp [h j hjk]
  · rw [List.getElem?_eq_none (by simp; omega), List.getElem?_eq_none (by simp; omega)]
theorem wE_stA {ad : Nat → Nat} {cy : Nat → ClassId} {σ : Sg} {c i : Nat} {v : Int32} {j : Nat} (hj : j ≠ c) : wE ad cy (stA σ c i v) j = wE ad cy σ j := by
  unfold wE
  have h1 : gA (stA σ c i v) j = gA σ j := by
    funext b
    show up2 σ.2.1 c i v j b = σ.2.1 j b
    rw [up2_row hj]
  rw [h1]
  rfl
theorem wE_stL {ad : Nat → Nat} {cy : Nat → ClassId} {σ : Sg} {c i : Nat} {v : Int64} {j : Nat} (hj : j ≠ c) : wE ad cy (stL σ c i v) j = wE ad cy σ j := by
  unfold wE
  have h1 : gL (stL σ c i v) j = gL σ j := by
    funext b
    show up2 σ.2.2.1 c i v j b = σ.2.2.1 j b
    rw [up2_row hj]
  rw [h1]
  rfl
theorem fV_stF {ad : Nat → Nat} {σ : Sg} {o k : Nat} {v : Int32} {a b : Nat} (h : a ≠ o ∨ b ≠ k) : fV ad (stF σ o k v) a b = fV ad σ a b := by
  unfold fV
  have h1 : gF (stF σ o k v) a b = gF σ a b := by
    show up2 σ.1 o k v a b = σ.1 a b
    rcases h with h | h
    · rw [up2_row h]
    · simp [up2, h]
  rw [h1]
  rfl
theorem fV_stR {ad : Nat → Nat} {σ : Sg} {o k : Nat} {v : Nat} {a b : Nat} (h : a ≠ o ∨ b ≠ k) : fV ad (stR σ o k v) a b = fV ad σ a b := by
  unfold fV
  have h1 : gR (stR σ o k v) a b = gR σ a b := by
    show up2 σ.2.2.2 o k v a b = σ.2.2.2 a b
    rcases h with h | h
    · rw [up2_row h]
    · simp [up2, h]
  rw [h1]
  rfl
theorem wE_stF {ad : Nat → Nat} {cy : Nat → ClassId} {σ : Sg} {o k : Nat} {v : Int32} {j : Nat} (hj : j ≠ o) : wE ad cy (stF σ o k v) j = wE ad cy σ j := by
  unfold wE
  have h1 : oF ad (stF σ o k v) j = oF ad σ j := by
    unfold oF
    refine List.map_congr_left (fun b _ => fV_stF (Or.inl hj))
  rw [h1]
  rfl
theorem wE_stR {ad : Nat → Nat} {cy : Nat → ClassId} {σ : Sg} {o k : Nat} {v : Nat} {j : Nat} (hj : j ≠ o) : wE ad cy (stR σ o k v) j = wE ad cy σ j := by
  unfold wE
  have h1 : oF ad (stR σ o k v) j = oF ad σ j := by
    unfold oF
    refine List.map_congr_left (fun b _ => fV_stR (Or.inl hj))
  rw [h1]
  rfl
theorem wE_obj {ad : Nat → Nat} {cy : Nat → ClassId} {σ : Sg} {o : Nat} (h : o < 11) : wE ad cy σ o = .inr (oc o, oF ad σ o) := by
  unfold wE
  rw [if_pos h]
theorem wE_int {ad : Nat → Nat} {cy : Nat → ClassId} {σ : Sg} {c : Nat} (h : 11 ≤ c) (h2 : aK c ≠ 2) : wE ad cy σ c = .inl (cy (aK c), aN c, .inl (gA σ c)) := by
  unfold wE
  rw [if_neg (by omega), if_neg h2]
theorem wE_long {ad : Nat → Nat} {cy : Nat → ClassId} {σ : Sg} {c : Nat} (h : 11 ≤ c) (h2 : aK c = 2) : wE ad cy σ c = .inl (cy 2, aN c, .inr (.inl (gL σ c))) := by
  unfold wE
  rw [if_neg (by omega), if_pos h2]
-- ===== locals by place =====
def kill2 : Option Value → Option Value
  | some v => if v.category = 2 then none else some v
  | none => none
def lset1 : List (Option Value) → Nat → Value → List (Option Value)
  | [], _, _ => []
  | _ :: l, 0, v => some v :: l
  | o :: l, i + 1, v => (if i = 0 then kill2 o else o) :: lset1 l i v
def lset2 : List (Option Value) → Nat → Value → List (Option Value)
  | [], _, _ => []
  | _ :: l, 0, v => some v :: l.set 0 none
  | o :: l, i + 1, v => (if i = 0 then kill2 o else o) :: lset2 l i v
def lvl (loc : List (Option Value)) : List (Nat × Value) := (List.range loc.length).filterMap (fun i => match loc[i]? with | some (some v) => some (i, v) | _ => none)
theorem mem_lvl {loc : List (Option Value)} {i : Nat} {v : Value} : (i, v) ∈ lvl loc ↔ loc[i]? = some (some v) := by
  unfold lvl
  rw [List.mem_filterMap]
  constructor
  · rintro ⟨j, -, h⟩
    split at h
    · next w hw => cases h; exact hw
    · cases h
  · intro h
    refine ⟨i, List.mem_range.mpr (List.getElem?_eq_some_iff.mp h).1, ?_⟩
    rw [h]
theorem lset1_at : ∀ (l : List (Option Value)) (i : Nat) (v : Value) (j : Nat) (w : Value), (lset1 l i v)[j]? = some (some w) → (j = i ∧ w = v) ∨ (j ≠ i ∧ l[j]? = some (some w) ∧ ¬ (j + 1 = i ∧ w.category = 2))
  | [], i, v, j, w, h => by simp [lset1] at h
  | o :: l, 0, v, j, w, h => by
    cases j with
    | zero => simp [lset1] at h; exact Or.inl ⟨rfl, h.symm⟩
    | succ j => simp [lset1] at h; exact Or.inr ⟨by omega, by simpa using h, by omega⟩
  | o :: l, i + 1, v, j, w, h => by
    cases j with
    | zero =>
      refine Or.inr ⟨by omega, ?_, ?_⟩
      · simp only [lset1, List.getElem?_cons_zero, Option.some.injEq] at h ⊢
        split at h
        · cases o with
          | none => simp [kill2] at h
          | some x => simp only [kill2] at h; split at h <;> simp_all
        · exact h
      · rintro ⟨h1, h2⟩
        have hi : i = 0 := by omega
        subst hi
        simp only [lset1, List.getElem?_cons_zero, Option.some.injEq, if_pos] at h
        cases o with
        | none => simp [kill2] at h
        | some x => simp only [kill2] at h; split at h <;> simp_all
    | succ j =>
      simp only [lset1, List.getElem?_cons_succ] at h
      rcases lset1_at l i v j w h with ⟨h1, h2⟩ | ⟨h1, h2, h3⟩
      · exact Or.inl ⟨by omega, h2⟩
      · exact Or.inr ⟨by omega, by simpa using h2, fun ⟨a, b⟩ => h3 ⟨by omega, b⟩⟩
theorem lset2_at : ∀ (l : List (Option Value)) (i : Nat) (v : Value) (j : Nat) (w : Value), (lset2 l i v)[j]? = some (some w) → (j = i ∧ w = v) ∨ (j ≠ i ∧ j ≠ i + 1 ∧ l[j]? = some (some w) ∧ ¬ (j + 1 = i ∧ w.category = 2))
  | [], i, v, j, w, h => by simp [lset2] at h
  | o :: l, 0, v, j, w, h => by
    cases j with
    | zero => simp [lset2] at h; exact Or.inl ⟨rfl, h.symm⟩
    | succ j =>
      simp only [lset2, List.getElem?_cons_succ] at h
      cases j with
      | zero =>
        rw [List.getElem?_set] at h
        simp at h
      | succ j =>
        rw [List.getElem?_set_ne (by omega)] at h
        exact Or.inr ⟨by omega, by omega, by simpa using h, by omega⟩
  | o :: l, i + 1, v, j, w, h => by
    cases j with
    | zero =>
      refine Or.inr ⟨by omega, by omega, ?_, ?_⟩
      · simp only [lset2, List.getElem?_cons_zero, Option.some.injEq] at h ⊢
        split at h
        · cases o with
          | none => simp [kill2] at h
          | some x => simp only [kill2] at h; split at h <;> simp_all
        · exact h
      · rintro ⟨h1, h2⟩
        have hi : i = 0 := by omega
        subst hi
        simp only [lset2, List.getElem?_cons_zero, Option.some.injEq, if_pos] at h
        cases o with
        | none => simp [kill2] at h
        | some x => simp only [kill2] at h; split at h <;> simp_all
    | succ j =>
      simp only [lset2, List.getElem?_cons_succ] at h
      rcases lset2_at l i v j w h with ⟨h1, h2⟩ | ⟨h1, h2, h3, h4⟩
      · exact Or.inl ⟨by omega, h2⟩
      · exact Or.inr ⟨by omega, by omega, by simpa using h3, fun ⟨a, b⟩ => h4 ⟨by omega, b⟩⟩
def lvp (ls : Array Slot) (nL : Nat) (loc : List (Option Value)) : Prop := lv_has ls nL (lvl loc)
theorem lvp_at {ls : Array Slot} {nL : Nat} {loc : List (Option Value)} (h : lvp ls nL loc) {i : Nat} {v : Value} (hl : loc[i]? = some (some v)) : ls[i]? = some (.val v) := h.2.2 (i, v) (mem_lvl.mpr hl)
theorem lvp_of {ls : Array Slot} {nL : Nat} {loc : List (Option Value)} {l : List (Nat × Value)} (h : lv_has ls nL l) (hs : ∀ i v, loc[i]? = some (some v) → (i, v) ∈ l) : lvp ls nL loc := ⟨h.1, h.2.1, fun q hq => h.2.2 q (hs q.1 q.2 (mem_lvl.mp hq))⟩
theorem lvp_set1 {ls : Array Slot} {nL : Nat} {loc : List (Option Value)} {i : Nat} {v : Value} (h : lv_has ls nL ((i, v) :: (lvl loc).filter (fun q => !(q.1 == i) && !(q.1 + 1 == i && q.2.category == 2)))) : lvp ls nL (lset1 loc i v) := by
  refine lvp_of h (fun j w hj => ?_)
  rcases lset1_at loc i v j w hj with ⟨rfl, rfl⟩ | ⟨h1, h2, h3⟩
  · exact List.mem_cons_self
  · refine List.mem_cons_of_mem _ (List.mem_filter.mpr ⟨mem_lvl.mpr h2, ?_⟩)
    simp only [Bool.and_eq_true, Bool.not_eq_true', beq_eq_false_iff_ne, ne_eq, Bool.and_eq_false_iff]
    refine ⟨h1, ?_⟩
    by_cases ha : j + 1 = i
    · exact Or.inr (fun hb => h3 ⟨ha, hb⟩)
    · exact Or.inl ha
theorem lvp_set2 {ls : Array Slot} {nL : Nat} {loc : List (Option Value)} {i : Nat} {v : Value} (h : lv_has ls nL ((i, v) :: (lvl loc).filter (fun q => !(q.1 == i) && (!(q.1 == i + 1) && !(q.1 + 1 == i && q.2.category == 2))))) : lvp ls nL (lset2 loc i v) := by
  refine lvp_of h (fun j w hj => ?_)
  rcases lset2_at loc i v j w hj with ⟨rfl, rfl⟩ | ⟨h1, h2, h3, h4⟩
  · exact List.mem_cons_self
  · refine List.mem_cons_of_mem _ (List.mem_filter.mpr ⟨mem_lvl.mpr h3, ?_⟩)
    simp only [Bool.and_eq_true, Bool.not_eq_true', beq_eq_false_iff_ne, ne_eq, Bool.and_eq_false_iff]
    refine ⟨h1, h2, ?_⟩
    by_cases ha : j + 1 = i
    · exact Or.inr (fun hb => h4 ⟨ha, hb⟩)
    · exact Or.inl ha
def lmask : List (Option Value) → List Bool → List (Option Value)
  | o :: l, true :: b => o :: lmask l b
  | _ :: l, false :: b => none :: lmask l b
  | _, _ => []
theorem lmask_at : ∀ (l : List (Option Value)) (b : List Bool) (j : Nat) (w : Value), (lmask l b)[j]? = some (some w) → l[j]? = some (some w)
  | [], b, j, w, h => by cases b <;> simp [lmask] at h
  | o :: l, [], j, w, h => by simp [lmask] at h
  | o :: l, true :: b, j, w, h => by
    cases j with
    | zero => simpa [lmask] using h
    | succ j => simp only [lmask, List.getElem?_cons_succ] at h ⊢; exact lmask_at l b j w h
  | o :: l, false :: b, j, w, h => by
    cases j with
    | zero => simp [lmask] at h
    | succ j => simp only [lmask, List.getElem?_cons_succ] at h ⊢; exact lmask_at l b j w h
/-- the locals at a method's entry, by place -/
def lent : List Value → Nat → List (Option Value)
  | _, 0 => []
  | [], n + 1 => none :: lent [] n
  | v :: vs, n + 1 => if v.category = 2 then (match n with | 0 => [some v] | k + 1 => some v :: none :: lent vs k) else some v :: lent vs n
theorem lent_nil : ∀ (n i : Nat) (w : Value), (lent [] n)[i]? ≠ some (some w)
  | 0, i, w => by simp [lent]
  | n + 1, 0, w => by simp [lent]
  | n + 1, i + 1, w => by simp only [lent, List.getElem?_cons_succ]; exact lent_nil n i w
theorem lent_at : ∀ (vs : List Value) (n i : Nat) (w : Value) (b : Nat), (lent vs n)[i]? = some (some w) → (b + i, w) ∈ lv_args b vs
  | [], n, i, w, b, h => absurd h (lent_nil n i w)
  | v :: vs, 0, i, w, b, h => by simp [lent] at h
  | v :: vs, n + 1, i, w, b, h => by
    unfold lent at h
    split at h
    · next hc =>
      cases n with
      | zero =>
        cases i with
        | zero => simp at h; subst h; simp [lv_args]
        | succ i => simp at h
      | succ k =>
        match i, h with
        | 0, h => simp at h; subst h; simp [lv_args]
        | 1, h => simp at h
        | i + 2, h =>
          simp only [List.getElem?_cons_succ] at h
          have := lent_at vs k i w (b + 2) h
          simp only [lv_args, if_pos hc, List.mem_cons]
          refine Or.inr ?_
          have e : b + (i + 2) = b + 2 + i := by omega
          rw [e]
          exact this
    · next hc =>
      cases i with
      | zero => simp at h; subst h; simp [lv_args]
      | succ i =>
        simp only [List.getElem?_cons_succ] at h
        have := lent_at vs n i w (b + 1) h
        simp only [lv_args, if_neg hc, List.mem_cons]
        refine Or.inr ?_
        have e : b + (i + 1) = b + 1 + i := by omega
        rw [e]
        exact this
end
section
/-! ===== rows over the layer: one an instruction ===== -/
def Cx (p : Program) (s : State) (m : MethodId) (args : Array Value) (meth : Method) (c : Code) (D : va_G) (cy : Nat → ClassId) (ad : Nat → Nat) (b0 : Nat) (y : MethodName) (cc : ByteArray) (nL : Nat) (ret : Option FieldType) : Prop :=
  p.tables.exec = Jvm.exec ∧ c.code = cc ∧ c.maxLocals = nL ∧ meth.sig.returnType = ret ∧ s.vm.findClass y.cls = some m.cls ∧ (∀ w ∈ wsG, w.before args s = true) ∧ (∀ w ∈ nestW, va_Nw w s) ∧ va_K D vwCl (tysW cy) s ∧ AdOk ad b0 ∧ meth.locks = false
def gw (p : Program) (l : Launch) (e : Env) (R : Room) (s : State) (m : MethodId) (args : Array Value) (below : List Frame) (meth : Method) (c : Code) (D : va_G) (cy : Nat → ClassId) (ad : Nat → Nat) (b0 : Nat) (cl sl : Nat) (Q : State → Prop) (nL pc : Nat) (σ : Sg) (loc : List (Option Value)) (st : List Value) : Prop :=
  ∀ (H : Heap) (locs : List Loc) (ls : Array Slot), va_P D vwCl (wld ad cy σ) H → va_S (fun q => b0 ≤ q) s.heap H locs → lvp ls nL loc → W p l e R s m args below meth c H locs cl sl Q (F0 m pc ls st)
theorem inW (o : Nat) (ho : o < 11) : ∀ w ∈ u_ws (clE o).1 (clE o).2.1 (clE o).2.2, w ∈ wsG := by
  match o, ho with
  | 0, _ => exact inlX8
  | 1, _ => exact inlX5
  | 2, _ => exact inlX6
  | 3, _ => exact inlX0
  | 4, _ => exact inlX4
  | 5, _ => exact inlX2
  | 6, _ => exact inlX7
  | 7, _ => exact inlX7
  | 8, _ => exact inlX3
  | 9, _ => exact inlX1
  | 10, _ => exact inlX9
def tyO (o : Nat) : Nat → FieldType := match oc o with
  | 0 => tyX0
  | 1 => tyX1
  | 2 => tyX2
  | 3 => tyX3
  | 4 => tyX4
  | 5 => tyX5
  | 6 => tyX6
  | 7 => tyX7
  | 8 => tyX8
  | _ => tyX9
theorem tyO_ok (o : Nat) (ho : o < 11) : ∀ k, k < (clE o).2.2 → parseFieldDescriptor ((clE o).2.1 k).2.2.1 = some (tyO o k) := by
  match o, ho with
  | 0, _ => exact tyX8_ok
  | 1, _ => exact tyX5_ok
  | 2, _ => exact tyX6_ok
  | 3, _ => exact tyX0_ok
  | 4, _ => exact tyX4_ok
  | 5, _ => exact tyX2_ok
  | 6, _ => exact tyX7_ok
  | 7, _ => exact tyX7_ok
  | 8, _ => exact tyX3_ok
  | 9, _ => exact tyX1_ok
  | 10, _ => exact tyX9_ok
theorem nmO (o : Nat) (ho : o < 11) : ∀ a, a < (clE o).2.2 → ∀ b, b < (clE o).2.2 → a ≠ b → ((clE o).2.1 a).2.1 ≠ ((clE o).2.1 b).2.1 := by
  match o, ho with
  | 0, _ => exact nmX8
  | 1, _ => exact nmX5
  | 2, _ => exact nmX6
  | 3, _ => exact nmX0
  | 4, _ => exact nmX4
  | 5, _ => exact nmX2
  | 6, _ => exact nmX7
  | 7, _ => exact nmX7
  | 8, _ => exact nmX3
  | 9, _ => exact nmX1
  | 10, _ => exact nmX9
theorem clO (o : Nat) (ho : o < 11) : vwCl[oc o]? = some (clE o) := by
  match o, ho with
  | 0, _ => rfl
  | 1, _ => rfl
  | 2, _ => rfl
  | 3, _ => rfl
  | 4, _ => rfl
  | 5, _ => rfl
  | 6, _ => rfl
  | 7, _ => rfl
  | 8, _ => rfl
  | 9, _ => rfl
  | 10, _ => rfl
theorem nFO (o : Nat) (ho : o < 11) : (clE o).2.2 = nF o := by
  match o, ho with
  | 0, _ => rfl
  | 1, _ => rfl
  | 2, _ => rfl
  | 3, _ => rfl
  | 4, _ => rfl
  | 5, _ => rfl
  | 6, _ => rfl
  | 7, _ => rfl
  | 8, _ => rfl
  | 9, _ => rfl
  | 10, _ => rfl
theorem oF_get {ad : Nat → Nat} {σ : Sg} {o k : Nat} (h : k < nF o) : (oF ad σ o)[k]? = some (fV ad σ o k) := by
  unfold oF
  rw [List.getElem?_map, List.getElem?_range h]
  rfl
theorem tys_at {cy : Nat → ClassId} {k : Nat} (h : k < 4) : (tysW cy)[k]? = some (cy k, ftK k) := by
  match k, h with
  | 0, _ => rfl
  | 1, _ => rfl
  | 2, _ => rfl
  | 3, _ => rfl
section GW
variable {p : Program} {l : Launch} {e : Env} {R : Room} {s : State} {m : MethodId} {args : Array Value} {below : List Frame} {meth : Method} {c : Code} {D : va_G} {cy : Nat → ClassId} {ad : Nat → Nat} {b0 cl sl : Nat} {Q : State → Prop} {nL pc : Nat} {σ : Sg} {loc : List (Option Value)} {st : List Value} {y : MethodName} {cc : ByteArray} {ret : Option FieldType}
theorem Cx.x (C : Cx p s m args meth c D cy ad b0 y cc nL ret) : p.tables.exec = Jvm.exec := C.1
theorem Cx.b (C : Cx p s m args meth c D cy ad b0 y cc nL ret) : c.code = cc := C.2.1
theorem Cx.ml (C : Cx p s m args meth c D cy ad b0 y cc nL ret) : c.maxLocals = nL := C.2.2.1
theorem Cx.r (C : Cx p s m args meth c D cy ad b0 y cc nL ret) : meth.sig.returnType = ret := C.2.2.2.1
theorem Cx.o (C : Cx p s m args meth c D cy ad b0 y cc nL ret) : s.vm.findClass y.cls = some m.cls := C.2.2.2.2.1
theorem Cx.ts (C : Cx p s m args meth c D cy ad b0 y cc nL ret) : ∀ w ∈ wsG, w.before args s = true := C.2.2.2.2.2.1
theorem Cx.n (C : Cx p s m args meth c D cy ad b0 y cc nL ret) : ∀ w ∈ nestW, va_Nw w s := C.2.2.2.2.2.2.1
theorem Cx.K (C : Cx p s m args meth c D cy ad b0 y cc nL ret) : va_K D vwCl (tysW cy) s := C.2.2.2.2.2.2.2.1
theorem Cx.A (C : Cx p s m args meth c D cy ad b0 y cc nL ret) : AdOk ad b0 := C.2.2.2.2.2.2.2.2.1
theorem Cx.lk (C : Cx p s m args meth c D cy ad b0 y cc nL ret) : meth.locks = false := C.2.2.2.2.2.2.2.2.2
theorem g_iconst (C : Cx p s m args meth c D cy ad b0 y cc nL ret) {n : Int} {v : Int32} (hd : decode cc pc = .ok (.iconst n, 1)) (hv : Int32.ofInt n = v) (k : gw p l e R s m args below meth c D cy ad b0 cl sl Q nL (pc + 1) σ loc (.int v :: st)) : gw p l e R s m args below meth c D cy ad b0 cl sl Q nL pc σ loc st := fun H locs ls hP hS hl => lv_iconst C.x C.b hd hv (k H locs ls hP hS hl)
theorem g_bipush (C : Cx p s m args meth c D cy ad b0 y cc nL ret) {n : Int} {v : Int32} (hd : decode cc pc = .ok (.bipush n, 2)) (hv : (Int8.ofInt n).toInt32 = v) (k : gw p l e R s m args below meth c D cy ad b0 cl sl Q nL (pc + 2) σ loc (.int v :: st)) : gw p l e R s m args below meth c D cy ad b0 cl sl Q nL pc σ loc st := fun H locs ls hP hS hl => lv_bipush C.x C.b hd hv (k H locs ls hP hS hl)
theorem g_sipush (C : Cx p s m args meth c D cy ad b0 y cc nL ret) {n : Int} {v : Int32} (hd : decode cc pc = .ok (.sipush n, 3)) (hv : (Int16.ofInt n).toInt32 = v) (k : gw p l e R s m args below meth c D cy ad b0 cl sl Q nL (pc + 3) σ loc (.int v :: st)) : gw p l e R s m args below meth c D cy ad b0 cl sl Q nL pc σ loc st := fun H locs ls hP hS hl => lv_sipush C.x C.b hd hv (k H locs ls hP hS hl)
theorem g_lconst (C : Cx p s m args meth c D cy ad b0 y cc nL ret) {n : Fin 2} {v : Int64} (hd : decode cc pc = .ok (.lconst n, 1)) (hv : Int64.ofNat (n : Nat) = v) (k : gw p l e R s m args below meth c D cy ad b0 cl sl Q nL (pc + 1) σ loc (.long v :: st)) : gw p l e R s m args below meth c D cy ad b0 cl sl Q nL pc σ loc st := fun H locs ls hP hS hl => lv_lconst C.x C.b hd hv (k H locs ls hP hS hl)
theorem g_ldc2 (C : Cx p s m args meth c D cy ad b0 y cc nL ret) {i : Nat} {v : Int64} (hw : Cond.constantLong y.cls i v ∈ wsG) (hd : decode cc pc = .ok (.ldc2_w i, 3)) (k : gw p l e R s m args below meth c D cy ad b0 cl sl Q nL (pc + 3) σ loc (.long v :: st)) : gw p l e R s m args below meth c D cy ad b0 cl sl Q nL pc σ loc st := fun H locs ls hP hS hl => lv_ldc2 C.x C.b C.o (C.ts _ hw) hd (k H locs ls hP hS hl)
theorem g_iload_n (C : Cx p s m args meth c D cy ad b0 y cc nL ret) {j : Fin 4} {x : Int32} (hd : decode cc pc = .ok (.iload_n j, 1)) (h : loc[(j : Nat)]? = some (some (.int x))) (k : gw p l e R s m args below meth c D cy ad b0 cl sl Q nL (pc + 1) σ loc (.int x :: st)) : gw p l e R s m args below meth c D cy ad b0 cl sl Q nL pc σ loc st := fun H locs ls hP hS hl => lv_iload_n C.x C.b hd rfl (lvp_at hl h) (k H locs ls hP hS hl)
theorem g_iload (C : Cx p s m args meth c D cy ad b0 y cc nL ret) {j : Nat} {x : Int32} (hd : decode cc pc = .ok (.iload j, 2)) (h : loc[j]? = some (some (.int x))) (k : gw p l e R s m args below meth c D cy ad b0 cl sl Q nL (pc + 2) σ loc (.int x :: st)) : gw p l e R s m args below meth c D cy ad b0 cl sl Q nL pc σ loc st := fun H locs ls hP hS hl => lv_iload C.x C.b hd (lvp_at hl h) (k H locs ls hP hS hl)
theorem g_istore_n (C : Cx p s m args meth c D cy ad b0 y cc nL ret) {j : Fin 4} {x : Int32} (loc2 : List (Option Value)) (hd : decode cc pc = .ok (.istore_n j, 1)) (hn : (j : Nat) < nL) (h : lset1 loc (j : Nat) (.int x) = loc2) (k : gw p l e R s m args below meth c D cy ad b0 cl sl Q nL (pc + 1) σ loc2 st) : gw p l e R s m args below meth c D cy ad b0 cl sl Q nL pc σ loc (.int x :: st) := fun H locs ls hP hS hl => lv_istore_n C.x C.b hd rfl hl hn rfl (fun ls2 hl2 => k H locs ls2 hP hS (h ▸ lvp_set1 hl2))
theorem g_istore (C : Cx p s m args meth c D cy ad b0 y cc nL ret) {j : Nat} {x : Int32} (loc2 : List (Option Value)) (hd : decode cc pc = .ok (.istore j, 2)) (hn : (j : Nat) < nL) (h : lset1 loc j (.int x) = loc2) (k : gw p l e R s m args below meth c D cy ad b0 cl sl Q nL (pc + 2) σ loc2 st) : gw p l e R s m args below meth c D cy ad b0 cl sl Q nL pc σ loc (.int x :: st) := fun H locs ls hP hS hl => lv_istore C.x C.b hd hl hn rfl (fun ls2 hl2 => k H locs ls2 hP hS (h ▸ lvp_set1 hl2))
theorem g_lload_n (C : Cx p s m args meth c D cy ad b0 y cc nL ret) {j : Fin 4} {x : Int64} (hd : decode cc pc = .ok (.lload_n j, 1)) (h : loc[(j : Nat)]? = some (some (.long x))) (k : gw p l e R s m args below meth c D cy ad b0 cl sl Q nL (pc + 1) σ loc (.long x :: st)) : gw p l e R s m args below meth c D cy ad b0 cl sl Q nL pc σ loc st := fun H locs ls hP hS hl => lv_lload_n C.x C.b hd rfl (lvp_at hl h) (k H locs ls hP hS hl)
theorem g_lload (C : Cx p s m args meth c D cy ad b0 y cc nL ret) {j : Nat} {x : Int64} (hd : decode cc pc = .ok (.lload j, 2)) (h : loc[j]? = some (some (.long x))) (k : gw p l e R s m args below meth c D cy ad b0 cl sl Q nL (pc + 2) σ loc (.long x :: st)) : gw p l e R s m args below meth c D cy ad b0 cl sl Q nL pc σ loc st := fun H locs ls hP hS hl => lv_lload C.x C.b hd (lvp_at hl h) (k H locs ls hP hS hl)
theorem g_lstore_n (C : Cx p s m args meth c D cy ad b0 y cc nL ret) {j : Fin 4} {x : Int64} (loc2 : List (Option Value)) (hd : decode cc pc = .ok (.lstore_n j, 1)) (hn : (j : Nat) + 1 < nL) (h : lset2 loc (j : Nat) (.long x) = loc2) (k : gw p l e R s m args below meth c D cy ad b0 cl sl Q nL (pc + 1) σ loc2 st) : gw p l e R s m args below meth c D cy ad b0 cl sl Q nL pc σ loc (.long x :: st) := fun H locs ls hP hS hl => lv_lstore_n C.x C.b hd rfl hl hn rfl (fun ls2 hl2 => k H locs ls2 hP hS (h ▸ lvp_set2 hl2))
theorem g_lstore (C : Cx p s m args meth c D cy ad b0 y cc nL ret) {j : Nat} {x : Int64} (loc2 : List (Option Value)) (hd : decode cc pc = .ok (.lstore j, 2)) (hn : (j : Nat) + 1 < nL) (h : lset2 loc j (.long x) = loc2) (k : gw p l e R s m args below meth c D cy ad b0 cl sl Q nL (pc + 2) σ loc2 st) : gw p l e R s m args below meth c D cy ad b0 cl sl Q nL pc σ loc (.long x :: st) := fun H locs ls hP hS hl => lv_lstore C.x C.b hd hl hn rfl (fun ls2 hl2 => k H locs ls2 hP hS (h ▸ lvp_set2 hl2))
theorem g_aload_n (C : Cx p s m args meth c D cy ad b0 y cc nL ret) {j : Fin 4} {x : Nat} (hd : decode cc pc = .ok (.aload_n j, 1)) (h : loc[(j : Nat)]? = some (some (.ref x))) (k : gw p l e R s m args below meth c D cy ad b0 cl sl Q nL (pc + 1) σ loc (.ref x :: st)) : gw p l e R s m args below meth c D cy ad b0 cl sl Q nL pc σ loc st := fun H locs ls hP hS hl => lv_aload_n C.x C.b hd rfl (lvp_at hl h) (k H locs ls hP hS hl)
theorem g_aload (C : Cx p s m args meth c D cy ad b0 y cc nL ret) {j : Nat} {x : Nat} (hd : decode cc pc = .ok (.aload j, 2)) (h : loc[j]? = some (some (.ref x))) (k : gw p l e R s m args below meth c D cy ad b0 cl sl Q nL (pc + 2) σ loc (.ref x :: st)) : gw p l e R s m args below meth c D cy ad b0 cl sl Q nL pc σ loc st := fun H locs ls hP hS hl => lv_aload C.x C.b hd (lvp_at hl h) (k H locs ls hP hS hl)
theorem g_astore_n (C : Cx p s m args meth c D cy ad b0 y cc nL ret) {j : Fin 4} {x : Nat} (loc2 : List (Option Value)) (hd : decode cc pc = .ok (.astore_n j, 1)) (hn : (j : Nat) < nL) (h : lset1 loc (j : Nat) (.ref x) = loc2) (k : gw p l e R s m args below meth c D cy ad b0 cl sl Q nL (pc + 1) σ loc2 st) : gw p l e R s m args below meth c D cy ad b0 cl sl Q nL pc σ loc (.ref x :: st) := fun H locs ls hP hS hl => lv_astore_n C.x C.b hd rfl hl hn rfl (fun ls2 hl2 => k H locs ls2 hP hS (h ▸ lvp_set1 hl2))
theorem g_astore (C : Cx p s m args meth c D cy ad b0 y cc nL ret) {j : Nat} {x : Nat} (loc2 : List (Option Value)) (hd : decode cc pc = .ok (.astore j, 2)) (hn : (j : Nat) < nL) (h : lset1 loc j (.ref x) = loc2) (k : gw p l e R s m args below meth c D cy ad b0 cl sl Q nL (pc + 2) σ loc2 st) : gw p l e R s m args below meth c D cy ad b0 cl sl Q nL pc σ loc (.ref x :: st) := fun H locs ls hP hS hl => lv_astore C.x C.b hd hl hn rfl (fun ls2 hl2 => k H locs ls2 hP hS (h ▸ lvp_set1 hl2))
theorem g_iinc (C : Cx p s m args meth c D cy ad b0 y cc nL ret) {j : Nat} {n : Int} {x v : Int32} (loc2 : List (Option Value)) (hd : decode cc pc = .ok (.iinc j n, 3)) (h1 : loc[j]? = some (some (.int x))) (hv : x + Int32.ofInt n = v) (hn : j < nL) (h : lset1 loc j (.int v) = loc2) (k : gw p l e R s m args below meth c D cy ad b0 cl sl Q nL (pc + 3) σ loc2 st) : gw p l e R s m args below meth c D cy ad b0 cl sl Q nL pc σ loc st := fun H locs ls hP hS hl => by
  obtain ⟨q, hq⟩ := List.getElem?_of_mem (mem_lvl.mpr h1)
  exact lv_iinc C.x C.b hd hl (k := q) hq hv hn rfl (fun ls2 hl2 => k H locs ls2 hP hS (h ▸ lvp_set1 hl2))
theorem g_iadd (C : Cx p s m args meth c D cy ad b0 y cc nL ret) {x z : Int32} (hd : decode cc pc = .ok (.iadd, 1)) (k : gw p l e R s m args below meth c D cy ad b0 cl sl Q nL (pc + 1) σ loc (.int (x + z) :: st)) : gw p l e R s m args below meth c D cy ad b0 cl sl Q nL pc σ loc (.int z :: .int x :: st) := fun H locs ls hP hS hl => lv_iadd C.x C.b hd (k H locs ls hP hS hl)
theorem g_isub (C : Cx p s m args meth c D cy ad b0 y cc nL ret) {x z : Int32} (hd : decode cc pc = .ok (.isub, 1)) (k : gw p l e R s m args below meth c D cy ad b0 cl sl Q nL (pc + 1) σ loc (.int (x - z) :: st)) : gw p l e R s m args below meth c D cy ad b0 cl sl Q nL pc σ loc (.int z :: .int x :: st) := fun H locs ls hP hS hl => lv_isub C.x C.b hd (k H locs ls hP hS hl)
theorem g_imul (C : Cx p s m args meth c D cy ad b0 y cc nL ret) {x z : Int32} (hd : decode cc pc = .ok (.imul, 1)) (k : gw p l e R s m args below meth c D cy ad b0 cl sl Q nL (pc + 1) σ loc (.int (x * z) :: st)) : gw p l e R s m args below meth c D cy ad b0 cl sl Q nL pc σ loc (.int z :: .int x :: st) := fun H locs ls hP hS hl => lv_imul C.x C.b hd (k H locs ls hP hS hl)
theorem g_iand (C : Cx p s m args meth c D cy ad b0 y cc nL ret) {x z : Int32} (hd : decode cc pc = .ok (.iand, 1)) (k : gw p l e R s m args below meth c D cy ad b0 cl sl Q nL (pc + 1) σ loc (.int (x &&& z) :: st)) : gw p l e R s m args below meth c D cy ad b0 cl sl Q nL pc σ loc (.int z :: .int x :: st) := fun H locs ls hP hS hl => lv_iand C.x C.b hd (k H locs ls hP hS hl)
theorem g_ior (C : Cx p s m args meth c D cy ad b0 y cc nL ret) {x z : Int32} (hd : decode cc pc = .ok (.ior, 1)) (k : gw p l e R s m args below meth c D cy ad b0 cl sl Q nL (pc + 1) σ loc (.int (x ||| z) :: st)) : gw p l e R s m args below meth c D cy ad b0 cl sl Q nL pc σ loc (.int z :: .int x :: st) := fun H locs ls hP hS hl => lv_ior C.x C.b hd (k H locs ls hP hS hl)
theorem g_ishl (C : Cx p s m args meth c D cy ad b0 y cc nL ret) {x z : Int32} (hd : decode cc pc = .ok (.ishl, 1)) (k : gw p l e R s m args below meth c D cy ad b0 cl sl Q nL (pc + 1) σ loc (.int (x <<< (z &&& 31)) :: st)) : gw p l e R s m args below meth c D cy ad b0 cl sl Q nL pc σ loc (.int z :: .int x :: st) := fun H locs ls hP hS hl => lv_ishl C.x C.b hd (k H locs ls hP hS hl)
theorem g_ishr (C : Cx p s m args meth c D cy ad b0 y cc nL ret) {x z : Int32} (hd : decode cc pc = .ok (.ishr, 1)) (k : gw p l e R s m args below meth c D cy ad b0 cl sl Q nL (pc + 1) σ loc (.int (x >>> (z &&& 31)) :: st)) : gw p l e R s m args below meth c D cy ad b0 cl sl Q nL pc σ loc (.int z :: .int x :: st) := fun H locs ls hP hS hl => lv_ishr C.x C.b hd (k H locs ls hP hS hl)
theorem g_ladd (C : Cx p s m args meth c D cy ad b0 y cc nL ret) {x z : Int64} (hd : decode cc pc = .ok (.ladd, 1)) (k : gw p l e R s m args below meth c D cy ad b0 cl sl Q nL (pc + 1) σ loc (.long (x + z) :: st)) : gw p l e R s m args below meth c D cy ad b0 cl sl Q nL pc σ loc (.long z :: .long x :: st) := fun H locs ls hP hS hl => lv_ladd C.x C.b hd (k H locs ls hP hS hl)
theorem g_land (C : Cx p s m args meth c D cy ad b0 y cc nL ret) {x z : Int64} (hd : decode cc pc = .ok (.land, 1)) (k : gw p l e R s m args below meth c D cy ad b0 cl sl Q nL (pc + 1) σ loc (.long (x &&& z) :: st)) : gw p l e R s m args below meth c D cy ad b0 cl sl Q nL pc σ loc (.long z :: .long x :: st) := fun H locs ls hP hS hl => lv_land C.x C.b hd (k H locs ls hP hS hl)
theorem g_lor (C : Cx p s m args meth c D cy ad b0 y cc nL ret) {x z : Int64} (hd : decode cc pc = .ok (.lor, 1)) (k : gw p l e R s m args below meth c D cy ad b0 cl sl Q nL (pc + 1) σ loc (.long (x ||| z) :: st)) : gw p l e R s m args below meth c D cy ad b0 cl sl Q nL pc σ loc (.long z :: .long x :: st) := fun H locs ls hP hS hl => lv_lor C.x C.b hd (k H locs ls hP hS hl)
theorem g_lsub (C : Cx p s m args meth c D cy ad b0 y cc nL ret) {x z : Int64} (hd : decode cc pc = .ok (.lsub, 1)) (k : gw p l e R s m args below meth c D cy ad b0 cl sl Q nL (pc + 1) σ loc (.long (x - z) :: st)) : gw p l e R s m args below meth c D cy ad b0 cl sl Q nL pc σ loc (.long z :: .long x :: st) := fun H locs ls hP hS hl => lv_lsub C.x C.b hd (k H locs ls hP hS hl)
def iREM (x z : Int32) : Int32 := x - x / z * z
theorem g_idiv (C : Cx p s m args meth c D cy ad b0 y cc nL ret) {x z : Int32} (hd : decode cc pc = .ok (.idiv, 1)) (h : ¬ z = nI 0) (k : gw p l e R s m args below meth c D cy ad b0 cl sl Q nL (pc + 1) σ loc (.int (x / z) :: st)) : gw p l e R s m args below meth c D cy ad b0 cl sl Q nL pc σ loc (.int z :: .int x :: st) := fun H locs ls hP hS hl => lv_idiv C.x C.b hd h (k H locs ls hP hS hl)
theorem g_irem (C : Cx p s m args meth c D cy ad b0 y cc nL ret) {x z : Int32} (hd : decode cc pc = .ok (.irem, 1)) (h : ¬ z = nI 0) (k : gw p l e R s m args below meth c D cy ad b0 cl sl Q nL (pc + 1) σ loc (.int (iREM x z) :: st)) : gw p l e R s m args below meth c D cy ad b0 cl sl Q nL pc σ loc (.int z :: .int x :: st) := fun H locs ls hP hS hl => lv_irem C.x C.b hd h (k H locs ls hP hS hl)
def lUSHR (x : Int64) (z : Int32) : Int64 := (x.toUInt64 >>> (z.toInt64.toUInt64 &&& Int64.toUInt64 63)).toInt64
def lSHL (x : Int64) (z : Int32) : Int64 := x <<< (z.toInt64 &&& 63)
theorem g_lushr (C : Cx p s m args meth c D cy ad b0 y cc nL ret) {x : Int64} {z : Int32} (hd : decode cc pc = .ok (.lushr, 1)) (k : gw p l e R s m args below meth c D cy ad b0 cl sl Q nL (pc + 1) σ loc (.long (lUSHR x z) :: st)) : gw p l e R s m args below meth c D cy ad b0 cl sl Q nL pc σ loc (.int z :: .long x :: st) := fun H locs ls hP hS hl => lv_lushr C.x C.b hd rfl (k H locs ls hP hS hl)
theorem g_lshl (C : Cx p s m args meth c D cy ad b0 y cc nL ret) {x : Int64} {z : Int32} (hd : decode cc pc = .ok (.lshl, 1)) (k : gw p l e R s m args below meth c D cy ad b0 cl sl Q nL (pc + 1) σ loc (.long (lSHL x z) :: st)) : gw p l e R s m args below meth c D cy ad b0 cl sl Q nL pc σ loc (.int z :: .long x :: st) := fun H locs ls hP hS hl => lv_lshl C.x C.b hd rfl (k H locs ls hP hS hl)
theorem g_i2l (C : Cx p s m args meth c D cy ad b0 y cc nL ret) {x : Int32} (hd : decode cc pc = .ok (.i2l, 1)) (k : gw p l e R s m args below meth c D cy ad b0 cl sl Q nL (pc + 1) σ loc (.long x.toInt64 :: st)) : gw p l e R s m args below meth c D cy ad b0 cl sl Q nL pc σ loc (.int x :: st) := fun H locs ls hP hS hl => lv_i2l C.x C.b hd rfl (k H locs ls hP hS hl)
theorem g_l2i (C : Cx p s m args meth c D cy ad b0 y cc nL ret) {x : Int64} (hd : decode cc pc = .ok (.l2i, 1)) (k : gw p l e R s m args below meth c D cy ad b0 cl sl Q nL (pc + 1) σ loc (.int x.toInt32 :: st)) : gw p l e R s m args below meth c D cy ad b0 cl sl Q nL pc σ loc (.long x :: st) := fun H locs ls hP hS hl => lv_l2i C.x C.b hd rfl (k H locs ls hP hS hl)
theorem g_i2b (C : Cx p s m args meth c D cy ad b0 y cc nL ret) {x : Int32} (hd : decode cc pc = .ok (.i2b, 1)) (k : gw p l e R s m args below meth c D cy ad b0 cl sl Q nL (pc + 1) σ loc (.int x.toInt8.toInt32 :: st)) : gw p l e R s m args below meth c D cy ad b0 cl sl Q nL pc σ loc (.int x :: st) := fun H locs ls hP hS hl => lv_i2b C.x C.b hd rfl (k H locs ls hP hS hl)
theorem g_lcmp (C : Cx p s m args meth c D cy ad b0 y cc nL ret) {x z : Int64} (hd : decode cc pc = .ok (.lcmp, 1)) (k : gw p l e R s m args below meth c D cy ad b0 cl sl Q nL (pc + 1) σ loc (.int (lg_cmp x z) :: st)) : gw p l e R s m args below meth c D cy ad b0 cl sl Q nL pc σ loc (.long z :: .long x :: st) := fun H locs ls hP hS hl => W.lcmp C.x C.b hd (k H locs ls hP hS hl)
theorem g_dup (C : Cx p s m args meth c D cy ad b0 y cc nL ret) {v : Value} (hd : decode cc pc = .ok (.dup, 1)) (hv : v.category = 1) (k : gw p l e R s m args below meth c D cy ad b0 cl sl Q nL (pc + 1) σ loc (v :: v :: st)) : gw p l e R s m args below meth c D cy ad b0 cl sl Q nL pc σ loc (v :: st) := fun H locs ls hP hS hl => lv_dup C.x C.b hd hv (k H locs ls hP hS hl)
theorem g_dup2 (C : Cx p s m args meth c D cy ad b0 y cc nL ret) {v w : Value} (hd : decode cc pc = .ok (.dup2, 1)) (hv : v.category = 1) (hw : w.category = 1) (k : gw p l e R s m args below meth c D cy ad b0 cl sl Q nL (pc + 1) σ loc (v :: w :: v :: w :: st)) : gw p l e R s m args below meth c D cy ad b0 cl sl Q nL pc σ loc (v :: w :: st) := fun H locs ls hP hS hl => lv_dup2_11 C.x C.b hd hv hw (k H locs ls hP hS hl)
theorem g_pop (C : Cx p s m args meth c D cy ad b0 y cc nL ret) {v : Value} (hd : decode cc pc = .ok (.pop, 1)) (hv : v.category = 1) (k : gw p l e R s m args below meth c D cy ad b0 cl sl Q nL (pc + 1) σ loc st) : gw p l e R s m args below meth c D cy ad b0 cl sl Q nL pc σ loc (v :: st) := fun H locs ls hP hS hl => lv_pop C.x C.b hd hv (k H locs ls hP hS hl)
theorem g_goto (C : Cx p s m args meth c D cy ad b0 y cc nL ret) {off : Int} (tgt : Nat) (hd : decode cc pc = .ok (.goto off, 3)) (ht : (pc : Int) + off = (tgt : Int)) (k : gw p l e R s m args below meth c D cy ad b0 cl sl Q nL tgt σ loc st) : gw p l e R s m args below meth c D cy ad b0 cl sl Q nL pc σ loc st := fun H locs ls hP hS hl => lv_goto C.x C.b hd ht (k H locs ls hP hS hl)
theorem g_if_eq (C : Cx p s m args meth c D cy ad b0 y cc nL ret) {x : Int32} {off : Int} (tgt : Nat) (hd : decode cc pc = .ok (.ifCond .eq off, 3)) (ht : (pc : Int) + off = (tgt : Int)) (kt : x = nI 0 → gw p l e R s m args below meth c D cy ad b0 cl sl Q nL tgt σ loc st) (kf : ¬ x = nI 0 → gw p l e R s m args below meth c D cy ad b0 cl sl Q nL (pc + 3) σ loc st) : gw p l e R s m args below meth c D cy ad b0 cl sl Q nL pc σ loc (.int x :: st) := fun H locs ls hP hS hl => lv_if_eq C.x C.b hd ht (fun h => kt h H locs ls hP hS hl) (fun h => kf h H locs ls hP hS hl)
theorem g_icmp_eq (C : Cx p s m args meth c D cy ad b0 y cc nL ret) {x z : Int32} {off : Int} (tgt : Nat) (hd : decode cc pc = .ok (.if_icmp .eq off, 3)) (ht : (pc : Int) + off = (tgt : Int)) (kt : x = z → gw p l e R s m args below meth c D cy ad b0 cl sl Q nL tgt σ loc st) (kf : ¬ x = z → gw p l e R s m args below meth c D cy ad b0 cl sl Q nL (pc + 3) σ loc st) : gw p l e R s m args below meth c D cy ad b0 cl sl Q nL pc σ loc (.int z :: .int x :: st) := fun H locs ls hP hS hl => lv_icmp_eq C.x C.b hd ht (fun h => kt h H locs ls hP hS hl) (fun h => kf h H locs ls hP hS hl)
theorem g_if_ne (C : Cx p s m args meth c D cy ad b0 y cc nL ret) {x : Int32} {off : Int} (tgt : Nat) (hd : decode cc pc = .ok (.ifCond .ne off, 3)) (ht : (pc : Int) + off = (tgt : Int)) (kt : ¬ x = nI 0 → gw p l e R s m args below meth c D cy ad b0 cl sl Q nL tgt σ loc st) (kf : x = nI 0 → gw p l e R s m args below meth c D cy ad b0 cl sl Q nL (pc + 3) σ loc st) : gw p l e R s m args below meth c D cy ad b0 cl sl Q nL pc σ loc (.int x :: st) := fun H locs ls hP hS hl => lv_if_ne C.x C.b hd ht (fun h => kt h H locs ls hP hS hl) (fun h => kf h H locs ls hP hS hl)
theorem g_icmp_ne (C : Cx p s m args meth c D cy ad b0 y cc nL ret) {x z : Int32} {off : Int} (tgt : Nat) (hd : decode cc pc = .ok (.if_icmp .ne off, 3)) (ht : (pc : Int) + off = (tgt : Int)) (kt : ¬ x = z → gw p l e R s m args below meth c D cy ad b0 cl sl Q nL tgt σ loc st) (kf : x = z → gw p l e R s m args below meth c D cy ad b0 cl sl Q nL (pc + 3) σ loc st) : gw p l e R s m args below meth c D cy ad b0 cl sl Q nL pc σ loc (.int z :: .int x :: st) := fun H locs ls hP hS hl => lv_icmp_ne C.x C.b hd ht (fun h => kt h H locs ls hP hS hl) (fun h => kf h H locs ls hP hS hl)
theorem g_if_lt (C : Cx p s m args meth c D cy ad b0 y cc nL ret) {x : Int32} {off : Int} (tgt : Nat) (hd : decode cc pc = .ok (.ifCond .lt off, 3)) (ht : (pc : Int) + off = (tgt : Int)) (kt : x < nI 0 → gw p l e R s m args below meth c D cy ad b0 cl sl Q nL tgt σ loc st) (kf : ¬ x < nI 0 → gw p l e R s m args below meth c D cy ad b0 cl sl Q nL (pc + 3) σ loc st) : gw p l e R s m args below meth c D cy ad b0 cl sl Q nL pc σ loc (.int x :: st) := fun H locs ls hP hS hl => lv_if_lt C.x C.b hd ht (fun h => kt h H locs ls hP hS hl) (fun h => kf h H locs ls hP hS hl)
theorem g_icmp_lt (C : Cx p s m args meth c D cy ad b0 y cc nL ret) {x z : Int32} {off : Int} (tgt : Nat) (hd : decode cc pc = .ok (.if_icmp .lt off, 3)) (ht : (pc : Int) + off = (tgt : Int)) (kt : x < z → gw p l e R s m args below meth c D cy ad b0 cl sl Q nL tgt σ loc st) (kf : ¬ x < z → gw p l e R s m args below meth c D cy ad b0 cl sl Q nL (pc + 3) σ loc st) : gw p l e R s m args below meth c D cy ad b0 cl sl Q nL pc σ loc (.int z :: .int x :: st) := fun H locs ls hP hS hl => lv_icmp_lt C.x C.b hd ht (fun h => kt h H locs ls hP hS hl) (fun h => kf h H locs ls hP hS hl)
theorem g_if_ge (C : Cx p s m args meth c D cy ad b0 y cc nL ret) {x : Int32} {off : Int} (tgt : Nat) (hd : decode cc pc = .ok (.ifCond .ge off, 3)) (ht : (pc : Int) + off = (tgt : Int)) (kt : nI 0 ≤ x → gw p l e R s m args below meth c D cy ad b0 cl sl Q nL tgt σ loc st) (kf : ¬ nI 0 ≤ x → gw p l e R s m args below meth c D cy ad b0 cl sl Q nL (pc + 3) σ loc st) : gw p l e R s m args below meth c D cy ad b0 cl sl Q nL pc σ loc (.int x :: st) := fun H locs ls hP hS hl => lv_if_ge C.x C.b hd ht (fun h => kt h H locs ls hP hS hl) (fun h => kf h H locs ls hP hS hl)
theorem g_icmp_ge (C : Cx p s m args meth c D cy ad b0 y cc nL ret) {x z : Int32} {off : Int} (tgt : Nat) (hd : decode cc pc = .ok (.if_icmp .ge off, 3)) (ht : (pc : Int) + off = (tgt : Int)) (kt : z ≤ x → gw p l e R s m args below meth c D cy ad b0 cl sl Q nL tgt σ loc st) (kf : ¬ z ≤ x → gw p l e R s m args below meth c D cy ad b0 cl sl Q nL (pc + 3) σ loc st) : gw p l e R s m args below meth c D cy ad b0 cl sl Q nL pc σ loc (.int z :: .int x :: st) := fun H locs ls hP hS hl => lv_icmp_ge C.x C.b hd ht (fun h => kt h H locs ls hP hS hl) (fun h => kf h H locs ls hP hS hl)
theorem g_if_gt (C : Cx p s m args meth c D cy ad b0 y cc nL ret) {x : Int32} {off : Int} (tgt : Nat) (hd : decode cc pc = .ok (.ifCond .gt off, 3)) (ht : (pc : Int) + off = (tgt : Int)) (kt : nI 0 < x → gw p l e R s m args below meth c D cy ad b0 cl sl Q nL tgt σ loc st) (kf : ¬ nI 0 < x → gw p l e R s m args below meth c D cy ad b0 cl sl Q nL (pc + 3) σ loc st) : gw p l e R s m args below meth c D cy ad b0 cl sl Q nL pc σ loc (.int x :: st) := fun H locs ls hP hS hl => lv_if_gt C.x C.b hd ht (fun h => kt h H locs ls hP hS hl) (fun h => kf h H locs ls hP hS hl)
theorem g_icmp_gt (C : Cx p s m args meth c D cy ad b0 y cc nL ret) {x z : Int32} {off : Int} (tgt : Nat) (hd : decode cc pc = .ok (.if_icmp .gt off, 3)) (ht : (pc : Int) + off = (tgt : Int)) (kt : z < x → gw p l e R s m args below meth c D cy ad b0 cl sl Q nL tgt σ loc st) (kf : ¬ z < x → gw p l e R s m args below meth c D cy ad b0 cl sl Q nL (pc + 3) σ loc st) : gw p l e R s m args below meth c D cy ad b0 cl sl Q nL pc σ loc (.int z :: .int x :: st) := fun H locs ls hP hS hl => lv_icmp_gt C.x C.b hd ht (fun h => kt h H locs ls hP hS hl) (fun h => kf h H locs ls hP hS hl)
theorem g_if_le (C : Cx p s m args meth c D cy ad b0 y cc nL ret) {x : Int32} {off : Int} (tgt : Nat) (hd : decode cc pc = .ok (.ifCond .le off, 3)) (ht : (pc : Int) + off = (tgt : Int)) (kt : x ≤ nI 0 → gw p l e R s m args below meth c D cy ad b0 cl sl Q nL tgt σ loc st) (kf : ¬ x ≤ nI 0 → gw p l e R s m args below meth c D cy ad b0 cl sl Q nL (pc + 3) σ loc st) : gw p l e R s m args below meth c D cy ad b0 cl sl Q nL pc σ loc (.int x :: st) := fun H locs ls hP hS hl => lv_if_le C.x C.b hd ht (fun h => kt h H locs ls hP hS hl) (fun h => kf h H locs ls hP hS hl)
theorem g_icmp_le (C : Cx p s m args meth c D cy ad b0 y cc nL ret) {x z : Int32} {off : Int} (tgt : Nat) (hd : decode cc pc = .ok (.if_icmp .le off, 3)) (ht : (pc : Int) + off = (tgt : Int)) (kt : x ≤ z → gw p l e R s m args below meth c D cy ad b0 cl sl Q nL tgt σ loc st) (kf : ¬ x ≤ z → gw p l e R s m args below meth c D cy ad b0 cl sl Q nL (pc + 3) σ loc st) : gw p l e R s m args below meth c D cy ad b0 cl sl Q nL pc σ loc (.int z :: .int x :: st) := fun H locs ls hP hS hl => lv_icmp_le C.x C.b hd ht (fun h => kt h H locs ls hP hS hl) (fun h => kf h H locs ls hP hS hl)
theorem g_mask {loc2 : List (Option Value)} (b : List Bool) (h : lmask loc b = loc2) (k : gw p l e R s m args below meth c D cy ad b0 cl sl Q nL pc σ loc2 st) : gw p l e R s m args below meth c D cy ad b0 cl sl Q nL pc σ loc st := fun H locs ls hP hS hl => k H locs ls hP hS (by
  subst h
  exact lvp_of hl (fun i v hv => mem_lvl.mpr (lmask_at loc b i v hv)))
theorem g_topi {x : Int32} (k : ∀ v : Int32, v = x → gw p l e R s m args below meth c D cy ad b0 cl sl Q nL pc σ loc (.int v :: st)) : gw p l e R s m args below meth c D cy ad b0 cl sl Q nL pc σ loc (.int x :: st) := k x rfl
theorem g_topl {x : Int64} (k : ∀ v : Int64, v = x → gw p l e R s m args below meth c D cy ad b0 cl sl Q nL pc σ loc (.long v :: st)) : gw p l e R s m args below meth c D cy ad b0 cl sl Q nL pc σ loc (.long x :: st) := k x rfl
theorem g_getV (C : Cx p s m args meth c D cy ad b0 y cc nL ret) (o f : Nat) {i : Nat} {v : Value} (ho : o < 11) (hf : f < nF o) (hw : Cond.fieldLink y.cls i ((clE o).2.1 f).1 ((clE o).2.1 f).2.1 ((clE o).2.1 f).2.2.1 ∈ wsG) (hv : fV ad σ o f = v) (hd : decode cc pc = .ok (.getfield i, 3)) (k : gw p l e R s m args below meth c D cy ad b0 cl sl Q nL (pc + 3) σ loc (v :: st)) : gw p l e R s m args below meth c D cy ad b0 cl sl Q nL pc σ loc (.ref (ad o) :: st) := fun H locs ls hP hS hl => by
  have hN : o < NW := Nat.lt_trans ho (by decide)
  have he : (wld ad cy σ)[o]? = some (ad o, .inr (oc o, oF ad σ o)) := by rw [wld_get hN, wE_obj ho]
  refine va_get (D := D) (ci := oc o) (C := (clE o).1) (T := (clE o).2.1) (N := (clE o).2.2) C.x C.b C.ts (inW o ho) C.o C.K hP o he (clO o ho) f (by rw [nFO o ho]; exact hf) (C.ts _ hw) (fun _ h => h) (v := v) (by rw [oF_get hf, hv]) hd (k H locs ls hP hS hl)
theorem g_getI (C : Cx p s m args meth c D cy ad b0 y cc nL ret) (o f : Nat) {i : Nat} (ho : o < 11) (hf : f < nF o) (h0 : kd o f = 0) (hw : Cond.fieldLink y.cls i ((clE o).2.1 f).1 ((clE o).2.1 f).2.1 ((clE o).2.1 f).2.2.1 ∈ wsG) (hd : decode cc pc = .ok (.getfield i, 3)) (k : gw p l e R s m args below meth c D cy ad b0 cl sl Q nL (pc + 3) σ loc (.int (gF σ o f) :: st)) : gw p l e R s m args below meth c D cy ad b0 cl sl Q nL pc σ loc (.ref (ad o) :: st) := g_getV C o f ho hf hw (by unfold fV; rw [if_pos h0]) hd k
theorem g_getR (C : Cx p s m args meth c D cy ad b0 y cc nL ret) (o f : Nat) {i : Nat} (r : Nat) (ho : o < 11) (hf : f < nF o) (h0 : kd o f = 1) (hr : rfT o f = r) (hw : Cond.fieldLink y.cls i ((clE o).2.1 f).1 ((clE o).2.1 f).2.1 ((clE o).2.1 f).2.2.1 ∈ wsG) (hd : decode cc pc = .ok (.getfield i, 3)) (k : gw p l e R s m args below meth c D cy ad b0 cl sl Q nL (pc + 3) σ loc (.ref (ad r) :: st)) : gw p l e R s m args below meth c D cy ad b0 cl sl Q nL pc σ loc (.ref (ad o) :: st) := g_getV C o f ho hf hw (by unfold fV; rw [if_neg (by rw [h0]; decide), if_pos h0, hr]) hd k
theorem g_getM (C : Cx p s m args meth c D cy ad b0 y cc nL ret) (o f : Nat) {i : Nat} (ho : o < 11) (hf : f < nF o) (h0 : kd o f = 2) (hw : Cond.fieldLink y.cls i ((clE o).2.1 f).1 ((clE o).2.1 f).2.1 ((clE o).2.1 f).2.2.1 ∈ wsG) (hd : decode cc pc = .ok (.getfield i, 3)) (k : gw p l e R s m args below meth c D cy ad b0 cl sl Q nL (pc + 3) σ loc (.ref (ad (gR σ o f)) :: st)) : gw p l e R s m args below meth c D cy ad b0 cl sl Q nL pc σ loc (.ref (ad o) :: st) := g_getV C o f ho hf hw (by unfold fV; rw [if_neg (by rw [h0]; decide), if_neg (by rw [h0]; decide)]) hd k
theorem g_putV (C : Cx p s m args meth c D cy ad b0 y cc nL ret) (o f : Nat) {i : Nat} {v : Value} {σ2 : Sg} {ty : FieldType} (ho : o < 11) (hf : f < nF o) (hw : Cond.fieldLink y.cls i ((clE o).2.1 f).1 ((clE o).2.1 f).2.1 ((clE o).2.1 f).2.2.1 ∈ wsG) (hfin : ((clE o).2.1 f).2.2.2 = false) (hty : parseFieldDescriptor ((clE o).2.1 f).2.2.1 = some ty) (hn : narrow ty v = v) (hfit : fits ty v = true) (hv : fV ad σ2 o f = v) (hs : ∀ j, j ≠ f → fV ad σ2 o j = fV ad σ o j) (hso : ∀ j, j < NW → j ≠ o → wE ad cy σ2 j = wE ad cy σ j) (hd : decode cc pc = .ok (.putfield i, 3)) (k : gw p l e R s m args below meth c D cy ad b0 cl sl Q nL (pc + 3) σ2 loc st) : gw p l e R s m args below meth c D cy ad b0 cl sl Q nL pc σ loc (v :: .ref (ad o) :: st) := fun H locs ls hP hS hl => by
  have hN : o < NW := Nat.lt_trans ho (by decide)
  have he : (wld ad cy σ)[o]? = some (ad o, .inr (oc o, oF ad σ o)) := by rw [wld_get hN, wE_obj ho]
  refine va_put (D := D) (ci := oc o) (C := (clE o).1) (T := (clE o).2.1) (N := (clE o).2.2) C.x C.b C.ts (inW o ho) (tyO o) (tyO_ok o ho) (nmO o ho) C.o C.K hP (wld_D C.A σ) hS o he (clO o ho) f (by rw [nFO o ho]; exact hf) (C.ts _ hw) (fun _ h => h) hfin hty hn hfit (by simpa [oF] using hf) hd (fun H1 locs1 hP1 _ hS1 => k H1 locs1 ls ?_ hS1 hl)
  have e1 : (wld ad cy σ).set o (ad o, .inr (oc o, (oF ad σ o).set f v)) = wld ad cy σ2 := wld_set (by rw [wE_obj ho, ← hv, oF_set hs]) hso
  rw [← e1]
  exact hP1
theorem g_putI (C : Cx p s m args meth c D cy ad b0 y cc nL ret) (o f : Nat) {i : Nat} {x : Int32} {ty : FieldType} (ho : o < 11) (hf : f < nF o) (h0 : kd o f = 0) (hw : Cond.fieldLink y.cls i ((clE o).2.1 f).1 ((clE o).2.1 f).2.1 ((clE o).2.1 f).2.2.1 ∈ wsG) (hfin : ((clE o).2.1 f).2.2.2 = false) (hty : parseFieldDescriptor ((clE o).2.1 f).2.2.1 = some ty) (hn : narrow ty (.int x) = .int x) (hfit : fits ty (.int x) = true) (hd : decode cc pc = .ok (.putfield i, 3)) (k : ∀ σ2, σ2 = stF σ o f x → gw p l e R s m args below meth c D cy ad b0 cl sl Q nL (pc + 3) σ2 loc st) : gw p l e R s m args below meth c D cy ad b0 cl sl Q nL pc σ loc (.int x :: .ref (ad o) :: st) :=
  g_putV C o f ho hf hw hfin hty hn hfit (σ2 := stF σ o f x) (by unfold fV; rw [if_pos h0]; show Value.int (up2 σ.1 o f x o f) = _; rw [up2_same]) (fun j hj => fV_stF (Or.inr hj)) (fun j _ hj => wE_stF hj) hd (k _ rfl)
theorem g_putM (C : Cx p s m args meth c D cy ad b0 y cc nL ret) (o f : Nat) {i r : Nat} {ty : FieldType} (ho : o < 11) (hf : f < nF o) (h0 : kd o f = 2) (hw : Cond.fieldLink y.cls i ((clE o).2.1 f).1 ((clE o).2.1 f).2.1 ((clE o).2.1 f).2.2.1 ∈ wsG) (hfin : ((clE o).2.1 f).2.2.2 = false) (hty : parseFieldDescriptor ((clE o).2.1 f).2.2.1 = some ty) (hn : narrow ty (.ref (ad r)) = .ref (ad r)) (hfit : fits ty (.ref (ad r)) = true) (hd : decode cc pc = .ok (.putfield i, 3)) (k : ∀ σ2, σ2 = stR σ o f r → gw p l e R s m args below meth c D cy ad b0 cl sl Q nL (pc + 3) σ2 loc st) : gw p l e R s m args below meth c D cy ad b0 cl sl Q nL pc σ loc (.ref (ad r) :: .ref (ad o) :: st) :=
  g_putV C o f ho hf hw hfin hty hn hfit (σ2 := stR σ o f r) (by unfold fV; rw [if_neg (by rw [h0]; decide), if_neg (by rw [h0]; decide)]; show Value.ref (ad (up2 σ.2.2.2 o f r o f)) = _; rw [up2_same]) (fun j hj => fV_stR (Or.inr hj)) (fun j _ hj => wE_stR hj) hd (k _ rfl)
theorem g_alen (C : Cx p s m args meth c D cy ad b0 y cc nL ret) {q : Nat} (hq : 11 ≤ q ∧ q < NW ∧ aK q < 4) (hd : decode cc pc = .ok (.arraylength, 1)) (k : gw p l e R s m args below meth c D cy ad b0 cl sl Q nL (pc + 1) σ loc (.int (nI (aN q)) :: st)) : gw p l e R s m args below meth c D cy ad b0 cl sl Q nL pc σ loc (.ref (ad q) :: st) := fun H locs ls hP hS hl => by
  have he := wld_get (ad := ad) (cy := cy) (σ := σ) hq.2.1
  by_cases h2 : aK q = 2
  · rw [wE_long hq.1 h2] at he
    exact va_alen C.x C.b C.K hP q 2 he (tys_at (by decide)) rfl hd (k H locs ls hP hS hl)
  · rw [wE_int hq.1 h2] at he
    exact va_alen C.x C.b C.K hP q (aK q) he (tys_at hq.2.2) rfl hd (k H locs ls hP hS hl)
theorem g_iald (C : Cx p s m args meth c D cy ad b0 y cc nL ret) {q : Nat} {i : Int32} (hq : 11 ≤ q ∧ q < NW ∧ aK q = 0) (hi : vp_in i (aN q)) (hd : decode cc pc = .ok (.iaload, 1)) (k : gw p l e R s m args below meth c D cy ad b0 cl sl Q nL (pc + 1) σ loc (.int (gA σ q i.toNatClampNeg) :: st)) : gw p l e R s m args below meth c D cy ad b0 cl sl Q nL pc σ loc (.int i :: .ref (ad q) :: st) := fun H locs ls hP hS hl => by
  have he := wld_get (ad := ad) (cy := cy) (σ := σ) hq.2.1
  rw [wE_int hq.1 (by rw [hq.2.2]; decide), hq.2.2] at he
  exact va_iald C.x C.b C.K hP q 0 he (tys_at (cy := cy) (k := 0) (by decide)) hi hd (k H locs ls hP hS hl)
theorem g_iast (C : Cx p s m args meth c D cy ad b0 y cc nL ret) {q : Nat} {i x : Int32} (hq : 11 ≤ q ∧ q < NW ∧ aK q = 0) (hi : vp_in i (aN q)) (hd : decode cc pc = .ok (.iastore, 1)) (k : ∀ σ2, σ2 = stA σ q i.toNatClampNeg x → gw p l e R s m args below meth c D cy ad b0 cl sl Q nL (pc + 1) σ2 loc st) : gw p l e R s m args below meth c D cy ad b0 cl sl Q nL pc σ loc (.int x :: .int i :: .ref (ad q) :: st) := fun H locs ls hP hS hl => by
  have he := wld_get (ad := ad) (cy := cy) (σ := σ) hq.2.1
  rw [wE_int hq.1 (by rw [hq.2.2]; decide), hq.2.2] at he
  refine va_iast C.x C.b C.K hP (wld_D C.A σ) hS q 0 he (tys_at (cy := cy) (k := 0) (by decide)) hi hd (fun H1 locs1 hP1 _ hS1 => k _ rfl H1 locs1 ls ?_ hS1 hl)
  have e1 : (wld ad cy σ).set q (ad q, .inl (cy 0, aN q, .inl (upd (gA σ q) i.toNatClampNeg x))) = wld ad cy (stA σ q i.toNatClampNeg x) := wld_set (by
    rw [wE_int hq.1 (by rw [hq.2.2]; decide), hq.2.2]
    show Sum.inl (cy 0, aN q, Sum.inl (up2 σ.2.1 q i.toNatClampNeg x q)) = _
    rw [up2_upd]
    rfl) (fun j _ hj => wE_stA hj)
  rw [← e1]
  exact hP1
theorem g_zald (C : Cx p s m args meth c D cy ad b0 y cc nL ret) {q : Nat} {i : Int32} (hq : 11 ≤ q ∧ q < NW ∧ aK q = 1) (hi : vp_in i (aN q)) (hd : decode cc pc = .ok (.baload, 1)) (k : gw p l e R s m args below meth c D cy ad b0 cl sl Q nL (pc + 1) σ loc (.int (gA σ q i.toNatClampNeg) :: st)) : gw p l e R s m args below meth c D cy ad b0 cl sl Q nL pc σ loc (.int i :: .ref (ad q) :: st) := fun H locs ls hP hS hl => by
  have he := wld_get (ad := ad) (cy := cy) (σ := σ) hq.2.1
  rw [wE_int hq.1 (by rw [hq.2.2]; decide), hq.2.2] at he
  exact va_zald C.x C.b C.K hP q 1 he (tys_at (cy := cy) (k := 1) (by decide)) hi hd (k H locs ls hP hS hl)
theorem g_zast (C : Cx p s m args meth c D cy ad b0 y cc nL ret) {q : Nat} {i x : Int32} (hq : 11 ≤ q ∧ q < NW ∧ aK q = 1) (hi : vp_in i (aN q)) (hd : decode cc pc = .ok (.bastore, 1)) (k : ∀ σ2, σ2 = stA σ q i.toNatClampNeg (vp_nar .boolean x) → gw p l e R s m args below meth c D cy ad b0 cl sl Q nL (pc + 1) σ2 loc st) : gw p l e R s m args below meth c D cy ad b0 cl sl Q nL pc σ loc (.int x :: .int i :: .ref (ad q) :: st) := fun H locs ls hP hS hl => by
  have he := wld_get (ad := ad) (cy := cy) (σ := σ) hq.2.1
  rw [wE_int hq.1 (by rw [hq.2.2]; decide), hq.2.2] at he
  refine va_zast C.x C.b C.K hP (wld_D C.A σ) hS q 1 he (tys_at (cy := cy) (k := 1) (by decide)) hi hd (fun H1 locs1 hP1 _ hS1 => k _ rfl H1 locs1 ls ?_ hS1 hl)
  have e1 : (wld ad cy σ).set q (ad q, .inl (cy 1, aN q, .inl (upd (gA σ q) i.toNatClampNeg (vp_nar .boolean x)))) = wld ad cy (stA σ q i.toNatClampNeg (vp_nar .boolean x)) := wld_set (by
    rw [wE_int hq.1 (by rw [hq.2.2]; decide), hq.2.2]
    show Sum.inl (cy 1, aN q, Sum.inl (up2 σ.2.1 q i.toNatClampNeg (vp_nar .boolean x) q)) = _
    rw [up2_upd]
    rfl) (fun j _ hj => wE_stA hj)
  rw [← e1]
  exact hP1
theorem g_bald (C : Cx p s m args meth c D cy ad b0 y cc nL ret) {q : Nat} {i : Int32} (hq : 11 ≤ q ∧ q < NW ∧ aK q = 3) (hi : vp_in i (aN q)) (hd : decode cc pc = .ok (.baload, 1)) (k : gw p l e R s m args below meth c D cy ad b0 cl sl Q nL (pc + 1) σ loc (.int (gA σ q i.toNatClampNeg) :: st)) : gw p l e R s m args below meth c D cy ad b0 cl sl Q nL pc σ loc (.int i :: .ref (ad q) :: st) := fun H locs ls hP hS hl => by
  have he := wld_get (ad := ad) (cy := cy) (σ := σ) hq.2.1
  rw [wE_int hq.1 (by rw [hq.2.2]; decide), hq.2.2] at he
  exact va_bald C.x C.b C.K hP q 3 he (tys_at (cy := cy) (k := 3) (by decide)) hi hd (k H locs ls hP hS hl)
theorem g_bast (C : Cx p s m args meth c D cy ad b0 y cc nL ret) {q : Nat} {i x : Int32} (hq : 11 ≤ q ∧ q < NW ∧ aK q = 3) (hi : vp_in i (aN q)) (hd : decode cc pc = .ok (.bastore, 1)) (k : ∀ σ2, σ2 = stA σ q i.toNatClampNeg (vp_nar .byte x) → gw p l e R s m args below meth c D cy ad b0 cl sl Q nL (pc + 1) σ2 loc st) : gw p l e R s m args below meth c D cy ad b0 cl sl Q nL pc σ loc (.int x :: .int i :: .ref (ad q) :: st) := fun H locs ls hP hS hl => by
  have he := wld_get (ad := ad) (cy := cy) (σ := σ) hq.2.1
  rw [wE_int hq.1 (by rw [hq.2.2]; decide), hq.2.2] at he
  refine va_bast C.x C.b C.K hP (wld_D C.A σ) hS q 3 he (tys_at (cy := cy) (k := 3) (by decide)) hi hd (fun H1 locs1 hP1 _ hS1 => k _ rfl H1 locs1 ls ?_ hS1 hl)
  have e1 : (wld ad cy σ).set q (ad q, .inl (cy 3, aN q, .inl (upd (gA σ q) i.toNatClampNeg (vp_nar .byte x)))) = wld ad cy (stA σ q i.toNatClampNeg (vp_nar .byte x)) := wld_set (by
    rw [wE_int hq.1 (by rw [hq.2.2]; decide), hq.2.2]
    show Sum.inl (cy 3, aN q, Sum.inl (up2 σ.2.1 q i.toNatClampNeg (vp_nar .byte x) q)) = _
    rw [up2_upd]
    rfl) (fun j _ hj => wE_stA hj)
  rw [← e1]
  exact hP1
theorem g_lald (C : Cx p s m args meth c D cy ad b0 y cc nL ret) {q : Nat} {i : Int32} (hq : 11 ≤ q ∧ q < NW ∧ aK q = 2) (hi : vp_in i (aN q)) (hd : decode cc pc = .ok (.laload, 1)) (k : gw p l e R s m args below meth c D cy ad b0 cl sl Q nL (pc + 1) σ loc (.long (gL σ q i.toNatClampNeg) :: st)) : gw p l e R s m args below meth c D cy ad b0 cl sl Q nL pc σ loc (.int i :: .ref (ad q) :: st) := fun H locs ls hP hS hl => by
  have he := wld_get (ad := ad) (cy := cy) (σ := σ) hq.2.1
  rw [wE_long hq.1 hq.2.2] at he
  exact va_lald C.x C.b C.K hP q 2 he (tys_at (cy := cy) (k := 2) (by decide)) hi hd (k H locs ls hP hS hl)
theorem g_last (C : Cx p s m args meth c D cy ad b0 y cc nL ret) {q : Nat} {i : Int32} {x : Int64} (hq : 11 ≤ q ∧ q < NW ∧ aK q = 2) (hi : vp_in i (aN q)) (hd : decode cc pc = .ok (.lastore, 1)) (k : ∀ σ2, σ2 = stL σ q i.toNatClampNeg x → gw p l e R s m args below meth c D cy ad b0 cl sl Q nL (pc + 1) σ2 loc st) : gw p l e R s m args below meth c D cy ad b0 cl sl Q nL pc σ loc (.long x :: .int i :: .ref (ad q) :: st) := fun H locs ls hP hS hl => by
  have he := wld_get (ad := ad) (cy := cy) (σ := σ) hq.2.1
  rw [wE_long hq.1 hq.2.2] at he
  refine va_last C.x C.b C.K hP (wld_D C.A σ) hS q 2 he (tys_at (cy := cy) (k := 2) (by decide)) hi hd (fun H1 locs1 hP1 _ hS1 => k _ rfl H1 locs1 ls ?_ hS1 hl)
  have e1 : (wld ad cy σ).set q (ad q, .inl (cy 2, aN q, .inr (.inl (vp_updL (gL σ q) i.toNatClampNeg x)))) = wld ad cy (stL σ q i.toNatClampNeg x) := wld_set (by
    rw [wE_long hq.1 hq.2.2]
    show Sum.inl (cy 2, aN q, Sum.inr (Sum.inl (up2 σ.2.2.1 q i.toNatClampNeg x q))) = _
    rw [up2_updL]
    rfl) (fun j _ hj => wE_stL hj)
  rw [← e1]
  exact hP1
theorem g_mmin (C : Cx p s m args meth c D cy ad b0 y cc nL ret) {i : Nat} {x z : Int32} (hw : Cond.methodLink y.cls i Lib.Math.min.name ∈ wsG) (hs : Cond.static Lib.Math.min.name ∈ wsG) (hi : Cond.initialized "java/lang/Math" ∈ wsG) (hc : Cond.code Lib.Math.min.name Lib.Math.min.code 2 (some .int) ∈ wsG) (hR : 1 ≤ R.frames ∧ (st.map fun v => v.category).sum + 13 ≤ R.locals ∧ cl ≤ R.cells ∧ sl ≤ R.slots) (hd : decode cc pc = .ok (.invokestatic i, 3)) (k : gw p l e R s m args below meth c D cy ad b0 cl sl Q nL (pc + 3) σ loc (.int (if z < x then z else x) :: st)) : gw p l e R s m args below meth c D cy ad b0 cl sl Q nL pc σ loc (.int z :: .int x :: st) := fun H locs ls hP hS hl =>
  va_mmin C.x C.b (by rw [C.ml, hl.1]) C.o (C.ts _ hw) (C.ts _ hs) (C.ts _ hi) (C.ts _ hc) hR.1 hR.2.1 hR.2.2.1 hR.2.2.2 hd (k H locs ls hP hS hl)
end GW
end
section
/-! ===== contracts over the one world: entries, ends, calls ===== -/
def wsA (y : MethodName) (cc : ByteArray) (n : Nat) (ret : Option FieldType) : List Cond := Cond.code y cc n ret :: wsG
def Wd (D : va_G) (cy : Nat → ClassId) (ad : Nat → Nat) (σ : Sg) (U : State) : Prop := va_P D vwCl (wld ad cy σ) U.heap ∧ va_K D vwCl (tysW cy) U ∧ ∀ w ∈ nestW, va_Nw w U
def Cti (l : Launch) (D : va_G) (cy : Nat → ClassId) (ad : Nat → Nat) (b0 : Nat) (y : MethodName) (cc : ByteArray) (n : Nat) (ret : Option FieldType) (rm : Room) (av : List Value) (wp : Sg → (Int32 → Sg → Prop) → Prop) : Prop :=
  ∀ (σ : Sg) (Q : Int32 → Sg → Prop), wp σ Q → Met l y (wsA y cc n ret) rm (va_Pc av (Wd D cy ad σ)) (va_Qi Q (Wd D cy ad) (fun q => b0 ≤ q)) 0 0 (fun q => b0 ≤ q)
def Ctl (l : Launch) (D : va_G) (cy : Nat → ClassId) (ad : Nat → Nat) (b0 : Nat) (y : MethodName) (cc : ByteArray) (n : Nat) (ret : Option FieldType) (rm : Room) (av : List Value) (wp : Sg → (Int64 → Sg → Prop) → Prop) : Prop :=
  ∀ (σ : Sg) (Q : Int64 → Sg → Prop), wp σ Q → Met l y (wsA y cc n ret) rm (va_Pc av (Wd D cy ad σ)) (va_Ql Q (Wd D cy ad) (fun q => b0 ≤ q)) 0 0 (fun q => b0 ≤ q)
def Ctv (l : Launch) (D : va_G) (cy : Nat → ClassId) (ad : Nat → Nat) (b0 : Nat) (y : MethodName) (cc : ByteArray) (n : Nat) (ret : Option FieldType) (rm : Room) (av : List Value) (wp : Sg → (Sg → Prop) → Prop) : Prop :=
  ∀ (σ : Sg) (Q : Sg → Prop), wp σ Q → Met l y (wsA y cc n ret) rm (va_Pc av (Wd D cy ad σ)) (va_Qv Q (Wd D cy ad) (fun q => b0 ≤ q)) 0 0 (fun q => b0 ≤ q)
/-- a method that answers a cell of the world: its place -/
def Ctr (l : Launch) (D : va_G) (cy : Nat → ClassId) (ad : Nat → Nat) (b0 : Nat) (y : MethodName) (cc : ByteArray) (n : Nat) (ret : Option FieldType) (rm : Room) (av : List Value) (r : Nat) (wp : Sg → (Sg → Prop) → Prop) : Prop :=
  ∀ (σ : Sg) (Q : Sg → Prop), wp σ Q → Met l y (wsA y cc n ret) rm (va_Pc av (Wd D cy ad σ)) (va_Qr Q (fun σ' a t => a = ad r ∧ Wd D cy ad σ' t) (fun q => b0 ≤ q)) 0 0 (fun q => b0 ≤ q)
theorem nest_warm {s U : State} (hW : s.WarmedH U.vm) (h : ∀ w ∈ nestW, va_Nw w s) : ∀ w ∈ nestW, va_Nw w U := by
  intro w hw
  obtain ⟨a, i, x, z, rfl⟩ := nest_form w hw
  exact va_Nw.warmM hW (h _ hw)
theorem nest_same {u U : State} (hv : u.vm = U.vm) (h : ∀ w ∈ nestW, va_Nw w u) : ∀ w ∈ nestW, va_Nw w U := by
  intro w hw
  obtain ⟨a, i, x, z, rfl⟩ := nest_form w hw
  exact va_Nw.same rfl hv (h _ hw)
theorem Wd_blind {D : va_G} {cy : Nat → ClassId} {ad : Nat → Nat} {σ : Sg} {av : List Value} : FrameBlind (va_Pc av (Wd D cy ad σ)) := fun a U g mk q => by
  obtain ⟨q0, qP, qK, qN⟩ := q
  exact ⟨q0, qP, va_K.moved (u := U) (U := U.calling g mk a) (Vm.Alike.refl U.vm) qK, nest_same (u := U) (U := U.calling g mk a) rfl qN⟩
theorem Wd_warm {D : va_G} {cy : Nat → ClassId} {ad : Nat → Nat} {σ : Sg} {s U : State} (hW : s.WarmedH U.vm) (hP : va_P D vwCl (wld ad cy σ) U.heap) (hK : va_K D vwCl (tysW cy) s) (hN : ∀ w ∈ nestW, va_Nw w s) : Wd D cy ad σ U := ⟨hP, va_K.moved hW.alike hK, nest_warm hW hN⟩
theorem GoodA {y y2 : MethodName} {cc2 : ByteArray} {n2 : Nat} {r2 : Option FieldType} (hc : Cond.code y2 cc2 n2 r2 ∈ wsG) : GoodIn wsG (wsA y2 cc2 n2 r2) := fun w h => by
  rcases List.mem_cons.mp h with rfl | h
  · exact ⟨hc, wsG_good _ hc⟩
  · exact ⟨h, wsG_good _ h⟩
section GC
variable {p : Program} {l : Launch} {e : Env} {R : Room} {s : State} {m : MethodId} {args : Array Value} {below : List Frame} {meth : Method} {c : Code} {D : va_G} {cy : Nat → ClassId} {ad : Nat → Nat} {b0 cl sl : Nat} {Q : State → Prop} {nL pc : Nat} {σ : Sg} {loc : List (Option Value)} {st : List Value} {y : MethodName} {cc : ByteArray} {ret : Option FieldType}
theorem g_enter {rm : Room} {av : List Value} {Qc : Array Value → State → Outcome → State → Prop} (hA : AdOk ad b0) (hy : plainFor y = true) (hlen : (lg_sl av).length ≤ nL) (loc0 : List (Option Value)) (h0 : lent av nL = loc0)
    (body : ∀ (p : Program) (e : Env) (s : State) (m : MethodId) (args : Array Value) (below : List Frame) (meth : Method) (c : Code), Cx p s m args meth c D cy ad b0 y cc nL ret → gw p l e rm s m args below meth c D cy ad b0 0 0 (MQ below Qc args s 0 0 (fun q => b0 ≤ q)) nL 0 σ loc0 []) :
    Met l y (wsA y cc nL ret) rm (va_Pc av (Wd D cy ad σ)) Qc 0 0 (fun q => b0 ≤ q) := by
  refine va_MetF (cc := cc) (maxL := nL) (ret := ret) hy rfl ?_
  intro p e s m args below meth c s₁ B hml hv
  obtain ⟨rfl, hP, hK, hN⟩ := hv
  have hts := atoms_spec (ws := wsA y cc nL ret) B.pre
  have hC : Cx p s m av.toArray meth c D cy ad b0 y cc nL ret := ⟨B.exec, B.bytes, hml, B.returns, findClass_of_methodNamed B.named, fun w h => hts w (List.mem_cons_of_mem _ h), hN, hK, hA, B.notSynchronized⟩
  have hl := lv_entry av hlen
  rw [lg_entry_eq]
  subst h0
  exact body p e s m av.toArray below meth c hC s.heap [] _ hP va_S.rf (lvp_of hl (fun i v hi => by
    have h1 := lent_at av nL i v 0 hi
    rw [Nat.zero_add] at h1
    exact h1))
theorem g_iret {Q' : Int32 → Sg → Prop} {v : Int32} (C : Cx p s m args meth c D cy ad b0 y cc nL (some .int)) (hd : decode cc pc = .ok (.ireturn, 1)) (h : Q' v σ) : gw p l e R s m args below meth c D cy ad b0 0 0 (MQ below (va_Qi Q' (Wd D cy ad) (fun q => b0 ≤ q)) args s 0 0 (fun q => b0 ≤ q)) nL pc σ loc [.int v] := fun H locs ls hP hS hl =>
  W.iret (v := v) C.x C.b C.r (fun t ht hW => ⟨⟨v, σ, rfl, h, Wd_warm hW (by rw [ht]; exact hP) C.K C.n⟩, hS.F ht⟩) hS.2.2 hd C.lk
theorem g_zret {Q' : Int32 → Sg → Prop} {v : Int32} (C : Cx p s m args meth c D cy ad b0 y cc nL (some .boolean)) (hn : narrow .boolean (.int v) = .int v) (hd : decode cc pc = .ok (.ireturn, 1)) (h : Q' v σ) : gw p l e R s m args below meth c D cy ad b0 0 0 (MQ below (va_Qi Q' (Wd D cy ad) (fun q => b0 ≤ q)) args s 0 0 (fun q => b0 ≤ q)) nL pc σ loc [.int v] := fun H locs ls hP hS hl =>
  W.zret (v := v) C.x C.b C.r hn (fun t ht hW => ⟨⟨v, σ, rfl, h, Wd_warm hW (by rw [ht]; exact hP) C.K C.n⟩, hS.F ht⟩) hS.2.2 hd C.lk
theorem g_lret {Q' : Int64 → Sg → Prop} {v : Int64} (C : Cx p s m args meth c D cy ad b0 y cc nL (some .long)) (hd : decode cc pc = .ok (.lreturn, 1)) (h : Q' v σ) : gw p l e R s m args below meth c D cy ad b0 0 0 (MQ below (va_Ql Q' (Wd D cy ad) (fun q => b0 ≤ q)) args s 0 0 (fun q => b0 ≤ q)) nL pc σ loc [.long v] := fun H locs ls hP hS hl =>
  W.lret (v := v) C.x C.b C.r (fun t ht hW => ⟨⟨v, σ, rfl, h, Wd_warm hW (by rw [ht]; exact hP) C.K C.n⟩, hS.F ht⟩) hS.2.2 hd C.lk
theorem g_vret {Q' : Sg → Prop} (C : Cx p s m args meth c D cy ad b0 y cc nL none) (hd : decode cc pc = .ok (.return_, 1)) (h : Q' σ) : gw p l e R s m args below meth c D cy ad b0 0 0 (MQ below (va_Qv Q' (Wd D cy ad) (fun q => b0 ≤ q)) args s 0 0 (fun q => b0 ≤ q)) nL pc σ loc [] := fun H locs ls hP hS hl =>
  W.vret C.x C.b C.r (fun t ht hW => ⟨⟨σ, rfl, h, Wd_warm hW (by rw [ht]; exact hP) C.K C.n⟩, hS.F ht⟩) hS.2.2 hd C.lk
theorem g_aret {Q' : Sg → Prop} {r : Nat} {N : String} (C : Cx p s m args meth c D cy ad b0 y cc nL (some (.object N))) (hd : decode cc pc = .ok (.areturn, 1)) (h : Q' σ) : gw p l e R s m args below meth c D cy ad b0 0 0 (MQ below (va_Qr Q' (fun σ' a t => a = ad r ∧ Wd D cy ad σ' t) (fun q => b0 ≤ q)) args s 0 0 (fun q => b0 ≤ q)) nL pc σ loc [.ref (ad r)] := fun H locs ls hP hS hl =>
  W.aret (v := .ref (ad r)) C.x C.b C.r (Or.inl ⟨_, rfl⟩) (Or.inr ⟨_, rfl⟩) (fun t ht hW => ⟨⟨σ, ad r, rfl, h, rfl, Wd_warm hW (by rw [ht]; exact hP) C.K C.n⟩, hS.F ht⟩) hS.2.2 hd C.lk
/-- what is known of a method that is called: instance, selects, initialized, code; static -/
def CalV (y2 : MethodName) (cc2 : ByteArray) (n2 : Nat) (r2 : Option FieldType) (k : Nat) : Prop := Cond.instanceMethod y2 ∈ wsG ∧ Cond.selects y2.cls y2 y2 ∈ wsG ∧ Cond.initialized y2.cls ∈ wsG ∧ Cond.code y2 cc2 n2 r2 ∈ wsG ∧ y2.cls ≠ "java/lang/invoke/MethodHandle" ∧ y2.cls ≠ "java/lang/invoke/VarHandle" ∧ (parseMethodDescriptor y2.desc).map (fun d => d.parameters.length) = some k
def CalS (y2 : MethodName) (cc2 : ByteArray) (n2 : Nat) (r2 : Option FieldType) (k : Nat) : Prop := Cond.static y2 ∈ wsG ∧ Cond.initialized y2.cls ∈ wsG ∧ Cond.code y2 cc2 n2 r2 ∈ wsG ∧ y2.cls ≠ "java/lang/invoke/MethodHandle" ∧ y2.cls ≠ "java/lang/invoke/VarHandle" ∧ (parseMethodDescriptor y2.desc).map (fun d => d.parameters.length) = some k
def RmOk (rm R : Room) (n2 : Nat) : Prop := rm.frames + 1 ≤ R.frames ∧ 8 + (n2 + 11) + rm.locals ≤ R.locals
theorem g_runV {y2 : MethodName} {cc2 : ByteArray} {n2 i k o : Nat} {r2 : Option FieldType} {rm : Room} {As : List Value} {Qc : Array Value → State → Outcome → State → Prop} {H : Heap} {locs : List Loc} {ls : Array Slot} {stk : List Value} (C : Cx p s m args meth c D cy ad b0 y cc nL ret) (hM : Met l y2 (wsA y2 cc2 n2 r2) rm (va_Pc (.ref (ad o) :: As) (Wd D cy ad σ)) Qc 0 0 (fun q => b0 ≤ q)) (hV : CalV y2 cc2 n2 r2 k) (hl : Cond.methodLink y.cls i y2 ∈ wsG) (ho : o < 11) (hoc : (clE o).1 = y2.cls) (hk : As.length = k) (hR : RmOk rm R n2) (h0 : rm.cells = 0 ∧ rm.slots = 0) (hf : cl ≤ R.cells ∧ sl ≤ R.slots) (hcat : (st.map fun v => v.category).sum ≤ 8) (hstk : stk = As.reverse ++ .ref (ad o) :: st) (hP : va_P D vwCl (wld ad cy σ) H) (hls : ls.size = nL) (hd : decode cc pc = .ok (.invokevirtual i, 3)) :
    va_Run p l e R s m args below meth c H locs cl sl 0 0 (F0 m pc ls stk) st (Qc (Value.ref (ad o) :: As).toArray) (fun q => b0 ≤ q) := by
  have hN : o < NW := Nat.lt_trans ho (by decide)
  have he : (wld ad cy σ)[o]? = some (ad o, .inr (oc o, oF ad σ o)) := by rw [wld_get hN, wE_obj ho]
  have hB := callB_of (own := y.cls) (index := i) (R := R) k C.ts (GoodA (y := y) hV.2.2.2.1) rfl h0.1 h0.2 (C.ts _ hV.2.2.1) (C.ts _ hl) ⟨hV.2.2.2.2.1, hV.2.2.2.2.2.1, hV.2.2.2.2.2.2⟩ hR
  refine va_runV (C := y2.cls) ⟨C.x, C.b, C.ml, C.o, C.ts⟩ hM ⟨hB, C.ts _ hV.1, C.ts _ hV.2.1⟩ ⟨Wd_blind, ?_, fun U hU hW => ⟨rfl, Wd_warm hW (by rw [hU]; exact hP) C.K C.n⟩⟩ rfl hk hls hstk (lv_room hcat) hd hf
  rw [← hoc]
  exact va_recv C.K hP (clO o ho) he
theorem g_runS {y2 : MethodName} {cc2 : ByteArray} {n2 i k : Nat} {r2 : Option FieldType} {rm : Room} {As : List Value} {Qc : Array Value → State → Outcome → State → Prop} {H : Heap} {locs : List Loc} {ls : Array Slot} {stk : List Value} (C : Cx p s m args meth c D cy ad b0 y cc nL ret) (hM : Met l y2 (wsA y2 cc2 n2 r2) rm (va_Pc As (Wd D cy ad σ)) Qc 0 0 (fun q => b0 ≤ q)) (hV : CalS y2 cc2 n2 r2 k) (hl : Cond.methodLink y.cls i y2 ∈ wsG) (hk : As.length = k) (hR : RmOk rm R n2) (h0 : rm.cells = 0 ∧ rm.slots = 0) (hf : cl ≤ R.cells ∧ sl ≤ R.slots) (hcat : (st.map fun v => v.category).sum ≤ 8) (hstk : stk = As.reverse ++ st) (hP : va_P D vwCl (wld ad cy σ) H) (hls : ls.size = nL) (hd : decode cc pc = .ok (.invokestatic i, 3)) :
    va_Run p l e R s m args below meth c H locs cl sl 0 0 (F0 m pc ls stk) st (Qc As.toArray) (fun q => b0 ≤ q) := by
  have hB := callB_of (own := y.cls) (index := i) (R := R) k C.ts (GoodA (y := y) hV.2.2.1) rfl h0.1 h0.2 (C.ts _ hV.2.1) (C.ts _ hl) ⟨hV.2.2.2.1, hV.2.2.2.2.1, hV.2.2.2.2.2⟩ hR
  exact va_runS ⟨C.x, C.b, C.ml, C.o, C.ts⟩ hM ⟨hB, C.ts _ hV.1⟩ ⟨Wd_blind, fun U hU hW => ⟨rfl, Wd_warm hW (by rw [hU]; exact hP) C.K C.n⟩⟩ rfl hk hls hstk (lv_room hcat) hd hf
theorem g_runN {y2 : MethodName} {cc2 : ByteArray} {n2 i k : Nat} {r2 : Option FieldType} {rm : Room} {As : List Value} {Qc : Array Value → State → Outcome → State → Prop} {H : Heap} {locs : List Loc} {ls : Array Slot} {stk : List Value} {host : String} (C : Cx p s m args meth c D cy ad b0 y cc nL ret) (hM : Met l y2 (wsA y2 cc2 n2 r2) rm (va_Pc As (Wd D cy ad σ)) Qc 0 0 (fun q => b0 ≤ q)) (hV : CalS y2 cc2 n2 r2 k) (hl : Cond.methodLinkNest y.cls i y2 host ∈ nestW) (hk : As.length = k) (hR : RmOk rm R n2) (h0 : rm.cells = 0 ∧ rm.slots = 0) (hf : cl ≤ R.cells ∧ sl ≤ R.slots) (hcat : (st.map fun v => v.category).sum ≤ 8) (hstk : stk = As.reverse ++ st) (hP : va_P D vwCl (wld ad cy σ) H) (hls : ls.size = nL) (hd : decode cc pc = .ok (.invokestatic i, 3)) :
    va_Run p l e R s m args below meth c H locs cl sl 0 0 (F0 m pc ls stk) st (Qc As.toArray) (fun q => b0 ≤ q) := by
  have hB := va_cnB (R := R) (args := args) k C.ts (GoodA (y := y) hV.2.2.1) rfl h0.1 h0.2 (C.n _ hl) (C.ts _ hV.2.1) ⟨hV.2.2.2.1, hV.2.2.2.2.1, hV.2.2.2.2.2⟩ hR
  exact va_runSN ⟨C.x, C.b, C.ml, C.o, C.ts⟩ hM ⟨hB, C.ts _ hV.1, trivial⟩ ⟨Wd_blind, fun U hU hW => ⟨rfl, Wd_warm hW (by rw [hU]; exact hP) C.K C.n⟩⟩ rfl hk hls hstk (lv_room hcat) hd hf
theorem g_callVi {y2 : MethodName} {cc2 : ByteArray} {n2 i k : Nat} {r2 : Option FieldType} {rm : Room} {stk : List Value} (C : Cx p s m args meth c D cy ad b0 y cc nL ret) (o : Nat) (As : List Value) {wp : Sg → (Int32 → Sg → Prop) → Prop} {Q2 : Int32 → Sg → Prop} (hC : Cti l D cy ad b0 y2 cc2 n2 r2 rm (.ref (ad o) :: As) wp) (hV : CalV y2 cc2 n2 r2 k) (hl : Cond.methodLink y.cls i y2 ∈ wsG) (ho : o < 11) (hoc : (clE o).1 = y2.cls) (hk : As.length = k) (hR : RmOk rm R n2) (h0 : rm.cells = 0 ∧ rm.slots = 0) (hf : cl ≤ R.cells ∧ sl ≤ R.slots) (hcat : (st.map fun v => v.category).sum ≤ 8) (hstk : stk = As.reverse ++ .ref (ad o) :: st) (hd : decode cc pc = .ok (.invokevirtual i, 3)) (h : wp σ Q2) (kk : ∀ r σ2, Q2 r σ2 → gw p l e R s m args below meth c D cy ad b0 cl sl Q nL (pc + 3) σ2 loc (.int r :: st)) : gw p l e R s m args below meth c D cy ad b0 cl sl Q nL pc σ loc stk := fun H locs ls hP hS hl2 =>
  va_calli (g_runV C (hC σ _ h) hV hl ho hoc hk hR h0 hf hcat hstk hP hl2.1 hd) hS (fun q _ h => h) (fun q h => h) (fun r σ2 t H1 locs1 ht _ hq hw _ _ hS1 => kk r σ2 hq H1 locs1 ls (by rw [← ht]; exact hw.1) hS1 hl2)
theorem g_callVl {y2 : MethodName} {cc2 : ByteArray} {n2 i k : Nat} {r2 : Option FieldType} {rm : Room} {stk : List Value} (C : Cx p s m args meth c D cy ad b0 y cc nL ret) (o : Nat) (As : List Value) {wp : Sg → (Int64 → Sg → Prop) → Prop} {Q2 : Int64 → Sg → Prop} (hC : Ctl l D cy ad b0 y2 cc2 n2 r2 rm (.ref (ad o) :: As) wp) (hV : CalV y2 cc2 n2 r2 k) (hl : Cond.methodLink y.cls i y2 ∈ wsG) (ho : o < 11) (hoc : (clE o).1 = y2.cls) (hk : As.length = k) (hR : RmOk rm R n2) (h0 : rm.cells = 0 ∧ rm.slots = 0) (hf : cl ≤ R.cells ∧ sl ≤ R.slots) (hcat : (st.map fun v => v.category).sum ≤ 8) (hstk : stk = As.reverse ++ .ref (ad o) :: st) (hd : decode cc pc = .ok (.invokevirtual i, 3)) (h : wp σ Q2) (kk : ∀ r σ2, Q2 r σ2 → gw p l e R s m args below meth c D cy ad b0 cl sl Q nL (pc + 3) σ2 loc (.long r :: st)) : gw p l e R s m args below meth c D cy ad b0 cl sl Q nL pc σ loc stk := fun H locs ls hP hS hl2 =>
  va_calll (g_runV C (hC σ _ h) hV hl ho hoc hk hR h0 hf hcat hstk hP hl2.1 hd) hS (fun q _ h => h) (fun q h => h) (fun r σ2 t H1 locs1 ht _ hq hw _ _ hS1 => kk r σ2 hq H1 locs1 ls (by rw [← ht]; exact hw.1) hS1 hl2)
theorem g_callVv {y2 : MethodName} {cc2 : ByteArray} {n2 i k : Nat} {r2 : Option FieldType} {rm : Room} {stk : List Value} (C : Cx p s m args meth c D cy ad b0 y cc nL ret) (o : Nat) (As : List Value) {wp : Sg → (Sg → Prop) → Prop} {Q2 : Sg → Prop} (hC : Ctv l D cy ad b0 y2 cc2 n2 r2 rm (.ref (ad o) :: As) wp) (hV : CalV y2 cc2 n2 r2 k) (hl : Cond.methodLink y.cls i y2 ∈ wsG) (ho : o < 11) (hoc : (clE o).1 = y2.cls) (hk : As.length = k) (hR : RmOk rm R n2) (h0 : rm.cells = 0 ∧ rm.slots = 0) (hf : cl ≤ R.cells ∧ sl ≤ R.slots) (hcat : (st.map fun v => v.category).sum ≤ 8) (hstk : stk = As.reverse ++ .ref (ad o) :: st) (hd : decode cc pc = .ok (.invokevirtual i, 3)) (h : wp σ Q2) (kk : ∀ σ2, Q2 σ2 → gw p l e R s m args below meth c D cy ad b0 cl sl Q nL (pc + 3) σ2 loc st) : gw p l e R s m args below meth c D cy ad b0 cl sl Q nL pc σ loc stk := fun H locs ls hP hS hl2 =>
  va_callv (g_runV C (hC σ _ h) hV hl ho hoc hk hR h0 hf hcat hstk hP hl2.1 hd) hS (fun q _ h => h) (fun q h => h) (fun σ2 t H1 locs1 ht _ hq hw _ _ hS1 => kk σ2 hq H1 locs1 ls (by rw [← ht]; exact hw.1) hS1 hl2)
theorem g_callVr {y2 : MethodName} {cc2 : ByteArray} {n2 i k : Nat} {r2 : Option FieldType} {rm : Room} {stk : List Value} {rr : Nat} (C : Cx p s m args meth c D cy ad b0 y cc nL ret) (o : Nat) (As : List Value) {wp : Sg → (Sg → Prop) → Prop} {Q2 : Sg → Prop} (hC : Ctr l D cy ad b0 y2 cc2 n2 r2 rm (.ref (ad o) :: As) rr wp) (hV : CalV y2 cc2 n2 r2 k) (hl : Cond.methodLink y.cls i y2 ∈ wsG) (ho : o < 11) (hoc : (clE o).1 = y2.cls) (hk : As.length = k) (hR : RmOk rm R n2) (h0 : rm.cells = 0 ∧ rm.slots = 0) (hf : cl ≤ R.cells ∧ sl ≤ R.slots) (hcat : (st.map fun v => v.category).sum ≤ 8) (hstk : stk = As.reverse ++ .ref (ad o) :: st) (hd : decode cc pc = .ok (.invokevirtual i, 3)) (h : wp σ Q2) (kk : ∀ σ2, Q2 σ2 → gw p l e R s m args below meth c D cy ad b0 cl sl Q nL (pc + 3) σ2 loc (.ref (ad rr) :: st)) : gw p l e R s m args below meth c D cy ad b0 cl sl Q nL pc σ loc stk := fun H locs ls hP hS hl2 =>
  va_callr (g_runV C (hC σ _ h) hV hl ho hoc hk hR h0 hf hcat hstk hP hl2.1 hd) hS (fun q _ h => h) (fun q h => h) (fun σ2 ra t H1 locs1 ht _ hq hw _ _ hS1 => by obtain ⟨rfl, hw⟩ := hw; exact kk σ2 hq H1 locs1 ls (by rw [← ht]; exact hw.1) hS1 hl2)
theorem g_callSi {y2 : MethodName} {cc2 : ByteArray} {n2 i k : Nat} {r2 : Option FieldType} {rm : Room} {stk : List Value} (C : Cx p s m args meth c D cy ad b0 y cc nL ret) (As : List Value) {wp : Sg → (Int32 → Sg → Prop) → Prop} {Q2 : Int32 → Sg → Prop} (hC : Cti l D cy ad b0 y2 cc2 n2 r2 rm (As) wp) (hV : CalS y2 cc2 n2 r2 k) (hl : Cond.methodLink y.cls i y2 ∈ wsG) (hk : As.length = k) (hR : RmOk rm R n2) (h0 : rm.cells = 0 ∧ rm.slots = 0) (hf : cl ≤ R.cells ∧ sl ≤ R.slots) (hcat : (st.map fun v => v.category).sum ≤ 8) (hstk : stk = As.reverse ++ st) (hd : decode cc pc = .ok (.invokestatic i, 3)) (h : wp σ Q2) (kk : ∀ r σ2, Q2 r σ2 → gw p l e R s m args below meth c D cy ad b0 cl sl Q nL (pc + 3) σ2 loc (.int r :: st)) : gw p l e R s m args below meth c D cy ad b0 cl sl Q nL pc σ loc stk := fun H locs ls hP hS hl2 =>
  va_calli (g_runS C (hC σ _ h) hV hl hk hR h0 hf hcat hstk hP hl2.1 hd) hS (fun q _ h => h) (fun q h => h) (fun r σ2 t H1 locs1 ht _ hq hw _ _ hS1 => kk r σ2 hq H1 locs1 ls (by rw [← ht]; exact hw.1) hS1 hl2)
theorem g_callSl {y2 : MethodName} {cc2 : ByteArray} {n2 i k : Nat} {r2 : Option FieldType} {rm : Room} {stk : List Value} (C : Cx p s m args meth c D cy ad b0 y cc nL ret) (As : List Value) {wp : Sg → (Int64 → Sg → Prop) → Prop} {Q2 : Int64 → Sg → Prop} (hC : Ctl l D cy ad b0 y2 cc2 n2 r2 rm (As) wp) (hV : CalS y2 cc2 n2 r2 k) (hl : Cond.methodLink y.cls i y2 ∈ wsG) (hk : As.length = k) (hR : RmOk rm R n2) (h0 : rm.cells = 0 ∧ rm.slots = 0) (hf : cl ≤ R.cells ∧ sl ≤ R.slots) (hcat : (st.map fun v => v.category).sum ≤ 8) (hstk : stk = As.reverse ++ st) (hd : decode cc pc = .ok (.invokestatic i, 3)) (h : wp σ Q2) (kk : ∀ r σ2, Q2 r σ2 → gw p l e R s m args below meth c D cy ad b0 cl sl Q nL (pc + 3) σ2 loc (.long r :: st)) : gw p l e R s m args below meth c D cy ad b0 cl sl Q nL pc σ loc stk := fun H locs ls hP hS hl2 =>
  va_calll (g_runS C (hC σ _ h) hV hl hk hR h0 hf hcat hstk hP hl2.1 hd) hS (fun q _ h => h) (fun q h => h) (fun r σ2 t H1 locs1 ht _ hq hw _ _ hS1 => kk r σ2 hq H1 locs1 ls (by rw [← ht]; exact hw.1) hS1 hl2)
theorem g_callSv {y2 : MethodName} {cc2 : ByteArray} {n2 i k : Nat} {r2 : Option FieldType} {rm : Room} {stk : List Value} (C : Cx p s m args meth c D cy ad b0 y cc nL ret) (As : List Value) {wp : Sg → (Sg → Prop) → Prop} {Q2 : Sg → Prop} (hC : Ctv l D cy ad b0 y2 cc2 n2 r2 rm (As) wp) (hV : CalS y2 cc2 n2 r2 k) (hl : Cond.methodLink y.cls i y2 ∈ wsG) (hk : As.length = k) (hR : RmOk rm R n2) (h0 : rm.cells = 0 ∧ rm.slots = 0) (hf : cl ≤ R.cells ∧ sl ≤ R.slots) (hcat : (st.map fun v => v.category).sum ≤ 8) (hstk : stk = As.reverse ++ st) (hd : decode cc pc = .ok (.invokestatic i, 3)) (h : wp σ Q2) (kk : ∀ σ2, Q2 σ2 → gw p l e R s m args below meth c D cy ad b0 cl sl Q nL (pc + 3) σ2 loc st) : gw p l e R s m args below meth c D cy ad b0 cl sl Q nL pc σ loc stk := fun H locs ls hP hS hl2 =>
  va_callv (g_runS C (hC σ _ h) hV hl hk hR h0 hf hcat hstk hP hl2.1 hd) hS (fun q _ h => h) (fun q h => h) (fun σ2 t H1 locs1 ht _ hq hw _ _ hS1 => kk σ2 hq H1 locs1 ls (by rw [← ht]; exact hw.1) hS1 hl2)
theorem g_callSr {y2 : MethodName} {cc2 : ByteArray} {n2 i k : Nat} {r2 : Option FieldType} {rm : Room} {stk : List Value} {rr : Nat} (C : Cx p s m args meth c D cy ad b0 y cc nL ret) (As : List Value) {wp : Sg → (Sg → Prop) → Prop} {Q2 : Sg → Prop} (hC : Ctr l D cy ad b0 y2 cc2 n2 r2 rm (As) rr wp) (hV : CalS y2 cc2 n2 r2 k) (hl : Cond.methodLink y.cls i y2 ∈ wsG) (hk : As.length = k) (hR : RmOk rm R n2) (h0 : rm.cells = 0 ∧ rm.slots = 0) (hf : cl ≤ R.cells ∧ sl ≤ R.slots) (hcat : (st.map fun v => v.category).sum ≤ 8) (hstk : stk = As.reverse ++ st) (hd : decode cc pc = .ok (.invokestatic i, 3)) (h : wp σ Q2) (kk : ∀ σ2, Q2 σ2 → gw p l e R s m args below meth c D cy ad b0 cl sl Q nL (pc + 3) σ2 loc (.ref (ad rr) :: st)) : gw p l e R s m args below meth c D cy ad b0 cl sl Q nL pc σ loc stk := fun H locs ls hP hS hl2 =>
  va_callr (g_runS C (hC σ _ h) hV hl hk hR h0 hf hcat hstk hP hl2.1 hd) hS (fun q _ h => h) (fun q h => h) (fun σ2 ra t H1 locs1 ht _ hq hw _ _ hS1 => by obtain ⟨rfl, hw⟩ := hw; exact kk σ2 hq H1 locs1 ls (by rw [← ht]; exact hw.1) hS1 hl2)
theorem g_callNi {y2 : MethodName} {cc2 : ByteArray} {n2 i k : Nat} {r2 : Option FieldType} {rm : Room} {stk : List Value} (C : Cx p s m args meth c D cy ad b0 y cc nL ret) (As : List Value) {wp : Sg → (Int32 → Sg → Prop) → Prop} {Q2 : Int32 → Sg → Prop} (hC : Cti l D cy ad b0 y2 cc2 n2 r2 rm (As) wp) {host : String} (hV : CalS y2 cc2 n2 r2 k) (hl : Cond.methodLinkNest y.cls i y2 host ∈ nestW) (hk : As.length = k) (hR : RmOk rm R n2) (h0 : rm.cells = 0 ∧ rm.slots = 0) (hf : cl ≤ R.cells ∧ sl ≤ R.slots) (hcat : (st.map fun v => v.category).sum ≤ 8) (hstk : stk = As.reverse ++ st) (hd : decode cc pc = .ok (.invokestatic i, 3)) (h : wp σ Q2) (kk : ∀ r σ2, Q2 r σ2 → gw p l e R s m args below meth c D cy ad b0 cl sl Q nL (pc + 3) σ2 loc (.int r :: st)) : gw p l e R s m args below meth c D cy ad b0 cl sl Q nL pc σ loc stk := fun H locs ls hP hS hl2 =>
  va_calli (g_runN C (hC σ _ h) hV hl hk hR h0 hf hcat hstk hP hl2.1 hd) hS (fun q _ h => h) (fun q h => h) (fun r σ2 t H1 locs1 ht _ hq hw _ _ hS1 => kk r σ2 hq H1 locs1 ls (by rw [← ht]; exact hw.1) hS1 hl2)
theorem g_callNl {y2 : MethodName} {cc2 : ByteArray} {n2 i k : Nat} {r2 : Option FieldType} {rm : Room} {stk : List Value} (C : Cx p s m args meth c D cy ad b0 y cc nL ret) (As : List Value) {wp : Sg → (Int64 → Sg → Prop) → Prop} {Q2 : Int64 → Sg → Prop} (hC : Ctl l D cy ad b0 y2 cc2 n2 r2 rm (As) wp) {host : String} (hV : CalS y2 cc2 n2 r2 k) (hl : Cond.methodLinkNest y.cls i y2 host ∈ nestW) (hk : As.length = k) (hR : RmOk rm R n2) (h0 : rm.cells = 0 ∧ rm.slots = 0) (hf : cl ≤ R.cells ∧ sl ≤ R.slots) (hcat : (st.map fun v => v.category).sum ≤ 8) (hstk : stk = As.reverse ++ st) (hd : decode cc pc = .ok (.invokestatic i, 3)) (h : wp σ Q2) (kk : ∀ r σ2, Q2 r σ2 → gw p l e R s m args below meth c D cy ad b0 cl sl Q nL (pc + 3) σ2 loc (.long r :: st)) : gw p l e R s m args below meth c D cy ad b0 cl sl Q nL pc σ loc stk := fun H locs ls hP hS hl2 =>
  va_calll (g_runN C (hC σ _ h) hV hl hk hR h0 hf hcat hstk hP hl2.1 hd) hS (fun q _ h => h) (fun q h => h) (fun r σ2 t H1 locs1 ht _ hq hw _ _ hS1 => kk r σ2 hq H1 locs1 ls (by rw [← ht]; exact hw.1) hS1 hl2)
theorem g_callNv {y2 : MethodName} {cc2 : ByteArray} {n2 i k : Nat} {r2 : Option FieldType} {rm : Room} {stk : List Value} (C : Cx p s m args meth c D cy ad b0 y cc nL ret) (As : List Value) {wp : Sg → (Sg → Prop) → Prop} {Q2 : Sg → Prop} (hC : Ctv l D cy ad b0 y2 cc2 n2 r2 rm (As) wp) {host : String} (hV : CalS y2 cc2 n2 r2 k) (hl : Cond.methodLinkNest y.cls i y2 host ∈ nestW) (hk : As.length = k) (hR : RmOk rm R n2) (h0 : rm.cells = 0 ∧ rm.slots = 0) (hf : cl ≤ R.cells ∧ sl ≤ R.slots) (hcat : (st.map fun v => v.category).sum ≤ 8) (hstk : stk = As.reverse ++ st) (hd : decode cc pc = .ok (.invokestatic i, 3)) (h : wp σ Q2) (kk : ∀ σ2, Q2 σ2 → gw p l e R s m args below meth c D cy ad b0 cl sl Q nL (pc + 3) σ2 loc st) : gw p l e R s m args below meth c D cy ad b0 cl sl Q nL pc σ loc stk := fun H locs ls hP hS hl2 =>
  va_callv (g_runN C (hC σ _ h) hV hl hk hR h0 hf hcat hstk hP hl2.1 hd) hS (fun q _ h => h) (fun q h => h) (fun σ2 t H1 locs1 ht _ hq hw _ _ hS1 => kk σ2 hq H1 locs1 ls (by rw [← ht]; exact hw.1) hS1 hl2)
theorem g_callNr {y2 : MethodName} {cc2 : ByteArray} {n2 i k : Nat} {r2 : Option FieldType} {rm : Room} {stk : List Value} {rr : Nat} (C : Cx p s m args meth c D cy ad b0 y cc nL ret) (As : List Value) {wp : Sg → (Sg → Prop) → Prop} {Q2 : Sg → Prop} (hC : Ctr l D cy ad b0 y2 cc2 n2 r2 rm (As) rr wp) {host : String} (hV : CalS y2 cc2 n2 r2 k) (hl : Cond.methodLinkNest y.cls i y2 host ∈ nestW) (hk : As.length = k) (hR : RmOk rm R n2) (h0 : rm.cells = 0 ∧ rm.slots = 0) (hf : cl ≤ R.cells ∧ sl ≤ R.slots) (hcat : (st.map fun v => v.category).sum ≤ 8) (hstk : stk = As.reverse ++ st) (hd : decode cc pc = .ok (.invokestatic i, 3)) (h : wp σ Q2) (kk : ∀ σ2, Q2 σ2 → gw p l e R s m args below meth c D cy ad b0 cl sl Q nL (pc + 3) σ2 loc (.ref (ad rr) :: st)) : gw p l e R s m args below meth c D cy ad b0 cl sl Q nL pc σ loc stk := fun H locs ls hP hS hl2 =>
  va_callr (g_runN C (hC σ _ h) hV hl hk hR h0 hf hcat hstk hP hl2.1 hd) hS (fun q _ h => h) (fun q h => h) (fun σ2 ra t H1 locs1 ht _ hq hw _ _ hS1 => by obtain ⟨rfl, hw⟩ := hw; exact kk σ2 hq H1 locs1 ls (by rw [← ht]; exact hw.1) hS1 hl2)
end GC
end
section
/-! ===== what the walks stand on: numbers, small facts, field rows, callees ===== -/
def bl (v : Int32) : Prop := v = nI 0 ∨ v = nI 1
theorem bl_0 : bl (nI 0) := Or.inl rfl
theorem bl_1 : bl (nI 1) := Or.inr rfl
theorem narrow_bl {v : Int32} (h : bl v) : narrow .boolean (.int v) = .int v := by
  rcases h with rfl | rfl <;> rfl
theorem fits_bl {v : Int32} (h : bl v) : fits .boolean (.int v) = true := by
  rcases h with rfl | rfl <;> rfl
def isK (q k : Nat) : Prop := 11 ≤ q ∧ q < NW ∧ aK q = k
theorem dite_case (c : Prop) {A : Prop} (f : c → A) (g : ¬ c → A) : A := (Classical.em c).elim f g
def tsel (dflt lo hi : Int) (offs : Array Int) (x : Int) : Int := if x < lo ∨ hi < x then dflt else (offs[(x - lo).toNat]?).getD 0
theorem sw_at {α : Type} {f : Int32 → α} {x k : Int32} {o : α} (h : x = k) (hk : f k = o) : f x = o := by rw [h]; exact hk
section
variable {p : Program} {l : Launch} {e : Env} {R : Room} {s : State} {m : MethodId} {args : Array Value} {below : List Frame} {meth : Method} {c : Code} {D : va_G} {cy : Nat → ClassId} {ad : Nat → Nat} {b0 cl sl : Nat} {Q : State → Prop} {nL pc : Nat} {σ : Sg} {loc : List (Option Value)} {st : List Value} {y : MethodName} {cc : ByteArray} {ret : Option FieldType}
theorem g_lsw (C : Cx p s m args meth c D cy ad b0 y cc nL ret) {x : Int32} {dflt : Int} {ps : Array (Int × Int)} {len : Nat} {off : Int} (tgt : Nat) (hd : decode cc pc = .ok (.lookupswitch dflt ps, len)) (hp : (ps.toList.zip (ps.toList.drop 1)).all (fun (a, next) => a.1 < next.1) = true) (ho : Op.lookupswitch.offset ps.toList dflt x.toInt = off) (ht : (pc : Int) + off = (tgt : Int)) (k : gw p l e R s m args below meth c D cy ad b0 cl sl Q nL tgt σ loc st) : gw p l e R s m args below meth c D cy ad b0 cl sl Q nL pc σ loc (.int x :: st) := fun H locs ls hP hS hl => lv_lookup C.x C.b hd hp ho ht (k H locs ls hP hS hl)
end
abbrev gI (p : Program) (l : Launch) (e : Env) (R : Room) (s : State) (m : MethodId) (args : Array Value) (below : List Frame) (meth : Method) (c : Code) (D : va_G) (cy : Nat → ClassId) (ad : Nat → Nat) (b0 : Nat) (Q : Int32 → Sg → Prop) (nL pc : Nat) (σ : Sg) (loc : List (Option Value)) (st : List Value) : Prop := gw p l e R s m args below meth c D cy ad b0 0 0 (MQ below (va_Qi Q (Wd D cy ad) (fun q => b0 ≤ q)) args s 0 0 (fun q => b0 ≤ q)) nL pc σ loc st
abbrev gL' (p : Program) (l : Launch) (e : Env) (R : Room) (s : State) (m : MethodId) (args : Array Value) (below : List Frame) (meth : Method) (c : Code) (D : va_G) (cy : Nat → ClassId) (ad : Nat → Nat) (b0 : Nat) (Q : Int64 → Sg → Prop) (nL pc : Nat) (σ : Sg) (loc : List (Option Value)) (st : List Value) : Prop := gw p l e R s m args below meth c D cy ad b0 0 0 (MQ below (va_Ql Q (Wd D cy ad) (fun q => b0 ≤ q)) args s 0 0 (fun q => b0 ≤ q)) nL pc σ loc st
abbrev gV (p : Program) (l : Launch) (e : Env) (R : Room) (s : State) (m : MethodId) (args : Array Value) (below : List Frame) (meth : Method) (c : Code) (D : va_G) (cy : Nat → ClassId) (ad : Nat → Nat) (b0 : Nat) (Q : Sg → Prop) (nL pc : Nat) (σ : Sg) (loc : List (Option Value)) (st : List Value) : Prop := gw p l e R s m args below meth c D cy ad b0 0 0 (MQ below (va_Qv Q (Wd D cy ad) (fun q => b0 ≤ q)) args s 0 0 (fun q => b0 ≤ q)) nL pc σ loc st
abbrev gRf (p : Program) (l : Launch) (e : Env) (R : Room) (s : State) (m : MethodId) (args : Array Value) (below : List Frame) (meth : Method) (c : Code) (D : va_G) (cy : Nat → ClassId) (ad : Nat → Nat) (b0 : Nat) (Q : Sg → Prop) (r nL pc : Nat) (σ : Sg) (loc : List (Option Value)) (st : List Value) : Prop := gw p l e R s m args below meth c D cy ad b0 0 0 (MQ below (va_Qr Q (fun σ' a t => a = ad r ∧ Wd D cy ad σ' t) (fun q => b0 ≤ q)) args s 0 0 (fun q => b0 ≤ q)) nL pc σ loc st
/-- a copied stretch of a row -/
def stC (σ : Sg) (a b : Nat) (sp dp n : Int32) : Sg := (σ.1, (fun x => if x = b then va_cpy (σ.2.1 a) (σ.2.1 b) sp.toNatClampNeg dp.toNatClampNeg n.toNatClampNeg else σ.2.1 x), σ.2.2)
theorem kb_m9 : (Int8.ofInt (-9)).toInt32 = (-9 : Int32) := by decide
theorem kb_8 : (Int8.ofInt (8)).toInt32 = (nI 8) := by decide
theorem kb_16 : (Int8.ofInt (16)).toInt32 = (nI 16) := by decide
theorem kb_25 : (Int8.ofInt (25)).toInt32 = (nI 25) := by decide
theorem kc_0 : Int32.ofInt (0) = (nI 0) := by decide
theorem kc_1 : Int32.ofInt (1) = (nI 1) := by decide
theorem kc_4 : Int32.ofInt (4) = (nI 4) := by decide
theorem kl_0 : Int64.ofNat ((0 : Fin 2) : Nat) = (lN 0) := by decide
theorem kl_1 : Int64.ofNat ((1 : Fin 2) : Nat) = (lN 1) := by decide
theorem ks_255 : (Int16.ofInt (255)).toInt32 = (nI 255) := by decide
section
variable {p : Program} {l : Launch} {e : Env} {R : Room} {s : State} {m : MethodId} {args : Array Value} {below : List Frame} {meth : Method} {c : Code} {D : va_G} {cy : Nat → ClassId} {ad : Nat → Nat} {b0 cl sl : Nat} {Q : State → Prop} {nL pc : Nat} {σ : Sg} {loc : List (Option Value)} {st : List Value}
end
theorem cal_X8_byteOf : CalS yX8_byteOf cX8_byteOf 3 (some .int) 2 := ⟨mw_192, mw_2, mw_193, by decide, by decide, by decide +kernel⟩
end
section
section
variable {p : Program} {l : Launch} {e : Env} {s : State} {m : MethodId} {args : Array Value} {below : List Frame} {meth : Method} {c : Code} {D : va_G} {cy : Nat → ClassId} {ad : Nat → Nat} {b0 : Nat}
def rm_X8_pick : Room := { frames := 0, cells := 0, slots := 0, locals := 0 }
def wp_X8_pick (a0 : Nat) (a1 : Int32) (σ : Sg) (Q : Int32 → Sg → Prop) : Prop :=
  ((a1 < (nI 0) → Q (-9 : Int32) σ) ∧ (¬ a1 < (nI 0) → (((nI (aN a0)) ≤ a1 → Q (-9 : Int32) σ) ∧ (¬ (nI (aN a0)) ≤ a1 → vp_in a1 (aN a0) ∧ (Q (gA σ a0 (Int32.toNatClampNeg a1)) σ)))))
set_option maxHeartbeats 4000000 in
set_option maxRecDepth 100000 in
theorem c_X8_pick (l : Launch) (D : va_G) (cy : Nat → ClassId) (ad : Nat → Nat) (b0 : Nat) (hA : AdOk ad b0) (a0 : Nat) (a1 : Int32) (h0 : 11 ≤ a0 ∧ a0 < NW ∧ aK a0 = 0) : Cti l D cy ad b0 yX8_pick cX8_pick 2 (some .int) rm_X8_pick [.ref (ad a0), .int a1] (fun σ Q => wp_X8_pick a0 a1 σ Q) := by
  intro σ Q h
  refine g_enter hA rfl (Nat.le_of_ble_eq_true rfl) [some (.ref (ad a0)), some (.int a1)] rfl ?_
  intro p e s m args below meth c C
  refine g_iload_n C dX8_pick_0 rfl ?_
  refine g_if_lt C 16 dX8_pick_1 (by decide) (fun c1 => ?_) (fun c1 => ?_)
  · have h := h.1 c1
    refine g_bipush C dX8_pick_16 kb_m9 ?_
    exact g_iret C dX8_pick_18 h
  · have h := h.2 c1
    refine g_iload_n C dX8_pick_4 rfl ?_
    refine g_aload_n C dX8_pick_5 rfl ?_
    refine g_alen C ⟨h0.1, h0.2.1, by rw [h0.2.2]; decide⟩ dX8_pick_6 ?_
    refine g_icmp_ge C 16 dX8_pick_7 (by decide) (fun c7 => ?_) (fun c7 => ?_)
    · have h := h.1 c7
      refine g_bipush C dX8_pick_16 kb_m9 ?_
      exact g_iret C dX8_pick_18 h
    · have h := h.2 c7
      refine g_aload_n C dX8_pick_10 rfl ?_
      refine g_iload_n C dX8_pick_11 rfl ?_
      refine g_iald C h0 h.1 dX8_pick_12 ?_
      have h := h.2
      refine g_goto C 18 dX8_pick_13 (by decide) ?_
      exact g_iret C dX8_pick_18 h
def rm_X8_put : Room := { frames := 0, cells := 0, slots := 0, locals := 0 }
def wp_X8_put (a0 : Nat) (a1 : Int32) (a2 : Int32) (σ : Sg) (Q : Sg → Prop) : Prop :=
  ((a1 < (nI 0) → Q σ) ∧ (¬ a1 < (nI 0) → (((nI (aN a0)) ≤ a1 → Q σ) ∧ (¬ (nI (aN a0)) ≤ a1 → vp_in a1 (aN a0) ∧ (∀ σ1 : Sg, σ1 = stA σ a0 (Int32.toNatClampNeg a1) a2 → (Q σ1))))))
set_option maxHeartbeats 4000000 in
set_option maxRecDepth 100000 in
theorem c_X8_put (l : Launch) (D : va_G) (cy : Nat → ClassId) (ad : Nat → Nat) (b0 : Nat) (hA : AdOk ad b0) (a0 : Nat) (a1 : Int32) (a2 : Int32) (h0 : 11 ≤ a0 ∧ a0 < NW ∧ aK a0 = 0) : Ctv l D cy ad b0 yX8_put cX8_put 3 none rm_X8_put [.ref (ad a0), .int a1, .int a2] (fun σ Q => wp_X8_put a0 a1 a2 σ Q) := by
  intro σ Q h
  refine g_enter hA rfl (Nat.le_of_ble_eq_true rfl) [some (.ref (ad a0)), some (.int a1), some (.int a2)] rfl ?_
  intro p e s m args below meth c C
  refine g_iload_n C dX8_put_0 rfl ?_
  refine g_if_lt C 14 dX8_put_1 (by decide) (fun c1 => ?_) (fun c1 => ?_)
  · have h := h.1 c1
    exact g_vret C dX8_put_14 h
  · have h := h.2 c1
    refine g_iload_n C dX8_put_4 rfl ?_
    refine g_aload_n C dX8_put_5 rfl ?_
    refine g_alen C ⟨h0.1, h0.2.1, by rw [h0.2.2]; decide⟩ dX8_put_6 ?_
    refine g_icmp_ge C 14 dX8_put_7 (by decide) (fun c7 => ?_) (fun c7 => ?_)
    · have h := h.1 c7
      exact g_vret C dX8_put_14 h
    · have h := h.2 c7
      refine g_aload_n C dX8_put_10 rfl ?_
      refine g_iload_n C dX8_put_11 rfl ?_
      refine g_iload_n C dX8_put_12 rfl ?_
      refine g_iast C h0 h.1 dX8_put_13 (fun σ1 e_σ1 => ?_)
      have h := h.2 σ1 e_σ1
      exact g_vret C dX8_put_14 h
def rm_X8_pickLong : Room := { frames := 0, cells := 0, slots := 0, locals := 0 }
def wp_X8_pickLong (a0 : Nat) (a1 : Int32) (σ : Sg) (Q : Int64 → Sg → Prop) : Prop :=
  ((a1 < (nI 0) → Q (lN 0) σ) ∧ (¬ a1 < (nI 0) → (((nI (aN a0)) ≤ a1 → Q (lN 0) σ) ∧ (¬ (nI (aN a0)) ≤ a1 → vp_in a1 (aN a0) ∧ (Q (gL σ a0 (Int32.toNatClampNeg a1)) σ)))))
set_option maxHeartbeats 4000000 in
set_option maxRecDepth 100000 in
theorem c_X8_pickLong (l : Launch) (D : va_G) (cy : Nat → ClassId) (ad : Nat → Nat) (b0 : Nat) (hA : AdOk ad b0) (a0 : Nat) (a1 : Int32) (h0 : 11 ≤ a0 ∧ a0 < NW ∧ aK a0 = 2) : Ctl l D cy ad b0 yX8_pickLong cX8_pickLong 2 (some .long) rm_X8_pickLong [.ref (ad a0), .int a1] (fun σ Q => wp_X8_pickLong a0 a1 σ Q) := by
  intro σ Q h
  refine g_enter hA rfl (Nat.le_of_ble_eq_true rfl) [some (.ref (ad a0)), some (.int a1)] rfl ?_
  intro p e s m args below meth c C
  refine g_iload_n C dX8_pickLong_0 rfl ?_
  refine g_if_lt C 16 dX8_pickLong_1 (by decide) (fun c1 => ?_) (fun c1 => ?_)
  · have h := h.1 c1
    refine g_lconst C dX8_pickLong_16 kl_0 ?_
    exact g_lret C dX8_pickLong_17 h
  · have h := h.2 c1
    refine g_iload_n C dX8_pickLong_4 rfl ?_
    refine g_aload_n C dX8_pickLong_5 rfl ?_
    refine g_alen C ⟨h0.1, h0.2.1, by rw [h0.2.2]; decide⟩ dX8_pickLong_6 ?_
    refine g_icmp_ge C 16 dX8_pickLong_7 (by decide) (fun c7 => ?_) (fun c7 => ?_)
    · have h := h.1 c7
      refine g_lconst C dX8_pickLong_16 kl_0 ?_
      exact g_lret C dX8_pickLong_17 h
    · have h := h.2 c7
      refine g_aload_n C dX8_pickLong_10 rfl ?_
      refine g_iload_n C dX8_pickLong_11 rfl ?_
      refine g_lald C h0 h.1 dX8_pickLong_12 ?_
      have h := h.2
      refine g_goto C 17 dX8_pickLong_13 (by decide) ?_
      exact g_lret C dX8_pickLong_17 h
def rm_X8_putLong : Room := { frames := 0, cells := 0, slots := 0, locals := 0 }
def wp_X8_putLong (a0 : Nat) (a1 : Int32) (a2 : Int64) (σ : Sg) (Q : Sg → Prop) : Prop :=
  ((a1 < (nI 0) → Q σ) ∧ (¬ a1 < (nI 0) → (((nI (aN a0)) ≤ a1 → Q σ) ∧ (¬ (nI (aN a0)) ≤ a1 → vp_in a1 (aN a0) ∧ (∀ σ1 : Sg, σ1 = stL σ a0 (Int32.toNatClampNeg a1) a2 → (Q σ1))))))
set_option maxHeartbeats 4000000 in
set_option maxRecDepth 100000 in
theorem c_X8_putLong (l : Launch) (D : va_G) (cy : Nat → ClassId) (ad : Nat → Nat) (b0 : Nat) (hA : AdOk ad b0) (a0 : Nat) (a1 : Int32) (a2 : Int64) (h0 : 11 ≤ a0 ∧ a0 < NW ∧ aK a0 = 2) : Ctv l D cy ad b0 yX8_putLong cX8_putLong 4 none rm_X8_putLong [.ref (ad a0), .int a1, .long a2] (fun σ Q => wp_X8_putLong a0 a1 a2 σ Q) := by
  intro σ Q h
  refine g_enter hA rfl (Nat.le_of_ble_eq_true rfl) [some (.ref (ad a0)), some (.int a1), some (.long a2), none] rfl ?_
  intro p e s m args below meth c C
  refine g_iload_n C dX8_putLong_0 rfl ?_
  refine g_if_lt C 14 dX8_putLong_1 (by decide) (fun c1 => ?_) (fun c1 => ?_)
  · have h := h.1 c1
    exact g_vret C dX8_putLong_14 h
  · have h := h.2 c1
    refine g_iload_n C dX8_putLong_4 rfl ?_
    refine g_aload_n C dX8_putLong_5 rfl ?_
    refine g_alen C ⟨h0.1, h0.2.1, by rw [h0.2.2]; decide⟩ dX8_putLong_6 ?_
    refine g_icmp_ge C 14 dX8_putLong_7 (by decide) (fun c7 => ?_) (fun c7 => ?_)
    · have h := h.1 c7
      exact g_vret C dX8_putLong_14 h
    · have h := h.2 c7
      refine g_aload_n C dX8_putLong_10 rfl ?_
      refine g_iload_n C dX8_putLong_11 rfl ?_
      refine g_lload_n C dX8_putLong_12 rfl ?_
      refine g_last C h0 h.1 dX8_putLong_13 (fun σ1 e_σ1 => ?_)
      have h := h.2 σ1 e_σ1
      exact g_vret C dX8_putLong_14 h
def rm_X8_isSet : Room := { frames := 0, cells := 0, slots := 0, locals := 0 }
def wp_X8_isSet (a0 : Nat) (a1 : Int32) (σ : Sg) (Q : Int32 → Sg → Prop) : Prop :=
  ((a1 < (nI 0) → Q (nI 0) σ) ∧ (¬ a1 < (nI 0) → (((nI (aN a0)) ≤ a1 → Q (nI 0) σ) ∧ (¬ (nI (aN a0)) ≤ a1 → vp_in a1 (aN a0) ∧ ((((gA σ a0 (Int32.toNatClampNeg a1)) = (nI 0) → Q (nI 0) σ) ∧ (¬ (gA σ a0 (Int32.toNatClampNeg a1)) = (nI 0) → Q (nI 1) σ)))))))
set_option maxHeartbeats 4000000 in
set_option maxRecDepth 100000 in
theorem c_X8_isSet (l : Launch) (D : va_G) (cy : Nat → ClassId) (ad : Nat → Nat) (b0 : Nat) (hA : AdOk ad b0) (a0 : Nat) (a1 : Int32) (h0 : 11 ≤ a0 ∧ a0 < NW ∧ aK a0 = 1) : Cti l D cy ad b0 yX8_isSet cX8_isSet 2 (some .boolean) rm_X8_isSet [.ref (ad a0), .int a1] (fun σ Q => wp_X8_isSet a0 a1 σ Q) := by
  intro σ Q h
  refine g_enter hA rfl (Nat.le_of_ble_eq_true rfl) [some (.ref (ad a0)), some (.int a1)] rfl ?_
  intro p e s m args below meth c C
  refine g_iload_n C dX8_isSet_0 rfl ?_
  refine g_if_lt C 20 dX8_isSet_1 (by decide) (fun c1 => ?_) (fun c1 => ?_)
  · have h := h.1 c1
    refine g_iconst C dX8_isSet_20 kc_0 ?_
    exact g_zret C (narrow_bl bl_0) dX8_isSet_21 h
  · have h := h.2 c1
    refine g_iload_n C dX8_isSet_4 rfl ?_
    refine g_aload_n C dX8_isSet_5 rfl ?_
    refine g_alen C ⟨h0.1, h0.2.1, by rw [h0.2.2]; decide⟩ dX8_isSet_6 ?_
    refine g_icmp_ge C 20 dX8_isSet_7 (by decide) (fun c7 => ?_) (fun c7 => ?_)
    · have h := h.1 c7
      refine g_iconst C dX8_isSet_20 kc_0 ?_
      exact g_zret C (narrow_bl bl_0) dX8_isSet_21 h
    · have h := h.2 c7
      refine g_aload_n C dX8_isSet_10 rfl ?_
      refine g_iload_n C dX8_isSet_11 rfl ?_
      refine g_zald C h0 h.1 dX8_isSet_12 ?_
      have h := h.2
      refine g_if_eq C 20 dX8_isSet_13 (by decide) (fun c13 => ?_) (fun c13 => ?_)
      · have h := h.1 c13
        refine g_iconst C dX8_isSet_20 kc_0 ?_
        exact g_zret C (narrow_bl bl_0) dX8_isSet_21 h
      · have h := h.2 c13
        refine g_iconst C dX8_isSet_16 kc_1 ?_
        refine g_goto C 21 dX8_isSet_17 (by decide) ?_
        exact g_zret C (narrow_bl bl_1) dX8_isSet_21 h
def rm_X8_set : Room := { frames := 0, cells := 0, slots := 0, locals := 0 }
def wp_X8_set (a0 : Nat) (a1 : Int32) (a2 : Int32) (σ : Sg) (Q : Sg → Prop) : Prop :=
  ((a1 < (nI 0) → Q σ) ∧ (¬ a1 < (nI 0) → (((nI (aN a0)) ≤ a1 → Q σ) ∧ (¬ (nI (aN a0)) ≤ a1 → vp_in a1 (aN a0) ∧ (∀ σ1 : Sg, σ1 = stA σ a0 (Int32.toNatClampNeg a1) (vp_nar .boolean a2) → (Q σ1))))))
set_option maxHeartbeats 4000000 in
set_option maxRecDepth 100000 in
theorem c_X8_set (l : Launch) (D : va_G) (cy : Nat → ClassId) (ad : Nat → Nat) (b0 : Nat) (hA : AdOk ad b0) (a0 : Nat) (a1 : Int32) (a2 : Int32) (h0 : 11 ≤ a0 ∧ a0 < NW ∧ aK a0 = 1) : Ctv l D cy ad b0 yX8_set cX8_set 3 none rm_X8_set [.ref (ad a0), .int a1, .int a2] (fun σ Q => wp_X8_set a0 a1 a2 σ Q) := by
  intro σ Q h
  refine g_enter hA rfl (Nat.le_of_ble_eq_true rfl) [some (.ref (ad a0)), some (.int a1), some (.int a2)] rfl ?_
  intro p e s m args below meth c C
  refine g_iload_n C dX8_set_0 rfl ?_
  refine g_if_lt C 14 dX8_set_1 (by decide) (fun c1 => ?_) (fun c1 => ?_)
  · have h := h.1 c1
    exact g_vret C dX8_set_14 h
  · have h := h.2 c1
    refine g_iload_n C dX8_set_4 rfl ?_
    refine g_aload_n C dX8_set_5 rfl ?_
    refine g_alen C ⟨h0.1, h0.2.1, by rw [h0.2.2]; decide⟩ dX8_set_6 ?_
    refine g_icmp_ge C 14 dX8_set_7 (by decide) (fun c7 => ?_) (fun c7 => ?_)
    · have h := h.1 c7
      exact g_vret C dX8_set_14 h
    · have h := h.2 c7
      refine g_aload_n C dX8_set_10 rfl ?_
      refine g_iload_n C dX8_set_11 rfl ?_
      refine g_iload_n C dX8_set_12 rfl ?_
      refine g_zast C h0 h.1 dX8_set_13 (fun σ1 e_σ1 => ?_)
      have h := h.2 σ1 e_σ1
      exact g_vret C dX8_set_14 h
def rm_X8_hasBit : Room := { frames := 0, cells := 0, slots := 0, locals := 0 }
def wp_X8_hasBit (a0 : Int64) (a1 : Int32) (σ : Sg) (Q : Int32 → Sg → Prop) : Prop :=
  ((¬ (lg_cmp ((lUSHR a0 a1) &&& (lN 1)) (lN 1)) = (nI 0) → Q (nI 0) σ) ∧ ((lg_cmp ((lUSHR a0 a1) &&& (lN 1)) (lN 1)) = (nI 0) → Q (nI 1) σ))
set_option maxHeartbeats 4000000 in
set_option maxRecDepth 100000 in
theorem c_X8_hasBit (l : Launch) (D : va_G) (cy : Nat → ClassId) (ad : Nat → Nat) (b0 : Nat) (hA : AdOk ad b0) (a0 : Int64) (a1 : Int32) : Cti l D cy ad b0 yX8_hasBit cX8_hasBit 3 (some .boolean) rm_X8_hasBit [.long a0, .int a1] (fun σ Q => wp_X8_hasBit a0 a1 σ Q) := by
  intro σ Q h
  refine g_enter hA rfl (Nat.le_of_ble_eq_true rfl) [some (.long a0), none, some (.int a1)] rfl ?_
  intro p e s m args below meth c C
  refine g_lload_n C dX8_hasBit_0 rfl ?_
  refine g_iload_n C dX8_hasBit_1 rfl ?_
  refine g_lushr C dX8_hasBit_2 ?_
  refine g_lconst C dX8_hasBit_3 kl_1 ?_
  refine g_land C dX8_hasBit_4 ?_
  refine g_lconst C dX8_hasBit_5 kl_1 ?_
  refine g_lcmp C dX8_hasBit_6 ?_
  refine g_if_ne C 14 dX8_hasBit_7 (by decide) (fun c7 => ?_) (fun c7 => ?_)
  · have h := h.1 c7
    refine g_iconst C dX8_hasBit_14 kc_0 ?_
    exact g_zret C (narrow_bl bl_0) dX8_hasBit_15 h
  · have h := h.2 c7
    refine g_iconst C dX8_hasBit_10 kc_1 ?_
    refine g_goto C 15 dX8_hasBit_11 (by decide) ?_
    exact g_zret C (narrow_bl bl_1) dX8_hasBit_15 h
def rm_X8_isEvent : Room := { frames := 0, cells := 0, slots := 0, locals := 0 }
def wp_X8_isEvent (a0 : Int32) (σ : Sg) (Q : Int32 → Sg → Prop) : Prop :=
  ((a0 < (nI 0) → Q (nI 0) σ) ∧ (¬ a0 < (nI 0) → (((nI 4) ≤ a0 → Q (nI 0) σ) ∧ (¬ (nI 4) ≤ a0 → Q (nI 1) σ))))
set_option maxHeartbeats 4000000 in
set_option maxRecDepth 100000 in
theorem c_X8_isEvent (l : Launch) (D : va_G) (cy : Nat → ClassId) (ad : Nat → Nat) (b0 : Nat) (hA : AdOk ad b0) (a0 : Int32) : Cti l D cy ad b0 yX8_isEvent cX8_isEvent 1 (some .boolean) rm_X8_isEvent [.int a0] (fun σ Q => wp_X8_isEvent a0 σ Q) := by
  intro σ Q h
  refine g_enter hA rfl (Nat.le_of_ble_eq_true rfl) [some (.int a0)] rfl ?_
  intro p e s m args below meth c C
  refine g_iload_n C dX8_isEvent_0 rfl ?_
  refine g_if_lt C 13 dX8_isEvent_1 (by decide) (fun c1 => ?_) (fun c1 => ?_)
  · have h := h.1 c1
    refine g_iconst C dX8_isEvent_13 kc_0 ?_
    exact g_zret C (narrow_bl bl_0) dX8_isEvent_14 h
  · have h := h.2 c1
    refine g_iload_n C dX8_isEvent_4 rfl ?_
    refine g_iconst C dX8_isEvent_5 kc_4 ?_
    refine g_icmp_ge C 13 dX8_isEvent_6 (by decide) (fun c6 => ?_) (fun c6 => ?_)
    · have h := h.1 c6
      refine g_iconst C dX8_isEvent_13 kc_0 ?_
      exact g_zret C (narrow_bl bl_0) dX8_isEvent_14 h
    · have h := h.2 c6
      refine g_iconst C dX8_isEvent_9 kc_1 ?_
      refine g_goto C 14 dX8_isEvent_10 (by decide) ?_
      exact g_zret C (narrow_bl bl_1) dX8_isEvent_14 h
def rm_X8_isVerdict : Room := { frames := 0, cells := 0, slots := 0, locals := 0 }
def wp_X8_isVerdict (a0 : Int32) (σ : Sg) (Q : Int32 → Sg → Prop) : Prop :=
  ((a0 < (nI 0) → Q (nI 0) σ) ∧ (¬ a0 < (nI 0) → (((nI 4) ≤ a0 → Q (nI 0) σ) ∧ (¬ (nI 4) ≤ a0 → Q (nI 1) σ))))
set_option maxHeartbeats 4000000 in
set_option maxRecDepth 100000 in
theorem c_X8_isVerdict (l : Launch) (D : va_G) (cy : Nat → ClassId) (ad : Nat → Nat) (b0 : Nat) (hA : AdOk ad b0) (a0 : Int32) : Cti l D cy ad b0 yX8_isVerdict cX8_isVerdict 1 (some .boolean) rm_X8_isVerdict [.int a0] (fun σ Q => wp_X8_isVerdict a0 σ Q) := by
  intro σ Q h
  refine g_enter hA rfl (Nat.le_of_ble_eq_true rfl) [some (.int a0)] rfl ?_
  intro p e s m args below meth c C
  refine g_iload_n C dX8_isVerdict_0 rfl ?_
  refine g_if_lt C 13 dX8_isVerdict_1 (by decide) (fun c1 => ?_) (fun c1 => ?_)
  · have h := h.1 c1
    refine g_iconst C dX8_isVerdict_13 kc_0 ?_
    exact g_zret C (narrow_bl bl_0) dX8_isVerdict_14 h
  · have h := h.2 c1
    refine g_iload_n C dX8_isVerdict_4 rfl ?_
    refine g_iconst C dX8_isVerdict_5 kc_4 ?_
    refine g_icmp_ge C 13 dX8_isVerdict_6 (by decide) (fun c6 => ?_) (fun c6 => ?_)
    · have h := h.1 c6
      refine g_iconst C dX8_isVerdict_13 kc_0 ?_
      exact g_zret C (narrow_bl bl_0) dX8_isVerdict_14 h
    · have h := h.2 c6
      refine g_iconst C dX8_isVerdict_9 kc_1 ?_
      refine g_goto C 14 dX8_isVerdict_10 (by decide) ?_
      exact g_zret C (narrow_bl bl_1) dX8_isVerdict_14 h
def rm_X8_isKey : Room := { frames := 0, cells := 0, slots := 0, locals := 0 }
def wp_X8_isKey (a0 : Int32) (σ : Sg) (Q : Int32 → Sg → Prop) : Prop :=
  ((a0 < (nI 0) → Q (nI 0) σ) ∧ (¬ a0 < (nI 0) → (((nI 16) ≤ a0 → Q (nI 0) σ) ∧ (¬ (nI 16) ≤ a0 → Q (nI 1) σ))))
set_option maxHeartbeats 4000000 in
set_option maxRecDepth 100000 in
theorem c_X8_isKey (l : Launch) (D : va_G) (cy : Nat → ClassId) (ad : Nat → Nat) (b0 : Nat) (hA : AdOk ad b0) (a0 : Int32) : Cti l D cy ad b0 yX8_isKey cX8_isKey 1 (some .boolean) rm_X8_isKey [.int a0] (fun σ Q => wp_X8_isKey a0 σ Q) := by
  intro σ Q h
  refine g_enter hA rfl (Nat.le_of_ble_eq_true rfl) [some (.int a0)] rfl ?_
  intro p e s m args below meth c C
  refine g_iload_n C dX8_isKey_0 rfl ?_
  refine g_if_lt C 14 dX8_isKey_1 (by decide) (fun c1 => ?_) (fun c1 => ?_)
  · have h := h.1 c1
    refine g_iconst C dX8_isKey_14 kc_0 ?_
    exact g_zret C (narrow_bl bl_0) dX8_isKey_15 h
  · have h := h.2 c1
    refine g_iload_n C dX8_isKey_4 rfl ?_
    refine g_bipush C dX8_isKey_5 kb_16 ?_
    refine g_icmp_ge C 14 dX8_isKey_7 (by decide) (fun c7 => ?_) (fun c7 => ?_)
    · have h := h.1 c7
      refine g_iconst C dX8_isKey_14 kc_0 ?_
      exact g_zret C (narrow_bl bl_0) dX8_isKey_15 h
    · have h := h.2 c7
      refine g_iconst C dX8_isKey_10 kc_1 ?_
      refine g_goto C 15 dX8_isKey_11 (by decide) ?_
      exact g_zret C (narrow_bl bl_1) dX8_isKey_15 h
def rm_X8_isRow : Room := { frames := 0, cells := 0, slots := 0, locals := 0 }
def wp_X8_isRow (a0 : Int32) (σ : Sg) (Q : Int32 → Sg → Prop) : Prop :=
  ((a0 < (nI 0) → Q (nI 0) σ) ∧ (¬ a0 < (nI 0) → (((nI 25) < a0 → Q (nI 0) σ) ∧ (¬ (nI 25) < a0 → Q (nI 1) σ))))
set_option maxHeartbeats 4000000 in
set_option maxRecDepth 100000 in
theorem c_X8_isRow (l : Launch) (D : va_G) (cy : Nat → ClassId) (ad : Nat → Nat) (b0 : Nat) (hA : AdOk ad b0) (a0 : Int32) : Cti l D cy ad b0 yX8_isRow cX8_isRow 1 (some .boolean) rm_X8_isRow [.int a0] (fun σ Q => wp_X8_isRow a0 σ Q) := by
  intro σ Q h
  refine g_enter hA rfl (Nat.le_of_ble_eq_true rfl) [some (.int a0)] rfl ?_
  intro p e s m args below meth c C
  refine g_iload_n C dX8_isRow_0 rfl ?_
  refine g_if_lt C 14 dX8_isRow_1 (by decide) (fun c1 => ?_) (fun c1 => ?_)
  · have h := h.1 c1
    refine g_iconst C dX8_isRow_14 kc_0 ?_
    exact g_zret C (narrow_bl bl_0) dX8_isRow_15 h
  · have h := h.2 c1
    refine g_iload_n C dX8_isRow_4 rfl ?_
    refine g_bipush C dX8_isRow_5 kb_25 ?_
    refine g_icmp_gt C 14 dX8_isRow_7 (by decide) (fun c7 => ?_) (fun c7 => ?_)
    · have h := h.1 c7
      refine g_iconst C dX8_isRow_14 kc_0 ?_
      exact g_zret C (narrow_bl bl_0) dX8_isRow_15 h
    · have h := h.2 c7
      refine g_iconst C dX8_isRow_10 kc_1 ?_
      refine g_goto C 15 dX8_isRow_11 (by decide) ?_
      exact g_zret C (narrow_bl bl_1) dX8_isRow_15 h
def rm_X8_byteOf : Room := { frames := 0, cells := 0, slots := 0, locals := 0 }
def wp_X8_byteOf (a0 : Int64) (a1 : Int32) (σ : Sg) (Q : Int32 → Sg → Prop) : Prop :=
  Q ((Int64.toInt32 (lUSHR a0 ((nI 8) * a1))) &&& (nI 255)) σ
set_option maxHeartbeats 4000000 in
set_option maxRecDepth 100000 in
theorem c_X8_byteOf (l : Launch) (D : va_G) (cy : Nat → ClassId) (ad : Nat → Nat) (b0 : Nat) (hA : AdOk ad b0) (a0 : Int64) (a1 : Int32) : Cti l D cy ad b0 yX8_byteOf cX8_byteOf 3 (some .int) rm_X8_byteOf [.long a0, .int a1] (fun σ Q => wp_X8_byteOf a0 a1 σ Q) := by
  intro σ Q h
  refine g_enter hA rfl (Nat.le_of_ble_eq_true rfl) [some (.long a0), none, some (.int a1)] rfl ?_
  intro p e s m args below meth c C
  refine g_lload_n C dX8_byteOf_0 rfl ?_
  refine g_bipush C dX8_byteOf_1 kb_8 ?_
  refine g_iload_n C dX8_byteOf_3 rfl ?_
  refine g_imul C dX8_byteOf_4 ?_
  refine g_lushr C dX8_byteOf_5 ?_
  refine g_l2i C dX8_byteOf_6 ?_
  refine g_sipush C dX8_byteOf_7 ks_255 ?_
  refine g_iand C dX8_byteOf_10 ?_
  exact g_iret C dX8_byteOf_11 h
def rm_X8_bytesIn : Room := { frames := 1, cells := 0, slots := 0, locals := 22 }
def wb_X8_bytesIn_2 (v0 : Int64) (v2 : Int32) (K2 : Int32 → Sg → Prop) (Q : Int32 → Sg → Prop) (σ : Sg) : Prop :=
  (((nI 8) ≤ v2 → Q (nI 8) σ) ∧ (¬ (nI 8) ≤ v2 → wp_X8_byteOf v0 v2 σ (fun r1 σ2 => ((¬ r1 = (nI 0) → ∀ x18 : Int32, x18 = v2 + (nI 1) → (K2 x18 σ2)) ∧ (r1 = (nI 0) → Q v2 σ2)))))
set_option maxHeartbeats 4000000 in
set_option maxRecDepth 100000 in
theorem kb_X8_bytesIn_2 {Q : Int32 → Sg → Prop} (C : Cx p s m args meth c D cy ad b0 yX8_bytesIn cX8_bytesIn 3 (some .int)) (v0 : Int64) (v2 : Int32) (K2 : Int32 → Sg → Prop) (hK2 : ∀ (z2 : Int32) (σ : Sg), K2 z2 σ → gI p l e rm_X8_bytesIn s m args below meth c D cy ad b0 Q 3 2 σ [some (.long v0), none, some (.int z2)] []) (σ : Sg) (h : wb_X8_bytesIn_2 v0 v2 K2 Q σ) : gI p l e rm_X8_bytesIn s m args below meth c D cy ad b0 Q 3 2 σ [some (.long v0), none, some (.int v2)] [] := by
  refine g_iload_n C dX8_bytesIn_2 rfl ?_
  refine g_bipush C dX8_bytesIn_3 kb_8 ?_
  refine g_icmp_ge C 24 dX8_bytesIn_5 (by decide) (fun c5 => ?_) (fun c5 => ?_)
  · have h := h.1 c5
    refine g_bipush C dX8_bytesIn_24 kb_8 ?_
    exact g_iret C dX8_bytesIn_26 h
  · have h := h.2 c5
    refine g_lload_n C dX8_bytesIn_8 rfl ?_
    refine g_iload_n C dX8_bytesIn_9 rfl ?_
    refine g_callSi C [.long v0, .int v2] (c_X8_byteOf l D cy ad b0 C.A v0 v2) cal_X8_byteOf mw_191 rfl ⟨Nat.le_of_ble_eq_true rfl, Nat.le_of_ble_eq_true rfl⟩ ⟨rfl, rfl⟩ ⟨Nat.zero_le _, Nat.zero_le _⟩ (Nat.le_of_ble_eq_true rfl) rfl dX8_bytesIn_10 h (fun r1 σ2 h => ?_)
    refine g_if_ne C 18 dX8_bytesIn_13 (by decide) (fun c13 => ?_) (fun c13 => ?_)
    · have h := h.1 c13
      obtain ⟨x18, e_x18⟩ : ∃ v : Int32, v = v2 + (nI 1) := ⟨_, rfl⟩
      have h := h x18 e_x18
      refine g_iinc C [some (.long v0), none, some (.int x18)] dX8_bytesIn_18 rfl e_x18.symm (by decide) rfl ?_
      refine g_goto C 2 dX8_bytesIn_21 (by decide) ?_
      exact hK2 x18 σ2 h
    · have h := h.2 c13
      refine g_iload_n C dX8_bytesIn_16 rfl ?_
      exact g_iret C dX8_bytesIn_17 h
def wl_X8_bytesIn_2 (v0 : Int64) (Q : Int32 → Sg → Prop) : Nat → Int32 → Sg → Prop
  | 0, _, _ => False
  | n + 1, v2, σ => wb_X8_bytesIn_2 v0 v2 (wl_X8_bytesIn_2 v0 Q n) Q σ
set_option maxHeartbeats 4000000 in
set_option maxRecDepth 100000 in
theorem kl_X8_bytesIn_2 {Q : Int32 → Sg → Prop} (C : Cx p s m args meth c D cy ad b0 yX8_bytesIn cX8_bytesIn 3 (some .int)) (v0 : Int64) : ∀ (n : Nat) (v2 : Int32) (σ : Sg), wl_X8_bytesIn_2 v0 Q n v2 σ → gI p l e rm_X8_bytesIn s m args below meth c D cy ad b0 Q 3 2 σ [some (.long v0), none, some (.int v2)] [] := by
  intro n
  induction n with
  | zero => intro v2 σ h; exact False.elim h
  | succ n ih =>
    intro v2 σ h
    exact kb_X8_bytesIn_2 C v0 v2 (wl_X8_bytesIn_2 v0 Q n) (fun z2 σ h => ih z2 σ h) σ h
def wp_X8_bytesIn (a0 : Int64) (σ : Sg) (Q : Int32 → Sg → Prop) : Prop :=
  ∃ n, wl_X8_bytesIn_2 a0 Q n (nI 0) σ
set_option maxHeartbeats 4000000 in
set_option maxRecDepth 100000 in
theorem c_X8_bytesIn (l : Launch) (D : va_G) (cy : Nat → ClassId) (ad : Nat → Nat) (b0 : Nat) (hA : AdOk ad b0) (a0 : Int64) : Cti l D cy ad b0 yX8_bytesIn cX8_bytesIn 3 (some .int) rm_X8_bytesIn [.long a0] (fun σ Q => wp_X8_bytesIn a0 σ Q) := by
  intro σ Q h
  refine g_enter hA rfl (Nat.le_of_ble_eq_true rfl) [some (.long a0), none, none] rfl ?_
  intro p e s m args below meth c C
  refine g_iconst C dX8_bytesIn_0 kc_0 ?_
  refine g_istore_n C [some (.long a0), none, some (.int (nI 0))] dX8_bytesIn_1 (by decide) rfl ?_
  obtain ⟨n, h⟩ := h
  exact kl_X8_bytesIn_2 C a0 n (nI 0) σ h
end
end
