-- ===== PART A: goes FIRST, ahead of the names: the tables' words, and 'selects' of the private methods out of them =====
/-- a private method of a class that the tables say can be made, by its rows of tables_1 -/
def lw_okq (q : MethodName × Nat) : Prop := (q.1.cls ≠ "java/lang/invoke/MethodHandle" ∧ q.1.cls ≠ "java/lang/invoke/VarHandle") ∧ Cond.instantiable q.1.cls q.2 ∈ tables_1 ∧ Cond.privateMethod q.1 ∈ tables_1 ∧ Cond.instanceMethod q.1 ∈ tables_1
theorem lw_p0 : lw_okq (⟨"RunWatcher$Reader", "readRule", "()I"⟩, 9) := ⟨⟨by decide +kernel, by decide +kernel⟩, List.mem_of_getElem? (i := 23) (by decide +kernel), List.mem_of_getElem? (i := 309) (by decide +kernel), List.mem_of_getElem? (i := 310) (by decide +kernel)⟩
theorem lw_p1 : lw_okq (⟨"RunWatcher$Reader", "readEither", "()I"⟩, 9) := ⟨⟨by decide +kernel, by decide +kernel⟩, List.mem_of_getElem? (i := 23) (by decide +kernel), List.mem_of_getElem? (i := 313) (by decide +kernel), List.mem_of_getElem? (i := 314) (by decide +kernel)⟩
theorem lw_p2 : lw_okq (⟨"RunWatcher$Reader", "readBoth", "()I"⟩, 9) := ⟨⟨by decide +kernel, by decide +kernel⟩, List.mem_of_getElem? (i := 23) (by decide +kernel), List.mem_of_getElem? (i := 317) (by decide +kernel), List.mem_of_getElem? (i := 318) (by decide +kernel)⟩
theorem lw_p3 : lw_okq (⟨"RunWatcher$Reader", "readPair", "()I"⟩, 9) := ⟨⟨by decide +kernel, by decide +kernel⟩, List.mem_of_getElem? (i := 23) (by decide +kernel), List.mem_of_getElem? (i := 321) (by decide +kernel), List.mem_of_getElem? (i := 322) (by decide +kernel)⟩
theorem lw_p4 : lw_okq (⟨"RunWatcher$Reader", "readOne", "()I"⟩, 9) := ⟨⟨by decide +kernel, by decide +kernel⟩, List.mem_of_getElem? (i := 23) (by decide +kernel), List.mem_of_getElem? (i := 325) (by decide +kernel), List.mem_of_getElem? (i := 326) (by decide +kernel)⟩
theorem lw_p5 : lw_okq (⟨"RunWatcher$Reader", "here", "()I"⟩, 9) := ⟨⟨by decide +kernel, by decide +kernel⟩, List.mem_of_getElem? (i := 23) (by decide +kernel), List.mem_of_getElem? (i := 329) (by decide +kernel), List.mem_of_getElem? (i := 330) (by decide +kernel)⟩
theorem lw_p6 : lw_okq (⟨"RunWatcher$Reader", "readBracket", "()I"⟩, 9) := ⟨⟨by decide +kernel, by decide +kernel⟩, List.mem_of_getElem? (i := 23) (by decide +kernel), List.mem_of_getElem? (i := 336) (by decide +kernel), List.mem_of_getElem? (i := 337) (by decide +kernel)⟩
theorem lw_p7 : lw_okq (⟨"RunWatcher$Reader", "failHere", "()V"⟩, 9) := ⟨⟨by decide +kernel, by decide +kernel⟩, List.mem_of_getElem? (i := 23) (by decide +kernel), List.mem_of_getElem? (i := 340) (by decide +kernel), List.mem_of_getElem? (i := 341) (by decide +kernel)⟩
theorem lw_p8 : lw_okq (⟨"RunWatcher$Reader", "failed", "()Z"⟩, 9) := ⟨⟨by decide +kernel, by decide +kernel⟩, List.mem_of_getElem? (i := 23) (by decide +kernel), List.mem_of_getElem? (i := 344) (by decide +kernel), List.mem_of_getElem? (i := 345) (by decide +kernel)⟩
theorem lw_p9 : lw_okq (⟨"RunWatcher$Reader", "beginsNode", "()Z"⟩, 9) := ⟨⟨by decide +kernel, by decide +kernel⟩, List.mem_of_getElem? (i := 23) (by decide +kernel), List.mem_of_getElem? (i := 357) (by decide +kernel), List.mem_of_getElem? (i := 358) (by decide +kernel)⟩
theorem lw_p10 : lw_okq (⟨"RunWatcher$Reader", "made", "(IIII)I"⟩, 9) := ⟨⟨by decide +kernel, by decide +kernel⟩, List.mem_of_getElem? (i := 23) (by decide +kernel), List.mem_of_getElem? (i := 361) (by decide +kernel), List.mem_of_getElem? (i := 362) (by decide +kernel)⟩
theorem lw_p11 : lw_okq (⟨"RunWatcher$Reader", "takes", "(I)Z"⟩, 9) := ⟨⟨by decide +kernel, by decide +kernel⟩, List.mem_of_getElem? (i := 23) (by decide +kernel), List.mem_of_getElem? (i := 370) (by decide +kernel), List.mem_of_getElem? (i := 371) (by decide +kernel)⟩
theorem lw_p12 : lw_okq (⟨"RunWatcher$Carry", "all", "()I"⟩, 6) := ⟨⟨by decide +kernel, by decide +kernel⟩, List.mem_of_getElem? (i := 93) (by decide +kernel), List.mem_of_getElem? (i := 419) (by decide +kernel), List.mem_of_getElem? (i := 420) (by decide +kernel)⟩
theorem lw_p13 : lw_okq (⟨"RunWatcher$Rule", "holds", "(IIII)Z"⟩, 9) := ⟨⟨by decide +kernel, by decide +kernel⟩, List.mem_of_getElem? (i := 29) (by decide +kernel), List.mem_of_getElem? (i := 430) (by decide +kernel), List.mem_of_getElem? (i := 431) (by decide +kernel)⟩
theorem lw_p14 : lw_okq (⟨"RunWatcher$Carry", "findPossible", "()V"⟩, 6) := ⟨⟨by decide +kernel, by decide +kernel⟩, List.mem_of_getElem? (i := 93) (by decide +kernel), List.mem_of_getElem? (i := 447) (by decide +kernel), List.mem_of_getElem? (i := 448) (by decide +kernel)⟩
theorem lw_p15 : lw_okq (⟨"RunWatcher$Carry", "addPossible", "(I)Z"⟩, 6) := ⟨⟨by decide +kernel, by decide +kernel⟩, List.mem_of_getElem? (i := 93) (by decide +kernel), List.mem_of_getElem? (i := 459) (by decide +kernel), List.mem_of_getElem? (i := 460) (by decide +kernel)⟩
def lw_privs_1 : List (MethodName × Nat) := [(⟨"RunWatcher$Reader", "readRule", "()I"⟩, 9), (⟨"RunWatcher$Reader", "readEither", "()I"⟩, 9), (⟨"RunWatcher$Reader", "readBoth", "()I"⟩, 9), (⟨"RunWatcher$Reader", "readPair", "()I"⟩, 9), (⟨"RunWatcher$Reader", "readOne", "()I"⟩, 9), (⟨"RunWatcher$Reader", "here", "()I"⟩, 9), (⟨"RunWatcher$Reader", "readBracket", "()I"⟩, 9), (⟨"RunWatcher$Reader", "failHere", "()V"⟩, 9), (⟨"RunWatcher$Reader", "failed", "()Z"⟩, 9), (⟨"RunWatcher$Reader", "beginsNode", "()Z"⟩, 9), (⟨"RunWatcher$Reader", "made", "(IIII)I"⟩, 9), (⟨"RunWatcher$Reader", "takes", "(I)Z"⟩, 9), (⟨"RunWatcher$Carry", "all", "()I"⟩, 6), (⟨"RunWatcher$Rule", "holds", "(IIII)Z"⟩, 9), (⟨"RunWatcher$Carry", "findPossible", "()V"⟩, 6), (⟨"RunWatcher$Carry", "addPossible", "(I)Z"⟩, 6)]
theorem lw_r1 : ∀ q ∈ lw_privs_1, lw_okq q := List.forall_mem_cons.mpr ⟨lw_p0, List.forall_mem_cons.mpr ⟨lw_p1, List.forall_mem_cons.mpr ⟨lw_p2, List.forall_mem_cons.mpr ⟨lw_p3, List.forall_mem_cons.mpr ⟨lw_p4, List.forall_mem_cons.mpr ⟨lw_p5, List.forall_mem_cons.mpr ⟨lw_p6, List.forall_mem_cons.mpr ⟨lw_p7, List.forall_mem_cons.mpr ⟨lw_p8, List.forall_mem_cons.mpr ⟨lw_p9, List.forall_mem_cons.mpr ⟨lw_p10, List.forall_mem_cons.mpr ⟨lw_p11, List.forall_mem_cons.mpr ⟨lw_p12, List.forall_mem_cons.mpr ⟨lw_p13, List.forall_mem_cons.mpr ⟨lw_p14, List.forall_mem_cons.mpr ⟨lw_p15, fun _ h => absurd h List.not_mem_nil⟩⟩⟩⟩⟩⟩⟩⟩⟩⟩⟩⟩⟩⟩⟩⟩
theorem lw_p16 : lw_okq (⟨"RunWatcher$Pairs", "begin", "(LRunWatcher$Carry;)V"⟩, 11) := ⟨⟨by decide +kernel, by decide +kernel⟩, List.mem_of_getElem? (i := 118) (by decide +kernel), List.mem_of_getElem? (i := 485) (by decide +kernel), List.mem_of_getElem? (i := 486) (by decide +kernel)⟩
theorem lw_p17 : lw_okq (⟨"RunWatcher$Pairs", "follow", "(LRunWatcher$Carry;II)V"⟩, 11) := ⟨⟨by decide +kernel, by decide +kernel⟩, List.mem_of_getElem? (i := 118) (by decide +kernel), List.mem_of_getElem? (i := 502) (by decide +kernel), List.mem_of_getElem? (i := 503) (by decide +kernel)⟩
theorem lw_p18 : lw_okq (⟨"RunWatcher$Pairs", "isIn", "(II)Z"⟩, 11) := ⟨⟨by decide +kernel, by decide +kernel⟩, List.mem_of_getElem? (i := 118) (by decide +kernel), List.mem_of_getElem? (i := 518) (by decide +kernel), List.mem_of_getElem? (i := 519) (by decide +kernel)⟩
theorem lw_p19 : lw_okq (⟨"RunWatcher$Pairs", "findWork", "()I"⟩, 11) := ⟨⟨by decide +kernel, by decide +kernel⟩, List.mem_of_getElem? (i := 118) (by decide +kernel), List.mem_of_getElem? (i := 526) (by decide +kernel), List.mem_of_getElem? (i := 527) (by decide +kernel)⟩
theorem lw_p20 : lw_okq (⟨"RunWatcher$Pairs", "isWork", "(I)Z"⟩, 11) := ⟨⟨by decide +kernel, by decide +kernel⟩, List.mem_of_getElem? (i := 118) (by decide +kernel), List.mem_of_getElem? (i := 530) (by decide +kernel), List.mem_of_getElem? (i := 531) (by decide +kernel)⟩
theorem lw_p21 : lw_okq (⟨"RunWatcher$Pairs", "addWork", "(LRunWatcher$Carry;)I"⟩, 11) := ⟨⟨by decide +kernel, by decide +kernel⟩, List.mem_of_getElem? (i := 118) (by decide +kernel), List.mem_of_getElem? (i := 534) (by decide +kernel), List.mem_of_getElem? (i := 535) (by decide +kernel)⟩
theorem lw_p22 : lw_okq (⟨"RunWatcher$Lessener", "split", "(LRunWatcher$Pairs;)Z"⟩, 7) := ⟨⟨by decide +kernel, by decide +kernel⟩, List.mem_of_getElem? (i := 159) (by decide +kernel), List.mem_of_getElem? (i := 552) (by decide +kernel), List.mem_of_getElem? (i := 553) (by decide +kernel)⟩
theorem lw_p23 : lw_okq (⟨"RunWatcher$Lessener", "markOf", "(LRunWatcher$Pairs;I)I"⟩, 7) := ⟨⟨by decide +kernel, by decide +kernel⟩, List.mem_of_getElem? (i := 159) (by decide +kernel), List.mem_of_getElem? (i := 556) (by decide +kernel), List.mem_of_getElem? (i := 557) (by decide +kernel)⟩
theorem lw_p24 : lw_okq (⟨"RunWatcher$Lessener", "groupOfMark", "(II)I"⟩, 7) := ⟨⟨by decide +kernel, by decide +kernel⟩, List.mem_of_getElem? (i := 159) (by decide +kernel), List.mem_of_getElem? (i := 565) (by decide +kernel), List.mem_of_getElem? (i := 566) (by decide +kernel)⟩
theorem lw_p25 : lw_okq (⟨"RunWatcher$Lessener", "meet", "(LRunWatcher$Watcher;LRunWatcher$Pairs;I)I"⟩, 7) := ⟨⟨by decide +kernel, by decide +kernel⟩, List.mem_of_getElem? (i := 159) (by decide +kernel), List.mem_of_getElem? (i := 577) (by decide +kernel), List.mem_of_getElem? (i := 578) (by decide +kernel)⟩
theorem lw_p26 : lw_okq (⟨"RunWatcher$Watcher", "markSure", "()V"⟩, 5) := ⟨⟨by decide +kernel, by decide +kernel⟩, List.mem_of_getElem? (i := 187) (by decide +kernel), List.mem_of_getElem? (i := 598) (by decide +kernel), List.mem_of_getElem? (i := 599) (by decide +kernel)⟩
theorem lw_p27 : lw_okq (⟨"RunWatcher$Watcher", "measure", "(I)V"⟩, 5) := ⟨⟨by decide +kernel, by decide +kernel⟩, List.mem_of_getElem? (i := 187) (by decide +kernel), List.mem_of_getElem? (i := 611) (by decide +kernel), List.mem_of_getElem? (i := 612) (by decide +kernel)⟩
theorem lw_p28 : lw_okq (⟨"RunWatcher$Watcher", "stepTo", "(III)I"⟩, 5) := ⟨⟨by decide +kernel, by decide +kernel⟩, List.mem_of_getElem? (i := 187) (by decide +kernel), List.mem_of_getElem? (i := 619) (by decide +kernel), List.mem_of_getElem? (i := 620) (by decide +kernel)⟩
theorem lw_p29 : lw_okq (⟨"RunWatcher$Watcher", "countWays", "()V"⟩, 5) := ⟨⟨by decide +kernel, by decide +kernel⟩, List.mem_of_getElem? (i := 187) (by decide +kernel), List.mem_of_getElem? (i := 623) (by decide +kernel), List.mem_of_getElem? (i := 624) (by decide +kernel)⟩
theorem lw_p30 : lw_okq (⟨"RunWatcher", "refusalOfState", "(I)I"⟩, 11) := ⟨⟨by decide +kernel, by decide +kernel⟩, List.mem_of_getElem? (i := 15) (by decide +kernel), List.mem_of_getElem? (i := 676) (by decide +kernel), List.mem_of_getElem? (i := 677) (by decide +kernel)⟩
theorem lw_p31 : lw_okq (⟨"RunWatcher$Watcher", "firstKeptEvent", "(II)I"⟩, 5) := ⟨⟨by decide +kernel, by decide +kernel⟩, List.mem_of_getElem? (i := 187) (by decide +kernel), List.mem_of_getElem? (i := 714) (by decide +kernel), List.mem_of_getElem? (i := 715) (by decide +kernel)⟩
def lw_privs_2 : List (MethodName × Nat) := [(⟨"RunWatcher$Pairs", "begin", "(LRunWatcher$Carry;)V"⟩, 11), (⟨"RunWatcher$Pairs", "follow", "(LRunWatcher$Carry;II)V"⟩, 11), (⟨"RunWatcher$Pairs", "isIn", "(II)Z"⟩, 11), (⟨"RunWatcher$Pairs", "findWork", "()I"⟩, 11), (⟨"RunWatcher$Pairs", "isWork", "(I)Z"⟩, 11), (⟨"RunWatcher$Pairs", "addWork", "(LRunWatcher$Carry;)I"⟩, 11), (⟨"RunWatcher$Lessener", "split", "(LRunWatcher$Pairs;)Z"⟩, 7), (⟨"RunWatcher$Lessener", "markOf", "(LRunWatcher$Pairs;I)I"⟩, 7), (⟨"RunWatcher$Lessener", "groupOfMark", "(II)I"⟩, 7), (⟨"RunWatcher$Lessener", "meet", "(LRunWatcher$Watcher;LRunWatcher$Pairs;I)I"⟩, 7), (⟨"RunWatcher$Watcher", "markSure", "()V"⟩, 5), (⟨"RunWatcher$Watcher", "measure", "(I)V"⟩, 5), (⟨"RunWatcher$Watcher", "stepTo", "(III)I"⟩, 5), (⟨"RunWatcher$Watcher", "countWays", "()V"⟩, 5), (⟨"RunWatcher", "refusalOfState", "(I)I"⟩, 11), (⟨"RunWatcher$Watcher", "firstKeptEvent", "(II)I"⟩, 5)]
theorem lw_r2 : ∀ q ∈ lw_privs_2, lw_okq q := List.forall_mem_cons.mpr ⟨lw_p16, List.forall_mem_cons.mpr ⟨lw_p17, List.forall_mem_cons.mpr ⟨lw_p18, List.forall_mem_cons.mpr ⟨lw_p19, List.forall_mem_cons.mpr ⟨lw_p20, List.forall_mem_cons.mpr ⟨lw_p21, List.forall_mem_cons.mpr ⟨lw_p22, List.forall_mem_cons.mpr ⟨lw_p23, List.forall_mem_cons.mpr ⟨lw_p24, List.forall_mem_cons.mpr ⟨lw_p25, List.forall_mem_cons.mpr ⟨lw_p26, List.forall_mem_cons.mpr ⟨lw_p27, List.forall_mem_cons.mpr ⟨lw_p28, List.forall_mem_cons.mpr ⟨lw_p29, List.forall_mem_cons.mpr ⟨lw_p30, List.forall_mem_cons.mpr ⟨lw_p31, fun _ h => absurd h List.not_mem_nil⟩⟩⟩⟩⟩⟩⟩⟩⟩⟩⟩⟩⟩⟩⟩⟩
theorem lw_p32 : lw_okq (⟨"RunWatcher", "refusalOfKey", "(I)I"⟩, 11) := ⟨⟨by decide +kernel, by decide +kernel⟩, List.mem_of_getElem? (i := 15) (by decide +kernel), List.mem_of_getElem? (i := 751) (by decide +kernel), List.mem_of_getElem? (i := 752) (by decide +kernel)⟩
theorem lw_p33 : lw_okq (⟨"RunWatcher$Meeting", "walk", "(LRunWatcher$Watcher;LRunWatcher$Watcher;II)V"⟩, 7) := ⟨⟨by decide +kernel, by decide +kernel⟩, List.mem_of_getElem? (i := 209) (by decide +kernel), List.mem_of_getElem? (i := 820) (by decide +kernel), List.mem_of_getElem? (i := 821) (by decide +kernel)⟩
theorem lw_p34 : lw_okq (⟨"RunWatcher$Meeting", "look", "(ZZI)V"⟩, 7) := ⟨⟨by decide +kernel, by decide +kernel⟩, List.mem_of_getElem? (i := 209) (by decide +kernel), List.mem_of_getElem? (i := 827) (by decide +kernel), List.mem_of_getElem? (i := 828) (by decide +kernel)⟩
theorem lw_p35 : lw_okq (⟨"RunWatcherModel", "parse", "()Z"⟩, 59) := ⟨⟨by decide +kernel, by decide +kernel⟩, List.mem_of_getElem? (i := 859) (by decide +kernel), List.mem_of_getElem? (i := 1062) (by decide +kernel), List.mem_of_getElem? (i := 1063) (by decide +kernel)⟩
theorem lw_p36 : lw_okq (⟨"RunWatcherModel", "fail", "(I)Z"⟩, 59) := ⟨⟨by decide +kernel, by decide +kernel⟩, List.mem_of_getElem? (i := 859) (by decide +kernel), List.mem_of_getElem? (i := 1072) (by decide +kernel), List.mem_of_getElem? (i := 1073) (by decide +kernel)⟩
theorem lw_p37 : lw_okq (⟨"RunWatcherModel", "node", "(IIII)V"⟩, 59) := ⟨⟨by decide +kernel, by decide +kernel⟩, List.mem_of_getElem? (i := 859) (by decide +kernel), List.mem_of_getElem? (i := 1076) (by decide +kernel), List.mem_of_getElem? (i := 1077) (by decide +kernel)⟩
theorem lw_p38 : lw_okq (⟨"RunWatcherModel", "reduceTo", "(I)V"⟩, 59) := ⟨⟨by decide +kernel, by decide +kernel⟩, List.mem_of_getElem? (i := 859) (by decide +kernel), List.mem_of_getElem? (i := 1080) (by decide +kernel), List.mem_of_getElem? (i := 1081) (by decide +kernel)⟩
theorem lw_p39 : lw_okq (⟨"RunWatcherModel", "reduce", "()V"⟩, 59) := ⟨⟨by decide +kernel, by decide +kernel⟩, List.mem_of_getElem? (i := 859) (by decide +kernel), List.mem_of_getElem? (i := 1084) (by decide +kernel), List.mem_of_getElem? (i := 1085) (by decide +kernel)⟩
theorem lw_p40 : lw_okq (⟨"RunWatcherModel", "push", "(II)V"⟩, 59) := ⟨⟨by decide +kernel, by decide +kernel⟩, List.mem_of_getElem? (i := 859) (by decide +kernel), List.mem_of_getElem? (i := 1088) (by decide +kernel), List.mem_of_getElem? (i := 1089) (by decide +kernel)⟩
theorem lw_p41 : lw_okq (⟨"RunWatcherModel", "isPure", "()Z"⟩, 59) := ⟨⟨by decide +kernel, by decide +kernel⟩, List.mem_of_getElem? (i := 859) (by decide +kernel), List.mem_of_getElem? (i := 1092) (by decide +kernel), List.mem_of_getElem? (i := 1093) (by decide +kernel)⟩
theorem lw_p42 : lw_okq (⟨"RunWatcherModel", "prepare", "()V"⟩, 59) := ⟨⟨by decide +kernel, by decide +kernel⟩, List.mem_of_getElem? (i := 859) (by decide +kernel), List.mem_of_getElem? (i := 1096) (by decide +kernel), List.mem_of_getElem? (i := 1097) (by decide +kernel)⟩
theorem lw_p43 : lw_okq (⟨"RunWatcherModel", "layBits", "()V"⟩, 59) := ⟨⟨by decide +kernel, by decide +kernel⟩, List.mem_of_getElem? (i := 859) (by decide +kernel), List.mem_of_getElem? (i := 1100) (by decide +kernel), List.mem_of_getElem? (i := 1101) (by decide +kernel)⟩
theorem lw_p44 : lw_okq (⟨"RunWatcherModel", "wide", "()I"⟩, 59) := ⟨⟨by decide +kernel, by decide +kernel⟩, List.mem_of_getElem? (i := 859) (by decide +kernel), List.mem_of_getElem? (i := 1104) (by decide +kernel), List.mem_of_getElem? (i := 1105) (by decide +kernel)⟩
theorem lw_p45 : lw_okq (⟨"RunWatcherModel", "look", "(III)V"⟩, 59) := ⟨⟨by decide +kernel, by decide +kernel⟩, List.mem_of_getElem? (i := 859) (by decide +kernel), List.mem_of_getElem? (i := 1108) (by decide +kernel), List.mem_of_getElem? (i := 1109) (by decide +kernel)⟩
theorem lw_p46 : lw_okq (⟨"RunWatcherModel", "spot", "(III)I"⟩, 59) := ⟨⟨by decide +kernel, by decide +kernel⟩, List.mem_of_getElem? (i := 859) (by decide +kernel), List.mem_of_getElem? (i := 1112) (by decide +kernel), List.mem_of_getElem? (i := 1113) (by decide +kernel)⟩
theorem lw_p47 : lw_okq (⟨"RunWatcherModel", "meet", "()Z"⟩, 59) := ⟨⟨by decide +kernel, by decide +kernel⟩, List.mem_of_getElem? (i := 859) (by decide +kernel), List.mem_of_getElem? (i := 1116) (by decide +kernel), List.mem_of_getElem? (i := 1117) (by decide +kernel)⟩
def lw_privs_3 : List (MethodName × Nat) := [(⟨"RunWatcher", "refusalOfKey", "(I)I"⟩, 11), (⟨"RunWatcher$Meeting", "walk", "(LRunWatcher$Watcher;LRunWatcher$Watcher;II)V"⟩, 7), (⟨"RunWatcher$Meeting", "look", "(ZZI)V"⟩, 7), (⟨"RunWatcherModel", "parse", "()Z"⟩, 59), (⟨"RunWatcherModel", "fail", "(I)Z"⟩, 59), (⟨"RunWatcherModel", "node", "(IIII)V"⟩, 59), (⟨"RunWatcherModel", "reduceTo", "(I)V"⟩, 59), (⟨"RunWatcherModel", "reduce", "()V"⟩, 59), (⟨"RunWatcherModel", "push", "(II)V"⟩, 59), (⟨"RunWatcherModel", "isPure", "()Z"⟩, 59), (⟨"RunWatcherModel", "prepare", "()V"⟩, 59), (⟨"RunWatcherModel", "layBits", "()V"⟩, 59), (⟨"RunWatcherModel", "wide", "()I"⟩, 59), (⟨"RunWatcherModel", "look", "(III)V"⟩, 59), (⟨"RunWatcherModel", "spot", "(III)I"⟩, 59), (⟨"RunWatcherModel", "meet", "()Z"⟩, 59)]
theorem lw_r3 : ∀ q ∈ lw_privs_3, lw_okq q := List.forall_mem_cons.mpr ⟨lw_p32, List.forall_mem_cons.mpr ⟨lw_p33, List.forall_mem_cons.mpr ⟨lw_p34, List.forall_mem_cons.mpr ⟨lw_p35, List.forall_mem_cons.mpr ⟨lw_p36, List.forall_mem_cons.mpr ⟨lw_p37, List.forall_mem_cons.mpr ⟨lw_p38, List.forall_mem_cons.mpr ⟨lw_p39, List.forall_mem_cons.mpr ⟨lw_p40, List.forall_mem_cons.mpr ⟨lw_p41, List.forall_mem_cons.mpr ⟨lw_p42, List.forall_mem_cons.mpr ⟨lw_p43, List.forall_mem_cons.mpr ⟨lw_p44, List.forall_mem_cons.mpr ⟨lw_p45, List.forall_mem_cons.mpr ⟨lw_p46, List.forall_mem_cons.mpr ⟨lw_p47, fun _ h => absurd h List.not_mem_nil⟩⟩⟩⟩⟩⟩⟩⟩⟩⟩⟩⟩⟩⟩⟩⟩
theorem lw_p48 : lw_okq (⟨"RunWatcherModel", "state", "(I)I"⟩, 59) := ⟨⟨by decide +kernel, by decide +kernel⟩, List.mem_of_getElem? (i := 859) (by decide +kernel), List.mem_of_getElem? (i := 1120) (by decide +kernel), List.mem_of_getElem? (i := 1121) (by decide +kernel)⟩
theorem lw_p49 : lw_okq (⟨"RunWatcherModel", "least", "()Z"⟩, 59) := ⟨⟨by decide +kernel, by decide +kernel⟩, List.mem_of_getElem? (i := 859) (by decide +kernel), List.mem_of_getElem? (i := 1124) (by decide +kernel), List.mem_of_getElem? (i := 1125) (by decide +kernel)⟩
theorem lw_p50 : lw_okq (⟨"RunWatcherModel", "isKept", "(I)Z"⟩, 59) := ⟨⟨by decide +kernel, by decide +kernel⟩, List.mem_of_getElem? (i := 859) (by decide +kernel), List.mem_of_getElem? (i := 1128) (by decide +kernel), List.mem_of_getElem? (i := 1129) (by decide +kernel)⟩
theorem lw_p51 : lw_okq (⟨"RunWatcherModel", "part", "()Z"⟩, 59) := ⟨⟨by decide +kernel, by decide +kernel⟩, List.mem_of_getElem? (i := 859) (by decide +kernel), List.mem_of_getElem? (i := 1132) (by decide +kernel), List.mem_of_getElem? (i := 1133) (by decide +kernel)⟩
theorem lw_p52 : lw_okq (⟨"RunWatcherModel", "isLike", "(II)Z"⟩, 59) := ⟨⟨by decide +kernel, by decide +kernel⟩, List.mem_of_getElem? (i := 859) (by decide +kernel), List.mem_of_getElem? (i := 1136) (by decide +kernel), List.mem_of_getElem? (i := 1137) (by decide +kernel)⟩
theorem lw_p53 : lw_okq (⟨"RunWatcherModel", "number", "()V"⟩, 59) := ⟨⟨by decide +kernel, by decide +kernel⟩, List.mem_of_getElem? (i := 859) (by decide +kernel), List.mem_of_getElem? (i := 1140) (by decide +kernel), List.mem_of_getElem? (i := 1141) (by decide +kernel)⟩
theorem lw_p54 : lw_okq (⟨"RunWatcherModel", "spread", "(I)V"⟩, 59) := ⟨⟨by decide +kernel, by decide +kernel⟩, List.mem_of_getElem? (i := 859) (by decide +kernel), List.mem_of_getElem? (i := 1144) (by decide +kernel), List.mem_of_getElem? (i := 1145) (by decide +kernel)⟩
theorem lw_p55 : lw_okq (⟨"RunWatcherModel", "begin", "(I)V"⟩, 59) := ⟨⟨by decide +kernel, by decide +kernel⟩, List.mem_of_getElem? (i := 859) (by decide +kernel), List.mem_of_getElem? (i := 1148) (by decide +kernel), List.mem_of_getElem? (i := 1149) (by decide +kernel)⟩
theorem lw_p56 : lw_okq (⟨"RunWatcherModel", "isState", "(I)Z"⟩, 59) := ⟨⟨by decide +kernel, by decide +kernel⟩, List.mem_of_getElem? (i := 859) (by decide +kernel), List.mem_of_getElem? (i := 1156) (by decide +kernel), List.mem_of_getElem? (i := 1157) (by decide +kernel)⟩
theorem lw_p57 : lw_okq (⟨"RunWatcherModel", "farTo", "(II)I"⟩, 59) := ⟨⟨by decide +kernel, by decide +kernel⟩, List.mem_of_getElem? (i := 859) (by decide +kernel), List.mem_of_getElem? (i := 1172) (by decide +kernel), List.mem_of_getElem? (i := 1173) (by decide +kernel)⟩
theorem lw_p58 : lw_okq (⟨"RunWatcherModel", "countTo", "(I)V"⟩, 59) := ⟨⟨by decide +kernel, by decide +kernel⟩, List.mem_of_getElem? (i := 859) (by decide +kernel), List.mem_of_getElem? (i := 1189) (by decide +kernel), List.mem_of_getElem? (i := 1190) (by decide +kernel)⟩
theorem lw_p59 : lw_okq (⟨"RunWatcherModel", "isGone", "(I)Z"⟩, 59) := ⟨⟨by decide +kernel, by decide +kernel⟩, List.mem_of_getElem? (i := 859) (by decide +kernel), List.mem_of_getElem? (i := 1206) (by decide +kernel), List.mem_of_getElem? (i := 1207) (by decide +kernel)⟩
theorem lw_p60 : lw_okq (⟨"RunWatcherModel", "verdictOf", "(I)I"⟩, 59) := ⟨⟨by decide +kernel, by decide +kernel⟩, List.mem_of_getElem? (i := 859) (by decide +kernel), List.mem_of_getElem? (i := 1210) (by decide +kernel), List.mem_of_getElem? (i := 1211) (by decide +kernel)⟩
theorem lw_p61 : lw_okq (⟨"RunWatcherModel", "step", "(IIIZ)V"⟩, 59) := ⟨⟨by decide +kernel, by decide +kernel⟩, List.mem_of_getElem? (i := 859) (by decide +kernel), List.mem_of_getElem? (i := 1214) (by decide +kernel), List.mem_of_getElem? (i := 1215) (by decide +kernel)⟩
theorem lw_p62 : lw_okq (⟨"RunWatcherModel", "pairUp", "()V"⟩, 59) := ⟨⟨by decide +kernel, by decide +kernel⟩, List.mem_of_getElem? (i := 859) (by decide +kernel), List.mem_of_getElem? (i := 1251) (by decide +kernel), List.mem_of_getElem? (i := 1252) (by decide +kernel)⟩
theorem lw_p63 : lw_okq (⟨"RunWatcherModel", "meetPair", "(II)V"⟩, 59) := ⟨⟨by decide +kernel, by decide +kernel⟩, List.mem_of_getElem? (i := 859) (by decide +kernel), List.mem_of_getElem? (i := 1255) (by decide +kernel), List.mem_of_getElem? (i := 1256) (by decide +kernel)⟩
def lw_privs_4 : List (MethodName × Nat) := [(⟨"RunWatcherModel", "state", "(I)I"⟩, 59), (⟨"RunWatcherModel", "least", "()Z"⟩, 59), (⟨"RunWatcherModel", "isKept", "(I)Z"⟩, 59), (⟨"RunWatcherModel", "part", "()Z"⟩, 59), (⟨"RunWatcherModel", "isLike", "(II)Z"⟩, 59), (⟨"RunWatcherModel", "number", "()V"⟩, 59), (⟨"RunWatcherModel", "spread", "(I)V"⟩, 59), (⟨"RunWatcherModel", "begin", "(I)V"⟩, 59), (⟨"RunWatcherModel", "isState", "(I)Z"⟩, 59), (⟨"RunWatcherModel", "farTo", "(II)I"⟩, 59), (⟨"RunWatcherModel", "countTo", "(I)V"⟩, 59), (⟨"RunWatcherModel", "isGone", "(I)Z"⟩, 59), (⟨"RunWatcherModel", "verdictOf", "(I)I"⟩, 59), (⟨"RunWatcherModel", "step", "(IIIZ)V"⟩, 59), (⟨"RunWatcherModel", "pairUp", "()V"⟩, 59), (⟨"RunWatcherModel", "meetPair", "(II)V"⟩, 59)]
theorem lw_r4 : ∀ q ∈ lw_privs_4, lw_okq q := List.forall_mem_cons.mpr ⟨lw_p48, List.forall_mem_cons.mpr ⟨lw_p49, List.forall_mem_cons.mpr ⟨lw_p50, List.forall_mem_cons.mpr ⟨lw_p51, List.forall_mem_cons.mpr ⟨lw_p52, List.forall_mem_cons.mpr ⟨lw_p53, List.forall_mem_cons.mpr ⟨lw_p54, List.forall_mem_cons.mpr ⟨lw_p55, List.forall_mem_cons.mpr ⟨lw_p56, List.forall_mem_cons.mpr ⟨lw_p57, List.forall_mem_cons.mpr ⟨lw_p58, List.forall_mem_cons.mpr ⟨lw_p59, List.forall_mem_cons.mpr ⟨lw_p60, List.forall_mem_cons.mpr ⟨lw_p61, List.forall_mem_cons.mpr ⟨lw_p62, List.forall_mem_cons.mpr ⟨lw_p63, fun _ h => absurd h List.not_mem_nil⟩⟩⟩⟩⟩⟩⟩⟩⟩⟩⟩⟩⟩⟩⟩⟩
def lw_privs : List (MethodName × Nat) := lw_privs_1 ++ (lw_privs_2 ++ (lw_privs_3 ++ (lw_privs_4)))
def lw_tbl : List Cond := k2_sels lw_privs ++ tables_1
theorem lw_privs_ok : ∀ q ∈ lw_privs, lw_okq q := by
  show ∀ q ∈ lw_privs_1 ++ (lw_privs_2 ++ (lw_privs_3 ++ (lw_privs_4))), lw_okq q
  exact List.forall_mem_append.mpr ⟨lw_r1, List.forall_mem_append.mpr ⟨lw_r2, List.forall_mem_append.mpr ⟨lw_r3, lw_r4⟩⟩⟩
-- ===== end of PART A; then your names; then what follows =====
def RX0 : String := "RunWatcher$Carry"
def TX0 : u_T := fun k => match k with
  | 0 => ("RunWatcher$Carry", "turned", "[I", true)
  | 1 => ("RunWatcher$Carry", "kept", "[Z", true)
  | 2 => ("RunWatcher$Carry", "possible", "[Z", true)
  | 3 => ("RunWatcher$Carry", "futureBits", "I", false)
  | 4 => ("RunWatcher$Carry", "pastBits", "I", false)
  | _ => ("RunWatcher$Carry", "noPlace", "I", false)
def tyX0 : Nat → FieldType := fun k => match k with
  | 0 => .array .int
  | 1 => .array .boolean
  | 2 => .array .boolean
  | 3 => .int
  | 4 => .int
  | _ => .int
abbrev wsX00 : List Cond := u_ws RX0 TX0 6
theorem nmX0 : ∀ a, a < 6 → ∀ b, b < 6 → a ≠ b → (TX0 a).2.1 ≠ (TX0 b).2.1 := by decide +kernel
theorem tyX0_ok : ∀ k, k < 6 → parseFieldDescriptor (TX0 k).2.2.1 = some (tyX0 k) := by decide +kernel
abbrev cX0_init : ByteArray := prog_2_method_1_code
def yX0_init : MethodName := ⟨RX0, "<init>", "()V"⟩
abbrev cX0_make : ByteArray := prog_2_method_2_code
def yX0_make : MethodName := ⟨RX0, "make", "(LRunWatcher$Rule;)V"⟩
abbrev cX0_all : ByteArray := prog_2_method_3_code
def yX0_all : MethodName := ⟨RX0, "all", "()I"⟩
abbrev cX0_futures : ByteArray := prog_2_method_4_code
def yX0_futures : MethodName := ⟨RX0, "futures", "()I"⟩
abbrev cX0_pasts : ByteArray := prog_2_method_5_code
def yX0_pasts : MethodName := ⟨RX0, "pasts", "()I"⟩
abbrev cX0_futureOf : ByteArray := prog_2_method_6_code
def yX0_futureOf : MethodName := ⟨RX0, "futureOf", "(I)I"⟩
abbrev cX0_pastOf : ByteArray := prog_2_method_7_code
def yX0_pastOf : MethodName := ⟨RX0, "pastOf", "(I)I"⟩
abbrev cX0_both : ByteArray := prog_2_method_8_code
def yX0_both : MethodName := ⟨RX0, "both", "(II)I"⟩
abbrev cX0_noPlace : ByteArray := prog_2_method_9_code
def yX0_noPlace : MethodName := ⟨RX0, "noPlace", "()I"⟩
abbrev cX0_turn : ByteArray := prog_2_method_10_code
def yX0_turn : MethodName := ⟨RX0, "turn", "(II)I"⟩
abbrev cX0_keeps : ByteArray := prog_2_method_11_code
def yX0_keeps : MethodName := ⟨RX0, "keeps", "(II)Z"⟩
abbrev cX0_isPossible : ByteArray := prog_2_method_12_code
def yX0_isPossible : MethodName := ⟨RX0, "isPossible", "(I)Z"⟩
abbrev cX0_findPossible : ByteArray := prog_2_method_13_code
def yX0_findPossible : MethodName := ⟨RX0, "findPossible", "()V"⟩
abbrev cX0_addPossible : ByteArray := prog_2_method_14_code
def yX0_addPossible : MethodName := ⟨RX0, "addPossible", "(I)Z"⟩
def RX1 : String := "RunWatcher$Keys"
def TX1 : u_T := fun k => match k with
  | 0 => ("RunWatcher$Keys", "places", "[J", true)
  | _ => ("RunWatcher$Keys", "came", "[I", true)
def tyX1 : Nat → FieldType := fun k => match k with
  | 0 => .array .long
  | _ => .array .int
abbrev wsX10 : List Cond := u_ws RX1 TX1 2
theorem nmX1 : ∀ a, a < 2 → ∀ b, b < 2 → a ≠ b → (TX1 a).2.1 ≠ (TX1 b).2.1 := by decide +kernel
theorem tyX1_ok : ∀ k, k < 2 → parseFieldDescriptor (TX1 k).2.2.1 = some (tyX1 k) := by decide +kernel
abbrev cX1_init : ByteArray := prog_3_method_1_code
def yX1_init : MethodName := ⟨RX1, "<init>", "()V"⟩
abbrev cX1_restart : ByteArray := prog_3_method_2_code
def yX1_restart : MethodName := ⟨RX1, "restart", "()V"⟩
abbrev cX1_restart_ : ByteArray := prog_3_method_3_code
def yX1_restart_ : MethodName := ⟨RX1, "restart", "(I)V"⟩
abbrev cX1_step : ByteArray := prog_3_method_4_code
def yX1_step : MethodName := ⟨RX1, "step", "(LRunWatcher$Watcher;II)I"⟩
abbrev cX1_lose : ByteArray := prog_3_method_5_code
def yX1_lose : MethodName := ⟨RX1, "lose", "(LRunWatcher$Watcher;II)I"⟩
abbrev cX1_stepped : ByteArray := prog_3_method_6_code
def yX1_stepped : MethodName := ⟨RX1, "stepped", "(LRunWatcher$Watcher;JI)J"⟩
abbrev cX1_verdictOf : ByteArray := prog_3_method_7_code
def yX1_verdictOf : MethodName := ⟨RX1, "verdictOf", "(LRunWatcher$Watcher;I)I"⟩
abbrev cX1_isLetGo : ByteArray := prog_3_method_8_code
def yX1_isLetGo : MethodName := ⟨RX1, "isLetGo", "(LRunWatcher$Watcher;I)Z"⟩
abbrev cX1_letGo : ByteArray := prog_3_method_9_code
def yX1_letGo : MethodName := ⟨RX1, "letGo", "(LRunWatcher$Watcher;)I"⟩
abbrev cX1_statesOf : ByteArray := prog_3_method_10_code
def yX1_statesOf : MethodName := ⟨RX1, "statesOf", "(I)I"⟩
abbrev cX1_stateAt : ByteArray := prog_3_method_11_code
def yX1_stateAt : MethodName := ⟨RX1, "stateAt", "(II)I"⟩
abbrev cX1_eventsOf : ByteArray := prog_3_method_12_code
def yX1_eventsOf : MethodName := ⟨RX1, "eventsOf", "(I)I"⟩
def RX2 : String := "RunWatcher$Lessener"
def TX2 : u_T := fun k => match k with
  | 0 => ("RunWatcher$Lessener", "groups", "[I", false)
  | 1 => ("RunWatcher$Lessener", "finer", "[I", false)
  | 2 => ("RunWatcher$Lessener", "marks", "[I", true)
  | 3 => ("RunWatcher$Lessener", "members", "[I", true)
  | 4 => ("RunWatcher$Lessener", "stateOfGroup", "[I", true)
  | 5 => ("RunWatcher$Lessener", "groupOfState", "[I", true)
  | _ => ("RunWatcher$Lessener", "many", "I", false)
def tyX2 : Nat → FieldType := fun k => match k with
  | 0 => .array .int
  | 1 => .array .int
  | 2 => .array .int
  | 3 => .array .int
  | 4 => .array .int
  | 5 => .array .int
  | _ => .int
abbrev wsX20 : List Cond := u_ws RX2 TX2 7
theorem nmX2 : ∀ a, a < 7 → ∀ b, b < 7 → a ≠ b → (TX2 a).2.1 ≠ (TX2 b).2.1 := by decide +kernel
theorem tyX2_ok : ∀ k, k < 7 → parseFieldDescriptor (TX2 k).2.2.1 = some (tyX2 k) := by decide +kernel
abbrev cX2_init : ByteArray := prog_4_method_1_code
def yX2_init : MethodName := ⟨RX2, "<init>", "()V"⟩
abbrev cX2_lessen : ByteArray := prog_4_method_2_code
def yX2_lessen : MethodName := ⟨RX2, "lessen", "(LRunWatcher$Pairs;)Z"⟩
abbrev cX2_split : ByteArray := prog_4_method_3_code
def yX2_split : MethodName := ⟨RX2, "split", "(LRunWatcher$Pairs;)Z"⟩
abbrev cX2_markOf : ByteArray := prog_4_method_4_code
def yX2_markOf : MethodName := ⟨RX2, "markOf", "(LRunWatcher$Pairs;I)I"⟩
abbrev cX2_groupOfMark : ByteArray := prog_4_method_5_code
def yX2_groupOfMark : MethodName := ⟨RX2, "groupOfMark", "(II)I"⟩
abbrev cX2_putInto : ByteArray := prog_4_method_6_code
def yX2_putInto : MethodName := ⟨RX2, "putInto", "(LRunWatcher$Watcher;LRunWatcher$Pairs;)V"⟩
abbrev cX2_meet : ByteArray := prog_4_method_7_code
def yX2_meet : MethodName := ⟨RX2, "meet", "(LRunWatcher$Watcher;LRunWatcher$Pairs;I)I"⟩
def RX3 : String := "RunWatcher$Meeting"
def TX3 : u_T := fun k => match k with
  | 0 => ("RunWatcher$Meeting", "depths", "[I", true)
  | 1 => ("RunWatcher$Meeting", "queue", "[I", true)
  | 2 => ("RunWatcher$Meeting", "queued", "I", false)
  | 3 => ("RunWatcher$Meeting", "both", "Z", false)
  | 4 => ("RunWatcher$Meeting", "thisAlone", "Z", false)
  | 5 => ("RunWatcher$Meeting", "thatAlone", "Z", false)
  | _ => ("RunWatcher$Meeting", "shortest", "I", false)
def tyX3 : Nat → FieldType := fun k => match k with
  | 0 => .array .int
  | 1 => .array .int
  | 2 => .int
  | 3 => .boolean
  | 4 => .boolean
  | 5 => .boolean
  | _ => .int
abbrev wsX30 : List Cond := u_ws RX3 TX3 7
theorem nmX3 : ∀ a, a < 7 → ∀ b, b < 7 → a ≠ b → (TX3 a).2.1 ≠ (TX3 b).2.1 := by decide +kernel
theorem tyX3_ok : ∀ k, k < 7 → parseFieldDescriptor (TX3 k).2.2.1 = some (tyX3 k) := by decide +kernel
abbrev cX3_init : ByteArray := prog_5_method_1_code
def yX3_init : MethodName := ⟨RX3, "<init>", "()V"⟩
abbrev cX3_meet : ByteArray := prog_5_method_2_code
def yX3_meet : MethodName := ⟨RX3, "meet", "(LRunWatcher$Watcher;LRunWatcher$Watcher;)V"⟩
abbrev cX3_walk : ByteArray := prog_5_method_3_code
def yX3_walk : MethodName := ⟨RX3, "walk", "(LRunWatcher$Watcher;LRunWatcher$Watcher;II)V"⟩
abbrev cX3_look : ByteArray := prog_5_method_4_code
def yX3_look : MethodName := ⟨RX3, "look", "(ZZI)V"⟩
abbrev cX3_shortestApart : ByteArray := prog_5_method_5_code
def yX3_shortestApart : MethodName := ⟨RX3, "shortestApart", "()I"⟩
abbrev cX3_relation : ByteArray := prog_5_method_6_code
def yX3_relation : MethodName := ⟨RX3, "relation", "()I"⟩
def RX4 : String := "RunWatcher$Pairs"
def TX4 : u_T := fun k => match k with
  | 0 => ("RunWatcher$Pairs", "pasts", "[I", true)
  | 1 => ("RunWatcher$Pairs", "sets", "[J", true)
  | 2 => ("RunWatcher$Pairs", "leads", "[I", true)
  | 3 => ("RunWatcher$Pairs", "kept", "[Z", true)
  | 4 => ("RunWatcher$Pairs", "latestOfPast", "[I", true)
  | 5 => ("RunWatcher$Pairs", "earlierOfPast", "[I", true)
  | 6 => ("RunWatcher$Pairs", "work", "[J", true)
  | 7 => ("RunWatcher$Pairs", "workPast", "I", false)
  | 8 => ("RunWatcher$Pairs", "words", "I", false)
  | 9 => ("RunWatcher$Pairs", "most", "I", false)
  | _ => ("RunWatcher$Pairs", "size", "I", false)
def tyX4 : Nat → FieldType := fun k => match k with
  | 0 => .array .int
  | 1 => .array .long
  | 2 => .array .int
  | 3 => .array .boolean
  | 4 => .array .int
  | 5 => .array .int
  | 6 => .array .long
  | 7 => .int
  | 8 => .int
  | 9 => .int
  | _ => .int
abbrev wsX40 : List Cond := u_ws RX4 TX4 11
theorem nmX4 : ∀ a, a < 11 → ∀ b, b < 11 → a ≠ b → (TX4 a).2.1 ≠ (TX4 b).2.1 := by decide +kernel
theorem tyX4_ok : ∀ k, k < 11 → parseFieldDescriptor (TX4 k).2.2.1 = some (tyX4 k) := by decide +kernel
abbrev cX4_init : ByteArray := prog_6_method_1_code
def yX4_init : MethodName := ⟨RX4, "<init>", "()V"⟩
abbrev cX4_make : ByteArray := prog_6_method_2_code
def yX4_make : MethodName := ⟨RX4, "make", "(LRunWatcher$Carry;)Z"⟩
abbrev cX4_size : ByteArray := prog_6_method_3_code
def yX4_size : MethodName := ⟨RX4, "size", "()I"⟩
abbrev cX4_next : ByteArray := prog_6_method_4_code
def yX4_next : MethodName := ⟨RX4, "next", "(II)I"⟩
abbrev cX4_isKept : ByteArray := prog_6_method_5_code
def yX4_isKept : MethodName := ⟨RX4, "isKept", "(I)Z"⟩
abbrev cX4_begin : ByteArray := prog_6_method_6_code
def yX4_begin : MethodName := ⟨RX4, "begin", "(LRunWatcher$Carry;)V"⟩
abbrev cX4_follow : ByteArray := prog_6_method_7_code
def yX4_follow : MethodName := ⟨RX4, "follow", "(LRunWatcher$Carry;II)V"⟩
abbrev cX4_isIn : ByteArray := prog_6_method_8_code
def yX4_isIn : MethodName := ⟨RX4, "isIn", "(II)Z"⟩
abbrev cX4_findWork : ByteArray := prog_6_method_9_code
def yX4_findWork : MethodName := ⟨RX4, "findWork", "()I"⟩
abbrev cX4_isWork : ByteArray := prog_6_method_10_code
def yX4_isWork : MethodName := ⟨RX4, "isWork", "(I)Z"⟩
abbrev cX4_addWork : ByteArray := prog_6_method_11_code
def yX4_addWork : MethodName := ⟨RX4, "addWork", "(LRunWatcher$Carry;)I"⟩
def RX5 : String := "RunWatcher$Reader"
def TX5 : u_T := fun k => match k with
  | 0 => ("RunWatcher$Reader", "rule", "LRunWatcher$Rule;", true)
  | 1 => ("RunWatcher$Reader", "tape", "[I", false)
  | 2 => ("RunWatcher$Reader", "length", "I", false)
  | 3 => ("RunWatcher$Reader", "at", "I", false)
  | 4 => ("RunWatcher$Reader", "begun", "I", false)
  | 5 => ("RunWatcher$Reader", "open", "I", false)
  | 6 => ("RunWatcher$Reader", "latestSign", "I", false)
  | 7 => ("RunWatcher$Reader", "faultKind", "I", false)
  | _ => ("RunWatcher$Reader", "faultByte", "I", false)
def tyX5 : Nat → FieldType := fun k => match k with
  | 0 => .object "RunWatcher$Rule"
  | 1 => .array .int
  | 2 => .int
  | 3 => .int
  | 4 => .int
  | 5 => .int
  | 6 => .int
  | 7 => .int
  | _ => .int
abbrev wsX50 : List Cond := u_ws RX5 TX5 9
theorem nmX5 : ∀ a, a < 9 → ∀ b, b < 9 → a ≠ b → (TX5 a).2.1 ≠ (TX5 b).2.1 := by decide +kernel
theorem tyX5_ok : ∀ k, k < 9 → parseFieldDescriptor (TX5 k).2.2.1 = some (tyX5 k) := by decide +kernel
abbrev cX5_init : ByteArray := prog_7_method_1_code
def yX5_init : MethodName := ⟨RX5, "<init>", "()V"⟩
abbrev cX5_rule : ByteArray := prog_7_method_2_code
def yX5_rule : MethodName := ⟨RX5, "rule", "()LRunWatcher$Rule;"⟩
abbrev cX5_faultKind : ByteArray := prog_7_method_3_code
def yX5_faultKind : MethodName := ⟨RX5, "faultKind", "()I"⟩
abbrev cX5_faultByte : ByteArray := prog_7_method_4_code
def yX5_faultByte : MethodName := ⟨RX5, "faultByte", "()I"⟩
abbrev cX5_reads : ByteArray := prog_7_method_5_code
def yX5_reads : MethodName := ⟨RX5, "reads", "([II)Z"⟩
abbrev cX5_failed : ByteArray := prog_7_method_6_code
def yX5_failed : MethodName := ⟨RX5, "failed", "()Z"⟩
abbrev cX5_failHere : ByteArray := prog_7_method_7_code
def yX5_failHere : MethodName := ⟨RX5, "failHere", "()V"⟩
abbrev cX5_here : ByteArray := prog_7_method_8_code
def yX5_here : MethodName := ⟨RX5, "here", "()I"⟩
abbrev cX5_takes : ByteArray := prog_7_method_9_code
def yX5_takes : MethodName := ⟨RX5, "takes", "(I)Z"⟩
abbrev cX5_beginsNode : ByteArray := prog_7_method_10_code
def yX5_beginsNode : MethodName := ⟨RX5, "beginsNode", "()Z"⟩
abbrev cX5_made : ByteArray := prog_7_method_11_code
def yX5_made : MethodName := ⟨RX5, "made", "(IIII)I"⟩
abbrev cX5_readRule : ByteArray := prog_7_method_12_code
def yX5_readRule : MethodName := ⟨RX5, "readRule", "()I"⟩
abbrev cX5_readEither : ByteArray := prog_7_method_13_code
def yX5_readEither : MethodName := ⟨RX5, "readEither", "()I"⟩
abbrev cX5_readBoth : ByteArray := prog_7_method_14_code
def yX5_readBoth : MethodName := ⟨RX5, "readBoth", "()I"⟩
abbrev cX5_readPair : ByteArray := prog_7_method_15_code
def yX5_readPair : MethodName := ⟨RX5, "readPair", "()I"⟩
abbrev cX5_readOne : ByteArray := prog_7_method_16_code
def yX5_readOne : MethodName := ⟨RX5, "readOne", "()I"⟩
abbrev cX5_readBracket : ByteArray := prog_7_method_17_code
def yX5_readBracket : MethodName := ⟨RX5, "readBracket", "()I"⟩
abbrev cX5_standsAheadOfOne : ByteArray := prog_7_method_18_code
def yX5_standsAheadOfOne : MethodName := ⟨RX5, "standsAheadOfOne", "(I)Z"⟩
def RX6 : String := "RunWatcher$Rule"
def TX6 : u_T := fun k => match k with
  | 0 => ("RunWatcher$Rule", "signs", "[I", true)
  | 1 => ("RunWatcher$Rule", "firsts", "[I", true)
  | 2 => ("RunWatcher$Rule", "seconds", "[I", true)
  | 3 => ("RunWatcher$Rule", "places", "[I", true)
  | 4 => ("RunWatcher$Rule", "slots", "[I", true)
  | 5 => ("RunWatcher$Rule", "inPast", "[Z", true)
  | 6 => ("RunWatcher$Rule", "size", "I", false)
  | 7 => ("RunWatcher$Rule", "futureBits", "I", false)
  | _ => ("RunWatcher$Rule", "pastBits", "I", false)
def tyX6 : Nat → FieldType := fun k => match k with
  | 0 => .array .int
  | 1 => .array .int
  | 2 => .array .int
  | 3 => .array .int
  | 4 => .array .int
  | 5 => .array .boolean
  | 6 => .int
  | 7 => .int
  | _ => .int
abbrev wsX60 : List Cond := u_ws RX6 TX6 9
theorem nmX6 : ∀ a, a < 9 → ∀ b, b < 9 → a ≠ b → (TX6 a).2.1 ≠ (TX6 b).2.1 := by decide +kernel
theorem tyX6_ok : ∀ k, k < 9 → parseFieldDescriptor (TX6 k).2.2.1 = some (tyX6 k) := by decide +kernel
abbrev cX6_init : ByteArray := prog_8_method_1_code
def yX6_init : MethodName := ⟨RX6, "<init>", "()V"⟩
abbrev cX6_looksBehind : ByteArray := prog_8_method_2_code
def yX6_looksBehind : MethodName := ⟨RX6, "looksBehind", "(I)Z"⟩
abbrev cX6_looksAhead : ByteArray := prog_8_method_3_code
def yX6_looksAhead : MethodName := ⟨RX6, "looksAhead", "(I)Z"⟩
abbrev cX6_clear : ByteArray := prog_8_method_4_code
def yX6_clear : MethodName := ⟨RX6, "clear", "()V"⟩
abbrev cX6_add : ByteArray := prog_8_method_5_code
def yX6_add : MethodName := ⟨RX6, "add", "(IIII)I"⟩
abbrev cX6_firstPastFault : ByteArray := prog_8_method_6_code
def yX6_firstPastFault : MethodName := ⟨RX6, "firstPastFault", "()I"⟩
abbrev cX6_giveBits : ByteArray := prog_8_method_7_code
def yX6_giveBits : MethodName := ⟨RX6, "giveBits", "()V"⟩
abbrev cX6_futureBits : ByteArray := prog_8_method_8_code
def yX6_futureBits : MethodName := ⟨RX6, "futureBits", "()I"⟩
abbrev cX6_pastBits : ByteArray := prog_8_method_9_code
def yX6_pastBits : MethodName := ⟨RX6, "pastBits", "()I"⟩
abbrev cX6_bitsOfNoPlace : ByteArray := prog_8_method_10_code
def yX6_bitsOfNoPlace : MethodName := ⟨RX6, "bitsOfNoPlace", "()I"⟩
abbrev cX6_valuesAt : ByteArray := prog_8_method_11_code
def yX6_valuesAt : MethodName := ⟨RX6, "valuesAt", "(II)I"⟩
abbrev cX6_holds : ByteArray := prog_8_method_12_code
def yX6_holds : MethodName := ⟨RX6, "holds", "(IIII)Z"⟩
abbrev cX6_bitsBeside : ByteArray := prog_8_method_13_code
def yX6_bitsBeside : MethodName := ⟨RX6, "bitsBeside", "(I)I"⟩
abbrev cX6_wholeHolds : ByteArray := prog_8_method_14_code
def yX6_wholeHolds : MethodName := ⟨RX6, "wholeHolds", "(I)Z"⟩
def RX7 : String := "RunWatcher$Watcher"
def TX7 : u_T := fun k => match k with
  | 0 => ("RunWatcher$Watcher", "leads", "[I", true)
  | 1 => ("RunWatcher$Watcher", "verdicts", "[I", true)
  | 2 => ("RunWatcher$Watcher", "distances", "[I", true)
  | 3 => ("RunWatcher$Watcher", "ways", "[J", true)
  | _ => ("RunWatcher$Watcher", "size", "I", false)
def tyX7 : Nat → FieldType := fun k => match k with
  | 0 => .array .int
  | 1 => .array .int
  | 2 => .array .int
  | 3 => .array .long
  | _ => .int
abbrev wsX70 : List Cond := u_ws RX7 TX7 5
theorem nmX7 : ∀ a, a < 5 → ∀ b, b < 5 → a ≠ b → (TX7 a).2.1 ≠ (TX7 b).2.1 := by decide +kernel
theorem tyX7_ok : ∀ k, k < 5 → parseFieldDescriptor (TX7 k).2.2.1 = some (tyX7 k) := by decide +kernel
abbrev cX7_init : ByteArray := prog_9_method_1_code
def yX7_init : MethodName := ⟨RX7, "<init>", "()V"⟩
abbrev cX7_clear : ByteArray := prog_9_method_2_code
def yX7_clear : MethodName := ⟨RX7, "clear", "()V"⟩
abbrev cX7_add : ByteArray := prog_9_method_3_code
def yX7_add : MethodName := ⟨RX7, "add", "(Z)I"⟩
abbrev cX7_lead : ByteArray := prog_9_method_4_code
def yX7_lead : MethodName := ⟨RX7, "lead", "(III)V"⟩
abbrev cX7_finish : ByteArray := prog_9_method_5_code
def yX7_finish : MethodName := ⟨RX7, "finish", "()V"⟩
abbrev cX7_copyFrom : ByteArray := prog_9_method_6_code
def yX7_copyFrom : MethodName := ⟨RX7, "copyFrom", "(LRunWatcher$Watcher;)V"⟩
abbrev cX7_isThere : ByteArray := prog_9_method_7_code
def yX7_isThere : MethodName := ⟨RX7, "isThere", "()Z"⟩
abbrev cX7_size : ByteArray := prog_9_method_8_code
def yX7_size : MethodName := ⟨RX7, "size", "()I"⟩
abbrev cX7_has : ByteArray := prog_9_method_9_code
def yX7_has : MethodName := ⟨RX7, "has", "(I)Z"⟩
abbrev cX7_next : ByteArray := prog_9_method_10_code
def yX7_next : MethodName := ⟨RX7, "next", "(II)I"⟩
abbrev cX7_verdictOf : ByteArray := prog_9_method_11_code
def yX7_verdictOf : MethodName := ⟨RX7, "verdictOf", "(I)I"⟩
abbrev cX7_keeps : ByteArray := prog_9_method_12_code
def yX7_keeps : MethodName := ⟨RX7, "keeps", "(I)Z"⟩
abbrev cX7_isSure : ByteArray := prog_9_method_13_code
def yX7_isSure : MethodName := ⟨RX7, "isSure", "(I)Z"⟩
abbrev cX7_sureStates : ByteArray := prog_9_method_14_code
def yX7_sureStates : MethodName := ⟨RX7, "sureStates", "()I"⟩
abbrev cX7_markSure : ByteArray := prog_9_method_15_code
def yX7_markSure : MethodName := ⟨RX7, "markSure", "()V"⟩
abbrev cX7_measure : ByteArray := prog_9_method_16_code
def yX7_measure : MethodName := ⟨RX7, "measure", "(I)V"⟩
abbrev cX7_distance : ByteArray := prog_9_method_17_code
def yX7_distance : MethodName := ⟨RX7, "distance", "(II)I"⟩
abbrev cX7_stepTo : ByteArray := prog_9_method_18_code
def yX7_stepTo : MethodName := ⟨RX7, "stepTo", "(III)I"⟩
abbrev cX7_firstStep : ByteArray := prog_9_method_19_code
def yX7_firstStep : MethodName := ⟨RX7, "firstStep", "(II)I"⟩
abbrev cX7_countWays : ByteArray := prog_9_method_20_code
def yX7_countWays : MethodName := ⟨RX7, "countWays", "()V"⟩
abbrev cX7_waysOf : ByteArray := prog_9_method_21_code
def yX7_waysOf : MethodName := ⟨RX7, "waysOf", "(II)J"⟩
abbrev cX7_eventOfFirstRow : ByteArray := prog_9_method_22_code
def yX7_eventOfFirstRow : MethodName := ⟨RX7, "eventOfFirstRow", "(III)I"⟩
abbrev cX7_firstKeptEvent : ByteArray := prog_9_method_23_code
def yX7_firstKeptEvent : MethodName := ⟨RX7, "firstKeptEvent", "(II)I"⟩
def RX8 : String := "RunWatcher"
def TX8 : u_T := fun k => match k with
  | 0 => ("RunWatcher", "tape", "[I", true)
  | 1 => ("RunWatcher", "bytes", "I", false)
  | 2 => ("RunWatcher", "faultKind", "I", false)
  | 3 => ("RunWatcher", "reader", "LRunWatcher$Reader;", true)
  | 4 => ("RunWatcher", "carry", "LRunWatcher$Carry;", true)
  | 5 => ("RunWatcher", "pairs", "LRunWatcher$Pairs;", true)
  | 6 => ("RunWatcher", "lessener", "LRunWatcher$Lessener;", true)
  | 7 => ("RunWatcher", "watcher", "LRunWatcher$Watcher;", true)
  | 8 => ("RunWatcher", "keptWatcher", "LRunWatcher$Watcher;", true)
  | 9 => ("RunWatcher", "meeting", "LRunWatcher$Meeting;", true)
  | _ => ("RunWatcher", "keys", "LRunWatcher$Keys;", true)
def tyX8 : Nat → FieldType := fun k => match k with
  | 0 => .array .int
  | 1 => .int
  | 2 => .int
  | 3 => .object "RunWatcher$Reader"
  | 4 => .object "RunWatcher$Carry"
  | 5 => .object "RunWatcher$Pairs"
  | 6 => .object "RunWatcher$Lessener"
  | 7 => .object "RunWatcher$Watcher"
  | 8 => .object "RunWatcher$Watcher"
  | 9 => .object "RunWatcher$Meeting"
  | _ => .object "RunWatcher$Keys"
abbrev wsX80 : List Cond := u_ws RX8 TX8 11
theorem nmX8 : ∀ a, a < 11 → ∀ b, b < 11 → a ≠ b → (TX8 a).2.1 ≠ (TX8 b).2.1 := by decide +kernel
theorem tyX8_ok : ∀ k, k < 11 → parseFieldDescriptor (TX8 k).2.2.1 = some (tyX8 k) := by decide +kernel
abbrev cX8_init : ByteArray := prog_1_method_1_code
def yX8_init : MethodName := ⟨RX8, "<init>", "()V"⟩
abbrev cX8_feed : ByteArray := prog_1_method_2_code
def yX8_feed : MethodName := ⟨RX8, "feed", "(J)I"⟩
abbrev cX8_read : ByteArray := prog_1_method_3_code
def yX8_read : MethodName := ⟨RX8, "read", "()I"⟩
abbrev cX8_fault : ByteArray := prog_1_method_4_code
def yX8_fault : MethodName := ⟨RX8, "fault", "()I"⟩
abbrev cX8_cut : ByteArray := prog_1_method_5_code
def yX8_cut : MethodName := ⟨RX8, "cut", "()I"⟩
abbrev cX8_leads : ByteArray := prog_1_method_6_code
def yX8_leads : MethodName := ⟨RX8, "leads", "(II)I"⟩
abbrev cX8_verdict : ByteArray := prog_1_method_7_code
def yX8_verdict : MethodName := ⟨RX8, "verdict", "(I)I"⟩
abbrev cX8_far : ByteArray := prog_1_method_8_code
def yX8_far : MethodName := ⟨RX8, "far", "(II)I"⟩
abbrev cX8_toward : ByteArray := prog_1_method_9_code
def yX8_toward : MethodName := ⟨RX8, "toward", "(II)I"⟩
abbrev cX8_runs : ByteArray := prog_1_method_10_code
def yX8_runs : MethodName := ⟨RX8, "runs", "(II)J"⟩
abbrev cX8_run : ByteArray := prog_1_method_11_code
def yX8_run : MethodName := ⟨RX8, "run", "(III)I"⟩
abbrev cX8_event : ByteArray := prog_1_method_12_code
def yX8_event : MethodName := ⟨RX8, "event", "(II)I"⟩
abbrev cX8_lost : ByteArray := prog_1_method_13_code
def yX8_lost : MethodName := ⟨RX8, "lost", "(II)I"⟩
abbrev cX8_told : ByteArray := prog_1_method_14_code
def yX8_told : MethodName := ⟨RX8, "told", "(I)I"⟩
abbrev cX8_may : ByteArray := prog_1_method_15_code
def yX8_may : MethodName := ⟨RX8, "may", "(I)I"⟩
abbrev cX8_state : ByteArray := prog_1_method_16_code
def yX8_state : MethodName := ⟨RX8, "state", "(II)I"⟩
abbrev cX8_events : ByteArray := prog_1_method_17_code
def yX8_events : MethodName := ⟨RX8, "events", "(I)I"⟩
abbrev cX8_anew : ByteArray := prog_1_method_18_code
def yX8_anew : MethodName := ⟨RX8, "anew", "(I)I"⟩
abbrev cX8_keep : ByteArray := prog_1_method_19_code
def yX8_keep : MethodName := ⟨RX8, "keep", "()I"⟩
abbrev cX8_against : ByteArray := prog_1_method_20_code
def yX8_against : MethodName := ⟨RX8, "against", "()I"⟩
abbrev cX8_apart : ByteArray := prog_1_method_21_code
def yX8_apart : MethodName := ⟨RX8, "apart", "()I"⟩
abbrev cX8_count : ByteArray := prog_1_method_22_code
def yX8_count : MethodName := ⟨RX8, "count", "(I)I"⟩
abbrev cX8_refusalOfState : ByteArray := prog_1_method_23_code
def yX8_refusalOfState : MethodName := ⟨RX8, "refusalOfState", "(I)I"⟩
abbrev cX8_refusalOfKey : ByteArray := prog_1_method_24_code
def yX8_refusalOfKey : MethodName := ⟨RX8, "refusalOfKey", "(I)I"⟩
abbrev cX8_isEvent : ByteArray := prog_1_method_25_code
def yX8_isEvent : MethodName := ⟨RX8, "isEvent", "(I)Z"⟩
abbrev cX8_isVerdict : ByteArray := prog_1_method_26_code
def yX8_isVerdict : MethodName := ⟨RX8, "isVerdict", "(I)Z"⟩
abbrev cX8_isKey : ByteArray := prog_1_method_27_code
def yX8_isKey : MethodName := ⟨RX8, "isKey", "(I)Z"⟩
abbrev cX8_isRow : ByteArray := prog_1_method_28_code
def yX8_isRow : MethodName := ⟨RX8, "isRow", "(I)Z"⟩
abbrev cX8_byteOf : ByteArray := prog_1_method_29_code
def yX8_byteOf : MethodName := ⟨RX8, "byteOf", "(JI)I"⟩
abbrev cX8_bytesIn : ByteArray := prog_1_method_30_code
def yX8_bytesIn : MethodName := ⟨RX8, "bytesIn", "(J)I"⟩
abbrev cX8_pick : ByteArray := prog_1_method_31_code
def yX8_pick : MethodName := ⟨RX8, "pick", "([II)I"⟩
abbrev cX8_put : ByteArray := prog_1_method_32_code
def yX8_put : MethodName := ⟨RX8, "put", "([III)V"⟩
abbrev cX8_pickLong : ByteArray := prog_1_method_33_code
def yX8_pickLong : MethodName := ⟨RX8, "pickLong", "([JI)J"⟩
abbrev cX8_putLong : ByteArray := prog_1_method_34_code
def yX8_putLong : MethodName := ⟨RX8, "putLong", "([JIJ)V"⟩
abbrev cX8_isSet : ByteArray := prog_1_method_35_code
def yX8_isSet : MethodName := ⟨RX8, "isSet", "([ZI)Z"⟩
abbrev cX8_set : ByteArray := prog_1_method_36_code
def yX8_set : MethodName := ⟨RX8, "set", "([ZIZ)V"⟩
abbrev cX8_hasBit : ByteArray := prog_1_method_37_code
def yX8_hasBit : MethodName := ⟨RX8, "hasBit", "(JI)Z"⟩
def RX9 : String := "RunWatcherModel"
def TX9 : u_T := fun k => match k with
  | 0 => ("RunWatcherModel", "tape", "[B", true)
  | 1 => ("RunWatcherModel", "bytes", "I", false)
  | 2 => ("RunWatcherModel", "fault", "I", false)
  | 3 => ("RunWatcherModel", "faultAt", "I", false)
  | 4 => ("RunWatcherModel", "nodes", "I", false)
  | 5 => ("RunWatcherModel", "sign", "[I", true)
  | 6 => ("RunWatcherModel", "left", "[I", true)
  | 7 => ("RunWatcherModel", "right", "[I", true)
  | 8 => ("RunWatcherModel", "where", "[I", true)
  | 9 => ("RunWatcherModel", "made", "I", false)
  | 10 => ("RunWatcherModel", "operand", "[I", true)
  | 11 => ("RunWatcherModel", "waits", "I", false)
  | 12 => ("RunWatcherModel", "wait", "[I", true)
  | 13 => ("RunWatcherModel", "waitAt", "[I", true)
  | 14 => ("RunWatcherModel", "within", "[Z", true)
  | 15 => ("RunWatcherModel", "aheads", "I", false)
  | 16 => ("RunWatcherModel", "backs", "I", false)
  | 17 => ("RunWatcherModel", "bit", "[I", true)
  | 18 => ("RunWatcherModel", "atEnd", "I", false)
  | 19 => ("RunWatcherModel", "atFirst", "I", false)
  | 20 => ("RunWatcherModel", "holds", "[Z", true)
  | 21 => ("RunWatcherModel", "nextBack", "I", false)
  | 22 => ("RunWatcherModel", "seen", "I", false)
  | 23 => ("RunWatcherModel", "leadsBack", "[I", true)
  | 24 => ("RunWatcherModel", "tells", "[I", true)
  | 25 => ("RunWatcherModel", "root", "[Z", true)
  | 26 => ("RunWatcherModel", "can", "[Z", true)
  | 27 => ("RunWatcherModel", "raws", "I", false)
  | 28 => ("RunWatcherModel", "rawBack", "[I", true)
  | 29 => ("RunWatcherModel", "rawKept", "[Z", true)
  | 30 => ("RunWatcherModel", "rawTo", "[I", true)
  | 31 => ("RunWatcherModel", "listed", "[I", true)
  | 32 => ("RunWatcherModel", "list", "[I", true)
  | 33 => ("RunWatcherModel", "fresh", "[Z", true)
  | 34 => ("RunWatcherModel", "kind", "[I", true)
  | 35 => ("RunWatcherModel", "newKind", "[I", true)
  | 36 => ("RunWatcherModel", "kinds", "I", false)
  | 37 => ("RunWatcherModel", "example", "[I", true)
  | 38 => ("RunWatcherModel", "isThere", "Z", false)
  | 39 => ("RunWatcherModel", "states", "I", false)
  | 40 => ("RunWatcherModel", "to", "[I", true)
  | 41 => ("RunWatcherModel", "kept", "[Z", true)
  | 42 => ("RunWatcherModel", "verdict", "[I", true)
  | 43 => ("RunWatcherModel", "number", "[I", true)
  | 44 => ("RunWatcherModel", "ofKind", "[I", true)
  | 45 => ("RunWatcherModel", "far", "[I", true)
  | 46 => ("RunWatcherModel", "row", "[I", true)
  | 47 => ("RunWatcherModel", "rows", "[J", true)
  | 48 => ("RunWatcherModel", "may", "[Z", true)
  | 49 => ("RunWatcherModel", "then", "[Z", true)
  | 50 => ("RunWatcherModel", "events", "[I", true)
  | 51 => ("RunWatcherModel", "isOld", "Z", false)
  | 52 => ("RunWatcherModel", "oldStates", "I", false)
  | 53 => ("RunWatcherModel", "oldTo", "[I", true)
  | 54 => ("RunWatcherModel", "oldKept", "[Z", true)
  | 55 => ("RunWatcherModel", "pairs", "I", false)
  | 56 => ("RunWatcherModel", "pair", "[I", true)
  | 57 => ("RunWatcherModel", "pairFar", "[I", true)
  | _ => ("RunWatcherModel", "isMet", "[Z", true)
def tyX9 : Nat → FieldType := fun k => match k with
  | 0 => .array .byte
  | 1 => .int
  | 2 => .int
  | 3 => .int
  | 4 => .int
  | 5 => .array .int
  | 6 => .array .int
  | 7 => .array .int
  | 8 => .array .int
  | 9 => .int
  | 10 => .array .int
  | 11 => .int
  | 12 => .array .int
  | 13 => .array .int
  | 14 => .array .boolean
  | 15 => .int
  | 16 => .int
  | 17 => .array .int
  | 18 => .int
  | 19 => .int
  | 20 => .array .boolean
  | 21 => .int
  | 22 => .int
  | 23 => .array .int
  | 24 => .array .int
  | 25 => .array .boolean
  | 26 => .array .boolean
  | 27 => .int
  | 28 => .array .int
  | 29 => .array .boolean
  | 30 => .array .int
  | 31 => .array .int
  | 32 => .array .int
  | 33 => .array .boolean
  | 34 => .array .int
  | 35 => .array .int
  | 36 => .int
  | 37 => .array .int
  | 38 => .boolean
  | 39 => .int
  | 40 => .array .int
  | 41 => .array .boolean
  | 42 => .array .int
  | 43 => .array .int
  | 44 => .array .int
  | 45 => .array .int
  | 46 => .array .int
  | 47 => .array .long
  | 48 => .array .boolean
  | 49 => .array .boolean
  | 50 => .array .int
  | 51 => .boolean
  | 52 => .int
  | 53 => .array .int
  | 54 => .array .boolean
  | 55 => .int
  | 56 => .array .int
  | 57 => .array .int
  | _ => .array .boolean
abbrev wsX90 : List Cond := u_ws RX9 TX9 59
theorem nmX9 : ∀ a, a < 59 → ∀ b, b < 59 → a ≠ b → (TX9 a).2.1 ≠ (TX9 b).2.1 := by decide +kernel
theorem tyX9_ok : ∀ k, k < 59 → parseFieldDescriptor (TX9 k).2.2.1 = some (tyX9 k) := by decide +kernel
abbrev cX9_init : ByteArray := prog_11_method_1_code
def yX9_init : MethodName := ⟨RX9, "<init>", "()V"⟩
abbrev cX9_in : ByteArray := prog_11_method_3_code
def yX9_in : MethodName := ⟨RX9, "in", "(JJJ)Z"⟩
abbrev cX9_feed : ByteArray := prog_11_method_4_code
def yX9_feed : MethodName := ⟨RX9, "feed", "(J)I"⟩
abbrev cX9_cut : ByteArray := prog_11_method_5_code
def yX9_cut : MethodName := ⟨RX9, "cut", "()I"⟩
abbrev cX9_fault : ByteArray := prog_11_method_6_code
def yX9_fault : MethodName := ⟨RX9, "fault", "()I"⟩
abbrev cX9_isPrefix : ByteArray := prog_11_method_7_code
def yX9_isPrefix : MethodName := ⟨RX9, "isPrefix", "(I)Z"⟩
abbrev cX9_rank : ByteArray := prog_11_method_8_code
def yX9_rank : MethodName := ⟨RX9, "rank", "(I)I"⟩
abbrev cX9_node : ByteArray := prog_11_method_9_code
def yX9_node : MethodName := ⟨RX9, "node", "(IIII)V"⟩
abbrev cX9_reduce : ByteArray := prog_11_method_10_code
def yX9_reduce : MethodName := ⟨RX9, "reduce", "()V"⟩
abbrev cX9_fail : ByteArray := prog_11_method_11_code
def yX9_fail : MethodName := ⟨RX9, "fail", "(I)Z"⟩
abbrev cX9_reduceTo : ByteArray := prog_11_method_12_code
def yX9_reduceTo : MethodName := ⟨RX9, "reduceTo", "(I)V"⟩
abbrev cX9_push : ByteArray := prog_11_method_13_code
def yX9_push : MethodName := ⟨RX9, "push", "(II)V"⟩
abbrev cX9_parse : ByteArray := prog_11_method_14_code
def yX9_parse : MethodName := ⟨RX9, "parse", "()Z"⟩
abbrev cX9_isPure : ByteArray := prog_11_method_15_code
def yX9_isPure : MethodName := ⟨RX9, "isPure", "()Z"⟩
abbrev cX9_layBits : ByteArray := prog_11_method_16_code
def yX9_layBits : MethodName := ⟨RX9, "layBits", "()V"⟩
abbrev cX9_look : ByteArray := prog_11_method_17_code
def yX9_look : MethodName := ⟨RX9, "look", "(III)V"⟩
abbrev cX9_wide : ByteArray := prog_11_method_18_code
def yX9_wide : MethodName := ⟨RX9, "wide", "()I"⟩
abbrev cX9_spot : ByteArray := prog_11_method_19_code
def yX9_spot : MethodName := ⟨RX9, "spot", "(III)I"⟩
abbrev cX9_prepare : ByteArray := prog_11_method_20_code
def yX9_prepare : MethodName := ⟨RX9, "prepare", "()V"⟩
abbrev cX9_state : ByteArray := prog_11_method_21_code
def yX9_state : MethodName := ⟨RX9, "state", "(I)I"⟩
abbrev cX9_meet : ByteArray := prog_11_method_22_code
def yX9_meet : MethodName := ⟨RX9, "meet", "()Z"⟩
abbrev cX9_isKept : ByteArray := prog_11_method_23_code
def yX9_isKept : MethodName := ⟨RX9, "isKept", "(I)Z"⟩
abbrev cX9_isLike : ByteArray := prog_11_method_24_code
def yX9_isLike : MethodName := ⟨RX9, "isLike", "(II)Z"⟩
abbrev cX9_part : ByteArray := prog_11_method_25_code
def yX9_part : MethodName := ⟨RX9, "part", "()Z"⟩
abbrev cX9_least : ByteArray := prog_11_method_26_code
def yX9_least : MethodName := ⟨RX9, "least", "()Z"⟩
abbrev cX9_number : ByteArray := prog_11_method_27_code
def yX9_number : MethodName := ⟨RX9, "number", "()V"⟩
abbrev cX9_spread : ByteArray := prog_11_method_28_code
def yX9_spread : MethodName := ⟨RX9, "spread", "(I)V"⟩
abbrev cX9_read : ByteArray := prog_11_method_29_code
def yX9_read : MethodName := ⟨RX9, "read", "()I"⟩
abbrev cX9_isState : ByteArray := prog_11_method_30_code
def yX9_isState : MethodName := ⟨RX9, "isState", "(I)Z"⟩
abbrev cX9_leads : ByteArray := prog_11_method_31_code
def yX9_leads : MethodName := ⟨RX9, "leads", "(II)I"⟩
abbrev cX9_verdict : ByteArray := prog_11_method_32_code
def yX9_verdict : MethodName := ⟨RX9, "verdict", "(I)I"⟩
abbrev cX9_farTo : ByteArray := prog_11_method_33_code
def yX9_farTo : MethodName := ⟨RX9, "farTo", "(II)I"⟩
abbrev cX9_far : ByteArray := prog_11_method_34_code
def yX9_far : MethodName := ⟨RX9, "far", "(II)I"⟩
abbrev cX9_toward : ByteArray := prog_11_method_35_code
def yX9_toward : MethodName := ⟨RX9, "toward", "(II)I"⟩
abbrev cX9_countTo : ByteArray := prog_11_method_36_code
def yX9_countTo : MethodName := ⟨RX9, "countTo", "(I)V"⟩
abbrev cX9_runs : ByteArray := prog_11_method_37_code
def yX9_runs : MethodName := ⟨RX9, "runs", "(II)J"⟩
abbrev cX9_run : ByteArray := prog_11_method_38_code
def yX9_run : MethodName := ⟨RX9, "run", "(III)I"⟩
abbrev cX9_begin : ByteArray := prog_11_method_39_code
def yX9_begin : MethodName := ⟨RX9, "begin", "(I)V"⟩
abbrev cX9_verdictOf : ByteArray := prog_11_method_40_code
def yX9_verdictOf : MethodName := ⟨RX9, "verdictOf", "(I)I"⟩
abbrev cX9_isGone : ByteArray := prog_11_method_41_code
def yX9_isGone : MethodName := ⟨RX9, "isGone", "(I)Z"⟩
abbrev cX9_isKey : ByteArray := prog_11_method_42_code
def yX9_isKey : MethodName := ⟨RX9, "isKey", "(I)Z"⟩
abbrev cX9_step : ByteArray := prog_11_method_43_code
def yX9_step : MethodName := ⟨RX9, "step", "(IIIZ)V"⟩
abbrev cX9_event : ByteArray := prog_11_method_44_code
def yX9_event : MethodName := ⟨RX9, "event", "(II)I"⟩
abbrev cX9_lost : ByteArray := prog_11_method_45_code
def yX9_lost : MethodName := ⟨RX9, "lost", "(II)I"⟩
abbrev cX9_told : ByteArray := prog_11_method_46_code
def yX9_told : MethodName := ⟨RX9, "told", "(I)I"⟩
abbrev cX9_may : ByteArray := prog_11_method_47_code
def yX9_may : MethodName := ⟨RX9, "may", "(I)I"⟩
abbrev cX9_state_ : ByteArray := prog_11_method_48_code
def yX9_state_ : MethodName := ⟨RX9, "state", "(II)I"⟩
abbrev cX9_events : ByteArray := prog_11_method_49_code
def yX9_events : MethodName := ⟨RX9, "events", "(I)I"⟩
abbrev cX9_anew : ByteArray := prog_11_method_50_code
def yX9_anew : MethodName := ⟨RX9, "anew", "(I)I"⟩
abbrev cX9_keep : ByteArray := prog_11_method_51_code
def yX9_keep : MethodName := ⟨RX9, "keep", "()I"⟩
abbrev cX9_meetPair : ByteArray := prog_11_method_52_code
def yX9_meetPair : MethodName := ⟨RX9, "meetPair", "(II)V"⟩
abbrev cX9_pairUp : ByteArray := prog_11_method_53_code
def yX9_pairUp : MethodName := ⟨RX9, "pairUp", "()V"⟩
abbrev cX9_against : ByteArray := prog_11_method_54_code
def yX9_against : MethodName := ⟨RX9, "against", "()I"⟩
abbrev cX9_apart : ByteArray := prog_11_method_55_code
def yX9_apart : MethodName := ⟨RX9, "apart", "()I"⟩
abbrev cX9_count : ByteArray := prog_11_method_56_code
def yX9_count : MethodName := ⟨RX9, "count", "(I)I"⟩
def RJ13 : String := "java/lang/Long"
def TJ13 : u_T := fun k => match k with
  | _ => ("", "", "", false)
def tyJ13 : Nat → FieldType := fun k => match k with
  | _ => .int
abbrev wsJ130 : List Cond := u_ws RJ13 TJ13 0
theorem nmJ13 : ∀ a, a < 0 → ∀ b, b < 0 → a ≠ b → (TJ13 a).2.1 ≠ (TJ13 b).2.1 := by decide +kernel
theorem tyJ13_ok : ∀ k, k < 0 → parseFieldDescriptor (TJ13 k).2.2.1 = some (tyJ13 k) := by decide +kernel
abbrev cJ13_bitCount_95d88 : ByteArray := prog_12_method_50_code
def yJ13_bitCount_95d88 : MethodName := ⟨RJ13, "bitCount", "(J)I"⟩
def RJ9 : String := "java/lang/Math"
def TJ9 : u_T := fun k => match k with
  | _ => ("", "", "", false)
def tyJ9 : Nat → FieldType := fun k => match k with
  | _ => .int
abbrev wsJ90 : List Cond := u_ws RJ9 TJ9 0
theorem nmJ9 : ∀ a, a < 0 → ∀ b, b < 0 → a ≠ b → (TJ9 a).2.1 ≠ (TJ9 b).2.1 := by decide +kernel
theorem tyJ9_ok : ∀ k, k < 0 → parseFieldDescriptor (TJ9 k).2.2.1 = some (tyJ9 k) := by decide +kernel
abbrev cJ9_min_7cf53 : ByteArray := prog_13_method_69_code
def yJ9_min_7cf53 : MethodName := ⟨RJ9, "min", "(II)I"⟩
def RJ10 : String := "java/lang/System"
def TJ10 : u_T := fun k => match k with
  | _ => ("", "", "", false)
def tyJ10 : Nat → FieldType := fun k => match k with
  | _ => .int
abbrev wsJ100 : List Cond := u_ws RJ10 TJ10 0
theorem nmJ10 : ∀ a, a < 0 → ∀ b, b < 0 → a ≠ b → (TJ10 a).2.1 ≠ (TJ10 b).2.1 := by decide +kernel
theorem tyJ10_ok : ∀ k, k < 0 → parseFieldDescriptor (TJ10 k).2.2.1 = some (tyJ10 k) := by decide +kernel
def RL : String := "RunWatcherLaw"
abbrev cL_law : ByteArray := code
def yL_law : MethodName := ⟨RL, "law", "([I)Z"⟩
abbrev vwCl : List vw_C := [(RX0, TX0, 6), (RX1, TX1, 2), (RX2, TX2, 7), (RX3, TX3, 7), (RX4, TX4, 11), (RX5, TX5, 9), (RX6, TX6, 9), (RX7, TX7, 5), (RX8, TX8, 11), (RX9, TX9, 59)]
/-! the words that every contract bears: the good ones of the tables -/
def wsG : List Cond := lw_tbl.filter goodWord
theorem wsG_in : ∀ w ∈ wsG, w ∈ lw_tbl := fun w h => (List.mem_filter.mp h).1
theorem wsG_good : ∀ w ∈ wsG, (w.onTables && w.keeps) = true ∨ ∃ ty, w = .arrayClass ty := fun w h => good_of_word (List.mem_filter.mp h).2
theorem mT1 {w : Cond} (h : w ∈ tables_1_1) (g : goodWord w = true) : w ∈ wsG := List.mem_filter.mpr ⟨List.mem_append_right _ (List.mem_append_left _ h), g⟩
theorem mN1 {w : Cond} (h : w ∈ tables_1_1) : w ∈ lw_tbl := List.mem_append_right _ (List.mem_append_left _ h)
theorem mT2 {w : Cond} (h : w ∈ tables_1_2) (g : goodWord w = true) : w ∈ wsG := List.mem_filter.mpr ⟨List.mem_append_right _ (List.mem_append_right _ (List.mem_append_left _ h)), g⟩
theorem mN2 {w : Cond} (h : w ∈ tables_1_2) : w ∈ lw_tbl := List.mem_append_right _ (List.mem_append_right _ (List.mem_append_left _ h))
theorem mT3 {w : Cond} (h : w ∈ tables_1_3) (g : goodWord w = true) : w ∈ wsG := List.mem_filter.mpr ⟨List.mem_append_right _ (List.mem_append_right _ (List.mem_append_right _ (List.mem_append_left _ h))), g⟩
theorem mN3 {w : Cond} (h : w ∈ tables_1_3) : w ∈ lw_tbl := List.mem_append_right _ (List.mem_append_right _ (List.mem_append_right _ (List.mem_append_left _ h)))
theorem mT4 {w : Cond} (h : w ∈ tables_1_4) (g : goodWord w = true) : w ∈ wsG := List.mem_filter.mpr ⟨List.mem_append_right _ (List.mem_append_right _ (List.mem_append_right _ (List.mem_append_right _ (List.mem_append_left _ h)))), g⟩
theorem mN4 {w : Cond} (h : w ∈ tables_1_4) : w ∈ lw_tbl := List.mem_append_right _ (List.mem_append_right _ (List.mem_append_right _ (List.mem_append_right _ (List.mem_append_left _ h))))
theorem mT5 {w : Cond} (h : w ∈ tables_1_5) (g : goodWord w = true) : w ∈ wsG := List.mem_filter.mpr ⟨List.mem_append_right _ (List.mem_append_right _ (List.mem_append_right _ (List.mem_append_right _ (List.mem_append_right _ (List.mem_append_left _ h))))), g⟩
theorem mN5 {w : Cond} (h : w ∈ tables_1_5) : w ∈ lw_tbl := List.mem_append_right _ (List.mem_append_right _ (List.mem_append_right _ (List.mem_append_right _ (List.mem_append_right _ (List.mem_append_left _ h)))))
theorem mT6 {w : Cond} (h : w ∈ tables_1_6) (g : goodWord w = true) : w ∈ wsG := List.mem_filter.mpr ⟨List.mem_append_right _ (List.mem_append_right _ (List.mem_append_right _ (List.mem_append_right _ (List.mem_append_right _ (List.mem_append_right _ (h)))))), g⟩
theorem mN6 {w : Cond} (h : w ∈ tables_1_6) : w ∈ lw_tbl := List.mem_append_right _ (List.mem_append_right _ (List.mem_append_right _ (List.mem_append_right _ (List.mem_append_right _ (List.mem_append_right _ (h))))))
theorem mP1 {q : MethodName × Nat} (h : q ∈ lw_privs_1) (g : goodWord (.selects q.1.cls q.1 q.1) = true) : Cond.selects q.1.cls q.1 q.1 ∈ wsG := List.mem_filter.mpr ⟨List.mem_append_left _ (List.mem_map.mpr ⟨q, List.mem_append_left _ h, rfl⟩), g⟩
theorem mP2 {q : MethodName × Nat} (h : q ∈ lw_privs_2) (g : goodWord (.selects q.1.cls q.1 q.1) = true) : Cond.selects q.1.cls q.1 q.1 ∈ wsG := List.mem_filter.mpr ⟨List.mem_append_left _ (List.mem_map.mpr ⟨q, List.mem_append_right _ (List.mem_append_left _ h), rfl⟩), g⟩
theorem mP3 {q : MethodName × Nat} (h : q ∈ lw_privs_3) (g : goodWord (.selects q.1.cls q.1 q.1) = true) : Cond.selects q.1.cls q.1 q.1 ∈ wsG := List.mem_filter.mpr ⟨List.mem_append_left _ (List.mem_map.mpr ⟨q, List.mem_append_right _ (List.mem_append_right _ (List.mem_append_left _ h)), rfl⟩), g⟩
theorem mP4 {q : MethodName × Nat} (h : q ∈ lw_privs_4) (g : goodWord (.selects q.1.cls q.1 q.1) = true) : Cond.selects q.1.cls q.1 q.1 ∈ wsG := List.mem_filter.mpr ⟨List.mem_append_left _ (List.mem_map.mpr ⟨q, List.mem_append_right _ (List.mem_append_right _ (List.mem_append_right _ (h))), rfl⟩), g⟩
set_option maxRecDepth 8000 in
theorem mw_0 : Cond.classLink RL 7 RX8 ∈ wsG := mT1 (List.mem_of_getElem? (i := 14) rfl) rfl
set_option maxRecDepth 8000 in
theorem mw_1 : Cond.instantiable RX8 11 ∈ wsG := mT1 (List.mem_of_getElem? (i := 15) rfl) rfl
set_option maxRecDepth 8000 in
theorem mw_2 : Cond.initialized RX8 ∈ wsG := mT1 (List.mem_of_getElem? (i := 1) rfl) rfl
set_option maxRecDepth 8000 in
theorem mw_3 : Cond.classLink RL 10 RX9 ∈ wsG := mT4 (List.mem_of_getElem? (i := 138) rfl) rfl
set_option maxRecDepth 8000 in
theorem mw_4 : Cond.instantiable RX9 59 ∈ wsG := mT4 (List.mem_of_getElem? (i := 139) rfl) rfl
set_option maxRecDepth 8000 in
theorem mw_5 : Cond.initialized RX9 ∈ wsG := mT1 (List.mem_of_getElem? (i := 10) rfl) rfl
set_option maxRecDepth 8000 in
theorem mw_6 : Cond.constantLong RL 13 (4294967295) ∈ wsG := mT6 (List.mem_of_getElem? (i := 66) rfl) rfl
set_option maxRecDepth 8000 in
theorem mw_7 : Cond.methodLink RL 9 yX8_init ∈ wsG := mT1 (List.mem_of_getElem? (i := 16) rfl) rfl
set_option maxRecDepth 8000 in
theorem mw_8 : Cond.instanceMethod yX8_init ∈ wsG := mT1 (List.mem_of_getElem? (i := 17) rfl) rfl
set_option maxRecDepth 8000 in
theorem mw_9 : Cond.code yX8_init cX8_init 1 none ∈ wsG := mT1 (List.mem_of_getElem? (i := 18) rfl) rfl
set_option maxRecDepth 8000 in
theorem mw_10 : Cond.methodLink RX8 3 objectInit ∈ wsG := mT1 (List.mem_of_getElem? (i := 19) rfl) rfl
set_option maxRecDepth 8000 in
theorem mw_11 : Cond.instanceMethod objectInit ∈ wsG := mT1 (List.mem_of_getElem? (i := 20) rfl) rfl
set_option maxRecDepth 8000 in
theorem mw_12 : Cond.arrayClass .int ∈ wsG := mT1 (List.mem_of_getElem? (i := 62) rfl) rfl
set_option maxRecDepth 8000 in
theorem mw_13 : Cond.fieldLink RX8 9 "RunWatcher" "tape" "[I" ∈ wsG := mT2 (List.mem_of_getElem? (i := 9) rfl) rfl
set_option maxRecDepth 8000 in
theorem mw_14 : Cond.fieldLink RX8 13 "RunWatcher" "bytes" "I" ∈ wsG := mT2 (List.mem_of_getElem? (i := 10) rfl) rfl
set_option maxRecDepth 8000 in
theorem mw_15 : Cond.fieldLink RX8 17 "RunWatcher" "faultKind" "I" ∈ wsG := mT2 (List.mem_of_getElem? (i := 11) rfl) rfl
set_option maxRecDepth 8000 in
theorem mw_16 : Cond.classLink RX8 20 RX5 ∈ wsG := mT1 (List.mem_of_getElem? (i := 22) rfl) rfl
set_option maxRecDepth 8000 in
theorem mw_17 : Cond.instantiable RX5 9 ∈ wsG := mT1 (List.mem_of_getElem? (i := 23) rfl) rfl
set_option maxRecDepth 8000 in
theorem mw_18 : Cond.initialized RX5 ∈ wsG := mT1 (List.mem_of_getElem? (i := 2) rfl) rfl
set_option maxRecDepth 8000 in
theorem mw_19 : Cond.fieldLink RX8 23 "RunWatcher" "reader" "LRunWatcher$Reader;" ∈ wsG := mT2 (List.mem_of_getElem? (i := 12) rfl) rfl
set_option maxRecDepth 8000 in
theorem mw_20 : Cond.classLink RX8 27 RX0 ∈ wsG := mT1 (List.mem_of_getElem? (i := 92) rfl) rfl
set_option maxRecDepth 8000 in
theorem mw_21 : Cond.instantiable RX0 6 ∈ wsG := mT1 (List.mem_of_getElem? (i := 93) rfl) rfl
set_option maxRecDepth 8000 in
theorem mw_22 : Cond.initialized RX0 ∈ wsG := mT1 (List.mem_of_getElem? (i := 4) rfl) rfl
set_option maxRecDepth 8000 in
theorem mw_23 : Cond.fieldLink RX8 30 "RunWatcher" "carry" "LRunWatcher$Carry;" ∈ wsG := mT2 (List.mem_of_getElem? (i := 13) rfl) rfl
set_option maxRecDepth 8000 in
theorem mw_24 : Cond.classLink RX8 34 RX4 ∈ wsG := mT1 (List.mem_of_getElem? (i := 117) rfl) rfl
set_option maxRecDepth 8000 in
theorem mw_25 : Cond.instantiable RX4 11 ∈ wsG := mT1 (List.mem_of_getElem? (i := 118) rfl) rfl
set_option maxRecDepth 8000 in
theorem mw_26 : Cond.initialized RX4 ∈ wsG := mT1 (List.mem_of_getElem? (i := 5) rfl) rfl
set_option maxRecDepth 8000 in
theorem mw_27 : Cond.fieldLink RX8 37 "RunWatcher" "pairs" "LRunWatcher$Pairs;" ∈ wsG := mT2 (List.mem_of_getElem? (i := 14) rfl) rfl
set_option maxRecDepth 8000 in
theorem mw_28 : Cond.classLink RX8 41 RX2 ∈ wsG := mT1 (List.mem_of_getElem? (i := 158) rfl) rfl
set_option maxRecDepth 8000 in
theorem mw_29 : Cond.instantiable RX2 7 ∈ wsG := mT1 (List.mem_of_getElem? (i := 159) rfl) rfl
set_option maxRecDepth 8000 in
theorem mw_30 : Cond.initialized RX2 ∈ wsG := mT1 (List.mem_of_getElem? (i := 6) rfl) rfl
set_option maxRecDepth 8000 in
theorem mw_31 : Cond.fieldLink RX8 44 "RunWatcher" "lessener" "LRunWatcher$Lessener;" ∈ wsG := mT2 (List.mem_of_getElem? (i := 15) rfl) rfl
set_option maxRecDepth 8000 in
theorem mw_32 : Cond.classLink RX8 48 RX7 ∈ wsG := mT1 (List.mem_of_getElem? (i := 186) rfl) rfl
set_option maxRecDepth 8000 in
theorem mw_33 : Cond.instantiable RX7 5 ∈ wsG := mT1 (List.mem_of_getElem? (i := 187) rfl) rfl
set_option maxRecDepth 8000 in
theorem mw_34 : Cond.initialized RX7 ∈ wsG := mT1 (List.mem_of_getElem? (i := 7) rfl) rfl
set_option maxRecDepth 8000 in
theorem mw_35 : Cond.fieldLink RX8 51 "RunWatcher" "watcher" "LRunWatcher$Watcher;" ∈ wsG := mT2 (List.mem_of_getElem? (i := 16) rfl) rfl
set_option maxRecDepth 8000 in
theorem mw_36 : Cond.fieldLink RX8 55 "RunWatcher" "keptWatcher" "LRunWatcher$Watcher;" ∈ wsG := mT2 (List.mem_of_getElem? (i := 17) rfl) rfl
set_option maxRecDepth 8000 in
theorem mw_37 : Cond.classLink RX8 58 RX3 ∈ wsG := mT1 (List.mem_of_getElem? (i := 208) rfl) rfl
set_option maxRecDepth 8000 in
theorem mw_38 : Cond.instantiable RX3 7 ∈ wsG := mT1 (List.mem_of_getElem? (i := 209) rfl) rfl
set_option maxRecDepth 8000 in
theorem mw_39 : Cond.initialized RX3 ∈ wsG := mT1 (List.mem_of_getElem? (i := 8) rfl) rfl
set_option maxRecDepth 8000 in
theorem mw_40 : Cond.fieldLink RX8 61 "RunWatcher" "meeting" "LRunWatcher$Meeting;" ∈ wsG := mT2 (List.mem_of_getElem? (i := 18) rfl) rfl
set_option maxRecDepth 8000 in
theorem mw_41 : Cond.classLink RX8 65 RX1 ∈ wsG := mT1 (List.mem_of_getElem? (i := 236) rfl) rfl
set_option maxRecDepth 8000 in
theorem mw_42 : Cond.instantiable RX1 2 ∈ wsG := mT1 (List.mem_of_getElem? (i := 237) rfl) rfl
set_option maxRecDepth 8000 in
theorem mw_43 : Cond.initialized RX1 ∈ wsG := mT1 (List.mem_of_getElem? (i := 9) rfl) rfl
set_option maxRecDepth 8000 in
theorem mw_44 : Cond.fieldLink RX8 68 "RunWatcher" "keys" "LRunWatcher$Keys;" ∈ wsG := mT2 (List.mem_of_getElem? (i := 19) rfl) rfl
set_option maxRecDepth 8000 in
theorem mw_45 : Cond.methodLink RX8 22 yX5_init ∈ wsG := mT1 (List.mem_of_getElem? (i := 24) rfl) rfl
set_option maxRecDepth 8000 in
theorem mw_46 : Cond.instanceMethod yX5_init ∈ wsG := mT1 (List.mem_of_getElem? (i := 25) rfl) rfl
set_option maxRecDepth 8000 in
theorem mw_47 : Cond.code yX5_init cX5_init 1 none ∈ wsG := mT1 (List.mem_of_getElem? (i := 26) rfl) rfl
set_option maxRecDepth 8000 in
theorem mw_48 : Cond.methodLink RX5 3 objectInit ∈ wsG := mT1 (List.mem_of_getElem? (i := 27) rfl) rfl
set_option maxRecDepth 8000 in
theorem mw_49 : Cond.classLink RX5 9 RX6 ∈ wsG := mT1 (List.mem_of_getElem? (i := 28) rfl) rfl
set_option maxRecDepth 8000 in
theorem mw_50 : Cond.instantiable RX6 9 ∈ wsG := mT1 (List.mem_of_getElem? (i := 29) rfl) rfl
set_option maxRecDepth 8000 in
theorem mw_51 : Cond.initialized RX6 ∈ wsG := mT1 (List.mem_of_getElem? (i := 3) rfl) rfl
set_option maxRecDepth 8000 in
theorem mw_52 : Cond.fieldLink RX5 12 "RunWatcher$Reader" "rule" "LRunWatcher$Rule;" ∈ wsG := mT1 (List.mem_of_getElem? (i := 64) rfl) rfl
set_option maxRecDepth 8000 in
theorem mw_53 : Cond.fieldLink RX5 18 "RunWatcher$Reader" "tape" "[I" ∈ wsG := mT1 (List.mem_of_getElem? (i := 65) rfl) rfl
set_option maxRecDepth 8000 in
theorem mw_54 : Cond.fieldLink RX5 22 "RunWatcher$Reader" "length" "I" ∈ wsG := mT1 (List.mem_of_getElem? (i := 66) rfl) rfl
set_option maxRecDepth 8000 in
theorem mw_55 : Cond.fieldLink RX5 26 "RunWatcher$Reader" "at" "I" ∈ wsG := mT1 (List.mem_of_getElem? (i := 67) rfl) rfl
set_option maxRecDepth 8000 in
theorem mw_56 : Cond.fieldLink RX5 29 "RunWatcher$Reader" "begun" "I" ∈ wsG := mT1 (List.mem_of_getElem? (i := 68) rfl) rfl
set_option maxRecDepth 8000 in
theorem mw_57 : Cond.fieldLink RX5 32 "RunWatcher$Reader" "open" "I" ∈ wsG := mT1 (List.mem_of_getElem? (i := 69) rfl) rfl
set_option maxRecDepth 8000 in
theorem mw_58 : Cond.fieldLink RX5 35 "RunWatcher$Reader" "latestSign" "I" ∈ wsG := mT1 (List.mem_of_getElem? (i := 70) rfl) rfl
set_option maxRecDepth 8000 in
theorem mw_59 : Cond.fieldLink RX5 38 "RunWatcher$Reader" "faultKind" "I" ∈ wsG := mT1 (List.mem_of_getElem? (i := 71) rfl) rfl
set_option maxRecDepth 8000 in
theorem mw_60 : Cond.fieldLink RX5 41 "RunWatcher$Reader" "faultByte" "I" ∈ wsG := mT1 (List.mem_of_getElem? (i := 72) rfl) rfl
set_option maxRecDepth 8000 in
theorem mw_61 : Cond.methodLink RX5 11 yX6_init ∈ wsG := mT1 (List.mem_of_getElem? (i := 30) rfl) rfl
set_option maxRecDepth 8000 in
theorem mw_62 : Cond.instanceMethod yX6_init ∈ wsG := mT1 (List.mem_of_getElem? (i := 31) rfl) rfl
set_option maxRecDepth 8000 in
theorem mw_63 : Cond.code yX6_init cX6_init 1 none ∈ wsG := mT1 (List.mem_of_getElem? (i := 32) rfl) rfl
set_option maxRecDepth 8000 in
theorem mw_64 : Cond.methodLink RX6 3 objectInit ∈ wsG := mT1 (List.mem_of_getElem? (i := 33) rfl) rfl
set_option maxRecDepth 8000 in
theorem mw_65 : Cond.fieldLink RX6 9 "RunWatcher$Rule" "signs" "[I" ∈ wsG := mT1 (List.mem_of_getElem? (i := 34) rfl) rfl
set_option maxRecDepth 8000 in
theorem mw_66 : Cond.fieldLink RX6 15 "RunWatcher$Rule" "firsts" "[I" ∈ wsG := mT1 (List.mem_of_getElem? (i := 35) rfl) rfl
set_option maxRecDepth 8000 in
theorem mw_67 : Cond.fieldLink RX6 18 "RunWatcher$Rule" "seconds" "[I" ∈ wsG := mT1 (List.mem_of_getElem? (i := 36) rfl) rfl
set_option maxRecDepth 8000 in
theorem mw_68 : Cond.fieldLink RX6 21 "RunWatcher$Rule" "places" "[I" ∈ wsG := mT1 (List.mem_of_getElem? (i := 37) rfl) rfl
set_option maxRecDepth 8000 in
theorem mw_69 : Cond.fieldLink RX6 24 "RunWatcher$Rule" "slots" "[I" ∈ wsG := mT1 (List.mem_of_getElem? (i := 38) rfl) rfl
set_option maxRecDepth 8000 in
theorem mw_70 : Cond.arrayClass .boolean ∈ wsG := mT1 (List.mem_of_getElem? (i := 63) rfl) rfl
set_option maxRecDepth 8000 in
theorem mw_71 : Cond.fieldLink RX6 27 "RunWatcher$Rule" "inPast" "[Z" ∈ wsG := mT1 (List.mem_of_getElem? (i := 39) rfl) rfl
set_option maxRecDepth 8000 in
theorem mw_72 : Cond.fieldLink RX6 31 "RunWatcher$Rule" "size" "I" ∈ wsG := mT1 (List.mem_of_getElem? (i := 40) rfl) rfl
set_option maxRecDepth 8000 in
theorem mw_73 : Cond.fieldLink RX6 35 "RunWatcher$Rule" "futureBits" "I" ∈ wsG := mT1 (List.mem_of_getElem? (i := 41) rfl) rfl
set_option maxRecDepth 8000 in
theorem mw_74 : Cond.fieldLink RX6 38 "RunWatcher$Rule" "pastBits" "I" ∈ wsG := mT1 (List.mem_of_getElem? (i := 42) rfl) rfl
set_option maxRecDepth 8000 in
theorem mw_75 : Cond.methodLink RX8 29 yX0_init ∈ wsG := mT1 (List.mem_of_getElem? (i := 94) rfl) rfl
set_option maxRecDepth 8000 in
theorem mw_76 : Cond.instanceMethod yX0_init ∈ wsG := mT1 (List.mem_of_getElem? (i := 95) rfl) rfl
set_option maxRecDepth 8000 in
theorem mw_77 : Cond.code yX0_init cX0_init 1 none ∈ wsG := mT1 (List.mem_of_getElem? (i := 96) rfl) rfl
set_option maxRecDepth 8000 in
theorem mw_78 : Cond.methodLink RX0 3 objectInit ∈ wsG := mT1 (List.mem_of_getElem? (i := 97) rfl) rfl
set_option maxRecDepth 8000 in
theorem mw_79 : Cond.fieldLink RX0 9 "RunWatcher$Carry" "turned" "[I" ∈ wsG := mT1 (List.mem_of_getElem? (i := 98) rfl) rfl
set_option maxRecDepth 8000 in
theorem mw_80 : Cond.fieldLink RX0 15 "RunWatcher$Carry" "kept" "[Z" ∈ wsG := mT1 (List.mem_of_getElem? (i := 99) rfl) rfl
set_option maxRecDepth 8000 in
theorem mw_81 : Cond.fieldLink RX0 19 "RunWatcher$Carry" "possible" "[Z" ∈ wsG := mT1 (List.mem_of_getElem? (i := 100) rfl) rfl
set_option maxRecDepth 8000 in
theorem mw_82 : Cond.fieldLink RX0 22 "RunWatcher$Carry" "futureBits" "I" ∈ wsG := mT1 (List.mem_of_getElem? (i := 101) rfl) rfl
set_option maxRecDepth 8000 in
theorem mw_83 : Cond.fieldLink RX0 26 "RunWatcher$Carry" "pastBits" "I" ∈ wsG := mT1 (List.mem_of_getElem? (i := 102) rfl) rfl
set_option maxRecDepth 8000 in
theorem mw_84 : Cond.fieldLink RX0 29 "RunWatcher$Carry" "noPlace" "I" ∈ wsG := mT1 (List.mem_of_getElem? (i := 103) rfl) rfl
set_option maxRecDepth 8000 in
theorem mw_85 : Cond.methodLink RX8 36 yX4_init ∈ wsG := mT1 (List.mem_of_getElem? (i := 119) rfl) rfl
set_option maxRecDepth 8000 in
theorem mw_86 : Cond.instanceMethod yX4_init ∈ wsG := mT1 (List.mem_of_getElem? (i := 120) rfl) rfl
set_option maxRecDepth 8000 in
theorem mw_87 : Cond.code yX4_init cX4_init 1 none ∈ wsG := mT1 (List.mem_of_getElem? (i := 121) rfl) rfl
set_option maxRecDepth 8000 in
theorem mw_88 : Cond.methodLink RX4 3 objectInit ∈ wsG := mT1 (List.mem_of_getElem? (i := 122) rfl) rfl
set_option maxRecDepth 8000 in
theorem mw_89 : Cond.fieldLink RX4 9 "RunWatcher$Pairs" "pasts" "[I" ∈ wsG := mT1 (List.mem_of_getElem? (i := 123) rfl) rfl
set_option maxRecDepth 8000 in
theorem mw_90 : Cond.arrayClass .long ∈ wsG := mT1 (List.mem_of_getElem? (i := 157) rfl) rfl
set_option maxRecDepth 8000 in
theorem mw_91 : Cond.fieldLink RX4 15 "RunWatcher$Pairs" "sets" "[J" ∈ wsG := mT1 (List.mem_of_getElem? (i := 124) rfl) rfl
set_option maxRecDepth 8000 in
theorem mw_92 : Cond.fieldLink RX4 19 "RunWatcher$Pairs" "leads" "[I" ∈ wsG := mT1 (List.mem_of_getElem? (i := 125) rfl) rfl
set_option maxRecDepth 8000 in
theorem mw_93 : Cond.fieldLink RX4 22 "RunWatcher$Pairs" "kept" "[Z" ∈ wsG := mT1 (List.mem_of_getElem? (i := 126) rfl) rfl
set_option maxRecDepth 8000 in
theorem mw_94 : Cond.fieldLink RX4 26 "RunWatcher$Pairs" "latestOfPast" "[I" ∈ wsG := mT1 (List.mem_of_getElem? (i := 127) rfl) rfl
set_option maxRecDepth 8000 in
theorem mw_95 : Cond.fieldLink RX4 29 "RunWatcher$Pairs" "earlierOfPast" "[I" ∈ wsG := mT1 (List.mem_of_getElem? (i := 128) rfl) rfl
set_option maxRecDepth 8000 in
theorem mw_96 : Cond.fieldLink RX4 32 "RunWatcher$Pairs" "work" "[J" ∈ wsG := mT1 (List.mem_of_getElem? (i := 129) rfl) rfl
set_option maxRecDepth 8000 in
theorem mw_97 : Cond.fieldLink RX4 35 "RunWatcher$Pairs" "workPast" "I" ∈ wsG := mT1 (List.mem_of_getElem? (i := 130) rfl) rfl
set_option maxRecDepth 8000 in
theorem mw_98 : Cond.fieldLink RX4 39 "RunWatcher$Pairs" "words" "I" ∈ wsG := mT1 (List.mem_of_getElem? (i := 131) rfl) rfl
set_option maxRecDepth 8000 in
theorem mw_99 : Cond.fieldLink RX4 42 "RunWatcher$Pairs" "most" "I" ∈ wsG := mT1 (List.mem_of_getElem? (i := 132) rfl) rfl
set_option maxRecDepth 8000 in
theorem mw_100 : Cond.fieldLink RX4 45 "RunWatcher$Pairs" "size" "I" ∈ wsG := mT1 (List.mem_of_getElem? (i := 133) rfl) rfl
set_option maxRecDepth 8000 in
theorem mw_101 : Cond.methodLink RX8 43 yX2_init ∈ wsG := mT1 (List.mem_of_getElem? (i := 160) rfl) rfl
set_option maxRecDepth 8000 in
theorem mw_102 : Cond.instanceMethod yX2_init ∈ wsG := mT1 (List.mem_of_getElem? (i := 161) rfl) rfl
set_option maxRecDepth 8000 in
theorem mw_103 : Cond.code yX2_init cX2_init 1 none ∈ wsG := mT1 (List.mem_of_getElem? (i := 162) rfl) rfl
set_option maxRecDepth 8000 in
theorem mw_104 : Cond.methodLink RX2 3 objectInit ∈ wsG := mT1 (List.mem_of_getElem? (i := 163) rfl) rfl
set_option maxRecDepth 8000 in
theorem mw_105 : Cond.fieldLink RX2 9 "RunWatcher$Lessener" "groups" "[I" ∈ wsG := mT1 (List.mem_of_getElem? (i := 164) rfl) rfl
set_option maxRecDepth 8000 in
theorem mw_106 : Cond.fieldLink RX2 15 "RunWatcher$Lessener" "finer" "[I" ∈ wsG := mT1 (List.mem_of_getElem? (i := 165) rfl) rfl
set_option maxRecDepth 8000 in
theorem mw_107 : Cond.fieldLink RX2 18 "RunWatcher$Lessener" "marks" "[I" ∈ wsG := mT1 (List.mem_of_getElem? (i := 166) rfl) rfl
set_option maxRecDepth 8000 in
theorem mw_108 : Cond.fieldLink RX2 21 "RunWatcher$Lessener" "members" "[I" ∈ wsG := mT1 (List.mem_of_getElem? (i := 167) rfl) rfl
set_option maxRecDepth 8000 in
theorem mw_109 : Cond.fieldLink RX2 24 "RunWatcher$Lessener" "stateOfGroup" "[I" ∈ wsG := mT1 (List.mem_of_getElem? (i := 168) rfl) rfl
set_option maxRecDepth 8000 in
theorem mw_110 : Cond.fieldLink RX2 27 "RunWatcher$Lessener" "groupOfState" "[I" ∈ wsG := mT1 (List.mem_of_getElem? (i := 169) rfl) rfl
set_option maxRecDepth 8000 in
theorem mw_111 : Cond.fieldLink RX2 30 "RunWatcher$Lessener" "many" "I" ∈ wsG := mT1 (List.mem_of_getElem? (i := 170) rfl) rfl
set_option maxRecDepth 8000 in
theorem mw_112 : Cond.methodLink RX8 50 yX7_init ∈ wsG := mT1 (List.mem_of_getElem? (i := 188) rfl) rfl
set_option maxRecDepth 8000 in
theorem mw_113 : Cond.instanceMethod yX7_init ∈ wsG := mT1 (List.mem_of_getElem? (i := 189) rfl) rfl
set_option maxRecDepth 8000 in
theorem mw_114 : Cond.code yX7_init cX7_init 1 none ∈ wsG := mT1 (List.mem_of_getElem? (i := 190) rfl) rfl
set_option maxRecDepth 8000 in
theorem mw_115 : Cond.methodLink RX7 3 objectInit ∈ wsG := mT1 (List.mem_of_getElem? (i := 191) rfl) rfl
set_option maxRecDepth 8000 in
theorem mw_116 : Cond.fieldLink RX7 9 "RunWatcher$Watcher" "leads" "[I" ∈ wsG := mT1 (List.mem_of_getElem? (i := 192) rfl) rfl
set_option maxRecDepth 8000 in
theorem mw_117 : Cond.fieldLink RX7 15 "RunWatcher$Watcher" "verdicts" "[I" ∈ wsG := mT1 (List.mem_of_getElem? (i := 193) rfl) rfl
set_option maxRecDepth 8000 in
theorem mw_118 : Cond.fieldLink RX7 18 "RunWatcher$Watcher" "distances" "[I" ∈ wsG := mT1 (List.mem_of_getElem? (i := 194) rfl) rfl
set_option maxRecDepth 8000 in
theorem mw_119 : Cond.fieldLink RX7 21 "RunWatcher$Watcher" "ways" "[J" ∈ wsG := mT1 (List.mem_of_getElem? (i := 195) rfl) rfl
set_option maxRecDepth 8000 in
theorem mw_120 : Cond.fieldLink RX7 25 "RunWatcher$Watcher" "size" "I" ∈ wsG := mT1 (List.mem_of_getElem? (i := 196) rfl) rfl
set_option maxRecDepth 8000 in
theorem mw_121 : Cond.methodLink RX8 60 yX3_init ∈ wsG := mT1 (List.mem_of_getElem? (i := 210) rfl) rfl
set_option maxRecDepth 8000 in
theorem mw_122 : Cond.instanceMethod yX3_init ∈ wsG := mT1 (List.mem_of_getElem? (i := 211) rfl) rfl
set_option maxRecDepth 8000 in
theorem mw_123 : Cond.code yX3_init cX3_init 1 none ∈ wsG := mT1 (List.mem_of_getElem? (i := 212) rfl) rfl
set_option maxRecDepth 8000 in
theorem mw_124 : Cond.methodLink RX3 3 objectInit ∈ wsG := mT1 (List.mem_of_getElem? (i := 213) rfl) rfl
set_option maxRecDepth 8000 in
theorem mw_125 : Cond.fieldLink RX3 9 "RunWatcher$Meeting" "depths" "[I" ∈ wsG := mT1 (List.mem_of_getElem? (i := 214) rfl) rfl
set_option maxRecDepth 8000 in
theorem mw_126 : Cond.fieldLink RX3 15 "RunWatcher$Meeting" "queue" "[I" ∈ wsG := mT1 (List.mem_of_getElem? (i := 215) rfl) rfl
set_option maxRecDepth 8000 in
theorem mw_127 : Cond.fieldLink RX3 18 "RunWatcher$Meeting" "queued" "I" ∈ wsG := mT1 (List.mem_of_getElem? (i := 216) rfl) rfl
set_option maxRecDepth 8000 in
theorem mw_128 : Cond.fieldLink RX3 22 "RunWatcher$Meeting" "both" "Z" ∈ wsG := mT1 (List.mem_of_getElem? (i := 217) rfl) rfl
set_option maxRecDepth 8000 in
theorem mw_129 : Cond.fieldLink RX3 26 "RunWatcher$Meeting" "thisAlone" "Z" ∈ wsG := mT1 (List.mem_of_getElem? (i := 218) rfl) rfl
set_option maxRecDepth 8000 in
theorem mw_130 : Cond.fieldLink RX3 29 "RunWatcher$Meeting" "thatAlone" "Z" ∈ wsG := mT1 (List.mem_of_getElem? (i := 219) rfl) rfl
set_option maxRecDepth 8000 in
theorem mw_131 : Cond.fieldLink RX3 32 "RunWatcher$Meeting" "shortest" "I" ∈ wsG := mT1 (List.mem_of_getElem? (i := 220) rfl) rfl
set_option maxRecDepth 8000 in
theorem mw_132 : Cond.methodLink RX8 67 yX1_init ∈ wsG := mT1 (List.mem_of_getElem? (i := 238) rfl) rfl
set_option maxRecDepth 8000 in
theorem mw_133 : Cond.instanceMethod yX1_init ∈ wsG := mT1 (List.mem_of_getElem? (i := 239) rfl) rfl
set_option maxRecDepth 8000 in
theorem mw_134 : Cond.code yX1_init cX1_init 1 none ∈ wsG := mT2 (List.mem_of_getElem? (i := 0) rfl) rfl
set_option maxRecDepth 8000 in
theorem mw_135 : Cond.methodLink RX1 3 objectInit ∈ wsG := mT2 (List.mem_of_getElem? (i := 1) rfl) rfl
set_option maxRecDepth 8000 in
theorem mw_136 : Cond.fieldLink RX1 9 "RunWatcher$Keys" "places" "[J" ∈ wsG := mT2 (List.mem_of_getElem? (i := 2) rfl) rfl
set_option maxRecDepth 8000 in
theorem mw_137 : Cond.fieldLink RX1 15 "RunWatcher$Keys" "came" "[I" ∈ wsG := mT2 (List.mem_of_getElem? (i := 3) rfl) rfl
set_option maxRecDepth 8000 in
theorem mw_138 : Cond.methodLink RL 12 yX9_init ∈ wsG := mT4 (List.mem_of_getElem? (i := 140) rfl) rfl
set_option maxRecDepth 8000 in
theorem mw_139 : Cond.instanceMethod yX9_init ∈ wsG := mT4 (List.mem_of_getElem? (i := 141) rfl) rfl
set_option maxRecDepth 8000 in
theorem mw_140 : Cond.code yX9_init cX9_init 1 none ∈ wsG := mT4 (List.mem_of_getElem? (i := 142) rfl) rfl
set_option maxRecDepth 8000 in
theorem mw_141 : Cond.methodLink RX9 1 objectInit ∈ wsG := mT4 (List.mem_of_getElem? (i := 143) rfl) rfl
set_option maxRecDepth 8000 in
theorem mw_142 : Cond.arrayClass .byte ∈ wsG := mT5 (List.mem_of_getElem? (i := 83) rfl) rfl
set_option maxRecDepth 8000 in
theorem mw_143 : Cond.fieldLink RX9 7 "RunWatcherModel" "tape" "[B" ∈ wsG := mT4 (List.mem_of_getElem? (i := 145) rfl) rfl
set_option maxRecDepth 8000 in
theorem mw_144 : Cond.fieldLink RX9 13 "RunWatcherModel" "sign" "[I" ∈ wsG := mT4 (List.mem_of_getElem? (i := 150) rfl) rfl
set_option maxRecDepth 8000 in
theorem mw_145 : Cond.fieldLink RX9 17 "RunWatcherModel" "left" "[I" ∈ wsG := mT4 (List.mem_of_getElem? (i := 151) rfl) rfl
set_option maxRecDepth 8000 in
theorem mw_146 : Cond.fieldLink RX9 20 "RunWatcherModel" "right" "[I" ∈ wsG := mT4 (List.mem_of_getElem? (i := 152) rfl) rfl
set_option maxRecDepth 8000 in
theorem mw_147 : Cond.fieldLink RX9 23 "RunWatcherModel" "where" "[I" ∈ wsG := mT4 (List.mem_of_getElem? (i := 153) rfl) rfl
set_option maxRecDepth 8000 in
theorem mw_148 : Cond.fieldLink RX9 26 "RunWatcherModel" "operand" "[I" ∈ wsG := mT4 (List.mem_of_getElem? (i := 155) rfl) rfl
set_option maxRecDepth 8000 in
theorem mw_149 : Cond.fieldLink RX9 29 "RunWatcherModel" "wait" "[I" ∈ wsG := mT4 (List.mem_of_getElem? (i := 157) rfl) rfl
set_option maxRecDepth 8000 in
theorem mw_150 : Cond.fieldLink RX9 32 "RunWatcherModel" "waitAt" "[I" ∈ wsG := mT4 (List.mem_of_getElem? (i := 158) rfl) rfl
set_option maxRecDepth 8000 in
theorem mw_151 : Cond.fieldLink RX9 35 "RunWatcherModel" "within" "[Z" ∈ wsG := mT4 (List.mem_of_getElem? (i := 159) rfl) rfl
set_option maxRecDepth 8000 in
theorem mw_152 : Cond.fieldLink RX9 39 "RunWatcherModel" "bit" "[I" ∈ wsG := mT4 (List.mem_of_getElem? (i := 162) rfl) rfl
set_option maxRecDepth 8000 in
theorem mw_153 : Cond.fieldLink RX9 42 "RunWatcherModel" "holds" "[Z" ∈ wsG := mT4 (List.mem_of_getElem? (i := 165) rfl) rfl
set_option maxRecDepth 8000 in
theorem mw_154 : Cond.fieldLink RX9 45 "RunWatcherModel" "leadsBack" "[I" ∈ wsG := mT4 (List.mem_of_getElem? (i := 168) rfl) rfl
set_option maxRecDepth 8000 in
theorem mw_155 : Cond.fieldLink RX9 48 "RunWatcherModel" "tells" "[I" ∈ wsG := mT4 (List.mem_of_getElem? (i := 169) rfl) rfl
set_option maxRecDepth 8000 in
theorem mw_156 : Cond.fieldLink RX9 51 "RunWatcherModel" "root" "[Z" ∈ wsG := mT4 (List.mem_of_getElem? (i := 170) rfl) rfl
set_option maxRecDepth 8000 in
theorem mw_157 : Cond.fieldLink RX9 54 "RunWatcherModel" "can" "[Z" ∈ wsG := mT4 (List.mem_of_getElem? (i := 171) rfl) rfl
set_option maxRecDepth 8000 in
theorem mw_158 : Cond.fieldLink RX9 57 "RunWatcherModel" "rawBack" "[I" ∈ wsG := mT4 (List.mem_of_getElem? (i := 173) rfl) rfl
set_option maxRecDepth 8000 in
theorem mw_159 : Cond.constant RX9 60 (33300) ∈ wsG := mT4 (List.mem_of_getElem? (i := 144) rfl) rfl
set_option maxRecDepth 8000 in
theorem mw_160 : Cond.fieldLink RX9 61 "RunWatcherModel" "rawKept" "[Z" ∈ wsG := mT4 (List.mem_of_getElem? (i := 174) rfl) rfl
set_option maxRecDepth 8000 in
theorem mw_161 : Cond.fieldLink RX9 64 "RunWatcherModel" "rawTo" "[I" ∈ wsG := mT4 (List.mem_of_getElem? (i := 175) rfl) rfl
set_option maxRecDepth 8000 in
theorem mw_162 : Cond.fieldLink RX9 67 "RunWatcherModel" "listed" "[I" ∈ wsG := mT4 (List.mem_of_getElem? (i := 176) rfl) rfl
set_option maxRecDepth 8000 in
theorem mw_163 : Cond.fieldLink RX9 70 "RunWatcherModel" "list" "[I" ∈ wsG := mT4 (List.mem_of_getElem? (i := 177) rfl) rfl
set_option maxRecDepth 8000 in
theorem mw_164 : Cond.fieldLink RX9 73 "RunWatcherModel" "fresh" "[Z" ∈ wsG := mT4 (List.mem_of_getElem? (i := 178) rfl) rfl
set_option maxRecDepth 8000 in
theorem mw_165 : Cond.fieldLink RX9 76 "RunWatcherModel" "kind" "[I" ∈ wsG := mT4 (List.mem_of_getElem? (i := 179) rfl) rfl
set_option maxRecDepth 8000 in
theorem mw_166 : Cond.fieldLink RX9 79 "RunWatcherModel" "newKind" "[I" ∈ wsG := mT4 (List.mem_of_getElem? (i := 180) rfl) rfl
set_option maxRecDepth 8000 in
theorem mw_167 : Cond.fieldLink RX9 82 "RunWatcherModel" "example" "[I" ∈ wsG := mT4 (List.mem_of_getElem? (i := 182) rfl) rfl
set_option maxRecDepth 8000 in
theorem mw_168 : Cond.fieldLink RX9 85 "RunWatcherModel" "to" "[I" ∈ wsG := mT4 (List.mem_of_getElem? (i := 185) rfl) rfl
set_option maxRecDepth 8000 in
theorem mw_169 : Cond.fieldLink RX9 88 "RunWatcherModel" "kept" "[Z" ∈ wsG := mT4 (List.mem_of_getElem? (i := 186) rfl) rfl
set_option maxRecDepth 8000 in
theorem mw_170 : Cond.fieldLink RX9 91 "RunWatcherModel" "verdict" "[I" ∈ wsG := mT4 (List.mem_of_getElem? (i := 187) rfl) rfl
set_option maxRecDepth 8000 in
theorem mw_171 : Cond.fieldLink RX9 94 "RunWatcherModel" "number" "[I" ∈ wsG := mT4 (List.mem_of_getElem? (i := 188) rfl) rfl
set_option maxRecDepth 8000 in
theorem mw_172 : Cond.fieldLink RX9 97 "RunWatcherModel" "ofKind" "[I" ∈ wsG := mT4 (List.mem_of_getElem? (i := 189) rfl) rfl
set_option maxRecDepth 8000 in
theorem mw_173 : Cond.fieldLink RX9 100 "RunWatcherModel" "far" "[I" ∈ wsG := mT4 (List.mem_of_getElem? (i := 190) rfl) rfl
set_option maxRecDepth 8000 in
theorem mw_174 : Cond.fieldLink RX9 103 "RunWatcherModel" "row" "[I" ∈ wsG := mT4 (List.mem_of_getElem? (i := 191) rfl) rfl
set_option maxRecDepth 8000 in
theorem mw_175 : Cond.fieldLink RX9 106 "RunWatcherModel" "rows" "[J" ∈ wsG := mT4 (List.mem_of_getElem? (i := 192) rfl) rfl
set_option maxRecDepth 8000 in
theorem mw_176 : Cond.fieldLink RX9 110 "RunWatcherModel" "may" "[Z" ∈ wsG := mT4 (List.mem_of_getElem? (i := 193) rfl) rfl
set_option maxRecDepth 8000 in
theorem mw_177 : Cond.fieldLink RX9 113 "RunWatcherModel" "then" "[Z" ∈ wsG := mT4 (List.mem_of_getElem? (i := 194) rfl) rfl
set_option maxRecDepth 8000 in
theorem mw_178 : Cond.fieldLink RX9 116 "RunWatcherModel" "events" "[I" ∈ wsG := mT4 (List.mem_of_getElem? (i := 195) rfl) rfl
set_option maxRecDepth 8000 in
theorem mw_179 : Cond.fieldLink RX9 119 "RunWatcherModel" "oldTo" "[I" ∈ wsG := mT4 (List.mem_of_getElem? (i := 198) rfl) rfl
set_option maxRecDepth 8000 in
theorem mw_180 : Cond.fieldLink RX9 122 "RunWatcherModel" "oldKept" "[Z" ∈ wsG := mT4 (List.mem_of_getElem? (i := 199) rfl) rfl
set_option maxRecDepth 8000 in
theorem mw_181 : Cond.fieldLink RX9 125 "RunWatcherModel" "pair" "[I" ∈ wsG := mT4 (List.mem_of_getElem? (i := 201) rfl) rfl
set_option maxRecDepth 8000 in
theorem mw_182 : Cond.fieldLink RX9 128 "RunWatcherModel" "pairFar" "[I" ∈ wsG := mT4 (List.mem_of_getElem? (i := 202) rfl) rfl
set_option maxRecDepth 8000 in
theorem mw_183 : Cond.fieldLink RX9 131 "RunWatcherModel" "isMet" "[Z" ∈ wsG := mT4 (List.mem_of_getElem? (i := 203) rfl) rfl
set_option maxRecDepth 8000 in
theorem mw_184 : Cond.methodLink RL 15 yX8_feed ∈ wsG := mT2 (List.mem_of_getElem? (i := 43) rfl) rfl
set_option maxRecDepth 8000 in
theorem mw_185 : Cond.instanceMethod yX8_feed ∈ wsG := mT2 (List.mem_of_getElem? (i := 44) rfl) rfl
set_option maxRecDepth 8000 in
theorem mw_186 : Cond.selects RX8 yX8_feed yX8_feed ∈ wsG := mT2 (List.mem_of_getElem? (i := 45) rfl) rfl
set_option maxRecDepth 8000 in
theorem mw_187 : Cond.code yX8_feed cX8_feed 5 (some .int) ∈ wsG := mT2 (List.mem_of_getElem? (i := 46) rfl) rfl
set_option maxRecDepth 8000 in
theorem mw_188 : Cond.methodLink RX8 72 yX8_bytesIn ∈ wsG := mT2 (List.mem_of_getElem? (i := 47) rfl) rfl
set_option maxRecDepth 8000 in
theorem mw_189 : Cond.static yX8_bytesIn ∈ wsG := mT2 (List.mem_of_getElem? (i := 48) rfl) rfl
set_option maxRecDepth 8000 in
theorem mw_190 : Cond.code yX8_bytesIn cX8_bytesIn 3 (some .int) ∈ wsG := mT2 (List.mem_of_getElem? (i := 49) rfl) rfl
set_option maxRecDepth 8000 in
theorem mw_191 : Cond.methodLink RX8 76 yX8_byteOf ∈ wsG := mT2 (List.mem_of_getElem? (i := 50) rfl) rfl
set_option maxRecDepth 8000 in
theorem mw_192 : Cond.static yX8_byteOf ∈ wsG := mT2 (List.mem_of_getElem? (i := 51) rfl) rfl
set_option maxRecDepth 8000 in
theorem mw_193 : Cond.code yX8_byteOf cX8_byteOf 3 (some .int) ∈ wsG := mT2 (List.mem_of_getElem? (i := 52) rfl) rfl
set_option maxRecDepth 8000 in
theorem mw_194 : Cond.methodLink RX8 80 yX8_put ∈ wsG := mT2 (List.mem_of_getElem? (i := 53) rfl) rfl
set_option maxRecDepth 8000 in
theorem mw_195 : Cond.static yX8_put ∈ wsG := mT2 (List.mem_of_getElem? (i := 54) rfl) rfl
set_option maxRecDepth 8000 in
theorem mw_196 : Cond.code yX8_put cX8_put 3 none ∈ wsG := mT2 (List.mem_of_getElem? (i := 55) rfl) rfl
set_option maxRecDepth 8000 in
theorem mw_197 : Cond.methodLink RL 19 yX9_feed ∈ wsG := mT5 (List.mem_of_getElem? (i := 84) rfl) rfl
set_option maxRecDepth 8000 in
theorem mw_198 : Cond.instanceMethod yX9_feed ∈ wsG := mT5 (List.mem_of_getElem? (i := 85) rfl) rfl
set_option maxRecDepth 8000 in
theorem mw_199 : Cond.selects RX9 yX9_feed yX9_feed ∈ wsG := mT5 (List.mem_of_getElem? (i := 86) rfl) rfl
set_option maxRecDepth 8000 in
theorem mw_200 : Cond.code yX9_feed cX9_feed 5 (some .int) ∈ wsG := mT5 (List.mem_of_getElem? (i := 87) rfl) rfl
set_option maxRecDepth 8000 in
theorem mw_201 : Cond.constantLong RX9 134 (255) ∈ wsG := mT5 (List.mem_of_getElem? (i := 88) rfl) rfl
set_option maxRecDepth 8000 in
theorem mw_202 : Cond.fieldLink RX9 136 "RunWatcherModel" "bytes" "I" ∈ wsG := mT4 (List.mem_of_getElem? (i := 146) rfl) rfl
set_option maxRecDepth 8000 in
theorem mw_203 : Cond.methodLink RL 20 yX8_read ∈ wsG := mT2 (List.mem_of_getElem? (i := 56) rfl) rfl
set_option maxRecDepth 8000 in
theorem mw_204 : Cond.instanceMethod yX8_read ∈ wsG := mT2 (List.mem_of_getElem? (i := 57) rfl) rfl
set_option maxRecDepth 8000 in
theorem mw_205 : Cond.selects RX8 yX8_read yX8_read ∈ wsG := mT2 (List.mem_of_getElem? (i := 58) rfl) rfl
set_option maxRecDepth 8000 in
theorem mw_206 : Cond.code yX8_read cX8_read 2 (some .int) ∈ wsG := mT2 (List.mem_of_getElem? (i := 59) rfl) rfl
set_option maxRecDepth 8000 in
theorem mw_207 : Cond.methodLink RX8 84 yX5_reads ∈ wsG := mT2 (List.mem_of_getElem? (i := 60) rfl) rfl
set_option maxRecDepth 8000 in
theorem mw_208 : Cond.instanceMethod yX5_reads ∈ wsG := mT2 (List.mem_of_getElem? (i := 61) rfl) rfl
set_option maxRecDepth 8000 in
theorem mw_209 : Cond.selects RX5 yX5_reads yX5_reads ∈ wsG := mT2 (List.mem_of_getElem? (i := 62) rfl) rfl
set_option maxRecDepth 8000 in
theorem mw_210 : Cond.code yX5_reads cX5_reads 4 (some .boolean) ∈ wsG := mT2 (List.mem_of_getElem? (i := 63) rfl) rfl
set_option maxRecDepth 8000 in
theorem mw_211 : Cond.methodLink RX5 44 yX6_clear ∈ wsG := mT2 (List.mem_of_getElem? (i := 64) rfl) rfl
set_option maxRecDepth 8000 in
theorem mw_212 : Cond.instanceMethod yX6_clear ∈ wsG := mT2 (List.mem_of_getElem? (i := 65) rfl) rfl
set_option maxRecDepth 8000 in
theorem mw_213 : Cond.selects RX6 yX6_clear yX6_clear ∈ wsG := mT2 (List.mem_of_getElem? (i := 66) rfl) rfl
set_option maxRecDepth 8000 in
theorem mw_214 : Cond.code yX6_clear cX6_clear 1 none ∈ wsG := mT2 (List.mem_of_getElem? (i := 67) rfl) rfl
set_option maxRecDepth 8000 in
theorem mw_215 : Cond.methodLink RX5 47 yX5_readRule ∈ wsG := mT2 (List.mem_of_getElem? (i := 68) rfl) rfl
set_option maxRecDepth 8000 in
theorem mw_216 : Cond.instanceMethod yX5_readRule ∈ wsG := mT2 (List.mem_of_getElem? (i := 70) rfl) rfl
theorem mw_217 : Cond.selects RX5 yX5_readRule yX5_readRule ∈ wsG := mP1 (q := (yX5_readRule, _)) (List.mem_of_getElem? (i := 0) rfl) rfl
set_option maxRecDepth 8000 in
theorem mw_218 : Cond.code yX5_readRule cX5_readRule 4 (some .int) ∈ wsG := mT2 (List.mem_of_getElem? (i := 71) rfl) rfl
set_option maxRecDepth 8000 in
theorem mw_219 : Cond.methodLink RX5 75 yX5_readEither ∈ wsG := mT2 (List.mem_of_getElem? (i := 72) rfl) rfl
set_option maxRecDepth 8000 in
theorem mw_220 : Cond.instanceMethod yX5_readEither ∈ wsG := mT2 (List.mem_of_getElem? (i := 74) rfl) rfl
theorem mw_221 : Cond.selects RX5 yX5_readEither yX5_readEither ∈ wsG := mP1 (q := (yX5_readEither, _)) (List.mem_of_getElem? (i := 1) rfl) rfl
set_option maxRecDepth 8000 in
theorem mw_222 : Cond.methodLink RX5 78 yX5_takes ∈ wsG := mT2 (List.mem_of_getElem? (i := 129) rfl) rfl
set_option maxRecDepth 8000 in
theorem mw_223 : Cond.instanceMethod yX5_takes ∈ wsG := mT2 (List.mem_of_getElem? (i := 131) rfl) rfl
theorem mw_224 : Cond.selects RX5 yX5_takes yX5_takes ∈ wsG := mP1 (q := (yX5_takes, _)) (List.mem_of_getElem? (i := 11) rfl) rfl
set_option maxRecDepth 8000 in
theorem mw_225 : Cond.code yX5_takes cX5_takes 2 (some .boolean) ∈ wsG := mT2 (List.mem_of_getElem? (i := 132) rfl) rfl
set_option maxRecDepth 8000 in
theorem mw_226 : Cond.methodLink RX5 51 yX5_failed ∈ wsG := mT2 (List.mem_of_getElem? (i := 103) rfl) rfl
set_option maxRecDepth 8000 in
theorem mw_227 : Cond.instanceMethod yX5_failed ∈ wsG := mT2 (List.mem_of_getElem? (i := 105) rfl) rfl
theorem mw_228 : Cond.selects RX5 yX5_failed yX5_failed ∈ wsG := mP1 (q := (yX5_failed, _)) (List.mem_of_getElem? (i := 8) rfl) rfl
set_option maxRecDepth 8000 in
theorem mw_229 : Cond.code yX5_failed cX5_failed 1 (some .boolean) ∈ wsG := mT2 (List.mem_of_getElem? (i := 106) rfl) rfl
set_option maxRecDepth 8000 in
theorem mw_230 : Cond.methodLink RX5 55 yX5_here ∈ wsG := mT2 (List.mem_of_getElem? (i := 88) rfl) rfl
set_option maxRecDepth 8000 in
theorem mw_231 : Cond.instanceMethod yX5_here ∈ wsG := mT2 (List.mem_of_getElem? (i := 90) rfl) rfl
theorem mw_232 : Cond.selects RX5 yX5_here yX5_here ∈ wsG := mP1 (q := (yX5_here, _)) (List.mem_of_getElem? (i := 5) rfl) rfl
set_option maxRecDepth 8000 in
theorem mw_233 : Cond.code yX5_here cX5_here 2 (some .int) ∈ wsG := mT2 (List.mem_of_getElem? (i := 91) rfl) rfl
set_option maxRecDepth 8000 in
theorem mw_234 : Cond.static yX8_pick ∈ wsG := mT2 (List.mem_of_getElem? (i := 93) rfl) rfl
set_option maxRecDepth 8000 in
theorem mw_235 : Cond.code yX8_pick cX8_pick 2 (some .int) ∈ wsG := mT2 (List.mem_of_getElem? (i := 94) rfl) rfl
set_option maxRecDepth 8000 in
theorem mw_236 : Cond.methodLink RX5 68 yX5_beginsNode ∈ wsG := mT2 (List.mem_of_getElem? (i := 116) rfl) rfl
set_option maxRecDepth 8000 in
theorem mw_237 : Cond.instanceMethod yX5_beginsNode ∈ wsG := mT2 (List.mem_of_getElem? (i := 118) rfl) rfl
theorem mw_238 : Cond.selects RX5 yX5_beginsNode yX5_beginsNode ∈ wsG := mP1 (q := (yX5_beginsNode, _)) (List.mem_of_getElem? (i := 9) rfl) rfl
set_option maxRecDepth 8000 in
theorem mw_239 : Cond.code yX5_beginsNode cX5_beginsNode 1 (some .boolean) ∈ wsG := mT2 (List.mem_of_getElem? (i := 119) rfl) rfl
set_option maxRecDepth 8000 in
theorem mw_240 : Cond.methodLink RX5 58 yX5_failHere ∈ wsG := mT2 (List.mem_of_getElem? (i := 99) rfl) rfl
set_option maxRecDepth 8000 in
theorem mw_241 : Cond.instanceMethod yX5_failHere ∈ wsG := mT2 (List.mem_of_getElem? (i := 101) rfl) rfl
theorem mw_242 : Cond.selects RX5 yX5_failHere yX5_failHere ∈ wsG := mP1 (q := (yX5_failHere, _)) (List.mem_of_getElem? (i := 7) rfl) rfl
set_option maxRecDepth 8000 in
theorem mw_243 : Cond.code yX5_failHere cX5_failHere 1 none ∈ wsG := mT2 (List.mem_of_getElem? (i := 102) rfl) rfl
set_option maxRecDepth 8000 in
theorem mw_244 : Cond.methodLink RX5 82 yX5_made ∈ wsG := mT2 (List.mem_of_getElem? (i := 120) rfl) rfl
set_option maxRecDepth 8000 in
theorem mw_245 : Cond.instanceMethod yX5_made ∈ wsG := mT2 (List.mem_of_getElem? (i := 122) rfl) rfl
theorem mw_246 : Cond.selects RX5 yX5_made yX5_made ∈ wsG := mP1 (q := (yX5_made, _)) (List.mem_of_getElem? (i := 10) rfl) rfl
set_option maxRecDepth 8000 in
theorem mw_247 : Cond.code yX5_made cX5_made 5 (some .int) ∈ wsG := mT2 (List.mem_of_getElem? (i := 123) rfl) rfl
set_option maxRecDepth 8000 in
theorem mw_248 : Cond.methodLink RX5 71 yX6_add ∈ wsG := mT2 (List.mem_of_getElem? (i := 124) rfl) rfl
set_option maxRecDepth 8000 in
theorem mw_249 : Cond.instanceMethod yX6_add ∈ wsG := mT2 (List.mem_of_getElem? (i := 125) rfl) rfl
set_option maxRecDepth 8000 in
theorem mw_250 : Cond.selects RX6 yX6_add yX6_add ∈ wsG := mT2 (List.mem_of_getElem? (i := 126) rfl) rfl
set_option maxRecDepth 8000 in
theorem mw_251 : Cond.code yX6_add cX6_add 5 (some .int) ∈ wsG := mT2 (List.mem_of_getElem? (i := 127) rfl) rfl
set_option maxRecDepth 8000 in
theorem mw_252 : Cond.code yX5_readBoth cX5_readBoth 5 (some .int) ∈ wsG := mT2 (List.mem_of_getElem? (i := 79) rfl) rfl
set_option maxRecDepth 8000 in
theorem mw_253 : Cond.methodLink RX5 88 yX5_readPair ∈ wsG := mT2 (List.mem_of_getElem? (i := 80) rfl) rfl
set_option maxRecDepth 8000 in
theorem mw_254 : Cond.instanceMethod yX5_readPair ∈ wsG := mT2 (List.mem_of_getElem? (i := 82) rfl) rfl
theorem mw_255 : Cond.selects RX5 yX5_readPair yX5_readPair ∈ wsG := mP1 (q := (yX5_readPair, _)) (List.mem_of_getElem? (i := 3) rfl) rfl
set_option maxRecDepth 8000 in
theorem mw_256 : Cond.code yX5_readBracket cX5_readBracket 2 (some .int) ∈ wsG := mT2 (List.mem_of_getElem? (i := 98) rfl) rfl
set_option maxRecDepth 8000 in
theorem mw_257 : Cond.code yX5_readEither cX5_readEither 5 (some .int) ∈ wsG := mT2 (List.mem_of_getElem? (i := 75) rfl) rfl
set_option maxRecDepth 8000 in
theorem mw_258 : Cond.methodLink RX5 85 yX5_readBoth ∈ wsG := mT2 (List.mem_of_getElem? (i := 76) rfl) rfl
set_option maxRecDepth 8000 in
theorem mw_259 : Cond.instanceMethod yX5_readBoth ∈ wsG := mT2 (List.mem_of_getElem? (i := 78) rfl) rfl
theorem mw_260 : Cond.selects RX5 yX5_readBoth yX5_readBoth ∈ wsG := mP1 (q := (yX5_readBoth, _)) (List.mem_of_getElem? (i := 2) rfl) rfl
set_option maxRecDepth 8000 in
theorem mw_261 : Cond.code yX5_readOne cX5_readOne 4 (some .int) ∈ wsG := mT2 (List.mem_of_getElem? (i := 87) rfl) rfl
set_option maxRecDepth 8000 in
theorem mw_262 : Cond.methodLink RX5 94 yX5_readBracket ∈ wsG := mT2 (List.mem_of_getElem? (i := 95) rfl) rfl
set_option maxRecDepth 8000 in
theorem mw_263 : Cond.instanceMethod yX5_readBracket ∈ wsG := mT2 (List.mem_of_getElem? (i := 97) rfl) rfl
theorem mw_264 : Cond.selects RX5 yX5_readBracket yX5_readBracket ∈ wsG := mP1 (q := (yX5_readBracket, _)) (List.mem_of_getElem? (i := 6) rfl) rfl
set_option maxRecDepth 8000 in
theorem mw_265 : Cond.methodLink RX5 97 yX5_standsAheadOfOne ∈ wsG := mT2 (List.mem_of_getElem? (i := 107) rfl) rfl
set_option maxRecDepth 8000 in
theorem mw_266 : Cond.static yX5_standsAheadOfOne ∈ wsG := mT2 (List.mem_of_getElem? (i := 108) rfl) rfl
set_option maxRecDepth 8000 in
theorem mw_267 : Cond.code yX5_standsAheadOfOne cX5_standsAheadOfOne 1 (some .boolean) ∈ wsG := mT2 (List.mem_of_getElem? (i := 109) rfl) rfl
set_option maxRecDepth 8000 in
theorem mw_268 : Cond.methodLink RX5 100 yX6_looksBehind ∈ wsG := mT2 (List.mem_of_getElem? (i := 110) rfl) rfl
set_option maxRecDepth 8000 in
theorem mw_269 : Cond.static yX6_looksBehind ∈ wsG := mT2 (List.mem_of_getElem? (i := 111) rfl) rfl
set_option maxRecDepth 8000 in
theorem mw_270 : Cond.code yX6_looksBehind cX6_looksBehind 1 (some .boolean) ∈ wsG := mT2 (List.mem_of_getElem? (i := 112) rfl) rfl
set_option maxRecDepth 8000 in
theorem mw_271 : Cond.methodLink RX5 103 yX6_looksAhead ∈ wsG := mT2 (List.mem_of_getElem? (i := 113) rfl) rfl
set_option maxRecDepth 8000 in
theorem mw_272 : Cond.static yX6_looksAhead ∈ wsG := mT2 (List.mem_of_getElem? (i := 114) rfl) rfl
set_option maxRecDepth 8000 in
theorem mw_273 : Cond.code yX6_looksAhead cX6_looksAhead 1 (some .boolean) ∈ wsG := mT2 (List.mem_of_getElem? (i := 115) rfl) rfl
set_option maxRecDepth 8000 in
theorem mw_274 : Cond.methodLink RX5 91 yX5_readOne ∈ wsG := mT2 (List.mem_of_getElem? (i := 84) rfl) rfl
set_option maxRecDepth 8000 in
theorem mw_275 : Cond.instanceMethod yX5_readOne ∈ wsG := mT2 (List.mem_of_getElem? (i := 86) rfl) rfl
theorem mw_276 : Cond.selects RX5 yX5_readOne yX5_readOne ∈ wsG := mP1 (q := (yX5_readOne, _)) (List.mem_of_getElem? (i := 4) rfl) rfl
set_option maxRecDepth 8000 in
theorem mw_277 : Cond.code yX5_readPair cX5_readPair 5 (some .int) ∈ wsG := mT2 (List.mem_of_getElem? (i := 83) rfl) rfl
set_option maxRecDepth 8000 in
theorem mw_278 : Cond.methodLink RX5 61 yX6_firstPastFault ∈ wsG := mT2 (List.mem_of_getElem? (i := 133) rfl) rfl
set_option maxRecDepth 8000 in
theorem mw_279 : Cond.instanceMethod yX6_firstPastFault ∈ wsG := mT2 (List.mem_of_getElem? (i := 134) rfl) rfl
set_option maxRecDepth 8000 in
theorem mw_280 : Cond.selects RX6 yX6_firstPastFault yX6_firstPastFault ∈ wsG := mT2 (List.mem_of_getElem? (i := 135) rfl) rfl
set_option maxRecDepth 8000 in
theorem mw_281 : Cond.code yX6_firstPastFault cX6_firstPastFault 5 (some .int) ∈ wsG := mT2 (List.mem_of_getElem? (i := 136) rfl) rfl
set_option maxRecDepth 8000 in
theorem mw_282 : Cond.static yX8_set ∈ wsG := mT2 (List.mem_of_getElem? (i := 138) rfl) rfl
set_option maxRecDepth 8000 in
theorem mw_283 : Cond.code yX8_set cX8_set 3 none ∈ wsG := mT2 (List.mem_of_getElem? (i := 139) rfl) rfl
set_option maxRecDepth 8000 in
theorem mw_284 : Cond.static yX8_isSet ∈ wsG := mT2 (List.mem_of_getElem? (i := 142) rfl) rfl
set_option maxRecDepth 8000 in
theorem mw_285 : Cond.code yX8_isSet cX8_isSet 2 (some .boolean) ∈ wsG := mT2 (List.mem_of_getElem? (i := 143) rfl) rfl
set_option maxRecDepth 8000 in
theorem mw_286 : Cond.methodLink RX6 57 yX6_looksAhead ∈ wsG := mT2 (List.mem_of_getElem? (i := 144) rfl) rfl
set_option maxRecDepth 8000 in
theorem mw_287 : Cond.methodLink RX6 61 yX6_looksBehind ∈ wsG := mT2 (List.mem_of_getElem? (i := 145) rfl) rfl
set_option maxRecDepth 8000 in
theorem mw_288 : Cond.methodLink RX8 88 yX5_faultKind ∈ wsG := mT2 (List.mem_of_getElem? (i := 146) rfl) rfl
set_option maxRecDepth 8000 in
theorem mw_289 : Cond.instanceMethod yX5_faultKind ∈ wsG := mT2 (List.mem_of_getElem? (i := 147) rfl) rfl
set_option maxRecDepth 8000 in
theorem mw_290 : Cond.selects RX5 yX5_faultKind yX5_faultKind ∈ wsG := mT2 (List.mem_of_getElem? (i := 148) rfl) rfl
set_option maxRecDepth 8000 in
theorem mw_291 : Cond.code yX5_faultKind cX5_faultKind 1 (some .int) ∈ wsG := mT2 (List.mem_of_getElem? (i := 149) rfl) rfl
set_option maxRecDepth 8000 in
theorem mw_292 : Cond.methodLink RX8 91 yX5_faultByte ∈ wsG := mT2 (List.mem_of_getElem? (i := 150) rfl) rfl
set_option maxRecDepth 8000 in
theorem mw_293 : Cond.instanceMethod yX5_faultByte ∈ wsG := mT2 (List.mem_of_getElem? (i := 151) rfl) rfl
set_option maxRecDepth 8000 in
theorem mw_294 : Cond.selects RX5 yX5_faultByte yX5_faultByte ∈ wsG := mT2 (List.mem_of_getElem? (i := 152) rfl) rfl
set_option maxRecDepth 8000 in
theorem mw_295 : Cond.code yX5_faultByte cX5_faultByte 1 (some .int) ∈ wsG := mT2 (List.mem_of_getElem? (i := 153) rfl) rfl
set_option maxRecDepth 8000 in
theorem mw_296 : Cond.methodLink RX8 94 yX5_rule ∈ wsG := mT2 (List.mem_of_getElem? (i := 154) rfl) rfl
set_option maxRecDepth 8000 in
theorem mw_297 : Cond.instanceMethod yX5_rule ∈ wsG := mT2 (List.mem_of_getElem? (i := 155) rfl) rfl
set_option maxRecDepth 8000 in
theorem mw_298 : Cond.selects RX5 yX5_rule yX5_rule ∈ wsG := mT2 (List.mem_of_getElem? (i := 156) rfl) rfl
set_option maxRecDepth 8000 in
theorem mw_299 : Cond.code yX5_rule cX5_rule 1 (some (.object "RunWatcher$Rule")) ∈ wsG := mT2 (List.mem_of_getElem? (i := 157) rfl) rfl
set_option maxRecDepth 8000 in
theorem mw_300 : Cond.methodLink RX8 98 yX0_make ∈ wsG := mT2 (List.mem_of_getElem? (i := 158) rfl) rfl
set_option maxRecDepth 8000 in
theorem mw_301 : Cond.instanceMethod yX0_make ∈ wsG := mT2 (List.mem_of_getElem? (i := 159) rfl) rfl
set_option maxRecDepth 8000 in
theorem mw_302 : Cond.selects RX0 yX0_make yX0_make ∈ wsG := mT2 (List.mem_of_getElem? (i := 160) rfl) rfl
set_option maxRecDepth 8000 in
theorem mw_303 : Cond.code yX0_make cX0_make 5 none ∈ wsG := mT2 (List.mem_of_getElem? (i := 161) rfl) rfl
set_option maxRecDepth 8000 in
theorem mw_304 : Cond.methodLink RX0 32 yX6_giveBits ∈ wsG := mT2 (List.mem_of_getElem? (i := 162) rfl) rfl
set_option maxRecDepth 8000 in
theorem mw_305 : Cond.instanceMethod yX6_giveBits ∈ wsG := mT2 (List.mem_of_getElem? (i := 163) rfl) rfl
set_option maxRecDepth 8000 in
theorem mw_306 : Cond.selects RX6 yX6_giveBits yX6_giveBits ∈ wsG := mT2 (List.mem_of_getElem? (i := 164) rfl) rfl
set_option maxRecDepth 8000 in
theorem mw_307 : Cond.code yX6_giveBits cX6_giveBits 2 none ∈ wsG := mT2 (List.mem_of_getElem? (i := 165) rfl) rfl
set_option maxRecDepth 8000 in
theorem mw_308 : Cond.methodLink RX0 37 yX6_futureBits ∈ wsG := mT2 (List.mem_of_getElem? (i := 166) rfl) rfl
set_option maxRecDepth 8000 in
theorem mw_309 : Cond.instanceMethod yX6_futureBits ∈ wsG := mT2 (List.mem_of_getElem? (i := 167) rfl) rfl
set_option maxRecDepth 8000 in
theorem mw_310 : Cond.selects RX6 yX6_futureBits yX6_futureBits ∈ wsG := mT2 (List.mem_of_getElem? (i := 168) rfl) rfl
set_option maxRecDepth 8000 in
theorem mw_311 : Cond.code yX6_futureBits cX6_futureBits 1 (some .int) ∈ wsG := mT2 (List.mem_of_getElem? (i := 169) rfl) rfl
set_option maxRecDepth 8000 in
theorem mw_312 : Cond.methodLink RX0 40 yX6_pastBits ∈ wsG := mT2 (List.mem_of_getElem? (i := 170) rfl) rfl
set_option maxRecDepth 8000 in
theorem mw_313 : Cond.instanceMethod yX6_pastBits ∈ wsG := mT2 (List.mem_of_getElem? (i := 171) rfl) rfl
set_option maxRecDepth 8000 in
theorem mw_314 : Cond.selects RX6 yX6_pastBits yX6_pastBits ∈ wsG := mT2 (List.mem_of_getElem? (i := 172) rfl) rfl
set_option maxRecDepth 8000 in
theorem mw_315 : Cond.code yX6_pastBits cX6_pastBits 1 (some .int) ∈ wsG := mT2 (List.mem_of_getElem? (i := 173) rfl) rfl
set_option maxRecDepth 8000 in
theorem mw_316 : Cond.methodLink RX0 42 yX6_bitsOfNoPlace ∈ wsG := mT2 (List.mem_of_getElem? (i := 174) rfl) rfl
set_option maxRecDepth 8000 in
theorem mw_317 : Cond.instanceMethod yX6_bitsOfNoPlace ∈ wsG := mT2 (List.mem_of_getElem? (i := 175) rfl) rfl
set_option maxRecDepth 8000 in
theorem mw_318 : Cond.selects RX6 yX6_bitsOfNoPlace yX6_bitsOfNoPlace ∈ wsG := mT2 (List.mem_of_getElem? (i := 176) rfl) rfl
set_option maxRecDepth 8000 in
theorem mw_319 : Cond.code yX6_bitsOfNoPlace cX6_bitsOfNoPlace 4 (some .int) ∈ wsG := mT2 (List.mem_of_getElem? (i := 177) rfl) rfl
set_option maxRecDepth 8000 in
theorem mw_320 : Cond.methodLink RX0 45 yX0_all ∈ wsG := mT2 (List.mem_of_getElem? (i := 178) rfl) rfl
set_option maxRecDepth 8000 in
theorem mw_321 : Cond.instanceMethod yX0_all ∈ wsG := mT2 (List.mem_of_getElem? (i := 180) rfl) rfl
theorem mw_322 : Cond.selects RX0 yX0_all yX0_all ∈ wsG := mP1 (q := (yX0_all, _)) (List.mem_of_getElem? (i := 12) rfl) rfl
set_option maxRecDepth 8000 in
theorem mw_323 : Cond.code yX0_all cX0_all 1 (some .int) ∈ wsG := mT2 (List.mem_of_getElem? (i := 181) rfl) rfl
set_option maxRecDepth 8000 in
theorem mw_324 : Cond.methodLink RX0 71 Lib.Math.min.name ∈ wsG := mT2 (List.mem_of_getElem? (i := 182) rfl) rfl
set_option maxRecDepth 8000 in
theorem mw_325 : Cond.static Lib.Math.min.name ∈ wsG := mT2 (List.mem_of_getElem? (i := 183) rfl) rfl
set_option maxRecDepth 8000 in
theorem mw_326 : Cond.initialized "java/lang/Math" ∈ wsG := mT1 (List.mem_of_getElem? (i := 11) rfl) rfl
set_option maxRecDepth 8000 in
theorem mw_327 : Cond.methodLink RX0 48 yX6_valuesAt ∈ wsG := mT2 (List.mem_of_getElem? (i := 185) rfl) rfl
set_option maxRecDepth 8000 in
theorem mw_328 : Cond.instanceMethod yX6_valuesAt ∈ wsG := mT2 (List.mem_of_getElem? (i := 186) rfl) rfl
set_option maxRecDepth 8000 in
theorem mw_329 : Cond.selects RX6 yX6_valuesAt yX6_valuesAt ∈ wsG := mT2 (List.mem_of_getElem? (i := 187) rfl) rfl
set_option maxRecDepth 8000 in
theorem mw_330 : Cond.code yX6_valuesAt cX6_valuesAt 5 (some .int) ∈ wsG := mT2 (List.mem_of_getElem? (i := 188) rfl) rfl
set_option maxRecDepth 8000 in
theorem mw_331 : Cond.methodLink RX6 64 yX6_holds ∈ wsG := mT2 (List.mem_of_getElem? (i := 189) rfl) rfl
set_option maxRecDepth 8000 in
theorem mw_332 : Cond.instanceMethod yX6_holds ∈ wsG := mT2 (List.mem_of_getElem? (i := 191) rfl) rfl
theorem mw_333 : Cond.selects RX6 yX6_holds yX6_holds ∈ wsG := mP1 (q := (yX6_holds, _)) (List.mem_of_getElem? (i := 13) rfl) rfl
set_option maxRecDepth 8000 in
theorem mw_334 : Cond.code yX6_holds cX6_holds 9 (some .boolean) ∈ wsG := mT2 (List.mem_of_getElem? (i := 192) rfl) rfl
set_option maxRecDepth 8000 in
theorem mw_335 : Cond.static yX8_hasBit ∈ wsG := mT2 (List.mem_of_getElem? (i := 194) rfl) rfl
set_option maxRecDepth 8000 in
theorem mw_336 : Cond.code yX8_hasBit cX8_hasBit 3 (some .boolean) ∈ wsG := mT2 (List.mem_of_getElem? (i := 195) rfl) rfl
set_option maxRecDepth 8000 in
theorem mw_337 : Cond.methodLink RX0 52 yX6_bitsBeside ∈ wsG := mT2 (List.mem_of_getElem? (i := 196) rfl) rfl
set_option maxRecDepth 8000 in
theorem mw_338 : Cond.instanceMethod yX6_bitsBeside ∈ wsG := mT2 (List.mem_of_getElem? (i := 197) rfl) rfl
set_option maxRecDepth 8000 in
theorem mw_339 : Cond.selects RX6 yX6_bitsBeside yX6_bitsBeside ∈ wsG := mT2 (List.mem_of_getElem? (i := 198) rfl) rfl
set_option maxRecDepth 8000 in
theorem mw_340 : Cond.code yX6_bitsBeside cX6_bitsBeside 7 (some .int) ∈ wsG := mT2 (List.mem_of_getElem? (i := 199) rfl) rfl
set_option maxRecDepth 8000 in
theorem mw_341 : Cond.methodLink RX0 60 yX6_wholeHolds ∈ wsG := mT2 (List.mem_of_getElem? (i := 201) rfl) rfl
set_option maxRecDepth 8000 in
theorem mw_342 : Cond.instanceMethod yX6_wholeHolds ∈ wsG := mT2 (List.mem_of_getElem? (i := 202) rfl) rfl
set_option maxRecDepth 8000 in
theorem mw_343 : Cond.selects RX6 yX6_wholeHolds yX6_wholeHolds ∈ wsG := mT2 (List.mem_of_getElem? (i := 203) rfl) rfl
set_option maxRecDepth 8000 in
theorem mw_344 : Cond.code yX6_wholeHolds cX6_wholeHolds 2 (some .boolean) ∈ wsG := mT2 (List.mem_of_getElem? (i := 204) rfl) rfl
set_option maxRecDepth 8000 in
theorem mw_345 : Cond.methodLink RX0 68 yX0_findPossible ∈ wsG := mT2 (List.mem_of_getElem? (i := 206) rfl) rfl
set_option maxRecDepth 8000 in
theorem mw_346 : Cond.instanceMethod yX0_findPossible ∈ wsG := mT2 (List.mem_of_getElem? (i := 208) rfl) rfl
theorem mw_347 : Cond.selects RX0 yX0_findPossible yX0_findPossible ∈ wsG := mP1 (q := (yX0_findPossible, _)) (List.mem_of_getElem? (i := 14) rfl) rfl
set_option maxRecDepth 8000 in
theorem mw_348 : Cond.code yX0_findPossible cX0_findPossible 4 none ∈ wsG := mT2 (List.mem_of_getElem? (i := 209) rfl) rfl
set_option maxRecDepth 8000 in
theorem mw_349 : Cond.methodLink RX0 87 yX0_futureOf ∈ wsG := mT2 (List.mem_of_getElem? (i := 210) rfl) rfl
set_option maxRecDepth 8000 in
theorem mw_350 : Cond.instanceMethod yX0_futureOf ∈ wsG := mT2 (List.mem_of_getElem? (i := 211) rfl) rfl
set_option maxRecDepth 8000 in
theorem mw_351 : Cond.selects RX0 yX0_futureOf yX0_futureOf ∈ wsG := mT2 (List.mem_of_getElem? (i := 212) rfl) rfl
set_option maxRecDepth 8000 in
theorem mw_352 : Cond.code yX0_futureOf cX0_futureOf 2 (some .int) ∈ wsG := mT2 (List.mem_of_getElem? (i := 213) rfl) rfl
set_option maxRecDepth 8000 in
theorem mw_353 : Cond.methodLink RX0 76 yX0_futures ∈ wsG := mT2 (List.mem_of_getElem? (i := 214) rfl) rfl
set_option maxRecDepth 8000 in
theorem mw_354 : Cond.instanceMethod yX0_futures ∈ wsG := mT2 (List.mem_of_getElem? (i := 215) rfl) rfl
set_option maxRecDepth 8000 in
theorem mw_355 : Cond.selects RX0 yX0_futures yX0_futures ∈ wsG := mT2 (List.mem_of_getElem? (i := 216) rfl) rfl
set_option maxRecDepth 8000 in
theorem mw_356 : Cond.code yX0_futures cX0_futures 1 (some .int) ∈ wsG := mT2 (List.mem_of_getElem? (i := 217) rfl) rfl
set_option maxRecDepth 8000 in
theorem mw_357 : Cond.methodLink RX0 90 yX0_addPossible ∈ wsG := mT2 (List.mem_of_getElem? (i := 218) rfl) rfl
set_option maxRecDepth 8000 in
theorem mw_358 : Cond.instanceMethod yX0_addPossible ∈ wsG := mT2 (List.mem_of_getElem? (i := 220) rfl) rfl
theorem mw_359 : Cond.selects RX0 yX0_addPossible yX0_addPossible ∈ wsG := mP1 (q := (yX0_addPossible, _)) (List.mem_of_getElem? (i := 15) rfl) rfl
set_option maxRecDepth 8000 in
theorem mw_360 : Cond.code yX0_addPossible cX0_addPossible 7 (some .boolean) ∈ wsG := mT2 (List.mem_of_getElem? (i := 221) rfl) rfl
set_option maxRecDepth 8000 in
theorem mw_361 : Cond.methodLink RX0 93 yX0_turn ∈ wsG := mT2 (List.mem_of_getElem? (i := 222) rfl) rfl
set_option maxRecDepth 8000 in
theorem mw_362 : Cond.instanceMethod yX0_turn ∈ wsG := mT2 (List.mem_of_getElem? (i := 223) rfl) rfl
set_option maxRecDepth 8000 in
theorem mw_363 : Cond.selects RX0 yX0_turn yX0_turn ∈ wsG := mT2 (List.mem_of_getElem? (i := 224) rfl) rfl
set_option maxRecDepth 8000 in
theorem mw_364 : Cond.code yX0_turn cX0_turn 3 (some .int) ∈ wsG := mT2 (List.mem_of_getElem? (i := 225) rfl) rfl
set_option maxRecDepth 8000 in
theorem mw_365 : Cond.methodLink RX0 96 yX0_pastOf ∈ wsG := mT2 (List.mem_of_getElem? (i := 227) rfl) rfl
set_option maxRecDepth 8000 in
theorem mw_366 : Cond.instanceMethod yX0_pastOf ∈ wsG := mT2 (List.mem_of_getElem? (i := 228) rfl) rfl
set_option maxRecDepth 8000 in
theorem mw_367 : Cond.selects RX0 yX0_pastOf yX0_pastOf ∈ wsG := mT2 (List.mem_of_getElem? (i := 229) rfl) rfl
set_option maxRecDepth 8000 in
theorem mw_368 : Cond.code yX0_pastOf cX0_pastOf 2 (some .int) ∈ wsG := mT2 (List.mem_of_getElem? (i := 230) rfl) rfl
set_option maxRecDepth 8000 in
theorem mw_369 : Cond.methodLink RX0 99 yX0_both ∈ wsG := mT2 (List.mem_of_getElem? (i := 231) rfl) rfl
set_option maxRecDepth 8000 in
theorem mw_370 : Cond.instanceMethod yX0_both ∈ wsG := mT2 (List.mem_of_getElem? (i := 232) rfl) rfl
set_option maxRecDepth 8000 in
theorem mw_371 : Cond.selects RX0 yX0_both yX0_both ∈ wsG := mT2 (List.mem_of_getElem? (i := 233) rfl) rfl
set_option maxRecDepth 8000 in
theorem mw_372 : Cond.code yX0_both cX0_both 3 (some .int) ∈ wsG := mT2 (List.mem_of_getElem? (i := 234) rfl) rfl
set_option maxRecDepth 8000 in
theorem mw_373 : Cond.methodLink RX0 102 yX0_isPossible ∈ wsG := mT2 (List.mem_of_getElem? (i := 235) rfl) rfl
set_option maxRecDepth 8000 in
theorem mw_374 : Cond.instanceMethod yX0_isPossible ∈ wsG := mT2 (List.mem_of_getElem? (i := 236) rfl) rfl
set_option maxRecDepth 8000 in
theorem mw_375 : Cond.selects RX0 yX0_isPossible yX0_isPossible ∈ wsG := mT2 (List.mem_of_getElem? (i := 237) rfl) rfl
set_option maxRecDepth 8000 in
theorem mw_376 : Cond.code yX0_isPossible cX0_isPossible 2 (some .boolean) ∈ wsG := mT2 (List.mem_of_getElem? (i := 238) rfl) rfl
set_option maxRecDepth 8000 in
theorem mw_377 : Cond.methodLink RX8 102 yX4_make ∈ wsG := mT3 (List.mem_of_getElem? (i := 0) rfl) rfl
set_option maxRecDepth 8000 in
theorem mw_378 : Cond.instanceMethod yX4_make ∈ wsG := mT3 (List.mem_of_getElem? (i := 1) rfl) rfl
set_option maxRecDepth 8000 in
theorem mw_379 : Cond.selects RX4 yX4_make yX4_make ∈ wsG := mT3 (List.mem_of_getElem? (i := 2) rfl) rfl
set_option maxRecDepth 8000 in
theorem mw_380 : Cond.code yX4_make cX4_make 5 (some .boolean) ∈ wsG := mT3 (List.mem_of_getElem? (i := 3) rfl) rfl
set_option maxRecDepth 8000 in
theorem mw_381 : Cond.methodLink RX4 48 yX4_begin ∈ wsG := mT3 (List.mem_of_getElem? (i := 4) rfl) rfl
set_option maxRecDepth 8000 in
theorem mw_382 : Cond.instanceMethod yX4_begin ∈ wsG := mT3 (List.mem_of_getElem? (i := 6) rfl) rfl
theorem mw_383 : Cond.selects RX4 yX4_begin yX4_begin ∈ wsG := mP2 (q := (yX4_begin, _)) (List.mem_of_getElem? (i := 0) rfl) rfl
set_option maxRecDepth 8000 in
theorem mw_384 : Cond.code yX4_begin cX4_begin 3 none ∈ wsG := mT3 (List.mem_of_getElem? (i := 7) rfl) rfl
set_option maxRecDepth 8000 in
theorem mw_385 : Cond.methodLink RX4 81 Lib.Math.min.name ∈ wsG := mT3 (List.mem_of_getElem? (i := 9) rfl) rfl
set_option maxRecDepth 8000 in
theorem mw_386 : Cond.methodLink RX4 76 yX0_futures ∈ wsG := mT3 (List.mem_of_getElem? (i := 8) rfl) rfl
set_option maxRecDepth 8000 in
theorem mw_387 : Cond.methodLink RX4 87 yX0_pasts ∈ wsG := mT3 (List.mem_of_getElem? (i := 10) rfl) rfl
set_option maxRecDepth 8000 in
theorem mw_388 : Cond.instanceMethod yX0_pasts ∈ wsG := mT3 (List.mem_of_getElem? (i := 11) rfl) rfl
set_option maxRecDepth 8000 in
theorem mw_389 : Cond.selects RX0 yX0_pasts yX0_pasts ∈ wsG := mT3 (List.mem_of_getElem? (i := 12) rfl) rfl
set_option maxRecDepth 8000 in
theorem mw_390 : Cond.code yX0_pasts cX0_pasts 1 (some .int) ∈ wsG := mT3 (List.mem_of_getElem? (i := 13) rfl) rfl
set_option maxRecDepth 8000 in
theorem mw_391 : Cond.methodLink RX4 89 yX0_noPlace ∈ wsG := mT3 (List.mem_of_getElem? (i := 15) rfl) rfl
set_option maxRecDepth 8000 in
theorem mw_392 : Cond.instanceMethod yX0_noPlace ∈ wsG := mT3 (List.mem_of_getElem? (i := 16) rfl) rfl
set_option maxRecDepth 8000 in
theorem mw_393 : Cond.selects RX0 yX0_noPlace yX0_noPlace ∈ wsG := mT3 (List.mem_of_getElem? (i := 17) rfl) rfl
set_option maxRecDepth 8000 in
theorem mw_394 : Cond.code yX0_noPlace cX0_noPlace 1 (some .int) ∈ wsG := mT3 (List.mem_of_getElem? (i := 18) rfl) rfl
set_option maxRecDepth 8000 in
theorem mw_395 : Cond.methodLink RX4 92 yX0_pastOf ∈ wsG := mT3 (List.mem_of_getElem? (i := 19) rfl) rfl
set_option maxRecDepth 8000 in
theorem mw_396 : Cond.methodLink RX4 52 yX4_follow ∈ wsG := mT3 (List.mem_of_getElem? (i := 21) rfl) rfl
set_option maxRecDepth 8000 in
theorem mw_397 : Cond.instanceMethod yX4_follow ∈ wsG := mT3 (List.mem_of_getElem? (i := 23) rfl) rfl
theorem mw_398 : Cond.selects RX4 yX4_follow yX4_follow ∈ wsG := mP2 (q := (yX4_follow, _)) (List.mem_of_getElem? (i := 1) rfl) rfl
set_option maxRecDepth 8000 in
theorem mw_399 : Cond.code yX4_follow cX4_follow 8 none ∈ wsG := mT3 (List.mem_of_getElem? (i := 24) rfl) rfl
set_option maxRecDepth 8000 in
theorem mw_400 : Cond.static yX8_putLong ∈ wsG := mT3 (List.mem_of_getElem? (i := 26) rfl) rfl
set_option maxRecDepth 8000 in
theorem mw_401 : Cond.code yX8_putLong cX8_putLong 4 none ∈ wsG := mT3 (List.mem_of_getElem? (i := 27) rfl) rfl
set_option maxRecDepth 8000 in
theorem mw_402 : Cond.methodLink RX4 104 yX0_both ∈ wsG := mT3 (List.mem_of_getElem? (i := 29) rfl) rfl
set_option maxRecDepth 8000 in
theorem mw_403 : Cond.methodLink RX4 107 yX0_turn ∈ wsG := mT3 (List.mem_of_getElem? (i := 30) rfl) rfl
set_option maxRecDepth 8000 in
theorem mw_404 : Cond.methodLink RX4 110 yX0_isPossible ∈ wsG := mT3 (List.mem_of_getElem? (i := 31) rfl) rfl
set_option maxRecDepth 8000 in
theorem mw_405 : Cond.methodLink RX4 114 yX0_futureOf ∈ wsG := mT3 (List.mem_of_getElem? (i := 32) rfl) rfl
set_option maxRecDepth 8000 in
theorem mw_406 : Cond.methodLink RX4 117 yX0_keeps ∈ wsG := mT3 (List.mem_of_getElem? (i := 33) rfl) rfl
set_option maxRecDepth 8000 in
theorem mw_407 : Cond.instanceMethod yX0_keeps ∈ wsG := mT3 (List.mem_of_getElem? (i := 34) rfl) rfl
set_option maxRecDepth 8000 in
theorem mw_408 : Cond.selects RX0 yX0_keeps yX0_keeps ∈ wsG := mT3 (List.mem_of_getElem? (i := 35) rfl) rfl
set_option maxRecDepth 8000 in
theorem mw_409 : Cond.code yX0_keeps cX0_keeps 3 (some .boolean) ∈ wsG := mT3 (List.mem_of_getElem? (i := 36) rfl) rfl
set_option maxRecDepth 8000 in
theorem mw_410 : Cond.methodLink RX4 121 yX4_isIn ∈ wsG := mT3 (List.mem_of_getElem? (i := 37) rfl) rfl
set_option maxRecDepth 8000 in
theorem mw_411 : Cond.instanceMethod yX4_isIn ∈ wsG := mT3 (List.mem_of_getElem? (i := 39) rfl) rfl
theorem mw_412 : Cond.selects RX4 yX4_isIn yX4_isIn ∈ wsG := mP2 (q := (yX4_isIn, _)) (List.mem_of_getElem? (i := 2) rfl) rfl
set_option maxRecDepth 8000 in
theorem mw_413 : Cond.code yX4_isIn cX4_isIn 3 (some .boolean) ∈ wsG := mT3 (List.mem_of_getElem? (i := 40) rfl) rfl
set_option maxRecDepth 8000 in
theorem mw_414 : Cond.static yX8_pickLong ∈ wsG := mT3 (List.mem_of_getElem? (i := 42) rfl) rfl
set_option maxRecDepth 8000 in
theorem mw_415 : Cond.code yX8_pickLong cX8_pickLong 2 (some .long) ∈ wsG := mT3 (List.mem_of_getElem? (i := 43) rfl) rfl
set_option maxRecDepth 8000 in
theorem mw_416 : Cond.methodLink RX4 56 yX4_findWork ∈ wsG := mT3 (List.mem_of_getElem? (i := 45) rfl) rfl
set_option maxRecDepth 8000 in
theorem mw_417 : Cond.instanceMethod yX4_findWork ∈ wsG := mT3 (List.mem_of_getElem? (i := 47) rfl) rfl
theorem mw_418 : Cond.selects RX4 yX4_findWork yX4_findWork ∈ wsG := mP2 (q := (yX4_findWork, _)) (List.mem_of_getElem? (i := 3) rfl) rfl
set_option maxRecDepth 8000 in
theorem mw_419 : Cond.code yX4_findWork cX4_findWork 3 (some .int) ∈ wsG := mT3 (List.mem_of_getElem? (i := 48) rfl) rfl
set_option maxRecDepth 8000 in
theorem mw_420 : Cond.methodLink RX4 132 yX4_isWork ∈ wsG := mT3 (List.mem_of_getElem? (i := 49) rfl) rfl
set_option maxRecDepth 8000 in
theorem mw_421 : Cond.instanceMethod yX4_isWork ∈ wsG := mT3 (List.mem_of_getElem? (i := 51) rfl) rfl
theorem mw_422 : Cond.selects RX4 yX4_isWork yX4_isWork ∈ wsG := mP2 (q := (yX4_isWork, _)) (List.mem_of_getElem? (i := 4) rfl) rfl
set_option maxRecDepth 8000 in
theorem mw_423 : Cond.code yX4_isWork cX4_isWork 3 (some .boolean) ∈ wsG := mT3 (List.mem_of_getElem? (i := 52) rfl) rfl
set_option maxRecDepth 8000 in
theorem mw_424 : Cond.methodLink RX4 60 yX4_addWork ∈ wsG := mT3 (List.mem_of_getElem? (i := 53) rfl) rfl
set_option maxRecDepth 8000 in
theorem mw_425 : Cond.instanceMethod yX4_addWork ∈ wsG := mT3 (List.mem_of_getElem? (i := 55) rfl) rfl
theorem mw_426 : Cond.selects RX4 yX4_addWork yX4_addWork ∈ wsG := mP2 (q := (yX4_addWork, _)) (List.mem_of_getElem? (i := 5) rfl) rfl
set_option maxRecDepth 8000 in
theorem mw_427 : Cond.code yX4_addWork cX4_addWork 4 (some .int) ∈ wsG := mT3 (List.mem_of_getElem? (i := 56) rfl) rfl
set_option maxRecDepth 8000 in
theorem mw_428 : Cond.methodLink RX8 105 yX2_lessen ∈ wsG := mT3 (List.mem_of_getElem? (i := 57) rfl) rfl
set_option maxRecDepth 8000 in
theorem mw_429 : Cond.instanceMethod yX2_lessen ∈ wsG := mT3 (List.mem_of_getElem? (i := 58) rfl) rfl
set_option maxRecDepth 8000 in
theorem mw_430 : Cond.selects RX2 yX2_lessen yX2_lessen ∈ wsG := mT3 (List.mem_of_getElem? (i := 59) rfl) rfl
set_option maxRecDepth 8000 in
theorem mw_431 : Cond.code yX2_lessen cX2_lessen 4 (some .boolean) ∈ wsG := mT3 (List.mem_of_getElem? (i := 60) rfl) rfl
set_option maxRecDepth 8000 in
theorem mw_432 : Cond.methodLink RX2 34 yX4_size ∈ wsG := mT3 (List.mem_of_getElem? (i := 61) rfl) rfl
set_option maxRecDepth 8000 in
theorem mw_433 : Cond.instanceMethod yX4_size ∈ wsG := mT3 (List.mem_of_getElem? (i := 62) rfl) rfl
set_option maxRecDepth 8000 in
theorem mw_434 : Cond.selects RX4 yX4_size yX4_size ∈ wsG := mT3 (List.mem_of_getElem? (i := 63) rfl) rfl
set_option maxRecDepth 8000 in
theorem mw_435 : Cond.code yX4_size cX4_size 1 (some .int) ∈ wsG := mT3 (List.mem_of_getElem? (i := 64) rfl) rfl
set_option maxRecDepth 8000 in
theorem mw_436 : Cond.methodLink RX2 40 yX4_isKept ∈ wsG := mT3 (List.mem_of_getElem? (i := 65) rfl) rfl
set_option maxRecDepth 8000 in
theorem mw_437 : Cond.instanceMethod yX4_isKept ∈ wsG := mT3 (List.mem_of_getElem? (i := 66) rfl) rfl
set_option maxRecDepth 8000 in
theorem mw_438 : Cond.selects RX4 yX4_isKept yX4_isKept ∈ wsG := mT3 (List.mem_of_getElem? (i := 67) rfl) rfl
set_option maxRecDepth 8000 in
theorem mw_439 : Cond.code yX4_isKept cX4_isKept 2 (some .boolean) ∈ wsG := mT3 (List.mem_of_getElem? (i := 68) rfl) rfl
set_option maxRecDepth 8000 in
theorem mw_440 : Cond.methodLink RX2 48 yX2_split ∈ wsG := mT3 (List.mem_of_getElem? (i := 71) rfl) rfl
set_option maxRecDepth 8000 in
theorem mw_441 : Cond.instanceMethod yX2_split ∈ wsG := mT3 (List.mem_of_getElem? (i := 73) rfl) rfl
theorem mw_442 : Cond.selects RX2 yX2_split yX2_split ∈ wsG := mP2 (q := (yX2_split, _)) (List.mem_of_getElem? (i := 6) rfl) rfl
set_option maxRecDepth 8000 in
theorem mw_443 : Cond.code yX2_split cX2_split 4 (some .boolean) ∈ wsG := mT3 (List.mem_of_getElem? (i := 74) rfl) rfl
set_option maxRecDepth 8000 in
theorem mw_444 : Cond.methodLink RX2 52 yX2_markOf ∈ wsG := mT3 (List.mem_of_getElem? (i := 75) rfl) rfl
set_option maxRecDepth 8000 in
theorem mw_445 : Cond.instanceMethod yX2_markOf ∈ wsG := mT3 (List.mem_of_getElem? (i := 77) rfl) rfl
theorem mw_446 : Cond.selects RX2 yX2_markOf yX2_markOf ∈ wsG := mP2 (q := (yX2_markOf, _)) (List.mem_of_getElem? (i := 7) rfl) rfl
set_option maxRecDepth 8000 in
theorem mw_447 : Cond.code yX2_markOf cX2_markOf 5 (some .int) ∈ wsG := mT3 (List.mem_of_getElem? (i := 78) rfl) rfl
set_option maxRecDepth 8000 in
theorem mw_448 : Cond.methodLink RX2 64 yX4_next ∈ wsG := mT3 (List.mem_of_getElem? (i := 80) rfl) rfl
set_option maxRecDepth 8000 in
theorem mw_449 : Cond.instanceMethod yX4_next ∈ wsG := mT3 (List.mem_of_getElem? (i := 81) rfl) rfl
set_option maxRecDepth 8000 in
theorem mw_450 : Cond.selects RX4 yX4_next yX4_next ∈ wsG := mT3 (List.mem_of_getElem? (i := 82) rfl) rfl
set_option maxRecDepth 8000 in
theorem mw_451 : Cond.code yX4_next cX4_next 3 (some .int) ∈ wsG := mT3 (List.mem_of_getElem? (i := 83) rfl) rfl
set_option maxRecDepth 8000 in
theorem mw_452 : Cond.methodLink RX2 56 yX2_groupOfMark ∈ wsG := mT3 (List.mem_of_getElem? (i := 84) rfl) rfl
set_option maxRecDepth 8000 in
theorem mw_453 : Cond.instanceMethod yX2_groupOfMark ∈ wsG := mT3 (List.mem_of_getElem? (i := 86) rfl) rfl
theorem mw_454 : Cond.selects RX2 yX2_groupOfMark yX2_groupOfMark ∈ wsG := mP2 (q := (yX2_groupOfMark, _)) (List.mem_of_getElem? (i := 8) rfl) rfl
set_option maxRecDepth 8000 in
theorem mw_455 : Cond.code yX2_groupOfMark cX2_groupOfMark 4 (some .int) ∈ wsG := mT3 (List.mem_of_getElem? (i := 87) rfl) rfl
set_option maxRecDepth 8000 in
theorem mw_456 : Cond.methodLink RX8 109 yX2_putInto ∈ wsG := mT3 (List.mem_of_getElem? (i := 88) rfl) rfl
set_option maxRecDepth 8000 in
theorem mw_457 : Cond.instanceMethod yX2_putInto ∈ wsG := mT3 (List.mem_of_getElem? (i := 89) rfl) rfl
set_option maxRecDepth 8000 in
theorem mw_458 : Cond.selects RX2 yX2_putInto yX2_putInto ∈ wsG := mT3 (List.mem_of_getElem? (i := 90) rfl) rfl
set_option maxRecDepth 8000 in
theorem mw_459 : Cond.code yX2_putInto cX2_putInto 7 none ∈ wsG := mT3 (List.mem_of_getElem? (i := 91) rfl) rfl
set_option maxRecDepth 8000 in
theorem mw_460 : Cond.methodLink RX2 67 yX7_clear ∈ wsG := mT3 (List.mem_of_getElem? (i := 92) rfl) rfl
set_option maxRecDepth 8000 in
theorem mw_461 : Cond.instanceMethod yX7_clear ∈ wsG := mT3 (List.mem_of_getElem? (i := 93) rfl) rfl
set_option maxRecDepth 8000 in
theorem mw_462 : Cond.selects RX7 yX7_clear yX7_clear ∈ wsG := mT3 (List.mem_of_getElem? (i := 94) rfl) rfl
set_option maxRecDepth 8000 in
theorem mw_463 : Cond.code yX7_clear cX7_clear 1 none ∈ wsG := mT3 (List.mem_of_getElem? (i := 95) rfl) rfl
set_option maxRecDepth 8000 in
theorem mw_464 : Cond.methodLink RX2 72 yX2_meet ∈ wsG := mT3 (List.mem_of_getElem? (i := 96) rfl) rfl
set_option maxRecDepth 8000 in
theorem mw_465 : Cond.instanceMethod yX2_meet ∈ wsG := mT3 (List.mem_of_getElem? (i := 98) rfl) rfl
theorem mw_466 : Cond.selects RX2 yX2_meet yX2_meet ∈ wsG := mP2 (q := (yX2_meet, _)) (List.mem_of_getElem? (i := 9) rfl) rfl
set_option maxRecDepth 8000 in
theorem mw_467 : Cond.code yX2_meet cX2_meet 5 (some .int) ∈ wsG := mT3 (List.mem_of_getElem? (i := 99) rfl) rfl
set_option maxRecDepth 8000 in
theorem mw_468 : Cond.methodLink RX2 84 yX7_add ∈ wsG := mT3 (List.mem_of_getElem? (i := 100) rfl) rfl
set_option maxRecDepth 8000 in
theorem mw_469 : Cond.instanceMethod yX7_add ∈ wsG := mT3 (List.mem_of_getElem? (i := 101) rfl) rfl
set_option maxRecDepth 8000 in
theorem mw_470 : Cond.selects RX7 yX7_add yX7_add ∈ wsG := mT3 (List.mem_of_getElem? (i := 102) rfl) rfl
set_option maxRecDepth 8000 in
theorem mw_471 : Cond.code yX7_add cX7_add 2 (some .int) ∈ wsG := mT3 (List.mem_of_getElem? (i := 103) rfl) rfl
set_option maxRecDepth 8000 in
theorem mw_472 : Cond.methodLink RX2 76 yX7_size ∈ wsG := mT3 (List.mem_of_getElem? (i := 105) rfl) rfl
set_option maxRecDepth 8000 in
theorem mw_473 : Cond.instanceMethod yX7_size ∈ wsG := mT3 (List.mem_of_getElem? (i := 106) rfl) rfl
set_option maxRecDepth 8000 in
theorem mw_474 : Cond.selects RX7 yX7_size yX7_size ∈ wsG := mT3 (List.mem_of_getElem? (i := 107) rfl) rfl
set_option maxRecDepth 8000 in
theorem mw_475 : Cond.code yX7_size cX7_size 1 (some .int) ∈ wsG := mT3 (List.mem_of_getElem? (i := 108) rfl) rfl
set_option maxRecDepth 8000 in
theorem mw_476 : Cond.methodLink RX2 77 yX7_lead ∈ wsG := mT3 (List.mem_of_getElem? (i := 109) rfl) rfl
set_option maxRecDepth 8000 in
theorem mw_477 : Cond.instanceMethod yX7_lead ∈ wsG := mT3 (List.mem_of_getElem? (i := 110) rfl) rfl
set_option maxRecDepth 8000 in
theorem mw_478 : Cond.selects RX7 yX7_lead yX7_lead ∈ wsG := mT3 (List.mem_of_getElem? (i := 111) rfl) rfl
set_option maxRecDepth 8000 in
theorem mw_479 : Cond.code yX7_lead cX7_lead 4 none ∈ wsG := mT3 (List.mem_of_getElem? (i := 112) rfl) rfl
set_option maxRecDepth 8000 in
theorem mw_480 : Cond.methodLink RX2 81 yX7_finish ∈ wsG := mT3 (List.mem_of_getElem? (i := 113) rfl) rfl
set_option maxRecDepth 8000 in
theorem mw_481 : Cond.instanceMethod yX7_finish ∈ wsG := mT3 (List.mem_of_getElem? (i := 114) rfl) rfl
set_option maxRecDepth 8000 in
theorem mw_482 : Cond.selects RX7 yX7_finish yX7_finish ∈ wsG := mT3 (List.mem_of_getElem? (i := 115) rfl) rfl
set_option maxRecDepth 8000 in
theorem mw_483 : Cond.code yX7_finish cX7_finish 2 none ∈ wsG := mT3 (List.mem_of_getElem? (i := 116) rfl) rfl
set_option maxRecDepth 8000 in
theorem mw_484 : Cond.methodLink RX7 33 yX7_markSure ∈ wsG := mT3 (List.mem_of_getElem? (i := 117) rfl) rfl
set_option maxRecDepth 8000 in
theorem mw_485 : Cond.instanceMethod yX7_markSure ∈ wsG := mT3 (List.mem_of_getElem? (i := 119) rfl) rfl
theorem mw_486 : Cond.selects RX7 yX7_markSure yX7_markSure ∈ wsG := mP2 (q := (yX7_markSure, _)) (List.mem_of_getElem? (i := 10) rfl) rfl
set_option maxRecDepth 8000 in
theorem mw_487 : Cond.code yX7_markSure cX7_markSure 4 none ∈ wsG := mT3 (List.mem_of_getElem? (i := 120) rfl) rfl
set_option maxRecDepth 8000 in
theorem mw_488 : Cond.methodLink RX7 61 yX7_next ∈ wsG := mT3 (List.mem_of_getElem? (i := 121) rfl) rfl
set_option maxRecDepth 8000 in
theorem mw_489 : Cond.instanceMethod yX7_next ∈ wsG := mT3 (List.mem_of_getElem? (i := 122) rfl) rfl
set_option maxRecDepth 8000 in
theorem mw_490 : Cond.selects RX7 yX7_next yX7_next ∈ wsG := mT3 (List.mem_of_getElem? (i := 123) rfl) rfl
set_option maxRecDepth 8000 in
theorem mw_491 : Cond.code yX7_next cX7_next 3 (some .int) ∈ wsG := mT3 (List.mem_of_getElem? (i := 124) rfl) rfl
set_option maxRecDepth 8000 in
theorem mw_492 : Cond.methodLink RX7 53 yX7_verdictOf ∈ wsG := mT3 (List.mem_of_getElem? (i := 126) rfl) rfl
set_option maxRecDepth 8000 in
theorem mw_493 : Cond.instanceMethod yX7_verdictOf ∈ wsG := mT3 (List.mem_of_getElem? (i := 127) rfl) rfl
set_option maxRecDepth 8000 in
theorem mw_494 : Cond.selects RX7 yX7_verdictOf yX7_verdictOf ∈ wsG := mT3 (List.mem_of_getElem? (i := 128) rfl) rfl
set_option maxRecDepth 8000 in
theorem mw_495 : Cond.code yX7_verdictOf cX7_verdictOf 2 (some .int) ∈ wsG := mT3 (List.mem_of_getElem? (i := 129) rfl) rfl
set_option maxRecDepth 8000 in
theorem mw_496 : Cond.methodLink RX7 36 yX7_measure ∈ wsG := mT3 (List.mem_of_getElem? (i := 130) rfl) rfl
set_option maxRecDepth 8000 in
theorem mw_497 : Cond.instanceMethod yX7_measure ∈ wsG := mT3 (List.mem_of_getElem? (i := 132) rfl) rfl
theorem mw_498 : Cond.selects RX7 yX7_measure yX7_measure ∈ wsG := mP2 (q := (yX7_measure, _)) (List.mem_of_getElem? (i := 11) rfl) rfl
set_option maxRecDepth 8000 in
theorem mw_499 : Cond.code yX7_measure cX7_measure 5 none ∈ wsG := mT3 (List.mem_of_getElem? (i := 133) rfl) rfl
set_option maxRecDepth 8000 in
theorem mw_500 : Cond.methodLink RX7 65 yX7_distance ∈ wsG := mT3 (List.mem_of_getElem? (i := 134) rfl) rfl
set_option maxRecDepth 8000 in
theorem mw_501 : Cond.instanceMethod yX7_distance ∈ wsG := mT3 (List.mem_of_getElem? (i := 135) rfl) rfl
set_option maxRecDepth 8000 in
theorem mw_502 : Cond.selects RX7 yX7_distance yX7_distance ∈ wsG := mT3 (List.mem_of_getElem? (i := 136) rfl) rfl
set_option maxRecDepth 8000 in
theorem mw_503 : Cond.code yX7_distance cX7_distance 3 (some .int) ∈ wsG := mT3 (List.mem_of_getElem? (i := 137) rfl) rfl
set_option maxRecDepth 8000 in
theorem mw_504 : Cond.methodLink RX7 68 yX7_stepTo ∈ wsG := mT3 (List.mem_of_getElem? (i := 138) rfl) rfl
set_option maxRecDepth 8000 in
theorem mw_505 : Cond.instanceMethod yX7_stepTo ∈ wsG := mT3 (List.mem_of_getElem? (i := 140) rfl) rfl
theorem mw_506 : Cond.selects RX7 yX7_stepTo yX7_stepTo ∈ wsG := mP2 (q := (yX7_stepTo, _)) (List.mem_of_getElem? (i := 12) rfl) rfl
set_option maxRecDepth 8000 in
theorem mw_507 : Cond.code yX7_stepTo cX7_stepTo 5 (some .int) ∈ wsG := mT3 (List.mem_of_getElem? (i := 141) rfl) rfl
set_option maxRecDepth 8000 in
theorem mw_508 : Cond.methodLink RX7 40 yX7_countWays ∈ wsG := mT3 (List.mem_of_getElem? (i := 142) rfl) rfl
set_option maxRecDepth 8000 in
theorem mw_509 : Cond.instanceMethod yX7_countWays ∈ wsG := mT3 (List.mem_of_getElem? (i := 144) rfl) rfl
theorem mw_510 : Cond.selects RX7 yX7_countWays yX7_countWays ∈ wsG := mP2 (q := (yX7_countWays, _)) (List.mem_of_getElem? (i := 13) rfl) rfl
set_option maxRecDepth 8000 in
theorem mw_511 : Cond.code yX7_countWays cX7_countWays 6 none ∈ wsG := mT3 (List.mem_of_getElem? (i := 145) rfl) rfl
set_option maxRecDepth 8000 in
theorem mw_512 : Cond.methodLink RX7 72 yX7_keeps ∈ wsG := mT3 (List.mem_of_getElem? (i := 146) rfl) rfl
set_option maxRecDepth 8000 in
theorem mw_513 : Cond.instanceMethod yX7_keeps ∈ wsG := mT3 (List.mem_of_getElem? (i := 147) rfl) rfl
set_option maxRecDepth 8000 in
theorem mw_514 : Cond.selects RX7 yX7_keeps yX7_keeps ∈ wsG := mT3 (List.mem_of_getElem? (i := 148) rfl) rfl
set_option maxRecDepth 8000 in
theorem mw_515 : Cond.code yX7_keeps cX7_keeps 2 (some .boolean) ∈ wsG := mT3 (List.mem_of_getElem? (i := 149) rfl) rfl
set_option maxRecDepth 8000 in
theorem mw_516 : Cond.methodLink RX7 79 yX7_waysOf ∈ wsG := mT3 (List.mem_of_getElem? (i := 151) rfl) rfl
set_option maxRecDepth 8000 in
theorem mw_517 : Cond.instanceMethod yX7_waysOf ∈ wsG := mT3 (List.mem_of_getElem? (i := 152) rfl) rfl
set_option maxRecDepth 8000 in
theorem mw_518 : Cond.selects RX7 yX7_waysOf yX7_waysOf ∈ wsG := mT3 (List.mem_of_getElem? (i := 153) rfl) rfl
set_option maxRecDepth 8000 in
theorem mw_519 : Cond.code yX7_waysOf cX7_waysOf 3 (some .long) ∈ wsG := mT3 (List.mem_of_getElem? (i := 154) rfl) rfl
set_option maxRecDepth 8000 in
theorem mw_520 : Cond.methodLink RX8 113 yX1_restart ∈ wsG := mT3 (List.mem_of_getElem? (i := 156) rfl) rfl
set_option maxRecDepth 8000 in
theorem mw_521 : Cond.instanceMethod yX1_restart ∈ wsG := mT3 (List.mem_of_getElem? (i := 157) rfl) rfl
set_option maxRecDepth 8000 in
theorem mw_522 : Cond.selects RX1 yX1_restart yX1_restart ∈ wsG := mT3 (List.mem_of_getElem? (i := 158) rfl) rfl
set_option maxRecDepth 8000 in
theorem mw_523 : Cond.code yX1_restart cX1_restart 2 none ∈ wsG := mT3 (List.mem_of_getElem? (i := 159) rfl) rfl
set_option maxRecDepth 8000 in
theorem mw_524 : Cond.methodLink RX1 19 yX1_restart_ ∈ wsG := mT3 (List.mem_of_getElem? (i := 160) rfl) rfl
set_option maxRecDepth 8000 in
theorem mw_525 : Cond.instanceMethod yX1_restart_ ∈ wsG := mT3 (List.mem_of_getElem? (i := 161) rfl) rfl
set_option maxRecDepth 8000 in
theorem mw_526 : Cond.selects RX1 yX1_restart_ yX1_restart_ ∈ wsG := mT3 (List.mem_of_getElem? (i := 162) rfl) rfl
set_option maxRecDepth 8000 in
theorem mw_527 : Cond.code yX1_restart_ cX1_restart_ 2 none ∈ wsG := mT3 (List.mem_of_getElem? (i := 163) rfl) rfl
set_option maxRecDepth 8000 in
theorem mw_528 : Cond.methodLink RX8 116 yX7_size ∈ wsG := mT3 (List.mem_of_getElem? (i := 166) rfl) rfl
set_option maxRecDepth 8000 in
theorem mw_529 : Cond.methodLink RL 24 yX9_read ∈ wsG := mT5 (List.mem_of_getElem? (i := 97) rfl) rfl
set_option maxRecDepth 8000 in
theorem mw_530 : Cond.instanceMethod yX9_read ∈ wsG := mT5 (List.mem_of_getElem? (i := 98) rfl) rfl
set_option maxRecDepth 8000 in
theorem mw_531 : Cond.selects RX9 yX9_read yX9_read ∈ wsG := mT5 (List.mem_of_getElem? (i := 99) rfl) rfl
set_option maxRecDepth 8000 in
theorem mw_532 : Cond.code yX9_read cX9_read 2 (some .int) ∈ wsG := mT5 (List.mem_of_getElem? (i := 100) rfl) rfl
set_option maxRecDepth 8000 in
theorem mw_533 : Cond.fieldLink RX9 140 "RunWatcherModel" "fault" "I" ∈ wsG := mT4 (List.mem_of_getElem? (i := 147) rfl) rfl
set_option maxRecDepth 8000 in
theorem mw_534 : Cond.fieldLink RX9 160 "RunWatcherModel" "faultAt" "I" ∈ wsG := mT4 (List.mem_of_getElem? (i := 148) rfl) rfl
set_option maxRecDepth 8000 in
theorem mw_535 : Cond.fieldLink RX9 257 "RunWatcherModel" "isThere" "Z" ∈ wsG := mT4 (List.mem_of_getElem? (i := 183) rfl) rfl
set_option maxRecDepth 8000 in
theorem mw_536 : Cond.fieldLink RX9 237 "RunWatcherModel" "states" "I" ∈ wsG := mT4 (List.mem_of_getElem? (i := 184) rfl) rfl
set_option maxRecDepth 8000 in
theorem mw_537 : Cond.methodLink RX9 243 yX9_parse ∈ wsG := mT5 (List.mem_of_getElem? (i := 101) rfl) rfl
set_option maxRecDepth 8000 in
theorem mw_538 : Cond.instanceMethod yX9_parse ∈ wsG := mT5 (List.mem_of_getElem? (i := 103) rfl) rfl
theorem mw_539 : Cond.selects RX9 yX9_parse yX9_parse ∈ wsG := mP3 (q := (yX9_parse, _)) (List.mem_of_getElem? (i := 3) rfl) rfl
set_option maxRecDepth 8000 in
theorem mw_540 : Cond.code yX9_parse cX9_parse 9 (some .boolean) ∈ wsG := mT5 (List.mem_of_getElem? (i := 104) rfl) rfl
set_option maxRecDepth 8000 in
theorem mw_541 : Cond.fieldLink RX9 143 "RunWatcherModel" "nodes" "I" ∈ wsG := mT4 (List.mem_of_getElem? (i := 149) rfl) rfl
set_option maxRecDepth 8000 in
theorem mw_542 : Cond.fieldLink RX9 146 "RunWatcherModel" "made" "I" ∈ wsG := mT4 (List.mem_of_getElem? (i := 154) rfl) rfl
set_option maxRecDepth 8000 in
theorem mw_543 : Cond.fieldLink RX9 149 "RunWatcherModel" "waits" "I" ∈ wsG := mT4 (List.mem_of_getElem? (i := 156) rfl) rfl
set_option maxRecDepth 8000 in
theorem mw_544 : Cond.methodLink RX9 152 yX9_isPrefix ∈ wsG := mT5 (List.mem_of_getElem? (i := 105) rfl) rfl
set_option maxRecDepth 8000 in
theorem mw_545 : Cond.static yX9_isPrefix ∈ wsG := mT5 (List.mem_of_getElem? (i := 106) rfl) rfl
set_option maxRecDepth 8000 in
theorem mw_546 : Cond.code yX9_isPrefix cX9_isPrefix 1 (some .boolean) ∈ wsG := mT5 (List.mem_of_getElem? (i := 107) rfl) rfl
set_option maxRecDepth 8000 in
theorem mw_547 : Cond.methodLink RX9 163 yX9_rank ∈ wsG := mT5 (List.mem_of_getElem? (i := 108) rfl) rfl
set_option maxRecDepth 8000 in
theorem mw_548 : Cond.static yX9_rank ∈ wsG := mT5 (List.mem_of_getElem? (i := 109) rfl) rfl
set_option maxRecDepth 8000 in
theorem mw_549 : Cond.code yX9_rank cX9_rank 1 (some .int) ∈ wsG := mT5 (List.mem_of_getElem? (i := 110) rfl) rfl
set_option maxRecDepth 8000 in
theorem mw_550 : Cond.methodLink RX9 170 yX9_fail ∈ wsG := mT5 (List.mem_of_getElem? (i := 111) rfl) rfl
set_option maxRecDepth 8000 in
theorem mw_551 : Cond.instanceMethod yX9_fail ∈ wsG := mT5 (List.mem_of_getElem? (i := 113) rfl) rfl
theorem mw_552 : Cond.selects RX9 yX9_fail yX9_fail ∈ wsG := mP3 (q := (yX9_fail, _)) (List.mem_of_getElem? (i := 4) rfl) rfl
set_option maxRecDepth 8000 in
theorem mw_553 : Cond.code yX9_fail cX9_fail 2 (some .boolean) ∈ wsG := mT5 (List.mem_of_getElem? (i := 114) rfl) rfl
set_option maxRecDepth 8000 in
theorem mw_554 : Cond.methodLink RX9 156 yX9_node ∈ wsG := mT5 (List.mem_of_getElem? (i := 115) rfl) rfl
set_option maxRecDepth 8000 in
theorem mw_555 : Cond.instanceMethod yX9_node ∈ wsG := mT5 (List.mem_of_getElem? (i := 117) rfl) rfl
theorem mw_556 : Cond.selects RX9 yX9_node yX9_node ∈ wsG := mP3 (q := (yX9_node, _)) (List.mem_of_getElem? (i := 5) rfl) rfl
set_option maxRecDepth 8000 in
theorem mw_557 : Cond.code yX9_node cX9_node 5 none ∈ wsG := mT5 (List.mem_of_getElem? (i := 118) rfl) rfl
set_option maxRecDepth 8000 in
theorem mw_558 : Cond.methodLink RX9 173 yX9_reduceTo ∈ wsG := mT5 (List.mem_of_getElem? (i := 119) rfl) rfl
set_option maxRecDepth 8000 in
theorem mw_559 : Cond.instanceMethod yX9_reduceTo ∈ wsG := mT5 (List.mem_of_getElem? (i := 121) rfl) rfl
theorem mw_560 : Cond.selects RX9 yX9_reduceTo yX9_reduceTo ∈ wsG := mP3 (q := (yX9_reduceTo, _)) (List.mem_of_getElem? (i := 6) rfl) rfl
set_option maxRecDepth 8000 in
theorem mw_561 : Cond.code yX9_reduceTo cX9_reduceTo 4 none ∈ wsG := mT5 (List.mem_of_getElem? (i := 122) rfl) rfl
set_option maxRecDepth 8000 in
theorem mw_562 : Cond.methodLink RX9 167 yX9_reduce ∈ wsG := mT5 (List.mem_of_getElem? (i := 123) rfl) rfl
set_option maxRecDepth 8000 in
theorem mw_563 : Cond.instanceMethod yX9_reduce ∈ wsG := mT5 (List.mem_of_getElem? (i := 125) rfl) rfl
theorem mw_564 : Cond.selects RX9 yX9_reduce yX9_reduce ∈ wsG := mP3 (q := (yX9_reduce, _)) (List.mem_of_getElem? (i := 7) rfl) rfl
set_option maxRecDepth 8000 in
theorem mw_565 : Cond.code yX9_reduce cX9_reduce 2 none ∈ wsG := mT5 (List.mem_of_getElem? (i := 126) rfl) rfl
set_option maxRecDepth 8000 in
theorem mw_566 : Cond.methodLink RX9 177 yX9_push ∈ wsG := mT5 (List.mem_of_getElem? (i := 127) rfl) rfl
set_option maxRecDepth 8000 in
theorem mw_567 : Cond.instanceMethod yX9_push ∈ wsG := mT5 (List.mem_of_getElem? (i := 129) rfl) rfl
theorem mw_568 : Cond.selects RX9 yX9_push yX9_push ∈ wsG := mP3 (q := (yX9_push, _)) (List.mem_of_getElem? (i := 8) rfl) rfl
set_option maxRecDepth 8000 in
theorem mw_569 : Cond.code yX9_push cX9_push 3 none ∈ wsG := mT5 (List.mem_of_getElem? (i := 130) rfl) rfl
set_option maxRecDepth 8000 in
theorem mw_570 : Cond.methodLink RX9 181 yX9_isPure ∈ wsG := mT5 (List.mem_of_getElem? (i := 131) rfl) rfl
set_option maxRecDepth 8000 in
theorem mw_571 : Cond.instanceMethod yX9_isPure ∈ wsG := mT5 (List.mem_of_getElem? (i := 133) rfl) rfl
theorem mw_572 : Cond.selects RX9 yX9_isPure yX9_isPure ∈ wsG := mP3 (q := (yX9_isPure, _)) (List.mem_of_getElem? (i := 9) rfl) rfl
set_option maxRecDepth 8000 in
theorem mw_573 : Cond.code yX9_isPure cX9_isPure 6 (some .boolean) ∈ wsG := mT5 (List.mem_of_getElem? (i := 134) rfl) rfl
set_option maxRecDepth 8000 in
theorem mw_574 : Cond.methodLink RX9 246 yX9_prepare ∈ wsG := mT5 (List.mem_of_getElem? (i := 135) rfl) rfl
set_option maxRecDepth 8000 in
theorem mw_575 : Cond.instanceMethod yX9_prepare ∈ wsG := mT5 (List.mem_of_getElem? (i := 137) rfl) rfl
theorem mw_576 : Cond.selects RX9 yX9_prepare yX9_prepare ∈ wsG := mP3 (q := (yX9_prepare, _)) (List.mem_of_getElem? (i := 10) rfl) rfl
set_option maxRecDepth 8000 in
theorem mw_577 : Cond.code yX9_prepare cX9_prepare 6 none ∈ wsG := mT5 (List.mem_of_getElem? (i := 138) rfl) rfl
set_option maxRecDepth 8000 in
theorem mw_578 : Cond.fieldLink RX9 188 "RunWatcherModel" "backs" "I" ∈ wsG := mT4 (List.mem_of_getElem? (i := 161) rfl) rfl
set_option maxRecDepth 8000 in
theorem mw_579 : Cond.fieldLink RX9 200 "RunWatcherModel" "seen" "I" ∈ wsG := mT4 (List.mem_of_getElem? (i := 167) rfl) rfl
set_option maxRecDepth 8000 in
theorem mw_580 : Cond.fieldLink RX9 197 "RunWatcherModel" "nextBack" "I" ∈ wsG := mT4 (List.mem_of_getElem? (i := 166) rfl) rfl
set_option maxRecDepth 8000 in
theorem mw_581 : Cond.fieldLink RX9 191 "RunWatcherModel" "atEnd" "I" ∈ wsG := mT4 (List.mem_of_getElem? (i := 163) rfl) rfl
set_option maxRecDepth 8000 in
theorem mw_582 : Cond.methodLink RX9 207 yX9_layBits ∈ wsG := mT5 (List.mem_of_getElem? (i := 139) rfl) rfl
set_option maxRecDepth 8000 in
theorem mw_583 : Cond.instanceMethod yX9_layBits ∈ wsG := mT5 (List.mem_of_getElem? (i := 141) rfl) rfl
theorem mw_584 : Cond.selects RX9 yX9_layBits yX9_layBits ∈ wsG := mP3 (q := (yX9_layBits, _)) (List.mem_of_getElem? (i := 11) rfl) rfl
set_option maxRecDepth 8000 in
theorem mw_585 : Cond.code yX9_layBits cX9_layBits 3 none ∈ wsG := mT5 (List.mem_of_getElem? (i := 142) rfl) rfl
set_option maxRecDepth 8000 in
theorem mw_586 : Cond.fieldLink RX9 185 "RunWatcherModel" "aheads" "I" ∈ wsG := mT4 (List.mem_of_getElem? (i := 160) rfl) rfl
set_option maxRecDepth 8000 in
theorem mw_587 : Cond.fieldLink RX9 194 "RunWatcherModel" "atFirst" "I" ∈ wsG := mT4 (List.mem_of_getElem? (i := 164) rfl) rfl
set_option maxRecDepth 8000 in
theorem mw_588 : Cond.methodLink RX9 203 yX9_wide ∈ wsG := mT5 (List.mem_of_getElem? (i := 143) rfl) rfl
set_option maxRecDepth 8000 in
theorem mw_589 : Cond.instanceMethod yX9_wide ∈ wsG := mT5 (List.mem_of_getElem? (i := 145) rfl) rfl
theorem mw_590 : Cond.selects RX9 yX9_wide yX9_wide ∈ wsG := mP3 (q := (yX9_wide, _)) (List.mem_of_getElem? (i := 12) rfl) rfl
set_option maxRecDepth 8000 in
theorem mw_591 : Cond.code yX9_wide cX9_wide 1 (some .int) ∈ wsG := mT5 (List.mem_of_getElem? (i := 146) rfl) rfl
set_option maxRecDepth 8000 in
theorem mw_592 : Cond.methodLink RX9 210 yX9_look ∈ wsG := mT5 (List.mem_of_getElem? (i := 147) rfl) rfl
set_option maxRecDepth 8000 in
theorem mw_593 : Cond.instanceMethod yX9_look ∈ wsG := mT5 (List.mem_of_getElem? (i := 149) rfl) rfl
theorem mw_594 : Cond.selects RX9 yX9_look yX9_look ∈ wsG := mP3 (q := (yX9_look, _)) (List.mem_of_getElem? (i := 13) rfl) rfl
set_option maxRecDepth 8000 in
theorem mw_595 : Cond.code yX9_look cX9_look 13 none ∈ wsG := mT5 (List.mem_of_getElem? (i := 150) rfl) rfl
set_option maxRecDepth 8000 in
theorem mw_596 : Cond.methodLink RX9 214 yX9_spot ∈ wsG := mT5 (List.mem_of_getElem? (i := 151) rfl) rfl
set_option maxRecDepth 8000 in
theorem mw_597 : Cond.instanceMethod yX9_spot ∈ wsG := mT5 (List.mem_of_getElem? (i := 153) rfl) rfl
theorem mw_598 : Cond.selects RX9 yX9_spot yX9_spot ∈ wsG := mP3 (q := (yX9_spot, _)) (List.mem_of_getElem? (i := 14) rfl) rfl
set_option maxRecDepth 8000 in
theorem mw_599 : Cond.code yX9_spot cX9_spot 4 (some .int) ∈ wsG := mT5 (List.mem_of_getElem? (i := 154) rfl) rfl
set_option maxRecDepth 8000 in
theorem mw_600 : Cond.methodLink RX9 249 yX9_meet ∈ wsG := mT5 (List.mem_of_getElem? (i := 155) rfl) rfl
set_option maxRecDepth 8000 in
theorem mw_601 : Cond.instanceMethod yX9_meet ∈ wsG := mT5 (List.mem_of_getElem? (i := 157) rfl) rfl
theorem mw_602 : Cond.selects RX9 yX9_meet yX9_meet ∈ wsG := mP3 (q := (yX9_meet, _)) (List.mem_of_getElem? (i := 15) rfl) rfl
set_option maxRecDepth 8000 in
theorem mw_603 : Cond.code yX9_meet cX9_meet 7 (some .boolean) ∈ wsG := mT5 (List.mem_of_getElem? (i := 158) rfl) rfl
set_option maxRecDepth 8000 in
theorem mw_604 : Cond.fieldLink RX9 218 "RunWatcherModel" "raws" "I" ∈ wsG := mT4 (List.mem_of_getElem? (i := 172) rfl) rfl
set_option maxRecDepth 8000 in
theorem mw_605 : Cond.methodLink RX9 221 yX9_state ∈ wsG := mT5 (List.mem_of_getElem? (i := 159) rfl) rfl
set_option maxRecDepth 8000 in
theorem mw_606 : Cond.instanceMethod yX9_state ∈ wsG := mT5 (List.mem_of_getElem? (i := 161) rfl) rfl
theorem mw_607 : Cond.selects RX9 yX9_state yX9_state ∈ wsG := mP4 (q := (yX9_state, _)) (List.mem_of_getElem? (i := 0) rfl) rfl
set_option maxRecDepth 8000 in
theorem mw_608 : Cond.code yX9_state cX9_state 6 (some .int) ∈ wsG := mT5 (List.mem_of_getElem? (i := 162) rfl) rfl
set_option maxRecDepth 8000 in
theorem mw_609 : Cond.methodLink RX9 252 yX9_least ∈ wsG := mT5 (List.mem_of_getElem? (i := 163) rfl) rfl
set_option maxRecDepth 8000 in
theorem mw_610 : Cond.instanceMethod yX9_least ∈ wsG := mT5 (List.mem_of_getElem? (i := 165) rfl) rfl
theorem mw_611 : Cond.selects RX9 yX9_least yX9_least ∈ wsG := mP4 (q := (yX9_least, _)) (List.mem_of_getElem? (i := 1) rfl) rfl
set_option maxRecDepth 8000 in
theorem mw_612 : Cond.code yX9_least cX9_least 2 (some .boolean) ∈ wsG := mT5 (List.mem_of_getElem? (i := 166) rfl) rfl
set_option maxRecDepth 8000 in
theorem mw_613 : Cond.fieldLink RX9 228 "RunWatcherModel" "kinds" "I" ∈ wsG := mT4 (List.mem_of_getElem? (i := 181) rfl) rfl
set_option maxRecDepth 8000 in
theorem mw_614 : Cond.methodLink RX9 231 yX9_isKept ∈ wsG := mT5 (List.mem_of_getElem? (i := 167) rfl) rfl
set_option maxRecDepth 8000 in
theorem mw_615 : Cond.instanceMethod yX9_isKept ∈ wsG := mT5 (List.mem_of_getElem? (i := 169) rfl) rfl
theorem mw_616 : Cond.selects RX9 yX9_isKept yX9_isKept ∈ wsG := mP4 (q := (yX9_isKept, _)) (List.mem_of_getElem? (i := 2) rfl) rfl
set_option maxRecDepth 8000 in
theorem mw_617 : Cond.code yX9_isKept cX9_isKept 2 (some .boolean) ∈ wsG := mT5 (List.mem_of_getElem? (i := 170) rfl) rfl
set_option maxRecDepth 8000 in
theorem mw_618 : Cond.methodLink RX9 234 yX9_part ∈ wsG := mT5 (List.mem_of_getElem? (i := 171) rfl) rfl
set_option maxRecDepth 8000 in
theorem mw_619 : Cond.instanceMethod yX9_part ∈ wsG := mT5 (List.mem_of_getElem? (i := 173) rfl) rfl
theorem mw_620 : Cond.selects RX9 yX9_part yX9_part ∈ wsG := mP4 (q := (yX9_part, _)) (List.mem_of_getElem? (i := 3) rfl) rfl
set_option maxRecDepth 8000 in
theorem mw_621 : Cond.code yX9_part cX9_part 4 (some .boolean) ∈ wsG := mT5 (List.mem_of_getElem? (i := 174) rfl) rfl
set_option maxRecDepth 8000 in
theorem mw_622 : Cond.methodLink RX9 224 yX9_isLike ∈ wsG := mT5 (List.mem_of_getElem? (i := 175) rfl) rfl
set_option maxRecDepth 8000 in
theorem mw_623 : Cond.instanceMethod yX9_isLike ∈ wsG := mT5 (List.mem_of_getElem? (i := 177) rfl) rfl
theorem mw_624 : Cond.selects RX9 yX9_isLike yX9_isLike ∈ wsG := mP4 (q := (yX9_isLike, _)) (List.mem_of_getElem? (i := 4) rfl) rfl
set_option maxRecDepth 8000 in
theorem mw_625 : Cond.code yX9_isLike cX9_isLike 5 (some .boolean) ∈ wsG := mT5 (List.mem_of_getElem? (i := 178) rfl) rfl
set_option maxRecDepth 8000 in
theorem mw_626 : Cond.methodLink RX9 255 yX9_number ∈ wsG := mT5 (List.mem_of_getElem? (i := 179) rfl) rfl
set_option maxRecDepth 8000 in
theorem mw_627 : Cond.instanceMethod yX9_number ∈ wsG := mT5 (List.mem_of_getElem? (i := 181) rfl) rfl
theorem mw_628 : Cond.selects RX9 yX9_number yX9_number ∈ wsG := mP4 (q := (yX9_number, _)) (List.mem_of_getElem? (i := 5) rfl) rfl
set_option maxRecDepth 8000 in
theorem mw_629 : Cond.code yX9_number cX9_number 5 none ∈ wsG := mT5 (List.mem_of_getElem? (i := 182) rfl) rfl
set_option maxRecDepth 8000 in
theorem mw_630 : Cond.methodLink RX9 240 yX9_spread ∈ wsG := mT5 (List.mem_of_getElem? (i := 183) rfl) rfl
set_option maxRecDepth 8000 in
theorem mw_631 : Cond.instanceMethod yX9_spread ∈ wsG := mT5 (List.mem_of_getElem? (i := 185) rfl) rfl
theorem mw_632 : Cond.selects RX9 yX9_spread yX9_spread ∈ wsG := mP4 (q := (yX9_spread, _)) (List.mem_of_getElem? (i := 6) rfl) rfl
set_option maxRecDepth 8000 in
theorem mw_633 : Cond.code yX9_spread cX9_spread 6 none ∈ wsG := mT5 (List.mem_of_getElem? (i := 186) rfl) rfl
set_option maxRecDepth 8000 in
theorem mw_634 : Cond.methodLink RX9 261 yX9_begin ∈ wsG := mT5 (List.mem_of_getElem? (i := 187) rfl) rfl
set_option maxRecDepth 8000 in
theorem mw_635 : Cond.instanceMethod yX9_begin ∈ wsG := mT5 (List.mem_of_getElem? (i := 189) rfl) rfl
theorem mw_636 : Cond.selects RX9 yX9_begin yX9_begin ∈ wsG := mP4 (q := (yX9_begin, _)) (List.mem_of_getElem? (i := 7) rfl) rfl
set_option maxRecDepth 8000 in
theorem mw_637 : Cond.code yX9_begin cX9_begin 3 none ∈ wsG := mT5 (List.mem_of_getElem? (i := 190) rfl) rfl
set_option maxRecDepth 8000 in
theorem mw_638 : Cond.methodLink RL 25 yX8_fault ∈ wsG := mT3 (List.mem_of_getElem? (i := 167) rfl) rfl
set_option maxRecDepth 8000 in
theorem mw_639 : Cond.instanceMethod yX8_fault ∈ wsG := mT3 (List.mem_of_getElem? (i := 168) rfl) rfl
set_option maxRecDepth 8000 in
theorem mw_640 : Cond.selects RX8 yX8_fault yX8_fault ∈ wsG := mT3 (List.mem_of_getElem? (i := 169) rfl) rfl
set_option maxRecDepth 8000 in
theorem mw_641 : Cond.code yX8_fault cX8_fault 1 (some .int) ∈ wsG := mT3 (List.mem_of_getElem? (i := 170) rfl) rfl
set_option maxRecDepth 8000 in
theorem mw_642 : Cond.methodLink RL 28 yX9_fault ∈ wsG := mT5 (List.mem_of_getElem? (i := 93) rfl) rfl
set_option maxRecDepth 8000 in
theorem mw_643 : Cond.instanceMethod yX9_fault ∈ wsG := mT5 (List.mem_of_getElem? (i := 94) rfl) rfl
set_option maxRecDepth 8000 in
theorem mw_644 : Cond.selects RX9 yX9_fault yX9_fault ∈ wsG := mT5 (List.mem_of_getElem? (i := 95) rfl) rfl
set_option maxRecDepth 8000 in
theorem mw_645 : Cond.code yX9_fault cX9_fault 1 (some .int) ∈ wsG := mT5 (List.mem_of_getElem? (i := 96) rfl) rfl
set_option maxRecDepth 8000 in
theorem mw_646 : Cond.methodLink RL 29 yX8_cut ∈ wsG := mT3 (List.mem_of_getElem? (i := 171) rfl) rfl
set_option maxRecDepth 8000 in
theorem mw_647 : Cond.instanceMethod yX8_cut ∈ wsG := mT3 (List.mem_of_getElem? (i := 172) rfl) rfl
set_option maxRecDepth 8000 in
theorem mw_648 : Cond.selects RX8 yX8_cut yX8_cut ∈ wsG := mT3 (List.mem_of_getElem? (i := 173) rfl) rfl
set_option maxRecDepth 8000 in
theorem mw_649 : Cond.code yX8_cut cX8_cut 2 (some .int) ∈ wsG := mT3 (List.mem_of_getElem? (i := 174) rfl) rfl
set_option maxRecDepth 8000 in
theorem mw_650 : Cond.methodLink RL 32 yX9_cut ∈ wsG := mT5 (List.mem_of_getElem? (i := 89) rfl) rfl
set_option maxRecDepth 8000 in
theorem mw_651 : Cond.instanceMethod yX9_cut ∈ wsG := mT5 (List.mem_of_getElem? (i := 90) rfl) rfl
set_option maxRecDepth 8000 in
theorem mw_652 : Cond.selects RX9 yX9_cut yX9_cut ∈ wsG := mT5 (List.mem_of_getElem? (i := 91) rfl) rfl
set_option maxRecDepth 8000 in
theorem mw_653 : Cond.code yX9_cut cX9_cut 2 (some .int) ∈ wsG := mT5 (List.mem_of_getElem? (i := 92) rfl) rfl
set_option maxRecDepth 8000 in
theorem mw_654 : Cond.methodLink RL 33 yX8_leads ∈ wsG := mT3 (List.mem_of_getElem? (i := 175) rfl) rfl
set_option maxRecDepth 8000 in
theorem mw_655 : Cond.instanceMethod yX8_leads ∈ wsG := mT3 (List.mem_of_getElem? (i := 176) rfl) rfl
set_option maxRecDepth 8000 in
theorem mw_656 : Cond.selects RX8 yX8_leads yX8_leads ∈ wsG := mT3 (List.mem_of_getElem? (i := 177) rfl) rfl
set_option maxRecDepth 8000 in
theorem mw_657 : Cond.code yX8_leads cX8_leads 3 (some .int) ∈ wsG := mT3 (List.mem_of_getElem? (i := 178) rfl) rfl
set_option maxRecDepth 8000 in
theorem mw_658 : Cond.methodLink RX8 119 yX7_isThere ∈ wsG := mT3 (List.mem_of_getElem? (i := 179) rfl) rfl
set_option maxRecDepth 8000 in
theorem mw_659 : Cond.instanceMethod yX7_isThere ∈ wsG := mT3 (List.mem_of_getElem? (i := 180) rfl) rfl
set_option maxRecDepth 8000 in
theorem mw_660 : Cond.selects RX7 yX7_isThere yX7_isThere ∈ wsG := mT3 (List.mem_of_getElem? (i := 181) rfl) rfl
set_option maxRecDepth 8000 in
theorem mw_661 : Cond.code yX7_isThere cX7_isThere 1 (some .boolean) ∈ wsG := mT3 (List.mem_of_getElem? (i := 182) rfl) rfl
set_option maxRecDepth 8000 in
theorem mw_662 : Cond.methodLink RX8 123 yX7_has ∈ wsG := mT3 (List.mem_of_getElem? (i := 183) rfl) rfl
set_option maxRecDepth 8000 in
theorem mw_663 : Cond.instanceMethod yX7_has ∈ wsG := mT3 (List.mem_of_getElem? (i := 184) rfl) rfl
set_option maxRecDepth 8000 in
theorem mw_664 : Cond.selects RX7 yX7_has yX7_has ∈ wsG := mT3 (List.mem_of_getElem? (i := 185) rfl) rfl
set_option maxRecDepth 8000 in
theorem mw_665 : Cond.code yX7_has cX7_has 2 (some .boolean) ∈ wsG := mT3 (List.mem_of_getElem? (i := 186) rfl) rfl
set_option maxRecDepth 8000 in
theorem mw_666 : Cond.methodLink RX8 127 yX8_isEvent ∈ wsG := mT3 (List.mem_of_getElem? (i := 187) rfl) rfl
set_option maxRecDepth 8000 in
theorem mw_667 : Cond.static yX8_isEvent ∈ wsG := mT3 (List.mem_of_getElem? (i := 188) rfl) rfl
set_option maxRecDepth 8000 in
theorem mw_668 : Cond.code yX8_isEvent cX8_isEvent 1 (some .boolean) ∈ wsG := mT3 (List.mem_of_getElem? (i := 189) rfl) rfl
set_option maxRecDepth 8000 in
theorem mw_669 : Cond.methodLink RX8 130 yX7_next ∈ wsG := mT3 (List.mem_of_getElem? (i := 190) rfl) rfl
set_option maxRecDepth 8000 in
theorem mw_670 : Cond.methodLink RL 37 yX9_leads ∈ wsG := mT5 (List.mem_of_getElem? (i := 191) rfl) rfl
set_option maxRecDepth 8000 in
theorem mw_671 : Cond.instanceMethod yX9_leads ∈ wsG := mT5 (List.mem_of_getElem? (i := 192) rfl) rfl
set_option maxRecDepth 8000 in
theorem mw_672 : Cond.selects RX9 yX9_leads yX9_leads ∈ wsG := mT5 (List.mem_of_getElem? (i := 193) rfl) rfl
set_option maxRecDepth 8000 in
theorem mw_673 : Cond.code yX9_leads cX9_leads 3 (some .int) ∈ wsG := mT5 (List.mem_of_getElem? (i := 194) rfl) rfl
set_option maxRecDepth 8000 in
theorem mw_674 : Cond.constantLong RX9 271 (3) ∈ wsG := mT5 (List.mem_of_getElem? (i := 202) rfl) rfl
set_option maxRecDepth 8000 in
theorem mw_675 : Cond.methodLink RX9 268 yX9_isState ∈ wsG := mT5 (List.mem_of_getElem? (i := 195) rfl) rfl
set_option maxRecDepth 8000 in
theorem mw_676 : Cond.instanceMethod yX9_isState ∈ wsG := mT5 (List.mem_of_getElem? (i := 197) rfl) rfl
theorem mw_677 : Cond.selects RX9 yX9_isState yX9_isState ∈ wsG := mP4 (q := (yX9_isState, _)) (List.mem_of_getElem? (i := 8) rfl) rfl
set_option maxRecDepth 8000 in
theorem mw_678 : Cond.code yX9_isState cX9_isState 2 (some .boolean) ∈ wsG := mT5 (List.mem_of_getElem? (i := 198) rfl) rfl
set_option maxRecDepth 8000 in
theorem mw_679 : Cond.methodLink RX9 264 yX9_in ∈ wsG := mT5 (List.mem_of_getElem? (i := 199) rfl) rfl
set_option maxRecDepth 8000 in
theorem mw_680 : Cond.static yX9_in ∈ wsG := mT5 (List.mem_of_getElem? (i := 200) rfl) rfl
set_option maxRecDepth 8000 in
theorem mw_681 : Cond.code yX9_in cX9_in 6 (some .boolean) ∈ wsG := mT5 (List.mem_of_getElem? (i := 201) rfl) rfl
set_option maxRecDepth 8000 in
theorem mw_682 : Cond.methodLink RL 38 yX8_verdict ∈ wsG := mT3 (List.mem_of_getElem? (i := 191) rfl) rfl
set_option maxRecDepth 8000 in
theorem mw_683 : Cond.instanceMethod yX8_verdict ∈ wsG := mT3 (List.mem_of_getElem? (i := 192) rfl) rfl
set_option maxRecDepth 8000 in
theorem mw_684 : Cond.selects RX8 yX8_verdict yX8_verdict ∈ wsG := mT3 (List.mem_of_getElem? (i := 193) rfl) rfl
set_option maxRecDepth 8000 in
theorem mw_685 : Cond.code yX8_verdict cX8_verdict 3 (some .int) ∈ wsG := mT3 (List.mem_of_getElem? (i := 194) rfl) rfl
set_option maxRecDepth 8000 in
theorem mw_686 : Cond.methodLink RX8 134 yX8_refusalOfState ∈ wsG := mT3 (List.mem_of_getElem? (i := 195) rfl) rfl
set_option maxRecDepth 8000 in
theorem mw_687 : Cond.instanceMethod yX8_refusalOfState ∈ wsG := mT3 (List.mem_of_getElem? (i := 197) rfl) rfl
theorem mw_688 : Cond.selects RX8 yX8_refusalOfState yX8_refusalOfState ∈ wsG := mP2 (q := (yX8_refusalOfState, _)) (List.mem_of_getElem? (i := 14) rfl) rfl
set_option maxRecDepth 8000 in
theorem mw_689 : Cond.code yX8_refusalOfState cX8_refusalOfState 2 (some .int) ∈ wsG := mT3 (List.mem_of_getElem? (i := 198) rfl) rfl
set_option maxRecDepth 8000 in
theorem mw_690 : Cond.methodLink RX8 138 yX7_verdictOf ∈ wsG := mT3 (List.mem_of_getElem? (i := 199) rfl) rfl
set_option maxRecDepth 8000 in
theorem mw_691 : Cond.methodLink RL 42 yX9_verdict ∈ wsG := mT5 (List.mem_of_getElem? (i := 203) rfl) rfl
set_option maxRecDepth 8000 in
theorem mw_692 : Cond.instanceMethod yX9_verdict ∈ wsG := mT5 (List.mem_of_getElem? (i := 204) rfl) rfl
set_option maxRecDepth 8000 in
theorem mw_693 : Cond.selects RX9 yX9_verdict yX9_verdict ∈ wsG := mT5 (List.mem_of_getElem? (i := 205) rfl) rfl
set_option maxRecDepth 8000 in
theorem mw_694 : Cond.code yX9_verdict cX9_verdict 2 (some .int) ∈ wsG := mT5 (List.mem_of_getElem? (i := 206) rfl) rfl
set_option maxRecDepth 8000 in
theorem mw_695 : Cond.methodLink RL 43 yX8_far ∈ wsG := mT3 (List.mem_of_getElem? (i := 200) rfl) rfl
set_option maxRecDepth 8000 in
theorem mw_696 : Cond.instanceMethod yX8_far ∈ wsG := mT3 (List.mem_of_getElem? (i := 201) rfl) rfl
set_option maxRecDepth 8000 in
theorem mw_697 : Cond.selects RX8 yX8_far yX8_far ∈ wsG := mT3 (List.mem_of_getElem? (i := 202) rfl) rfl
set_option maxRecDepth 8000 in
theorem mw_698 : Cond.code yX8_far cX8_far 4 (some .int) ∈ wsG := mT3 (List.mem_of_getElem? (i := 203) rfl) rfl
set_option maxRecDepth 8000 in
theorem mw_699 : Cond.methodLink RX8 141 yX8_isVerdict ∈ wsG := mT3 (List.mem_of_getElem? (i := 204) rfl) rfl
set_option maxRecDepth 8000 in
theorem mw_700 : Cond.static yX8_isVerdict ∈ wsG := mT3 (List.mem_of_getElem? (i := 205) rfl) rfl
set_option maxRecDepth 8000 in
theorem mw_701 : Cond.code yX8_isVerdict cX8_isVerdict 1 (some .boolean) ∈ wsG := mT3 (List.mem_of_getElem? (i := 206) rfl) rfl
set_option maxRecDepth 8000 in
theorem mw_702 : Cond.methodLink RX8 144 yX7_distance ∈ wsG := mT3 (List.mem_of_getElem? (i := 207) rfl) rfl
set_option maxRecDepth 8000 in
theorem mw_703 : Cond.methodLink RL 46 yX9_far ∈ wsG := mT5 (List.mem_of_getElem? (i := 207) rfl) rfl
set_option maxRecDepth 8000 in
theorem mw_704 : Cond.instanceMethod yX9_far ∈ wsG := mT5 (List.mem_of_getElem? (i := 208) rfl) rfl
set_option maxRecDepth 8000 in
theorem mw_705 : Cond.selects RX9 yX9_far yX9_far ∈ wsG := mT5 (List.mem_of_getElem? (i := 209) rfl) rfl
set_option maxRecDepth 8000 in
theorem mw_706 : Cond.code yX9_far cX9_far 3 (some .int) ∈ wsG := mT5 (List.mem_of_getElem? (i := 210) rfl) rfl
set_option maxRecDepth 8000 in
theorem mw_707 : Cond.methodLink RX9 273 yX9_farTo ∈ wsG := mT5 (List.mem_of_getElem? (i := 211) rfl) rfl
set_option maxRecDepth 8000 in
theorem mw_708 : Cond.instanceMethod yX9_farTo ∈ wsG := mT5 (List.mem_of_getElem? (i := 213) rfl) rfl
theorem mw_709 : Cond.selects RX9 yX9_farTo yX9_farTo ∈ wsG := mP4 (q := (yX9_farTo, _)) (List.mem_of_getElem? (i := 9) rfl) rfl
set_option maxRecDepth 8000 in
theorem mw_710 : Cond.code yX9_farTo cX9_farTo 5 (some .int) ∈ wsG := mT5 (List.mem_of_getElem? (i := 214) rfl) rfl
set_option maxRecDepth 8000 in
theorem mw_711 : Cond.methodLink RL 47 yX8_toward ∈ wsG := mT3 (List.mem_of_getElem? (i := 208) rfl) rfl
set_option maxRecDepth 8000 in
theorem mw_712 : Cond.instanceMethod yX8_toward ∈ wsG := mT3 (List.mem_of_getElem? (i := 209) rfl) rfl
set_option maxRecDepth 8000 in
theorem mw_713 : Cond.selects RX8 yX8_toward yX8_toward ∈ wsG := mT3 (List.mem_of_getElem? (i := 210) rfl) rfl
set_option maxRecDepth 8000 in
theorem mw_714 : Cond.code yX8_toward cX8_toward 4 (some .int) ∈ wsG := mT3 (List.mem_of_getElem? (i := 211) rfl) rfl
set_option maxRecDepth 8000 in
theorem mw_715 : Cond.methodLink RX8 147 yX7_firstStep ∈ wsG := mT3 (List.mem_of_getElem? (i := 212) rfl) rfl
set_option maxRecDepth 8000 in
theorem mw_716 : Cond.instanceMethod yX7_firstStep ∈ wsG := mT3 (List.mem_of_getElem? (i := 213) rfl) rfl
set_option maxRecDepth 8000 in
theorem mw_717 : Cond.selects RX7 yX7_firstStep yX7_firstStep ∈ wsG := mT3 (List.mem_of_getElem? (i := 214) rfl) rfl
set_option maxRecDepth 8000 in
theorem mw_718 : Cond.code yX7_firstStep cX7_firstStep 4 (some .int) ∈ wsG := mT3 (List.mem_of_getElem? (i := 215) rfl) rfl
set_option maxRecDepth 8000 in
theorem mw_719 : Cond.methodLink RL 50 yX9_toward ∈ wsG := mT5 (List.mem_of_getElem? (i := 215) rfl) rfl
set_option maxRecDepth 8000 in
theorem mw_720 : Cond.instanceMethod yX9_toward ∈ wsG := mT5 (List.mem_of_getElem? (i := 216) rfl) rfl
set_option maxRecDepth 8000 in
theorem mw_721 : Cond.selects RX9 yX9_toward yX9_toward ∈ wsG := mT5 (List.mem_of_getElem? (i := 217) rfl) rfl
set_option maxRecDepth 8000 in
theorem mw_722 : Cond.code yX9_toward cX9_toward 5 (some .int) ∈ wsG := mT5 (List.mem_of_getElem? (i := 218) rfl) rfl
set_option maxRecDepth 8000 in
theorem mw_723 : Cond.methodLink RX9 277 yX9_far ∈ wsG := mT5 (List.mem_of_getElem? (i := 219) rfl) rfl
set_option maxRecDepth 8000 in
theorem mw_724 : Cond.methodLink RL 51 yX8_runs ∈ wsG := mT3 (List.mem_of_getElem? (i := 216) rfl) rfl
set_option maxRecDepth 8000 in
theorem mw_725 : Cond.instanceMethod yX8_runs ∈ wsG := mT3 (List.mem_of_getElem? (i := 217) rfl) rfl
set_option maxRecDepth 8000 in
theorem mw_726 : Cond.selects RX8 yX8_runs yX8_runs ∈ wsG := mT3 (List.mem_of_getElem? (i := 218) rfl) rfl
set_option maxRecDepth 8000 in
theorem mw_727 : Cond.code yX8_runs cX8_runs 4 (some .long) ∈ wsG := mT3 (List.mem_of_getElem? (i := 219) rfl) rfl
set_option maxRecDepth 8000 in
theorem mw_728 : Cond.constantLong RX8 157 (-2) ∈ wsG := mT3 (List.mem_of_getElem? (i := 224) rfl) rfl
set_option maxRecDepth 8000 in
theorem mw_729 : Cond.methodLink RX8 150 yX8_isRow ∈ wsG := mT3 (List.mem_of_getElem? (i := 220) rfl) rfl
set_option maxRecDepth 8000 in
theorem mw_730 : Cond.static yX8_isRow ∈ wsG := mT3 (List.mem_of_getElem? (i := 221) rfl) rfl
set_option maxRecDepth 8000 in
theorem mw_731 : Cond.code yX8_isRow cX8_isRow 1 (some .boolean) ∈ wsG := mT3 (List.mem_of_getElem? (i := 222) rfl) rfl
set_option maxRecDepth 8000 in
theorem mw_732 : Cond.methodLink RX8 153 yX7_waysOf ∈ wsG := mT3 (List.mem_of_getElem? (i := 223) rfl) rfl
set_option maxRecDepth 8000 in
theorem mw_733 : Cond.methodLink RL 55 yX9_runs ∈ wsG := mT5 (List.mem_of_getElem? (i := 220) rfl) rfl
set_option maxRecDepth 8000 in
theorem mw_734 : Cond.instanceMethod yX9_runs ∈ wsG := mT5 (List.mem_of_getElem? (i := 221) rfl) rfl
set_option maxRecDepth 8000 in
theorem mw_735 : Cond.selects RX9 yX9_runs yX9_runs ∈ wsG := mT5 (List.mem_of_getElem? (i := 222) rfl) rfl
set_option maxRecDepth 8000 in
theorem mw_736 : Cond.code yX9_runs cX9_runs 3 (some .long) ∈ wsG := mT5 (List.mem_of_getElem? (i := 223) rfl) rfl
set_option maxRecDepth 8000 in
theorem mw_737 : Cond.constantLong RX9 279 (-3) ∈ wsG := mT5 (List.mem_of_getElem? (i := 224) rfl) rfl
set_option maxRecDepth 8000 in
theorem mw_738 : Cond.constantLong RX9 281 (-1) ∈ wsG := mT5 (List.mem_of_getElem? (i := 225) rfl) rfl
set_option maxRecDepth 8000 in
theorem mw_739 : Cond.constantLong RX9 283 (25) ∈ wsG := mT5 (List.mem_of_getElem? (i := 226) rfl) rfl
set_option maxRecDepth 8000 in
theorem mw_740 : Cond.constantLong RX9 285 (-2) ∈ wsG := mT5 (List.mem_of_getElem? (i := 227) rfl) rfl
set_option maxRecDepth 8000 in
theorem mw_741 : Cond.methodLink RX9 287 yX9_countTo ∈ wsG := mT5 (List.mem_of_getElem? (i := 228) rfl) rfl
set_option maxRecDepth 8000 in
theorem mw_742 : Cond.instanceMethod yX9_countTo ∈ wsG := mT5 (List.mem_of_getElem? (i := 230) rfl) rfl
theorem mw_743 : Cond.selects RX9 yX9_countTo yX9_countTo ∈ wsG := mP4 (q := (yX9_countTo, _)) (List.mem_of_getElem? (i := 10) rfl) rfl
set_option maxRecDepth 8000 in
theorem mw_744 : Cond.code yX9_countTo cX9_countTo 7 none ∈ wsG := mT5 (List.mem_of_getElem? (i := 231) rfl) rfl
set_option maxRecDepth 8000 in
theorem mw_745 : Cond.methodLink RL 56 yX8_run ∈ wsG := mT3 (List.mem_of_getElem? (i := 225) rfl) rfl
set_option maxRecDepth 8000 in
theorem mw_746 : Cond.instanceMethod yX8_run ∈ wsG := mT3 (List.mem_of_getElem? (i := 226) rfl) rfl
set_option maxRecDepth 8000 in
theorem mw_747 : Cond.selects RX8 yX8_run yX8_run ∈ wsG := mT3 (List.mem_of_getElem? (i := 227) rfl) rfl
set_option maxRecDepth 8000 in
theorem mw_748 : Cond.code yX8_run cX8_run 5 (some .int) ∈ wsG := mT3 (List.mem_of_getElem? (i := 228) rfl) rfl
set_option maxRecDepth 8000 in
theorem mw_749 : Cond.methodLink RX8 159 yX7_eventOfFirstRow ∈ wsG := mT3 (List.mem_of_getElem? (i := 229) rfl) rfl
set_option maxRecDepth 8000 in
theorem mw_750 : Cond.instanceMethod yX7_eventOfFirstRow ∈ wsG := mT3 (List.mem_of_getElem? (i := 230) rfl) rfl
set_option maxRecDepth 8000 in
theorem mw_751 : Cond.selects RX7 yX7_eventOfFirstRow yX7_eventOfFirstRow ∈ wsG := mT3 (List.mem_of_getElem? (i := 231) rfl) rfl
set_option maxRecDepth 8000 in
theorem mw_752 : Cond.code yX7_eventOfFirstRow cX7_eventOfFirstRow 7 (some .int) ∈ wsG := mT3 (List.mem_of_getElem? (i := 232) rfl) rfl
set_option maxRecDepth 8000 in
theorem mw_753 : Cond.methodLink RX7 87 yX7_firstKeptEvent ∈ wsG := mT3 (List.mem_of_getElem? (i := 233) rfl) rfl
set_option maxRecDepth 8000 in
theorem mw_754 : Cond.instanceMethod yX7_firstKeptEvent ∈ wsG := mT3 (List.mem_of_getElem? (i := 235) rfl) rfl
theorem mw_755 : Cond.selects RX7 yX7_firstKeptEvent yX7_firstKeptEvent ∈ wsG := mP2 (q := (yX7_firstKeptEvent, _)) (List.mem_of_getElem? (i := 15) rfl) rfl
set_option maxRecDepth 8000 in
theorem mw_756 : Cond.code yX7_firstKeptEvent cX7_firstKeptEvent 4 (some .int) ∈ wsG := mT3 (List.mem_of_getElem? (i := 236) rfl) rfl
set_option maxRecDepth 8000 in
theorem mw_757 : Cond.methodLink RL 60 yX9_run ∈ wsG := mT5 (List.mem_of_getElem? (i := 232) rfl) rfl
set_option maxRecDepth 8000 in
theorem mw_758 : Cond.instanceMethod yX9_run ∈ wsG := mT5 (List.mem_of_getElem? (i := 233) rfl) rfl
set_option maxRecDepth 8000 in
theorem mw_759 : Cond.selects RX9 yX9_run yX9_run ∈ wsG := mT5 (List.mem_of_getElem? (i := 234) rfl) rfl
set_option maxRecDepth 8000 in
theorem mw_760 : Cond.code yX9_run cX9_run 9 (some .int) ∈ wsG := mT5 (List.mem_of_getElem? (i := 235) rfl) rfl
set_option maxRecDepth 8000 in
theorem mw_761 : Cond.methodLink RX9 290 yX9_runs ∈ wsG := mT5 (List.mem_of_getElem? (i := 236) rfl) rfl
set_option maxRecDepth 8000 in
theorem mw_762 : Cond.methodLink RL 61 yX8_event ∈ wsG := mT3 (List.mem_of_getElem? (i := 237) rfl) rfl
set_option maxRecDepth 8000 in
theorem mw_763 : Cond.instanceMethod yX8_event ∈ wsG := mT3 (List.mem_of_getElem? (i := 238) rfl) rfl
set_option maxRecDepth 8000 in
theorem mw_764 : Cond.selects RX8 yX8_event yX8_event ∈ wsG := mT3 (List.mem_of_getElem? (i := 239) rfl) rfl
set_option maxRecDepth 8000 in
theorem mw_765 : Cond.code yX8_event cX8_event 3 (some .int) ∈ wsG := mT4 (List.mem_of_getElem? (i := 0) rfl) rfl
set_option maxRecDepth 8000 in
theorem mw_766 : Cond.methodLink RX8 163 yX8_isKey ∈ wsG := mT4 (List.mem_of_getElem? (i := 1) rfl) rfl
set_option maxRecDepth 8000 in
theorem mw_767 : Cond.static yX8_isKey ∈ wsG := mT4 (List.mem_of_getElem? (i := 2) rfl) rfl
set_option maxRecDepth 8000 in
theorem mw_768 : Cond.code yX8_isKey cX8_isKey 1 (some .boolean) ∈ wsG := mT4 (List.mem_of_getElem? (i := 3) rfl) rfl
set_option maxRecDepth 8000 in
theorem mw_769 : Cond.methodLink RX8 166 yX1_step ∈ wsG := mT4 (List.mem_of_getElem? (i := 4) rfl) rfl
set_option maxRecDepth 8000 in
theorem mw_770 : Cond.instanceMethod yX1_step ∈ wsG := mT4 (List.mem_of_getElem? (i := 5) rfl) rfl
set_option maxRecDepth 8000 in
theorem mw_771 : Cond.selects RX1 yX1_step yX1_step ∈ wsG := mT4 (List.mem_of_getElem? (i := 6) rfl) rfl
set_option maxRecDepth 8000 in
theorem mw_772 : Cond.code yX1_step cX1_step 4 (some .int) ∈ wsG := mT4 (List.mem_of_getElem? (i := 7) rfl) rfl
set_option maxRecDepth 8000 in
theorem mw_773 : Cond.methodLink RX1 31 yX1_isLetGo ∈ wsG := mT4 (List.mem_of_getElem? (i := 8) rfl) rfl
set_option maxRecDepth 8000 in
theorem mw_774 : Cond.instanceMethod yX1_isLetGo ∈ wsG := mT4 (List.mem_of_getElem? (i := 9) rfl) rfl
set_option maxRecDepth 8000 in
theorem mw_775 : Cond.selects RX1 yX1_isLetGo yX1_isLetGo ∈ wsG := mT4 (List.mem_of_getElem? (i := 10) rfl) rfl
set_option maxRecDepth 8000 in
theorem mw_776 : Cond.code yX1_isLetGo cX1_isLetGo 4 (some .boolean) ∈ wsG := mT4 (List.mem_of_getElem? (i := 11) rfl) rfl
set_option maxRecDepth 8000 in
theorem mw_777 : Cond.methodLink RX1 47 yX1_verdictOf ∈ wsG := mT4 (List.mem_of_getElem? (i := 12) rfl) rfl
set_option maxRecDepth 8000 in
theorem mw_778 : Cond.instanceMethod yX1_verdictOf ∈ wsG := mT4 (List.mem_of_getElem? (i := 13) rfl) rfl
set_option maxRecDepth 8000 in
theorem mw_779 : Cond.selects RX1 yX1_verdictOf yX1_verdictOf ∈ wsG := mT4 (List.mem_of_getElem? (i := 14) rfl) rfl
set_option maxRecDepth 8000 in
theorem mw_780 : Cond.code yX1_verdictOf cX1_verdictOf 11 (some .int) ∈ wsG := mT4 (List.mem_of_getElem? (i := 15) rfl) rfl
set_option maxRecDepth 8000 in
theorem mw_781 : Cond.methodLink RX1 51 yX7_size ∈ wsG := mT4 (List.mem_of_getElem? (i := 17) rfl) rfl
set_option maxRecDepth 8000 in
theorem mw_782 : Cond.methodLink RX1 65 yX7_verdictOf ∈ wsG := mT4 (List.mem_of_getElem? (i := 19) rfl) rfl
set_option maxRecDepth 8000 in
theorem mw_783 : Cond.methodLink RX1 68 yX7_keeps ∈ wsG := mT4 (List.mem_of_getElem? (i := 20) rfl) rfl
set_option maxRecDepth 8000 in
theorem mw_784 : Cond.methodLink RX1 39 yX1_stepped ∈ wsG := mT4 (List.mem_of_getElem? (i := 21) rfl) rfl
set_option maxRecDepth 8000 in
theorem mw_785 : Cond.static yX1_stepped ∈ wsG := mT4 (List.mem_of_getElem? (i := 22) rfl) rfl
set_option maxRecDepth 8000 in
theorem mw_786 : Cond.code yX1_stepped cX1_stepped 7 (some .long) ∈ wsG := mT4 (List.mem_of_getElem? (i := 23) rfl) rfl
set_option maxRecDepth 8000 in
theorem mw_787 : Cond.methodLink RX1 61 yX7_next ∈ wsG := mT4 (List.mem_of_getElem? (i := 24) rfl) rfl
set_option maxRecDepth 8000 in
theorem mw_788 : Cond.methodLink RL 64 yX9_event ∈ wsG := mT5 (List.mem_of_getElem? (i := 237) rfl) rfl
set_option maxRecDepth 8000 in
theorem mw_789 : Cond.instanceMethod yX9_event ∈ wsG := mT5 (List.mem_of_getElem? (i := 238) rfl) rfl
set_option maxRecDepth 8000 in
theorem mw_790 : Cond.selects RX9 yX9_event yX9_event ∈ wsG := mT5 (List.mem_of_getElem? (i := 239) rfl) rfl
set_option maxRecDepth 8000 in
theorem mw_791 : Cond.code yX9_event cX9_event 3 (some .int) ∈ wsG := mT6 (List.mem_of_getElem? (i := 0) rfl) rfl
set_option maxRecDepth 8000 in
theorem mw_792 : Cond.methodLink RX9 299 yX9_isKey ∈ wsG := mT6 (List.mem_of_getElem? (i := 1) rfl) rfl
set_option maxRecDepth 8000 in
theorem mw_793 : Cond.static yX9_isKey ∈ wsG := mT6 (List.mem_of_getElem? (i := 2) rfl) rfl
set_option maxRecDepth 8000 in
theorem mw_794 : Cond.code yX9_isKey cX9_isKey 1 (some .boolean) ∈ wsG := mT6 (List.mem_of_getElem? (i := 3) rfl) rfl
set_option maxRecDepth 8000 in
theorem mw_795 : Cond.constantLong RX9 297 (15) ∈ wsG := mT6 (List.mem_of_getElem? (i := 4) rfl) rfl
set_option maxRecDepth 8000 in
theorem mw_796 : Cond.methodLink RX9 302 yX9_isGone ∈ wsG := mT6 (List.mem_of_getElem? (i := 5) rfl) rfl
set_option maxRecDepth 8000 in
theorem mw_797 : Cond.instanceMethod yX9_isGone ∈ wsG := mT6 (List.mem_of_getElem? (i := 7) rfl) rfl
theorem mw_798 : Cond.selects RX9 yX9_isGone yX9_isGone ∈ wsG := mP4 (q := (yX9_isGone, _)) (List.mem_of_getElem? (i := 11) rfl) rfl
set_option maxRecDepth 8000 in
theorem mw_799 : Cond.code yX9_isGone cX9_isGone 3 (some .boolean) ∈ wsG := mT6 (List.mem_of_getElem? (i := 8) rfl) rfl
set_option maxRecDepth 8000 in
theorem mw_800 : Cond.methodLink RX9 294 yX9_verdictOf ∈ wsG := mT6 (List.mem_of_getElem? (i := 9) rfl) rfl
set_option maxRecDepth 8000 in
theorem mw_801 : Cond.instanceMethod yX9_verdictOf ∈ wsG := mT6 (List.mem_of_getElem? (i := 11) rfl) rfl
theorem mw_802 : Cond.selects RX9 yX9_verdictOf yX9_verdictOf ∈ wsG := mP4 (q := (yX9_verdictOf, _)) (List.mem_of_getElem? (i := 12) rfl) rfl
set_option maxRecDepth 8000 in
theorem mw_803 : Cond.code yX9_verdictOf cX9_verdictOf 7 (some .int) ∈ wsG := mT6 (List.mem_of_getElem? (i := 12) rfl) rfl
set_option maxRecDepth 8000 in
theorem mw_804 : Cond.methodLink RX9 305 yX9_step ∈ wsG := mT6 (List.mem_of_getElem? (i := 13) rfl) rfl
set_option maxRecDepth 8000 in
theorem mw_805 : Cond.instanceMethod yX9_step ∈ wsG := mT6 (List.mem_of_getElem? (i := 15) rfl) rfl
theorem mw_806 : Cond.selects RX9 yX9_step yX9_step ∈ wsG := mP4 (q := (yX9_step, _)) (List.mem_of_getElem? (i := 13) rfl) rfl
set_option maxRecDepth 8000 in
theorem mw_807 : Cond.code yX9_step cX9_step 7 none ∈ wsG := mT6 (List.mem_of_getElem? (i := 16) rfl) rfl
set_option maxRecDepth 8000 in
theorem mw_808 : Cond.methodLink RL 65 yX8_lost ∈ wsG := mT4 (List.mem_of_getElem? (i := 26) rfl) rfl
set_option maxRecDepth 8000 in
theorem mw_809 : Cond.instanceMethod yX8_lost ∈ wsG := mT4 (List.mem_of_getElem? (i := 27) rfl) rfl
set_option maxRecDepth 8000 in
theorem mw_810 : Cond.selects RX8 yX8_lost yX8_lost ∈ wsG := mT4 (List.mem_of_getElem? (i := 28) rfl) rfl
set_option maxRecDepth 8000 in
theorem mw_811 : Cond.code yX8_lost cX8_lost 4 (some .int) ∈ wsG := mT4 (List.mem_of_getElem? (i := 29) rfl) rfl
set_option maxRecDepth 8000 in
theorem mw_812 : Cond.methodLink RX8 170 yX8_refusalOfKey ∈ wsG := mT4 (List.mem_of_getElem? (i := 30) rfl) rfl
set_option maxRecDepth 8000 in
theorem mw_813 : Cond.instanceMethod yX8_refusalOfKey ∈ wsG := mT4 (List.mem_of_getElem? (i := 32) rfl) rfl
theorem mw_814 : Cond.selects RX8 yX8_refusalOfKey yX8_refusalOfKey ∈ wsG := mP3 (q := (yX8_refusalOfKey, _)) (List.mem_of_getElem? (i := 0) rfl) rfl
set_option maxRecDepth 8000 in
theorem mw_815 : Cond.code yX8_refusalOfKey cX8_refusalOfKey 2 (some .int) ∈ wsG := mT4 (List.mem_of_getElem? (i := 33) rfl) rfl
set_option maxRecDepth 8000 in
theorem mw_816 : Cond.methodLink RX8 173 yX1_lose ∈ wsG := mT4 (List.mem_of_getElem? (i := 34) rfl) rfl
set_option maxRecDepth 8000 in
theorem mw_817 : Cond.instanceMethod yX1_lose ∈ wsG := mT4 (List.mem_of_getElem? (i := 35) rfl) rfl
set_option maxRecDepth 8000 in
theorem mw_818 : Cond.selects RX1 yX1_lose yX1_lose ∈ wsG := mT4 (List.mem_of_getElem? (i := 36) rfl) rfl
set_option maxRecDepth 8000 in
theorem mw_819 : Cond.code yX1_lose cX1_lose 11 (some .int) ∈ wsG := mT4 (List.mem_of_getElem? (i := 37) rfl) rfl
set_option maxRecDepth 8000 in
theorem mw_820 : Cond.methodLink RL 68 yX9_lost ∈ wsG := mT6 (List.mem_of_getElem? (i := 17) rfl) rfl
set_option maxRecDepth 8000 in
theorem mw_821 : Cond.instanceMethod yX9_lost ∈ wsG := mT6 (List.mem_of_getElem? (i := 18) rfl) rfl
set_option maxRecDepth 8000 in
theorem mw_822 : Cond.selects RX9 yX9_lost yX9_lost ∈ wsG := mT6 (List.mem_of_getElem? (i := 19) rfl) rfl
set_option maxRecDepth 8000 in
theorem mw_823 : Cond.code yX9_lost cX9_lost 5 (some .int) ∈ wsG := mT6 (List.mem_of_getElem? (i := 20) rfl) rfl
set_option maxRecDepth 8000 in
theorem mw_824 : Cond.constantLong RX9 309 (100) ∈ wsG := mT6 (List.mem_of_getElem? (i := 21) rfl) rfl
set_option maxRecDepth 8000 in
theorem mw_825 : Cond.methodLink RL 69 yX8_told ∈ wsG := mT4 (List.mem_of_getElem? (i := 38) rfl) rfl
set_option maxRecDepth 8000 in
theorem mw_826 : Cond.instanceMethod yX8_told ∈ wsG := mT4 (List.mem_of_getElem? (i := 39) rfl) rfl
set_option maxRecDepth 8000 in
theorem mw_827 : Cond.selects RX8 yX8_told yX8_told ∈ wsG := mT4 (List.mem_of_getElem? (i := 40) rfl) rfl
set_option maxRecDepth 8000 in
theorem mw_828 : Cond.code yX8_told cX8_told 3 (some .int) ∈ wsG := mT4 (List.mem_of_getElem? (i := 41) rfl) rfl
set_option maxRecDepth 8000 in
theorem mw_829 : Cond.methodLink RX8 176 yX1_verdictOf ∈ wsG := mT4 (List.mem_of_getElem? (i := 42) rfl) rfl
set_option maxRecDepth 8000 in
theorem mw_830 : Cond.methodLink RL 72 yX9_told ∈ wsG := mT6 (List.mem_of_getElem? (i := 22) rfl) rfl
set_option maxRecDepth 8000 in
theorem mw_831 : Cond.instanceMethod yX9_told ∈ wsG := mT6 (List.mem_of_getElem? (i := 23) rfl) rfl
set_option maxRecDepth 8000 in
theorem mw_832 : Cond.selects RX9 yX9_told yX9_told ∈ wsG := mT6 (List.mem_of_getElem? (i := 24) rfl) rfl
set_option maxRecDepth 8000 in
theorem mw_833 : Cond.code yX9_told cX9_told 2 (some .int) ∈ wsG := mT6 (List.mem_of_getElem? (i := 25) rfl) rfl
set_option maxRecDepth 8000 in
theorem mw_834 : Cond.methodLink RL 73 yX8_may ∈ wsG := mT4 (List.mem_of_getElem? (i := 43) rfl) rfl
set_option maxRecDepth 8000 in
theorem mw_835 : Cond.instanceMethod yX8_may ∈ wsG := mT4 (List.mem_of_getElem? (i := 44) rfl) rfl
set_option maxRecDepth 8000 in
theorem mw_836 : Cond.selects RX8 yX8_may yX8_may ∈ wsG := mT4 (List.mem_of_getElem? (i := 45) rfl) rfl
set_option maxRecDepth 8000 in
theorem mw_837 : Cond.code yX8_may cX8_may 3 (some .int) ∈ wsG := mT4 (List.mem_of_getElem? (i := 46) rfl) rfl
set_option maxRecDepth 8000 in
theorem mw_838 : Cond.methodLink RX8 179 yX1_statesOf ∈ wsG := mT4 (List.mem_of_getElem? (i := 47) rfl) rfl
set_option maxRecDepth 8000 in
theorem mw_839 : Cond.instanceMethod yX1_statesOf ∈ wsG := mT4 (List.mem_of_getElem? (i := 48) rfl) rfl
set_option maxRecDepth 8000 in
theorem mw_840 : Cond.selects RX1 yX1_statesOf yX1_statesOf ∈ wsG := mT4 (List.mem_of_getElem? (i := 49) rfl) rfl
set_option maxRecDepth 8000 in
theorem mw_841 : Cond.code yX1_statesOf cX1_statesOf 2 (some .int) ∈ wsG := mT4 (List.mem_of_getElem? (i := 50) rfl) rfl
set_option maxRecDepth 8000 in
theorem mw_842 : Cond.methodLink RX1 72 yJ13_bitCount_95d88 ∈ wsG := mT4 (List.mem_of_getElem? (i := 51) rfl) rfl
set_option maxRecDepth 8000 in
theorem mw_843 : Cond.static yJ13_bitCount_95d88 ∈ wsG := mT4 (List.mem_of_getElem? (i := 52) rfl) rfl
set_option maxRecDepth 8000 in
theorem mw_844 : Cond.initialized RJ13 ∈ wsG := mT1 (List.mem_of_getElem? (i := 12) rfl) rfl
set_option maxRecDepth 8000 in
theorem mw_845 : Cond.code yJ13_bitCount_95d88 cJ13_bitCount_95d88 2 (some .int) ∈ wsG := mT4 (List.mem_of_getElem? (i := 53) rfl) rfl
set_option maxRecDepth 8000 in
theorem mw_846 : Cond.constantLong RJ13 314 (6148914691236517205) ∈ wsG := mT4 (List.mem_of_getElem? (i := 54) rfl) rfl
set_option maxRecDepth 8000 in
theorem mw_847 : Cond.constantLong RJ13 316 (3689348814741910323) ∈ wsG := mT4 (List.mem_of_getElem? (i := 55) rfl) rfl
set_option maxRecDepth 8000 in
theorem mw_848 : Cond.constantLong RJ13 318 (1085102592571150095) ∈ wsG := mT4 (List.mem_of_getElem? (i := 56) rfl) rfl
set_option maxRecDepth 8000 in
theorem mw_849 : Cond.methodLink RL 76 yX9_may ∈ wsG := mT6 (List.mem_of_getElem? (i := 26) rfl) rfl
set_option maxRecDepth 8000 in
theorem mw_850 : Cond.instanceMethod yX9_may ∈ wsG := mT6 (List.mem_of_getElem? (i := 27) rfl) rfl
set_option maxRecDepth 8000 in
theorem mw_851 : Cond.selects RX9 yX9_may yX9_may ∈ wsG := mT6 (List.mem_of_getElem? (i := 28) rfl) rfl
set_option maxRecDepth 8000 in
theorem mw_852 : Cond.code yX9_may cX9_may 4 (some .int) ∈ wsG := mT6 (List.mem_of_getElem? (i := 29) rfl) rfl
set_option maxRecDepth 8000 in
theorem mw_853 : Cond.methodLink RL 77 yX8_state ∈ wsG := mT4 (List.mem_of_getElem? (i := 57) rfl) rfl
set_option maxRecDepth 8000 in
theorem mw_854 : Cond.instanceMethod yX8_state ∈ wsG := mT4 (List.mem_of_getElem? (i := 58) rfl) rfl
set_option maxRecDepth 8000 in
theorem mw_855 : Cond.selects RX8 yX8_state yX8_state ∈ wsG := mT4 (List.mem_of_getElem? (i := 59) rfl) rfl
set_option maxRecDepth 8000 in
theorem mw_856 : Cond.code yX8_state cX8_state 4 (some .int) ∈ wsG := mT4 (List.mem_of_getElem? (i := 60) rfl) rfl
set_option maxRecDepth 8000 in
theorem mw_857 : Cond.methodLink RX8 182 yX1_stateAt ∈ wsG := mT4 (List.mem_of_getElem? (i := 61) rfl) rfl
set_option maxRecDepth 8000 in
theorem mw_858 : Cond.instanceMethod yX1_stateAt ∈ wsG := mT4 (List.mem_of_getElem? (i := 62) rfl) rfl
set_option maxRecDepth 8000 in
theorem mw_859 : Cond.selects RX1 yX1_stateAt yX1_stateAt ∈ wsG := mT4 (List.mem_of_getElem? (i := 63) rfl) rfl
set_option maxRecDepth 8000 in
theorem mw_860 : Cond.code yX1_stateAt cX1_stateAt 7 (some .int) ∈ wsG := mT4 (List.mem_of_getElem? (i := 64) rfl) rfl
set_option maxRecDepth 8000 in
theorem mw_861 : Cond.methodLink RL 80 yX9_state_ ∈ wsG := mT6 (List.mem_of_getElem? (i := 30) rfl) rfl
set_option maxRecDepth 8000 in
theorem mw_862 : Cond.instanceMethod yX9_state_ ∈ wsG := mT6 (List.mem_of_getElem? (i := 31) rfl) rfl
set_option maxRecDepth 8000 in
theorem mw_863 : Cond.selects RX9 yX9_state_ yX9_state_ ∈ wsG := mT6 (List.mem_of_getElem? (i := 32) rfl) rfl
set_option maxRecDepth 8000 in
theorem mw_864 : Cond.code yX9_state_ cX9_state_ 5 (some .int) ∈ wsG := mT6 (List.mem_of_getElem? (i := 33) rfl) rfl
set_option maxRecDepth 8000 in
theorem mw_865 : Cond.methodLink RL 81 yX8_events ∈ wsG := mT4 (List.mem_of_getElem? (i := 65) rfl) rfl
set_option maxRecDepth 8000 in
theorem mw_866 : Cond.instanceMethod yX8_events ∈ wsG := mT4 (List.mem_of_getElem? (i := 66) rfl) rfl
set_option maxRecDepth 8000 in
theorem mw_867 : Cond.selects RX8 yX8_events yX8_events ∈ wsG := mT4 (List.mem_of_getElem? (i := 67) rfl) rfl
set_option maxRecDepth 8000 in
theorem mw_868 : Cond.code yX8_events cX8_events 3 (some .int) ∈ wsG := mT4 (List.mem_of_getElem? (i := 68) rfl) rfl
set_option maxRecDepth 8000 in
theorem mw_869 : Cond.methodLink RX8 185 yX1_eventsOf ∈ wsG := mT4 (List.mem_of_getElem? (i := 69) rfl) rfl
set_option maxRecDepth 8000 in
theorem mw_870 : Cond.instanceMethod yX1_eventsOf ∈ wsG := mT4 (List.mem_of_getElem? (i := 70) rfl) rfl
set_option maxRecDepth 8000 in
theorem mw_871 : Cond.selects RX1 yX1_eventsOf yX1_eventsOf ∈ wsG := mT4 (List.mem_of_getElem? (i := 71) rfl) rfl
set_option maxRecDepth 8000 in
theorem mw_872 : Cond.code yX1_eventsOf cX1_eventsOf 2 (some .int) ∈ wsG := mT4 (List.mem_of_getElem? (i := 72) rfl) rfl
set_option maxRecDepth 8000 in
theorem mw_873 : Cond.methodLink RL 84 yX9_events ∈ wsG := mT6 (List.mem_of_getElem? (i := 34) rfl) rfl
set_option maxRecDepth 8000 in
theorem mw_874 : Cond.instanceMethod yX9_events ∈ wsG := mT6 (List.mem_of_getElem? (i := 35) rfl) rfl
set_option maxRecDepth 8000 in
theorem mw_875 : Cond.selects RX9 yX9_events yX9_events ∈ wsG := mT6 (List.mem_of_getElem? (i := 36) rfl) rfl
set_option maxRecDepth 8000 in
theorem mw_876 : Cond.code yX9_events cX9_events 2 (some .int) ∈ wsG := mT6 (List.mem_of_getElem? (i := 37) rfl) rfl
set_option maxRecDepth 8000 in
theorem mw_877 : Cond.methodLink RL 85 yX8_anew ∈ wsG := mT4 (List.mem_of_getElem? (i := 73) rfl) rfl
set_option maxRecDepth 8000 in
theorem mw_878 : Cond.instanceMethod yX8_anew ∈ wsG := mT4 (List.mem_of_getElem? (i := 74) rfl) rfl
set_option maxRecDepth 8000 in
theorem mw_879 : Cond.selects RX8 yX8_anew yX8_anew ∈ wsG := mT4 (List.mem_of_getElem? (i := 75) rfl) rfl
set_option maxRecDepth 8000 in
theorem mw_880 : Cond.code yX8_anew cX8_anew 4 (some .int) ∈ wsG := mT4 (List.mem_of_getElem? (i := 76) rfl) rfl
set_option maxRecDepth 8000 in
theorem mw_881 : Cond.methodLink RX8 188 yX1_restart_ ∈ wsG := mT4 (List.mem_of_getElem? (i := 77) rfl) rfl
set_option maxRecDepth 8000 in
theorem mw_882 : Cond.methodLink RL 88 yX9_anew ∈ wsG := mT6 (List.mem_of_getElem? (i := 38) rfl) rfl
set_option maxRecDepth 8000 in
theorem mw_883 : Cond.instanceMethod yX9_anew ∈ wsG := mT6 (List.mem_of_getElem? (i := 39) rfl) rfl
set_option maxRecDepth 8000 in
theorem mw_884 : Cond.selects RX9 yX9_anew yX9_anew ∈ wsG := mT6 (List.mem_of_getElem? (i := 40) rfl) rfl
set_option maxRecDepth 8000 in
theorem mw_885 : Cond.code yX9_anew cX9_anew 3 (some .int) ∈ wsG := mT6 (List.mem_of_getElem? (i := 41) rfl) rfl
set_option maxRecDepth 8000 in
theorem mw_886 : Cond.methodLink RL 89 yX8_keep ∈ wsG := mT4 (List.mem_of_getElem? (i := 78) rfl) rfl
set_option maxRecDepth 8000 in
theorem mw_887 : Cond.instanceMethod yX8_keep ∈ wsG := mT4 (List.mem_of_getElem? (i := 79) rfl) rfl
set_option maxRecDepth 8000 in
theorem mw_888 : Cond.selects RX8 yX8_keep yX8_keep ∈ wsG := mT4 (List.mem_of_getElem? (i := 80) rfl) rfl
set_option maxRecDepth 8000 in
theorem mw_889 : Cond.code yX8_keep cX8_keep 1 (some .int) ∈ wsG := mT4 (List.mem_of_getElem? (i := 81) rfl) rfl
set_option maxRecDepth 8000 in
theorem mw_890 : Cond.methodLink RX8 191 yX7_copyFrom ∈ wsG := mT4 (List.mem_of_getElem? (i := 82) rfl) rfl
set_option maxRecDepth 8000 in
theorem mw_891 : Cond.instanceMethod yX7_copyFrom ∈ wsG := mT4 (List.mem_of_getElem? (i := 83) rfl) rfl
set_option maxRecDepth 8000 in
theorem mw_892 : Cond.selects RX7 yX7_copyFrom yX7_copyFrom ∈ wsG := mT4 (List.mem_of_getElem? (i := 84) rfl) rfl
set_option maxRecDepth 8000 in
theorem mw_893 : Cond.code yX7_copyFrom cX7_copyFrom 2 none ∈ wsG := mT4 (List.mem_of_getElem? (i := 85) rfl) rfl
set_option maxRecDepth 8000 in
theorem mw_894 : Cond.methodLink RX7 43 arraycopyName ∈ wsG := mT4 (List.mem_of_getElem? (i := 86) rfl) rfl
set_option maxRecDepth 8000 in
theorem mw_895 : Cond.native arraycopyName ∈ wsG := mT4 (List.mem_of_getElem? (i := 88) rfl) rfl
set_option maxRecDepth 8000 in
theorem mw_896 : Cond.static arraycopyName ∈ wsG := mT4 (List.mem_of_getElem? (i := 87) rfl) rfl
set_option maxRecDepth 8000 in
theorem mw_897 : Cond.initialized "java/lang/System" ∈ wsG := mT1 (List.mem_of_getElem? (i := 13) rfl) rfl
set_option maxRecDepth 8000 in
theorem mw_898 : Cond.methodLink RL 92 yX9_keep ∈ wsG := mT6 (List.mem_of_getElem? (i := 42) rfl) rfl
set_option maxRecDepth 8000 in
theorem mw_899 : Cond.instanceMethod yX9_keep ∈ wsG := mT6 (List.mem_of_getElem? (i := 43) rfl) rfl
set_option maxRecDepth 8000 in
theorem mw_900 : Cond.selects RX9 yX9_keep yX9_keep ∈ wsG := mT6 (List.mem_of_getElem? (i := 44) rfl) rfl
set_option maxRecDepth 8000 in
theorem mw_901 : Cond.code yX9_keep cX9_keep 2 (some .int) ∈ wsG := mT6 (List.mem_of_getElem? (i := 45) rfl) rfl
set_option maxRecDepth 8000 in
theorem mw_902 : Cond.fieldLink RX9 311 "RunWatcherModel" "isOld" "Z" ∈ wsG := mT4 (List.mem_of_getElem? (i := 196) rfl) rfl
set_option maxRecDepth 8000 in
theorem mw_903 : Cond.fieldLink RX9 314 "RunWatcherModel" "oldStates" "I" ∈ wsG := mT4 (List.mem_of_getElem? (i := 197) rfl) rfl
set_option maxRecDepth 8000 in
theorem mw_904 : Cond.methodLink RL 93 yX8_against ∈ wsG := mT4 (List.mem_of_getElem? (i := 89) rfl) rfl
set_option maxRecDepth 8000 in
theorem mw_905 : Cond.instanceMethod yX8_against ∈ wsG := mT4 (List.mem_of_getElem? (i := 90) rfl) rfl
set_option maxRecDepth 8000 in
theorem mw_906 : Cond.selects RX8 yX8_against yX8_against ∈ wsG := mT4 (List.mem_of_getElem? (i := 91) rfl) rfl
set_option maxRecDepth 8000 in
theorem mw_907 : Cond.code yX8_against cX8_against 1 (some .int) ∈ wsG := mT4 (List.mem_of_getElem? (i := 92) rfl) rfl
set_option maxRecDepth 8000 in
theorem mw_908 : Cond.methodLink RX8 195 yX3_meet ∈ wsG := mT4 (List.mem_of_getElem? (i := 93) rfl) rfl
set_option maxRecDepth 8000 in
theorem mw_909 : Cond.instanceMethod yX3_meet ∈ wsG := mT4 (List.mem_of_getElem? (i := 94) rfl) rfl
set_option maxRecDepth 8000 in
theorem mw_910 : Cond.selects RX3 yX3_meet yX3_meet ∈ wsG := mT4 (List.mem_of_getElem? (i := 95) rfl) rfl
set_option maxRecDepth 8000 in
theorem mw_911 : Cond.code yX3_meet cX3_meet 5 none ∈ wsG := mT4 (List.mem_of_getElem? (i := 96) rfl) rfl
set_option maxRecDepth 8000 in
theorem mw_912 : Cond.methodLink RX3 35 yX7_size ∈ wsG := mT4 (List.mem_of_getElem? (i := 97) rfl) rfl
set_option maxRecDepth 8000 in
theorem mw_913 : Cond.methodLink RX3 45 yX3_walk ∈ wsG := mT4 (List.mem_of_getElem? (i := 99) rfl) rfl
set_option maxRecDepth 8000 in
theorem mw_914 : Cond.instanceMethod yX3_walk ∈ wsG := mT4 (List.mem_of_getElem? (i := 101) rfl) rfl
theorem mw_915 : Cond.selects RX3 yX3_walk yX3_walk ∈ wsG := mP3 (q := (yX3_walk, _)) (List.mem_of_getElem? (i := 1) rfl) rfl
set_option maxRecDepth 8000 in
theorem mw_916 : Cond.code yX3_walk cX3_walk 9 none ∈ wsG := mT4 (List.mem_of_getElem? (i := 102) rfl) rfl
set_option maxRecDepth 8000 in
theorem mw_917 : Cond.methodLink RX3 53 yX7_next ∈ wsG := mT4 (List.mem_of_getElem? (i := 103) rfl) rfl
set_option maxRecDepth 8000 in
theorem mw_918 : Cond.methodLink RX3 57 yX7_keeps ∈ wsG := mT4 (List.mem_of_getElem? (i := 105) rfl) rfl
set_option maxRecDepth 8000 in
theorem mw_919 : Cond.methodLink RX3 61 yX3_look ∈ wsG := mT4 (List.mem_of_getElem? (i := 106) rfl) rfl
set_option maxRecDepth 8000 in
theorem mw_920 : Cond.instanceMethod yX3_look ∈ wsG := mT4 (List.mem_of_getElem? (i := 108) rfl) rfl
theorem mw_921 : Cond.selects RX3 yX3_look yX3_look ∈ wsG := mP3 (q := (yX3_look, _)) (List.mem_of_getElem? (i := 2) rfl) rfl
set_option maxRecDepth 8000 in
theorem mw_922 : Cond.code yX3_look cX3_look 4 none ∈ wsG := mT4 (List.mem_of_getElem? (i := 109) rfl) rfl
set_option maxRecDepth 8000 in
theorem mw_923 : Cond.methodLink RX8 199 yX3_relation ∈ wsG := mT4 (List.mem_of_getElem? (i := 110) rfl) rfl
set_option maxRecDepth 8000 in
theorem mw_924 : Cond.instanceMethod yX3_relation ∈ wsG := mT4 (List.mem_of_getElem? (i := 111) rfl) rfl
set_option maxRecDepth 8000 in
theorem mw_925 : Cond.selects RX3 yX3_relation yX3_relation ∈ wsG := mT4 (List.mem_of_getElem? (i := 112) rfl) rfl
set_option maxRecDepth 8000 in
theorem mw_926 : Cond.code yX3_relation cX3_relation 1 (some .int) ∈ wsG := mT4 (List.mem_of_getElem? (i := 113) rfl) rfl
set_option maxRecDepth 8000 in
theorem mw_927 : Cond.methodLink RL 96 yX9_against ∈ wsG := mT6 (List.mem_of_getElem? (i := 46) rfl) rfl
set_option maxRecDepth 8000 in
theorem mw_928 : Cond.instanceMethod yX9_against ∈ wsG := mT6 (List.mem_of_getElem? (i := 47) rfl) rfl
set_option maxRecDepth 8000 in
theorem mw_929 : Cond.selects RX9 yX9_against yX9_against ∈ wsG := mT6 (List.mem_of_getElem? (i := 48) rfl) rfl
set_option maxRecDepth 8000 in
theorem mw_930 : Cond.code yX9_against cX9_against 7 (some .int) ∈ wsG := mT6 (List.mem_of_getElem? (i := 49) rfl) rfl
set_option maxRecDepth 8000 in
theorem mw_931 : Cond.fieldLink RX9 317 "RunWatcherModel" "pairs" "I" ∈ wsG := mT4 (List.mem_of_getElem? (i := 200) rfl) rfl
set_option maxRecDepth 8000 in
theorem mw_932 : Cond.methodLink RX9 323 yX9_pairUp ∈ wsG := mT6 (List.mem_of_getElem? (i := 50) rfl) rfl
set_option maxRecDepth 8000 in
theorem mw_933 : Cond.instanceMethod yX9_pairUp ∈ wsG := mT6 (List.mem_of_getElem? (i := 52) rfl) rfl
theorem mw_934 : Cond.selects RX9 yX9_pairUp yX9_pairUp ∈ wsG := mP4 (q := (yX9_pairUp, _)) (List.mem_of_getElem? (i := 14) rfl) rfl
set_option maxRecDepth 8000 in
theorem mw_935 : Cond.code yX9_pairUp cX9_pairUp 3 none ∈ wsG := mT6 (List.mem_of_getElem? (i := 53) rfl) rfl
set_option maxRecDepth 8000 in
theorem mw_936 : Cond.methodLink RX9 320 yX9_meetPair ∈ wsG := mT6 (List.mem_of_getElem? (i := 54) rfl) rfl
set_option maxRecDepth 8000 in
theorem mw_937 : Cond.instanceMethod yX9_meetPair ∈ wsG := mT6 (List.mem_of_getElem? (i := 56) rfl) rfl
theorem mw_938 : Cond.selects RX9 yX9_meetPair yX9_meetPair ∈ wsG := mP4 (q := (yX9_meetPair, _)) (List.mem_of_getElem? (i := 15) rfl) rfl
set_option maxRecDepth 8000 in
theorem mw_939 : Cond.code yX9_meetPair cX9_meetPair 3 none ∈ wsG := mT6 (List.mem_of_getElem? (i := 57) rfl) rfl
set_option maxRecDepth 8000 in
theorem mw_940 : Cond.methodLink RL 97 yX8_apart ∈ wsG := mT4 (List.mem_of_getElem? (i := 114) rfl) rfl
set_option maxRecDepth 8000 in
theorem mw_941 : Cond.instanceMethod yX8_apart ∈ wsG := mT4 (List.mem_of_getElem? (i := 115) rfl) rfl
set_option maxRecDepth 8000 in
theorem mw_942 : Cond.selects RX8 yX8_apart yX8_apart ∈ wsG := mT4 (List.mem_of_getElem? (i := 116) rfl) rfl
set_option maxRecDepth 8000 in
theorem mw_943 : Cond.code yX8_apart cX8_apart 1 (some .int) ∈ wsG := mT4 (List.mem_of_getElem? (i := 117) rfl) rfl
set_option maxRecDepth 8000 in
theorem mw_944 : Cond.methodLink RX8 202 yX3_shortestApart ∈ wsG := mT4 (List.mem_of_getElem? (i := 118) rfl) rfl
set_option maxRecDepth 8000 in
theorem mw_945 : Cond.instanceMethod yX3_shortestApart ∈ wsG := mT4 (List.mem_of_getElem? (i := 119) rfl) rfl
set_option maxRecDepth 8000 in
theorem mw_946 : Cond.selects RX3 yX3_shortestApart yX3_shortestApart ∈ wsG := mT4 (List.mem_of_getElem? (i := 120) rfl) rfl
set_option maxRecDepth 8000 in
theorem mw_947 : Cond.code yX3_shortestApart cX3_shortestApart 1 (some .int) ∈ wsG := mT4 (List.mem_of_getElem? (i := 121) rfl) rfl
set_option maxRecDepth 8000 in
theorem mw_948 : Cond.methodLink RL 100 yX9_apart ∈ wsG := mT6 (List.mem_of_getElem? (i := 58) rfl) rfl
set_option maxRecDepth 8000 in
theorem mw_949 : Cond.instanceMethod yX9_apart ∈ wsG := mT6 (List.mem_of_getElem? (i := 59) rfl) rfl
set_option maxRecDepth 8000 in
theorem mw_950 : Cond.selects RX9 yX9_apart yX9_apart ∈ wsG := mT6 (List.mem_of_getElem? (i := 60) rfl) rfl
set_option maxRecDepth 8000 in
theorem mw_951 : Cond.code yX9_apart cX9_apart 2 (some .int) ∈ wsG := mT6 (List.mem_of_getElem? (i := 61) rfl) rfl
set_option maxRecDepth 8000 in
theorem mw_952 : Cond.methodLink RL 101 yX8_count ∈ wsG := mT4 (List.mem_of_getElem? (i := 122) rfl) rfl
set_option maxRecDepth 8000 in
theorem mw_953 : Cond.instanceMethod yX8_count ∈ wsG := mT4 (List.mem_of_getElem? (i := 123) rfl) rfl
set_option maxRecDepth 8000 in
theorem mw_954 : Cond.selects RX8 yX8_count yX8_count ∈ wsG := mT4 (List.mem_of_getElem? (i := 124) rfl) rfl
set_option maxRecDepth 8000 in
theorem mw_955 : Cond.code yX8_count cX8_count 2 (some .int) ∈ wsG := mT4 (List.mem_of_getElem? (i := 125) rfl) rfl
set_option maxRecDepth 8000 in
theorem mw_956 : Cond.methodLink RX8 205 yX7_sureStates ∈ wsG := mT4 (List.mem_of_getElem? (i := 126) rfl) rfl
set_option maxRecDepth 8000 in
theorem mw_957 : Cond.instanceMethod yX7_sureStates ∈ wsG := mT4 (List.mem_of_getElem? (i := 127) rfl) rfl
set_option maxRecDepth 8000 in
theorem mw_958 : Cond.selects RX7 yX7_sureStates yX7_sureStates ∈ wsG := mT4 (List.mem_of_getElem? (i := 128) rfl) rfl
set_option maxRecDepth 8000 in
theorem mw_959 : Cond.code yX7_sureStates cX7_sureStates 3 (some .int) ∈ wsG := mT4 (List.mem_of_getElem? (i := 129) rfl) rfl
set_option maxRecDepth 8000 in
theorem mw_960 : Cond.methodLink RX7 57 yX7_isSure ∈ wsG := mT4 (List.mem_of_getElem? (i := 130) rfl) rfl
set_option maxRecDepth 8000 in
theorem mw_961 : Cond.instanceMethod yX7_isSure ∈ wsG := mT4 (List.mem_of_getElem? (i := 131) rfl) rfl
set_option maxRecDepth 8000 in
theorem mw_962 : Cond.selects RX7 yX7_isSure yX7_isSure ∈ wsG := mT4 (List.mem_of_getElem? (i := 132) rfl) rfl
set_option maxRecDepth 8000 in
theorem mw_963 : Cond.code yX7_isSure cX7_isSure 2 (some .boolean) ∈ wsG := mT4 (List.mem_of_getElem? (i := 133) rfl) rfl
set_option maxRecDepth 8000 in
theorem mw_964 : Cond.methodLink RX8 208 yX1_letGo ∈ wsG := mT4 (List.mem_of_getElem? (i := 134) rfl) rfl
set_option maxRecDepth 8000 in
theorem mw_965 : Cond.instanceMethod yX1_letGo ∈ wsG := mT4 (List.mem_of_getElem? (i := 135) rfl) rfl
set_option maxRecDepth 8000 in
theorem mw_966 : Cond.selects RX1 yX1_letGo yX1_letGo ∈ wsG := mT4 (List.mem_of_getElem? (i := 136) rfl) rfl
set_option maxRecDepth 8000 in
theorem mw_967 : Cond.code yX1_letGo cX1_letGo 4 (some .int) ∈ wsG := mT4 (List.mem_of_getElem? (i := 137) rfl) rfl
set_option maxRecDepth 8000 in
theorem mw_968 : Cond.methodLink RL 104 yX9_count ∈ wsG := mT6 (List.mem_of_getElem? (i := 62) rfl) rfl
set_option maxRecDepth 8000 in
theorem mw_969 : Cond.instanceMethod yX9_count ∈ wsG := mT6 (List.mem_of_getElem? (i := 63) rfl) rfl
set_option maxRecDepth 8000 in
theorem mw_970 : Cond.selects RX9 yX9_count yX9_count ∈ wsG := mT6 (List.mem_of_getElem? (i := 64) rfl) rfl
set_option maxRecDepth 8000 in
theorem mw_971 : Cond.code yX9_count cX9_count 4 (some .int) ∈ wsG := mT6 (List.mem_of_getElem? (i := 65) rfl) rfl
set_option maxRecDepth 8000 in
theorem mw_972 : Cond.code objectInit ⟨#[0xb1]⟩ 1 none ∈ wsG := mT1 (List.mem_of_getElem? (i := 21) rfl) rfl
set_option maxRecDepth 8000 in
theorem mw_973 : Cond.code Lib.Math.min.name Lib.Math.min.code 2 (some .int) ∈ wsG := mT2 (List.mem_of_getElem? (i := 184) rfl) rfl
set_option maxRecDepth 8000 in
theorem ulX0 : ∀ k, k < 6 → u_lay RX0 TX0 k ∈ wsG
  | 0, _ => mT1 (List.mem_of_getElem? (i := 104) rfl) rfl
  | 1, _ => mT1 (List.mem_of_getElem? (i := 106) rfl) rfl
  | 2, _ => mT1 (List.mem_of_getElem? (i := 108) rfl) rfl
  | 3, _ => mT1 (List.mem_of_getElem? (i := 110) rfl) rfl
  | 4, _ => mT1 (List.mem_of_getElem? (i := 112) rfl) rfl
  | 5, _ => mT1 (List.mem_of_getElem? (i := 114) rfl) rfl
  | k + 6, h => absurd h (by omega)
theorem inlX0 : ∀ w ∈ wsX00, w ∈ wsG := fun w h => by
  obtain ⟨k, hk, rfl⟩ := List.mem_map.mp h
  exact ulX0 k (List.mem_range.mp hk)
set_option maxRecDepth 8000 in
theorem ulX1 : ∀ k, k < 2 → u_lay RX1 TX1 k ∈ wsG
  | 0, _ => mT2 (List.mem_of_getElem? (i := 4) rfl) rfl
  | 1, _ => mT2 (List.mem_of_getElem? (i := 6) rfl) rfl
  | k + 2, h => absurd h (by omega)
theorem inlX1 : ∀ w ∈ wsX10, w ∈ wsG := fun w h => by
  obtain ⟨k, hk, rfl⟩ := List.mem_map.mp h
  exact ulX1 k (List.mem_range.mp hk)
set_option maxRecDepth 8000 in
theorem ulX2 : ∀ k, k < 7 → u_lay RX2 TX2 k ∈ wsG
  | 0, _ => mT1 (List.mem_of_getElem? (i := 171) rfl) rfl
  | 1, _ => mT1 (List.mem_of_getElem? (i := 173) rfl) rfl
  | 2, _ => mT1 (List.mem_of_getElem? (i := 175) rfl) rfl
  | 3, _ => mT1 (List.mem_of_getElem? (i := 177) rfl) rfl
  | 4, _ => mT1 (List.mem_of_getElem? (i := 179) rfl) rfl
  | 5, _ => mT1 (List.mem_of_getElem? (i := 181) rfl) rfl
  | 6, _ => mT1 (List.mem_of_getElem? (i := 183) rfl) rfl
  | k + 7, h => absurd h (by omega)
theorem inlX2 : ∀ w ∈ wsX20, w ∈ wsG := fun w h => by
  obtain ⟨k, hk, rfl⟩ := List.mem_map.mp h
  exact ulX2 k (List.mem_range.mp hk)
set_option maxRecDepth 8000 in
theorem ulX3 : ∀ k, k < 7 → u_lay RX3 TX3 k ∈ wsG
  | 0, _ => mT1 (List.mem_of_getElem? (i := 221) rfl) rfl
  | 1, _ => mT1 (List.mem_of_getElem? (i := 223) rfl) rfl
  | 2, _ => mT1 (List.mem_of_getElem? (i := 225) rfl) rfl
  | 3, _ => mT1 (List.mem_of_getElem? (i := 227) rfl) rfl
  | 4, _ => mT1 (List.mem_of_getElem? (i := 229) rfl) rfl
  | 5, _ => mT1 (List.mem_of_getElem? (i := 231) rfl) rfl
  | 6, _ => mT1 (List.mem_of_getElem? (i := 233) rfl) rfl
  | k + 7, h => absurd h (by omega)
theorem inlX3 : ∀ w ∈ wsX30, w ∈ wsG := fun w h => by
  obtain ⟨k, hk, rfl⟩ := List.mem_map.mp h
  exact ulX3 k (List.mem_range.mp hk)
set_option maxRecDepth 8000 in
theorem ulX4 : ∀ k, k < 11 → u_lay RX4 TX4 k ∈ wsG
  | 0, _ => mT1 (List.mem_of_getElem? (i := 134) rfl) rfl
  | 1, _ => mT1 (List.mem_of_getElem? (i := 136) rfl) rfl
  | 2, _ => mT1 (List.mem_of_getElem? (i := 138) rfl) rfl
  | 3, _ => mT1 (List.mem_of_getElem? (i := 140) rfl) rfl
  | 4, _ => mT1 (List.mem_of_getElem? (i := 142) rfl) rfl
  | 5, _ => mT1 (List.mem_of_getElem? (i := 144) rfl) rfl
  | 6, _ => mT1 (List.mem_of_getElem? (i := 146) rfl) rfl
  | 7, _ => mT1 (List.mem_of_getElem? (i := 148) rfl) rfl
  | 8, _ => mT1 (List.mem_of_getElem? (i := 150) rfl) rfl
  | 9, _ => mT1 (List.mem_of_getElem? (i := 152) rfl) rfl
  | 10, _ => mT1 (List.mem_of_getElem? (i := 154) rfl) rfl
  | k + 11, h => absurd h (by omega)
theorem inlX4 : ∀ w ∈ wsX40, w ∈ wsG := fun w h => by
  obtain ⟨k, hk, rfl⟩ := List.mem_map.mp h
  exact ulX4 k (List.mem_range.mp hk)
set_option maxRecDepth 8000 in
theorem ulX5 : ∀ k, k < 9 → u_lay RX5 TX5 k ∈ wsG
  | 0, _ => mT1 (List.mem_of_getElem? (i := 73) rfl) rfl
  | 1, _ => mT1 (List.mem_of_getElem? (i := 75) rfl) rfl
  | 2, _ => mT1 (List.mem_of_getElem? (i := 77) rfl) rfl
  | 3, _ => mT1 (List.mem_of_getElem? (i := 79) rfl) rfl
  | 4, _ => mT1 (List.mem_of_getElem? (i := 81) rfl) rfl
  | 5, _ => mT1 (List.mem_of_getElem? (i := 83) rfl) rfl
  | 6, _ => mT1 (List.mem_of_getElem? (i := 85) rfl) rfl
  | 7, _ => mT1 (List.mem_of_getElem? (i := 87) rfl) rfl
  | 8, _ => mT1 (List.mem_of_getElem? (i := 89) rfl) rfl
  | k + 9, h => absurd h (by omega)
theorem inlX5 : ∀ w ∈ wsX50, w ∈ wsG := fun w h => by
  obtain ⟨k, hk, rfl⟩ := List.mem_map.mp h
  exact ulX5 k (List.mem_range.mp hk)
set_option maxRecDepth 8000 in
theorem ulX6 : ∀ k, k < 9 → u_lay RX6 TX6 k ∈ wsG
  | 0, _ => mT1 (List.mem_of_getElem? (i := 43) rfl) rfl
  | 1, _ => mT1 (List.mem_of_getElem? (i := 45) rfl) rfl
  | 2, _ => mT1 (List.mem_of_getElem? (i := 47) rfl) rfl
  | 3, _ => mT1 (List.mem_of_getElem? (i := 49) rfl) rfl
  | 4, _ => mT1 (List.mem_of_getElem? (i := 51) rfl) rfl
  | 5, _ => mT1 (List.mem_of_getElem? (i := 53) rfl) rfl
  | 6, _ => mT1 (List.mem_of_getElem? (i := 55) rfl) rfl
  | 7, _ => mT1 (List.mem_of_getElem? (i := 57) rfl) rfl
  | 8, _ => mT1 (List.mem_of_getElem? (i := 59) rfl) rfl
  | k + 9, h => absurd h (by omega)
theorem inlX6 : ∀ w ∈ wsX60, w ∈ wsG := fun w h => by
  obtain ⟨k, hk, rfl⟩ := List.mem_map.mp h
  exact ulX6 k (List.mem_range.mp hk)
set_option maxRecDepth 8000 in
theorem ulX7 : ∀ k, k < 5 → u_lay RX7 TX7 k ∈ wsG
  | 0, _ => mT1 (List.mem_of_getElem? (i := 197) rfl) rfl
  | 1, _ => mT1 (List.mem_of_getElem? (i := 199) rfl) rfl
  | 2, _ => mT1 (List.mem_of_getElem? (i := 201) rfl) rfl
  | 3, _ => mT1 (List.mem_of_getElem? (i := 203) rfl) rfl
  | 4, _ => mT1 (List.mem_of_getElem? (i := 205) rfl) rfl
  | k + 5, h => absurd h (by omega)
theorem inlX7 : ∀ w ∈ wsX70, w ∈ wsG := fun w h => by
  obtain ⟨k, hk, rfl⟩ := List.mem_map.mp h
  exact ulX7 k (List.mem_range.mp hk)
set_option maxRecDepth 8000 in
theorem ulX8 : ∀ k, k < 11 → u_lay RX8 TX8 k ∈ wsG
  | 0, _ => mT2 (List.mem_of_getElem? (i := 20) rfl) rfl
  | 1, _ => mT2 (List.mem_of_getElem? (i := 22) rfl) rfl
  | 2, _ => mT2 (List.mem_of_getElem? (i := 24) rfl) rfl
  | 3, _ => mT2 (List.mem_of_getElem? (i := 26) rfl) rfl
  | 4, _ => mT2 (List.mem_of_getElem? (i := 28) rfl) rfl
  | 5, _ => mT2 (List.mem_of_getElem? (i := 30) rfl) rfl
  | 6, _ => mT2 (List.mem_of_getElem? (i := 32) rfl) rfl
  | 7, _ => mT2 (List.mem_of_getElem? (i := 34) rfl) rfl
  | 8, _ => mT2 (List.mem_of_getElem? (i := 36) rfl) rfl
  | 9, _ => mT2 (List.mem_of_getElem? (i := 38) rfl) rfl
  | 10, _ => mT2 (List.mem_of_getElem? (i := 40) rfl) rfl
  | k + 11, h => absurd h (by omega)
theorem inlX8 : ∀ w ∈ wsX80, w ∈ wsG := fun w h => by
  obtain ⟨k, hk, rfl⟩ := List.mem_map.mp h
  exact ulX8 k (List.mem_range.mp hk)
set_option maxRecDepth 8000 in
theorem ulX9 : ∀ k, k < 59 → u_lay RX9 TX9 k ∈ wsG
  | 0, _ => mT4 (List.mem_of_getElem? (i := 204) rfl) rfl
  | 1, _ => mT4 (List.mem_of_getElem? (i := 206) rfl) rfl
  | 2, _ => mT4 (List.mem_of_getElem? (i := 208) rfl) rfl
  | 3, _ => mT4 (List.mem_of_getElem? (i := 210) rfl) rfl
  | 4, _ => mT4 (List.mem_of_getElem? (i := 212) rfl) rfl
  | 5, _ => mT4 (List.mem_of_getElem? (i := 214) rfl) rfl
  | 6, _ => mT4 (List.mem_of_getElem? (i := 216) rfl) rfl
  | 7, _ => mT4 (List.mem_of_getElem? (i := 218) rfl) rfl
  | 8, _ => mT4 (List.mem_of_getElem? (i := 220) rfl) rfl
  | 9, _ => mT4 (List.mem_of_getElem? (i := 222) rfl) rfl
  | 10, _ => mT4 (List.mem_of_getElem? (i := 224) rfl) rfl
  | 11, _ => mT4 (List.mem_of_getElem? (i := 226) rfl) rfl
  | 12, _ => mT4 (List.mem_of_getElem? (i := 228) rfl) rfl
  | 13, _ => mT4 (List.mem_of_getElem? (i := 230) rfl) rfl
  | 14, _ => mT4 (List.mem_of_getElem? (i := 232) rfl) rfl
  | 15, _ => mT4 (List.mem_of_getElem? (i := 234) rfl) rfl
  | 16, _ => mT4 (List.mem_of_getElem? (i := 236) rfl) rfl
  | 17, _ => mT4 (List.mem_of_getElem? (i := 238) rfl) rfl
  | 18, _ => mT5 (List.mem_of_getElem? (i := 0) rfl) rfl
  | 19, _ => mT5 (List.mem_of_getElem? (i := 2) rfl) rfl
  | 20, _ => mT5 (List.mem_of_getElem? (i := 4) rfl) rfl
  | 21, _ => mT5 (List.mem_of_getElem? (i := 6) rfl) rfl
  | 22, _ => mT5 (List.mem_of_getElem? (i := 8) rfl) rfl
  | 23, _ => mT5 (List.mem_of_getElem? (i := 10) rfl) rfl
  | 24, _ => mT5 (List.mem_of_getElem? (i := 12) rfl) rfl
  | 25, _ => mT5 (List.mem_of_getElem? (i := 14) rfl) rfl
  | 26, _ => mT5 (List.mem_of_getElem? (i := 16) rfl) rfl
  | 27, _ => mT5 (List.mem_of_getElem? (i := 18) rfl) rfl
  | 28, _ => mT5 (List.mem_of_getElem? (i := 20) rfl) rfl
  | 29, _ => mT5 (List.mem_of_getElem? (i := 22) rfl) rfl
  | 30, _ => mT5 (List.mem_of_getElem? (i := 24) rfl) rfl
  | 31, _ => mT5 (List.mem_of_getElem? (i := 26) rfl) rfl
  | 32, _ => mT5 (List.mem_of_getElem? (i := 28) rfl) rfl
  | 33, _ => mT5 (List.mem_of_getElem? (i := 30) rfl) rfl
  | 34, _ => mT5 (List.mem_of_getElem? (i := 32) rfl) rfl
  | 35, _ => mT5 (List.mem_of_getElem? (i := 34) rfl) rfl
  | 36, _ => mT5 (List.mem_of_getElem? (i := 36) rfl) rfl
  | 37, _ => mT5 (List.mem_of_getElem? (i := 38) rfl) rfl
  | 38, _ => mT5 (List.mem_of_getElem? (i := 40) rfl) rfl
  | 39, _ => mT5 (List.mem_of_getElem? (i := 42) rfl) rfl
  | 40, _ => mT5 (List.mem_of_getElem? (i := 44) rfl) rfl
  | 41, _ => mT5 (List.mem_of_getElem? (i := 46) rfl) rfl
  | 42, _ => mT5 (List.mem_of_getElem? (i := 48) rfl) rfl
  | 43, _ => mT5 (List.mem_of_getElem? (i := 50) rfl) rfl
  | 44, _ => mT5 (List.mem_of_getElem? (i := 52) rfl) rfl
  | 45, _ => mT5 (List.mem_of_getElem? (i := 54) rfl) rfl
  | 46, _ => mT5 (List.mem_of_getElem? (i := 56) rfl) rfl
  | 47, _ => mT5 (List.mem_of_getElem? (i := 58) rfl) rfl
  | 48, _ => mT5 (List.mem_of_getElem? (i := 60) rfl) rfl
  | 49, _ => mT5 (List.mem_of_getElem? (i := 62) rfl) rfl
  | 50, _ => mT5 (List.mem_of_getElem? (i := 64) rfl) rfl
  | 51, _ => mT5 (List.mem_of_getElem? (i := 66) rfl) rfl
  | 52, _ => mT5 (List.mem_of_getElem? (i := 68) rfl) rfl
  | 53, _ => mT5 (List.mem_of_getElem? (i := 70) rfl) rfl
  | 54, _ => mT5 (List.mem_of_getElem? (i := 72) rfl) rfl
  | 55, _ => mT5 (List.mem_of_getElem? (i := 74) rfl) rfl
  | 56, _ => mT5 (List.mem_of_getElem? (i := 76) rfl) rfl
  | 57, _ => mT5 (List.mem_of_getElem? (i := 78) rfl) rfl
  | 58, _ => mT5 (List.mem_of_getElem? (i := 80) rfl) rfl
  | k + 59, h => absurd h (by omega)
theorem inlX9 : ∀ w ∈ wsX90, w ∈ wsG := fun w h => by
  obtain ⟨k, hk, rfl⟩ := List.mem_map.mp h
  exact ulX9 k (List.mem_range.mp hk)
def nestW : List Cond := [(Jvm.Cond.methodLinkNest "RunWatcher$Reader" (64 : Nat) ({ cls := "RunWatcher", name := "pick", desc := "([II)I" } : Jvm.MethodName) "RunWatcher"), (Jvm.Cond.methodLinkNest "RunWatcher$Rule" (41 : Nat) ({ cls := "RunWatcher", name := "put", desc := "([III)V" } : Jvm.MethodName) "RunWatcher"), (Jvm.Cond.methodLinkNest "RunWatcher$Rule" (45 : Nat) ({ cls := "RunWatcher", name := "set", desc := "([ZIZ)V" } : Jvm.MethodName) "RunWatcher"), (Jvm.Cond.methodLinkNest "RunWatcher$Rule" (49 : Nat) ({ cls := "RunWatcher", name := "pick", desc := "([II)I" } : Jvm.MethodName) "RunWatcher"), (Jvm.Cond.methodLinkNest "RunWatcher$Rule" (53 : Nat) ({ cls := "RunWatcher", name := "isSet", desc := "([ZI)Z" } : Jvm.MethodName) "RunWatcher"), (Jvm.Cond.methodLinkNest "RunWatcher$Rule" (68 : Nat) ({ cls := "RunWatcher", name := "hasBit", desc := "(JI)Z" } : Jvm.MethodName) "RunWatcher"), (Jvm.Cond.methodLinkNest "RunWatcher$Carry" (56 : Nat) ({ cls := "RunWatcher", name := "put", desc := "([III)V" } : Jvm.MethodName) "RunWatcher"), (Jvm.Cond.methodLinkNest "RunWatcher$Carry" (64 : Nat) ({ cls := "RunWatcher", name := "set", desc := "([ZIZ)V" } : Jvm.MethodName) "RunWatcher"), (Jvm.Cond.methodLinkNest "RunWatcher$Carry" (79 : Nat) ({ cls := "RunWatcher", name := "pick", desc := "([II)I" } : Jvm.MethodName) "RunWatcher"), (Jvm.Cond.methodLinkNest "RunWatcher$Carry" (83 : Nat) ({ cls := "RunWatcher", name := "isSet", desc := "([ZI)Z" } : Jvm.MethodName) "RunWatcher"), (Jvm.Cond.methodLinkNest "RunWatcher$Pairs" (64 : Nat) ({ cls := "RunWatcher", name := "put", desc := "([III)V" } : Jvm.MethodName) "RunWatcher"), (Jvm.Cond.methodLinkNest "RunWatcher$Pairs" (96 : Nat) ({ cls := "RunWatcher", name := "set", desc := "([ZIZ)V" } : Jvm.MethodName) "RunWatcher"), (Jvm.Cond.methodLinkNest "RunWatcher$Pairs" (100 : Nat) ({ cls := "RunWatcher", name := "putLong", desc := "([JIJ)V" } : Jvm.MethodName) "RunWatcher"), (Jvm.Cond.methodLinkNest "RunWatcher$Pairs" (68 : Nat) ({ cls := "RunWatcher", name := "pick", desc := "([II)I" } : Jvm.MethodName) "RunWatcher"), (Jvm.Cond.methodLinkNest "RunWatcher$Pairs" (124 : Nat) ({ cls := "RunWatcher", name := "pickLong", desc := "([JI)J" } : Jvm.MethodName) "RunWatcher"), (Jvm.Cond.methodLinkNest "RunWatcher$Pairs" (128 : Nat) ({ cls := "RunWatcher", name := "hasBit", desc := "(JI)Z" } : Jvm.MethodName) "RunWatcher"), (Jvm.Cond.methodLinkNest "RunWatcher$Pairs" (72 : Nat) ({ cls := "RunWatcher", name := "isSet", desc := "([ZI)Z" } : Jvm.MethodName) "RunWatcher"), (Jvm.Cond.methodLinkNest "RunWatcher$Lessener" (44 : Nat) ({ cls := "RunWatcher", name := "put", desc := "([III)V" } : Jvm.MethodName) "RunWatcher"), (Jvm.Cond.methodLinkNest "RunWatcher$Lessener" (60 : Nat) ({ cls := "RunWatcher", name := "pick", desc := "([II)I" } : Jvm.MethodName) "RunWatcher"), (Jvm.Cond.methodLinkNest "RunWatcher$Watcher" (29 : Nat) ({ cls := "RunWatcher", name := "put", desc := "([III)V" } : Jvm.MethodName) "RunWatcher"), (Jvm.Cond.methodLinkNest "RunWatcher$Watcher" (49 : Nat) ({ cls := "RunWatcher", name := "pick", desc := "([II)I" } : Jvm.MethodName) "RunWatcher"), (Jvm.Cond.methodLinkNest "RunWatcher$Watcher" (75 : Nat) ({ cls := "RunWatcher", name := "putLong", desc := "([JIJ)V" } : Jvm.MethodName) "RunWatcher"), (Jvm.Cond.methodLinkNest "RunWatcher$Watcher" (83 : Nat) ({ cls := "RunWatcher", name := "pickLong", desc := "([JI)J" } : Jvm.MethodName) "RunWatcher"), (Jvm.Cond.methodLinkNest "RunWatcher$Keys" (23 : Nat) ({ cls := "RunWatcher", name := "putLong", desc := "([JIJ)V" } : Jvm.MethodName) "RunWatcher"), (Jvm.Cond.methodLinkNest "RunWatcher$Keys" (27 : Nat) ({ cls := "RunWatcher", name := "put", desc := "([III)V" } : Jvm.MethodName) "RunWatcher"), (Jvm.Cond.methodLinkNest "RunWatcher$Keys" (35 : Nat) ({ cls := "RunWatcher", name := "pickLong", desc := "([JI)J" } : Jvm.MethodName) "RunWatcher"), (Jvm.Cond.methodLinkNest "RunWatcher$Keys" (57 : Nat) ({ cls := "RunWatcher", name := "hasBit", desc := "(JI)Z" } : Jvm.MethodName) "RunWatcher"), (Jvm.Cond.methodLinkNest "RunWatcher$Keys" (43 : Nat) ({ cls := "RunWatcher", name := "pick", desc := "([II)I" } : Jvm.MethodName) "RunWatcher"), (Jvm.Cond.methodLinkNest "RunWatcher$Meeting" (41 : Nat) ({ cls := "RunWatcher", name := "put", desc := "([III)V" } : Jvm.MethodName) "RunWatcher"), (Jvm.Cond.methodLinkNest "RunWatcher$Meeting" (49 : Nat) ({ cls := "RunWatcher", name := "pick", desc := "([II)I" } : Jvm.MethodName) "RunWatcher")]
set_option maxRecDepth 8000 in
theorem nest_in : ∀ w ∈ nestW, w ∈ lw_tbl := by
  unfold nestW
  refine List.forall_mem_cons.mpr ⟨mN2 (List.mem_of_getElem? (i := 92) rfl), List.forall_mem_cons.mpr ⟨mN2 (List.mem_of_getElem? (i := 128) rfl), List.forall_mem_cons.mpr ⟨mN2 (List.mem_of_getElem? (i := 137) rfl), List.forall_mem_cons.mpr ⟨mN2 (List.mem_of_getElem? (i := 140) rfl), List.forall_mem_cons.mpr ⟨mN2 (List.mem_of_getElem? (i := 141) rfl), List.forall_mem_cons.mpr ⟨mN2 (List.mem_of_getElem? (i := 193) rfl), List.forall_mem_cons.mpr ⟨mN2 (List.mem_of_getElem? (i := 200) rfl), List.forall_mem_cons.mpr ⟨mN2 (List.mem_of_getElem? (i := 205) rfl), List.forall_mem_cons.mpr ⟨mN2 (List.mem_of_getElem? (i := 226) rfl), List.forall_mem_cons.mpr ⟨mN2 (List.mem_of_getElem? (i := 239) rfl), List.forall_mem_cons.mpr ⟨mN3 (List.mem_of_getElem? (i := 14) rfl), List.forall_mem_cons.mpr ⟨mN3 (List.mem_of_getElem? (i := 20) rfl), List.forall_mem_cons.mpr ⟨mN3 (List.mem_of_getElem? (i := 25) rfl), List.forall_mem_cons.mpr ⟨mN3 (List.mem_of_getElem? (i := 28) rfl), List.forall_mem_cons.mpr ⟨mN3 (List.mem_of_getElem? (i := 41) rfl), List.forall_mem_cons.mpr ⟨mN3 (List.mem_of_getElem? (i := 44) rfl), List.forall_mem_cons.mpr ⟨mN3 (List.mem_of_getElem? (i := 69) rfl), List.forall_mem_cons.mpr ⟨mN3 (List.mem_of_getElem? (i := 70) rfl), List.forall_mem_cons.mpr ⟨mN3 (List.mem_of_getElem? (i := 79) rfl), List.forall_mem_cons.mpr ⟨mN3 (List.mem_of_getElem? (i := 104) rfl), List.forall_mem_cons.mpr ⟨mN3 (List.mem_of_getElem? (i := 125) rfl), List.forall_mem_cons.mpr ⟨mN3 (List.mem_of_getElem? (i := 150) rfl), List.forall_mem_cons.mpr ⟨mN3 (List.mem_of_getElem? (i := 155) rfl), List.forall_mem_cons.mpr ⟨mN3 (List.mem_of_getElem? (i := 164) rfl), List.forall_mem_cons.mpr ⟨mN3 (List.mem_of_getElem? (i := 165) rfl), List.forall_mem_cons.mpr ⟨mN4 (List.mem_of_getElem? (i := 16) rfl), List.forall_mem_cons.mpr ⟨mN4 (List.mem_of_getElem? (i := 18) rfl), List.forall_mem_cons.mpr ⟨mN4 (List.mem_of_getElem? (i := 25) rfl), List.forall_mem_cons.mpr ⟨mN4 (List.mem_of_getElem? (i := 98) rfl), List.forall_mem_cons.mpr ⟨mN4 (List.mem_of_getElem? (i := 104) rfl), fun _ h => absurd h List.not_mem_nil⟩⟩⟩⟩⟩⟩⟩⟩⟩⟩⟩⟩⟩⟩⟩⟩⟩⟩⟩⟩⟩⟩⟩⟩⟩⟩⟩⟩⟩⟩
theorem nest_form : ∀ w ∈ nestW, ∃ a i x h, w = .methodLinkNest a i x h := by
  unfold nestW
  refine List.forall_mem_cons.mpr ⟨⟨_, _, _, _, rfl⟩, List.forall_mem_cons.mpr ⟨⟨_, _, _, _, rfl⟩, List.forall_mem_cons.mpr ⟨⟨_, _, _, _, rfl⟩, List.forall_mem_cons.mpr ⟨⟨_, _, _, _, rfl⟩, List.forall_mem_cons.mpr ⟨⟨_, _, _, _, rfl⟩, List.forall_mem_cons.mpr ⟨⟨_, _, _, _, rfl⟩, List.forall_mem_cons.mpr ⟨⟨_, _, _, _, rfl⟩, List.forall_mem_cons.mpr ⟨⟨_, _, _, _, rfl⟩, List.forall_mem_cons.mpr ⟨⟨_, _, _, _, rfl⟩, List.forall_mem_cons.mpr ⟨⟨_, _, _, _, rfl⟩, List.forall_mem_cons.mpr ⟨⟨_, _, _, _, rfl⟩, List.forall_mem_cons.mpr ⟨⟨_, _, _, _, rfl⟩, List.forall_mem_cons.mpr ⟨⟨_, _, _, _, rfl⟩, List.forall_mem_cons.mpr ⟨⟨_, _, _, _, rfl⟩, List.forall_mem_cons.mpr ⟨⟨_, _, _, _, rfl⟩, List.forall_mem_cons.mpr ⟨⟨_, _, _, _, rfl⟩, List.forall_mem_cons.mpr ⟨⟨_, _, _, _, rfl⟩, List.forall_mem_cons.mpr ⟨⟨_, _, _, _, rfl⟩, List.forall_mem_cons.mpr ⟨⟨_, _, _, _, rfl⟩, List.forall_mem_cons.mpr ⟨⟨_, _, _, _, rfl⟩, List.forall_mem_cons.mpr ⟨⟨_, _, _, _, rfl⟩, List.forall_mem_cons.mpr ⟨⟨_, _, _, _, rfl⟩, List.forall_mem_cons.mpr ⟨⟨_, _, _, _, rfl⟩, List.forall_mem_cons.mpr ⟨⟨_, _, _, _, rfl⟩, List.forall_mem_cons.mpr ⟨⟨_, _, _, _, rfl⟩, List.forall_mem_cons.mpr ⟨⟨_, _, _, _, rfl⟩, List.forall_mem_cons.mpr ⟨⟨_, _, _, _, rfl⟩, List.forall_mem_cons.mpr ⟨⟨_, _, _, _, rfl⟩, List.forall_mem_cons.mpr ⟨⟨_, _, _, _, rfl⟩, List.forall_mem_cons.mpr ⟨⟨_, _, _, _, rfl⟩, fun _ h => absurd h List.not_mem_nil⟩⟩⟩⟩⟩⟩⟩⟩⟩⟩⟩⟩⟩⟩⟩⟩⟩⟩⟩⟩⟩⟩⟩⟩⟩⟩⟩⟩⟩⟩
theorem nw_0 : (Cond.methodLinkNest "RunWatcher$Reader" (64 : Nat) ({ cls := "RunWatcher", name := "pick", desc := "([II)I" } : MethodName) "RunWatcher") ∈ nestW := List.mem_of_getElem? (i := 0) rfl
theorem nw_1 : (Cond.methodLinkNest "RunWatcher$Rule" (41 : Nat) ({ cls := "RunWatcher", name := "put", desc := "([III)V" } : MethodName) "RunWatcher") ∈ nestW := List.mem_of_getElem? (i := 1) rfl
theorem nw_2 : (Cond.methodLinkNest "RunWatcher$Rule" (45 : Nat) ({ cls := "RunWatcher", name := "set", desc := "([ZIZ)V" } : MethodName) "RunWatcher") ∈ nestW := List.mem_of_getElem? (i := 2) rfl
theorem nw_3 : (Cond.methodLinkNest "RunWatcher$Rule" (49 : Nat) ({ cls := "RunWatcher", name := "pick", desc := "([II)I" } : MethodName) "RunWatcher") ∈ nestW := List.mem_of_getElem? (i := 3) rfl
theorem nw_4 : (Cond.methodLinkNest "RunWatcher$Rule" (53 : Nat) ({ cls := "RunWatcher", name := "isSet", desc := "([ZI)Z" } : MethodName) "RunWatcher") ∈ nestW := List.mem_of_getElem? (i := 4) rfl
theorem nw_5 : (Cond.methodLinkNest "RunWatcher$Rule" (68 : Nat) ({ cls := "RunWatcher", name := "hasBit", desc := "(JI)Z" } : MethodName) "RunWatcher") ∈ nestW := List.mem_of_getElem? (i := 5) rfl
theorem nw_6 : (Cond.methodLinkNest "RunWatcher$Carry" (56 : Nat) ({ cls := "RunWatcher", name := "put", desc := "([III)V" } : MethodName) "RunWatcher") ∈ nestW := List.mem_of_getElem? (i := 6) rfl
theorem nw_7 : (Cond.methodLinkNest "RunWatcher$Carry" (64 : Nat) ({ cls := "RunWatcher", name := "set", desc := "([ZIZ)V" } : MethodName) "RunWatcher") ∈ nestW := List.mem_of_getElem? (i := 7) rfl
theorem nw_8 : (Cond.methodLinkNest "RunWatcher$Carry" (79 : Nat) ({ cls := "RunWatcher", name := "pick", desc := "([II)I" } : MethodName) "RunWatcher") ∈ nestW := List.mem_of_getElem? (i := 8) rfl
theorem nw_9 : (Cond.methodLinkNest "RunWatcher$Carry" (83 : Nat) ({ cls := "RunWatcher", name := "isSet", desc := "([ZI)Z" } : MethodName) "RunWatcher") ∈ nestW := List.mem_of_getElem? (i := 9) rfl
theorem nw_10 : (Cond.methodLinkNest "RunWatcher$Pairs" (64 : Nat) ({ cls := "RunWatcher", name := "put", desc := "([III)V" } : MethodName) "RunWatcher") ∈ nestW := List.mem_of_getElem? (i := 10) rfl
theorem nw_11 : (Cond.methodLinkNest "RunWatcher$Pairs" (96 : Nat) ({ cls := "RunWatcher", name := "set", desc := "([ZIZ)V" } : MethodName) "RunWatcher") ∈ nestW := List.mem_of_getElem? (i := 11) rfl
theorem nw_12 : (Cond.methodLinkNest "RunWatcher$Pairs" (100 : Nat) ({ cls := "RunWatcher", name := "putLong", desc := "([JIJ)V" } : MethodName) "RunWatcher") ∈ nestW := List.mem_of_getElem? (i := 12) rfl
theorem nw_13 : (Cond.methodLinkNest "RunWatcher$Pairs" (68 : Nat) ({ cls := "RunWatcher", name := "pick", desc := "([II)I" } : MethodName) "RunWatcher") ∈ nestW := List.mem_of_getElem? (i := 13) rfl
theorem nw_14 : (Cond.methodLinkNest "RunWatcher$Pairs" (124 : Nat) ({ cls := "RunWatcher", name := "pickLong", desc := "([JI)J" } : MethodName) "RunWatcher") ∈ nestW := List.mem_of_getElem? (i := 14) rfl
theorem nw_15 : (Cond.methodLinkNest "RunWatcher$Pairs" (128 : Nat) ({ cls := "RunWatcher", name := "hasBit", desc := "(JI)Z" } : MethodName) "RunWatcher") ∈ nestW := List.mem_of_getElem? (i := 15) rfl
theorem nw_16 : (Cond.methodLinkNest "RunWatcher$Pairs" (72 : Nat) ({ cls := "RunWatcher", name := "isSet", desc := "([ZI)Z" } : MethodName) "RunWatcher") ∈ nestW := List.mem_of_getElem? (i := 16) rfl
theorem nw_17 : (Cond.methodLinkNest "RunWatcher$Lessener" (44 : Nat) ({ cls := "RunWatcher", name := "put", desc := "([III)V" } : MethodName) "RunWatcher") ∈ nestW := List.mem_of_getElem? (i := 17) rfl
theorem nw_18 : (Cond.methodLinkNest "RunWatcher$Lessener" (60 : Nat) ({ cls := "RunWatcher", name := "pick", desc := "([II)I" } : MethodName) "RunWatcher") ∈ nestW := List.mem_of_getElem? (i := 18) rfl
theorem nw_19 : (Cond.methodLinkNest "RunWatcher$Watcher" (29 : Nat) ({ cls := "RunWatcher", name := "put", desc := "([III)V" } : MethodName) "RunWatcher") ∈ nestW := List.mem_of_getElem? (i := 19) rfl
theorem nw_20 : (Cond.methodLinkNest "RunWatcher$Watcher" (49 : Nat) ({ cls := "RunWatcher", name := "pick", desc := "([II)I" } : MethodName) "RunWatcher") ∈ nestW := List.mem_of_getElem? (i := 20) rfl
theorem nw_21 : (Cond.methodLinkNest "RunWatcher$Watcher" (75 : Nat) ({ cls := "RunWatcher", name := "putLong", desc := "([JIJ)V" } : MethodName) "RunWatcher") ∈ nestW := List.mem_of_getElem? (i := 21) rfl
theorem nw_22 : (Cond.methodLinkNest "RunWatcher$Watcher" (83 : Nat) ({ cls := "RunWatcher", name := "pickLong", desc := "([JI)J" } : MethodName) "RunWatcher") ∈ nestW := List.mem_of_getElem? (i := 22) rfl
theorem nw_23 : (Cond.methodLinkNest "RunWatcher$Keys" (23 : Nat) ({ cls := "RunWatcher", name := "putLong", desc := "([JIJ)V" } : MethodName) "RunWatcher") ∈ nestW := List.mem_of_getElem? (i := 23) rfl
theorem nw_24 : (Cond.methodLinkNest "RunWatcher$Keys" (27 : Nat) ({ cls := "RunWatcher", name := "put", desc := "([III)V" } : MethodName) "RunWatcher") ∈ nestW := List.mem_of_getElem? (i := 24) rfl
theorem nw_25 : (Cond.methodLinkNest "RunWatcher$Keys" (35 : Nat) ({ cls := "RunWatcher", name := "pickLong", desc := "([JI)J" } : MethodName) "RunWatcher") ∈ nestW := List.mem_of_getElem? (i := 25) rfl
theorem nw_26 : (Cond.methodLinkNest "RunWatcher$Keys" (57 : Nat) ({ cls := "RunWatcher", name := "hasBit", desc := "(JI)Z" } : MethodName) "RunWatcher") ∈ nestW := List.mem_of_getElem? (i := 26) rfl
theorem nw_27 : (Cond.methodLinkNest "RunWatcher$Keys" (43 : Nat) ({ cls := "RunWatcher", name := "pick", desc := "([II)I" } : MethodName) "RunWatcher") ∈ nestW := List.mem_of_getElem? (i := 27) rfl
theorem nw_28 : (Cond.methodLinkNest "RunWatcher$Meeting" (41 : Nat) ({ cls := "RunWatcher", name := "put", desc := "([III)V" } : MethodName) "RunWatcher") ∈ nestW := List.mem_of_getElem? (i := 28) rfl
theorem nw_29 : (Cond.methodLinkNest "RunWatcher$Meeting" (49 : Nat) ({ cls := "RunWatcher", name := "pick", desc := "([II)I" } : MethodName) "RunWatcher") ∈ nestW := List.mem_of_getElem? (i := 29) rfl
