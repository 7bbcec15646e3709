section
-- ===== PART A: goes FIRST, ahead of the names: the tables' words, and 'selects' of the private methods out of them =====
/-- a private method of a class that the tables say can be made, by its rows of tables_1 -/
def lw_okq (q : MethodName × Nat) : Prop := (q.1.cls ≠ "java/lang/invoke/MethodHandle" ∧ q.1.cls ≠ "java/lang/invoke/VarHandle") ∧ Cond.instantiable q.1.cls q.2 ∈ tables_1 ∧ Cond.privateMethod q.1 ∈ tables_1 ∧ Cond.instanceMethod q.1 ∈ tables_1
theorem lw_p0 : lw_okq (⟨"SevenBlows$TextReader", "skipBlanks", "()V"⟩, 6) := ⟨⟨by decide +kernel, by decide +kernel⟩, List.mem_of_getElem? (i := 19) (by decide +kernel), List.mem_of_getElem? (i := 295) (by decide +kernel), List.mem_of_getElem? (i := 296) (by decide +kernel)⟩
theorem lw_p1 : lw_okq (⟨"SevenBlows$TextReader", "clause", "(LSevenBlows$Land;)V"⟩, 6) := ⟨⟨by decide +kernel, by decide +kernel⟩, List.mem_of_getElem? (i := 19) (by decide +kernel), List.mem_of_getElem? (i := 299) (by decide +kernel), List.mem_of_getElem? (i := 300) (by decide +kernel)⟩
theorem lw_p2 : lw_okq (⟨"SevenBlows$TextReader", "fail", "(II)V"⟩, 6) := ⟨⟨by decide +kernel, by decide +kernel⟩, List.mem_of_getElem? (i := 19) (by decide +kernel), List.mem_of_getElem? (i := 303) (by decide +kernel), List.mem_of_getElem? (i := 304) (by decide +kernel)⟩
theorem lw_p3 : lw_okq (⟨"SevenBlows$TextReader", "peopleClause", "(LSevenBlows$Land;)V"⟩, 6) := ⟨⟨by decide +kernel, by decide +kernel⟩, List.mem_of_getElem? (i := 19) (by decide +kernel), List.mem_of_getElem? (i := 307) (by decide +kernel), List.mem_of_getElem? (i := 308) (by decide +kernel)⟩
theorem lw_p4 : lw_okq (⟨"SevenBlows$TextReader", "number", "(II)I"⟩, 6) := ⟨⟨by decide +kernel, by decide +kernel⟩, List.mem_of_getElem? (i := 19) (by decide +kernel), List.mem_of_getElem? (i := 311) (by decide +kernel), List.mem_of_getElem? (i := 312) (by decide +kernel)⟩
theorem lw_p5 : lw_okq (⟨"SevenBlows$TextReader", "figureAhead", "()Z"⟩, 6) := ⟨⟨by decide +kernel, by decide +kernel⟩, List.mem_of_getElem? (i := 19) (by decide +kernel), List.mem_of_getElem? (i := 315) (by decide +kernel), List.mem_of_getElem? (i := 316) (by decide +kernel)⟩
theorem lw_p6 : lw_okq (⟨"SevenBlows$TextReader", "endOfClause", "()V"⟩, 6) := ⟨⟨by decide +kernel, by decide +kernel⟩, List.mem_of_getElem? (i := 19) (by decide +kernel), List.mem_of_getElem? (i := 319) (by decide +kernel), List.mem_of_getElem? (i := 320) (by decide +kernel)⟩
theorem lw_p7 : lw_okq (⟨"SevenBlows$TextReader", "fighterClause", "(LSevenBlows$Land;)V"⟩, 6) := ⟨⟨by decide +kernel, by decide +kernel⟩, List.mem_of_getElem? (i := 19) (by decide +kernel), List.mem_of_getElem? (i := 323) (by decide +kernel), List.mem_of_getElem? (i := 324) (by decide +kernel)⟩
theorem lw_p8 : lw_okq (⟨"SevenBlows$TextReader", "chatClause", "(LSevenBlows$Land;)V"⟩, 6) := ⟨⟨by decide +kernel, by decide +kernel⟩, List.mem_of_getElem? (i := 19) (by decide +kernel), List.mem_of_getElem? (i := 327) (by decide +kernel), List.mem_of_getElem? (i := 328) (by decide +kernel)⟩
theorem lw_p9 : lw_okq (⟨"SevenBlows$TextReader", "taskClause", "(LSevenBlows$Land;)V"⟩, 6) := ⟨⟨by decide +kernel, by decide +kernel⟩, List.mem_of_getElem? (i := 19) (by decide +kernel), List.mem_of_getElem? (i := 334) (by decide +kernel), List.mem_of_getElem? (i := 335) (by decide +kernel)⟩
theorem lw_p10 : lw_okq (⟨"SevenBlows$TextReader", "trickClause", "(LSevenBlows$Land;)V"⟩, 6) := ⟨⟨by decide +kernel, by decide +kernel⟩, List.mem_of_getElem? (i := 19) (by decide +kernel), List.mem_of_getElem? (i := 338) (by decide +kernel), List.mem_of_getElem? (i := 339) (by decide +kernel)⟩
theorem lw_p11 : lw_okq (⟨"SevenBlows$TextReader", "thoughtClause", "(LSevenBlows$Land;)V"⟩, 6) := ⟨⟨by decide +kernel, by decide +kernel⟩, List.mem_of_getElem? (i := 19) (by decide +kernel), List.mem_of_getElem? (i := 342) (by decide +kernel), List.mem_of_getElem? (i := 343) (by decide +kernel)⟩
theorem lw_p12 : lw_okq (⟨"SevenBlows", "allThoughts", "()I"⟩, 10) := ⟨⟨by decide +kernel, by decide +kernel⟩, List.mem_of_getElem? (i := 11) (by decide +kernel), List.mem_of_getElem? (i := 361) (by decide +kernel), List.mem_of_getElem? (i := 362) (by decide +kernel)⟩
theorem lw_p13 : lw_okq (⟨"SevenBlows", "isFighter", "(I)Z"⟩, 10) := ⟨⟨by decide +kernel, by decide +kernel⟩, List.mem_of_getElem? (i := 11) (by decide +kernel), List.mem_of_getElem? (i := 370) (by decide +kernel), List.mem_of_getElem? (i := 371) (by decide +kernel)⟩
theorem lw_p14 : lw_okq (⟨"SevenBlows", "readsNow", "(I)I"⟩, 10) := ⟨⟨by decide +kernel, by decide +kernel⟩, List.mem_of_getElem? (i := 11) (by decide +kernel), List.mem_of_getElem? (i := 375) (by decide +kernel), List.mem_of_getElem? (i := 376) (by decide +kernel)⟩
theorem lw_p15 : lw_okq (⟨"SevenBlows$Land", "together", "([II)I"⟩, 18) := ⟨⟨by decide +kernel, by decide +kernel⟩, List.mem_of_getElem? (i := 47) (by decide +kernel), List.mem_of_getElem? (i := 390) (by decide +kernel), List.mem_of_getElem? (i := 391) (by decide +kernel)⟩
def lw_privs_1 : List (MethodName × Nat) := [(⟨"SevenBlows$TextReader", "skipBlanks", "()V"⟩, 6), (⟨"SevenBlows$TextReader", "clause", "(LSevenBlows$Land;)V"⟩, 6), (⟨"SevenBlows$TextReader", "fail", "(II)V"⟩, 6), (⟨"SevenBlows$TextReader", "peopleClause", "(LSevenBlows$Land;)V"⟩, 6), (⟨"SevenBlows$TextReader", "number", "(II)I"⟩, 6), (⟨"SevenBlows$TextReader", "figureAhead", "()Z"⟩, 6), (⟨"SevenBlows$TextReader", "endOfClause", "()V"⟩, 6), (⟨"SevenBlows$TextReader", "fighterClause", "(LSevenBlows$Land;)V"⟩, 6), (⟨"SevenBlows$TextReader", "chatClause", "(LSevenBlows$Land;)V"⟩, 6), (⟨"SevenBlows$TextReader", "taskClause", "(LSevenBlows$Land;)V"⟩, 6), (⟨"SevenBlows$TextReader", "trickClause", "(LSevenBlows$Land;)V"⟩, 6), (⟨"SevenBlows$TextReader", "thoughtClause", "(LSevenBlows$Land;)V"⟩, 6), (⟨"SevenBlows", "allThoughts", "()I"⟩, 10), (⟨"SevenBlows", "isFighter", "(I)Z"⟩, 10), (⟨"SevenBlows", "readsNow", "(I)I"⟩, 10), (⟨"SevenBlows$Land", "together", "([II)I"⟩, 18)]
theorem lw_r1 : ∀ q ∈ lw_privs_1, lw_okq q := List.forall_mem_cons.mpr ⟨lw_p0, List.forall_mem_cons.mpr ⟨lw_p1, List.forall_mem_cons.mpr ⟨lw_p2, List.forall_mem_cons.mpr ⟨lw_p3, List.forall_mem_cons.mpr ⟨lw_p4, List.forall_mem_cons.mpr ⟨lw_p5, List.forall_mem_cons.mpr ⟨lw_p6, List.forall_mem_cons.mpr ⟨lw_p7, List.forall_mem_cons.mpr ⟨lw_p8, List.forall_mem_cons.mpr ⟨lw_p9, List.forall_mem_cons.mpr ⟨lw_p10, List.forall_mem_cons.mpr ⟨lw_p11, List.forall_mem_cons.mpr ⟨lw_p12, List.forall_mem_cons.mpr ⟨lw_p13, List.forall_mem_cons.mpr ⟨lw_p14, List.forall_mem_cons.mpr ⟨lw_p15, fun _ h => absurd h List.not_mem_nil⟩⟩⟩⟩⟩⟩⟩⟩⟩⟩⟩⟩⟩⟩⟩⟩
theorem lw_p16 : lw_okq (⟨"SevenBlows", "isPerson", "(I)Z"⟩, 10) := ⟨⟨by decide +kernel, by decide +kernel⟩, List.mem_of_getElem? (i := 11) (by decide +kernel), List.mem_of_getElem? (i := 399) (by decide +kernel), List.mem_of_getElem? (i := 400) (by decide +kernel)⟩
theorem lw_p17 : lw_okq (⟨"SevenBlows", "isTask", "(I)Z"⟩, 10) := ⟨⟨by decide +kernel, by decide +kernel⟩, List.mem_of_getElem? (i := 11) (by decide +kernel), List.mem_of_getElem? (i := 411) (by decide +kernel), List.mem_of_getElem? (i := 412) (by decide +kernel)⟩
theorem lw_p18 : lw_okq (⟨"SevenBlows", "readBelt", "(II)I"⟩, 10) := ⟨⟨by decide +kernel, by decide +kernel⟩, List.mem_of_getElem? (i := 11) (by decide +kernel), List.mem_of_getElem? (i := 427) (by decide +kernel), List.mem_of_getElem? (i := 428) (by decide +kernel)⟩
theorem lw_p19 : lw_okq (⟨"SevenBlows", "spread", "(I)I"⟩, 10) := ⟨⟨by decide +kernel, by decide +kernel⟩, List.mem_of_getElem? (i := 11) (by decide +kernel), List.mem_of_getElem? (i := 438) (by decide +kernel), List.mem_of_getElem? (i := 439) (by decide +kernel)⟩
theorem lw_p20 : lw_okq (⟨"SevenBlows", "mostAround", "(II)I"⟩, 10) := ⟨⟨by decide +kernel, by decide +kernel⟩, List.mem_of_getElem? (i := 11) (by decide +kernel), List.mem_of_getElem? (i := 442) (by decide +kernel), List.mem_of_getElem? (i := 443) (by decide +kernel)⟩
theorem lw_p21 : lw_okq (⟨"SevenBlows", "lookClosely", "(II)I"⟩, 10) := ⟨⟨by decide +kernel, by decide +kernel⟩, List.mem_of_getElem? (i := 11) (by decide +kernel), List.mem_of_getElem? (i := 451) (by decide +kernel), List.mem_of_getElem? (i := 452) (by decide +kernel)⟩
theorem lw_p22 : lw_okq (⟨"SevenBlows$Land", "dangerLeft", "(III)I"⟩, 18) := ⟨⟨by decide +kernel, by decide +kernel⟩, List.mem_of_getElem? (i := 47) (by decide +kernel), List.mem_of_getElem? (i := 468) (by decide +kernel), List.mem_of_getElem? (i := 469) (by decide +kernel)⟩
theorem lw_p23 : lw_okq (⟨"SevenBlows", "grow", "(II)V"⟩, 10) := ⟨⟨by decide +kernel, by decide +kernel⟩, List.mem_of_getElem? (i := 11) (by decide +kernel), List.mem_of_getElem? (i := 473) (by decide +kernel), List.mem_of_getElem? (i := 474) (by decide +kernel)⟩
theorem lw_p24 : lw_okq (⟨"SevenBlows", "liveOneDay", "()V"⟩, 10) := ⟨⟨by decide +kernel, by decide +kernel⟩, List.mem_of_getElem? (i := 11) (by decide +kernel), List.mem_of_getElem? (i := 484) (by decide +kernel), List.mem_of_getElem? (i := 485) (by decide +kernel)⟩
theorem lw_p25 : lw_okq (⟨"SevenBlows$Planner", "step", "(LSevenBlows$Land;LSevenBlows$State;I)V"⟩, 4) := ⟨⟨by decide +kernel, by decide +kernel⟩, List.mem_of_getElem? (i := 206) (by decide +kernel), List.mem_of_getElem? (i := 504) (by decide +kernel), List.mem_of_getElem? (i := 505) (by decide +kernel)⟩
theorem lw_p26 : lw_okq (⟨"SevenBlows$BeltWriter", "roundChanges", "(LSevenBlows$Land;LSevenBlows$State;)Z"⟩, 2) := ⟨⟨by decide +kernel, by decide +kernel⟩, List.mem_of_getElem? (i := 228) (by decide +kernel), List.mem_of_getElem? (i := 536) (by decide +kernel), List.mem_of_getElem? (i := 537) (by decide +kernel)⟩
theorem lw_p27 : lw_okq (⟨"SevenBlows$BeltWriter", "bestBelt", "(LSevenBlows$Land;LSevenBlows$State;I)I"⟩, 2) := ⟨⟨by decide +kernel, by decide +kernel⟩, List.mem_of_getElem? (i := 228) (by decide +kernel), List.mem_of_getElem? (i := 540) (by decide +kernel), List.mem_of_getElem? (i := 541) (by decide +kernel)⟩
theorem lw_p28 : lw_okq (⟨"SevenBlows$BeltWriter", "strongestRival", "(LSevenBlows$Land;LSevenBlows$State;II)I"⟩, 2) := ⟨⟨by decide +kernel, by decide +kernel⟩, List.mem_of_getElem? (i := 228) (by decide +kernel), List.mem_of_getElem? (i := 544) (by decide +kernel), List.mem_of_getElem? (i := 545) (by decide +kernel)⟩
theorem lw_p29 : lw_okq (⟨"SevenBlows$BeltWriter", "gain", "(LSevenBlows$Land;LSevenBlows$State;II)I"⟩, 2) := ⟨⟨by decide +kernel, by decide +kernel⟩, List.mem_of_getElem? (i := 228) (by decide +kernel), List.mem_of_getElem? (i := 551) (by decide +kernel), List.mem_of_getElem? (i := 552) (by decide +kernel)⟩
theorem lw_p30 : lw_okq (⟨"SevenBlows", "wordsTo", "(II)I"⟩, 10) := ⟨⟨by decide +kernel, by decide +kernel⟩, List.mem_of_getElem? (i := 11) (by decide +kernel), List.mem_of_getElem? (i := 566) (by decide +kernel), List.mem_of_getElem? (i := 567) (by decide +kernel)⟩
theorem lw_p31 : lw_okq (⟨"SevenBlows", "topBidder", "(II)I"⟩, 10) := ⟨⟨by decide +kernel, by decide +kernel⟩, List.mem_of_getElem? (i := 11) (by decide +kernel), List.mem_of_getElem? (i := 574) (by decide +kernel), List.mem_of_getElem? (i := 575) (by decide +kernel)⟩
def lw_privs_2 : List (MethodName × Nat) := [(⟨"SevenBlows", "isPerson", "(I)Z"⟩, 10), (⟨"SevenBlows", "isTask", "(I)Z"⟩, 10), (⟨"SevenBlows", "readBelt", "(II)I"⟩, 10), (⟨"SevenBlows", "spread", "(I)I"⟩, 10), (⟨"SevenBlows", "mostAround", "(II)I"⟩, 10), (⟨"SevenBlows", "lookClosely", "(II)I"⟩, 10), (⟨"SevenBlows$Land", "dangerLeft", "(III)I"⟩, 18), (⟨"SevenBlows", "grow", "(II)V"⟩, 10), (⟨"SevenBlows", "liveOneDay", "()V"⟩, 10), (⟨"SevenBlows$Planner", "step", "(LSevenBlows$Land;LSevenBlows$State;I)V"⟩, 4), (⟨"SevenBlows$BeltWriter", "roundChanges", "(LSevenBlows$Land;LSevenBlows$State;)Z"⟩, 2), (⟨"SevenBlows$BeltWriter", "bestBelt", "(LSevenBlows$Land;LSevenBlows$State;I)I"⟩, 2), (⟨"SevenBlows$BeltWriter", "strongestRival", "(LSevenBlows$Land;LSevenBlows$State;II)I"⟩, 2), (⟨"SevenBlows$BeltWriter", "gain", "(LSevenBlows$Land;LSevenBlows$State;II)I"⟩, 2), (⟨"SevenBlows", "wordsTo", "(II)I"⟩, 10), (⟨"SevenBlows", "topBidder", "(II)I"⟩, 10)]
theorem lw_r2 : ∀ q ∈ lw_privs_2, lw_okq q := List.forall_mem_cons.mpr ⟨lw_p16, List.forall_mem_cons.mpr ⟨lw_p17, List.forall_mem_cons.mpr ⟨lw_p18, List.forall_mem_cons.mpr ⟨lw_p19, List.forall_mem_cons.mpr ⟨lw_p20, List.forall_mem_cons.mpr ⟨lw_p21, List.forall_mem_cons.mpr ⟨lw_p22, List.forall_mem_cons.mpr ⟨lw_p23, List.forall_mem_cons.mpr ⟨lw_p24, List.forall_mem_cons.mpr ⟨lw_p25, List.forall_mem_cons.mpr ⟨lw_p26, List.forall_mem_cons.mpr ⟨lw_p27, List.forall_mem_cons.mpr ⟨lw_p28, List.forall_mem_cons.mpr ⟨lw_p29, List.forall_mem_cons.mpr ⟨lw_p30, List.forall_mem_cons.mpr ⟨lw_p31, fun _ h => absurd h List.not_mem_nil⟩⟩⟩⟩⟩⟩⟩⟩⟩⟩⟩⟩⟩⟩⟩⟩
theorem lw_p32 : lw_okq (⟨"SevenBlows", "waysBy", "(III)I"⟩, 10) := ⟨⟨by decide +kernel, by decide +kernel⟩, List.mem_of_getElem? (i := 11) (by decide +kernel), List.mem_of_getElem? (i := 582) (by decide +kernel), List.mem_of_getElem? (i := 583) (by decide +kernel)⟩
theorem lw_p33 : lw_okq (⟨"SevenBlowsModel", "faultOf", "()I"⟩, 32) := ⟨⟨by decide +kernel, by decide +kernel⟩, List.mem_of_getElem? (i := 630) (by decide +kernel), List.mem_of_getElem? (i := 748) (by decide +kernel), List.mem_of_getElem? (i := 749) (by decide +kernel)⟩
theorem lw_p34 : lw_okq (⟨"SevenBlowsModel", "skip", "()V"⟩, 32) := ⟨⟨by decide +kernel, by decide +kernel⟩, List.mem_of_getElem? (i := 630) (by decide +kernel), List.mem_of_getElem? (i := 752) (by decide +kernel), List.mem_of_getElem? (i := 753) (by decide +kernel)⟩
theorem lw_p35 : lw_okq (⟨"SevenBlowsModel", "clause", "()I"⟩, 32) := ⟨⟨by decide +kernel, by decide +kernel⟩, List.mem_of_getElem? (i := 630) (by decide +kernel), List.mem_of_getElem? (i := 756) (by decide +kernel), List.mem_of_getElem? (i := 757) (by decide +kernel)⟩
theorem lw_p36 : lw_okq (⟨"SevenBlowsModel", "readsPeople", "()I"⟩, 32) := ⟨⟨by decide +kernel, by decide +kernel⟩, List.mem_of_getElem? (i := 630) (by decide +kernel), List.mem_of_getElem? (i := 760) (by decide +kernel), List.mem_of_getElem? (i := 761) (by decide +kernel)⟩
theorem lw_p37 : lw_okq (⟨"SevenBlowsModel", "number", "(III)I"⟩, 32) := ⟨⟨by decide +kernel, by decide +kernel⟩, List.mem_of_getElem? (i := 630) (by decide +kernel), List.mem_of_getElem? (i := 764) (by decide +kernel), List.mem_of_getElem? (i := 765) (by decide +kernel)⟩
theorem lw_p38 : lw_okq (⟨"SevenBlowsModel", "semicolon", "(I)I"⟩, 32) := ⟨⟨by decide +kernel, by decide +kernel⟩, List.mem_of_getElem? (i := 630) (by decide +kernel), List.mem_of_getElem? (i := 773) (by decide +kernel), List.mem_of_getElem? (i := 774) (by decide +kernel)⟩
theorem lw_p39 : lw_okq (⟨"SevenBlowsModel", "readsFighter", "()I"⟩, 32) := ⟨⟨by decide +kernel, by decide +kernel⟩, List.mem_of_getElem? (i := 630) (by decide +kernel), List.mem_of_getElem? (i := 777) (by decide +kernel), List.mem_of_getElem? (i := 778) (by decide +kernel)⟩
theorem lw_p40 : lw_okq (⟨"SevenBlowsModel", "numberOr", "(IIII)I"⟩, 32) := ⟨⟨by decide +kernel, by decide +kernel⟩, List.mem_of_getElem? (i := 630) (by decide +kernel), List.mem_of_getElem? (i := 781) (by decide +kernel), List.mem_of_getElem? (i := 782) (by decide +kernel)⟩
theorem lw_p41 : lw_okq (⟨"SevenBlowsModel", "readsChat", "()I"⟩, 32) := ⟨⟨by decide +kernel, by decide +kernel⟩, List.mem_of_getElem? (i := 630) (by decide +kernel), List.mem_of_getElem? (i := 785) (by decide +kernel), List.mem_of_getElem? (i := 786) (by decide +kernel)⟩
theorem lw_p42 : lw_okq (⟨"SevenBlowsModel", "readsTask", "()I"⟩, 32) := ⟨⟨by decide +kernel, by decide +kernel⟩, List.mem_of_getElem? (i := 630) (by decide +kernel), List.mem_of_getElem? (i := 792) (by decide +kernel), List.mem_of_getElem? (i := 793) (by decide +kernel)⟩
theorem lw_p43 : lw_okq (⟨"SevenBlowsModel", "readsTrick", "()I"⟩, 32) := ⟨⟨by decide +kernel, by decide +kernel⟩, List.mem_of_getElem? (i := 630) (by decide +kernel), List.mem_of_getElem? (i := 796) (by decide +kernel), List.mem_of_getElem? (i := 797) (by decide +kernel)⟩
theorem lw_p44 : lw_okq (⟨"SevenBlowsModel", "readsThought", "()I"⟩, 32) := ⟨⟨by decide +kernel, by decide +kernel⟩, List.mem_of_getElem? (i := 630) (by decide +kernel), List.mem_of_getElem? (i := 800) (by decide +kernel), List.mem_of_getElem? (i := 801) (by decide +kernel)⟩
theorem lw_p45 : lw_okq (⟨"SevenBlowsModel", "allThoughts", "()I"⟩, 32) := ⟨⟨by decide +kernel, by decide +kernel⟩, List.mem_of_getElem? (i := 630) (by decide +kernel), List.mem_of_getElem? (i := 812) (by decide +kernel), List.mem_of_getElem? (i := 813) (by decide +kernel)⟩
theorem lw_p46 : lw_okq (⟨"SevenBlowsModel", "thought", "(II)I"⟩, 32) := ⟨⟨by decide +kernel, by decide +kernel⟩, List.mem_of_getElem? (i := 630) (by decide +kernel), List.mem_of_getElem? (i := 816) (by decide +kernel), List.mem_of_getElem? (i := 817) (by decide +kernel)⟩
theorem lw_p47 : lw_okq (⟨"SevenBlowsModel", "isFighter", "(I)Z"⟩, 32) := ⟨⟨by decide +kernel, by decide +kernel⟩, List.mem_of_getElem? (i := 630) (by decide +kernel), List.mem_of_getElem? (i := 824) (by decide +kernel), List.mem_of_getElem? (i := 825) (by decide +kernel)⟩
def lw_privs_3 : List (MethodName × Nat) := [(⟨"SevenBlows", "waysBy", "(III)I"⟩, 10), (⟨"SevenBlowsModel", "faultOf", "()I"⟩, 32), (⟨"SevenBlowsModel", "skip", "()V"⟩, 32), (⟨"SevenBlowsModel", "clause", "()I"⟩, 32), (⟨"SevenBlowsModel", "readsPeople", "()I"⟩, 32), (⟨"SevenBlowsModel", "number", "(III)I"⟩, 32), (⟨"SevenBlowsModel", "semicolon", "(I)I"⟩, 32), (⟨"SevenBlowsModel", "readsFighter", "()I"⟩, 32), (⟨"SevenBlowsModel", "numberOr", "(IIII)I"⟩, 32), (⟨"SevenBlowsModel", "readsChat", "()I"⟩, 32), (⟨"SevenBlowsModel", "readsTask", "()I"⟩, 32), (⟨"SevenBlowsModel", "readsTrick", "()I"⟩, 32), (⟨"SevenBlowsModel", "readsThought", "()I"⟩, 32), (⟨"SevenBlowsModel", "allThoughts", "()I"⟩, 32), (⟨"SevenBlowsModel", "thought", "(II)I"⟩, 32), (⟨"SevenBlowsModel", "isFighter", "(I)Z"⟩, 32)]
theorem lw_r3 : ∀ q ∈ lw_privs_3, lw_okq q := List.forall_mem_cons.mpr ⟨lw_p32, List.forall_mem_cons.mpr ⟨lw_p33, List.forall_mem_cons.mpr ⟨lw_p34, List.forall_mem_cons.mpr ⟨lw_p35, List.forall_mem_cons.mpr ⟨lw_p36, List.forall_mem_cons.mpr ⟨lw_p37, List.forall_mem_cons.mpr ⟨lw_p38, List.forall_mem_cons.mpr ⟨lw_p39, List.forall_mem_cons.mpr ⟨lw_p40, List.forall_mem_cons.mpr ⟨lw_p41, List.forall_mem_cons.mpr ⟨lw_p42, List.forall_mem_cons.mpr ⟨lw_p43, List.forall_mem_cons.mpr ⟨lw_p44, List.forall_mem_cons.mpr ⟨lw_p45, List.forall_mem_cons.mpr ⟨lw_p46, List.forall_mem_cons.mpr ⟨lw_p47, fun _ h => absurd h List.not_mem_nil⟩⟩⟩⟩⟩⟩⟩⟩⟩⟩⟩⟩⟩⟩⟩⟩
theorem lw_p48 : lw_okq (⟨"SevenBlowsModel", "readsNow", "(I)I"⟩, 32) := ⟨⟨by decide +kernel, by decide +kernel⟩, List.mem_of_getElem? (i := 630) (by decide +kernel), List.mem_of_getElem? (i := 829) (by decide +kernel), List.mem_of_getElem? (i := 830) (by decide +kernel)⟩
theorem lw_p49 : lw_okq (⟨"SevenBlowsModel", "reads", "(II)I"⟩, 32) := ⟨⟨by decide +kernel, by decide +kernel⟩, List.mem_of_getElem? (i := 630) (by decide +kernel), List.mem_of_getElem? (i := 833) (by decide +kernel), List.mem_of_getElem? (i := 834) (by decide +kernel)⟩
theorem lw_p50 : lw_okq (⟨"SevenBlowsModel", "worthOf", "(I)I"⟩, 32) := ⟨⟨by decide +kernel, by decide +kernel⟩, List.mem_of_getElem? (i := 630) (by decide +kernel), List.mem_of_getElem? (i := 837) (by decide +kernel), List.mem_of_getElem? (i := 838) (by decide +kernel)⟩
theorem lw_p51 : lw_okq (⟨"SevenBlowsModel", "isOne", "(I)Z"⟩, 32) := ⟨⟨by decide +kernel, by decide +kernel⟩, List.mem_of_getElem? (i := 630) (by decide +kernel), List.mem_of_getElem? (i := 845) (by decide +kernel), List.mem_of_getElem? (i := 846) (by decide +kernel)⟩
theorem lw_p52 : lw_okq (⟨"SevenBlowsModel", "isTask", "(I)Z"⟩, 32) := ⟨⟨by decide +kernel, by decide +kernel⟩, List.mem_of_getElem? (i := 630) (by decide +kernel), List.mem_of_getElem? (i := 857) (by decide +kernel), List.mem_of_getElem? (i := 858) (by decide +kernel)⟩
theorem lw_p53 : lw_okq (⟨"SevenBlowsModel", "tricksOf", "(I)I"⟩, 32) := ⟨⟨by decide +kernel, by decide +kernel⟩, List.mem_of_getElem? (i := 630) (by decide +kernel), List.mem_of_getElem? (i := 862) (by decide +kernel), List.mem_of_getElem? (i := 863) (by decide +kernel)⟩
theorem lw_p54 : lw_okq (⟨"SevenBlowsModel", "doRead", "(II)V"⟩, 32) := ⟨⟨by decide +kernel, by decide +kernel⟩, List.mem_of_getElem? (i := 630) (by decide +kernel), List.mem_of_getElem? (i := 875) (by decide +kernel), List.mem_of_getElem? (i := 876) (by decide +kernel)⟩
theorem lw_p55 : lw_okq (⟨"SevenBlowsModel", "think", "(III)V"⟩, 32) := ⟨⟨by decide +kernel, by decide +kernel⟩, List.mem_of_getElem? (i := 630) (by decide +kernel), List.mem_of_getElem? (i := 879) (by decide +kernel), List.mem_of_getElem? (i := 880) (by decide +kernel)⟩
theorem lw_p56 : lw_okq (⟨"SevenBlowsModel", "doRumour", "(I)I"⟩, 32) := ⟨⟨by decide +kernel, by decide +kernel⟩, List.mem_of_getElem? (i := 630) (by decide +kernel), List.mem_of_getElem? (i := 887) (by decide +kernel), List.mem_of_getElem? (i := 888) (by decide +kernel)⟩
theorem lw_p57 : lw_okq (⟨"SevenBlowsModel", "doInspect", "(II)V"⟩, 32) := ⟨⟨by decide +kernel, by decide +kernel⟩, List.mem_of_getElem? (i := 630) (by decide +kernel), List.mem_of_getElem? (i := 895) (by decide +kernel), List.mem_of_getElem? (i := 896) (by decide +kernel)⟩
theorem lw_p58 : lw_okq (⟨"SevenBlowsModel", "passes", "(IIII)Z"⟩, 32) := ⟨⟨by decide +kernel, by decide +kernel⟩, List.mem_of_getElem? (i := 630) (by decide +kernel), List.mem_of_getElem? (i := 909) (by decide +kernel), List.mem_of_getElem? (i := 910) (by decide +kernel)⟩
theorem lw_p59 : lw_okq (⟨"SevenBlowsModel", "draw", "(I)I"⟩, 32) := ⟨⟨by decide +kernel, by decide +kernel⟩, List.mem_of_getElem? (i := 630) (by decide +kernel), List.mem_of_getElem? (i := 918) (by decide +kernel), List.mem_of_getElem? (i := 919) (by decide +kernel)⟩
theorem lw_p60 : lw_okq (⟨"SevenBlowsModel", "passable", "(I)I"⟩, 32) := ⟨⟨by decide +kernel, by decide +kernel⟩, List.mem_of_getElem? (i := 630) (by decide +kernel), List.mem_of_getElem? (i := 930) (by decide +kernel), List.mem_of_getElem? (i := 931) (by decide +kernel)⟩
theorem lw_p61 : lw_okq (⟨"SevenBlowsModel", "nextTask", "(II)I"⟩, 32) := ⟨⟨by decide +kernel, by decide +kernel⟩, List.mem_of_getElem? (i := 630) (by decide +kernel), List.mem_of_getElem? (i := 934) (by decide +kernel), List.mem_of_getElem? (i := 935) (by decide +kernel)⟩
theorem lw_p62 : lw_okq (⟨"SevenBlowsModel", "leastTricks", "(III)I"⟩, 32) := ⟨⟨by decide +kernel, by decide +kernel⟩, List.mem_of_getElem? (i := 630) (by decide +kernel), List.mem_of_getElem? (i := 938) (by decide +kernel), List.mem_of_getElem? (i := 939) (by decide +kernel)⟩
theorem lw_p63 : lw_okq (⟨"SevenBlowsModel", "fameOf", "(I)I"⟩, 32) := ⟨⟨by decide +kernel, by decide +kernel⟩, List.mem_of_getElem? (i := 630) (by decide +kernel), List.mem_of_getElem? (i := 942) (by decide +kernel), List.mem_of_getElem? (i := 943) (by decide +kernel)⟩
def lw_privs_4 : List (MethodName × Nat) := [(⟨"SevenBlowsModel", "readsNow", "(I)I"⟩, 32), (⟨"SevenBlowsModel", "reads", "(II)I"⟩, 32), (⟨"SevenBlowsModel", "worthOf", "(I)I"⟩, 32), (⟨"SevenBlowsModel", "isOne", "(I)Z"⟩, 32), (⟨"SevenBlowsModel", "isTask", "(I)Z"⟩, 32), (⟨"SevenBlowsModel", "tricksOf", "(I)I"⟩, 32), (⟨"SevenBlowsModel", "doRead", "(II)V"⟩, 32), (⟨"SevenBlowsModel", "think", "(III)V"⟩, 32), (⟨"SevenBlowsModel", "doRumour", "(I)I"⟩, 32), (⟨"SevenBlowsModel", "doInspect", "(II)V"⟩, 32), (⟨"SevenBlowsModel", "passes", "(IIII)Z"⟩, 32), (⟨"SevenBlowsModel", "draw", "(I)I"⟩, 32), (⟨"SevenBlowsModel", "passable", "(I)I"⟩, 32), (⟨"SevenBlowsModel", "nextTask", "(II)I"⟩, 32), (⟨"SevenBlowsModel", "leastTricks", "(III)I"⟩, 32), (⟨"SevenBlowsModel", "fameOf", "(I)I"⟩, 32)]
theorem lw_r4 : ∀ q ∈ lw_privs_4, lw_okq q := List.forall_mem_cons.mpr ⟨lw_p48, List.forall_mem_cons.mpr ⟨lw_p49, List.forall_mem_cons.mpr ⟨lw_p50, List.forall_mem_cons.mpr ⟨lw_p51, List.forall_mem_cons.mpr ⟨lw_p52, List.forall_mem_cons.mpr ⟨lw_p53, List.forall_mem_cons.mpr ⟨lw_p54, List.forall_mem_cons.mpr ⟨lw_p55, List.forall_mem_cons.mpr ⟨lw_p56, List.forall_mem_cons.mpr ⟨lw_p57, List.forall_mem_cons.mpr ⟨lw_p58, List.forall_mem_cons.mpr ⟨lw_p59, List.forall_mem_cons.mpr ⟨lw_p60, List.forall_mem_cons.mpr ⟨lw_p61, List.forall_mem_cons.mpr ⟨lw_p62, List.forall_mem_cons.mpr ⟨lw_p63, fun _ h => absurd h List.not_mem_nil⟩⟩⟩⟩⟩⟩⟩⟩⟩⟩⟩⟩⟩⟩⟩⟩
theorem lw_p64 : lw_okq (⟨"SevenBlowsModel", "writes", "()Z"⟩, 32) := ⟨⟨by decide +kernel, by decide +kernel⟩, List.mem_of_getElem? (i := 630) (by decide +kernel), List.mem_of_getElem? (i := 954) (by decide +kernel), List.mem_of_getElem? (i := 955) (by decide +kernel)⟩
theorem lw_p65 : lw_okq (⟨"SevenBlowsModel", "gainOf", "(I)I"⟩, 32) := ⟨⟨by decide +kernel, by decide +kernel⟩, List.mem_of_getElem? (i := 630) (by decide +kernel), List.mem_of_getElem? (i := 958) (by decide +kernel), List.mem_of_getElem? (i := 959) (by decide +kernel)⟩
theorem lw_p66 : lw_okq (⟨"SevenBlowsModel", "wouldThink", "(II)I"⟩, 32) := ⟨⟨by decide +kernel, by decide +kernel⟩, List.mem_of_getElem? (i := 630) (by decide +kernel), List.mem_of_getElem? (i := 962) (by decide +kernel), List.mem_of_getElem? (i := 963) (by decide +kernel)⟩
theorem lw_p67 : lw_okq (⟨"SevenBlowsModel", "wordsTo", "(II)I"⟩, 32) := ⟨⟨by decide +kernel, by decide +kernel⟩, List.mem_of_getElem? (i := 630) (by decide +kernel), List.mem_of_getElem? (i := 977) (by decide +kernel), List.mem_of_getElem? (i := 978) (by decide +kernel)⟩
theorem lw_p68 : lw_okq (⟨"SevenBlowsModel", "copyRow", "(II)V"⟩, 32) := ⟨⟨by decide +kernel, by decide +kernel⟩, List.mem_of_getElem? (i := 630) (by decide +kernel), List.mem_of_getElem? (i := 1016) (by decide +kernel), List.mem_of_getElem? (i := 1017) (by decide +kernel)⟩
def lw_privs_5 : List (MethodName × Nat) := [(⟨"SevenBlowsModel", "writes", "()Z"⟩, 32), (⟨"SevenBlowsModel", "gainOf", "(I)I"⟩, 32), (⟨"SevenBlowsModel", "wouldThink", "(II)I"⟩, 32), (⟨"SevenBlowsModel", "wordsTo", "(II)I"⟩, 32), (⟨"SevenBlowsModel", "copyRow", "(II)V"⟩, 32)]
theorem lw_r5 : ∀ q ∈ lw_privs_5, lw_okq q := List.forall_mem_cons.mpr ⟨lw_p64, List.forall_mem_cons.mpr ⟨lw_p65, List.forall_mem_cons.mpr ⟨lw_p66, List.forall_mem_cons.mpr ⟨lw_p67, List.forall_mem_cons.mpr ⟨lw_p68, fun _ h => absurd h List.not_mem_nil⟩⟩⟩⟩⟩
def lw_privs : List (MethodName × Nat) := lw_privs_1 ++ (lw_privs_2 ++ (lw_privs_3 ++ (lw_privs_4 ++ (lw_privs_5))))
def lw_tbl : List Cond := k2_sels lw_privs ++ tables_1
theorem lw_privs_ok : ∀ q ∈ lw_privs, lw_okq q := by
  show ∀ q ∈ lw_privs_1 ++ (lw_privs_2 ++ (lw_privs_3 ++ (lw_privs_4 ++ (lw_privs_5)))), lw_okq q
  exact List.forall_mem_append.mpr ⟨lw_r1, List.forall_mem_append.mpr ⟨lw_r2, List.forall_mem_append.mpr ⟨lw_r3, List.forall_mem_append.mpr ⟨lw_r4, lw_r5⟩⟩⟩⟩
-- ===== end of PART A; then your names; then what follows =====
def RX0 : String := "SevenBlows$BeltWriter"
def TX0 : u_T := fun k => match k with
  | 0 => ("SevenBlows$BeltWriter", "belts", "[I", true)
  | _ => ("SevenBlows$BeltWriter", "rivals", "[I", true)
def tyX0 : Nat → FieldType := fun k => match k with
  | 0 => .array .int
  | _ => .array .int
abbrev wsX00 : List Cond := u_ws RX0 TX0 2
theorem nmX0 : ∀ a, a < 2 → ∀ b, b < 2 → a ≠ b → (TX0 a).2.1 ≠ (TX0 b).2.1 := by decide +kernel
theorem tyX0_ok : ∀ k, k < 2 → parseFieldDescriptor (TX0 k).2.2.1 = some (tyX0 k) := by decide +kernel
abbrev cX0_init : ByteArray := prog_2_method_1_code
def yX0_init : MethodName := ⟨RX0, "<init>", "()V"⟩
abbrev cX0_settle : ByteArray := prog_2_method_2_code
def yX0_settle : MethodName := ⟨RX0, "settle", "(LSevenBlows$Land;LSevenBlows$State;)I"⟩
abbrev cX0_roundChanges : ByteArray := prog_2_method_3_code
def yX0_roundChanges : MethodName := ⟨RX0, "roundChanges", "(LSevenBlows$Land;LSevenBlows$State;)Z"⟩
abbrev cX0_bestBelt : ByteArray := prog_2_method_4_code
def yX0_bestBelt : MethodName := ⟨RX0, "bestBelt", "(LSevenBlows$Land;LSevenBlows$State;I)I"⟩
abbrev cX0_strongestRival : ByteArray := prog_2_method_5_code
def yX0_strongestRival : MethodName := ⟨RX0, "strongestRival", "(LSevenBlows$Land;LSevenBlows$State;II)I"⟩
abbrev cX0_gain : ByteArray := prog_2_method_6_code
def yX0_gain : MethodName := ⟨RX0, "gain", "(LSevenBlows$Land;LSevenBlows$State;II)I"⟩
def RX1 : String := "SevenBlows$Book"
def TX1 : u_T := fun k => match k with
  | 0 => ("SevenBlows$Book", "slots", "[I", true)
  | 1 => ("SevenBlows$Book", "amounts", "[I", true)
  | _ => ("SevenBlows$Book", "entries", "I", false)
def tyX1 : Nat → FieldType := fun k => match k with
  | 0 => .array .int
  | 1 => .array .int
  | _ => .int
abbrev wsX10 : List Cond := u_ws RX1 TX1 3
theorem nmX1 : ∀ a, a < 3 → ∀ b, b < 3 → a ≠ b → (TX1 a).2.1 ≠ (TX1 b).2.1 := by decide +kernel
theorem tyX1_ok : ∀ k, k < 3 → parseFieldDescriptor (TX1 k).2.2.1 = some (tyX1 k) := by decide +kernel
abbrev cX1_init : ByteArray := prog_3_method_1_code
def yX1_init : MethodName := ⟨RX1, "<init>", "()V"⟩
abbrev cX1_enter : ByteArray := prog_3_method_2_code
def yX1_enter : MethodName := ⟨RX1, "enter", "(II)I"⟩
abbrev cX1_firstWrong : ByteArray := prog_3_method_3_code
def yX1_firstWrong : MethodName := ⟨RX1, "firstWrong", "(LSevenBlows$State;)I"⟩
def RX2 : String := "SevenBlows$Land"
def TX2 : u_T := fun k => match k with
  | 0 => ("SevenBlows$Land", "people", "I", false)
  | 1 => ("SevenBlows$Land", "fighters", "I", false)
  | 2 => ("SevenBlows$Land", "chatPairs", "I", false)
  | 3 => ("SevenBlows$Land", "tasks", "I", false)
  | 4 => ("SevenBlows$Land", "tricks", "I", false)
  | 5 => ("SevenBlows$Land", "thoughtsTold", "I", false)
  | 6 => ("SevenBlows$Land", "kind", "[I", true)
  | 7 => ("SevenBlows$Land", "strength", "[I", true)
  | 8 => ("SevenBlows$Land", "firstBelts", "[I", true)
  | 9 => ("SevenBlows$Land", "chatsWith", "[I", true)
  | 10 => ("SevenBlows$Land", "guard", "[I", true)
  | 11 => ("SevenBlows$Land", "danger", "[I", true)
  | 12 => ("SevenBlows$Land", "worth", "[I", true)
  | 13 => ("SevenBlows$Land", "fame", "[I", true)
  | 14 => ("SevenBlows$Land", "trickTask", "[I", true)
  | 15 => ("SevenBlows$Land", "lowers", "[I", true)
  | 16 => ("SevenBlows$Land", "needs", "[I", true)
  | _ => ("SevenBlows$Land", "firstThoughts", "[I", true)
def tyX2 : Nat → FieldType := fun k => match k with
  | 0 => .int
  | 1 => .int
  | 2 => .int
  | 3 => .int
  | 4 => .int
  | 5 => .int
  | 6 => .array .int
  | 7 => .array .int
  | 8 => .array .int
  | 9 => .array .int
  | 10 => .array .int
  | 11 => .array .int
  | 12 => .array .int
  | 13 => .array .int
  | 14 => .array .int
  | 15 => .array .int
  | 16 => .array .int
  | _ => .array .int
abbrev wsX20 : List Cond := u_ws RX2 TX2 18
theorem nmX2 : ∀ a, a < 18 → ∀ b, b < 18 → a ≠ b → (TX2 a).2.1 ≠ (TX2 b).2.1 := by decide +kernel
theorem tyX2_ok : ∀ k, k < 18 → parseFieldDescriptor (TX2 k).2.2.1 = some (tyX2 k) := by decide +kernel
abbrev cX2_init : ByteArray := prog_4_method_1_code
def yX2_init : MethodName := ⟨RX2, "<init>", "()V"⟩
abbrev cX2_clear : ByteArray := prog_4_method_2_code
def yX2_clear : MethodName := ⟨RX2, "clear", "()V"⟩
abbrev cX2_readsAs : ByteArray := prog_4_method_3_code
def yX2_readsAs : MethodName := ⟨RX2, "readsAs", "(II)I"⟩
abbrev cX2_tricksOf : ByteArray := prog_4_method_4_code
def yX2_tricksOf : MethodName := ⟨RX2, "tricksOf", "(I)I"⟩
abbrev cX2_worthOf : ByteArray := prog_4_method_5_code
def yX2_worthOf : MethodName := ⟨RX2, "worthOf", "(I)I"⟩
abbrev cX2_fameOf : ByteArray := prog_4_method_6_code
def yX2_fameOf : MethodName := ⟨RX2, "fameOf", "(I)I"⟩
abbrev cX2_together : ByteArray := prog_4_method_7_code
def yX2_together : MethodName := ⟨RX2, "together", "([II)I"⟩
abbrev cX2_passes : ByteArray := prog_4_method_8_code
def yX2_passes : MethodName := ⟨RX2, "passes", "(IIII)Z"⟩
abbrev cX2_dangerLeft : ByteArray := prog_4_method_9_code
def yX2_dangerLeft : MethodName := ⟨RX2, "dangerLeft", "(III)I"⟩
def RX3 : String := "SevenBlows$Planner"
def TX3 : u_T := fun k => match k with
  | 0 => ("SevenBlows$Planner", "row", "[I", true)
  | 1 => ("SevenBlows$Planner", "sets", "[I", true)
  | 2 => ("SevenBlows$Planner", "steps", "I", false)
  | _ => ("SevenBlows$Planner", "passed", "I", false)
def tyX3 : Nat → FieldType := fun k => match k with
  | 0 => .array .int
  | 1 => .array .int
  | 2 => .int
  | _ => .int
abbrev wsX30 : List Cond := u_ws RX3 TX3 4
theorem nmX3 : ∀ a, a < 4 → ∀ b, b < 4 → a ≠ b → (TX3 a).2.1 ≠ (TX3 b).2.1 := by decide +kernel
theorem tyX3_ok : ∀ k, k < 4 → parseFieldDescriptor (TX3 k).2.2.1 = some (tyX3 k) := by decide +kernel
abbrev cX3_init : ByteArray := prog_5_method_1_code
def yX3_init : MethodName := ⟨RX3, "<init>", "()V"⟩
abbrev cX3_walk : ByteArray := prog_5_method_2_code
def yX3_walk : MethodName := ⟨RX3, "walk", "(LSevenBlows$Land;LSevenBlows$State;I)V"⟩
abbrev cX3_lengthOfPlan : ByteArray := prog_5_method_3_code
def yX3_lengthOfPlan : MethodName := ⟨RX3, "lengthOfPlan", "(LSevenBlows$Land;)I"⟩
abbrev cX3_step : ByteArray := prog_5_method_4_code
def yX3_step : MethodName := ⟨RX3, "step", "(LSevenBlows$Land;LSevenBlows$State;I)V"⟩
abbrev cX3_leastSet : ByteArray := prog_5_method_5_code
def yX3_leastSet : MethodName := ⟨RX3, "leastSet", "(LSevenBlows$Land;IIII)I"⟩
def RX4 : String := "SevenBlows$State"
def TX4 : u_T := fun k => match k with
  | 0 => ("SevenBlows$State", "belts", "[I", true)
  | 1 => ("SevenBlows$State", "done", "[I", true)
  | 2 => ("SevenBlows$State", "used", "[I", true)
  | 3 => ("SevenBlows$State", "thoughts", "[I", true)
  | 4 => ("SevenBlows$State", "days", "I", false)
  | 5 => ("SevenBlows$State", "drawSeed", "I", false)
  | _ => ("SevenBlows$State", "kept", "Z", false)
def tyX4 : Nat → FieldType := fun k => match k with
  | 0 => .array .int
  | 1 => .array .int
  | 2 => .array .int
  | 3 => .array .int
  | 4 => .int
  | 5 => .int
  | _ => .boolean
abbrev wsX40 : List Cond := u_ws RX4 TX4 7
theorem nmX4 : ∀ a, a < 7 → ∀ b, b < 7 → a ≠ b → (TX4 a).2.1 ≠ (TX4 b).2.1 := by decide +kernel
theorem tyX4_ok : ∀ k, k < 7 → parseFieldDescriptor (TX4 k).2.2.1 = some (tyX4 k) := by decide +kernel
abbrev cX4_init : ByteArray := prog_6_method_1_code
def yX4_init : MethodName := ⟨RX4, "<init>", "()V"⟩
abbrev cX4_begin : ByteArray := prog_6_method_2_code
def yX4_begin : MethodName := ⟨RX4, "begin", "(LSevenBlows$Land;)V"⟩
abbrev cX4_become : ByteArray := prog_6_method_3_code
def yX4_become : MethodName := ⟨RX4, "become", "(LSevenBlows$State;)V"⟩
abbrev cX4_draw : ByteArray := prog_6_method_4_code
def yX4_draw : MethodName := ⟨RX4, "draw", "(I)I"⟩
def RX5 : String := "SevenBlows$TextReader"
def TX5 : u_T := fun k => match k with
  | 0 => ("SevenBlows$TextReader", "letters", "[I", true)
  | 1 => ("SevenBlows$TextReader", "length", "I", false)
  | 2 => ("SevenBlows$TextReader", "place", "I", false)
  | 3 => ("SevenBlows$TextReader", "numberPlace", "I", false)
  | 4 => ("SevenBlows$TextReader", "faultNumber", "I", false)
  | _ => ("SevenBlows$TextReader", "faultPlace", "I", false)
def tyX5 : Nat → FieldType := fun k => match k with
  | 0 => .array .int
  | 1 => .int
  | 2 => .int
  | 3 => .int
  | 4 => .int
  | _ => .int
abbrev wsX50 : List Cond := u_ws RX5 TX5 6
theorem nmX5 : ∀ a, a < 6 → ∀ b, b < 6 → a ≠ b → (TX5 a).2.1 ≠ (TX5 b).2.1 := by decide +kernel
theorem tyX5_ok : ∀ k, k < 6 → parseFieldDescriptor (TX5 k).2.2.1 = some (tyX5 k) := by decide +kernel
abbrev cX5_init : ByteArray := prog_7_method_1_code
def yX5_init : MethodName := ⟨RX5, "<init>", "()V"⟩
abbrev cX5_append : ByteArray := prog_7_method_2_code
def yX5_append : MethodName := ⟨RX5, "append", "(I)I"⟩
abbrev cX5_parse : ByteArray := prog_7_method_3_code
def yX5_parse : MethodName := ⟨RX5, "parse", "(LSevenBlows$Land;)I"⟩
abbrev cX5_fail : ByteArray := prog_7_method_4_code
def yX5_fail : MethodName := ⟨RX5, "fail", "(II)V"⟩
abbrev cX5_skipBlanks : ByteArray := prog_7_method_5_code
def yX5_skipBlanks : MethodName := ⟨RX5, "skipBlanks", "()V"⟩
abbrev cX5_figureAhead : ByteArray := prog_7_method_6_code
def yX5_figureAhead : MethodName := ⟨RX5, "figureAhead", "()Z"⟩
abbrev cX5_number : ByteArray := prog_7_method_7_code
def yX5_number : MethodName := ⟨RX5, "number", "(II)I"⟩
abbrev cX5_endOfClause : ByteArray := prog_7_method_8_code
def yX5_endOfClause : MethodName := ⟨RX5, "endOfClause", "()V"⟩
abbrev cX5_clause : ByteArray := prog_7_method_9_code
def yX5_clause : MethodName := ⟨RX5, "clause", "(LSevenBlows$Land;)V"⟩
abbrev cX5_peopleClause : ByteArray := prog_7_method_10_code
def yX5_peopleClause : MethodName := ⟨RX5, "peopleClause", "(LSevenBlows$Land;)V"⟩
abbrev cX5_fighterClause : ByteArray := prog_7_method_11_code
def yX5_fighterClause : MethodName := ⟨RX5, "fighterClause", "(LSevenBlows$Land;)V"⟩
abbrev cX5_chatClause : ByteArray := prog_7_method_12_code
def yX5_chatClause : MethodName := ⟨RX5, "chatClause", "(LSevenBlows$Land;)V"⟩
abbrev cX5_taskClause : ByteArray := prog_7_method_13_code
def yX5_taskClause : MethodName := ⟨RX5, "taskClause", "(LSevenBlows$Land;)V"⟩
abbrev cX5_trickClause : ByteArray := prog_7_method_14_code
def yX5_trickClause : MethodName := ⟨RX5, "trickClause", "(LSevenBlows$Land;)V"⟩
abbrev cX5_thoughtClause : ByteArray := prog_7_method_15_code
def yX5_thoughtClause : MethodName := ⟨RX5, "thoughtClause", "(LSevenBlows$Land;)V"⟩
def RX6 : String := "SevenBlows"
def TX6 : u_T := fun k => match k with
  | 0 => ("SevenBlows", "reader", "LSevenBlows$TextReader;", true)
  | 1 => ("SevenBlows", "realm", "LSevenBlows$Land;", false)
  | 2 => ("SevenBlows", "draft", "LSevenBlows$Land;", false)
  | 3 => ("SevenBlows", "now", "LSevenBlows$State;", true)
  | 4 => ("SevenBlows", "firstImage", "LSevenBlows$State;", true)
  | 5 => ("SevenBlows", "secondImage", "LSevenBlows$State;", true)
  | 6 => ("SevenBlows", "book", "LSevenBlows$Book;", true)
  | 7 => ("SevenBlows", "planner", "LSevenBlows$Planner;", true)
  | 8 => ("SevenBlows", "beltWriter", "LSevenBlows$BeltWriter;", true)
  | _ => ("SevenBlows", "heard", "[I", true)
def tyX6 : Nat → FieldType := fun k => match k with
  | 0 => .object "SevenBlows$TextReader"
  | 1 => .object "SevenBlows$Land"
  | 2 => .object "SevenBlows$Land"
  | 3 => .object "SevenBlows$State"
  | 4 => .object "SevenBlows$State"
  | 5 => .object "SevenBlows$State"
  | 6 => .object "SevenBlows$Book"
  | 7 => .object "SevenBlows$Planner"
  | 8 => .object "SevenBlows$BeltWriter"
  | _ => .array .int
abbrev wsX60 : List Cond := u_ws RX6 TX6 10
theorem nmX6 : ∀ a, a < 10 → ∀ b, b < 10 → a ≠ b → (TX6 a).2.1 ≠ (TX6 b).2.1 := by decide +kernel
theorem tyX6_ok : ∀ k, k < 10 → parseFieldDescriptor (TX6 k).2.2.1 = some (tyX6 k) := by decide +kernel
abbrev cX6_init : ByteArray := prog_1_method_1_code
def yX6_init : MethodName := ⟨RX6, "<init>", "()V"⟩
abbrev cX6_feed : ByteArray := prog_1_method_2_code
def yX6_feed : MethodName := ⟨RX6, "feed", "(I)I"⟩
abbrev cX6_land : ByteArray := prog_1_method_3_code
def yX6_land : MethodName := ⟨RX6, "land", "()I"⟩
abbrev cX6_fault : ByteArray := prog_1_method_4_code
def yX6_fault : MethodName := ⟨RX6, "fault", "()I"⟩
abbrev cX6_told : ByteArray := prog_1_method_5_code
def yX6_told : MethodName := ⟨RX6, "told", "(I)I"⟩
abbrev cX6_fighter : ByteArray := prog_1_method_6_code
def yX6_fighter : MethodName := ⟨RX6, "fighter", "(II)I"⟩
abbrev cX6_thinks : ByteArray := prog_1_method_7_code
def yX6_thinks : MethodName := ⟨RX6, "thinks", "(II)I"⟩
abbrev cX6_chats : ByteArray := prog_1_method_8_code
def yX6_chats : MethodName := ⟨RX6, "chats", "(I)I"⟩
abbrev cX6_task : ByteArray := prog_1_method_9_code
def yX6_task : MethodName := ⟨RX6, "task", "(II)I"⟩
abbrev cX6_trick : ByteArray := prog_1_method_10_code
def yX6_trick : MethodName := ⟨RX6, "trick", "(II)I"⟩
abbrev cX6_read : ByteArray := prog_1_method_11_code
def yX6_read : MethodName := ⟨RX6, "read", "(II)I"⟩
abbrev cX6_rumour : ByteArray := prog_1_method_12_code
def yX6_rumour : MethodName := ⟨RX6, "rumour", "(I)I"⟩
abbrev cX6_inspect : ByteArray := prog_1_method_13_code
def yX6_inspect : MethodName := ⟨RX6, "inspect", "(II)I"⟩
abbrev cX6_belt : ByteArray := prog_1_method_14_code
def yX6_belt : MethodName := ⟨RX6, "belt", "(II)I"⟩
abbrev cX6_attempt : ByteArray := prog_1_method_15_code
def yX6_attempt : MethodName := ⟨RX6, "attempt", "(III)I"⟩
abbrev cX6_drift : ByteArray := prog_1_method_16_code
def yX6_drift : MethodName := ⟨RX6, "drift", "(I)I"⟩
abbrev cX6_plan : ByteArray := prog_1_method_17_code
def yX6_plan : MethodName := ⟨RX6, "plan", "(III)I"⟩
abbrev cX6_stops : ByteArray := prog_1_method_18_code
def yX6_stops : MethodName := ⟨RX6, "stops", "(I)I"⟩
abbrev cX6_write : ByteArray := prog_1_method_19_code
def yX6_write : MethodName := ⟨RX6, "write", "(I)I"⟩
abbrev cX6_tells : ByteArray := prog_1_method_20_code
def yX6_tells : MethodName := ⟨RX6, "tells", "(III)I"⟩
abbrev cX6_words : ByteArray := prog_1_method_21_code
def yX6_words : MethodName := ⟨RX6, "words", "(II)I"⟩
abbrev cX6_hire : ByteArray := prog_1_method_22_code
def yX6_hire : MethodName := ⟨RX6, "hire", "(II)I"⟩
abbrev cX6_saw : ByteArray := prog_1_method_23_code
def yX6_saw : MethodName := ⟨RX6, "saw", "(III)I"⟩
abbrev cX6_hides : ByteArray := prog_1_method_24_code
def yX6_hides : MethodName := ⟨RX6, "hides", "(II)I"⟩
abbrev cX6_note : ByteArray := prog_1_method_25_code
def yX6_note : MethodName := ⟨RX6, "note", "(III)I"⟩
abbrev cX6_tear : ByteArray := prog_1_method_26_code
def yX6_tear : MethodName := ⟨RX6, "tear", "()I"⟩
abbrev cX6_judge : ByteArray := prog_1_method_27_code
def yX6_judge : MethodName := ⟨RX6, "judge", "()I"⟩
abbrev cX6_seed : ByteArray := prog_1_method_28_code
def yX6_seed : MethodName := ⟨RX6, "seed", "(I)I"⟩
abbrev cX6_keep : ByteArray := prog_1_method_29_code
def yX6_keep : MethodName := ⟨RX6, "keep", "(I)I"⟩
abbrev cX6_goBack : ByteArray := prog_1_method_30_code
def yX6_goBack : MethodName := ⟨RX6, "goBack", "(I)I"⟩
abbrev cX6_has : ByteArray := prog_1_method_31_code
def yX6_has : MethodName := ⟨RX6, "has", "(II)Z"⟩
abbrev cX6_slot : ByteArray := prog_1_method_32_code
def yX6_slot : MethodName := ⟨RX6, "slot", "(II)I"⟩
abbrev cX6_isPerson : ByteArray := prog_1_method_33_code
def yX6_isPerson : MethodName := ⟨RX6, "isPerson", "(I)Z"⟩
abbrev cX6_isFighter : ByteArray := prog_1_method_34_code
def yX6_isFighter : MethodName := ⟨RX6, "isFighter", "(I)Z"⟩
abbrev cX6_isTask : ByteArray := prog_1_method_35_code
def yX6_isTask : MethodName := ⟨RX6, "isTask", "(I)Z"⟩
abbrev cX6_readsNow : ByteArray := prog_1_method_36_code
def yX6_readsNow : MethodName := ⟨RX6, "readsNow", "(I)I"⟩
abbrev cX6_allThoughts : ByteArray := prog_1_method_37_code
def yX6_allThoughts : MethodName := ⟨RX6, "allThoughts", "()I"⟩
abbrev cX6_readBelt : ByteArray := prog_1_method_38_code
def yX6_readBelt : MethodName := ⟨RX6, "readBelt", "(II)I"⟩
abbrev cX6_spread : ByteArray := prog_1_method_39_code
def yX6_spread : MethodName := ⟨RX6, "spread", "(I)I"⟩
abbrev cX6_mostAround : ByteArray := prog_1_method_40_code
def yX6_mostAround : MethodName := ⟨RX6, "mostAround", "(II)I"⟩
abbrev cX6_lookClosely : ByteArray := prog_1_method_41_code
def yX6_lookClosely : MethodName := ⟨RX6, "lookClosely", "(II)I"⟩
abbrev cX6_grow : ByteArray := prog_1_method_42_code
def yX6_grow : MethodName := ⟨RX6, "grow", "(II)V"⟩
abbrev cX6_liveOneDay : ByteArray := prog_1_method_43_code
def yX6_liveOneDay : MethodName := ⟨RX6, "liveOneDay", "()V"⟩
abbrev cX6_commonDivisor : ByteArray := prog_1_method_44_code
def yX6_commonDivisor : MethodName := ⟨RX6, "commonDivisor", "(II)I"⟩
abbrev cX6_wordsTo : ByteArray := prog_1_method_45_code
def yX6_wordsTo : MethodName := ⟨RX6, "wordsTo", "(II)I"⟩
abbrev cX6_topBidder : ByteArray := prog_1_method_46_code
def yX6_topBidder : MethodName := ⟨RX6, "topBidder", "(II)I"⟩
abbrev cX6_waysBy : ByteArray := prog_1_method_47_code
def yX6_waysBy : MethodName := ⟨RX6, "waysBy", "(III)I"⟩
def RX7 : String := "SevenBlowsModel"
def TX7 : u_T := fun k => match k with
  | 0 => ("SevenBlowsModel", "row", "[I", true)
  | 1 => ("SevenBlowsModel", "isKept", "[Z", true)
  | 2 => ("SevenBlowsModel", "text", "[I", true)
  | 3 => ("SevenBlowsModel", "length", "I", false)
  | 4 => ("SevenBlowsModel", "faultAt", "I", false)
  | 5 => ("SevenBlowsModel", "people", "I", false)
  | 6 => ("SevenBlowsModel", "fighters", "I", false)
  | 7 => ("SevenBlowsModel", "kinds", "[I", true)
  | 8 => ("SevenBlowsModel", "strengths", "[I", true)
  | 9 => ("SevenBlowsModel", "chatMany", "I", false)
  | 10 => ("SevenBlowsModel", "chats", "[I", true)
  | 11 => ("SevenBlowsModel", "tasks", "I", false)
  | 12 => ("SevenBlowsModel", "task", "[I", true)
  | 13 => ("SevenBlowsModel", "tricks", "I", false)
  | 14 => ("SevenBlowsModel", "trick", "[I", true)
  | 15 => ("SevenBlowsModel", "book", "[I", true)
  | 16 => ("SevenBlowsModel", "bookMany", "I", false)
  | 17 => ("SevenBlowsModel", "at", "I", false)
  | 18 => ("SevenBlowsModel", "place", "I", false)
  | 19 => ("SevenBlowsModel", "readPeople", "I", false)
  | 20 => ("SevenBlowsModel", "readFighters", "I", false)
  | 21 => ("SevenBlowsModel", "readFighter", "[I", true)
  | 22 => ("SevenBlowsModel", "readChatMany", "I", false)
  | 23 => ("SevenBlowsModel", "readChats", "[I", true)
  | 24 => ("SevenBlowsModel", "readTasks", "I", false)
  | 25 => ("SevenBlowsModel", "readTask", "[I", true)
  | 26 => ("SevenBlowsModel", "readTricks", "I", false)
  | 27 => ("SevenBlowsModel", "readTrick", "[I", true)
  | 28 => ("SevenBlowsModel", "readThought", "[I", true)
  | 29 => ("SevenBlowsModel", "numbers", "[I", true)
  | 30 => ("SevenBlowsModel", "aside", "[I", true)
  | _ => ("SevenBlowsModel", "belts", "[I", true)
def tyX7 : Nat → FieldType := fun k => match k with
  | 0 => .array .int
  | 1 => .array .boolean
  | 2 => .array .int
  | 3 => .int
  | 4 => .int
  | 5 => .int
  | 6 => .int
  | 7 => .array .int
  | 8 => .array .int
  | 9 => .int
  | 10 => .array .int
  | 11 => .int
  | 12 => .array .int
  | 13 => .int
  | 14 => .array .int
  | 15 => .array .int
  | 16 => .int
  | 17 => .int
  | 18 => .int
  | 19 => .int
  | 20 => .int
  | 21 => .array .int
  | 22 => .int
  | 23 => .array .int
  | 24 => .int
  | 25 => .array .int
  | 26 => .int
  | 27 => .array .int
  | 28 => .array .int
  | 29 => .array .int
  | 30 => .array .int
  | _ => .array .int
abbrev wsX70 : List Cond := u_ws RX7 TX7 32
theorem nmX7 : ∀ a, a < 32 → ∀ b, b < 32 → a ≠ b → (TX7 a).2.1 ≠ (TX7 b).2.1 := by decide +kernel
theorem tyX7_ok : ∀ k, k < 32 → parseFieldDescriptor (TX7 k).2.2.1 = some (tyX7 k) := by decide +kernel
abbrev cX7_init : ByteArray := prog_9_method_1_code
def yX7_init : MethodName := ⟨RX7, "<init>", "()V"⟩
abbrev cX7_in : ByteArray := prog_9_method_2_code
def yX7_in : MethodName := ⟨RX7, "in", "(JJJ)Z"⟩
abbrev cX7_has : ByteArray := prog_9_method_3_code
def yX7_has : MethodName := ⟨RX7, "has", "(II)Z"⟩
abbrev cX7_feed : ByteArray := prog_9_method_5_code
def yX7_feed : MethodName := ⟨RX7, "feed", "(I)I"⟩
abbrev cX7_isFigure : ByteArray := prog_9_method_6_code
def yX7_isFigure : MethodName := ⟨RX7, "isFigure", "(I)Z"⟩
abbrev cX7_skip : ByteArray := prog_9_method_7_code
def yX7_skip : MethodName := ⟨RX7, "skip", "()V"⟩
abbrev cX7_number : ByteArray := prog_9_method_8_code
def yX7_number : MethodName := ⟨RX7, "number", "(III)I"⟩
abbrev cX7_numberOr : ByteArray := prog_9_method_9_code
def yX7_numberOr : MethodName := ⟨RX7, "numberOr", "(IIII)I"⟩
abbrev cX7_semicolon : ByteArray := prog_9_method_10_code
def yX7_semicolon : MethodName := ⟨RX7, "semicolon", "(I)I"⟩
abbrev cX7_readsPeople : ByteArray := prog_9_method_11_code
def yX7_readsPeople : MethodName := ⟨RX7, "readsPeople", "()I"⟩
abbrev cX7_readsFighter : ByteArray := prog_9_method_12_code
def yX7_readsFighter : MethodName := ⟨RX7, "readsFighter", "()I"⟩
abbrev cX7_readsChat : ByteArray := prog_9_method_13_code
def yX7_readsChat : MethodName := ⟨RX7, "readsChat", "()I"⟩
abbrev cX7_readsTask : ByteArray := prog_9_method_14_code
def yX7_readsTask : MethodName := ⟨RX7, "readsTask", "()I"⟩
abbrev cX7_readsTrick : ByteArray := prog_9_method_15_code
def yX7_readsTrick : MethodName := ⟨RX7, "readsTrick", "()I"⟩
abbrev cX7_readsThought : ByteArray := prog_9_method_16_code
def yX7_readsThought : MethodName := ⟨RX7, "readsThought", "()I"⟩
abbrev cX7_clause : ByteArray := prog_9_method_17_code
def yX7_clause : MethodName := ⟨RX7, "clause", "()I"⟩
abbrev cX7_faultOf : ByteArray := prog_9_method_18_code
def yX7_faultOf : MethodName := ⟨RX7, "faultOf", "()I"⟩
abbrev cX7_land : ByteArray := prog_9_method_19_code
def yX7_land : MethodName := ⟨RX7, "land", "()I"⟩
abbrev cX7_fault : ByteArray := prog_9_method_20_code
def yX7_fault : MethodName := ⟨RX7, "fault", "()I"⟩
abbrev cX7_isOne : ByteArray := prog_9_method_21_code
def yX7_isOne : MethodName := ⟨RX7, "isOne", "(I)Z"⟩
abbrev cX7_isFighter : ByteArray := prog_9_method_22_code
def yX7_isFighter : MethodName := ⟨RX7, "isFighter", "(I)Z"⟩
abbrev cX7_isTask : ByteArray := prog_9_method_23_code
def yX7_isTask : MethodName := ⟨RX7, "isTask", "(I)Z"⟩
abbrev cX7_thought : ByteArray := prog_9_method_24_code
def yX7_thought : MethodName := ⟨RX7, "thought", "(II)I"⟩
abbrev cX7_think : ByteArray := prog_9_method_25_code
def yX7_think : MethodName := ⟨RX7, "think", "(III)V"⟩
abbrev cX7_allThoughts : ByteArray := prog_9_method_26_code
def yX7_allThoughts : MethodName := ⟨RX7, "allThoughts", "()I"⟩
abbrev cX7_told : ByteArray := prog_9_method_27_code
def yX7_told : MethodName := ⟨RX7, "told", "(I)I"⟩
abbrev cX7_reads : ByteArray := prog_9_method_28_code
def yX7_reads : MethodName := ⟨RX7, "reads", "(II)I"⟩
abbrev cX7_readsNow : ByteArray := prog_9_method_29_code
def yX7_readsNow : MethodName := ⟨RX7, "readsNow", "(I)I"⟩
abbrev cX7_worthOf : ByteArray := prog_9_method_30_code
def yX7_worthOf : MethodName := ⟨RX7, "worthOf", "(I)I"⟩
abbrev cX7_fighter : ByteArray := prog_9_method_31_code
def yX7_fighter : MethodName := ⟨RX7, "fighter", "(II)I"⟩
abbrev cX7_thinks : ByteArray := prog_9_method_32_code
def yX7_thinks : MethodName := ⟨RX7, "thinks", "(II)I"⟩
abbrev cX7_chats : ByteArray := prog_9_method_33_code
def yX7_chats : MethodName := ⟨RX7, "chats", "(I)I"⟩
abbrev cX7_tricksOf : ByteArray := prog_9_method_34_code
def yX7_tricksOf : MethodName := ⟨RX7, "tricksOf", "(I)I"⟩
abbrev cX7_task : ByteArray := prog_9_method_35_code
def yX7_task : MethodName := ⟨RX7, "task", "(II)I"⟩
abbrev cX7_trick : ByteArray := prog_9_method_36_code
def yX7_trick : MethodName := ⟨RX7, "trick", "(II)I"⟩
abbrev cX7_doRead : ByteArray := prog_9_method_37_code
def yX7_doRead : MethodName := ⟨RX7, "doRead", "(II)V"⟩
abbrev cX7_read : ByteArray := prog_9_method_38_code
def yX7_read : MethodName := ⟨RX7, "read", "(II)I"⟩
abbrev cX7_doRumour : ByteArray := prog_9_method_39_code
def yX7_doRumour : MethodName := ⟨RX7, "doRumour", "(I)I"⟩
abbrev cX7_rumour : ByteArray := prog_9_method_40_code
def yX7_rumour : MethodName := ⟨RX7, "rumour", "(I)I"⟩
abbrev cX7_doInspect : ByteArray := prog_9_method_41_code
def yX7_doInspect : MethodName := ⟨RX7, "doInspect", "(II)V"⟩
abbrev cX7_inspect : ByteArray := prog_9_method_42_code
def yX7_inspect : MethodName := ⟨RX7, "inspect", "(II)I"⟩
abbrev cX7_belt : ByteArray := prog_9_method_43_code
def yX7_belt : MethodName := ⟨RX7, "belt", "(II)I"⟩
abbrev cX7_passes : ByteArray := prog_9_method_44_code
def yX7_passes : MethodName := ⟨RX7, "passes", "(IIII)Z"⟩
abbrev cX7_attempt : ByteArray := prog_9_method_45_code
def yX7_attempt : MethodName := ⟨RX7, "attempt", "(III)I"⟩
abbrev cX7_draw : ByteArray := prog_9_method_46_code
def yX7_draw : MethodName := ⟨RX7, "draw", "(I)I"⟩
abbrev cX7_drift : ByteArray := prog_9_method_47_code
def yX7_drift : MethodName := ⟨RX7, "drift", "(I)I"⟩
abbrev cX7_fameOf : ByteArray := prog_9_method_48_code
def yX7_fameOf : MethodName := ⟨RX7, "fameOf", "(I)I"⟩
abbrev cX7_leastTricks : ByteArray := prog_9_method_49_code
def yX7_leastTricks : MethodName := ⟨RX7, "leastTricks", "(III)I"⟩
abbrev cX7_nextTask : ByteArray := prog_9_method_50_code
def yX7_nextTask : MethodName := ⟨RX7, "nextTask", "(II)I"⟩
abbrev cX7_passable : ByteArray := prog_9_method_51_code
def yX7_passable : MethodName := ⟨RX7, "passable", "(I)I"⟩
abbrev cX7_plan : ByteArray := prog_9_method_52_code
def yX7_plan : MethodName := ⟨RX7, "plan", "(III)I"⟩
abbrev cX7_stops : ByteArray := prog_9_method_53_code
def yX7_stops : MethodName := ⟨RX7, "stops", "(I)I"⟩
abbrev cX7_wouldThink : ByteArray := prog_9_method_54_code
def yX7_wouldThink : MethodName := ⟨RX7, "wouldThink", "(II)I"⟩
abbrev cX7_gainOf : ByteArray := prog_9_method_55_code
def yX7_gainOf : MethodName := ⟨RX7, "gainOf", "(I)I"⟩
abbrev cX7_writes : ByteArray := prog_9_method_56_code
def yX7_writes : MethodName := ⟨RX7, "writes", "()Z"⟩
abbrev cX7_write : ByteArray := prog_9_method_57_code
def yX7_write : MethodName := ⟨RX7, "write", "(I)I"⟩
abbrev cX7_divisor : ByteArray := prog_9_method_58_code
def yX7_divisor : MethodName := ⟨RX7, "divisor", "(II)I"⟩
abbrev cX7_tells : ByteArray := prog_9_method_59_code
def yX7_tells : MethodName := ⟨RX7, "tells", "(III)I"⟩
abbrev cX7_wordsTo : ByteArray := prog_9_method_60_code
def yX7_wordsTo : MethodName := ⟨RX7, "wordsTo", "(II)I"⟩
abbrev cX7_words : ByteArray := prog_9_method_61_code
def yX7_words : MethodName := ⟨RX7, "words", "(II)I"⟩
abbrev cX7_hire : ByteArray := prog_9_method_62_code
def yX7_hire : MethodName := ⟨RX7, "hire", "(II)I"⟩
abbrev cX7_saw : ByteArray := prog_9_method_63_code
def yX7_saw : MethodName := ⟨RX7, "saw", "(III)I"⟩
abbrev cX7_hides : ByteArray := prog_9_method_64_code
def yX7_hides : MethodName := ⟨RX7, "hides", "(II)I"⟩
abbrev cX7_note : ByteArray := prog_9_method_65_code
def yX7_note : MethodName := ⟨RX7, "note", "(III)I"⟩
abbrev cX7_tear : ByteArray := prog_9_method_66_code
def yX7_tear : MethodName := ⟨RX7, "tear", "()I"⟩
abbrev cX7_judge : ByteArray := prog_9_method_67_code
def yX7_judge : MethodName := ⟨RX7, "judge", "()I"⟩
abbrev cX7_seed : ByteArray := prog_9_method_68_code
def yX7_seed : MethodName := ⟨RX7, "seed", "(I)I"⟩
abbrev cX7_copyRow : ByteArray := prog_9_method_69_code
def yX7_copyRow : MethodName := ⟨RX7, "copyRow", "(II)V"⟩
abbrev cX7_keep : ByteArray := prog_9_method_70_code
def yX7_keep : MethodName := ⟨RX7, "keep", "(I)I"⟩
abbrev cX7_goBack : ByteArray := prog_9_method_71_code
def yX7_goBack : MethodName := ⟨RX7, "goBack", "(I)I"⟩
def RJ9 : String := "java/lang/Math"
def TJ9 : u_T := fun k => match k with
  | _ => ("", "", "", false)
def tyJ9 : Nat → FieldType := fun k => match k with
  | _ => .int
abbrev cJ9_max_7cf53 : ByteArray := prog_10_method_65_code
def yJ9_max_7cf53 : MethodName := ⟨RJ9, "max", "(II)I"⟩
abbrev cJ9_min_7cf53 : ByteArray := prog_10_method_69_code
def yJ9_min_7cf53 : MethodName := ⟨RJ9, "min", "(II)I"⟩
def RL : String := "SevenBlowsLaw"
abbrev cL_law : ByteArray := code
def yL_law : MethodName := ⟨RL, "law", "([I)Z"⟩
abbrev vwCl : List vw_C := [(RX0, TX0, 2), (RX1, TX1, 3), (RX2, TX2, 18), (RX3, TX3, 4), (RX4, TX4, 7), (RX5, TX5, 6), (RX6, TX6, 10), (RX7, TX7, 32)]
/-- the words that any method may lean on: those of the tables that stay -/
def GW : List Cond := lw_tbl.filter goodWord
theorem gwm (i : Nat) {w : Cond} (h : (decide (lw_tbl[i]? = some w) && goodWord w) = true) : w ∈ GW := by
  simp only [Bool.and_eq_true, decide_eq_true_eq] at h
  exact List.mem_filter.mpr ⟨List.mem_of_getElem? h.1, h.2⟩
theorem gwl {ws : List Cond} (ps : List Nat) (h : (decide (ws.map some = ps.map (fun i => lw_tbl[i]?)) && ws.all goodWord) = true) : ∀ w ∈ ws, w ∈ GW := by
  simp only [Bool.and_eq_true, decide_eq_true_eq] at h
  intro w hw
  have h2 : some w ∈ ws.map some := List.mem_map.mpr ⟨w, hw, rfl⟩
  rw [h.1] at h2
  obtain ⟨i, -, hi⟩ := List.mem_map.mp h2
  exact List.mem_filter.mpr ⟨List.mem_of_getElem? hi, List.all_eq_true.mp h.2 w hw⟩
theorem GW_sub : ∀ w ∈ GW, w ∈ lw_tbl := fun _ h => (List.mem_filter.mp h).1
theorem GW_good {ws : List Cond} (h : ∀ w ∈ ws, w ∈ GW) : GoodIn GW ws := fun w hw => ⟨h w hw, good_of_word (List.mem_filter.mp (h w hw)).2⟩
/-- a method's words: its own code, then all -/
abbrev wM (y : MethodName) (cc : ByteArray) (n : Nat) (ret : Option FieldType) : List Cond := Cond.code y cc n ret :: GW
theorem gC {y : MethodName} {cc : ByteArray} {n : Nat} {ret : Option FieldType} (h : Cond.code y cc n ret ∈ GW) : GoodIn GW (wM y cc n ret) := GW_good fun w hw => (List.mem_cons.mp hw).elim (fun e => e ▸ h) id
theorem gV {own C : String} {idx : Nat} {y : MethodName} {cc : ByteArray} {n : Nat} {ret : Option FieldType} (h1 : Cond.methodLink own idx y ∈ GW) (h2 : Cond.instanceMethod y ∈ GW) (h3 : Cond.selects C y y ∈ GW) (h4 : Cond.initialized C ∈ GW) (h5 : Cond.code y cc n ret ∈ GW) : GoodIn GW (wsV own idx C y (wM y cc n ret)) := GW_good fun w hw => by
  rcases List.mem_append.mp hw with h | h
  · simp only [List.mem_cons, List.not_mem_nil, or_false] at h
    rcases h with rfl | rfl | rfl | rfl <;> assumption
  · exact (List.mem_cons.mp h).elim (fun e => e ▸ h5) id
theorem gS {own : String} {idx : Nat} {y : MethodName} {cc : ByteArray} {n : Nat} {ret : Option FieldType} (h1 : Cond.methodLink own idx y ∈ GW) (h2 : Cond.static y ∈ GW) (h4 : Cond.initialized own ∈ GW) (h5 : Cond.code y cc n ret ∈ GW) : GoodIn GW (wsS own idx y (wM y cc n ret)) := GW_good fun w hw => by
  rcases List.mem_append.mp hw with h | h
  · simp only [List.mem_cons, List.not_mem_nil, or_false] at h
    rcases h with rfl | rfl | rfl <;> assumption
  · exact (List.mem_cons.mp h).elim (fun e => e ▸ h5) id
theorem g_0 : Cond.selects RX5 yX5_skipBlanks yX5_skipBlanks ∈ GW := gwm 0 (by decide +kernel)
theorem g_1 : Cond.selects RX5 yX5_clause yX5_clause ∈ GW := gwm 1 (by decide +kernel)
theorem g_2 : Cond.selects RX5 yX5_fail yX5_fail ∈ GW := gwm 2 (by decide +kernel)
theorem g_3 : Cond.selects RX5 yX5_peopleClause yX5_peopleClause ∈ GW := gwm 3 (by decide +kernel)
theorem g_4 : Cond.selects RX5 yX5_number yX5_number ∈ GW := gwm 4 (by decide +kernel)
theorem g_5 : Cond.selects RX5 yX5_figureAhead yX5_figureAhead ∈ GW := gwm 5 (by decide +kernel)
theorem g_6 : Cond.selects RX5 yX5_endOfClause yX5_endOfClause ∈ GW := gwm 6 (by decide +kernel)
theorem g_7 : Cond.selects RX5 yX5_fighterClause yX5_fighterClause ∈ GW := gwm 7 (by decide +kernel)
theorem g_8 : Cond.selects RX5 yX5_chatClause yX5_chatClause ∈ GW := gwm 8 (by decide +kernel)
theorem g_9 : Cond.selects RX5 yX5_taskClause yX5_taskClause ∈ GW := gwm 9 (by decide +kernel)
theorem g_10 : Cond.selects RX5 yX5_trickClause yX5_trickClause ∈ GW := gwm 10 (by decide +kernel)
theorem g_11 : Cond.selects RX5 yX5_thoughtClause yX5_thoughtClause ∈ GW := gwm 11 (by decide +kernel)
theorem g_12 : Cond.selects RX6 yX6_allThoughts yX6_allThoughts ∈ GW := gwm 12 (by decide +kernel)
theorem g_13 : Cond.selects RX6 yX6_isFighter yX6_isFighter ∈ GW := gwm 13 (by decide +kernel)
theorem g_14 : Cond.selects RX6 yX6_readsNow yX6_readsNow ∈ GW := gwm 14 (by decide +kernel)
theorem g_15 : Cond.selects RX2 yX2_together yX2_together ∈ GW := gwm 15 (by decide +kernel)
theorem g_16 : Cond.selects RX6 yX6_isPerson yX6_isPerson ∈ GW := gwm 16 (by decide +kernel)
theorem g_17 : Cond.selects RX6 yX6_isTask yX6_isTask ∈ GW := gwm 17 (by decide +kernel)
theorem g_18 : Cond.selects RX6 yX6_readBelt yX6_readBelt ∈ GW := gwm 18 (by decide +kernel)
theorem g_19 : Cond.selects RX6 yX6_spread yX6_spread ∈ GW := gwm 19 (by decide +kernel)
theorem g_20 : Cond.selects RX6 yX6_mostAround yX6_mostAround ∈ GW := gwm 20 (by decide +kernel)
theorem g_21 : Cond.selects RX6 yX6_lookClosely yX6_lookClosely ∈ GW := gwm 21 (by decide +kernel)
theorem g_22 : Cond.selects RX2 yX2_dangerLeft yX2_dangerLeft ∈ GW := gwm 22 (by decide +kernel)
theorem g_23 : Cond.selects RX6 yX6_grow yX6_grow ∈ GW := gwm 23 (by decide +kernel)
theorem g_24 : Cond.selects RX6 yX6_liveOneDay yX6_liveOneDay ∈ GW := gwm 24 (by decide +kernel)
theorem g_25 : Cond.selects RX3 yX3_step yX3_step ∈ GW := gwm 25 (by decide +kernel)
theorem g_26 : Cond.selects RX0 yX0_roundChanges yX0_roundChanges ∈ GW := gwm 26 (by decide +kernel)
theorem g_27 : Cond.selects RX0 yX0_bestBelt yX0_bestBelt ∈ GW := gwm 27 (by decide +kernel)
theorem g_28 : Cond.selects RX0 yX0_strongestRival yX0_strongestRival ∈ GW := gwm 28 (by decide +kernel)
theorem g_29 : Cond.selects RX0 yX0_gain yX0_gain ∈ GW := gwm 29 (by decide +kernel)
theorem g_30 : Cond.selects RX6 yX6_wordsTo yX6_wordsTo ∈ GW := gwm 30 (by decide +kernel)
theorem g_31 : Cond.selects RX6 yX6_topBidder yX6_topBidder ∈ GW := gwm 31 (by decide +kernel)
theorem g_32 : Cond.selects RX6 yX6_waysBy yX6_waysBy ∈ GW := gwm 32 (by decide +kernel)
theorem g_33 : Cond.selects RX7 yX7_faultOf yX7_faultOf ∈ GW := gwm 33 (by decide +kernel)
theorem g_34 : Cond.selects RX7 yX7_skip yX7_skip ∈ GW := gwm 34 (by decide +kernel)
theorem g_35 : Cond.selects RX7 yX7_clause yX7_clause ∈ GW := gwm 35 (by decide +kernel)
theorem g_36 : Cond.selects RX7 yX7_readsPeople yX7_readsPeople ∈ GW := gwm 36 (by decide +kernel)
theorem g_37 : Cond.selects RX7 yX7_number yX7_number ∈ GW := gwm 37 (by decide +kernel)
theorem g_38 : Cond.selects RX7 yX7_semicolon yX7_semicolon ∈ GW := gwm 38 (by decide +kernel)
theorem g_39 : Cond.selects RX7 yX7_readsFighter yX7_readsFighter ∈ GW := gwm 39 (by decide +kernel)
theorem g_40 : Cond.selects RX7 yX7_numberOr yX7_numberOr ∈ GW := gwm 40 (by decide +kernel)
theorem g_41 : Cond.selects RX7 yX7_readsChat yX7_readsChat ∈ GW := gwm 41 (by decide +kernel)
theorem g_42 : Cond.selects RX7 yX7_readsTask yX7_readsTask ∈ GW := gwm 42 (by decide +kernel)
theorem g_43 : Cond.selects RX7 yX7_readsTrick yX7_readsTrick ∈ GW := gwm 43 (by decide +kernel)
theorem g_44 : Cond.selects RX7 yX7_readsThought yX7_readsThought ∈ GW := gwm 44 (by decide +kernel)
theorem g_45 : Cond.selects RX7 yX7_allThoughts yX7_allThoughts ∈ GW := gwm 45 (by decide +kernel)
theorem g_46 : Cond.selects RX7 yX7_thought yX7_thought ∈ GW := gwm 46 (by decide +kernel)
theorem g_47 : Cond.selects RX7 yX7_isFighter yX7_isFighter ∈ GW := gwm 47 (by decide +kernel)
theorem g_48 : Cond.selects RX7 yX7_readsNow yX7_readsNow ∈ GW := gwm 48 (by decide +kernel)
theorem g_49 : Cond.selects RX7 yX7_reads yX7_reads ∈ GW := gwm 49 (by decide +kernel)
theorem g_50 : Cond.selects RX7 yX7_worthOf yX7_worthOf ∈ GW := gwm 50 (by decide +kernel)
theorem g_51 : Cond.selects RX7 yX7_isOne yX7_isOne ∈ GW := gwm 51 (by decide +kernel)
theorem g_52 : Cond.selects RX7 yX7_isTask yX7_isTask ∈ GW := gwm 52 (by decide +kernel)
theorem g_53 : Cond.selects RX7 yX7_tricksOf yX7_tricksOf ∈ GW := gwm 53 (by decide +kernel)
theorem g_54 : Cond.selects RX7 yX7_doRead yX7_doRead ∈ GW := gwm 54 (by decide +kernel)
theorem g_55 : Cond.selects RX7 yX7_think yX7_think ∈ GW := gwm 55 (by decide +kernel)
theorem g_56 : Cond.selects RX7 yX7_doRumour yX7_doRumour ∈ GW := gwm 56 (by decide +kernel)
theorem g_57 : Cond.selects RX7 yX7_doInspect yX7_doInspect ∈ GW := gwm 57 (by decide +kernel)
theorem g_58 : Cond.selects RX7 yX7_passes yX7_passes ∈ GW := gwm 58 (by decide +kernel)
theorem g_59 : Cond.selects RX7 yX7_draw yX7_draw ∈ GW := gwm 59 (by decide +kernel)
theorem g_60 : Cond.selects RX7 yX7_passable yX7_passable ∈ GW := gwm 60 (by decide +kernel)
theorem g_61 : Cond.selects RX7 yX7_nextTask yX7_nextTask ∈ GW := gwm 61 (by decide +kernel)
theorem g_62 : Cond.selects RX7 yX7_leastTricks yX7_leastTricks ∈ GW := gwm 62 (by decide +kernel)
theorem g_63 : Cond.selects RX7 yX7_fameOf yX7_fameOf ∈ GW := gwm 63 (by decide +kernel)
theorem g_64 : Cond.selects RX7 yX7_writes yX7_writes ∈ GW := gwm 64 (by decide +kernel)
theorem g_65 : Cond.selects RX7 yX7_gainOf yX7_gainOf ∈ GW := gwm 65 (by decide +kernel)
theorem g_66 : Cond.selects RX7 yX7_wouldThink yX7_wouldThink ∈ GW := gwm 66 (by decide +kernel)
theorem g_67 : Cond.selects RX7 yX7_wordsTo yX7_wordsTo ∈ GW := gwm 67 (by decide +kernel)
theorem g_68 : Cond.selects RX7 yX7_copyRow yX7_copyRow ∈ GW := gwm 68 (by decide +kernel)
theorem g_69 : Cond.initialized RL ∈ GW := gwm 69 (by decide +kernel)
theorem g_70 : Cond.initialized RX6 ∈ GW := gwm 70 (by decide +kernel)
theorem g_71 : Cond.initialized RX5 ∈ GW := gwm 71 (by decide +kernel)
theorem g_72 : Cond.initialized RX2 ∈ GW := gwm 72 (by decide +kernel)
theorem g_73 : Cond.initialized RX4 ∈ GW := gwm 73 (by decide +kernel)
theorem g_74 : Cond.initialized RX1 ∈ GW := gwm 74 (by decide +kernel)
theorem g_75 : Cond.initialized RX3 ∈ GW := gwm 75 (by decide +kernel)
theorem g_76 : Cond.initialized RX0 ∈ GW := gwm 76 (by decide +kernel)
theorem g_77 : Cond.initialized RX7 ∈ GW := gwm 77 (by decide +kernel)
theorem g_78 : Cond.initialized RJ9 ∈ GW := gwm 78 (by decide +kernel)
theorem g_79 : Cond.classLink RL 7 RX6 ∈ GW := gwm 79 (by decide +kernel)
theorem g_80 : Cond.instantiable RX6 10 ∈ GW := gwm 80 (by decide +kernel)
theorem g_81 : Cond.methodLink RL 9 yX6_init ∈ GW := gwm 81 (by decide +kernel)
theorem g_82 : Cond.instanceMethod yX6_init ∈ GW := gwm 82 (by decide +kernel)
theorem g_83 : Cond.code yX6_init cX6_init 1 none ∈ GW := gwm 83 (by decide +kernel)
theorem g_84 : Cond.methodLink RX6 1 objectInit ∈ GW := gwm 84 (by decide +kernel)
theorem g_85 : Cond.instanceMethod objectInit ∈ GW := gwm 85 (by decide +kernel)
theorem g_86 : Cond.code objectInit ⟨#[0xb1]⟩ 1 none ∈ GW := gwm 86 (by decide +kernel)
theorem g_87 : Cond.classLink RX6 7 RX5 ∈ GW := gwm 87 (by decide +kernel)
theorem g_88 : Cond.instantiable RX5 6 ∈ GW := gwm 88 (by decide +kernel)
theorem g_89 : Cond.methodLink RX6 9 yX5_init ∈ GW := gwm 89 (by decide +kernel)
theorem g_90 : Cond.instanceMethod yX5_init ∈ GW := gwm 90 (by decide +kernel)
theorem g_91 : Cond.code yX5_init cX5_init 1 none ∈ GW := gwm 91 (by decide +kernel)
theorem g_92 : Cond.methodLink RX5 3 objectInit ∈ GW := gwm 92 (by decide +kernel)
theorem g_93 : Cond.fieldLink RX5 9 "SevenBlows$TextReader" "letters" "[I" ∈ GW := gwm 93 (by decide +kernel)
theorem g_94 : Cond.fieldLink RX5 19 "SevenBlows$TextReader" "length" "I" ∈ GW := gwm 94 (by decide +kernel)
theorem g_95 : Cond.fieldLink RX6 103 "SevenBlows$TextReader" "length" "I" ∈ GW := gwm 95 (by decide +kernel)
theorem g_96 : Cond.fieldLink RX5 28 "SevenBlows$TextReader" "place" "I" ∈ GW := gwm 96 (by decide +kernel)
theorem g_97 : Cond.fieldLink RX5 49 "SevenBlows$TextReader" "numberPlace" "I" ∈ GW := gwm 97 (by decide +kernel)
theorem g_98 : Cond.fieldLink RX5 31 "SevenBlows$TextReader" "faultNumber" "I" ∈ GW := gwm 98 (by decide +kernel)
theorem g_99 : Cond.fieldLink RX5 15 "SevenBlows$TextReader" "faultPlace" "I" ∈ GW := gwm 99 (by decide +kernel)
theorem g_100 : Cond.fieldLink RX6 88 "SevenBlows$TextReader" "faultPlace" "I" ∈ GW := gwm 100 (by decide +kernel)
theorem g_101 : Cond.arrayClass .int ∈ GW := gwm 114 (by decide +kernel)
theorem g_102 : Cond.classLink RX6 16 RX2 ∈ GW := gwm 115 (by decide +kernel)
theorem g_103 : Cond.instantiable RX2 18 ∈ GW := gwm 116 (by decide +kernel)
theorem g_104 : Cond.methodLink RX6 18 yX2_init ∈ GW := gwm 117 (by decide +kernel)
theorem g_105 : Cond.instanceMethod yX2_init ∈ GW := gwm 118 (by decide +kernel)
theorem g_106 : Cond.code yX2_init cX2_init 1 none ∈ GW := gwm 119 (by decide +kernel)
theorem g_107 : Cond.methodLink RX2 3 objectInit ∈ GW := gwm 120 (by decide +kernel)
theorem g_108 : Cond.fieldLink RX2 48 "SevenBlows$Land" "people" "I" ∈ GW := gwm 121 (by decide +kernel)
theorem g_109 : Cond.fieldLink RX6 85 "SevenBlows$Land" "people" "I" ∈ GW := gwm 122 (by decide +kernel)
theorem g_110 : Cond.fieldLink RX0 35 "SevenBlows$Land" "people" "I" ∈ GW := gwm 123 (by decide +kernel)
theorem g_111 : Cond.fieldLink RX5 52 "SevenBlows$Land" "people" "I" ∈ GW := gwm 124 (by decide +kernel)
theorem g_112 : Cond.fieldLink RX2 52 "SevenBlows$Land" "fighters" "I" ∈ GW := gwm 125 (by decide +kernel)
theorem g_113 : Cond.fieldLink RX0 25 "SevenBlows$Land" "fighters" "I" ∈ GW := gwm 126 (by decide +kernel)
theorem g_114 : Cond.fieldLink RX6 91 "SevenBlows$Land" "fighters" "I" ∈ GW := gwm 127 (by decide +kernel)
theorem g_115 : Cond.fieldLink RX5 80 "SevenBlows$Land" "fighters" "I" ∈ GW := gwm 128 (by decide +kernel)
theorem g_116 : Cond.fieldLink RX2 55 "SevenBlows$Land" "chatPairs" "I" ∈ GW := gwm 129 (by decide +kernel)
theorem g_117 : Cond.fieldLink RX6 94 "SevenBlows$Land" "chatPairs" "I" ∈ GW := gwm 130 (by decide +kernel)
theorem g_118 : Cond.fieldLink RX5 92 "SevenBlows$Land" "chatPairs" "I" ∈ GW := gwm 131 (by decide +kernel)
theorem g_119 : Cond.fieldLink RX2 58 "SevenBlows$Land" "tasks" "I" ∈ GW := gwm 132 (by decide +kernel)
theorem g_120 : Cond.fieldLink RX3 43 "SevenBlows$Land" "tasks" "I" ∈ GW := gwm 133 (by decide +kernel)
theorem g_121 : Cond.fieldLink RX6 97 "SevenBlows$Land" "tasks" "I" ∈ GW := gwm 134 (by decide +kernel)
theorem g_122 : Cond.fieldLink RX5 102 "SevenBlows$Land" "tasks" "I" ∈ GW := gwm 135 (by decide +kernel)
theorem g_123 : Cond.fieldLink RX2 61 "SevenBlows$Land" "tricks" "I" ∈ GW := gwm 136 (by decide +kernel)
theorem g_124 : Cond.fieldLink RX6 100 "SevenBlows$Land" "tricks" "I" ∈ GW := gwm 137 (by decide +kernel)
theorem g_125 : Cond.fieldLink RX5 117 "SevenBlows$Land" "tricks" "I" ∈ GW := gwm 138 (by decide +kernel)
theorem g_126 : Cond.fieldLink RX2 64 "SevenBlows$Land" "thoughtsTold" "I" ∈ GW := gwm 139 (by decide +kernel)
theorem g_127 : Cond.fieldLink RX5 132 "SevenBlows$Land" "thoughtsTold" "I" ∈ GW := gwm 140 (by decide +kernel)
theorem g_128 : Cond.fieldLink RX2 9 "SevenBlows$Land" "kind" "[I" ∈ GW := gwm 141 (by decide +kernel)
theorem g_129 : Cond.fieldLink RX6 118 "SevenBlows$Land" "kind" "[I" ∈ GW := gwm 142 (by decide +kernel)
theorem g_130 : Cond.fieldLink RX5 83 "SevenBlows$Land" "kind" "[I" ∈ GW := gwm 143 (by decide +kernel)
theorem g_131 : Cond.fieldLink RX2 15 "SevenBlows$Land" "strength" "[I" ∈ GW := gwm 144 (by decide +kernel)
theorem g_132 : Cond.fieldLink RX0 60 "SevenBlows$Land" "strength" "[I" ∈ GW := gwm 145 (by decide +kernel)
theorem g_133 : Cond.fieldLink RX6 121 "SevenBlows$Land" "strength" "[I" ∈ GW := gwm 146 (by decide +kernel)
theorem g_134 : Cond.fieldLink RX5 86 "SevenBlows$Land" "strength" "[I" ∈ GW := gwm 147 (by decide +kernel)
theorem g_135 : Cond.fieldLink RX2 18 "SevenBlows$Land" "firstBelts" "[I" ∈ GW := gwm 148 (by decide +kernel)
theorem g_136 : Cond.fieldLink RX4 24 "SevenBlows$Land" "firstBelts" "[I" ∈ GW := gwm 149 (by decide +kernel)
theorem g_137 : Cond.fieldLink RX5 89 "SevenBlows$Land" "firstBelts" "[I" ∈ GW := gwm 150 (by decide +kernel)
theorem g_138 : Cond.fieldLink RX2 21 "SevenBlows$Land" "chatsWith" "[I" ∈ GW := gwm 151 (by decide +kernel)
theorem g_139 : Cond.fieldLink RX6 149 "SevenBlows$Land" "chatsWith" "[I" ∈ GW := gwm 152 (by decide +kernel)
theorem g_140 : Cond.fieldLink RX5 95 "SevenBlows$Land" "chatsWith" "[I" ∈ GW := gwm 153 (by decide +kernel)
theorem g_141 : Cond.fieldLink RX2 24 "SevenBlows$Land" "guard" "[I" ∈ GW := gwm 154 (by decide +kernel)
theorem g_142 : Cond.fieldLink RX3 53 "SevenBlows$Land" "guard" "[I" ∈ GW := gwm 155 (by decide +kernel)
theorem g_143 : Cond.fieldLink RX6 155 "SevenBlows$Land" "guard" "[I" ∈ GW := gwm 156 (by decide +kernel)
theorem g_144 : Cond.fieldLink RX5 105 "SevenBlows$Land" "guard" "[I" ∈ GW := gwm 157 (by decide +kernel)
theorem g_145 : Cond.fieldLink RX2 27 "SevenBlows$Land" "danger" "[I" ∈ GW := gwm 158 (by decide +kernel)
theorem g_146 : Cond.fieldLink RX6 158 "SevenBlows$Land" "danger" "[I" ∈ GW := gwm 159 (by decide +kernel)
theorem g_147 : Cond.fieldLink RX5 108 "SevenBlows$Land" "danger" "[I" ∈ GW := gwm 160 (by decide +kernel)
theorem g_148 : Cond.fieldLink RX2 30 "SevenBlows$Land" "worth" "[I" ∈ GW := gwm 161 (by decide +kernel)
theorem g_149 : Cond.fieldLink RX3 29 "SevenBlows$Land" "worth" "[I" ∈ GW := gwm 162 (by decide +kernel)
theorem g_150 : Cond.fieldLink RX6 161 "SevenBlows$Land" "worth" "[I" ∈ GW := gwm 163 (by decide +kernel)
theorem g_151 : Cond.fieldLink RX5 111 "SevenBlows$Land" "worth" "[I" ∈ GW := gwm 164 (by decide +kernel)
theorem g_152 : Cond.fieldLink RX2 33 "SevenBlows$Land" "fame" "[I" ∈ GW := gwm 165 (by decide +kernel)
theorem g_153 : Cond.fieldLink RX6 164 "SevenBlows$Land" "fame" "[I" ∈ GW := gwm 166 (by decide +kernel)
theorem g_154 : Cond.fieldLink RX5 114 "SevenBlows$Land" "fame" "[I" ∈ GW := gwm 167 (by decide +kernel)
theorem g_155 : Cond.fieldLink RX2 36 "SevenBlows$Land" "trickTask" "[I" ∈ GW := gwm 168 (by decide +kernel)
theorem g_156 : Cond.fieldLink RX6 170 "SevenBlows$Land" "trickTask" "[I" ∈ GW := gwm 169 (by decide +kernel)
theorem g_157 : Cond.fieldLink RX5 120 "SevenBlows$Land" "trickTask" "[I" ∈ GW := gwm 170 (by decide +kernel)
theorem g_158 : Cond.fieldLink RX2 39 "SevenBlows$Land" "lowers" "[I" ∈ GW := gwm 171 (by decide +kernel)
theorem g_159 : Cond.fieldLink RX6 173 "SevenBlows$Land" "lowers" "[I" ∈ GW := gwm 172 (by decide +kernel)
theorem g_160 : Cond.fieldLink RX5 123 "SevenBlows$Land" "lowers" "[I" ∈ GW := gwm 173 (by decide +kernel)
theorem g_161 : Cond.fieldLink RX2 42 "SevenBlows$Land" "needs" "[I" ∈ GW := gwm 174 (by decide +kernel)
theorem g_162 : Cond.fieldLink RX6 176 "SevenBlows$Land" "needs" "[I" ∈ GW := gwm 175 (by decide +kernel)
theorem g_163 : Cond.fieldLink RX5 126 "SevenBlows$Land" "needs" "[I" ∈ GW := gwm 176 (by decide +kernel)
theorem g_164 : Cond.fieldLink RX2 45 "SevenBlows$Land" "firstThoughts" "[I" ∈ GW := gwm 177 (by decide +kernel)
theorem g_165 : Cond.fieldLink RX4 29 "SevenBlows$Land" "firstThoughts" "[I" ∈ GW := gwm 178 (by decide +kernel)
theorem g_166 : Cond.fieldLink RX5 135 "SevenBlows$Land" "firstThoughts" "[I" ∈ GW := gwm 179 (by decide +kernel)
theorem g_167 : Cond.classLink RX6 26 RX4 ∈ GW := gwm 217 (by decide +kernel)
theorem g_168 : Cond.instantiable RX4 7 ∈ GW := gwm 218 (by decide +kernel)
theorem g_169 : Cond.methodLink RX6 28 yX4_init ∈ GW := gwm 219 (by decide +kernel)
theorem g_170 : Cond.instanceMethod yX4_init ∈ GW := gwm 220 (by decide +kernel)
theorem g_171 : Cond.code yX4_init cX4_init 1 none ∈ GW := gwm 221 (by decide +kernel)
theorem g_172 : Cond.methodLink RX4 3 objectInit ∈ GW := gwm 222 (by decide +kernel)
theorem g_173 : Cond.fieldLink RX4 9 "SevenBlows$State" "belts" "[I" ∈ GW := gwm 223 (by decide +kernel)
theorem g_174 : Cond.fieldLink RX0 18 "SevenBlows$State" "belts" "[I" ∈ GW := gwm 224 (by decide +kernel)
theorem g_175 : Cond.fieldLink RX6 124 "SevenBlows$State" "belts" "[I" ∈ GW := gwm 225 (by decide +kernel)
theorem g_176 : Cond.fieldLink RX4 15 "SevenBlows$State" "done" "[I" ∈ GW := gwm 226 (by decide +kernel)
theorem g_177 : Cond.fieldLink RX3 34 "SevenBlows$State" "done" "[I" ∈ GW := gwm 227 (by decide +kernel)
theorem g_178 : Cond.fieldLink RX6 130 "SevenBlows$State" "done" "[I" ∈ GW := gwm 228 (by decide +kernel)
theorem g_179 : Cond.fieldLink RX4 18 "SevenBlows$State" "used" "[I" ∈ GW := gwm 229 (by decide +kernel)
theorem g_180 : Cond.fieldLink RX3 68 "SevenBlows$State" "used" "[I" ∈ GW := gwm 230 (by decide +kernel)
theorem g_181 : Cond.fieldLink RX6 133 "SevenBlows$State" "used" "[I" ∈ GW := gwm 231 (by decide +kernel)
theorem g_182 : Cond.fieldLink RX4 21 "SevenBlows$State" "thoughts" "[I" ∈ GW := gwm 232 (by decide +kernel)
theorem g_183 : Cond.fieldLink RX1 23 "SevenBlows$State" "thoughts" "[I" ∈ GW := gwm 233 (by decide +kernel)
theorem g_184 : Cond.fieldLink RX3 50 "SevenBlows$State" "thoughts" "[I" ∈ GW := gwm 234 (by decide +kernel)
theorem g_185 : Cond.fieldLink RX0 45 "SevenBlows$State" "thoughts" "[I" ∈ GW := gwm 235 (by decide +kernel)
theorem g_186 : Cond.fieldLink RX6 142 "SevenBlows$State" "thoughts" "[I" ∈ GW := gwm 236 (by decide +kernel)
theorem g_187 : Cond.fieldLink RX4 32 "SevenBlows$State" "days" "I" ∈ GW := gwm 237 (by decide +kernel)
theorem g_188 : Cond.fieldLink RX6 106 "SevenBlows$State" "days" "I" ∈ GW := gwm 238 (by decide +kernel)
theorem g_189 : Cond.fieldLink RX4 36 "SevenBlows$State" "drawSeed" "I" ∈ GW := gwm 239 (by decide +kernel)
theorem g_190 : Cond.fieldLink RX6 251 "SevenBlows$State" "drawSeed" "I" ∈ GW := gwm 240 (by decide +kernel)
theorem g_191 : Cond.fieldLink RX6 77 "SevenBlows$State" "kept" "Z" ∈ GW := gwm 241 (by decide +kernel)
theorem g_192 : Cond.classLink RX6 39 RX1 ∈ GW := gwm 257 (by decide +kernel)
theorem g_193 : Cond.instantiable RX1 3 ∈ GW := gwm 258 (by decide +kernel)
theorem g_194 : Cond.methodLink RX6 41 yX1_init ∈ GW := gwm 259 (by decide +kernel)
theorem g_195 : Cond.instanceMethod yX1_init ∈ GW := gwm 260 (by decide +kernel)
theorem g_196 : Cond.code yX1_init cX1_init 1 none ∈ GW := gwm 261 (by decide +kernel)
theorem g_197 : Cond.methodLink RX1 3 objectInit ∈ GW := gwm 262 (by decide +kernel)
theorem g_198 : Cond.fieldLink RX1 9 "SevenBlows$Book" "slots" "[I" ∈ GW := gwm 263 (by decide +kernel)
theorem g_199 : Cond.fieldLink RX1 15 "SevenBlows$Book" "amounts" "[I" ∈ GW := gwm 264 (by decide +kernel)
theorem g_200 : Cond.fieldLink RX1 18 "SevenBlows$Book" "entries" "I" ∈ GW := gwm 265 (by decide +kernel)
theorem g_201 : Cond.fieldLink RX6 81 "SevenBlows$Book" "entries" "I" ∈ GW := gwm 266 (by decide +kernel)
theorem g_202 : Cond.classLink RX6 46 RX3 ∈ GW := gwm 274 (by decide +kernel)
theorem g_203 : Cond.instantiable RX3 4 ∈ GW := gwm 275 (by decide +kernel)
theorem g_204 : Cond.methodLink RX6 48 yX3_init ∈ GW := gwm 276 (by decide +kernel)
theorem g_205 : Cond.instanceMethod yX3_init ∈ GW := gwm 277 (by decide +kernel)
theorem g_206 : Cond.code yX3_init cX3_init 1 none ∈ GW := gwm 278 (by decide +kernel)
theorem g_207 : Cond.methodLink RX3 3 objectInit ∈ GW := gwm 279 (by decide +kernel)
theorem g_208 : Cond.fieldLink RX3 9 "SevenBlows$Planner" "row" "[I" ∈ GW := gwm 280 (by decide +kernel)
theorem g_209 : Cond.fieldLink RX6 216 "SevenBlows$Planner" "row" "[I" ∈ GW := gwm 281 (by decide +kernel)
theorem g_210 : Cond.fieldLink RX3 15 "SevenBlows$Planner" "sets" "[I" ∈ GW := gwm 282 (by decide +kernel)
theorem g_211 : Cond.fieldLink RX6 219 "SevenBlows$Planner" "sets" "[I" ∈ GW := gwm 283 (by decide +kernel)
theorem g_212 : Cond.fieldLink RX3 18 "SevenBlows$Planner" "steps" "I" ∈ GW := gwm 284 (by decide +kernel)
theorem g_213 : Cond.fieldLink RX3 22 "SevenBlows$Planner" "passed" "I" ∈ GW := gwm 285 (by decide +kernel)
theorem g_214 : Cond.fieldLink RX6 210 "SevenBlows$Planner" "passed" "I" ∈ GW := gwm 286 (by decide +kernel)
theorem g_215 : Cond.classLink RX6 53 RX0 ∈ GW := gwm 296 (by decide +kernel)
theorem g_216 : Cond.instantiable RX0 2 ∈ GW := gwm 297 (by decide +kernel)
theorem g_217 : Cond.methodLink RX6 55 yX0_init ∈ GW := gwm 298 (by decide +kernel)
theorem g_218 : Cond.instanceMethod yX0_init ∈ GW := gwm 299 (by decide +kernel)
theorem g_219 : Cond.code yX0_init cX0_init 1 none ∈ GW := gwm 300 (by decide +kernel)
theorem g_220 : Cond.methodLink RX0 3 objectInit ∈ GW := gwm 301 (by decide +kernel)
theorem g_221 : Cond.fieldLink RX0 9 "SevenBlows$BeltWriter" "belts" "[I" ∈ GW := gwm 302 (by decide +kernel)
theorem g_222 : Cond.fieldLink RX6 226 "SevenBlows$BeltWriter" "belts" "[I" ∈ GW := gwm 303 (by decide +kernel)
theorem g_223 : Cond.fieldLink RX0 15 "SevenBlows$BeltWriter" "rivals" "[I" ∈ GW := gwm 304 (by decide +kernel)
theorem g_224 : Cond.fieldLink RX6 10 "SevenBlows" "reader" "LSevenBlows$TextReader;" ∈ GW := gwm 310 (by decide +kernel)
theorem g_225 : Cond.fieldLink RX6 19 "SevenBlows" "realm" "LSevenBlows$Land;" ∈ GW := gwm 311 (by decide +kernel)
theorem g_226 : Cond.fieldLink RX6 23 "SevenBlows" "draft" "LSevenBlows$Land;" ∈ GW := gwm 312 (by decide +kernel)
theorem g_227 : Cond.fieldLink RX6 29 "SevenBlows" "now" "LSevenBlows$State;" ∈ GW := gwm 313 (by decide +kernel)
theorem g_228 : Cond.fieldLink RX6 33 "SevenBlows" "firstImage" "LSevenBlows$State;" ∈ GW := gwm 314 (by decide +kernel)
theorem g_229 : Cond.fieldLink RX6 36 "SevenBlows" "secondImage" "LSevenBlows$State;" ∈ GW := gwm 315 (by decide +kernel)
theorem g_230 : Cond.fieldLink RX6 42 "SevenBlows" "book" "LSevenBlows$Book;" ∈ GW := gwm 316 (by decide +kernel)
theorem g_231 : Cond.fieldLink RX6 49 "SevenBlows" "planner" "LSevenBlows$Planner;" ∈ GW := gwm 317 (by decide +kernel)
theorem g_232 : Cond.fieldLink RX6 56 "SevenBlows" "beltWriter" "LSevenBlows$BeltWriter;" ∈ GW := gwm 318 (by decide +kernel)
theorem g_233 : Cond.fieldLink RX6 60 "SevenBlows" "heard" "[I" ∈ GW := gwm 319 (by decide +kernel)
theorem g_234 : Cond.methodLink RL 13 yX6_feed ∈ GW := gwm 341 (by decide +kernel)
theorem g_235 : Cond.instanceMethod yX6_feed ∈ GW := gwm 342 (by decide +kernel)
theorem g_236 : Cond.selects RX6 yX6_feed yX6_feed ∈ GW := gwm 343 (by decide +kernel)
theorem g_237 : Cond.code yX6_feed cX6_feed 2 (some .int) ∈ GW := gwm 344 (by decide +kernel)
theorem g_238 : Cond.constant RX6 64 (-1000000002) ∈ GW := gwm 345 (by decide +kernel)
theorem g_239 : Cond.methodLink RX6 65 yX5_append ∈ GW := gwm 346 (by decide +kernel)
theorem g_240 : Cond.instanceMethod yX5_append ∈ GW := gwm 347 (by decide +kernel)
theorem g_241 : Cond.selects RX5 yX5_append yX5_append ∈ GW := gwm 348 (by decide +kernel)
theorem g_242 : Cond.code yX5_append cX5_append 2 (some .int) ∈ GW := gwm 349 (by decide +kernel)
theorem g_243 : Cond.constant RX5 22 (-1000000004) ∈ GW := gwm 350 (by decide +kernel)
theorem g_244 : Cond.methodLink RL 18 yX6_land ∈ GW := gwm 351 (by decide +kernel)
theorem g_245 : Cond.instanceMethod yX6_land ∈ GW := gwm 352 (by decide +kernel)
theorem g_246 : Cond.selects RX6 yX6_land yX6_land ∈ GW := gwm 353 (by decide +kernel)
theorem g_247 : Cond.code yX6_land cX6_land 3 (some .int) ∈ GW := gwm 354 (by decide +kernel)
theorem g_248 : Cond.methodLink RX6 69 yX5_parse ∈ GW := gwm 355 (by decide +kernel)
theorem g_249 : Cond.instanceMethod yX5_parse ∈ GW := gwm 356 (by decide +kernel)
theorem g_250 : Cond.selects RX5 yX5_parse yX5_parse ∈ GW := gwm 357 (by decide +kernel)
theorem g_251 : Cond.code yX5_parse cX5_parse 3 (some .int) ∈ GW := gwm 358 (by decide +kernel)
theorem g_252 : Cond.methodLink RX5 23 yX2_clear ∈ GW := gwm 359 (by decide +kernel)
theorem g_253 : Cond.instanceMethod yX2_clear ∈ GW := gwm 360 (by decide +kernel)
theorem g_254 : Cond.selects RX2 yX2_clear yX2_clear ∈ GW := gwm 361 (by decide +kernel)
theorem g_255 : Cond.code yX2_clear cX2_clear 2 none ∈ GW := gwm 362 (by decide +kernel)
theorem g_256 : Cond.methodLink RX5 34 yX5_skipBlanks ∈ GW := gwm 363 (by decide +kernel)
theorem g_257 : Cond.instanceMethod yX5_skipBlanks ∈ GW := gwm 365 (by decide +kernel)
theorem g_258 : Cond.code yX5_skipBlanks cX5_skipBlanks 1 none ∈ GW := gwm 366 (by decide +kernel)
theorem g_259 : Cond.methodLink RX5 37 yX5_clause ∈ GW := gwm 367 (by decide +kernel)
theorem g_260 : Cond.instanceMethod yX5_clause ∈ GW := gwm 369 (by decide +kernel)
theorem g_261 : Cond.code yX5_clause cX5_clause 3 none ∈ GW := gwm 370 (by decide +kernel)
theorem g_262 : Cond.methodLink RX5 45 yX5_fail ∈ GW := gwm 371 (by decide +kernel)
theorem g_263 : Cond.instanceMethod yX5_fail ∈ GW := gwm 373 (by decide +kernel)
theorem g_264 : Cond.code yX5_fail cX5_fail 3 none ∈ GW := gwm 374 (by decide +kernel)
theorem g_265 : Cond.methodLink RX5 55 yX5_peopleClause ∈ GW := gwm 375 (by decide +kernel)
theorem g_266 : Cond.instanceMethod yX5_peopleClause ∈ GW := gwm 377 (by decide +kernel)
theorem g_267 : Cond.code yX5_peopleClause cX5_peopleClause 3 none ∈ GW := gwm 378 (by decide +kernel)
theorem g_268 : Cond.methodLink RX5 73 yX5_number ∈ GW := gwm 379 (by decide +kernel)
theorem g_269 : Cond.instanceMethod yX5_number ∈ GW := gwm 381 (by decide +kernel)
theorem g_270 : Cond.code yX5_number cX5_number 5 (some .int) ∈ GW := gwm 382 (by decide +kernel)
theorem g_271 : Cond.methodLink RX5 41 yX5_figureAhead ∈ GW := gwm 383 (by decide +kernel)
theorem g_272 : Cond.instanceMethod yX5_figureAhead ∈ GW := gwm 385 (by decide +kernel)
theorem g_273 : Cond.code yX5_figureAhead cX5_figureAhead 1 (some .boolean) ∈ GW := gwm 386 (by decide +kernel)
theorem g_274 : Cond.methodLink RX5 77 yX5_endOfClause ∈ GW := gwm 387 (by decide +kernel)
theorem g_275 : Cond.instanceMethod yX5_endOfClause ∈ GW := gwm 389 (by decide +kernel)
theorem g_276 : Cond.code yX5_endOfClause cX5_endOfClause 1 none ∈ GW := gwm 390 (by decide +kernel)
theorem g_277 : Cond.methodLink RX5 58 yX5_fighterClause ∈ GW := gwm 391 (by decide +kernel)
theorem g_278 : Cond.instanceMethod yX5_fighterClause ∈ GW := gwm 393 (by decide +kernel)
theorem g_279 : Cond.code yX5_fighterClause cX5_fighterClause 3 none ∈ GW := gwm 394 (by decide +kernel)
theorem g_280 : Cond.methodLink RX5 61 yX5_chatClause ∈ GW := gwm 395 (by decide +kernel)
theorem g_281 : Cond.instanceMethod yX5_chatClause ∈ GW := gwm 397 (by decide +kernel)
theorem g_282 : Cond.code yX5_chatClause cX5_chatClause 4 none ∈ GW := gwm 398 (by decide +kernel)
theorem g_284 : Cond.static yX6_has ∈ GW := gwm 400 (by decide +kernel)
theorem g_285 : Cond.code yX6_has cX6_has 2 (some .boolean) ∈ GW := gwm 401 (by decide +kernel)
theorem g_286 : Cond.methodLink RX5 64 yX5_taskClause ∈ GW := gwm 402 (by decide +kernel)
theorem g_287 : Cond.instanceMethod yX5_taskClause ∈ GW := gwm 404 (by decide +kernel)
theorem g_288 : Cond.code yX5_taskClause cX5_taskClause 3 none ∈ GW := gwm 405 (by decide +kernel)
theorem g_289 : Cond.methodLink RX5 67 yX5_trickClause ∈ GW := gwm 406 (by decide +kernel)
theorem g_290 : Cond.instanceMethod yX5_trickClause ∈ GW := gwm 408 (by decide +kernel)
theorem g_291 : Cond.code yX5_trickClause cX5_trickClause 3 none ∈ GW := gwm 409 (by decide +kernel)
theorem g_292 : Cond.methodLink RX5 70 yX5_thoughtClause ∈ GW := gwm 410 (by decide +kernel)
theorem g_293 : Cond.instanceMethod yX5_thoughtClause ∈ GW := gwm 412 (by decide +kernel)
theorem g_294 : Cond.code yX5_thoughtClause cX5_thoughtClause 5 none ∈ GW := gwm 413 (by decide +kernel)
theorem g_296 : Cond.static yX6_slot ∈ GW := gwm 415 (by decide +kernel)
theorem g_297 : Cond.code yX6_slot cX6_slot 2 (some .int) ∈ GW := gwm 416 (by decide +kernel)
theorem g_298 : Cond.methodLink RX6 73 yX4_begin ∈ GW := gwm 417 (by decide +kernel)
theorem g_299 : Cond.instanceMethod yX4_begin ∈ GW := gwm 418 (by decide +kernel)
theorem g_300 : Cond.selects RX4 yX4_begin yX4_begin ∈ GW := gwm 419 (by decide +kernel)
theorem g_301 : Cond.code yX4_begin cX4_begin 3 none ∈ GW := gwm 420 (by decide +kernel)
theorem g_302 : Cond.methodLink RL 23 yX6_fault ∈ GW := gwm 421 (by decide +kernel)
theorem g_303 : Cond.instanceMethod yX6_fault ∈ GW := gwm 422 (by decide +kernel)
theorem g_304 : Cond.selects RX6 yX6_fault yX6_fault ∈ GW := gwm 423 (by decide +kernel)
theorem g_305 : Cond.code yX6_fault cX6_fault 1 (some .int) ∈ GW := gwm 424 (by decide +kernel)
theorem g_306 : Cond.methodLink RL 27 yX6_told ∈ GW := gwm 425 (by decide +kernel)
theorem g_307 : Cond.instanceMethod yX6_told ∈ GW := gwm 426 (by decide +kernel)
theorem g_308 : Cond.selects RX6 yX6_told yX6_told ∈ GW := gwm 427 (by decide +kernel)
theorem g_309 : Cond.code yX6_told cX6_told 2 (some .int) ∈ GW := gwm 428 (by decide +kernel)
theorem g_310 : Cond.methodLink RX6 109 yX6_allThoughts ∈ GW := gwm 429 (by decide +kernel)
theorem g_311 : Cond.instanceMethod yX6_allThoughts ∈ GW := gwm 431 (by decide +kernel)
theorem g_312 : Cond.code yX6_allThoughts cX6_allThoughts 4 (some .int) ∈ GW := gwm 432 (by decide +kernel)
theorem g_313 : Cond.methodLink RX6 145 yX6_slot ∈ GW := gwm 433 (by decide +kernel)
theorem g_314 : Cond.methodLink RL 31 yX6_fighter ∈ GW := gwm 434 (by decide +kernel)
theorem g_315 : Cond.instanceMethod yX6_fighter ∈ GW := gwm 435 (by decide +kernel)
theorem g_316 : Cond.selects RX6 yX6_fighter yX6_fighter ∈ GW := gwm 436 (by decide +kernel)
theorem g_317 : Cond.code yX6_fighter cX6_fighter 3 (some .int) ∈ GW := gwm 437 (by decide +kernel)
theorem g_318 : Cond.methodLink RX6 113 yX6_isFighter ∈ GW := gwm 438 (by decide +kernel)
theorem g_319 : Cond.instanceMethod yX6_isFighter ∈ GW := gwm 440 (by decide +kernel)
theorem g_320 : Cond.code yX6_isFighter cX6_isFighter 2 (some .boolean) ∈ GW := gwm 441 (by decide +kernel)
theorem g_321 : Cond.constant RX6 117 (-1000000001) ∈ GW := gwm 442 (by decide +kernel)
theorem g_322 : Cond.methodLink RX6 127 yX6_readsNow ∈ GW := gwm 443 (by decide +kernel)
theorem g_323 : Cond.instanceMethod yX6_readsNow ∈ GW := gwm 445 (by decide +kernel)
theorem g_324 : Cond.code yX6_readsNow cX6_readsNow 2 (some .int) ∈ GW := gwm 446 (by decide +kernel)
theorem g_325 : Cond.methodLink RX6 258 yX2_readsAs ∈ GW := gwm 447 (by decide +kernel)
theorem g_326 : Cond.instanceMethod yX2_readsAs ∈ GW := gwm 448 (by decide +kernel)
theorem g_327 : Cond.selects RX2 yX2_readsAs yX2_readsAs ∈ GW := gwm 449 (by decide +kernel)
theorem g_328 : Cond.code yX2_readsAs cX2_readsAs 3 (some .int) ∈ GW := gwm 450 (by decide +kernel)
theorem g_329 : Cond.methodLink RX2 67 Lib.Math.min.name ∈ GW := gwm 451 (by decide +kernel)
theorem g_330 : Cond.static Lib.Math.min.name ∈ GW := gwm 452 (by decide +kernel)
theorem g_331 : Cond.code Lib.Math.min.name Lib.Math.min.code 2 (some .int) ∈ GW := gwm 453 (by decide +kernel)
theorem g_332 : Cond.methodLink RX6 136 yX2_worthOf ∈ GW := gwm 454 (by decide +kernel)
theorem g_333 : Cond.instanceMethod yX2_worthOf ∈ GW := gwm 455 (by decide +kernel)
theorem g_334 : Cond.selects RX2 yX2_worthOf yX2_worthOf ∈ GW := gwm 456 (by decide +kernel)
theorem g_335 : Cond.code yX2_worthOf cX2_worthOf 2 (some .int) ∈ GW := gwm 457 (by decide +kernel)
theorem g_336 : Cond.methodLink RX2 73 yX2_together ∈ GW := gwm 458 (by decide +kernel)
theorem g_337 : Cond.instanceMethod yX2_together ∈ GW := gwm 460 (by decide +kernel)
theorem g_338 : Cond.code yX2_together cX2_together 5 (some .int) ∈ GW := gwm 461 (by decide +kernel)
theorem g_340 : Cond.methodLink RL 36 yX6_thinks ∈ GW := gwm 463 (by decide +kernel)
theorem g_341 : Cond.instanceMethod yX6_thinks ∈ GW := gwm 464 (by decide +kernel)
theorem g_342 : Cond.selects RX6 yX6_thinks yX6_thinks ∈ GW := gwm 465 (by decide +kernel)
theorem g_343 : Cond.code yX6_thinks cX6_thinks 3 (some .int) ∈ GW := gwm 466 (by decide +kernel)
theorem g_344 : Cond.methodLink RX6 139 yX6_isPerson ∈ GW := gwm 467 (by decide +kernel)
theorem g_345 : Cond.instanceMethod yX6_isPerson ∈ GW := gwm 469 (by decide +kernel)
theorem g_346 : Cond.code yX6_isPerson cX6_isPerson 2 (some .boolean) ∈ GW := gwm 470 (by decide +kernel)
theorem g_347 : Cond.methodLink RL 40 yX6_chats ∈ GW := gwm 471 (by decide +kernel)
theorem g_348 : Cond.instanceMethod yX6_chats ∈ GW := gwm 472 (by decide +kernel)
theorem g_349 : Cond.selects RX6 yX6_chats yX6_chats ∈ GW := gwm 473 (by decide +kernel)
theorem g_350 : Cond.code yX6_chats cX6_chats 2 (some .int) ∈ GW := gwm 474 (by decide +kernel)
theorem g_351 : Cond.methodLink RL 44 yX6_task ∈ GW := gwm 475 (by decide +kernel)
theorem g_352 : Cond.instanceMethod yX6_task ∈ GW := gwm 476 (by decide +kernel)
theorem g_353 : Cond.selects RX6 yX6_task yX6_task ∈ GW := gwm 477 (by decide +kernel)
theorem g_354 : Cond.code yX6_task cX6_task 3 (some .int) ∈ GW := gwm 478 (by decide +kernel)
theorem g_355 : Cond.methodLink RX6 152 yX6_isTask ∈ GW := gwm 479 (by decide +kernel)
theorem g_356 : Cond.instanceMethod yX6_isTask ∈ GW := gwm 481 (by decide +kernel)
theorem g_357 : Cond.code yX6_isTask cX6_isTask 2 (some .boolean) ∈ GW := gwm 482 (by decide +kernel)
theorem g_358 : Cond.methodLink RX6 167 yX2_tricksOf ∈ GW := gwm 483 (by decide +kernel)
theorem g_359 : Cond.instanceMethod yX2_tricksOf ∈ GW := gwm 484 (by decide +kernel)
theorem g_360 : Cond.selects RX2 yX2_tricksOf yX2_tricksOf ∈ GW := gwm 485 (by decide +kernel)
theorem g_361 : Cond.code yX2_tricksOf cX2_tricksOf 4 (some .int) ∈ GW := gwm 486 (by decide +kernel)
theorem g_362 : Cond.methodLink RL 48 yX6_trick ∈ GW := gwm 487 (by decide +kernel)
theorem g_363 : Cond.instanceMethod yX6_trick ∈ GW := gwm 488 (by decide +kernel)
theorem g_364 : Cond.selects RX6 yX6_trick yX6_trick ∈ GW := gwm 489 (by decide +kernel)
theorem g_365 : Cond.code yX6_trick cX6_trick 3 (some .int) ∈ GW := gwm 490 (by decide +kernel)
theorem g_366 : Cond.methodLink RL 52 yX6_read ∈ GW := gwm 491 (by decide +kernel)
theorem g_367 : Cond.instanceMethod yX6_read ∈ GW := gwm 492 (by decide +kernel)
theorem g_368 : Cond.selects RX6 yX6_read yX6_read ∈ GW := gwm 493 (by decide +kernel)
theorem g_369 : Cond.code yX6_read cX6_read 3 (some .int) ∈ GW := gwm 494 (by decide +kernel)
theorem g_370 : Cond.methodLink RX6 179 yX6_readBelt ∈ GW := gwm 495 (by decide +kernel)
theorem g_371 : Cond.instanceMethod yX6_readBelt ∈ GW := gwm 497 (by decide +kernel)
theorem g_372 : Cond.code yX6_readBelt cX6_readBelt 4 (some .int) ∈ GW := gwm 498 (by decide +kernel)
theorem g_373 : Cond.methodLink RX6 261 Lib.Math.max.name ∈ GW := gwm 499 (by decide +kernel)
theorem g_374 : Cond.static Lib.Math.max.name ∈ GW := gwm 500 (by decide +kernel)
theorem g_375 : Cond.code Lib.Math.max.name Lib.Math.max.code 2 (some .int) ∈ GW := gwm 501 (by decide +kernel)
theorem g_376 : Cond.methodLink RL 56 yX6_rumour ∈ GW := gwm 502 (by decide +kernel)
theorem g_377 : Cond.instanceMethod yX6_rumour ∈ GW := gwm 503 (by decide +kernel)
theorem g_378 : Cond.selects RX6 yX6_rumour yX6_rumour ∈ GW := gwm 504 (by decide +kernel)
theorem g_379 : Cond.code yX6_rumour cX6_rumour 2 (some .int) ∈ GW := gwm 505 (by decide +kernel)
theorem g_380 : Cond.methodLink RX6 182 yX6_spread ∈ GW := gwm 506 (by decide +kernel)
theorem g_381 : Cond.instanceMethod yX6_spread ∈ GW := gwm 508 (by decide +kernel)
theorem g_382 : Cond.code yX6_spread cX6_spread 5 (some .int) ∈ GW := gwm 509 (by decide +kernel)
theorem g_383 : Cond.methodLink RX6 266 yX6_mostAround ∈ GW := gwm 510 (by decide +kernel)
theorem g_384 : Cond.instanceMethod yX6_mostAround ∈ GW := gwm 512 (by decide +kernel)
theorem g_385 : Cond.code yX6_mostAround cX6_mostAround 5 (some .int) ∈ GW := gwm 513 (by decide +kernel)
theorem g_386 : Cond.methodLink RX6 188 yX6_has ∈ GW := gwm 514 (by decide +kernel)
theorem g_387 : Cond.methodLink RL 60 yX6_inspect ∈ GW := gwm 515 (by decide +kernel)
theorem g_388 : Cond.instanceMethod yX6_inspect ∈ GW := gwm 516 (by decide +kernel)
theorem g_389 : Cond.selects RX6 yX6_inspect yX6_inspect ∈ GW := gwm 517 (by decide +kernel)
theorem g_390 : Cond.code yX6_inspect cX6_inspect 3 (some .int) ∈ GW := gwm 518 (by decide +kernel)
theorem g_391 : Cond.methodLink RX6 185 yX6_lookClosely ∈ GW := gwm 519 (by decide +kernel)
theorem g_392 : Cond.instanceMethod yX6_lookClosely ∈ GW := gwm 521 (by decide +kernel)
theorem g_393 : Cond.code yX6_lookClosely cX6_lookClosely 3 (some .int) ∈ GW := gwm 522 (by decide +kernel)
theorem g_394 : Cond.methodLink RL 64 yX6_belt ∈ GW := gwm 523 (by decide +kernel)
theorem g_395 : Cond.instanceMethod yX6_belt ∈ GW := gwm 524 (by decide +kernel)
theorem g_396 : Cond.selects RX6 yX6_belt yX6_belt ∈ GW := gwm 525 (by decide +kernel)
theorem g_397 : Cond.code yX6_belt cX6_belt 4 (some .int) ∈ GW := gwm 526 (by decide +kernel)
theorem g_398 : Cond.methodLink RL 68 yX6_attempt ∈ GW := gwm 527 (by decide +kernel)
theorem g_399 : Cond.instanceMethod yX6_attempt ∈ GW := gwm 528 (by decide +kernel)
theorem g_400 : Cond.selects RX6 yX6_attempt yX6_attempt ∈ GW := gwm 529 (by decide +kernel)
theorem g_401 : Cond.code yX6_attempt cX6_attempt 6 (some .int) ∈ GW := gwm 530 (by decide +kernel)
theorem g_402 : Cond.constant RX6 192 (-1000000003) ∈ GW := gwm 531 (by decide +kernel)
theorem g_403 : Cond.methodLink RX6 193 yX2_passes ∈ GW := gwm 532 (by decide +kernel)
theorem g_404 : Cond.instanceMethod yX2_passes ∈ GW := gwm 533 (by decide +kernel)
theorem g_405 : Cond.selects RX2 yX2_passes yX2_passes ∈ GW := gwm 534 (by decide +kernel)
theorem g_406 : Cond.code yX2_passes cX2_passes 5 (some .boolean) ∈ GW := gwm 535 (by decide +kernel)
theorem g_407 : Cond.methodLink RX2 81 yX2_dangerLeft ∈ GW := gwm 536 (by decide +kernel)
theorem g_408 : Cond.instanceMethod yX2_dangerLeft ∈ GW := gwm 538 (by decide +kernel)
theorem g_409 : Cond.code yX2_dangerLeft cX2_dangerLeft 6 (some .int) ∈ GW := gwm 539 (by decide +kernel)
theorem g_410 : Cond.methodLink RX2 85 Lib.Math.max.name ∈ GW := gwm 540 (by decide +kernel)
theorem g_411 : Cond.methodLink RX6 197 yX6_grow ∈ GW := gwm 541 (by decide +kernel)
theorem g_412 : Cond.instanceMethod yX6_grow ∈ GW := gwm 543 (by decide +kernel)
theorem g_413 : Cond.code yX6_grow cX6_grow 5 none ∈ GW := gwm 544 (by decide +kernel)
theorem g_414 : Cond.methodLink RX6 269 Lib.Math.min.name ∈ GW := gwm 545 (by decide +kernel)
theorem g_415 : Cond.methodLink RL 73 yX6_drift ∈ GW := gwm 546 (by decide +kernel)
theorem g_416 : Cond.instanceMethod yX6_drift ∈ GW := gwm 547 (by decide +kernel)
theorem g_417 : Cond.selects RX6 yX6_drift yX6_drift ∈ GW := gwm 548 (by decide +kernel)
theorem g_418 : Cond.code yX6_drift cX6_drift 3 (some .int) ∈ GW := gwm 549 (by decide +kernel)
theorem g_419 : Cond.constant RX6 201 (90000) ∈ GW := gwm 550 (by decide +kernel)
theorem g_420 : Cond.constant RX6 202 (-1000000004) ∈ GW := gwm 551 (by decide +kernel)
theorem g_421 : Cond.methodLink RX6 203 yX6_liveOneDay ∈ GW := gwm 552 (by decide +kernel)
theorem g_422 : Cond.instanceMethod yX6_liveOneDay ∈ GW := gwm 554 (by decide +kernel)
theorem g_423 : Cond.code yX6_liveOneDay cX6_liveOneDay 4 none ∈ GW := gwm 555 (by decide +kernel)
theorem g_424 : Cond.methodLink RX6 272 yX4_draw ∈ GW := gwm 556 (by decide +kernel)
theorem g_425 : Cond.instanceMethod yX4_draw ∈ GW := gwm 557 (by decide +kernel)
theorem g_426 : Cond.selects RX4 yX4_draw yX4_draw ∈ GW := gwm 558 (by decide +kernel)
theorem g_427 : Cond.code yX4_draw cX4_draw 2 (some .int) ∈ GW := gwm 559 (by decide +kernel)
theorem g_428 : Cond.constantLong RX4 39 (1103515245) ∈ GW := gwm 560 (by decide +kernel)
theorem g_429 : Cond.constantLong RX4 41 (12345) ∈ GW := gwm 561 (by decide +kernel)
theorem g_430 : Cond.constantLong RX4 43 (2147483647) ∈ GW := gwm 562 (by decide +kernel)
theorem g_431 : Cond.constant RX4 45 (65536) ∈ GW := gwm 563 (by decide +kernel)
theorem g_432 : Cond.methodLink RL 77 yX6_plan ∈ GW := gwm 564 (by decide +kernel)
theorem g_433 : Cond.instanceMethod yX6_plan ∈ GW := gwm 565 (by decide +kernel)
theorem g_434 : Cond.selects RX6 yX6_plan yX6_plan ∈ GW := gwm 566 (by decide +kernel)
theorem g_435 : Cond.code yX6_plan cX6_plan 4 (some .int) ∈ GW := gwm 567 (by decide +kernel)
theorem g_436 : Cond.methodLink RX6 206 yX3_walk ∈ GW := gwm 568 (by decide +kernel)
theorem g_437 : Cond.instanceMethod yX3_walk ∈ GW := gwm 569 (by decide +kernel)
theorem g_438 : Cond.selects RX3 yX3_walk yX3_walk ∈ GW := gwm 570 (by decide +kernel)
theorem g_439 : Cond.code yX3_walk cX3_walk 5 none ∈ GW := gwm 571 (by decide +kernel)
theorem g_440 : Cond.methodLink RX3 25 yX3_step ∈ GW := gwm 572 (by decide +kernel)
theorem g_441 : Cond.instanceMethod yX3_step ∈ GW := gwm 574 (by decide +kernel)
theorem g_442 : Cond.code yX3_step cX3_step 9 none ∈ GW := gwm 575 (by decide +kernel)
theorem g_443 : Cond.methodLink RX3 39 yX2_fameOf ∈ GW := gwm 576 (by decide +kernel)
theorem g_444 : Cond.instanceMethod yX2_fameOf ∈ GW := gwm 577 (by decide +kernel)
theorem g_445 : Cond.selects RX2 yX2_fameOf yX2_fameOf ∈ GW := gwm 578 (by decide +kernel)
theorem g_446 : Cond.code yX2_fameOf cX2_fameOf 2 (some .int) ∈ GW := gwm 579 (by decide +kernel)
theorem g_449 : Cond.methodLink RX3 60 Lib.Math.min.name ∈ GW := gwm 582 (by decide +kernel)
theorem g_450 : Cond.methodLink RX3 65 yX2_tricksOf ∈ GW := gwm 583 (by decide +kernel)
theorem g_451 : Cond.methodLink RX3 71 yX3_leastSet ∈ GW := gwm 584 (by decide +kernel)
theorem g_452 : Cond.static yX3_leastSet ∈ GW := gwm 585 (by decide +kernel)
theorem g_453 : Cond.code yX3_leastSet cX3_leastSet 6 (some .int) ∈ GW := gwm 586 (by decide +kernel)
theorem g_454 : Cond.methodLink RX3 75 yX2_passes ∈ GW := gwm 587 (by decide +kernel)
theorem g_455 : Cond.methodLink RX6 213 yX3_lengthOfPlan ∈ GW := gwm 588 (by decide +kernel)
theorem g_456 : Cond.instanceMethod yX3_lengthOfPlan ∈ GW := gwm 589 (by decide +kernel)
theorem g_457 : Cond.selects RX3 yX3_lengthOfPlan yX3_lengthOfPlan ∈ GW := gwm 590 (by decide +kernel)
theorem g_458 : Cond.code yX3_lengthOfPlan cX3_lengthOfPlan 3 (some .int) ∈ GW := gwm 591 (by decide +kernel)
theorem g_459 : Cond.methodLink RL 81 yX6_stops ∈ GW := gwm 592 (by decide +kernel)
theorem g_460 : Cond.instanceMethod yX6_stops ∈ GW := gwm 593 (by decide +kernel)
theorem g_461 : Cond.selects RX6 yX6_stops yX6_stops ∈ GW := gwm 594 (by decide +kernel)
theorem g_462 : Cond.code yX6_stops cX6_stops 4 (some .int) ∈ GW := gwm 595 (by decide +kernel)
theorem g_463 : Cond.methodLink RL 85 yX6_write ∈ GW := gwm 596 (by decide +kernel)
theorem g_464 : Cond.instanceMethod yX6_write ∈ GW := gwm 597 (by decide +kernel)
theorem g_465 : Cond.selects RX6 yX6_write yX6_write ∈ GW := gwm 598 (by decide +kernel)
theorem g_466 : Cond.code yX6_write cX6_write 3 (some .int) ∈ GW := gwm 599 (by decide +kernel)
theorem g_467 : Cond.methodLink RX6 222 yX0_settle ∈ GW := gwm 600 (by decide +kernel)
theorem g_468 : Cond.instanceMethod yX0_settle ∈ GW := gwm 601 (by decide +kernel)
theorem g_469 : Cond.selects RX0 yX0_settle yX0_settle ∈ GW := gwm 602 (by decide +kernel)
theorem g_470 : Cond.code yX0_settle cX0_settle 4 (some .int) ∈ GW := gwm 603 (by decide +kernel)
theorem g_471 : Cond.methodLink RX0 21 yX0_roundChanges ∈ GW := gwm 604 (by decide +kernel)
theorem g_472 : Cond.instanceMethod yX0_roundChanges ∈ GW := gwm 606 (by decide +kernel)
theorem g_473 : Cond.code yX0_roundChanges cX0_roundChanges 6 (some .boolean) ∈ GW := gwm 607 (by decide +kernel)
theorem g_474 : Cond.methodLink RX0 31 yX0_bestBelt ∈ GW := gwm 608 (by decide +kernel)
theorem g_475 : Cond.instanceMethod yX0_bestBelt ∈ GW := gwm 610 (by decide +kernel)
theorem g_476 : Cond.code yX0_bestBelt cX0_bestBelt 8 (some .int) ∈ GW := gwm 611 (by decide +kernel)
theorem g_477 : Cond.methodLink RX0 38 yX0_strongestRival ∈ GW := gwm 612 (by decide +kernel)
theorem g_478 : Cond.instanceMethod yX0_strongestRival ∈ GW := gwm 614 (by decide +kernel)
theorem g_479 : Cond.code yX0_strongestRival cX0_strongestRival 8 (some .int) ∈ GW := gwm 615 (by decide +kernel)
theorem g_481 : Cond.methodLink RX0 52 yX2_readsAs ∈ GW := gwm 617 (by decide +kernel)
theorem g_482 : Cond.methodLink RX0 55 Lib.Math.max.name ∈ GW := gwm 618 (by decide +kernel)
theorem g_483 : Cond.methodLink RX0 42 yX0_gain ∈ GW := gwm 619 (by decide +kernel)
theorem g_484 : Cond.instanceMethod yX0_gain ∈ GW := gwm 621 (by decide +kernel)
theorem g_485 : Cond.code yX0_gain cX0_gain 8 (some .int) ∈ GW := gwm 622 (by decide +kernel)
theorem g_486 : Cond.methodLink RL 89 yX6_tells ∈ GW := gwm 623 (by decide +kernel)
theorem g_487 : Cond.instanceMethod yX6_tells ∈ GW := gwm 624 (by decide +kernel)
theorem g_488 : Cond.selects RX6 yX6_tells yX6_tells ∈ GW := gwm 625 (by decide +kernel)
theorem g_489 : Cond.code yX6_tells cX6_tells 7 (some .int) ∈ GW := gwm 626 (by decide +kernel)
theorem g_490 : Cond.methodLink RX6 227 yX6_commonDivisor ∈ GW := gwm 627 (by decide +kernel)
theorem g_491 : Cond.static yX6_commonDivisor ∈ GW := gwm 628 (by decide +kernel)
theorem g_492 : Cond.code yX6_commonDivisor cX6_commonDivisor 3 (some .int) ∈ GW := gwm 629 (by decide +kernel)
theorem g_493 : Cond.methodLink RL 93 yX6_words ∈ GW := gwm 630 (by decide +kernel)
theorem g_494 : Cond.instanceMethod yX6_words ∈ GW := gwm 631 (by decide +kernel)
theorem g_495 : Cond.selects RX6 yX6_words yX6_words ∈ GW := gwm 632 (by decide +kernel)
theorem g_496 : Cond.code yX6_words cX6_words 3 (some .int) ∈ GW := gwm 633 (by decide +kernel)
theorem g_497 : Cond.methodLink RX6 230 yX6_wordsTo ∈ GW := gwm 634 (by decide +kernel)
theorem g_498 : Cond.instanceMethod yX6_wordsTo ∈ GW := gwm 636 (by decide +kernel)
theorem g_499 : Cond.code yX6_wordsTo cX6_wordsTo 4 (some .int) ∈ GW := gwm 637 (by decide +kernel)
theorem g_500 : Cond.methodLink RL 97 yX6_hire ∈ GW := gwm 638 (by decide +kernel)
theorem g_501 : Cond.instanceMethod yX6_hire ∈ GW := gwm 639 (by decide +kernel)
theorem g_502 : Cond.selects RX6 yX6_hire yX6_hire ∈ GW := gwm 640 (by decide +kernel)
theorem g_503 : Cond.code yX6_hire cX6_hire 6 (some .int) ∈ GW := gwm 641 (by decide +kernel)
theorem g_504 : Cond.methodLink RX6 233 yX6_topBidder ∈ GW := gwm 642 (by decide +kernel)
theorem g_505 : Cond.instanceMethod yX6_topBidder ∈ GW := gwm 644 (by decide +kernel)
theorem g_506 : Cond.code yX6_topBidder cX6_topBidder 7 (some .int) ∈ GW := gwm 645 (by decide +kernel)
theorem g_507 : Cond.methodLink RL 101 yX6_saw ∈ GW := gwm 646 (by decide +kernel)
theorem g_508 : Cond.instanceMethod yX6_saw ∈ GW := gwm 647 (by decide +kernel)
theorem g_509 : Cond.selects RX6 yX6_saw yX6_saw ∈ GW := gwm 648 (by decide +kernel)
theorem g_510 : Cond.code yX6_saw cX6_saw 9 (some .int) ∈ GW := gwm 649 (by decide +kernel)
theorem g_511 : Cond.methodLink RX6 236 yX6_waysBy ∈ GW := gwm 650 (by decide +kernel)
theorem g_512 : Cond.instanceMethod yX6_waysBy ∈ GW := gwm 652 (by decide +kernel)
theorem g_513 : Cond.code yX6_waysBy cX6_waysBy 6 (some .int) ∈ GW := gwm 653 (by decide +kernel)
theorem g_514 : Cond.methodLink RX6 275 yX2_fameOf ∈ GW := gwm 654 (by decide +kernel)
theorem g_515 : Cond.methodLink RL 105 yX6_hides ∈ GW := gwm 655 (by decide +kernel)
theorem g_516 : Cond.instanceMethod yX6_hides ∈ GW := gwm 656 (by decide +kernel)
theorem g_517 : Cond.selects RX6 yX6_hides yX6_hides ∈ GW := gwm 657 (by decide +kernel)
theorem g_518 : Cond.code yX6_hides cX6_hides 6 (some .int) ∈ GW := gwm 658 (by decide +kernel)
theorem g_519 : Cond.constantLong RX6 240 (1000000000) ∈ GW := gwm 659 (by decide +kernel)
theorem g_520 : Cond.constantLong RX6 242 (100) ∈ GW := gwm 660 (by decide +kernel)
theorem g_521 : Cond.methodLink RL 109 yX6_note ∈ GW := gwm 661 (by decide +kernel)
theorem g_522 : Cond.instanceMethod yX6_note ∈ GW := gwm 662 (by decide +kernel)
theorem g_523 : Cond.selects RX6 yX6_note yX6_note ∈ GW := gwm 663 (by decide +kernel)
theorem g_524 : Cond.code yX6_note cX6_note 4 (some .int) ∈ GW := gwm 664 (by decide +kernel)
theorem g_525 : Cond.methodLink RX6 244 yX1_enter ∈ GW := gwm 665 (by decide +kernel)
theorem g_526 : Cond.instanceMethod yX1_enter ∈ GW := gwm 666 (by decide +kernel)
theorem g_527 : Cond.selects RX1 yX1_enter yX1_enter ∈ GW := gwm 667 (by decide +kernel)
theorem g_528 : Cond.code yX1_enter cX1_enter 3 (some .int) ∈ GW := gwm 668 (by decide +kernel)
theorem g_529 : Cond.constant RX1 22 (-1000000004) ∈ GW := gwm 669 (by decide +kernel)
theorem g_530 : Cond.methodLink RL 113 yX6_tear ∈ GW := gwm 670 (by decide +kernel)
theorem g_531 : Cond.instanceMethod yX6_tear ∈ GW := gwm 671 (by decide +kernel)
theorem g_532 : Cond.selects RX6 yX6_tear yX6_tear ∈ GW := gwm 672 (by decide +kernel)
theorem g_533 : Cond.code yX6_tear cX6_tear 2 (some .int) ∈ GW := gwm 673 (by decide +kernel)
theorem g_534 : Cond.methodLink RL 117 yX6_judge ∈ GW := gwm 674 (by decide +kernel)
theorem g_535 : Cond.instanceMethod yX6_judge ∈ GW := gwm 675 (by decide +kernel)
theorem g_536 : Cond.selects RX6 yX6_judge yX6_judge ∈ GW := gwm 676 (by decide +kernel)
theorem g_537 : Cond.code yX6_judge cX6_judge 1 (some .int) ∈ GW := gwm 677 (by decide +kernel)
theorem g_538 : Cond.methodLink RX6 247 yX1_firstWrong ∈ GW := gwm 678 (by decide +kernel)
theorem g_539 : Cond.instanceMethod yX1_firstWrong ∈ GW := gwm 679 (by decide +kernel)
theorem g_540 : Cond.selects RX1 yX1_firstWrong yX1_firstWrong ∈ GW := gwm 680 (by decide +kernel)
theorem g_541 : Cond.code yX1_firstWrong cX1_firstWrong 3 (some .int) ∈ GW := gwm 681 (by decide +kernel)
theorem g_542 : Cond.methodLink RL 121 yX6_seed ∈ GW := gwm 682 (by decide +kernel)
theorem g_543 : Cond.instanceMethod yX6_seed ∈ GW := gwm 683 (by decide +kernel)
theorem g_544 : Cond.selects RX6 yX6_seed yX6_seed ∈ GW := gwm 684 (by decide +kernel)
theorem g_545 : Cond.code yX6_seed cX6_seed 3 (some .int) ∈ GW := gwm 685 (by decide +kernel)
theorem g_546 : Cond.methodLink RL 125 yX6_keep ∈ GW := gwm 686 (by decide +kernel)
theorem g_547 : Cond.instanceMethod yX6_keep ∈ GW := gwm 687 (by decide +kernel)
theorem g_548 : Cond.selects RX6 yX6_keep yX6_keep ∈ GW := gwm 688 (by decide +kernel)
theorem g_549 : Cond.code yX6_keep cX6_keep 3 (some .int) ∈ GW := gwm 689 (by decide +kernel)
theorem g_550 : Cond.methodLink RX6 254 yX4_become ∈ GW := gwm 690 (by decide +kernel)
theorem g_551 : Cond.instanceMethod yX4_become ∈ GW := gwm 691 (by decide +kernel)
theorem g_552 : Cond.selects RX4 yX4_become yX4_become ∈ GW := gwm 692 (by decide +kernel)
theorem g_553 : Cond.code yX4_become cX4_become 3 none ∈ GW := gwm 693 (by decide +kernel)
theorem g_554 : Cond.methodLink RL 129 yX6_goBack ∈ GW := gwm 694 (by decide +kernel)
theorem g_555 : Cond.instanceMethod yX6_goBack ∈ GW := gwm 695 (by decide +kernel)
theorem g_556 : Cond.selects RX6 yX6_goBack yX6_goBack ∈ GW := gwm 696 (by decide +kernel)
theorem g_557 : Cond.code yX6_goBack cX6_goBack 3 (some .int) ∈ GW := gwm 697 (by decide +kernel)
theorem g_558 : Cond.classLink RL 10 RX7 ∈ GW := gwm 698 (by decide +kernel)
theorem g_559 : Cond.instantiable RX7 32 ∈ GW := gwm 699 (by decide +kernel)
theorem g_560 : Cond.methodLink RL 12 yX7_init ∈ GW := gwm 700 (by decide +kernel)
theorem g_561 : Cond.instanceMethod yX7_init ∈ GW := gwm 701 (by decide +kernel)
theorem g_562 : Cond.code yX7_init cX7_init 1 none ∈ GW := gwm 702 (by decide +kernel)
theorem g_563 : Cond.methodLink RX7 1 objectInit ∈ GW := gwm 703 (by decide +kernel)
theorem g_564 : Cond.fieldLink RX7 7 "SevenBlowsModel" "row" "[I" ∈ GW := gwm 704 (by decide +kernel)
theorem g_565 : Cond.fieldLink RX7 13 "SevenBlowsModel" "isKept" "[Z" ∈ GW := gwm 705 (by decide +kernel)
theorem g_566 : Cond.fieldLink RX7 17 "SevenBlowsModel" "text" "[I" ∈ GW := gwm 706 (by decide +kernel)
theorem g_567 : Cond.fieldLink RX7 73 "SevenBlowsModel" "length" "I" ∈ GW := gwm 707 (by decide +kernel)
theorem g_568 : Cond.fieldLink RX7 20 "SevenBlowsModel" "faultAt" "I" ∈ GW := gwm 708 (by decide +kernel)
theorem g_569 : Cond.fieldLink RX7 150 "SevenBlowsModel" "people" "I" ∈ GW := gwm 709 (by decide +kernel)
theorem g_570 : Cond.fieldLink RX7 153 "SevenBlowsModel" "fighters" "I" ∈ GW := gwm 710 (by decide +kernel)
theorem g_571 : Cond.fieldLink RX7 24 "SevenBlowsModel" "kinds" "[I" ∈ GW := gwm 711 (by decide +kernel)
theorem g_572 : Cond.fieldLink RX7 27 "SevenBlowsModel" "strengths" "[I" ∈ GW := gwm 712 (by decide +kernel)
theorem g_573 : Cond.fieldLink RX7 156 "SevenBlowsModel" "chatMany" "I" ∈ GW := gwm 713 (by decide +kernel)
theorem g_574 : Cond.fieldLink RX7 30 "SevenBlowsModel" "chats" "[I" ∈ GW := gwm 714 (by decide +kernel)
theorem g_575 : Cond.fieldLink RX7 159 "SevenBlowsModel" "tasks" "I" ∈ GW := gwm 715 (by decide +kernel)
theorem g_576 : Cond.fieldLink RX7 33 "SevenBlowsModel" "task" "[I" ∈ GW := gwm 716 (by decide +kernel)
theorem g_577 : Cond.fieldLink RX7 162 "SevenBlowsModel" "tricks" "I" ∈ GW := gwm 717 (by decide +kernel)
theorem g_578 : Cond.fieldLink RX7 36 "SevenBlowsModel" "trick" "[I" ∈ GW := gwm 718 (by decide +kernel)
theorem g_579 : Cond.fieldLink RX7 39 "SevenBlowsModel" "book" "[I" ∈ GW := gwm 719 (by decide +kernel)
theorem g_580 : Cond.fieldLink RX7 165 "SevenBlowsModel" "bookMany" "I" ∈ GW := gwm 720 (by decide +kernel)
theorem g_581 : Cond.fieldLink RX7 81 "SevenBlowsModel" "at" "I" ∈ GW := gwm 721 (by decide +kernel)
theorem g_582 : Cond.fieldLink RX7 84 "SevenBlowsModel" "place" "I" ∈ GW := gwm 722 (by decide +kernel)
theorem g_583 : Cond.fieldLink RX7 102 "SevenBlowsModel" "readPeople" "I" ∈ GW := gwm 723 (by decide +kernel)
theorem g_584 : Cond.fieldLink RX7 109 "SevenBlowsModel" "readFighters" "I" ∈ GW := gwm 724 (by decide +kernel)
theorem g_585 : Cond.fieldLink RX7 42 "SevenBlowsModel" "readFighter" "[I" ∈ GW := gwm 725 (by decide +kernel)
theorem g_586 : Cond.fieldLink RX7 116 "SevenBlowsModel" "readChatMany" "I" ∈ GW := gwm 726 (by decide +kernel)
theorem g_587 : Cond.fieldLink RX7 45 "SevenBlowsModel" "readChats" "[I" ∈ GW := gwm 727 (by decide +kernel)
theorem g_588 : Cond.fieldLink RX7 119 "SevenBlowsModel" "readTasks" "I" ∈ GW := gwm 728 (by decide +kernel)
theorem g_589 : Cond.fieldLink RX7 48 "SevenBlowsModel" "readTask" "[I" ∈ GW := gwm 729 (by decide +kernel)
theorem g_590 : Cond.fieldLink RX7 122 "SevenBlowsModel" "readTricks" "I" ∈ GW := gwm 730 (by decide +kernel)
theorem g_591 : Cond.fieldLink RX7 51 "SevenBlowsModel" "readTrick" "[I" ∈ GW := gwm 731 (by decide +kernel)
theorem g_592 : Cond.fieldLink RX7 54 "SevenBlowsModel" "readThought" "[I" ∈ GW := gwm 732 (by decide +kernel)
theorem g_593 : Cond.fieldLink RX7 57 "SevenBlowsModel" "numbers" "[I" ∈ GW := gwm 733 (by decide +kernel)
theorem g_594 : Cond.fieldLink RX7 60 "SevenBlowsModel" "aside" "[I" ∈ GW := gwm 734 (by decide +kernel)
theorem g_595 : Cond.fieldLink RX7 63 "SevenBlowsModel" "belts" "[I" ∈ GW := gwm 735 (by decide +kernel)
theorem g_596 : Cond.arrayClass .boolean ∈ GW := gwm 801 (by decide +kernel)
theorem g_597 : Cond.methodLink RL 17 yX7_feed ∈ GW := gwm 802 (by decide +kernel)
theorem g_598 : Cond.instanceMethod yX7_feed ∈ GW := gwm 803 (by decide +kernel)
theorem g_599 : Cond.selects RX7 yX7_feed yX7_feed ∈ GW := gwm 804 (by decide +kernel)
theorem g_600 : Cond.code yX7_feed cX7_feed 2 (some .int) ∈ GW := gwm 805 (by decide +kernel)
theorem g_601 : Cond.constantLong RX7 66 (255) ∈ GW := gwm 806 (by decide +kernel)
theorem g_602 : Cond.methodLink RX7 68 yX7_in ∈ GW := gwm 807 (by decide +kernel)
theorem g_603 : Cond.static yX7_in ∈ GW := gwm 808 (by decide +kernel)
theorem g_604 : Cond.code yX7_in cX7_in 6 (some .boolean) ∈ GW := gwm 809 (by decide +kernel)
theorem g_605 : Cond.constant RX7 72 (-1000000002) ∈ GW := gwm 810 (by decide +kernel)
theorem g_606 : Cond.constant RX7 76 (-1000000004) ∈ GW := gwm 811 (by decide +kernel)
theorem g_607 : Cond.methodLink RL 22 yX7_land ∈ GW := gwm 812 (by decide +kernel)
theorem g_608 : Cond.instanceMethod yX7_land ∈ GW := gwm 813 (by decide +kernel)
theorem g_609 : Cond.selects RX7 yX7_land yX7_land ∈ GW := gwm 814 (by decide +kernel)
theorem g_610 : Cond.code yX7_land cX7_land 4 (some .int) ∈ GW := gwm 815 (by decide +kernel)
theorem g_611 : Cond.methodLink RX7 147 yX7_faultOf ∈ GW := gwm 816 (by decide +kernel)
theorem g_612 : Cond.instanceMethod yX7_faultOf ∈ GW := gwm 818 (by decide +kernel)
theorem g_613 : Cond.code yX7_faultOf cX7_faultOf 2 (some .int) ∈ GW := gwm 819 (by decide +kernel)
theorem g_614 : Cond.methodLink RX7 87 yX7_skip ∈ GW := gwm 820 (by decide +kernel)
theorem g_615 : Cond.instanceMethod yX7_skip ∈ GW := gwm 822 (by decide +kernel)
theorem g_616 : Cond.code yX7_skip cX7_skip 1 none ∈ GW := gwm 823 (by decide +kernel)
theorem g_617 : Cond.methodLink RX7 144 yX7_clause ∈ GW := gwm 824 (by decide +kernel)
theorem g_618 : Cond.instanceMethod yX7_clause ∈ GW := gwm 826 (by decide +kernel)
theorem g_619 : Cond.code yX7_clause cX7_clause 4 (some .int) ∈ GW := gwm 827 (by decide +kernel)
theorem g_620 : Cond.methodLink RX7 125 yX7_readsPeople ∈ GW := gwm 828 (by decide +kernel)
theorem g_621 : Cond.instanceMethod yX7_readsPeople ∈ GW := gwm 830 (by decide +kernel)
theorem g_622 : Cond.code yX7_readsPeople cX7_readsPeople 2 (some .int) ∈ GW := gwm 831 (by decide +kernel)
theorem g_623 : Cond.methodLink RX7 94 yX7_number ∈ GW := gwm 832 (by decide +kernel)
theorem g_624 : Cond.instanceMethod yX7_number ∈ GW := gwm 834 (by decide +kernel)
theorem g_625 : Cond.code yX7_number cX7_number 5 (some .int) ∈ GW := gwm 835 (by decide +kernel)
theorem g_626 : Cond.methodLink RX7 90 yX7_isFigure ∈ GW := gwm 836 (by decide +kernel)
theorem g_627 : Cond.static yX7_isFigure ∈ GW := gwm 837 (by decide +kernel)
theorem g_628 : Cond.code yX7_isFigure cX7_isFigure 1 (some .boolean) ∈ GW := gwm 838 (by decide +kernel)
theorem g_629 : Cond.constantLong RX7 77 (48) ∈ GW := gwm 839 (by decide +kernel)
theorem g_630 : Cond.constantLong RX7 79 (57) ∈ GW := gwm 840 (by decide +kernel)
theorem g_631 : Cond.methodLink RX7 98 yX7_semicolon ∈ GW := gwm 841 (by decide +kernel)
theorem g_632 : Cond.instanceMethod yX7_semicolon ∈ GW := gwm 843 (by decide +kernel)
theorem g_633 : Cond.code yX7_semicolon cX7_semicolon 2 (some .int) ∈ GW := gwm 844 (by decide +kernel)
theorem g_634 : Cond.methodLink RX7 129 yX7_readsFighter ∈ GW := gwm 845 (by decide +kernel)
theorem g_635 : Cond.instanceMethod yX7_readsFighter ∈ GW := gwm 847 (by decide +kernel)
theorem g_636 : Cond.code yX7_readsFighter cX7_readsFighter 3 (some .int) ∈ GW := gwm 848 (by decide +kernel)
theorem g_637 : Cond.methodLink RX7 105 yX7_numberOr ∈ GW := gwm 849 (by decide +kernel)
theorem g_638 : Cond.instanceMethod yX7_numberOr ∈ GW := gwm 851 (by decide +kernel)
theorem g_639 : Cond.code yX7_numberOr cX7_numberOr 5 (some .int) ∈ GW := gwm 852 (by decide +kernel)
theorem g_640 : Cond.methodLink RX7 132 yX7_readsChat ∈ GW := gwm 853 (by decide +kernel)
theorem g_641 : Cond.instanceMethod yX7_readsChat ∈ GW := gwm 855 (by decide +kernel)
theorem g_642 : Cond.code yX7_readsChat cX7_readsChat 2 (some .int) ∈ GW := gwm 856 (by decide +kernel)
theorem g_643 : Cond.methodLink RX7 112 yX7_has ∈ GW := gwm 857 (by decide +kernel)
theorem g_644 : Cond.static yX7_has ∈ GW := gwm 858 (by decide +kernel)
theorem g_645 : Cond.code yX7_has cX7_has 2 (some .boolean) ∈ GW := gwm 859 (by decide +kernel)
theorem g_646 : Cond.methodLink RX7 135 yX7_readsTask ∈ GW := gwm 860 (by decide +kernel)
theorem g_647 : Cond.instanceMethod yX7_readsTask ∈ GW := gwm 862 (by decide +kernel)
theorem g_648 : Cond.code yX7_readsTask cX7_readsTask 3 (some .int) ∈ GW := gwm 863 (by decide +kernel)
theorem g_649 : Cond.methodLink RX7 138 yX7_readsTrick ∈ GW := gwm 864 (by decide +kernel)
theorem g_650 : Cond.instanceMethod yX7_readsTrick ∈ GW := gwm 866 (by decide +kernel)
theorem g_651 : Cond.code yX7_readsTrick cX7_readsTrick 3 (some .int) ∈ GW := gwm 867 (by decide +kernel)
theorem g_652 : Cond.methodLink RX7 141 yX7_readsThought ∈ GW := gwm 868 (by decide +kernel)
theorem g_653 : Cond.instanceMethod yX7_readsThought ∈ GW := gwm 870 (by decide +kernel)
theorem g_654 : Cond.code yX7_readsThought cX7_readsThought 2 (some .int) ∈ GW := gwm 871 (by decide +kernel)
theorem g_655 : Cond.methodLink RL 26 yX7_fault ∈ GW := gwm 872 (by decide +kernel)
theorem g_656 : Cond.instanceMethod yX7_fault ∈ GW := gwm 873 (by decide +kernel)
theorem g_657 : Cond.selects RX7 yX7_fault yX7_fault ∈ GW := gwm 874 (by decide +kernel)
theorem g_658 : Cond.code yX7_fault cX7_fault 1 (some .int) ∈ GW := gwm 875 (by decide +kernel)
theorem g_659 : Cond.methodLink RL 30 yX7_told ∈ GW := gwm 876 (by decide +kernel)
theorem g_660 : Cond.instanceMethod yX7_told ∈ GW := gwm 877 (by decide +kernel)
theorem g_661 : Cond.selects RX7 yX7_told yX7_told ∈ GW := gwm 878 (by decide +kernel)
theorem g_662 : Cond.code yX7_told cX7_told 2 (some .int) ∈ GW := gwm 879 (by decide +kernel)
theorem g_663 : Cond.methodLink RX7 172 yX7_allThoughts ∈ GW := gwm 880 (by decide +kernel)
theorem g_664 : Cond.instanceMethod yX7_allThoughts ∈ GW := gwm 882 (by decide +kernel)
theorem g_665 : Cond.code yX7_allThoughts cX7_allThoughts 4 (some .int) ∈ GW := gwm 883 (by decide +kernel)
theorem g_666 : Cond.methodLink RX7 168 yX7_thought ∈ GW := gwm 884 (by decide +kernel)
theorem g_667 : Cond.instanceMethod yX7_thought ∈ GW := gwm 886 (by decide +kernel)
theorem g_668 : Cond.code yX7_thought cX7_thought 3 (some .int) ∈ GW := gwm 887 (by decide +kernel)
theorem g_669 : Cond.methodLink RL 35 yX7_fighter ∈ GW := gwm 888 (by decide +kernel)
theorem g_670 : Cond.instanceMethod yX7_fighter ∈ GW := gwm 889 (by decide +kernel)
theorem g_671 : Cond.selects RX7 yX7_fighter yX7_fighter ∈ GW := gwm 890 (by decide +kernel)
theorem g_672 : Cond.code yX7_fighter cX7_fighter 3 (some .int) ∈ GW := gwm 891 (by decide +kernel)
theorem g_673 : Cond.methodLink RX7 178 yX7_isFighter ∈ GW := gwm 892 (by decide +kernel)
theorem g_674 : Cond.instanceMethod yX7_isFighter ∈ GW := gwm 894 (by decide +kernel)
theorem g_675 : Cond.code yX7_isFighter cX7_isFighter 2 (some .boolean) ∈ GW := gwm 895 (by decide +kernel)
theorem g_676 : Cond.constant RX7 181 (-1000000001) ∈ GW := gwm 896 (by decide +kernel)
theorem g_677 : Cond.methodLink RX7 182 yX7_readsNow ∈ GW := gwm 897 (by decide +kernel)
theorem g_678 : Cond.instanceMethod yX7_readsNow ∈ GW := gwm 899 (by decide +kernel)
theorem g_679 : Cond.code yX7_readsNow cX7_readsNow 2 (some .int) ∈ GW := gwm 900 (by decide +kernel)
theorem g_680 : Cond.methodLink RX7 175 yX7_reads ∈ GW := gwm 901 (by decide +kernel)
theorem g_681 : Cond.instanceMethod yX7_reads ∈ GW := gwm 903 (by decide +kernel)
theorem g_682 : Cond.code yX7_reads cX7_reads 4 (some .int) ∈ GW := gwm 904 (by decide +kernel)
theorem g_683 : Cond.methodLink RX7 185 yX7_worthOf ∈ GW := gwm 905 (by decide +kernel)
theorem g_684 : Cond.instanceMethod yX7_worthOf ∈ GW := gwm 907 (by decide +kernel)
theorem g_685 : Cond.code yX7_worthOf cX7_worthOf 4 (some .int) ∈ GW := gwm 908 (by decide +kernel)
theorem g_686 : Cond.methodLink RL 39 yX7_thinks ∈ GW := gwm 909 (by decide +kernel)
theorem g_687 : Cond.instanceMethod yX7_thinks ∈ GW := gwm 910 (by decide +kernel)
theorem g_688 : Cond.selects RX7 yX7_thinks yX7_thinks ∈ GW := gwm 911 (by decide +kernel)
theorem g_689 : Cond.code yX7_thinks cX7_thinks 3 (some .int) ∈ GW := gwm 912 (by decide +kernel)
theorem g_690 : Cond.methodLink RX7 188 yX7_isOne ∈ GW := gwm 913 (by decide +kernel)
theorem g_691 : Cond.instanceMethod yX7_isOne ∈ GW := gwm 915 (by decide +kernel)
theorem g_692 : Cond.code yX7_isOne cX7_isOne 2 (some .boolean) ∈ GW := gwm 916 (by decide +kernel)
theorem g_693 : Cond.methodLink RL 43 yX7_chats ∈ GW := gwm 917 (by decide +kernel)
theorem g_694 : Cond.instanceMethod yX7_chats ∈ GW := gwm 918 (by decide +kernel)
theorem g_695 : Cond.selects RX7 yX7_chats yX7_chats ∈ GW := gwm 919 (by decide +kernel)
theorem g_696 : Cond.code yX7_chats cX7_chats 2 (some .int) ∈ GW := gwm 920 (by decide +kernel)
theorem g_697 : Cond.methodLink RL 47 yX7_task ∈ GW := gwm 921 (by decide +kernel)
theorem g_698 : Cond.instanceMethod yX7_task ∈ GW := gwm 922 (by decide +kernel)
theorem g_699 : Cond.selects RX7 yX7_task yX7_task ∈ GW := gwm 923 (by decide +kernel)
theorem g_700 : Cond.code yX7_task cX7_task 3 (some .int) ∈ GW := gwm 924 (by decide +kernel)
theorem g_701 : Cond.methodLink RX7 191 yX7_isTask ∈ GW := gwm 925 (by decide +kernel)
theorem g_702 : Cond.instanceMethod yX7_isTask ∈ GW := gwm 927 (by decide +kernel)
theorem g_703 : Cond.code yX7_isTask cX7_isTask 2 (some .boolean) ∈ GW := gwm 928 (by decide +kernel)
theorem g_704 : Cond.constantLong RX7 194 (3) ∈ GW := gwm 929 (by decide +kernel)
theorem g_705 : Cond.methodLink RX7 196 yX7_tricksOf ∈ GW := gwm 930 (by decide +kernel)
theorem g_706 : Cond.instanceMethod yX7_tricksOf ∈ GW := gwm 932 (by decide +kernel)
theorem g_707 : Cond.code yX7_tricksOf cX7_tricksOf 4 (some .int) ∈ GW := gwm 933 (by decide +kernel)
theorem g_708 : Cond.methodLink RL 51 yX7_trick ∈ GW := gwm 934 (by decide +kernel)
theorem g_709 : Cond.instanceMethod yX7_trick ∈ GW := gwm 935 (by decide +kernel)
theorem g_710 : Cond.selects RX7 yX7_trick yX7_trick ∈ GW := gwm 936 (by decide +kernel)
theorem g_711 : Cond.code yX7_trick cX7_trick 3 (some .int) ∈ GW := gwm 937 (by decide +kernel)
theorem g_712 : Cond.constantLong RX7 199 (2) ∈ GW := gwm 938 (by decide +kernel)
theorem g_713 : Cond.methodLink RL 55 yX7_read ∈ GW := gwm 939 (by decide +kernel)
theorem g_714 : Cond.instanceMethod yX7_read ∈ GW := gwm 940 (by decide +kernel)
theorem g_715 : Cond.selects RX7 yX7_read yX7_read ∈ GW := gwm 941 (by decide +kernel)
theorem g_716 : Cond.code yX7_read cX7_read 3 (some .int) ∈ GW := gwm 942 (by decide +kernel)
theorem g_717 : Cond.methodLink RX7 205 yX7_doRead ∈ GW := gwm 943 (by decide +kernel)
theorem g_718 : Cond.instanceMethod yX7_doRead ∈ GW := gwm 945 (by decide +kernel)
theorem g_719 : Cond.code yX7_doRead cX7_doRead 3 none ∈ GW := gwm 946 (by decide +kernel)
theorem g_720 : Cond.methodLink RX7 201 yX7_think ∈ GW := gwm 947 (by decide +kernel)
theorem g_721 : Cond.instanceMethod yX7_think ∈ GW := gwm 949 (by decide +kernel)
theorem g_722 : Cond.code yX7_think cX7_think 4 none ∈ GW := gwm 950 (by decide +kernel)
theorem g_723 : Cond.methodLink RL 59 yX7_rumour ∈ GW := gwm 951 (by decide +kernel)
theorem g_724 : Cond.instanceMethod yX7_rumour ∈ GW := gwm 952 (by decide +kernel)
theorem g_725 : Cond.selects RX7 yX7_rumour yX7_rumour ∈ GW := gwm 953 (by decide +kernel)
theorem g_726 : Cond.code yX7_rumour cX7_rumour 2 (some .int) ∈ GW := gwm 954 (by decide +kernel)
theorem g_727 : Cond.methodLink RX7 209 yX7_doRumour ∈ GW := gwm 955 (by decide +kernel)
theorem g_728 : Cond.instanceMethod yX7_doRumour ∈ GW := gwm 957 (by decide +kernel)
theorem g_729 : Cond.code yX7_doRumour cX7_doRumour 5 (some .int) ∈ GW := gwm 958 (by decide +kernel)
theorem g_730 : Cond.methodLink RL 63 yX7_inspect ∈ GW := gwm 959 (by decide +kernel)
theorem g_731 : Cond.instanceMethod yX7_inspect ∈ GW := gwm 960 (by decide +kernel)
theorem g_732 : Cond.selects RX7 yX7_inspect yX7_inspect ∈ GW := gwm 961 (by decide +kernel)
theorem g_733 : Cond.code yX7_inspect cX7_inspect 3 (some .int) ∈ GW := gwm 962 (by decide +kernel)
theorem g_734 : Cond.methodLink RX7 212 yX7_doInspect ∈ GW := gwm 963 (by decide +kernel)
theorem g_735 : Cond.instanceMethod yX7_doInspect ∈ GW := gwm 965 (by decide +kernel)
theorem g_736 : Cond.code yX7_doInspect cX7_doInspect 3 none ∈ GW := gwm 966 (by decide +kernel)
theorem g_737 : Cond.methodLink RL 67 yX7_belt ∈ GW := gwm 967 (by decide +kernel)
theorem g_738 : Cond.instanceMethod yX7_belt ∈ GW := gwm 968 (by decide +kernel)
theorem g_739 : Cond.selects RX7 yX7_belt yX7_belt ∈ GW := gwm 969 (by decide +kernel)
theorem g_740 : Cond.code yX7_belt cX7_belt 4 (some .int) ∈ GW := gwm 970 (by decide +kernel)
theorem g_741 : Cond.constantLong RX7 215 (99) ∈ GW := gwm 971 (by decide +kernel)
theorem g_742 : Cond.methodLink RL 72 yX7_attempt ∈ GW := gwm 972 (by decide +kernel)
theorem g_743 : Cond.instanceMethod yX7_attempt ∈ GW := gwm 973 (by decide +kernel)
theorem g_744 : Cond.selects RX7 yX7_attempt yX7_attempt ∈ GW := gwm 974 (by decide +kernel)
theorem g_745 : Cond.code yX7_attempt cX7_attempt 7 (some .int) ∈ GW := gwm 975 (by decide +kernel)
theorem g_746 : Cond.constant RX7 217 (-1000000003) ∈ GW := gwm 976 (by decide +kernel)
theorem g_747 : Cond.methodLink RX7 218 yX7_passes ∈ GW := gwm 977 (by decide +kernel)
theorem g_748 : Cond.instanceMethod yX7_passes ∈ GW := gwm 979 (by decide +kernel)
theorem g_749 : Cond.code yX7_passes cX7_passes 8 (some .boolean) ∈ GW := gwm 980 (by decide +kernel)
theorem g_750 : Cond.methodLink RL 76 yX7_drift ∈ GW := gwm 981 (by decide +kernel)
theorem g_751 : Cond.instanceMethod yX7_drift ∈ GW := gwm 982 (by decide +kernel)
theorem g_752 : Cond.selects RX7 yX7_drift yX7_drift ∈ GW := gwm 983 (by decide +kernel)
theorem g_753 : Cond.code yX7_drift cX7_drift 6 (some .int) ∈ GW := gwm 984 (by decide +kernel)
theorem g_754 : Cond.constant RX7 230 (90000) ∈ GW := gwm 985 (by decide +kernel)
theorem g_755 : Cond.methodLink RX7 231 yX7_draw ∈ GW := gwm 986 (by decide +kernel)
theorem g_756 : Cond.instanceMethod yX7_draw ∈ GW := gwm 988 (by decide +kernel)
theorem g_757 : Cond.code yX7_draw cX7_draw 4 (some .int) ∈ GW := gwm 989 (by decide +kernel)
theorem g_758 : Cond.constantLong RX7 222 (1103515245) ∈ GW := gwm 990 (by decide +kernel)
theorem g_759 : Cond.constantLong RX7 224 (12345) ∈ GW := gwm 991 (by decide +kernel)
theorem g_760 : Cond.constantLong RX7 226 (2147483648) ∈ GW := gwm 992 (by decide +kernel)
theorem g_761 : Cond.constantLong RX7 228 (65536) ∈ GW := gwm 993 (by decide +kernel)
theorem g_762 : Cond.methodLink RL 80 yX7_plan ∈ GW := gwm 994 (by decide +kernel)
theorem g_763 : Cond.instanceMethod yX7_plan ∈ GW := gwm 995 (by decide +kernel)
theorem g_764 : Cond.selects RX7 yX7_plan yX7_plan ∈ GW := gwm 996 (by decide +kernel)
theorem g_765 : Cond.code yX7_plan cX7_plan 8 (some .int) ∈ GW := gwm 997 (by decide +kernel)
theorem g_766 : Cond.methodLink RX7 243 yX7_passable ∈ GW := gwm 998 (by decide +kernel)
theorem g_767 : Cond.instanceMethod yX7_passable ∈ GW := gwm 1000 (by decide +kernel)
theorem g_768 : Cond.code yX7_passable cX7_passable 4 (some .int) ∈ GW := gwm 1001 (by decide +kernel)
theorem g_769 : Cond.methodLink RX7 240 yX7_nextTask ∈ GW := gwm 1002 (by decide +kernel)
theorem g_770 : Cond.instanceMethod yX7_nextTask ∈ GW := gwm 1004 (by decide +kernel)
theorem g_771 : Cond.code yX7_nextTask cX7_nextTask 4 (some .int) ∈ GW := gwm 1005 (by decide +kernel)
theorem g_772 : Cond.methodLink RX7 237 yX7_leastTricks ∈ GW := gwm 1006 (by decide +kernel)
theorem g_773 : Cond.instanceMethod yX7_leastTricks ∈ GW := gwm 1008 (by decide +kernel)
theorem g_774 : Cond.code yX7_leastTricks cX7_leastTricks 7 (some .int) ∈ GW := gwm 1009 (by decide +kernel)
theorem g_775 : Cond.methodLink RX7 234 yX7_fameOf ∈ GW := gwm 1010 (by decide +kernel)
theorem g_776 : Cond.instanceMethod yX7_fameOf ∈ GW := gwm 1012 (by decide +kernel)
theorem g_777 : Cond.code yX7_fameOf cX7_fameOf 4 (some .int) ∈ GW := gwm 1013 (by decide +kernel)
theorem g_778 : Cond.methodLink RL 84 yX7_stops ∈ GW := gwm 1014 (by decide +kernel)
theorem g_779 : Cond.instanceMethod yX7_stops ∈ GW := gwm 1015 (by decide +kernel)
theorem g_780 : Cond.selects RX7 yX7_stops yX7_stops ∈ GW := gwm 1016 (by decide +kernel)
theorem g_781 : Cond.code yX7_stops cX7_stops 4 (some .int) ∈ GW := gwm 1017 (by decide +kernel)
theorem g_782 : Cond.methodLink RL 88 yX7_write ∈ GW := gwm 1018 (by decide +kernel)
theorem g_783 : Cond.instanceMethod yX7_write ∈ GW := gwm 1019 (by decide +kernel)
theorem g_784 : Cond.selects RX7 yX7_write yX7_write ∈ GW := gwm 1020 (by decide +kernel)
theorem g_785 : Cond.code yX7_write cX7_write 3 (some .int) ∈ GW := gwm 1021 (by decide +kernel)
theorem g_786 : Cond.methodLink RX7 252 yX7_writes ∈ GW := gwm 1022 (by decide +kernel)
theorem g_787 : Cond.instanceMethod yX7_writes ∈ GW := gwm 1024 (by decide +kernel)
theorem g_788 : Cond.code yX7_writes cX7_writes 8 (some .boolean) ∈ GW := gwm 1025 (by decide +kernel)
theorem g_789 : Cond.methodLink RX7 249 yX7_gainOf ∈ GW := gwm 1026 (by decide +kernel)
theorem g_790 : Cond.instanceMethod yX7_gainOf ∈ GW := gwm 1028 (by decide +kernel)
theorem g_791 : Cond.code yX7_gainOf cX7_gainOf 6 (some .int) ∈ GW := gwm 1029 (by decide +kernel)
theorem g_792 : Cond.methodLink RX7 246 yX7_wouldThink ∈ GW := gwm 1030 (by decide +kernel)
theorem g_793 : Cond.instanceMethod yX7_wouldThink ∈ GW := gwm 1032 (by decide +kernel)
theorem g_794 : Cond.code yX7_wouldThink cX7_wouldThink 4 (some .int) ∈ GW := gwm 1033 (by decide +kernel)
theorem g_795 : Cond.methodLink RL 92 yX7_tells ∈ GW := gwm 1034 (by decide +kernel)
theorem g_796 : Cond.instanceMethod yX7_tells ∈ GW := gwm 1035 (by decide +kernel)
theorem g_797 : Cond.selects RX7 yX7_tells yX7_tells ∈ GW := gwm 1036 (by decide +kernel)
theorem g_798 : Cond.code yX7_tells cX7_tells 8 (some .int) ∈ GW := gwm 1037 (by decide +kernel)
theorem g_799 : Cond.methodLink RX7 256 yX7_divisor ∈ GW := gwm 1038 (by decide +kernel)
theorem g_800 : Cond.static yX7_divisor ∈ GW := gwm 1039 (by decide +kernel)
theorem g_801 : Cond.code yX7_divisor cX7_divisor 5 (some .int) ∈ GW := gwm 1040 (by decide +kernel)
theorem g_802 : Cond.methodLink RL 96 yX7_words ∈ GW := gwm 1041 (by decide +kernel)
theorem g_803 : Cond.instanceMethod yX7_words ∈ GW := gwm 1042 (by decide +kernel)
theorem g_804 : Cond.selects RX7 yX7_words yX7_words ∈ GW := gwm 1043 (by decide +kernel)
theorem g_805 : Cond.code yX7_words cX7_words 3 (some .int) ∈ GW := gwm 1044 (by decide +kernel)
theorem g_806 : Cond.methodLink RX7 259 yX7_wordsTo ∈ GW := gwm 1045 (by decide +kernel)
theorem g_807 : Cond.instanceMethod yX7_wordsTo ∈ GW := gwm 1047 (by decide +kernel)
theorem g_808 : Cond.code yX7_wordsTo cX7_wordsTo 5 (some .int) ∈ GW := gwm 1048 (by decide +kernel)
theorem g_809 : Cond.methodLink RL 100 yX7_hire ∈ GW := gwm 1049 (by decide +kernel)
theorem g_810 : Cond.instanceMethod yX7_hire ∈ GW := gwm 1050 (by decide +kernel)
theorem g_811 : Cond.selects RX7 yX7_hire yX7_hire ∈ GW := gwm 1051 (by decide +kernel)
theorem g_812 : Cond.code yX7_hire cX7_hire 10 (some .int) ∈ GW := gwm 1052 (by decide +kernel)
theorem g_813 : Cond.methodLink RL 104 yX7_saw ∈ GW := gwm 1053 (by decide +kernel)
theorem g_814 : Cond.instanceMethod yX7_saw ∈ GW := gwm 1054 (by decide +kernel)
theorem g_815 : Cond.selects RX7 yX7_saw yX7_saw ∈ GW := gwm 1055 (by decide +kernel)
theorem g_816 : Cond.code yX7_saw cX7_saw 9 (some .int) ∈ GW := gwm 1056 (by decide +kernel)
theorem g_817 : Cond.methodLink RL 108 yX7_hides ∈ GW := gwm 1057 (by decide +kernel)
theorem g_818 : Cond.instanceMethod yX7_hides ∈ GW := gwm 1058 (by decide +kernel)
theorem g_819 : Cond.selects RX7 yX7_hides yX7_hides ∈ GW := gwm 1059 (by decide +kernel)
theorem g_820 : Cond.code yX7_hides cX7_hides 6 (some .int) ∈ GW := gwm 1060 (by decide +kernel)
theorem g_821 : Cond.constantLong RX7 262 (9) ∈ GW := gwm 1061 (by decide +kernel)
theorem g_822 : Cond.constantLong RX7 264 (100) ∈ GW := gwm 1062 (by decide +kernel)
theorem g_823 : Cond.constantLong RX7 266 (1000000000) ∈ GW := gwm 1063 (by decide +kernel)
theorem g_824 : Cond.methodLink RL 112 yX7_note ∈ GW := gwm 1064 (by decide +kernel)
theorem g_825 : Cond.instanceMethod yX7_note ∈ GW := gwm 1065 (by decide +kernel)
theorem g_826 : Cond.selects RX7 yX7_note yX7_note ∈ GW := gwm 1066 (by decide +kernel)
theorem g_827 : Cond.code yX7_note cX7_note 4 (some .int) ∈ GW := gwm 1067 (by decide +kernel)
theorem g_828 : Cond.methodLink RL 116 yX7_tear ∈ GW := gwm 1068 (by decide +kernel)
theorem g_829 : Cond.instanceMethod yX7_tear ∈ GW := gwm 1069 (by decide +kernel)
theorem g_830 : Cond.selects RX7 yX7_tear yX7_tear ∈ GW := gwm 1070 (by decide +kernel)
theorem g_831 : Cond.code yX7_tear cX7_tear 2 (some .int) ∈ GW := gwm 1071 (by decide +kernel)
theorem g_832 : Cond.methodLink RL 120 yX7_judge ∈ GW := gwm 1072 (by decide +kernel)
theorem g_833 : Cond.instanceMethod yX7_judge ∈ GW := gwm 1073 (by decide +kernel)
theorem g_834 : Cond.selects RX7 yX7_judge yX7_judge ∈ GW := gwm 1074 (by decide +kernel)
theorem g_835 : Cond.code yX7_judge cX7_judge 2 (some .int) ∈ GW := gwm 1075 (by decide +kernel)
theorem g_836 : Cond.methodLink RL 124 yX7_seed ∈ GW := gwm 1076 (by decide +kernel)
theorem g_837 : Cond.instanceMethod yX7_seed ∈ GW := gwm 1077 (by decide +kernel)
theorem g_838 : Cond.selects RX7 yX7_seed yX7_seed ∈ GW := gwm 1078 (by decide +kernel)
theorem g_839 : Cond.code yX7_seed cX7_seed 3 (some .int) ∈ GW := gwm 1079 (by decide +kernel)
theorem g_840 : Cond.methodLink RL 128 yX7_keep ∈ GW := gwm 1080 (by decide +kernel)
theorem g_841 : Cond.instanceMethod yX7_keep ∈ GW := gwm 1081 (by decide +kernel)
theorem g_842 : Cond.selects RX7 yX7_keep yX7_keep ∈ GW := gwm 1082 (by decide +kernel)
theorem g_843 : Cond.code yX7_keep cX7_keep 2 (some .int) ∈ GW := gwm 1083 (by decide +kernel)
theorem g_844 : Cond.methodLink RX7 268 yX7_copyRow ∈ GW := gwm 1084 (by decide +kernel)
theorem g_845 : Cond.instanceMethod yX7_copyRow ∈ GW := gwm 1086 (by decide +kernel)
theorem g_846 : Cond.code yX7_copyRow cX7_copyRow 4 none ∈ GW := gwm 1087 (by decide +kernel)
theorem g_847 : Cond.methodLink RL 132 yX7_goBack ∈ GW := gwm 1088 (by decide +kernel)
theorem g_848 : Cond.instanceMethod yX7_goBack ∈ GW := gwm 1089 (by decide +kernel)
theorem g_849 : Cond.selects RX7 yX7_goBack yX7_goBack ∈ GW := gwm 1090 (by decide +kernel)
theorem g_850 : Cond.code yX7_goBack cX7_goBack 2 (some .int) ∈ GW := gwm 1091 (by decide +kernel)
theorem inG0 : ∀ w ∈ wsX00, w ∈ GW := gwl [305, 307] (by decide +kernel)
theorem inG1 : ∀ w ∈ wsX10, w ∈ GW := gwl [267, 269, 271] (by decide +kernel)
theorem inG2 : ∀ w ∈ wsX20, w ∈ GW := gwl [180, 182, 184, 186, 188, 190, 192, 194, 196, 198, 200, 202, 204, 206, 208, 210, 212, 214] (by decide +kernel)
theorem inG3 : ∀ w ∈ wsX30, w ∈ GW := gwl [287, 289, 291, 293] (by decide +kernel)
theorem inG4 : ∀ w ∈ wsX40, w ∈ GW := gwl [242, 244, 246, 248, 250, 252, 254] (by decide +kernel)
theorem inG5 : ∀ w ∈ wsX50, w ∈ GW := gwl [101, 103, 105, 107, 109, 111] (by decide +kernel)
theorem inG6 : ∀ w ∈ wsX60, w ∈ GW := gwl [320, 322, 324, 326, 328, 330, 332, 334, 336, 338] (by decide +kernel)
theorem inG7 : ∀ w ∈ wsX70, w ∈ GW := gwl [736, 738, 740, 742, 744, 746, 748, 750, 752, 754, 756, 758, 760, 762, 764, 766, 768, 770, 772, 774, 776, 778, 780, 782, 784, 786, 788, 790, 792, 794, 796, 798] (by decide +kernel)
end
section
theorem dX0_init_0 : decode cX0_init 0 = .ok (.aload_n 0, 1) := by decide +kernel
theorem dX0_init_1 : decode cX0_init 1 = .ok (.invokespecial 3, 3) := by decide +kernel
theorem dX0_init_4 : decode cX0_init 4 = .ok (.aload_n 0, 1) := by decide +kernel
theorem dX0_init_5 : decode cX0_init 5 = .ok (.iconst 5, 1) := by decide +kernel
theorem dX0_init_6 : decode cX0_init 6 = .ok (.newarray .int, 2) := by decide +kernel
theorem dX0_init_8 : decode cX0_init 8 = .ok (.putfield 9, 3) := by decide +kernel
theorem dX0_init_11 : decode cX0_init 11 = .ok (.aload_n 0, 1) := by decide +kernel
theorem dX0_init_12 : decode cX0_init 12 = .ok (.bipush 6, 2) := by decide +kernel
theorem dX0_init_14 : decode cX0_init 14 = .ok (.newarray .int, 2) := by decide +kernel
theorem dX0_init_16 : decode cX0_init 16 = .ok (.putfield 15, 3) := by decide +kernel
theorem dX0_init_19 : decode cX0_init 19 = .ok (.return_, 1) := by decide +kernel
theorem dX0_settle_0 : decode cX0_settle 0 = .ok (.iconst 0, 1) := by decide +kernel
theorem dX0_settle_1 : decode cX0_settle 1 = .ok (.istore_n 3, 1) := by decide +kernel
theorem dX0_settle_2 : decode cX0_settle 2 = .ok (.iload_n 3, 1) := by decide +kernel
theorem dX0_settle_3 : decode cX0_settle 3 = .ok (.iconst 5, 1) := by decide +kernel
theorem dX0_settle_4 : decode cX0_settle 4 = .ok (.if_icmp .ge 21, 3) := by decide +kernel
theorem dX0_settle_7 : decode cX0_settle 7 = .ok (.aload_n 0, 1) := by decide +kernel
theorem dX0_settle_8 : decode cX0_settle 8 = .ok (.getfield 9, 3) := by decide +kernel
theorem dX0_settle_11 : decode cX0_settle 11 = .ok (.iload_n 3, 1) := by decide +kernel
theorem dX0_settle_12 : decode cX0_settle 12 = .ok (.aload_n 2, 1) := by decide +kernel
theorem dX0_settle_13 : decode cX0_settle 13 = .ok (.getfield 18, 3) := by decide +kernel
theorem dX0_settle_16 : decode cX0_settle 16 = .ok (.iload_n 3, 1) := by decide +kernel
theorem dX0_settle_17 : decode cX0_settle 17 = .ok (.iaload, 1) := by decide +kernel
theorem dX0_settle_18 : decode cX0_settle 18 = .ok (.iastore, 1) := by decide +kernel
theorem dX0_settle_19 : decode cX0_settle 19 = .ok (.iinc 3 1, 3) := by decide +kernel
theorem dX0_settle_22 : decode cX0_settle 22 = .ok (.goto (-20), 3) := by decide +kernel
theorem dX0_settle_25 : decode cX0_settle 25 = .ok (.iconst 0, 1) := by decide +kernel
theorem dX0_settle_26 : decode cX0_settle 26 = .ok (.istore_n 3, 1) := by decide +kernel
theorem dX0_settle_27 : decode cX0_settle 27 = .ok (.iload_n 3, 1) := by decide +kernel
theorem dX0_settle_28 : decode cX0_settle 28 = .ok (.bipush 20, 2) := by decide +kernel
theorem dX0_settle_30 : decode cX0_settle 30 = .ok (.if_icmp .ge 20, 3) := by decide +kernel
theorem dX0_settle_33 : decode cX0_settle 33 = .ok (.aload_n 0, 1) := by decide +kernel
theorem dX0_settle_34 : decode cX0_settle 34 = .ok (.aload_n 1, 1) := by decide +kernel
theorem dX0_settle_35 : decode cX0_settle 35 = .ok (.aload_n 2, 1) := by decide +kernel
theorem dX0_settle_36 : decode cX0_settle 36 = .ok (.invokevirtual 21, 3) := by decide +kernel
theorem dX0_settle_39 : decode cX0_settle 39 = .ok (.ifCond .ne 5, 3) := by decide +kernel
theorem dX0_settle_42 : decode cX0_settle 42 = .ok (.iload_n 3, 1) := by decide +kernel
theorem dX0_settle_43 : decode cX0_settle 43 = .ok (.ireturn, 1) := by decide +kernel
theorem dX0_settle_44 : decode cX0_settle 44 = .ok (.iinc 3 1, 3) := by decide +kernel
theorem dX0_settle_47 : decode cX0_settle 47 = .ok (.goto (-20), 3) := by decide +kernel
theorem dX0_settle_50 : decode cX0_settle 50 = .ok (.iconst (-1), 1) := by decide +kernel
theorem dX0_settle_51 : decode cX0_settle 51 = .ok (.ireturn, 1) := by decide +kernel
theorem dX0_roundChanges_0 : decode cX0_roundChanges 0 = .ok (.iconst 0, 1) := by decide +kernel
theorem dX0_roundChanges_1 : decode cX0_roundChanges 1 = .ok (.istore_n 3, 1) := by decide +kernel
theorem dX0_roundChanges_2 : decode cX0_roundChanges 2 = .ok (.iconst 0, 1) := by decide +kernel
theorem dX0_roundChanges_3 : decode cX0_roundChanges 3 = .ok (.istore 4, 2) := by decide +kernel
theorem dX0_roundChanges_5 : decode cX0_roundChanges 5 = .ok (.iload 4, 2) := by decide +kernel
theorem dX0_roundChanges_7 : decode cX0_roundChanges 7 = .ok (.aload_n 1, 1) := by decide +kernel
theorem dX0_roundChanges_8 : decode cX0_roundChanges 8 = .ok (.getfield 25, 3) := by decide +kernel
theorem dX0_roundChanges_11 : decode cX0_roundChanges 11 = .ok (.if_icmp .ge 48, 3) := by decide +kernel
theorem dX0_roundChanges_14 : decode cX0_roundChanges 14 = .ok (.aload_n 0, 1) := by decide +kernel
theorem dX0_roundChanges_15 : decode cX0_roundChanges 15 = .ok (.aload_n 1, 1) := by decide +kernel
theorem dX0_roundChanges_16 : decode cX0_roundChanges 16 = .ok (.aload_n 2, 1) := by decide +kernel
theorem dX0_roundChanges_17 : decode cX0_roundChanges 17 = .ok (.iload 4, 2) := by decide +kernel
theorem dX0_roundChanges_19 : decode cX0_roundChanges 19 = .ok (.invokevirtual 31, 3) := by decide +kernel
theorem dX0_roundChanges_22 : decode cX0_roundChanges 22 = .ok (.istore 5, 2) := by decide +kernel
theorem dX0_roundChanges_24 : decode cX0_roundChanges 24 = .ok (.iload_n 3, 1) := by decide +kernel
theorem dX0_roundChanges_25 : decode cX0_roundChanges 25 = .ok (.iload 5, 2) := by decide +kernel
theorem dX0_roundChanges_27 : decode cX0_roundChanges 27 = .ok (.aload_n 0, 1) := by decide +kernel
theorem dX0_roundChanges_28 : decode cX0_roundChanges 28 = .ok (.getfield 9, 3) := by decide +kernel
theorem dX0_roundChanges_31 : decode cX0_roundChanges 31 = .ok (.iload 4, 2) := by decide +kernel
theorem dX0_roundChanges_33 : decode cX0_roundChanges 33 = .ok (.iaload, 1) := by decide +kernel
theorem dX0_roundChanges_34 : decode cX0_roundChanges 34 = .ok (.if_icmp .eq 7, 3) := by decide +kernel
theorem dX0_roundChanges_37 : decode cX0_roundChanges 37 = .ok (.iconst 1, 1) := by decide +kernel
theorem dX0_roundChanges_38 : decode cX0_roundChanges 38 = .ok (.goto 4, 3) := by decide +kernel
theorem dX0_roundChanges_41 : decode cX0_roundChanges 41 = .ok (.iconst 0, 1) := by decide +kernel
theorem dX0_roundChanges_42 : decode cX0_roundChanges 42 = .ok (.ior, 1) := by decide +kernel
theorem dX0_roundChanges_43 : decode cX0_roundChanges 43 = .ok (.istore_n 3, 1) := by decide +kernel
theorem dX0_roundChanges_44 : decode cX0_roundChanges 44 = .ok (.aload_n 0, 1) := by decide +kernel
theorem dX0_roundChanges_45 : decode cX0_roundChanges 45 = .ok (.getfield 9, 3) := by decide +kernel
theorem dX0_roundChanges_48 : decode cX0_roundChanges 48 = .ok (.iload 4, 2) := by decide +kernel
theorem dX0_roundChanges_50 : decode cX0_roundChanges 50 = .ok (.iload 5, 2) := by decide +kernel
theorem dX0_roundChanges_52 : decode cX0_roundChanges 52 = .ok (.iastore, 1) := by decide +kernel
theorem dX0_roundChanges_53 : decode cX0_roundChanges 53 = .ok (.iinc 4 1, 3) := by decide +kernel
theorem dX0_roundChanges_56 : decode cX0_roundChanges 56 = .ok (.goto (-51), 3) := by decide +kernel
theorem dX0_roundChanges_59 : decode cX0_roundChanges 59 = .ok (.iload_n 3, 1) := by decide +kernel
theorem dX0_roundChanges_60 : decode cX0_roundChanges 60 = .ok (.ireturn, 1) := by decide +kernel
theorem dX0_bestBelt_0 : decode cX0_bestBelt 0 = .ok (.iconst 0, 1) := by decide +kernel
theorem dX0_bestBelt_1 : decode cX0_bestBelt 1 = .ok (.istore 4, 2) := by decide +kernel
theorem dX0_bestBelt_3 : decode cX0_bestBelt 3 = .ok (.iload 4, 2) := by decide +kernel
theorem dX0_bestBelt_5 : decode cX0_bestBelt 5 = .ok (.aload_n 1, 1) := by decide +kernel
theorem dX0_bestBelt_6 : decode cX0_bestBelt 6 = .ok (.getfield 35, 3) := by decide +kernel
theorem dX0_bestBelt_9 : decode cX0_bestBelt 9 = .ok (.if_icmp .ge 25, 3) := by decide +kernel
theorem dX0_bestBelt_12 : decode cX0_bestBelt 12 = .ok (.aload_n 0, 1) := by decide +kernel
theorem dX0_bestBelt_13 : decode cX0_bestBelt 13 = .ok (.getfield 15, 3) := by decide +kernel
theorem dX0_bestBelt_16 : decode cX0_bestBelt 16 = .ok (.iload 4, 2) := by decide +kernel
theorem dX0_bestBelt_18 : decode cX0_bestBelt 18 = .ok (.aload_n 0, 1) := by decide +kernel
theorem dX0_bestBelt_19 : decode cX0_bestBelt 19 = .ok (.aload_n 1, 1) := by decide +kernel
theorem dX0_bestBelt_20 : decode cX0_bestBelt 20 = .ok (.aload_n 2, 1) := by decide +kernel
theorem dX0_bestBelt_21 : decode cX0_bestBelt 21 = .ok (.iload 4, 2) := by decide +kernel
theorem dX0_bestBelt_23 : decode cX0_bestBelt 23 = .ok (.iload_n 3, 1) := by decide +kernel
theorem dX0_bestBelt_24 : decode cX0_bestBelt 24 = .ok (.invokevirtual 38, 3) := by decide +kernel
theorem dX0_bestBelt_27 : decode cX0_bestBelt 27 = .ok (.iastore, 1) := by decide +kernel
theorem dX0_bestBelt_28 : decode cX0_bestBelt 28 = .ok (.iinc 4 1, 3) := by decide +kernel
theorem dX0_bestBelt_31 : decode cX0_bestBelt 31 = .ok (.goto (-28), 3) := by decide +kernel
theorem dX0_bestBelt_34 : decode cX0_bestBelt 34 = .ok (.iconst 0, 1) := by decide +kernel
theorem dX0_bestBelt_35 : decode cX0_bestBelt 35 = .ok (.istore 4, 2) := by decide +kernel
theorem dX0_bestBelt_37 : decode cX0_bestBelt 37 = .ok (.aload_n 0, 1) := by decide +kernel
theorem dX0_bestBelt_38 : decode cX0_bestBelt 38 = .ok (.aload_n 1, 1) := by decide +kernel
theorem dX0_bestBelt_39 : decode cX0_bestBelt 39 = .ok (.aload_n 2, 1) := by decide +kernel
theorem dX0_bestBelt_40 : decode cX0_bestBelt 40 = .ok (.iload_n 3, 1) := by decide +kernel
theorem dX0_bestBelt_41 : decode cX0_bestBelt 41 = .ok (.iconst 0, 1) := by decide +kernel
theorem dX0_bestBelt_42 : decode cX0_bestBelt 42 = .ok (.invokevirtual 42, 3) := by decide +kernel
theorem dX0_bestBelt_45 : decode cX0_bestBelt 45 = .ok (.istore 5, 2) := by decide +kernel
theorem dX0_bestBelt_47 : decode cX0_bestBelt 47 = .ok (.bipush 10, 2) := by decide +kernel
theorem dX0_bestBelt_49 : decode cX0_bestBelt 49 = .ok (.istore 6, 2) := by decide +kernel
theorem dX0_bestBelt_51 : decode cX0_bestBelt 51 = .ok (.iload 6, 2) := by decide +kernel
theorem dX0_bestBelt_53 : decode cX0_bestBelt 53 = .ok (.bipush 90, 2) := by decide +kernel
theorem dX0_bestBelt_55 : decode cX0_bestBelt 55 = .ok (.if_icmp .gt 35, 3) := by decide +kernel
theorem dX0_bestBelt_58 : decode cX0_bestBelt 58 = .ok (.aload_n 0, 1) := by decide +kernel
theorem dX0_bestBelt_59 : decode cX0_bestBelt 59 = .ok (.aload_n 1, 1) := by decide +kernel
theorem dX0_bestBelt_60 : decode cX0_bestBelt 60 = .ok (.aload_n 2, 1) := by decide +kernel
theorem dX0_bestBelt_61 : decode cX0_bestBelt 61 = .ok (.iload_n 3, 1) := by decide +kernel
theorem dX0_bestBelt_62 : decode cX0_bestBelt 62 = .ok (.iload 6, 2) := by decide +kernel
theorem dX0_bestBelt_64 : decode cX0_bestBelt 64 = .ok (.invokevirtual 42, 3) := by decide +kernel
theorem dX0_bestBelt_67 : decode cX0_bestBelt 67 = .ok (.istore 7, 2) := by decide +kernel
theorem dX0_bestBelt_69 : decode cX0_bestBelt 69 = .ok (.iload 7, 2) := by decide +kernel
theorem dX0_bestBelt_71 : decode cX0_bestBelt 71 = .ok (.iload 5, 2) := by decide +kernel
theorem dX0_bestBelt_73 : decode cX0_bestBelt 73 = .ok (.if_icmp .le 11, 3) := by decide +kernel
theorem dX0_bestBelt_76 : decode cX0_bestBelt 76 = .ok (.iload 7, 2) := by decide +kernel
theorem dX0_bestBelt_78 : decode cX0_bestBelt 78 = .ok (.istore 5, 2) := by decide +kernel
theorem dX0_bestBelt_80 : decode cX0_bestBelt 80 = .ok (.iload 6, 2) := by decide +kernel
theorem dX0_bestBelt_82 : decode cX0_bestBelt 82 = .ok (.istore 4, 2) := by decide +kernel
theorem dX0_bestBelt_84 : decode cX0_bestBelt 84 = .ok (.iinc 6 10, 3) := by decide +kernel
theorem dX0_bestBelt_87 : decode cX0_bestBelt 87 = .ok (.goto (-36), 3) := by decide +kernel
theorem dX0_bestBelt_90 : decode cX0_bestBelt 90 = .ok (.iload 4, 2) := by decide +kernel
theorem dX0_bestBelt_92 : decode cX0_bestBelt 92 = .ok (.ireturn, 1) := by decide +kernel
theorem dX0_strongestRival_0 : decode cX0_strongestRival 0 = .ok (.iconst (-1), 1) := by decide +kernel
theorem dX0_strongestRival_1 : decode cX0_strongestRival 1 = .ok (.istore 5, 2) := by decide +kernel
theorem dX0_strongestRival_3 : decode cX0_strongestRival 3 = .ok (.iconst 0, 1) := by decide +kernel
theorem dX0_strongestRival_4 : decode cX0_strongestRival 4 = .ok (.istore 6, 2) := by decide +kernel
theorem dX0_strongestRival_6 : decode cX0_strongestRival 6 = .ok (.iload 6, 2) := by decide +kernel
theorem dX0_strongestRival_8 : decode cX0_strongestRival 8 = .ok (.aload_n 1, 1) := by decide +kernel
theorem dX0_strongestRival_9 : decode cX0_strongestRival 9 = .ok (.getfield 25, 3) := by decide +kernel
theorem dX0_strongestRival_12 : decode cX0_strongestRival 12 = .ok (.if_icmp .ge 54, 3) := by decide +kernel
theorem dX0_strongestRival_15 : decode cX0_strongestRival 15 = .ok (.iload 6, 2) := by decide +kernel
theorem dX0_strongestRival_17 : decode cX0_strongestRival 17 = .ok (.iload 4, 2) := by decide +kernel
theorem dX0_strongestRival_19 : decode cX0_strongestRival 19 = .ok (.if_icmp .eq 41, 3) := by decide +kernel
theorem dX0_strongestRival_22 : decode cX0_strongestRival 22 = .ok (.aload_n 2, 1) := by decide +kernel
theorem dX0_strongestRival_23 : decode cX0_strongestRival 23 = .ok (.getfield 45, 3) := by decide +kernel
theorem dX0_strongestRival_26 : decode cX0_strongestRival 26 = .ok (.iload_n 3, 1) := by decide +kernel
theorem dX0_strongestRival_27 : decode cX0_strongestRival 27 = .ok (.iload 6, 2) := by decide +kernel
theorem dX0_strongestRival_29 : decode cX0_strongestRival 29 = .ok (.invokestatic 48, 3) := by decide +kernel
theorem dX0_strongestRival_32 : decode cX0_strongestRival 32 = .ok (.iaload, 1) := by decide +kernel
theorem dX0_strongestRival_33 : decode cX0_strongestRival 33 = .ok (.aload_n 1, 1) := by decide +kernel
theorem dX0_strongestRival_34 : decode cX0_strongestRival 34 = .ok (.iload 6, 2) := by decide +kernel
theorem dX0_strongestRival_36 : decode cX0_strongestRival 36 = .ok (.aload_n 0, 1) := by decide +kernel
theorem dX0_strongestRival_37 : decode cX0_strongestRival 37 = .ok (.getfield 9, 3) := by decide +kernel
theorem dX0_strongestRival_40 : decode cX0_strongestRival 40 = .ok (.iload 6, 2) := by decide +kernel
theorem dX0_strongestRival_42 : decode cX0_strongestRival 42 = .ok (.iaload, 1) := by decide +kernel
theorem dX0_strongestRival_43 : decode cX0_strongestRival 43 = .ok (.invokevirtual 52, 3) := by decide +kernel
theorem dX0_strongestRival_46 : decode cX0_strongestRival 46 = .ok (.invokestatic 55, 3) := by decide +kernel
theorem dX0_strongestRival_49 : decode cX0_strongestRival 49 = .ok (.istore 7, 2) := by decide +kernel
theorem dX0_strongestRival_51 : decode cX0_strongestRival 51 = .ok (.iload 5, 2) := by decide +kernel
theorem dX0_strongestRival_53 : decode cX0_strongestRival 53 = .ok (.iload 7, 2) := by decide +kernel
theorem dX0_strongestRival_55 : decode cX0_strongestRival 55 = .ok (.invokestatic 55, 3) := by decide +kernel
theorem dX0_strongestRival_58 : decode cX0_strongestRival 58 = .ok (.istore 5, 2) := by decide +kernel
theorem dX0_strongestRival_60 : decode cX0_strongestRival 60 = .ok (.iinc 6 1, 3) := by decide +kernel
theorem dX0_strongestRival_63 : decode cX0_strongestRival 63 = .ok (.goto (-57), 3) := by decide +kernel
theorem dX0_strongestRival_66 : decode cX0_strongestRival 66 = .ok (.iload 5, 2) := by decide +kernel
theorem dX0_strongestRival_68 : decode cX0_strongestRival 68 = .ok (.ireturn, 1) := by decide +kernel
theorem dX0_gain_0 : decode cX0_gain 0 = .ok (.aload_n 1, 1) := by decide +kernel
theorem dX0_gain_1 : decode cX0_gain 1 = .ok (.iload_n 3, 1) := by decide +kernel
theorem dX0_gain_2 : decode cX0_gain 2 = .ok (.iload 4, 2) := by decide +kernel
theorem dX0_gain_4 : decode cX0_gain 4 = .ok (.invokevirtual 52, 3) := by decide +kernel
theorem dX0_gain_7 : decode cX0_gain 7 = .ok (.istore 5, 2) := by decide +kernel
theorem dX0_gain_9 : decode cX0_gain 9 = .ok (.iconst 0, 1) := by decide +kernel
theorem dX0_gain_10 : decode cX0_gain 10 = .ok (.istore 6, 2) := by decide +kernel
theorem dX0_gain_12 : decode cX0_gain 12 = .ok (.iconst 0, 1) := by decide +kernel
theorem dX0_gain_13 : decode cX0_gain 13 = .ok (.istore 7, 2) := by decide +kernel
theorem dX0_gain_15 : decode cX0_gain 15 = .ok (.iload 7, 2) := by decide +kernel
theorem dX0_gain_17 : decode cX0_gain 17 = .ok (.aload_n 1, 1) := by decide +kernel
theorem dX0_gain_18 : decode cX0_gain 18 = .ok (.getfield 35, 3) := by decide +kernel
theorem dX0_gain_21 : decode cX0_gain 21 = .ok (.if_icmp .ge 38, 3) := by decide +kernel
theorem dX0_gain_24 : decode cX0_gain 24 = .ok (.aload_n 2, 1) := by decide +kernel
theorem dX0_gain_25 : decode cX0_gain 25 = .ok (.getfield 45, 3) := by decide +kernel
theorem dX0_gain_28 : decode cX0_gain 28 = .ok (.iload 7, 2) := by decide +kernel
theorem dX0_gain_30 : decode cX0_gain 30 = .ok (.iload_n 3, 1) := by decide +kernel
theorem dX0_gain_31 : decode cX0_gain 31 = .ok (.invokestatic 48, 3) := by decide +kernel
theorem dX0_gain_34 : decode cX0_gain 34 = .ok (.iaload, 1) := by decide +kernel
theorem dX0_gain_35 : decode cX0_gain 35 = .ok (.iload 5, 2) := by decide +kernel
theorem dX0_gain_37 : decode cX0_gain 37 = .ok (.invokestatic 55, 3) := by decide +kernel
theorem dX0_gain_40 : decode cX0_gain 40 = .ok (.aload_n 0, 1) := by decide +kernel
theorem dX0_gain_41 : decode cX0_gain 41 = .ok (.getfield 15, 3) := by decide +kernel
theorem dX0_gain_44 : decode cX0_gain 44 = .ok (.iload 7, 2) := by decide +kernel
theorem dX0_gain_46 : decode cX0_gain 46 = .ok (.iaload, 1) := by decide +kernel
theorem dX0_gain_47 : decode cX0_gain 47 = .ok (.if_icmp .le 6, 3) := by decide +kernel
theorem dX0_gain_50 : decode cX0_gain 50 = .ok (.iinc 6 1, 3) := by decide +kernel
theorem dX0_gain_53 : decode cX0_gain 53 = .ok (.iinc 7 1, 3) := by decide +kernel
theorem dX0_gain_56 : decode cX0_gain 56 = .ok (.goto (-41), 3) := by decide +kernel
theorem dX0_gain_59 : decode cX0_gain 59 = .ok (.bipush 10, 2) := by decide +kernel
theorem dX0_gain_61 : decode cX0_gain 61 = .ok (.iload 6, 2) := by decide +kernel
theorem dX0_gain_63 : decode cX0_gain 63 = .ok (.imul, 1) := by decide +kernel
theorem dX0_gain_64 : decode cX0_gain 64 = .ok (.iconst 3, 1) := by decide +kernel
theorem dX0_gain_65 : decode cX0_gain 65 = .ok (.iconst 0, 1) := by decide +kernel
theorem dX0_gain_66 : decode cX0_gain 66 = .ok (.iload 5, 2) := by decide +kernel
theorem dX0_gain_68 : decode cX0_gain 68 = .ok (.aload_n 1, 1) := by decide +kernel
theorem dX0_gain_69 : decode cX0_gain 69 = .ok (.getfield 60, 3) := by decide +kernel
theorem dX0_gain_72 : decode cX0_gain 72 = .ok (.iload_n 3, 1) := by decide +kernel
theorem dX0_gain_73 : decode cX0_gain 73 = .ok (.iaload, 1) := by decide +kernel
theorem dX0_gain_74 : decode cX0_gain 74 = .ok (.isub, 1) := by decide +kernel
theorem dX0_gain_75 : decode cX0_gain 75 = .ok (.invokestatic 55, 3) := by decide +kernel
theorem dX0_gain_78 : decode cX0_gain 78 = .ok (.bipush 10, 2) := by decide +kernel
theorem dX0_gain_80 : decode cX0_gain 80 = .ok (.idiv, 1) := by decide +kernel
theorem dX0_gain_81 : decode cX0_gain 81 = .ok (.imul, 1) := by decide +kernel
theorem dX0_gain_82 : decode cX0_gain 82 = .ok (.isub, 1) := by decide +kernel
theorem dX0_gain_83 : decode cX0_gain 83 = .ok (.ireturn, 1) := by decide +kernel
theorem dX1_init_0 : decode cX1_init 0 = .ok (.aload_n 0, 1) := by decide +kernel
theorem dX1_init_1 : decode cX1_init 1 = .ok (.invokespecial 3, 3) := by decide +kernel
theorem dX1_init_4 : decode cX1_init 4 = .ok (.aload_n 0, 1) := by decide +kernel
theorem dX1_init_5 : decode cX1_init 5 = .ok (.bipush 15, 2) := by decide +kernel
theorem dX1_init_7 : decode cX1_init 7 = .ok (.newarray .int, 2) := by decide +kernel
theorem dX1_init_9 : decode cX1_init 9 = .ok (.putfield 9, 3) := by decide +kernel
theorem dX1_init_12 : decode cX1_init 12 = .ok (.aload_n 0, 1) := by decide +kernel
theorem dX1_init_13 : decode cX1_init 13 = .ok (.bipush 15, 2) := by decide +kernel
theorem dX1_init_15 : decode cX1_init 15 = .ok (.newarray .int, 2) := by decide +kernel
theorem dX1_init_17 : decode cX1_init 17 = .ok (.putfield 15, 3) := by decide +kernel
theorem dX1_init_20 : decode cX1_init 20 = .ok (.return_, 1) := by decide +kernel
theorem dX1_enter_0 : decode cX1_enter 0 = .ok (.aload_n 0, 1) := by decide +kernel
theorem dX1_enter_1 : decode cX1_enter 1 = .ok (.getfield 18, 3) := by decide +kernel
theorem dX1_enter_4 : decode cX1_enter 4 = .ok (.bipush 15, 2) := by decide +kernel
theorem dX1_enter_6 : decode cX1_enter 6 = .ok (.if_icmp .lt 6, 3) := by decide +kernel
theorem dX1_enter_9 : decode cX1_enter 9 = .ok (.ldc 22, 2) := by decide +kernel
theorem dX1_enter_11 : decode cX1_enter 11 = .ok (.ireturn, 1) := by decide +kernel
theorem dX1_enter_12 : decode cX1_enter 12 = .ok (.aload_n 0, 1) := by decide +kernel
theorem dX1_enter_13 : decode cX1_enter 13 = .ok (.getfield 9, 3) := by decide +kernel
theorem dX1_enter_16 : decode cX1_enter 16 = .ok (.aload_n 0, 1) := by decide +kernel
theorem dX1_enter_17 : decode cX1_enter 17 = .ok (.getfield 18, 3) := by decide +kernel
theorem dX1_enter_20 : decode cX1_enter 20 = .ok (.iload_n 1, 1) := by decide +kernel
theorem dX1_enter_21 : decode cX1_enter 21 = .ok (.iastore, 1) := by decide +kernel
theorem dX1_enter_22 : decode cX1_enter 22 = .ok (.aload_n 0, 1) := by decide +kernel
theorem dX1_enter_23 : decode cX1_enter 23 = .ok (.getfield 15, 3) := by decide +kernel
theorem dX1_enter_26 : decode cX1_enter 26 = .ok (.aload_n 0, 1) := by decide +kernel
theorem dX1_enter_27 : decode cX1_enter 27 = .ok (.getfield 18, 3) := by decide +kernel
theorem dX1_enter_30 : decode cX1_enter 30 = .ok (.iload_n 2, 1) := by decide +kernel
theorem dX1_enter_31 : decode cX1_enter 31 = .ok (.iastore, 1) := by decide +kernel
theorem dX1_enter_32 : decode cX1_enter 32 = .ok (.aload_n 0, 1) := by decide +kernel
theorem dX1_enter_33 : decode cX1_enter 33 = .ok (.dup, 1) := by decide +kernel
theorem dX1_enter_34 : decode cX1_enter 34 = .ok (.getfield 18, 3) := by decide +kernel
theorem dX1_enter_37 : decode cX1_enter 37 = .ok (.iconst 1, 1) := by decide +kernel
theorem dX1_enter_38 : decode cX1_enter 38 = .ok (.iadd, 1) := by decide +kernel
theorem dX1_enter_39 : decode cX1_enter 39 = .ok (.putfield 18, 3) := by decide +kernel
theorem dX1_enter_42 : decode cX1_enter 42 = .ok (.aload_n 0, 1) := by decide +kernel
theorem dX1_enter_43 : decode cX1_enter 43 = .ok (.getfield 18, 3) := by decide +kernel
theorem dX1_enter_46 : decode cX1_enter 46 = .ok (.ireturn, 1) := by decide +kernel
theorem dX1_firstWrong_0 : decode cX1_firstWrong 0 = .ok (.iconst 0, 1) := by decide +kernel
theorem dX1_firstWrong_1 : decode cX1_firstWrong 1 = .ok (.istore_n 2, 1) := by decide +kernel
theorem dX1_firstWrong_2 : decode cX1_firstWrong 2 = .ok (.iload_n 2, 1) := by decide +kernel
theorem dX1_firstWrong_3 : decode cX1_firstWrong 3 = .ok (.aload_n 0, 1) := by decide +kernel
theorem dX1_firstWrong_4 : decode cX1_firstWrong 4 = .ok (.getfield 18, 3) := by decide +kernel
theorem dX1_firstWrong_7 : decode cX1_firstWrong 7 = .ok (.if_icmp .ge 31, 3) := by decide +kernel
theorem dX1_firstWrong_10 : decode cX1_firstWrong 10 = .ok (.aload_n 1, 1) := by decide +kernel
theorem dX1_firstWrong_11 : decode cX1_firstWrong 11 = .ok (.getfield 23, 3) := by decide +kernel
theorem dX1_firstWrong_14 : decode cX1_firstWrong 14 = .ok (.aload_n 0, 1) := by decide +kernel
theorem dX1_firstWrong_15 : decode cX1_firstWrong 15 = .ok (.getfield 9, 3) := by decide +kernel
theorem dX1_firstWrong_18 : decode cX1_firstWrong 18 = .ok (.iload_n 2, 1) := by decide +kernel
theorem dX1_firstWrong_19 : decode cX1_firstWrong 19 = .ok (.iaload, 1) := by decide +kernel
theorem dX1_firstWrong_20 : decode cX1_firstWrong 20 = .ok (.iaload, 1) := by decide +kernel
theorem dX1_firstWrong_21 : decode cX1_firstWrong 21 = .ok (.aload_n 0, 1) := by decide +kernel
theorem dX1_firstWrong_22 : decode cX1_firstWrong 22 = .ok (.getfield 15, 3) := by decide +kernel
theorem dX1_firstWrong_25 : decode cX1_firstWrong 25 = .ok (.iload_n 2, 1) := by decide +kernel
theorem dX1_firstWrong_26 : decode cX1_firstWrong 26 = .ok (.iaload, 1) := by decide +kernel
theorem dX1_firstWrong_27 : decode cX1_firstWrong 27 = .ok (.if_icmp .eq 5, 3) := by decide +kernel
theorem dX1_firstWrong_30 : decode cX1_firstWrong 30 = .ok (.iload_n 2, 1) := by decide +kernel
theorem dX1_firstWrong_31 : decode cX1_firstWrong 31 = .ok (.ireturn, 1) := by decide +kernel
theorem dX1_firstWrong_32 : decode cX1_firstWrong 32 = .ok (.iinc 2 1, 3) := by decide +kernel
theorem dX1_firstWrong_35 : decode cX1_firstWrong 35 = .ok (.goto (-33), 3) := by decide +kernel
theorem dX1_firstWrong_38 : decode cX1_firstWrong 38 = .ok (.iconst (-1), 1) := by decide +kernel
theorem dX1_firstWrong_39 : decode cX1_firstWrong 39 = .ok (.ireturn, 1) := by decide +kernel
theorem dX2_init_0 : decode cX2_init 0 = .ok (.aload_n 0, 1) := by decide +kernel
theorem dX2_init_1 : decode cX2_init 1 = .ok (.invokespecial 3, 3) := by decide +kernel
theorem dX2_init_4 : decode cX2_init 4 = .ok (.aload_n 0, 1) := by decide +kernel
theorem dX2_init_5 : decode cX2_init 5 = .ok (.iconst 5, 1) := by decide +kernel
theorem dX2_init_6 : decode cX2_init 6 = .ok (.newarray .int, 2) := by decide +kernel
theorem dX2_init_8 : decode cX2_init 8 = .ok (.putfield 9, 3) := by decide +kernel
theorem dX2_init_11 : decode cX2_init 11 = .ok (.aload_n 0, 1) := by decide +kernel
theorem dX2_init_12 : decode cX2_init 12 = .ok (.iconst 5, 1) := by decide +kernel
theorem dX2_init_13 : decode cX2_init 13 = .ok (.newarray .int, 2) := by decide +kernel
theorem dX2_init_15 : decode cX2_init 15 = .ok (.putfield 15, 3) := by decide +kernel
theorem dX2_init_18 : decode cX2_init 18 = .ok (.aload_n 0, 1) := by decide +kernel
theorem dX2_init_19 : decode cX2_init 19 = .ok (.iconst 5, 1) := by decide +kernel
theorem dX2_init_20 : decode cX2_init 20 = .ok (.newarray .int, 2) := by decide +kernel
theorem dX2_init_22 : decode cX2_init 22 = .ok (.putfield 18, 3) := by decide +kernel
theorem dX2_init_25 : decode cX2_init 25 = .ok (.aload_n 0, 1) := by decide +kernel
theorem dX2_init_26 : decode cX2_init 26 = .ok (.bipush 6, 2) := by decide +kernel
theorem dX2_init_28 : decode cX2_init 28 = .ok (.newarray .int, 2) := by decide +kernel
theorem dX2_init_30 : decode cX2_init 30 = .ok (.putfield 21, 3) := by decide +kernel
theorem dX2_init_33 : decode cX2_init 33 = .ok (.aload_n 0, 1) := by decide +kernel
theorem dX2_init_34 : decode cX2_init 34 = .ok (.bipush 6, 2) := by decide +kernel
theorem dX2_init_36 : decode cX2_init 36 = .ok (.newarray .int, 2) := by decide +kernel
theorem dX2_init_38 : decode cX2_init 38 = .ok (.putfield 24, 3) := by decide +kernel
theorem dX2_init_41 : decode cX2_init 41 = .ok (.aload_n 0, 1) := by decide +kernel
theorem dX2_init_42 : decode cX2_init 42 = .ok (.bipush 6, 2) := by decide +kernel
theorem dX2_init_44 : decode cX2_init 44 = .ok (.newarray .int, 2) := by decide +kernel
theorem dX2_init_46 : decode cX2_init 46 = .ok (.putfield 27, 3) := by decide +kernel
theorem dX2_init_49 : decode cX2_init 49 = .ok (.aload_n 0, 1) := by decide +kernel
theorem dX2_init_50 : decode cX2_init 50 = .ok (.bipush 6, 2) := by decide +kernel
theorem dX2_init_52 : decode cX2_init 52 = .ok (.newarray .int, 2) := by decide +kernel
theorem dX2_init_54 : decode cX2_init 54 = .ok (.putfield 30, 3) := by decide +kernel
theorem dX2_init_57 : decode cX2_init 57 = .ok (.aload_n 0, 1) := by decide +kernel
theorem dX2_init_58 : decode cX2_init 58 = .ok (.bipush 6, 2) := by decide +kernel
theorem dX2_init_60 : decode cX2_init 60 = .ok (.newarray .int, 2) := by decide +kernel
theorem dX2_init_62 : decode cX2_init 62 = .ok (.putfield 33, 3) := by decide +kernel
theorem dX2_init_65 : decode cX2_init 65 = .ok (.aload_n 0, 1) := by decide +kernel
theorem dX2_init_66 : decode cX2_init 66 = .ok (.iconst 4, 1) := by decide +kernel
theorem dX2_init_67 : decode cX2_init 67 = .ok (.newarray .int, 2) := by decide +kernel
theorem dX2_init_69 : decode cX2_init 69 = .ok (.putfield 36, 3) := by decide +kernel
theorem dX2_init_72 : decode cX2_init 72 = .ok (.aload_n 0, 1) := by decide +kernel
theorem dX2_init_73 : decode cX2_init 73 = .ok (.iconst 4, 1) := by decide +kernel
theorem dX2_init_74 : decode cX2_init 74 = .ok (.newarray .int, 2) := by decide +kernel
theorem dX2_init_76 : decode cX2_init 76 = .ok (.putfield 39, 3) := by decide +kernel
theorem dX2_init_79 : decode cX2_init 79 = .ok (.aload_n 0, 1) := by decide +kernel
theorem dX2_init_80 : decode cX2_init 80 = .ok (.iconst 4, 1) := by decide +kernel
theorem dX2_init_81 : decode cX2_init 81 = .ok (.newarray .int, 2) := by decide +kernel
theorem dX2_init_83 : decode cX2_init 83 = .ok (.putfield 42, 3) := by decide +kernel
theorem dX2_init_86 : decode cX2_init 86 = .ok (.aload_n 0, 1) := by decide +kernel
theorem dX2_init_87 : decode cX2_init 87 = .ok (.bipush 30, 2) := by decide +kernel
theorem dX2_init_89 : decode cX2_init 89 = .ok (.newarray .int, 2) := by decide +kernel
theorem dX2_init_91 : decode cX2_init 91 = .ok (.putfield 45, 3) := by decide +kernel
theorem dX2_init_94 : decode cX2_init 94 = .ok (.return_, 1) := by decide +kernel
theorem dX2_clear_0 : decode cX2_clear 0 = .ok (.aload_n 0, 1) := by decide +kernel
theorem dX2_clear_1 : decode cX2_clear 1 = .ok (.iconst 0, 1) := by decide +kernel
theorem dX2_clear_2 : decode cX2_clear 2 = .ok (.putfield 48, 3) := by decide +kernel
theorem dX2_clear_5 : decode cX2_clear 5 = .ok (.aload_n 0, 1) := by decide +kernel
theorem dX2_clear_6 : decode cX2_clear 6 = .ok (.iconst 0, 1) := by decide +kernel
theorem dX2_clear_7 : decode cX2_clear 7 = .ok (.putfield 52, 3) := by decide +kernel
theorem dX2_clear_10 : decode cX2_clear 10 = .ok (.aload_n 0, 1) := by decide +kernel
theorem dX2_clear_11 : decode cX2_clear 11 = .ok (.iconst 0, 1) := by decide +kernel
theorem dX2_clear_12 : decode cX2_clear 12 = .ok (.putfield 55, 3) := by decide +kernel
theorem dX2_clear_15 : decode cX2_clear 15 = .ok (.aload_n 0, 1) := by decide +kernel
theorem dX2_clear_16 : decode cX2_clear 16 = .ok (.iconst 0, 1) := by decide +kernel
theorem dX2_clear_17 : decode cX2_clear 17 = .ok (.putfield 58, 3) := by decide +kernel
theorem dX2_clear_20 : decode cX2_clear 20 = .ok (.aload_n 0, 1) := by decide +kernel
theorem dX2_clear_21 : decode cX2_clear 21 = .ok (.iconst 0, 1) := by decide +kernel
theorem dX2_clear_22 : decode cX2_clear 22 = .ok (.putfield 61, 3) := by decide +kernel
theorem dX2_clear_25 : decode cX2_clear 25 = .ok (.aload_n 0, 1) := by decide +kernel
theorem dX2_clear_26 : decode cX2_clear 26 = .ok (.iconst 0, 1) := by decide +kernel
theorem dX2_clear_27 : decode cX2_clear 27 = .ok (.putfield 64, 3) := by decide +kernel
theorem dX2_clear_30 : decode cX2_clear 30 = .ok (.iconst 0, 1) := by decide +kernel
theorem dX2_clear_31 : decode cX2_clear 31 = .ok (.istore_n 1, 1) := by decide +kernel
theorem dX2_clear_32 : decode cX2_clear 32 = .ok (.iload_n 1, 1) := by decide +kernel
theorem dX2_clear_33 : decode cX2_clear 33 = .ok (.bipush 6, 2) := by decide +kernel
theorem dX2_clear_35 : decode cX2_clear 35 = .ok (.if_icmp .ge 16, 3) := by decide +kernel
theorem dX2_clear_38 : decode cX2_clear 38 = .ok (.aload_n 0, 1) := by decide +kernel
theorem dX2_clear_39 : decode cX2_clear 39 = .ok (.getfield 21, 3) := by decide +kernel
theorem dX2_clear_42 : decode cX2_clear 42 = .ok (.iload_n 1, 1) := by decide +kernel
theorem dX2_clear_43 : decode cX2_clear 43 = .ok (.iconst 0, 1) := by decide +kernel
theorem dX2_clear_44 : decode cX2_clear 44 = .ok (.iastore, 1) := by decide +kernel
theorem dX2_clear_45 : decode cX2_clear 45 = .ok (.iinc 1 1, 3) := by decide +kernel
theorem dX2_clear_48 : decode cX2_clear 48 = .ok (.goto (-16), 3) := by decide +kernel
theorem dX2_clear_51 : decode cX2_clear 51 = .ok (.iconst 0, 1) := by decide +kernel
theorem dX2_clear_52 : decode cX2_clear 52 = .ok (.istore_n 1, 1) := by decide +kernel
theorem dX2_clear_53 : decode cX2_clear 53 = .ok (.iload_n 1, 1) := by decide +kernel
theorem dX2_clear_54 : decode cX2_clear 54 = .ok (.bipush 30, 2) := by decide +kernel
theorem dX2_clear_56 : decode cX2_clear 56 = .ok (.if_icmp .ge 16, 3) := by decide +kernel
theorem dX2_clear_59 : decode cX2_clear 59 = .ok (.aload_n 0, 1) := by decide +kernel
theorem dX2_clear_60 : decode cX2_clear 60 = .ok (.getfield 45, 3) := by decide +kernel
theorem dX2_clear_63 : decode cX2_clear 63 = .ok (.iload_n 1, 1) := by decide +kernel
theorem dX2_clear_64 : decode cX2_clear 64 = .ok (.iconst 0, 1) := by decide +kernel
theorem dX2_clear_65 : decode cX2_clear 65 = .ok (.iastore, 1) := by decide +kernel
theorem dX2_clear_66 : decode cX2_clear 66 = .ok (.iinc 1 1, 3) := by decide +kernel
theorem dX2_clear_69 : decode cX2_clear 69 = .ok (.goto (-16), 3) := by decide +kernel
theorem dX2_clear_72 : decode cX2_clear 72 = .ok (.return_, 1) := by decide +kernel
theorem dX2_readsAs_0 : decode cX2_readsAs 0 = .ok (.aload_n 0, 1) := by decide +kernel
theorem dX2_readsAs_1 : decode cX2_readsAs 1 = .ok (.getfield 9, 3) := by decide +kernel
theorem dX2_readsAs_4 : decode cX2_readsAs 4 = .ok (.iload_n 1, 1) := by decide +kernel
theorem dX2_readsAs_5 : decode cX2_readsAs 5 = .ok (.iaload, 1) := by decide +kernel
theorem dX2_readsAs_6 : decode cX2_readsAs 6 = .ok (.iconst 1, 1) := by decide +kernel
theorem dX2_readsAs_7 : decode cX2_readsAs 7 = .ok (.if_icmp .ne 5, 3) := by decide +kernel
theorem dX2_readsAs_10 : decode cX2_readsAs 10 = .ok (.iconst 0, 1) := by decide +kernel
theorem dX2_readsAs_11 : decode cX2_readsAs 11 = .ok (.ireturn, 1) := by decide +kernel
theorem dX2_readsAs_12 : decode cX2_readsAs 12 = .ok (.aload_n 0, 1) := by decide +kernel
theorem dX2_readsAs_13 : decode cX2_readsAs 13 = .ok (.getfield 9, 3) := by decide +kernel
theorem dX2_readsAs_16 : decode cX2_readsAs 16 = .ok (.iload_n 1, 1) := by decide +kernel
theorem dX2_readsAs_17 : decode cX2_readsAs 17 = .ok (.iaload, 1) := by decide +kernel
theorem dX2_readsAs_18 : decode cX2_readsAs 18 = .ok (.iconst 2, 1) := by decide +kernel
theorem dX2_readsAs_19 : decode cX2_readsAs 19 = .ok (.if_icmp .ne 16, 3) := by decide +kernel
theorem dX2_readsAs_22 : decode cX2_readsAs 22 = .ok (.bipush 99, 2) := by decide +kernel
theorem dX2_readsAs_24 : decode cX2_readsAs 24 = .ok (.iload_n 2, 1) := by decide +kernel
theorem dX2_readsAs_25 : decode cX2_readsAs 25 = .ok (.iload_n 2, 1) := by decide +kernel
theorem dX2_readsAs_26 : decode cX2_readsAs 26 = .ok (.iconst 2, 1) := by decide +kernel
theorem dX2_readsAs_27 : decode cX2_readsAs 27 = .ok (.idiv, 1) := by decide +kernel
theorem dX2_readsAs_28 : decode cX2_readsAs 28 = .ok (.iadd, 1) := by decide +kernel
theorem dX2_readsAs_29 : decode cX2_readsAs 29 = .ok (.invokestatic 67, 3) := by decide +kernel
theorem dX2_readsAs_32 : decode cX2_readsAs 32 = .ok (.goto 4, 3) := by decide +kernel
theorem dX2_readsAs_35 : decode cX2_readsAs 35 = .ok (.iload_n 2, 1) := by decide +kernel
theorem dX2_readsAs_36 : decode cX2_readsAs 36 = .ok (.ireturn, 1) := by decide +kernel
theorem dX2_tricksOf_0 : decode cX2_tricksOf 0 = .ok (.iconst 0, 1) := by decide +kernel
theorem dX2_tricksOf_1 : decode cX2_tricksOf 1 = .ok (.istore_n 2, 1) := by decide +kernel
theorem dX2_tricksOf_2 : decode cX2_tricksOf 2 = .ok (.iconst 0, 1) := by decide +kernel
theorem dX2_tricksOf_3 : decode cX2_tricksOf 3 = .ok (.istore_n 3, 1) := by decide +kernel
theorem dX2_tricksOf_4 : decode cX2_tricksOf 4 = .ok (.iload_n 3, 1) := by decide +kernel
theorem dX2_tricksOf_5 : decode cX2_tricksOf 5 = .ok (.aload_n 0, 1) := by decide +kernel
theorem dX2_tricksOf_6 : decode cX2_tricksOf 6 = .ok (.getfield 61, 3) := by decide +kernel
theorem dX2_tricksOf_9 : decode cX2_tricksOf 9 = .ok (.if_icmp .ge 25, 3) := by decide +kernel
theorem dX2_tricksOf_12 : decode cX2_tricksOf 12 = .ok (.aload_n 0, 1) := by decide +kernel
theorem dX2_tricksOf_13 : decode cX2_tricksOf 13 = .ok (.getfield 36, 3) := by decide +kernel
theorem dX2_tricksOf_16 : decode cX2_tricksOf 16 = .ok (.iload_n 3, 1) := by decide +kernel
theorem dX2_tricksOf_17 : decode cX2_tricksOf 17 = .ok (.iaload, 1) := by decide +kernel
theorem dX2_tricksOf_18 : decode cX2_tricksOf 18 = .ok (.iload_n 1, 1) := by decide +kernel
theorem dX2_tricksOf_19 : decode cX2_tricksOf 19 = .ok (.if_icmp .ne 9, 3) := by decide +kernel
theorem dX2_tricksOf_22 : decode cX2_tricksOf 22 = .ok (.iload_n 2, 1) := by decide +kernel
theorem dX2_tricksOf_23 : decode cX2_tricksOf 23 = .ok (.iconst 1, 1) := by decide +kernel
theorem dX2_tricksOf_24 : decode cX2_tricksOf 24 = .ok (.iload_n 3, 1) := by decide +kernel
theorem dX2_tricksOf_25 : decode cX2_tricksOf 25 = .ok (.ishl, 1) := by decide +kernel
theorem dX2_tricksOf_26 : decode cX2_tricksOf 26 = .ok (.ior, 1) := by decide +kernel
theorem dX2_tricksOf_27 : decode cX2_tricksOf 27 = .ok (.istore_n 2, 1) := by decide +kernel
theorem dX2_tricksOf_28 : decode cX2_tricksOf 28 = .ok (.iinc 3 1, 3) := by decide +kernel
theorem dX2_tricksOf_31 : decode cX2_tricksOf 31 = .ok (.goto (-27), 3) := by decide +kernel
theorem dX2_tricksOf_34 : decode cX2_tricksOf 34 = .ok (.iload_n 2, 1) := by decide +kernel
theorem dX2_tricksOf_35 : decode cX2_tricksOf 35 = .ok (.ireturn, 1) := by decide +kernel
theorem dX2_worthOf_0 : decode cX2_worthOf 0 = .ok (.aload_n 0, 1) := by decide +kernel
theorem dX2_worthOf_1 : decode cX2_worthOf 1 = .ok (.aload_n 0, 1) := by decide +kernel
theorem dX2_worthOf_2 : decode cX2_worthOf 2 = .ok (.getfield 30, 3) := by decide +kernel
theorem dX2_worthOf_5 : decode cX2_worthOf 5 = .ok (.iload_n 1, 1) := by decide +kernel
theorem dX2_worthOf_6 : decode cX2_worthOf 6 = .ok (.invokevirtual 73, 3) := by decide +kernel
theorem dX2_worthOf_9 : decode cX2_worthOf 9 = .ok (.ireturn, 1) := by decide +kernel
theorem dX2_fameOf_0 : decode cX2_fameOf 0 = .ok (.aload_n 0, 1) := by decide +kernel
theorem dX2_fameOf_1 : decode cX2_fameOf 1 = .ok (.aload_n 0, 1) := by decide +kernel
theorem dX2_fameOf_2 : decode cX2_fameOf 2 = .ok (.getfield 33, 3) := by decide +kernel
theorem dX2_fameOf_5 : decode cX2_fameOf 5 = .ok (.iload_n 1, 1) := by decide +kernel
theorem dX2_fameOf_6 : decode cX2_fameOf 6 = .ok (.invokevirtual 73, 3) := by decide +kernel
theorem dX2_fameOf_9 : decode cX2_fameOf 9 = .ok (.ireturn, 1) := by decide +kernel
theorem dX2_together_0 : decode cX2_together 0 = .ok (.iconst 0, 1) := by decide +kernel
theorem dX2_together_1 : decode cX2_together 1 = .ok (.istore_n 3, 1) := by decide +kernel
theorem dX2_together_2 : decode cX2_together 2 = .ok (.iconst 0, 1) := by decide +kernel
theorem dX2_together_3 : decode cX2_together 3 = .ok (.istore 4, 2) := by decide +kernel
theorem dX2_together_5 : decode cX2_together 5 = .ok (.iload 4, 2) := by decide +kernel
theorem dX2_together_7 : decode cX2_together 7 = .ok (.aload_n 0, 1) := by decide +kernel
theorem dX2_together_8 : decode cX2_together 8 = .ok (.getfield 58, 3) := by decide +kernel
theorem dX2_together_11 : decode cX2_together 11 = .ok (.if_icmp .ge 25, 3) := by decide +kernel
theorem dX2_together_14 : decode cX2_together 14 = .ok (.iload_n 2, 1) := by decide +kernel
theorem dX2_together_15 : decode cX2_together 15 = .ok (.iload 4, 2) := by decide +kernel
theorem dX2_together_17 : decode cX2_together 17 = .ok (.invokestatic 77, 3) := by decide +kernel
theorem dX2_together_20 : decode cX2_together 20 = .ok (.ifCond .eq 10, 3) := by decide +kernel
theorem dX2_together_23 : decode cX2_together 23 = .ok (.iload_n 3, 1) := by decide +kernel
theorem dX2_together_24 : decode cX2_together 24 = .ok (.aload_n 1, 1) := by decide +kernel
theorem dX2_together_25 : decode cX2_together 25 = .ok (.iload 4, 2) := by decide +kernel
theorem dX2_together_27 : decode cX2_together 27 = .ok (.iaload, 1) := by decide +kernel
theorem dX2_together_28 : decode cX2_together 28 = .ok (.iadd, 1) := by decide +kernel
theorem dX2_together_29 : decode cX2_together 29 = .ok (.istore_n 3, 1) := by decide +kernel
theorem dX2_together_30 : decode cX2_together 30 = .ok (.iinc 4 1, 3) := by decide +kernel
theorem dX2_together_33 : decode cX2_together 33 = .ok (.goto (-28), 3) := by decide +kernel
theorem dX2_together_36 : decode cX2_together 36 = .ok (.iload_n 3, 1) := by decide +kernel
theorem dX2_together_37 : decode cX2_together 37 = .ok (.ireturn, 1) := by decide +kernel
theorem dX2_passes_0 : decode cX2_passes 0 = .ok (.aload_n 0, 1) := by decide +kernel
theorem dX2_passes_1 : decode cX2_passes 1 = .ok (.getfield 9, 3) := by decide +kernel
theorem dX2_passes_4 : decode cX2_passes 4 = .ok (.iload_n 1, 1) := by decide +kernel
theorem dX2_passes_5 : decode cX2_passes 5 = .ok (.iaload, 1) := by decide +kernel
theorem dX2_passes_6 : decode cX2_passes 6 = .ok (.iconst 4, 1) := by decide +kernel
theorem dX2_passes_7 : decode cX2_passes 7 = .ok (.if_icmp .ne 5, 3) := by decide +kernel
theorem dX2_passes_10 : decode cX2_passes 10 = .ok (.iconst 0, 1) := by decide +kernel
theorem dX2_passes_11 : decode cX2_passes 11 = .ok (.ireturn, 1) := by decide +kernel
theorem dX2_passes_12 : decode cX2_passes 12 = .ok (.iload 4, 2) := by decide +kernel
theorem dX2_passes_14 : decode cX2_passes 14 = .ok (.aload_n 0, 1) := by decide +kernel
theorem dX2_passes_15 : decode cX2_passes 15 = .ok (.getfield 27, 3) := by decide +kernel
theorem dX2_passes_18 : decode cX2_passes 18 = .ok (.iload_n 2, 1) := by decide +kernel
theorem dX2_passes_19 : decode cX2_passes 19 = .ok (.iaload, 1) := by decide +kernel
theorem dX2_passes_20 : decode cX2_passes 20 = .ok (.if_icmp .gt 20, 3) := by decide +kernel
theorem dX2_passes_23 : decode cX2_passes 23 = .ok (.aload_n 0, 1) := by decide +kernel
theorem dX2_passes_24 : decode cX2_passes 24 = .ok (.getfield 15, 3) := by decide +kernel
theorem dX2_passes_27 : decode cX2_passes 27 = .ok (.iload_n 1, 1) := by decide +kernel
theorem dX2_passes_28 : decode cX2_passes 28 = .ok (.iaload, 1) := by decide +kernel
theorem dX2_passes_29 : decode cX2_passes 29 = .ok (.aload_n 0, 1) := by decide +kernel
theorem dX2_passes_30 : decode cX2_passes 30 = .ok (.iload_n 2, 1) := by decide +kernel
theorem dX2_passes_31 : decode cX2_passes 31 = .ok (.iload_n 3, 1) := by decide +kernel
theorem dX2_passes_32 : decode cX2_passes 32 = .ok (.iload 4, 2) := by decide +kernel
theorem dX2_passes_34 : decode cX2_passes 34 = .ok (.invokevirtual 81, 3) := by decide +kernel
theorem dX2_passes_37 : decode cX2_passes 37 = .ok (.if_icmp .lt 7, 3) := by decide +kernel
theorem dX2_passes_40 : decode cX2_passes 40 = .ok (.iconst 1, 1) := by decide +kernel
theorem dX2_passes_41 : decode cX2_passes 41 = .ok (.goto 4, 3) := by decide +kernel
theorem dX2_passes_44 : decode cX2_passes 44 = .ok (.iconst 0, 1) := by decide +kernel
theorem dX2_passes_45 : decode cX2_passes 45 = .ok (.ireturn, 1) := by decide +kernel
theorem dX2_dangerLeft_0 : decode cX2_dangerLeft 0 = .ok (.aload_n 0, 1) := by decide +kernel
theorem dX2_dangerLeft_1 : decode cX2_dangerLeft 1 = .ok (.getfield 27, 3) := by decide +kernel
theorem dX2_dangerLeft_4 : decode cX2_dangerLeft 4 = .ok (.iload_n 1, 1) := by decide +kernel
theorem dX2_dangerLeft_5 : decode cX2_dangerLeft 5 = .ok (.iaload, 1) := by decide +kernel
theorem dX2_dangerLeft_6 : decode cX2_dangerLeft 6 = .ok (.istore 4, 2) := by decide +kernel
theorem dX2_dangerLeft_8 : decode cX2_dangerLeft 8 = .ok (.iconst 0, 1) := by decide +kernel
theorem dX2_dangerLeft_9 : decode cX2_dangerLeft 9 = .ok (.istore 5, 2) := by decide +kernel
theorem dX2_dangerLeft_11 : decode cX2_dangerLeft 11 = .ok (.iload 5, 2) := by decide +kernel
theorem dX2_dangerLeft_13 : decode cX2_dangerLeft 13 = .ok (.aload_n 0, 1) := by decide +kernel
theorem dX2_dangerLeft_14 : decode cX2_dangerLeft 14 = .ok (.getfield 61, 3) := by decide +kernel
theorem dX2_dangerLeft_17 : decode cX2_dangerLeft 17 = .ok (.if_icmp .ge 45, 3) := by decide +kernel
theorem dX2_dangerLeft_20 : decode cX2_dangerLeft 20 = .ok (.iload_n 2, 1) := by decide +kernel
theorem dX2_dangerLeft_21 : decode cX2_dangerLeft 21 = .ok (.iload 5, 2) := by decide +kernel
theorem dX2_dangerLeft_23 : decode cX2_dangerLeft 23 = .ok (.invokestatic 77, 3) := by decide +kernel
theorem dX2_dangerLeft_26 : decode cX2_dangerLeft 26 = .ok (.ifCond .eq 30, 3) := by decide +kernel
theorem dX2_dangerLeft_29 : decode cX2_dangerLeft 29 = .ok (.aload_n 0, 1) := by decide +kernel
theorem dX2_dangerLeft_30 : decode cX2_dangerLeft 30 = .ok (.getfield 42, 3) := by decide +kernel
theorem dX2_dangerLeft_33 : decode cX2_dangerLeft 33 = .ok (.iload 5, 2) := by decide +kernel
theorem dX2_dangerLeft_35 : decode cX2_dangerLeft 35 = .ok (.iaload, 1) := by decide +kernel
theorem dX2_dangerLeft_36 : decode cX2_dangerLeft 36 = .ok (.iload_n 3, 1) := by decide +kernel
theorem dX2_dangerLeft_37 : decode cX2_dangerLeft 37 = .ok (.if_icmp .gt 19, 3) := by decide +kernel
theorem dX2_dangerLeft_40 : decode cX2_dangerLeft 40 = .ok (.iconst 0, 1) := by decide +kernel
theorem dX2_dangerLeft_41 : decode cX2_dangerLeft 41 = .ok (.iload 4, 2) := by decide +kernel
theorem dX2_dangerLeft_43 : decode cX2_dangerLeft 43 = .ok (.aload_n 0, 1) := by decide +kernel
theorem dX2_dangerLeft_44 : decode cX2_dangerLeft 44 = .ok (.getfield 39, 3) := by decide +kernel
theorem dX2_dangerLeft_47 : decode cX2_dangerLeft 47 = .ok (.iload 5, 2) := by decide +kernel
theorem dX2_dangerLeft_49 : decode cX2_dangerLeft 49 = .ok (.iaload, 1) := by decide +kernel
theorem dX2_dangerLeft_50 : decode cX2_dangerLeft 50 = .ok (.isub, 1) := by decide +kernel
theorem dX2_dangerLeft_51 : decode cX2_dangerLeft 51 = .ok (.invokestatic 85, 3) := by decide +kernel
theorem dX2_dangerLeft_54 : decode cX2_dangerLeft 54 = .ok (.istore 4, 2) := by decide +kernel
theorem dX2_dangerLeft_56 : decode cX2_dangerLeft 56 = .ok (.iinc 5 1, 3) := by decide +kernel
theorem dX2_dangerLeft_59 : decode cX2_dangerLeft 59 = .ok (.goto (-48), 3) := by decide +kernel
theorem dX2_dangerLeft_62 : decode cX2_dangerLeft 62 = .ok (.iload 4, 2) := by decide +kernel
theorem dX2_dangerLeft_64 : decode cX2_dangerLeft 64 = .ok (.ireturn, 1) := by decide +kernel
theorem dX3_init_0 : decode cX3_init 0 = .ok (.aload_n 0, 1) := by decide +kernel
theorem dX3_init_1 : decode cX3_init 1 = .ok (.invokespecial 3, 3) := by decide +kernel
theorem dX3_init_4 : decode cX3_init 4 = .ok (.aload_n 0, 1) := by decide +kernel
theorem dX3_init_5 : decode cX3_init 5 = .ok (.bipush 6, 2) := by decide +kernel
theorem dX3_init_7 : decode cX3_init 7 = .ok (.newarray .int, 2) := by decide +kernel
theorem dX3_init_9 : decode cX3_init 9 = .ok (.putfield 9, 3) := by decide +kernel
theorem dX3_init_12 : decode cX3_init 12 = .ok (.aload_n 0, 1) := by decide +kernel
theorem dX3_init_13 : decode cX3_init 13 = .ok (.bipush 6, 2) := by decide +kernel
theorem dX3_init_15 : decode cX3_init 15 = .ok (.newarray .int, 2) := by decide +kernel
theorem dX3_init_17 : decode cX3_init 17 = .ok (.putfield 15, 3) := by decide +kernel
theorem dX3_init_20 : decode cX3_init 20 = .ok (.return_, 1) := by decide +kernel
theorem dX3_walk_0 : decode cX3_walk 0 = .ok (.aload_n 0, 1) := by decide +kernel
theorem dX3_walk_1 : decode cX3_walk 1 = .ok (.iconst 0, 1) := by decide +kernel
theorem dX3_walk_2 : decode cX3_walk 2 = .ok (.putfield 18, 3) := by decide +kernel
theorem dX3_walk_5 : decode cX3_walk 5 = .ok (.aload_n 0, 1) := by decide +kernel
theorem dX3_walk_6 : decode cX3_walk 6 = .ok (.iconst 0, 1) := by decide +kernel
theorem dX3_walk_7 : decode cX3_walk 7 = .ok (.putfield 22, 3) := by decide +kernel
theorem dX3_walk_10 : decode cX3_walk 10 = .ok (.iconst 0, 1) := by decide +kernel
theorem dX3_walk_11 : decode cX3_walk 11 = .ok (.istore 4, 2) := by decide +kernel
theorem dX3_walk_13 : decode cX3_walk 13 = .ok (.iload 4, 2) := by decide +kernel
theorem dX3_walk_15 : decode cX3_walk 15 = .ok (.bipush 6, 2) := by decide +kernel
theorem dX3_walk_17 : decode cX3_walk 17 = .ok (.if_icmp .ge 25, 3) := by decide +kernel
theorem dX3_walk_20 : decode cX3_walk 20 = .ok (.aload_n 0, 1) := by decide +kernel
theorem dX3_walk_21 : decode cX3_walk 21 = .ok (.getfield 18, 3) := by decide +kernel
theorem dX3_walk_24 : decode cX3_walk 24 = .ok (.iload 4, 2) := by decide +kernel
theorem dX3_walk_26 : decode cX3_walk 26 = .ok (.if_icmp .ne 16, 3) := by decide +kernel
theorem dX3_walk_29 : decode cX3_walk 29 = .ok (.aload_n 0, 1) := by decide +kernel
theorem dX3_walk_30 : decode cX3_walk 30 = .ok (.aload_n 1, 1) := by decide +kernel
theorem dX3_walk_31 : decode cX3_walk 31 = .ok (.aload_n 2, 1) := by decide +kernel
theorem dX3_walk_32 : decode cX3_walk 32 = .ok (.iload_n 3, 1) := by decide +kernel
theorem dX3_walk_33 : decode cX3_walk 33 = .ok (.invokevirtual 25, 3) := by decide +kernel
theorem dX3_walk_36 : decode cX3_walk 36 = .ok (.iinc 4 1, 3) := by decide +kernel
theorem dX3_walk_39 : decode cX3_walk 39 = .ok (.goto (-26), 3) := by decide +kernel
theorem dX3_walk_42 : decode cX3_walk 42 = .ok (.return_, 1) := by decide +kernel
theorem dX3_lengthOfPlan_0 : decode cX3_lengthOfPlan 0 = .ok (.aload_n 0, 1) := by decide +kernel
theorem dX3_lengthOfPlan_1 : decode cX3_lengthOfPlan 1 = .ok (.getfield 18, 3) := by decide +kernel
theorem dX3_lengthOfPlan_4 : decode cX3_lengthOfPlan 4 = .ok (.istore_n 2, 1) := by decide +kernel
theorem dX3_lengthOfPlan_5 : decode cX3_lengthOfPlan 5 = .ok (.iload_n 2, 1) := by decide +kernel
theorem dX3_lengthOfPlan_6 : decode cX3_lengthOfPlan 6 = .ok (.ifCond .le 27, 3) := by decide +kernel
theorem dX3_lengthOfPlan_9 : decode cX3_lengthOfPlan 9 = .ok (.aload_n 1, 1) := by decide +kernel
theorem dX3_lengthOfPlan_10 : decode cX3_lengthOfPlan 10 = .ok (.getfield 29, 3) := by decide +kernel
theorem dX3_lengthOfPlan_13 : decode cX3_lengthOfPlan 13 = .ok (.aload_n 0, 1) := by decide +kernel
theorem dX3_lengthOfPlan_14 : decode cX3_lengthOfPlan 14 = .ok (.getfield 9, 3) := by decide +kernel
theorem dX3_lengthOfPlan_17 : decode cX3_lengthOfPlan 17 = .ok (.iload_n 2, 1) := by decide +kernel
theorem dX3_lengthOfPlan_18 : decode cX3_lengthOfPlan 18 = .ok (.iconst 1, 1) := by decide +kernel
theorem dX3_lengthOfPlan_19 : decode cX3_lengthOfPlan 19 = .ok (.isub, 1) := by decide +kernel
theorem dX3_lengthOfPlan_20 : decode cX3_lengthOfPlan 20 = .ok (.iaload, 1) := by decide +kernel
theorem dX3_lengthOfPlan_21 : decode cX3_lengthOfPlan 21 = .ok (.iaload, 1) := by decide +kernel
theorem dX3_lengthOfPlan_22 : decode cX3_lengthOfPlan 22 = .ok (.ifCond .le 5, 3) := by decide +kernel
theorem dX3_lengthOfPlan_25 : decode cX3_lengthOfPlan 25 = .ok (.iload_n 2, 1) := by decide +kernel
theorem dX3_lengthOfPlan_26 : decode cX3_lengthOfPlan 26 = .ok (.ireturn, 1) := by decide +kernel
theorem dX3_lengthOfPlan_27 : decode cX3_lengthOfPlan 27 = .ok (.iinc 2 (-1), 3) := by decide +kernel
theorem dX3_lengthOfPlan_30 : decode cX3_lengthOfPlan 30 = .ok (.goto (-25), 3) := by decide +kernel
theorem dX3_lengthOfPlan_33 : decode cX3_lengthOfPlan 33 = .ok (.iconst 0, 1) := by decide +kernel
theorem dX3_lengthOfPlan_34 : decode cX3_lengthOfPlan 34 = .ok (.ireturn, 1) := by decide +kernel
theorem dX3_step_0 : decode cX3_step 0 = .ok (.aload_n 0, 1) := by decide +kernel
theorem dX3_step_1 : decode cX3_step 1 = .ok (.getfield 22, 3) := by decide +kernel
theorem dX3_step_4 : decode cX3_step 4 = .ok (.aload_n 2, 1) := by decide +kernel
theorem dX3_step_5 : decode cX3_step 5 = .ok (.getfield 34, 3) := by decide +kernel
theorem dX3_step_8 : decode cX3_step 8 = .ok (.iload_n 3, 1) := by decide +kernel
theorem dX3_step_9 : decode cX3_step 9 = .ok (.iaload, 1) := by decide +kernel
theorem dX3_step_10 : decode cX3_step 10 = .ok (.ior, 1) := by decide +kernel
theorem dX3_step_11 : decode cX3_step 11 = .ok (.istore 4, 2) := by decide +kernel
theorem dX3_step_13 : decode cX3_step 13 = .ok (.aload_n 1, 1) := by decide +kernel
theorem dX3_step_14 : decode cX3_step 14 = .ok (.aload_n 0, 1) := by decide +kernel
theorem dX3_step_15 : decode cX3_step 15 = .ok (.getfield 22, 3) := by decide +kernel
theorem dX3_step_18 : decode cX3_step 18 = .ok (.invokevirtual 39, 3) := by decide +kernel
theorem dX3_step_21 : decode cX3_step 21 = .ok (.istore 5, 2) := by decide +kernel
theorem dX3_step_23 : decode cX3_step 23 = .ok (.iconst 0, 1) := by decide +kernel
theorem dX3_step_24 : decode cX3_step 24 = .ok (.istore 6, 2) := by decide +kernel
theorem dX3_step_26 : decode cX3_step 26 = .ok (.iload 6, 2) := by decide +kernel
theorem dX3_step_28 : decode cX3_step 28 = .ok (.aload_n 1, 1) := by decide +kernel
theorem dX3_step_29 : decode cX3_step 29 = .ok (.getfield 43, 3) := by decide +kernel
theorem dX3_step_32 : decode cX3_step 32 = .ok (.if_icmp .ge 126, 3) := by decide +kernel
theorem dX3_step_35 : decode cX3_step 35 = .ok (.iload 4, 2) := by decide +kernel
theorem dX3_step_37 : decode cX3_step 37 = .ok (.iload 6, 2) := by decide +kernel
theorem dX3_step_39 : decode cX3_step 39 = .ok (.invokestatic 46, 3) := by decide +kernel
theorem dX3_step_42 : decode cX3_step 42 = .ok (.ifCond .eq 6, 3) := by decide +kernel
theorem dX3_step_45 : decode cX3_step 45 = .ok (.goto 107, 3) := by decide +kernel
theorem dX3_step_48 : decode cX3_step 48 = .ok (.bipush 99, 2) := by decide +kernel
theorem dX3_step_50 : decode cX3_step 50 = .ok (.aload_n 2, 1) := by decide +kernel
theorem dX3_step_51 : decode cX3_step 51 = .ok (.getfield 50, 3) := by decide +kernel
theorem dX3_step_54 : decode cX3_step 54 = .ok (.aload_n 1, 1) := by decide +kernel
theorem dX3_step_55 : decode cX3_step 55 = .ok (.getfield 53, 3) := by decide +kernel
theorem dX3_step_58 : decode cX3_step 58 = .ok (.iload 6, 2) := by decide +kernel
theorem dX3_step_60 : decode cX3_step 60 = .ok (.iaload, 1) := by decide +kernel
theorem dX3_step_61 : decode cX3_step 61 = .ok (.iload_n 3, 1) := by decide +kernel
theorem dX3_step_62 : decode cX3_step 62 = .ok (.invokestatic 56, 3) := by decide +kernel
theorem dX3_step_65 : decode cX3_step 65 = .ok (.iaload, 1) := by decide +kernel
theorem dX3_step_66 : decode cX3_step 66 = .ok (.iload 5, 2) := by decide +kernel
theorem dX3_step_68 : decode cX3_step 68 = .ok (.iadd, 1) := by decide +kernel
theorem dX3_step_69 : decode cX3_step 69 = .ok (.invokestatic 60, 3) := by decide +kernel
theorem dX3_step_72 : decode cX3_step 72 = .ok (.istore 7, 2) := by decide +kernel
theorem dX3_step_74 : decode cX3_step 74 = .ok (.aload_n 1, 1) := by decide +kernel
theorem dX3_step_75 : decode cX3_step 75 = .ok (.iload_n 3, 1) := by decide +kernel
theorem dX3_step_76 : decode cX3_step 76 = .ok (.iload 6, 2) := by decide +kernel
theorem dX3_step_78 : decode cX3_step 78 = .ok (.aload_n 1, 1) := by decide +kernel
theorem dX3_step_79 : decode cX3_step 79 = .ok (.iload 6, 2) := by decide +kernel
theorem dX3_step_81 : decode cX3_step 81 = .ok (.invokevirtual 65, 3) := by decide +kernel
theorem dX3_step_84 : decode cX3_step 84 = .ok (.aload_n 2, 1) := by decide +kernel
theorem dX3_step_85 : decode cX3_step 85 = .ok (.getfield 68, 3) := by decide +kernel
theorem dX3_step_88 : decode cX3_step 88 = .ok (.iload_n 3, 1) := by decide +kernel
theorem dX3_step_89 : decode cX3_step 89 = .ok (.iaload, 1) := by decide +kernel
theorem dX3_step_90 : decode cX3_step 90 = .ok (.iconst (-1), 1) := by decide +kernel
theorem dX3_step_91 : decode cX3_step 91 = .ok (.ixor, 1) := by decide +kernel
theorem dX3_step_92 : decode cX3_step 92 = .ok (.iand, 1) := by decide +kernel
theorem dX3_step_93 : decode cX3_step 93 = .ok (.iload 7, 2) := by decide +kernel
theorem dX3_step_95 : decode cX3_step 95 = .ok (.invokestatic 71, 3) := by decide +kernel
theorem dX3_step_98 : decode cX3_step 98 = .ok (.istore 8, 2) := by decide +kernel
theorem dX3_step_100 : decode cX3_step 100 = .ok (.iload 8, 2) := by decide +kernel
theorem dX3_step_102 : decode cX3_step 102 = .ok (.iconst (-1), 1) := by decide +kernel
theorem dX3_step_103 : decode cX3_step 103 = .ok (.if_icmp .eq 49, 3) := by decide +kernel
theorem dX3_step_106 : decode cX3_step 106 = .ok (.aload_n 0, 1) := by decide +kernel
theorem dX3_step_107 : decode cX3_step 107 = .ok (.getfield 9, 3) := by decide +kernel
theorem dX3_step_110 : decode cX3_step 110 = .ok (.aload_n 0, 1) := by decide +kernel
theorem dX3_step_111 : decode cX3_step 111 = .ok (.getfield 18, 3) := by decide +kernel
theorem dX3_step_114 : decode cX3_step 114 = .ok (.iload 6, 2) := by decide +kernel
theorem dX3_step_116 : decode cX3_step 116 = .ok (.iastore, 1) := by decide +kernel
theorem dX3_step_117 : decode cX3_step 117 = .ok (.aload_n 0, 1) := by decide +kernel
theorem dX3_step_118 : decode cX3_step 118 = .ok (.getfield 15, 3) := by decide +kernel
theorem dX3_step_121 : decode cX3_step 121 = .ok (.aload_n 0, 1) := by decide +kernel
theorem dX3_step_122 : decode cX3_step 122 = .ok (.getfield 18, 3) := by decide +kernel
theorem dX3_step_125 : decode cX3_step 125 = .ok (.iload 8, 2) := by decide +kernel
theorem dX3_step_127 : decode cX3_step 127 = .ok (.iastore, 1) := by decide +kernel
theorem dX3_step_128 : decode cX3_step 128 = .ok (.aload_n 0, 1) := by decide +kernel
theorem dX3_step_129 : decode cX3_step 129 = .ok (.dup, 1) := by decide +kernel
theorem dX3_step_130 : decode cX3_step 130 = .ok (.getfield 18, 3) := by decide +kernel
theorem dX3_step_133 : decode cX3_step 133 = .ok (.iconst 1, 1) := by decide +kernel
theorem dX3_step_134 : decode cX3_step 134 = .ok (.iadd, 1) := by decide +kernel
theorem dX3_step_135 : decode cX3_step 135 = .ok (.putfield 18, 3) := by decide +kernel
theorem dX3_step_138 : decode cX3_step 138 = .ok (.aload_n 0, 1) := by decide +kernel
theorem dX3_step_139 : decode cX3_step 139 = .ok (.dup, 1) := by decide +kernel
theorem dX3_step_140 : decode cX3_step 140 = .ok (.getfield 22, 3) := by decide +kernel
theorem dX3_step_143 : decode cX3_step 143 = .ok (.iconst 1, 1) := by decide +kernel
theorem dX3_step_144 : decode cX3_step 144 = .ok (.iload 6, 2) := by decide +kernel
theorem dX3_step_146 : decode cX3_step 146 = .ok (.ishl, 1) := by decide +kernel
theorem dX3_step_147 : decode cX3_step 147 = .ok (.ior, 1) := by decide +kernel
theorem dX3_step_148 : decode cX3_step 148 = .ok (.putfield 22, 3) := by decide +kernel
theorem dX3_step_151 : decode cX3_step 151 = .ok (.return_, 1) := by decide +kernel
theorem dX3_step_152 : decode cX3_step 152 = .ok (.iinc 6 1, 3) := by decide +kernel
theorem dX3_step_155 : decode cX3_step 155 = .ok (.goto (-129), 3) := by decide +kernel
theorem dX3_step_158 : decode cX3_step 158 = .ok (.return_, 1) := by decide +kernel
theorem dX3_leastSet_0 : decode cX3_leastSet 0 = .ok (.iconst 0, 1) := by decide +kernel
theorem dX3_leastSet_1 : decode cX3_leastSet 1 = .ok (.istore 5, 2) := by decide +kernel
theorem dX3_leastSet_3 : decode cX3_leastSet 3 = .ok (.iload 5, 2) := by decide +kernel
theorem dX3_leastSet_5 : decode cX3_leastSet 5 = .ok (.iload_n 3, 1) := by decide +kernel
theorem dX3_leastSet_6 : decode cX3_leastSet 6 = .ok (.if_icmp .gt 34, 3) := by decide +kernel
theorem dX3_leastSet_9 : decode cX3_leastSet 9 = .ok (.iload 5, 2) := by decide +kernel
theorem dX3_leastSet_11 : decode cX3_leastSet 11 = .ok (.iload_n 3, 1) := by decide +kernel
theorem dX3_leastSet_12 : decode cX3_leastSet 12 = .ok (.iconst (-1), 1) := by decide +kernel
theorem dX3_leastSet_13 : decode cX3_leastSet 13 = .ok (.ixor, 1) := by decide +kernel
theorem dX3_leastSet_14 : decode cX3_leastSet 14 = .ok (.iand, 1) := by decide +kernel
theorem dX3_leastSet_15 : decode cX3_leastSet 15 = .ok (.ifCond .ne 19, 3) := by decide +kernel
theorem dX3_leastSet_18 : decode cX3_leastSet 18 = .ok (.aload_n 0, 1) := by decide +kernel
theorem dX3_leastSet_19 : decode cX3_leastSet 19 = .ok (.iload_n 1, 1) := by decide +kernel
theorem dX3_leastSet_20 : decode cX3_leastSet 20 = .ok (.iload_n 2, 1) := by decide +kernel
theorem dX3_leastSet_21 : decode cX3_leastSet 21 = .ok (.iload 5, 2) := by decide +kernel
theorem dX3_leastSet_23 : decode cX3_leastSet 23 = .ok (.iload 4, 2) := by decide +kernel
theorem dX3_leastSet_25 : decode cX3_leastSet 25 = .ok (.invokevirtual 75, 3) := by decide +kernel
theorem dX3_leastSet_28 : decode cX3_leastSet 28 = .ok (.ifCond .eq 6, 3) := by decide +kernel
theorem dX3_leastSet_31 : decode cX3_leastSet 31 = .ok (.iload 5, 2) := by decide +kernel
theorem dX3_leastSet_33 : decode cX3_leastSet 33 = .ok (.ireturn, 1) := by decide +kernel
theorem dX3_leastSet_34 : decode cX3_leastSet 34 = .ok (.iinc 5 1, 3) := by decide +kernel
theorem dX3_leastSet_37 : decode cX3_leastSet 37 = .ok (.goto (-34), 3) := by decide +kernel
theorem dX3_leastSet_40 : decode cX3_leastSet 40 = .ok (.iconst (-1), 1) := by decide +kernel
theorem dX3_leastSet_41 : decode cX3_leastSet 41 = .ok (.ireturn, 1) := by decide +kernel
theorem dX4_init_0 : decode cX4_init 0 = .ok (.aload_n 0, 1) := by decide +kernel
theorem dX4_init_1 : decode cX4_init 1 = .ok (.invokespecial 3, 3) := by decide +kernel
theorem dX4_init_4 : decode cX4_init 4 = .ok (.aload_n 0, 1) := by decide +kernel
theorem dX4_init_5 : decode cX4_init 5 = .ok (.iconst 5, 1) := by decide +kernel
theorem dX4_init_6 : decode cX4_init 6 = .ok (.newarray .int, 2) := by decide +kernel
theorem dX4_init_8 : decode cX4_init 8 = .ok (.putfield 9, 3) := by decide +kernel
theorem dX4_init_11 : decode cX4_init 11 = .ok (.aload_n 0, 1) := by decide +kernel
theorem dX4_init_12 : decode cX4_init 12 = .ok (.iconst 5, 1) := by decide +kernel
theorem dX4_init_13 : decode cX4_init 13 = .ok (.newarray .int, 2) := by decide +kernel
theorem dX4_init_15 : decode cX4_init 15 = .ok (.putfield 15, 3) := by decide +kernel
theorem dX4_init_18 : decode cX4_init 18 = .ok (.aload_n 0, 1) := by decide +kernel
theorem dX4_init_19 : decode cX4_init 19 = .ok (.iconst 5, 1) := by decide +kernel
theorem dX4_init_20 : decode cX4_init 20 = .ok (.newarray .int, 2) := by decide +kernel
theorem dX4_init_22 : decode cX4_init 22 = .ok (.putfield 18, 3) := by decide +kernel
theorem dX4_init_25 : decode cX4_init 25 = .ok (.aload_n 0, 1) := by decide +kernel
theorem dX4_init_26 : decode cX4_init 26 = .ok (.bipush 30, 2) := by decide +kernel
theorem dX4_init_28 : decode cX4_init 28 = .ok (.newarray .int, 2) := by decide +kernel
theorem dX4_init_30 : decode cX4_init 30 = .ok (.putfield 21, 3) := by decide +kernel
theorem dX4_init_33 : decode cX4_init 33 = .ok (.return_, 1) := by decide +kernel
theorem dX4_begin_0 : decode cX4_begin 0 = .ok (.iconst 0, 1) := by decide +kernel
theorem dX4_begin_1 : decode cX4_begin 1 = .ok (.istore_n 2, 1) := by decide +kernel
theorem dX4_begin_2 : decode cX4_begin 2 = .ok (.iload_n 2, 1) := by decide +kernel
theorem dX4_begin_3 : decode cX4_begin 3 = .ok (.iconst 5, 1) := by decide +kernel
theorem dX4_begin_4 : decode cX4_begin 4 = .ok (.if_icmp .ge 35, 3) := by decide +kernel
theorem dX4_begin_7 : decode cX4_begin 7 = .ok (.aload_n 0, 1) := by decide +kernel
theorem dX4_begin_8 : decode cX4_begin 8 = .ok (.getfield 9, 3) := by decide +kernel
theorem dX4_begin_11 : decode cX4_begin 11 = .ok (.iload_n 2, 1) := by decide +kernel
theorem dX4_begin_12 : decode cX4_begin 12 = .ok (.aload_n 1, 1) := by decide +kernel
theorem dX4_begin_13 : decode cX4_begin 13 = .ok (.getfield 24, 3) := by decide +kernel
theorem dX4_begin_16 : decode cX4_begin 16 = .ok (.iload_n 2, 1) := by decide +kernel
theorem dX4_begin_17 : decode cX4_begin 17 = .ok (.iaload, 1) := by decide +kernel
theorem dX4_begin_18 : decode cX4_begin 18 = .ok (.iastore, 1) := by decide +kernel
theorem dX4_begin_19 : decode cX4_begin 19 = .ok (.aload_n 0, 1) := by decide +kernel
theorem dX4_begin_20 : decode cX4_begin 20 = .ok (.getfield 15, 3) := by decide +kernel
theorem dX4_begin_23 : decode cX4_begin 23 = .ok (.iload_n 2, 1) := by decide +kernel
theorem dX4_begin_24 : decode cX4_begin 24 = .ok (.iconst 0, 1) := by decide +kernel
theorem dX4_begin_25 : decode cX4_begin 25 = .ok (.iastore, 1) := by decide +kernel
theorem dX4_begin_26 : decode cX4_begin 26 = .ok (.aload_n 0, 1) := by decide +kernel
theorem dX4_begin_27 : decode cX4_begin 27 = .ok (.getfield 18, 3) := by decide +kernel
theorem dX4_begin_30 : decode cX4_begin 30 = .ok (.iload_n 2, 1) := by decide +kernel
theorem dX4_begin_31 : decode cX4_begin 31 = .ok (.iconst 0, 1) := by decide +kernel
theorem dX4_begin_32 : decode cX4_begin 32 = .ok (.iastore, 1) := by decide +kernel
theorem dX4_begin_33 : decode cX4_begin 33 = .ok (.iinc 2 1, 3) := by decide +kernel
theorem dX4_begin_36 : decode cX4_begin 36 = .ok (.goto (-34), 3) := by decide +kernel
theorem dX4_begin_39 : decode cX4_begin 39 = .ok (.iconst 0, 1) := by decide +kernel
theorem dX4_begin_40 : decode cX4_begin 40 = .ok (.istore_n 2, 1) := by decide +kernel
theorem dX4_begin_41 : decode cX4_begin 41 = .ok (.iload_n 2, 1) := by decide +kernel
theorem dX4_begin_42 : decode cX4_begin 42 = .ok (.bipush 30, 2) := by decide +kernel
theorem dX4_begin_44 : decode cX4_begin 44 = .ok (.if_icmp .ge 21, 3) := by decide +kernel
theorem dX4_begin_47 : decode cX4_begin 47 = .ok (.aload_n 0, 1) := by decide +kernel
theorem dX4_begin_48 : decode cX4_begin 48 = .ok (.getfield 21, 3) := by decide +kernel
theorem dX4_begin_51 : decode cX4_begin 51 = .ok (.iload_n 2, 1) := by decide +kernel
theorem dX4_begin_52 : decode cX4_begin 52 = .ok (.aload_n 1, 1) := by decide +kernel
theorem dX4_begin_53 : decode cX4_begin 53 = .ok (.getfield 29, 3) := by decide +kernel
theorem dX4_begin_56 : decode cX4_begin 56 = .ok (.iload_n 2, 1) := by decide +kernel
theorem dX4_begin_57 : decode cX4_begin 57 = .ok (.iaload, 1) := by decide +kernel
theorem dX4_begin_58 : decode cX4_begin 58 = .ok (.iastore, 1) := by decide +kernel
theorem dX4_begin_59 : decode cX4_begin 59 = .ok (.iinc 2 1, 3) := by decide +kernel
theorem dX4_begin_62 : decode cX4_begin 62 = .ok (.goto (-21), 3) := by decide +kernel
theorem dX4_begin_65 : decode cX4_begin 65 = .ok (.aload_n 0, 1) := by decide +kernel
theorem dX4_begin_66 : decode cX4_begin 66 = .ok (.iconst 0, 1) := by decide +kernel
theorem dX4_begin_67 : decode cX4_begin 67 = .ok (.putfield 32, 3) := by decide +kernel
theorem dX4_begin_70 : decode cX4_begin 70 = .ok (.return_, 1) := by decide +kernel
theorem dX4_become_0 : decode cX4_become 0 = .ok (.iconst 0, 1) := by decide +kernel
theorem dX4_become_1 : decode cX4_become 1 = .ok (.istore_n 2, 1) := by decide +kernel
theorem dX4_become_2 : decode cX4_become 2 = .ok (.iload_n 2, 1) := by decide +kernel
theorem dX4_become_3 : decode cX4_become 3 = .ok (.iconst 5, 1) := by decide +kernel
theorem dX4_become_4 : decode cX4_become 4 = .ok (.if_icmp .ge 45, 3) := by decide +kernel
theorem dX4_become_7 : decode cX4_become 7 = .ok (.aload_n 0, 1) := by decide +kernel
theorem dX4_become_8 : decode cX4_become 8 = .ok (.getfield 9, 3) := by decide +kernel
theorem dX4_become_11 : decode cX4_become 11 = .ok (.iload_n 2, 1) := by decide +kernel
theorem dX4_become_12 : decode cX4_become 12 = .ok (.aload_n 1, 1) := by decide +kernel
theorem dX4_become_13 : decode cX4_become 13 = .ok (.getfield 9, 3) := by decide +kernel
theorem dX4_become_16 : decode cX4_become 16 = .ok (.iload_n 2, 1) := by decide +kernel
theorem dX4_become_17 : decode cX4_become 17 = .ok (.iaload, 1) := by decide +kernel
theorem dX4_become_18 : decode cX4_become 18 = .ok (.iastore, 1) := by decide +kernel
theorem dX4_become_19 : decode cX4_become 19 = .ok (.aload_n 0, 1) := by decide +kernel
theorem dX4_become_20 : decode cX4_become 20 = .ok (.getfield 15, 3) := by decide +kernel
theorem dX4_become_23 : decode cX4_become 23 = .ok (.iload_n 2, 1) := by decide +kernel
theorem dX4_become_24 : decode cX4_become 24 = .ok (.aload_n 1, 1) := by decide +kernel
theorem dX4_become_25 : decode cX4_become 25 = .ok (.getfield 15, 3) := by decide +kernel
theorem dX4_become_28 : decode cX4_become 28 = .ok (.iload_n 2, 1) := by decide +kernel
theorem dX4_become_29 : decode cX4_become 29 = .ok (.iaload, 1) := by decide +kernel
theorem dX4_become_30 : decode cX4_become 30 = .ok (.iastore, 1) := by decide +kernel
theorem dX4_become_31 : decode cX4_become 31 = .ok (.aload_n 0, 1) := by decide +kernel
theorem dX4_become_32 : decode cX4_become 32 = .ok (.getfield 18, 3) := by decide +kernel
theorem dX4_become_35 : decode cX4_become 35 = .ok (.iload_n 2, 1) := by decide +kernel
theorem dX4_become_36 : decode cX4_become 36 = .ok (.aload_n 1, 1) := by decide +kernel
theorem dX4_become_37 : decode cX4_become 37 = .ok (.getfield 18, 3) := by decide +kernel
theorem dX4_become_40 : decode cX4_become 40 = .ok (.iload_n 2, 1) := by decide +kernel
theorem dX4_become_41 : decode cX4_become 41 = .ok (.iaload, 1) := by decide +kernel
theorem dX4_become_42 : decode cX4_become 42 = .ok (.iastore, 1) := by decide +kernel
theorem dX4_become_43 : decode cX4_become 43 = .ok (.iinc 2 1, 3) := by decide +kernel
theorem dX4_become_46 : decode cX4_become 46 = .ok (.goto (-44), 3) := by decide +kernel
theorem dX4_become_49 : decode cX4_become 49 = .ok (.iconst 0, 1) := by decide +kernel
theorem dX4_become_50 : decode cX4_become 50 = .ok (.istore_n 2, 1) := by decide +kernel
theorem dX4_become_51 : decode cX4_become 51 = .ok (.iload_n 2, 1) := by decide +kernel
theorem dX4_become_52 : decode cX4_become 52 = .ok (.bipush 30, 2) := by decide +kernel
theorem dX4_become_54 : decode cX4_become 54 = .ok (.if_icmp .ge 21, 3) := by decide +kernel
theorem dX4_become_57 : decode cX4_become 57 = .ok (.aload_n 0, 1) := by decide +kernel
theorem dX4_become_58 : decode cX4_become 58 = .ok (.getfield 21, 3) := by decide +kernel
theorem dX4_become_61 : decode cX4_become 61 = .ok (.iload_n 2, 1) := by decide +kernel
theorem dX4_become_62 : decode cX4_become 62 = .ok (.aload_n 1, 1) := by decide +kernel
theorem dX4_become_63 : decode cX4_become 63 = .ok (.getfield 21, 3) := by decide +kernel
theorem dX4_become_66 : decode cX4_become 66 = .ok (.iload_n 2, 1) := by decide +kernel
theorem dX4_become_67 : decode cX4_become 67 = .ok (.iaload, 1) := by decide +kernel
theorem dX4_become_68 : decode cX4_become 68 = .ok (.iastore, 1) := by decide +kernel
theorem dX4_become_69 : decode cX4_become 69 = .ok (.iinc 2 1, 3) := by decide +kernel
theorem dX4_become_72 : decode cX4_become 72 = .ok (.goto (-21), 3) := by decide +kernel
theorem dX4_become_75 : decode cX4_become 75 = .ok (.aload_n 0, 1) := by decide +kernel
theorem dX4_become_76 : decode cX4_become 76 = .ok (.aload_n 1, 1) := by decide +kernel
theorem dX4_become_77 : decode cX4_become 77 = .ok (.getfield 32, 3) := by decide +kernel
theorem dX4_become_80 : decode cX4_become 80 = .ok (.putfield 32, 3) := by decide +kernel
theorem dX4_become_83 : decode cX4_become 83 = .ok (.aload_n 0, 1) := by decide +kernel
theorem dX4_become_84 : decode cX4_become 84 = .ok (.aload_n 1, 1) := by decide +kernel
theorem dX4_become_85 : decode cX4_become 85 = .ok (.getfield 36, 3) := by decide +kernel
theorem dX4_become_88 : decode cX4_become 88 = .ok (.putfield 36, 3) := by decide +kernel
theorem dX4_become_91 : decode cX4_become 91 = .ok (.return_, 1) := by decide +kernel
theorem dX4_draw_0 : decode cX4_draw 0 = .ok (.aload_n 0, 1) := by decide +kernel
theorem dX4_draw_1 : decode cX4_draw 1 = .ok (.aload_n 0, 1) := by decide +kernel
theorem dX4_draw_2 : decode cX4_draw 2 = .ok (.getfield 36, 3) := by decide +kernel
theorem dX4_draw_5 : decode cX4_draw 5 = .ok (.i2l, 1) := by decide +kernel
theorem dX4_draw_6 : decode cX4_draw 6 = .ok (.ldc2_w 39, 3) := by decide +kernel
theorem dX4_draw_9 : decode cX4_draw 9 = .ok (.lmul, 1) := by decide +kernel
theorem dX4_draw_10 : decode cX4_draw 10 = .ok (.ldc2_w 41, 3) := by decide +kernel
theorem dX4_draw_13 : decode cX4_draw 13 = .ok (.ladd, 1) := by decide +kernel
theorem dX4_draw_14 : decode cX4_draw 14 = .ok (.ldc2_w 43, 3) := by decide +kernel
theorem dX4_draw_17 : decode cX4_draw 17 = .ok (.land, 1) := by decide +kernel
theorem dX4_draw_18 : decode cX4_draw 18 = .ok (.l2i, 1) := by decide +kernel
theorem dX4_draw_19 : decode cX4_draw 19 = .ok (.putfield 36, 3) := by decide +kernel
theorem dX4_draw_22 : decode cX4_draw 22 = .ok (.iload_n 1, 1) := by decide +kernel
theorem dX4_draw_23 : decode cX4_draw 23 = .ok (.iconst 1, 1) := by decide +kernel
theorem dX4_draw_24 : decode cX4_draw 24 = .ok (.if_icmp .ge 7, 3) := by decide +kernel
theorem dX4_draw_27 : decode cX4_draw 27 = .ok (.iconst 0, 1) := by decide +kernel
theorem dX4_draw_28 : decode cX4_draw 28 = .ok (.goto 12, 3) := by decide +kernel
theorem dX4_draw_31 : decode cX4_draw 31 = .ok (.aload_n 0, 1) := by decide +kernel
theorem dX4_draw_32 : decode cX4_draw 32 = .ok (.getfield 36, 3) := by decide +kernel
theorem dX4_draw_35 : decode cX4_draw 35 = .ok (.ldc 45, 2) := by decide +kernel
theorem dX4_draw_37 : decode cX4_draw 37 = .ok (.idiv, 1) := by decide +kernel
theorem dX4_draw_38 : decode cX4_draw 38 = .ok (.iload_n 1, 1) := by decide +kernel
theorem dX4_draw_39 : decode cX4_draw 39 = .ok (.irem, 1) := by decide +kernel
theorem dX4_draw_40 : decode cX4_draw 40 = .ok (.ireturn, 1) := by decide +kernel
theorem dX5_init_0 : decode cX5_init 0 = .ok (.aload_n 0, 1) := by decide +kernel
theorem dX5_init_1 : decode cX5_init 1 = .ok (.invokespecial 3, 3) := by decide +kernel
theorem dX5_init_4 : decode cX5_init 4 = .ok (.aload_n 0, 1) := by decide +kernel
theorem dX5_init_5 : decode cX5_init 5 = .ok (.sipush 250, 3) := by decide +kernel
theorem dX5_init_8 : decode cX5_init 8 = .ok (.newarray .int, 2) := by decide +kernel
theorem dX5_init_10 : decode cX5_init 10 = .ok (.putfield 9, 3) := by decide +kernel
theorem dX5_init_13 : decode cX5_init 13 = .ok (.aload_n 0, 1) := by decide +kernel
theorem dX5_init_14 : decode cX5_init 14 = .ok (.iconst (-1), 1) := by decide +kernel
theorem dX5_init_15 : decode cX5_init 15 = .ok (.putfield 15, 3) := by decide +kernel
theorem dX5_init_18 : decode cX5_init 18 = .ok (.return_, 1) := by decide +kernel
theorem dX5_append_0 : decode cX5_append 0 = .ok (.aload_n 0, 1) := by decide +kernel
theorem dX5_append_1 : decode cX5_append 1 = .ok (.getfield 19, 3) := by decide +kernel
theorem dX5_append_4 : decode cX5_append 4 = .ok (.sipush 250, 3) := by decide +kernel
theorem dX5_append_7 : decode cX5_append 7 = .ok (.if_icmp .lt 6, 3) := by decide +kernel
theorem dX5_append_10 : decode cX5_append 10 = .ok (.ldc 22, 2) := by decide +kernel
theorem dX5_append_12 : decode cX5_append 12 = .ok (.ireturn, 1) := by decide +kernel
theorem dX5_append_13 : decode cX5_append 13 = .ok (.aload_n 0, 1) := by decide +kernel
theorem dX5_append_14 : decode cX5_append 14 = .ok (.getfield 9, 3) := by decide +kernel
theorem dX5_append_17 : decode cX5_append 17 = .ok (.aload_n 0, 1) := by decide +kernel
theorem dX5_append_18 : decode cX5_append 18 = .ok (.getfield 19, 3) := by decide +kernel
theorem dX5_append_21 : decode cX5_append 21 = .ok (.iload_n 1, 1) := by decide +kernel
theorem dX5_append_22 : decode cX5_append 22 = .ok (.iastore, 1) := by decide +kernel
theorem dX5_append_23 : decode cX5_append 23 = .ok (.aload_n 0, 1) := by decide +kernel
theorem dX5_append_24 : decode cX5_append 24 = .ok (.dup, 1) := by decide +kernel
theorem dX5_append_25 : decode cX5_append 25 = .ok (.getfield 19, 3) := by decide +kernel
theorem dX5_append_28 : decode cX5_append 28 = .ok (.iconst 1, 1) := by decide +kernel
theorem dX5_append_29 : decode cX5_append 29 = .ok (.iadd, 1) := by decide +kernel
theorem dX5_append_30 : decode cX5_append 30 = .ok (.putfield 19, 3) := by decide +kernel
theorem dX5_append_33 : decode cX5_append 33 = .ok (.aload_n 0, 1) := by decide +kernel
theorem dX5_append_34 : decode cX5_append 34 = .ok (.getfield 19, 3) := by decide +kernel
theorem dX5_append_37 : decode cX5_append 37 = .ok (.ireturn, 1) := by decide +kernel
theorem dX5_parse_0 : decode cX5_parse 0 = .ok (.aload_n 1, 1) := by decide +kernel
theorem dX5_parse_1 : decode cX5_parse 1 = .ok (.invokevirtual 23, 3) := by decide +kernel
theorem dX5_parse_4 : decode cX5_parse 4 = .ok (.aload_n 0, 1) := by decide +kernel
theorem dX5_parse_5 : decode cX5_parse 5 = .ok (.iconst 0, 1) := by decide +kernel
theorem dX5_parse_6 : decode cX5_parse 6 = .ok (.putfield 28, 3) := by decide +kernel
theorem dX5_parse_9 : decode cX5_parse 9 = .ok (.aload_n 0, 1) := by decide +kernel
theorem dX5_parse_10 : decode cX5_parse 10 = .ok (.iconst 0, 1) := by decide +kernel
theorem dX5_parse_11 : decode cX5_parse 11 = .ok (.putfield 31, 3) := by decide +kernel
theorem dX5_parse_14 : decode cX5_parse 14 = .ok (.aload_n 0, 1) := by decide +kernel
theorem dX5_parse_15 : decode cX5_parse 15 = .ok (.iconst (-1), 1) := by decide +kernel
theorem dX5_parse_16 : decode cX5_parse 16 = .ok (.putfield 15, 3) := by decide +kernel
theorem dX5_parse_19 : decode cX5_parse 19 = .ok (.aload_n 0, 1) := by decide +kernel
theorem dX5_parse_20 : decode cX5_parse 20 = .ok (.invokevirtual 34, 3) := by decide +kernel
theorem dX5_parse_23 : decode cX5_parse 23 = .ok (.iconst 0, 1) := by decide +kernel
theorem dX5_parse_24 : decode cX5_parse 24 = .ok (.istore_n 2, 1) := by decide +kernel
theorem dX5_parse_25 : decode cX5_parse 25 = .ok (.iload_n 2, 1) := by decide +kernel
theorem dX5_parse_26 : decode cX5_parse 26 = .ok (.sipush 250, 3) := by decide +kernel
theorem dX5_parse_29 : decode cX5_parse 29 = .ok (.if_icmp .ge 36, 3) := by decide +kernel
theorem dX5_parse_32 : decode cX5_parse 32 = .ok (.aload_n 0, 1) := by decide +kernel
theorem dX5_parse_33 : decode cX5_parse 33 = .ok (.getfield 31, 3) := by decide +kernel
theorem dX5_parse_36 : decode cX5_parse 36 = .ok (.ifCond .ne 29, 3) := by decide +kernel
theorem dX5_parse_39 : decode cX5_parse 39 = .ok (.aload_n 0, 1) := by decide +kernel
theorem dX5_parse_40 : decode cX5_parse 40 = .ok (.getfield 28, 3) := by decide +kernel
theorem dX5_parse_43 : decode cX5_parse 43 = .ok (.aload_n 0, 1) := by decide +kernel
theorem dX5_parse_44 : decode cX5_parse 44 = .ok (.getfield 19, 3) := by decide +kernel
theorem dX5_parse_47 : decode cX5_parse 47 = .ok (.if_icmp .ge 18, 3) := by decide +kernel
theorem dX5_parse_50 : decode cX5_parse 50 = .ok (.aload_n 0, 1) := by decide +kernel
theorem dX5_parse_51 : decode cX5_parse 51 = .ok (.aload_n 1, 1) := by decide +kernel
theorem dX5_parse_52 : decode cX5_parse 52 = .ok (.invokevirtual 37, 3) := by decide +kernel
theorem dX5_parse_55 : decode cX5_parse 55 = .ok (.aload_n 0, 1) := by decide +kernel
theorem dX5_parse_56 : decode cX5_parse 56 = .ok (.invokevirtual 34, 3) := by decide +kernel
theorem dX5_parse_59 : decode cX5_parse 59 = .ok (.iinc 2 1, 3) := by decide +kernel
theorem dX5_parse_62 : decode cX5_parse 62 = .ok (.goto (-37), 3) := by decide +kernel
theorem dX5_parse_65 : decode cX5_parse 65 = .ok (.aload_n 0, 1) := by decide +kernel
theorem dX5_parse_66 : decode cX5_parse 66 = .ok (.iconst 0, 1) := by decide +kernel
theorem dX5_parse_67 : decode cX5_parse 67 = .ok (.putfield 19, 3) := by decide +kernel
theorem dX5_parse_70 : decode cX5_parse 70 = .ok (.aload_n 0, 1) := by decide +kernel
theorem dX5_parse_71 : decode cX5_parse 71 = .ok (.getfield 31, 3) := by decide +kernel
theorem dX5_parse_74 : decode cX5_parse 74 = .ok (.ireturn, 1) := by decide +kernel
theorem dX5_fail_0 : decode cX5_fail 0 = .ok (.aload_n 0, 1) := by decide +kernel
theorem dX5_fail_1 : decode cX5_fail 1 = .ok (.getfield 31, 3) := by decide +kernel
theorem dX5_fail_4 : decode cX5_fail 4 = .ok (.ifCond .ne 13, 3) := by decide +kernel
theorem dX5_fail_7 : decode cX5_fail 7 = .ok (.aload_n 0, 1) := by decide +kernel
theorem dX5_fail_8 : decode cX5_fail 8 = .ok (.iload_n 1, 1) := by decide +kernel
theorem dX5_fail_9 : decode cX5_fail 9 = .ok (.putfield 31, 3) := by decide +kernel
theorem dX5_fail_12 : decode cX5_fail 12 = .ok (.aload_n 0, 1) := by decide +kernel
theorem dX5_fail_13 : decode cX5_fail 13 = .ok (.iload_n 2, 1) := by decide +kernel
theorem dX5_fail_14 : decode cX5_fail 14 = .ok (.putfield 15, 3) := by decide +kernel
theorem dX5_fail_17 : decode cX5_fail 17 = .ok (.return_, 1) := by decide +kernel
theorem dX5_skipBlanks_0 : decode cX5_skipBlanks 0 = .ok (.aload_n 0, 1) := by decide +kernel
theorem dX5_skipBlanks_1 : decode cX5_skipBlanks 1 = .ok (.getfield 28, 3) := by decide +kernel
theorem dX5_skipBlanks_4 : decode cX5_skipBlanks 4 = .ok (.aload_n 0, 1) := by decide +kernel
theorem dX5_skipBlanks_5 : decode cX5_skipBlanks 5 = .ok (.getfield 19, 3) := by decide +kernel
theorem dX5_skipBlanks_8 : decode cX5_skipBlanks 8 = .ok (.if_icmp .ge 30, 3) := by decide +kernel
theorem dX5_skipBlanks_11 : decode cX5_skipBlanks 11 = .ok (.aload_n 0, 1) := by decide +kernel
theorem dX5_skipBlanks_12 : decode cX5_skipBlanks 12 = .ok (.getfield 9, 3) := by decide +kernel
theorem dX5_skipBlanks_15 : decode cX5_skipBlanks 15 = .ok (.aload_n 0, 1) := by decide +kernel
theorem dX5_skipBlanks_16 : decode cX5_skipBlanks 16 = .ok (.getfield 28, 3) := by decide +kernel
theorem dX5_skipBlanks_19 : decode cX5_skipBlanks 19 = .ok (.iaload, 1) := by decide +kernel
theorem dX5_skipBlanks_20 : decode cX5_skipBlanks 20 = .ok (.bipush 32, 2) := by decide +kernel
theorem dX5_skipBlanks_22 : decode cX5_skipBlanks 22 = .ok (.if_icmp .ne 16, 3) := by decide +kernel
theorem dX5_skipBlanks_25 : decode cX5_skipBlanks 25 = .ok (.aload_n 0, 1) := by decide +kernel
theorem dX5_skipBlanks_26 : decode cX5_skipBlanks 26 = .ok (.dup, 1) := by decide +kernel
theorem dX5_skipBlanks_27 : decode cX5_skipBlanks 27 = .ok (.getfield 28, 3) := by decide +kernel
theorem dX5_skipBlanks_30 : decode cX5_skipBlanks 30 = .ok (.iconst 1, 1) := by decide +kernel
theorem dX5_skipBlanks_31 : decode cX5_skipBlanks 31 = .ok (.iadd, 1) := by decide +kernel
theorem dX5_skipBlanks_32 : decode cX5_skipBlanks 32 = .ok (.putfield 28, 3) := by decide +kernel
theorem dX5_skipBlanks_35 : decode cX5_skipBlanks 35 = .ok (.goto (-35), 3) := by decide +kernel
theorem dX5_skipBlanks_38 : decode cX5_skipBlanks 38 = .ok (.return_, 1) := by decide +kernel
theorem dX5_figureAhead_0 : decode cX5_figureAhead 0 = .ok (.aload_n 0, 1) := by decide +kernel
theorem dX5_figureAhead_1 : decode cX5_figureAhead 1 = .ok (.getfield 28, 3) := by decide +kernel
theorem dX5_figureAhead_4 : decode cX5_figureAhead 4 = .ok (.aload_n 0, 1) := by decide +kernel
theorem dX5_figureAhead_5 : decode cX5_figureAhead 5 = .ok (.getfield 19, 3) := by decide +kernel
theorem dX5_figureAhead_8 : decode cX5_figureAhead 8 = .ok (.if_icmp .ge 35, 3) := by decide +kernel
theorem dX5_figureAhead_11 : decode cX5_figureAhead 11 = .ok (.aload_n 0, 1) := by decide +kernel
theorem dX5_figureAhead_12 : decode cX5_figureAhead 12 = .ok (.getfield 9, 3) := by decide +kernel
theorem dX5_figureAhead_15 : decode cX5_figureAhead 15 = .ok (.aload_n 0, 1) := by decide +kernel
theorem dX5_figureAhead_16 : decode cX5_figureAhead 16 = .ok (.getfield 28, 3) := by decide +kernel
theorem dX5_figureAhead_19 : decode cX5_figureAhead 19 = .ok (.iaload, 1) := by decide +kernel
theorem dX5_figureAhead_20 : decode cX5_figureAhead 20 = .ok (.bipush 48, 2) := by decide +kernel
theorem dX5_figureAhead_22 : decode cX5_figureAhead 22 = .ok (.if_icmp .lt 21, 3) := by decide +kernel
theorem dX5_figureAhead_25 : decode cX5_figureAhead 25 = .ok (.aload_n 0, 1) := by decide +kernel
theorem dX5_figureAhead_26 : decode cX5_figureAhead 26 = .ok (.getfield 9, 3) := by decide +kernel
theorem dX5_figureAhead_29 : decode cX5_figureAhead 29 = .ok (.aload_n 0, 1) := by decide +kernel
theorem dX5_figureAhead_30 : decode cX5_figureAhead 30 = .ok (.getfield 28, 3) := by decide +kernel
theorem dX5_figureAhead_33 : decode cX5_figureAhead 33 = .ok (.iaload, 1) := by decide +kernel
theorem dX5_figureAhead_34 : decode cX5_figureAhead 34 = .ok (.bipush 57, 2) := by decide +kernel
theorem dX5_figureAhead_36 : decode cX5_figureAhead 36 = .ok (.if_icmp .gt 7, 3) := by decide +kernel
theorem dX5_figureAhead_39 : decode cX5_figureAhead 39 = .ok (.iconst 1, 1) := by decide +kernel
theorem dX5_figureAhead_40 : decode cX5_figureAhead 40 = .ok (.goto 4, 3) := by decide +kernel
theorem dX5_figureAhead_43 : decode cX5_figureAhead 43 = .ok (.iconst 0, 1) := by decide +kernel
theorem dX5_figureAhead_44 : decode cX5_figureAhead 44 = .ok (.ireturn, 1) := by decide +kernel
theorem dX5_number_0 : decode cX5_number 0 = .ok (.aload_n 0, 1) := by decide +kernel
theorem dX5_number_1 : decode cX5_number 1 = .ok (.invokevirtual 34, 3) := by decide +kernel
theorem dX5_number_4 : decode cX5_number 4 = .ok (.aload_n 0, 1) := by decide +kernel
theorem dX5_number_5 : decode cX5_number 5 = .ok (.invokevirtual 41, 3) := by decide +kernel
theorem dX5_number_8 : decode cX5_number 8 = .ok (.ifCond .ne 12, 3) := by decide +kernel
theorem dX5_number_11 : decode cX5_number 11 = .ok (.aload_n 0, 1) := by decide +kernel
theorem dX5_number_12 : decode cX5_number 12 = .ok (.iconst 1, 1) := by decide +kernel
theorem dX5_number_13 : decode cX5_number 13 = .ok (.aload_n 0, 1) := by decide +kernel
theorem dX5_number_14 : decode cX5_number 14 = .ok (.getfield 28, 3) := by decide +kernel
theorem dX5_number_17 : decode cX5_number 17 = .ok (.invokevirtual 45, 3) := by decide +kernel
theorem dX5_number_20 : decode cX5_number 20 = .ok (.aload_n 0, 1) := by decide +kernel
theorem dX5_number_21 : decode cX5_number 21 = .ok (.getfield 31, 3) := by decide +kernel
theorem dX5_number_24 : decode cX5_number 24 = .ok (.ifCond .eq 5, 3) := by decide +kernel
theorem dX5_number_27 : decode cX5_number 27 = .ok (.iconst 0, 1) := by decide +kernel
theorem dX5_number_28 : decode cX5_number 28 = .ok (.ireturn, 1) := by decide +kernel
theorem dX5_number_29 : decode cX5_number 29 = .ok (.aload_n 0, 1) := by decide +kernel
theorem dX5_number_30 : decode cX5_number 30 = .ok (.aload_n 0, 1) := by decide +kernel
theorem dX5_number_31 : decode cX5_number 31 = .ok (.getfield 28, 3) := by decide +kernel
theorem dX5_number_34 : decode cX5_number 34 = .ok (.putfield 49, 3) := by decide +kernel
theorem dX5_number_37 : decode cX5_number 37 = .ok (.iconst 0, 1) := by decide +kernel
theorem dX5_number_38 : decode cX5_number 38 = .ok (.istore_n 3, 1) := by decide +kernel
theorem dX5_number_39 : decode cX5_number 39 = .ok (.iconst 0, 1) := by decide +kernel
theorem dX5_number_40 : decode cX5_number 40 = .ok (.istore 4, 2) := by decide +kernel
theorem dX5_number_42 : decode cX5_number 42 = .ok (.iload 4, 2) := by decide +kernel
theorem dX5_number_44 : decode cX5_number 44 = .ok (.sipush 250, 3) := by decide +kernel
theorem dX5_number_47 : decode cX5_number 47 = .ok (.if_icmp .ge 50, 3) := by decide +kernel
theorem dX5_number_50 : decode cX5_number 50 = .ok (.aload_n 0, 1) := by decide +kernel
theorem dX5_number_51 : decode cX5_number 51 = .ok (.invokevirtual 41, 3) := by decide +kernel
theorem dX5_number_54 : decode cX5_number 54 = .ok (.ifCond .eq 43, 3) := by decide +kernel
theorem dX5_number_57 : decode cX5_number 57 = .ok (.iload 4, 2) := by decide +kernel
theorem dX5_number_59 : decode cX5_number 59 = .ok (.iconst 3, 1) := by decide +kernel
theorem dX5_number_60 : decode cX5_number 60 = .ok (.if_icmp .ge 21, 3) := by decide +kernel
theorem dX5_number_63 : decode cX5_number 63 = .ok (.iload_n 3, 1) := by decide +kernel
theorem dX5_number_64 : decode cX5_number 64 = .ok (.bipush 10, 2) := by decide +kernel
theorem dX5_number_66 : decode cX5_number 66 = .ok (.imul, 1) := by decide +kernel
theorem dX5_number_67 : decode cX5_number 67 = .ok (.aload_n 0, 1) := by decide +kernel
theorem dX5_number_68 : decode cX5_number 68 = .ok (.getfield 9, 3) := by decide +kernel
theorem dX5_number_71 : decode cX5_number 71 = .ok (.aload_n 0, 1) := by decide +kernel
theorem dX5_number_72 : decode cX5_number 72 = .ok (.getfield 28, 3) := by decide +kernel
theorem dX5_number_75 : decode cX5_number 75 = .ok (.iaload, 1) := by decide +kernel
theorem dX5_number_76 : decode cX5_number 76 = .ok (.iadd, 1) := by decide +kernel
theorem dX5_number_77 : decode cX5_number 77 = .ok (.bipush 48, 2) := by decide +kernel
theorem dX5_number_79 : decode cX5_number 79 = .ok (.isub, 1) := by decide +kernel
theorem dX5_number_80 : decode cX5_number 80 = .ok (.istore_n 3, 1) := by decide +kernel
theorem dX5_number_81 : decode cX5_number 81 = .ok (.aload_n 0, 1) := by decide +kernel
theorem dX5_number_82 : decode cX5_number 82 = .ok (.dup, 1) := by decide +kernel
theorem dX5_number_83 : decode cX5_number 83 = .ok (.getfield 28, 3) := by decide +kernel
theorem dX5_number_86 : decode cX5_number 86 = .ok (.iconst 1, 1) := by decide +kernel
theorem dX5_number_87 : decode cX5_number 87 = .ok (.iadd, 1) := by decide +kernel
theorem dX5_number_88 : decode cX5_number 88 = .ok (.putfield 28, 3) := by decide +kernel
theorem dX5_number_91 : decode cX5_number 91 = .ok (.iinc 4 1, 3) := by decide +kernel
theorem dX5_number_94 : decode cX5_number 94 = .ok (.goto (-52), 3) := by decide +kernel
theorem dX5_number_97 : decode cX5_number 97 = .ok (.aload_n 0, 1) := by decide +kernel
theorem dX5_number_98 : decode cX5_number 98 = .ok (.getfield 28, 3) := by decide +kernel
theorem dX5_number_101 : decode cX5_number 101 = .ok (.aload_n 0, 1) := by decide +kernel
theorem dX5_number_102 : decode cX5_number 102 = .ok (.getfield 49, 3) := by decide +kernel
theorem dX5_number_105 : decode cX5_number 105 = .ok (.isub, 1) := by decide +kernel
theorem dX5_number_106 : decode cX5_number 106 = .ok (.iconst 3, 1) := by decide +kernel
theorem dX5_number_107 : decode cX5_number 107 = .ok (.if_icmp .gt 13, 3) := by decide +kernel
theorem dX5_number_110 : decode cX5_number 110 = .ok (.iload_n 3, 1) := by decide +kernel
theorem dX5_number_111 : decode cX5_number 111 = .ok (.iload_n 1, 1) := by decide +kernel
theorem dX5_number_112 : decode cX5_number 112 = .ok (.if_icmp .lt 8, 3) := by decide +kernel
theorem dX5_number_115 : decode cX5_number 115 = .ok (.iload_n 3, 1) := by decide +kernel
theorem dX5_number_116 : decode cX5_number 116 = .ok (.iload_n 2, 1) := by decide +kernel
theorem dX5_number_117 : decode cX5_number 117 = .ok (.if_icmp .le 14, 3) := by decide +kernel
theorem dX5_number_120 : decode cX5_number 120 = .ok (.aload_n 0, 1) := by decide +kernel
theorem dX5_number_121 : decode cX5_number 121 = .ok (.iconst 2, 1) := by decide +kernel
theorem dX5_number_122 : decode cX5_number 122 = .ok (.aload_n 0, 1) := by decide +kernel
theorem dX5_number_123 : decode cX5_number 123 = .ok (.getfield 49, 3) := by decide +kernel
theorem dX5_number_126 : decode cX5_number 126 = .ok (.invokevirtual 45, 3) := by decide +kernel
theorem dX5_number_129 : decode cX5_number 129 = .ok (.iconst 0, 1) := by decide +kernel
theorem dX5_number_130 : decode cX5_number 130 = .ok (.ireturn, 1) := by decide +kernel
theorem dX5_number_131 : decode cX5_number 131 = .ok (.iload_n 3, 1) := by decide +kernel
theorem dX5_number_132 : decode cX5_number 132 = .ok (.ireturn, 1) := by decide +kernel
theorem dX5_endOfClause_0 : decode cX5_endOfClause 0 = .ok (.aload_n 0, 1) := by decide +kernel
theorem dX5_endOfClause_1 : decode cX5_endOfClause 1 = .ok (.invokevirtual 34, 3) := by decide +kernel
theorem dX5_endOfClause_4 : decode cX5_endOfClause 4 = .ok (.aload_n 0, 1) := by decide +kernel
theorem dX5_endOfClause_5 : decode cX5_endOfClause 5 = .ok (.getfield 28, 3) := by decide +kernel
theorem dX5_endOfClause_8 : decode cX5_endOfClause 8 = .ok (.aload_n 0, 1) := by decide +kernel
theorem dX5_endOfClause_9 : decode cX5_endOfClause 9 = .ok (.getfield 19, 3) := by decide +kernel
theorem dX5_endOfClause_12 : decode cX5_endOfClause 12 = .ok (.if_icmp .ge 30, 3) := by decide +kernel
theorem dX5_endOfClause_15 : decode cX5_endOfClause 15 = .ok (.aload_n 0, 1) := by decide +kernel
theorem dX5_endOfClause_16 : decode cX5_endOfClause 16 = .ok (.getfield 9, 3) := by decide +kernel
theorem dX5_endOfClause_19 : decode cX5_endOfClause 19 = .ok (.aload_n 0, 1) := by decide +kernel
theorem dX5_endOfClause_20 : decode cX5_endOfClause 20 = .ok (.getfield 28, 3) := by decide +kernel
theorem dX5_endOfClause_23 : decode cX5_endOfClause 23 = .ok (.iaload, 1) := by decide +kernel
theorem dX5_endOfClause_24 : decode cX5_endOfClause 24 = .ok (.bipush 59, 2) := by decide +kernel
theorem dX5_endOfClause_26 : decode cX5_endOfClause 26 = .ok (.if_icmp .ne 16, 3) := by decide +kernel
theorem dX5_endOfClause_29 : decode cX5_endOfClause 29 = .ok (.aload_n 0, 1) := by decide +kernel
theorem dX5_endOfClause_30 : decode cX5_endOfClause 30 = .ok (.dup, 1) := by decide +kernel
theorem dX5_endOfClause_31 : decode cX5_endOfClause 31 = .ok (.getfield 28, 3) := by decide +kernel
theorem dX5_endOfClause_34 : decode cX5_endOfClause 34 = .ok (.iconst 1, 1) := by decide +kernel
theorem dX5_endOfClause_35 : decode cX5_endOfClause 35 = .ok (.iadd, 1) := by decide +kernel
theorem dX5_endOfClause_36 : decode cX5_endOfClause 36 = .ok (.putfield 28, 3) := by decide +kernel
theorem dX5_endOfClause_39 : decode cX5_endOfClause 39 = .ok (.goto 12, 3) := by decide +kernel
theorem dX5_endOfClause_42 : decode cX5_endOfClause 42 = .ok (.aload_n 0, 1) := by decide +kernel
theorem dX5_endOfClause_43 : decode cX5_endOfClause 43 = .ok (.iconst 1, 1) := by decide +kernel
theorem dX5_endOfClause_44 : decode cX5_endOfClause 44 = .ok (.aload_n 0, 1) := by decide +kernel
theorem dX5_endOfClause_45 : decode cX5_endOfClause 45 = .ok (.getfield 28, 3) := by decide +kernel
theorem dX5_endOfClause_48 : decode cX5_endOfClause 48 = .ok (.invokevirtual 45, 3) := by decide +kernel
theorem dX5_endOfClause_51 : decode cX5_endOfClause 51 = .ok (.return_, 1) := by decide +kernel
theorem dX5_clause_0 : decode cX5_clause 0 = .ok (.aload_n 0, 1) := by decide +kernel
theorem dX5_clause_1 : decode cX5_clause 1 = .ok (.getfield 9, 3) := by decide +kernel
theorem dX5_clause_4 : decode cX5_clause 4 = .ok (.aload_n 0, 1) := by decide +kernel
theorem dX5_clause_5 : decode cX5_clause 5 = .ok (.getfield 28, 3) := by decide +kernel
theorem dX5_clause_8 : decode cX5_clause 8 = .ok (.iaload, 1) := by decide +kernel
theorem dX5_clause_9 : decode cX5_clause 9 = .ok (.istore_n 2, 1) := by decide +kernel
theorem dX5_clause_10 : decode cX5_clause 10 = .ok (.aload_n 1, 1) := by decide +kernel
theorem dX5_clause_11 : decode cX5_clause 11 = .ok (.getfield 52, 3) := by decide +kernel
theorem dX5_clause_14 : decode cX5_clause 14 = .ok (.ifCond .ne 19, 3) := by decide +kernel
theorem dX5_clause_17 : decode cX5_clause 17 = .ok (.iload_n 2, 1) := by decide +kernel
theorem dX5_clause_18 : decode cX5_clause 18 = .ok (.bipush 112, 2) := by decide +kernel
theorem dX5_clause_20 : decode cX5_clause 20 = .ok (.if_icmp .eq 13, 3) := by decide +kernel
theorem dX5_clause_23 : decode cX5_clause 23 = .ok (.aload_n 0, 1) := by decide +kernel
theorem dX5_clause_24 : decode cX5_clause 24 = .ok (.iconst 1, 1) := by decide +kernel
theorem dX5_clause_25 : decode cX5_clause 25 = .ok (.aload_n 0, 1) := by decide +kernel
theorem dX5_clause_26 : decode cX5_clause 26 = .ok (.getfield 28, 3) := by decide +kernel
theorem dX5_clause_29 : decode cX5_clause 29 = .ok (.invokevirtual 45, 3) := by decide +kernel
theorem dX5_clause_32 : decode cX5_clause 32 = .ok (.return_, 1) := by decide +kernel
theorem dX5_clause_33 : decode cX5_clause 33 = .ok (.iload_n 2, 1) := by decide +kernel
theorem dX5_clause_34 : decode cX5_clause 34 = .ok (.tableswitch 134 99 116 #[102, 134, 126, 94, 134, 134, 134, 134, 134, 134, 134, 134, 134, 86, 134, 118, 134, 110], 86) := by decide +kernel
theorem dX5_clause_120 : decode cX5_clause 120 = .ok (.aload_n 0, 1) := by decide +kernel
theorem dX5_clause_121 : decode cX5_clause 121 = .ok (.aload_n 1, 1) := by decide +kernel
theorem dX5_clause_122 : decode cX5_clause 122 = .ok (.invokevirtual 55, 3) := by decide +kernel
theorem dX5_clause_125 : decode cX5_clause 125 = .ok (.goto 52, 3) := by decide +kernel
theorem dX5_clause_128 : decode cX5_clause 128 = .ok (.aload_n 0, 1) := by decide +kernel
theorem dX5_clause_129 : decode cX5_clause 129 = .ok (.aload_n 1, 1) := by decide +kernel
theorem dX5_clause_130 : decode cX5_clause 130 = .ok (.invokevirtual 58, 3) := by decide +kernel
theorem dX5_clause_133 : decode cX5_clause 133 = .ok (.goto 44, 3) := by decide +kernel
theorem dX5_clause_136 : decode cX5_clause 136 = .ok (.aload_n 0, 1) := by decide +kernel
theorem dX5_clause_137 : decode cX5_clause 137 = .ok (.aload_n 1, 1) := by decide +kernel
theorem dX5_clause_138 : decode cX5_clause 138 = .ok (.invokevirtual 61, 3) := by decide +kernel
theorem dX5_clause_141 : decode cX5_clause 141 = .ok (.goto 36, 3) := by decide +kernel
theorem dX5_clause_144 : decode cX5_clause 144 = .ok (.aload_n 0, 1) := by decide +kernel
theorem dX5_clause_145 : decode cX5_clause 145 = .ok (.aload_n 1, 1) := by decide +kernel
theorem dX5_clause_146 : decode cX5_clause 146 = .ok (.invokevirtual 64, 3) := by decide +kernel
theorem dX5_clause_149 : decode cX5_clause 149 = .ok (.goto 28, 3) := by decide +kernel
theorem dX5_clause_152 : decode cX5_clause 152 = .ok (.aload_n 0, 1) := by decide +kernel
theorem dX5_clause_153 : decode cX5_clause 153 = .ok (.aload_n 1, 1) := by decide +kernel
theorem dX5_clause_154 : decode cX5_clause 154 = .ok (.invokevirtual 67, 3) := by decide +kernel
theorem dX5_clause_157 : decode cX5_clause 157 = .ok (.goto 20, 3) := by decide +kernel
theorem dX5_clause_160 : decode cX5_clause 160 = .ok (.aload_n 0, 1) := by decide +kernel
theorem dX5_clause_161 : decode cX5_clause 161 = .ok (.aload_n 1, 1) := by decide +kernel
theorem dX5_clause_162 : decode cX5_clause 162 = .ok (.invokevirtual 70, 3) := by decide +kernel
theorem dX5_clause_165 : decode cX5_clause 165 = .ok (.goto 12, 3) := by decide +kernel
theorem dX5_clause_168 : decode cX5_clause 168 = .ok (.aload_n 0, 1) := by decide +kernel
theorem dX5_clause_169 : decode cX5_clause 169 = .ok (.iconst 1, 1) := by decide +kernel
theorem dX5_clause_170 : decode cX5_clause 170 = .ok (.aload_n 0, 1) := by decide +kernel
theorem dX5_clause_171 : decode cX5_clause 171 = .ok (.getfield 28, 3) := by decide +kernel
theorem dX5_clause_174 : decode cX5_clause 174 = .ok (.invokevirtual 45, 3) := by decide +kernel
theorem dX5_clause_177 : decode cX5_clause 177 = .ok (.return_, 1) := by decide +kernel
theorem dX5_peopleClause_0 : decode cX5_peopleClause 0 = .ok (.aload_n 1, 1) := by decide +kernel
theorem dX5_peopleClause_1 : decode cX5_peopleClause 1 = .ok (.getfield 52, 3) := by decide +kernel
theorem dX5_peopleClause_4 : decode cX5_peopleClause 4 = .ok (.ifCond .le 13, 3) := by decide +kernel
theorem dX5_peopleClause_7 : decode cX5_peopleClause 7 = .ok (.aload_n 0, 1) := by decide +kernel
theorem dX5_peopleClause_8 : decode cX5_peopleClause 8 = .ok (.iconst 3, 1) := by decide +kernel
theorem dX5_peopleClause_9 : decode cX5_peopleClause 9 = .ok (.aload_n 0, 1) := by decide +kernel
theorem dX5_peopleClause_10 : decode cX5_peopleClause 10 = .ok (.getfield 28, 3) := by decide +kernel
theorem dX5_peopleClause_13 : decode cX5_peopleClause 13 = .ok (.invokevirtual 45, 3) := by decide +kernel
theorem dX5_peopleClause_16 : decode cX5_peopleClause 16 = .ok (.return_, 1) := by decide +kernel
theorem dX5_peopleClause_17 : decode cX5_peopleClause 17 = .ok (.aload_n 0, 1) := by decide +kernel
theorem dX5_peopleClause_18 : decode cX5_peopleClause 18 = .ok (.dup, 1) := by decide +kernel
theorem dX5_peopleClause_19 : decode cX5_peopleClause 19 = .ok (.getfield 28, 3) := by decide +kernel
theorem dX5_peopleClause_22 : decode cX5_peopleClause 22 = .ok (.iconst 1, 1) := by decide +kernel
theorem dX5_peopleClause_23 : decode cX5_peopleClause 23 = .ok (.iadd, 1) := by decide +kernel
theorem dX5_peopleClause_24 : decode cX5_peopleClause 24 = .ok (.putfield 28, 3) := by decide +kernel
theorem dX5_peopleClause_27 : decode cX5_peopleClause 27 = .ok (.aload_n 0, 1) := by decide +kernel
theorem dX5_peopleClause_28 : decode cX5_peopleClause 28 = .ok (.iconst 1, 1) := by decide +kernel
theorem dX5_peopleClause_29 : decode cX5_peopleClause 29 = .ok (.bipush 6, 2) := by decide +kernel
theorem dX5_peopleClause_31 : decode cX5_peopleClause 31 = .ok (.invokevirtual 73, 3) := by decide +kernel
theorem dX5_peopleClause_34 : decode cX5_peopleClause 34 = .ok (.istore_n 2, 1) := by decide +kernel
theorem dX5_peopleClause_35 : decode cX5_peopleClause 35 = .ok (.aload_n 0, 1) := by decide +kernel
theorem dX5_peopleClause_36 : decode cX5_peopleClause 36 = .ok (.invokevirtual 77, 3) := by decide +kernel
theorem dX5_peopleClause_39 : decode cX5_peopleClause 39 = .ok (.aload_n 1, 1) := by decide +kernel
theorem dX5_peopleClause_40 : decode cX5_peopleClause 40 = .ok (.iload_n 2, 1) := by decide +kernel
theorem dX5_peopleClause_41 : decode cX5_peopleClause 41 = .ok (.putfield 52, 3) := by decide +kernel
theorem dX5_peopleClause_44 : decode cX5_peopleClause 44 = .ok (.return_, 1) := by decide +kernel
theorem dX5_fighterClause_0 : decode cX5_fighterClause 0 = .ok (.aload_n 1, 1) := by decide +kernel
theorem dX5_fighterClause_1 : decode cX5_fighterClause 1 = .ok (.getfield 80, 3) := by decide +kernel
theorem dX5_fighterClause_4 : decode cX5_fighterClause 4 = .ok (.istore_n 2, 1) := by decide +kernel
theorem dX5_fighterClause_5 : decode cX5_fighterClause 5 = .ok (.iload_n 2, 1) := by decide +kernel
theorem dX5_fighterClause_6 : decode cX5_fighterClause 6 = .ok (.iconst 5, 1) := by decide +kernel
theorem dX5_fighterClause_7 : decode cX5_fighterClause 7 = .ok (.if_icmp .lt 13, 3) := by decide +kernel
theorem dX5_fighterClause_10 : decode cX5_fighterClause 10 = .ok (.aload_n 0, 1) := by decide +kernel
theorem dX5_fighterClause_11 : decode cX5_fighterClause 11 = .ok (.iconst 3, 1) := by decide +kernel
theorem dX5_fighterClause_12 : decode cX5_fighterClause 12 = .ok (.aload_n 0, 1) := by decide +kernel
theorem dX5_fighterClause_13 : decode cX5_fighterClause 13 = .ok (.getfield 28, 3) := by decide +kernel
theorem dX5_fighterClause_16 : decode cX5_fighterClause 16 = .ok (.invokevirtual 45, 3) := by decide +kernel
theorem dX5_fighterClause_19 : decode cX5_fighterClause 19 = .ok (.return_, 1) := by decide +kernel
theorem dX5_fighterClause_20 : decode cX5_fighterClause 20 = .ok (.aload_n 0, 1) := by decide +kernel
theorem dX5_fighterClause_21 : decode cX5_fighterClause 21 = .ok (.dup, 1) := by decide +kernel
theorem dX5_fighterClause_22 : decode cX5_fighterClause 22 = .ok (.getfield 28, 3) := by decide +kernel
theorem dX5_fighterClause_25 : decode cX5_fighterClause 25 = .ok (.iconst 1, 1) := by decide +kernel
theorem dX5_fighterClause_26 : decode cX5_fighterClause 26 = .ok (.iadd, 1) := by decide +kernel
theorem dX5_fighterClause_27 : decode cX5_fighterClause 27 = .ok (.putfield 28, 3) := by decide +kernel
theorem dX5_fighterClause_30 : decode cX5_fighterClause 30 = .ok (.aload_n 1, 1) := by decide +kernel
theorem dX5_fighterClause_31 : decode cX5_fighterClause 31 = .ok (.getfield 83, 3) := by decide +kernel
theorem dX5_fighterClause_34 : decode cX5_fighterClause 34 = .ok (.iload_n 2, 1) := by decide +kernel
theorem dX5_fighterClause_35 : decode cX5_fighterClause 35 = .ok (.aload_n 0, 1) := by decide +kernel
theorem dX5_fighterClause_36 : decode cX5_fighterClause 36 = .ok (.iconst 0, 1) := by decide +kernel
theorem dX5_fighterClause_37 : decode cX5_fighterClause 37 = .ok (.iconst 4, 1) := by decide +kernel
theorem dX5_fighterClause_38 : decode cX5_fighterClause 38 = .ok (.invokevirtual 73, 3) := by decide +kernel
theorem dX5_fighterClause_41 : decode cX5_fighterClause 41 = .ok (.iastore, 1) := by decide +kernel
theorem dX5_fighterClause_42 : decode cX5_fighterClause 42 = .ok (.aload_n 1, 1) := by decide +kernel
theorem dX5_fighterClause_43 : decode cX5_fighterClause 43 = .ok (.getfield 86, 3) := by decide +kernel
theorem dX5_fighterClause_46 : decode cX5_fighterClause 46 = .ok (.iload_n 2, 1) := by decide +kernel
theorem dX5_fighterClause_47 : decode cX5_fighterClause 47 = .ok (.aload_n 0, 1) := by decide +kernel
theorem dX5_fighterClause_48 : decode cX5_fighterClause 48 = .ok (.iconst 0, 1) := by decide +kernel
theorem dX5_fighterClause_49 : decode cX5_fighterClause 49 = .ok (.bipush 99, 2) := by decide +kernel
theorem dX5_fighterClause_51 : decode cX5_fighterClause 51 = .ok (.invokevirtual 73, 3) := by decide +kernel
theorem dX5_fighterClause_54 : decode cX5_fighterClause 54 = .ok (.iastore, 1) := by decide +kernel
theorem dX5_fighterClause_55 : decode cX5_fighterClause 55 = .ok (.aload_n 1, 1) := by decide +kernel
theorem dX5_fighterClause_56 : decode cX5_fighterClause 56 = .ok (.getfield 89, 3) := by decide +kernel
theorem dX5_fighterClause_59 : decode cX5_fighterClause 59 = .ok (.iload_n 2, 1) := by decide +kernel
theorem dX5_fighterClause_60 : decode cX5_fighterClause 60 = .ok (.aload_n 0, 1) := by decide +kernel
theorem dX5_fighterClause_61 : decode cX5_fighterClause 61 = .ok (.iconst 0, 1) := by decide +kernel
theorem dX5_fighterClause_62 : decode cX5_fighterClause 62 = .ok (.bipush 99, 2) := by decide +kernel
theorem dX5_fighterClause_64 : decode cX5_fighterClause 64 = .ok (.invokevirtual 73, 3) := by decide +kernel
theorem dX5_fighterClause_67 : decode cX5_fighterClause 67 = .ok (.iastore, 1) := by decide +kernel
theorem dX5_fighterClause_68 : decode cX5_fighterClause 68 = .ok (.aload_n 0, 1) := by decide +kernel
theorem dX5_fighterClause_69 : decode cX5_fighterClause 69 = .ok (.invokevirtual 77, 3) := by decide +kernel
theorem dX5_fighterClause_72 : decode cX5_fighterClause 72 = .ok (.aload_n 1, 1) := by decide +kernel
theorem dX5_fighterClause_73 : decode cX5_fighterClause 73 = .ok (.iload_n 2, 1) := by decide +kernel
theorem dX5_fighterClause_74 : decode cX5_fighterClause 74 = .ok (.iconst 1, 1) := by decide +kernel
theorem dX5_fighterClause_75 : decode cX5_fighterClause 75 = .ok (.iadd, 1) := by decide +kernel
theorem dX5_fighterClause_76 : decode cX5_fighterClause 76 = .ok (.putfield 80, 3) := by decide +kernel
theorem dX5_fighterClause_79 : decode cX5_fighterClause 79 = .ok (.return_, 1) := by decide +kernel
theorem dX5_chatClause_0 : decode cX5_chatClause 0 = .ok (.aload_n 1, 1) := by decide +kernel
theorem dX5_chatClause_1 : decode cX5_chatClause 1 = .ok (.getfield 92, 3) := by decide +kernel
theorem dX5_chatClause_4 : decode cX5_chatClause 4 = .ok (.bipush 10, 2) := by decide +kernel
theorem dX5_chatClause_6 : decode cX5_chatClause 6 = .ok (.if_icmp .lt 13, 3) := by decide +kernel
theorem dX5_chatClause_9 : decode cX5_chatClause 9 = .ok (.aload_n 0, 1) := by decide +kernel
theorem dX5_chatClause_10 : decode cX5_chatClause 10 = .ok (.iconst 3, 1) := by decide +kernel
theorem dX5_chatClause_11 : decode cX5_chatClause 11 = .ok (.aload_n 0, 1) := by decide +kernel
theorem dX5_chatClause_12 : decode cX5_chatClause 12 = .ok (.getfield 28, 3) := by decide +kernel
theorem dX5_chatClause_15 : decode cX5_chatClause 15 = .ok (.invokevirtual 45, 3) := by decide +kernel
theorem dX5_chatClause_18 : decode cX5_chatClause 18 = .ok (.return_, 1) := by decide +kernel
theorem dX5_chatClause_19 : decode cX5_chatClause 19 = .ok (.aload_n 0, 1) := by decide +kernel
theorem dX5_chatClause_20 : decode cX5_chatClause 20 = .ok (.dup, 1) := by decide +kernel
theorem dX5_chatClause_21 : decode cX5_chatClause 21 = .ok (.getfield 28, 3) := by decide +kernel
theorem dX5_chatClause_24 : decode cX5_chatClause 24 = .ok (.iconst 1, 1) := by decide +kernel
theorem dX5_chatClause_25 : decode cX5_chatClause 25 = .ok (.iadd, 1) := by decide +kernel
theorem dX5_chatClause_26 : decode cX5_chatClause 26 = .ok (.putfield 28, 3) := by decide +kernel
theorem dX5_chatClause_29 : decode cX5_chatClause 29 = .ok (.aload_n 0, 1) := by decide +kernel
theorem dX5_chatClause_30 : decode cX5_chatClause 30 = .ok (.iconst 0, 1) := by decide +kernel
theorem dX5_chatClause_31 : decode cX5_chatClause 31 = .ok (.aload_n 1, 1) := by decide +kernel
theorem dX5_chatClause_32 : decode cX5_chatClause 32 = .ok (.getfield 52, 3) := by decide +kernel
theorem dX5_chatClause_35 : decode cX5_chatClause 35 = .ok (.iconst 1, 1) := by decide +kernel
theorem dX5_chatClause_36 : decode cX5_chatClause 36 = .ok (.isub, 1) := by decide +kernel
theorem dX5_chatClause_37 : decode cX5_chatClause 37 = .ok (.invokevirtual 73, 3) := by decide +kernel
theorem dX5_chatClause_40 : decode cX5_chatClause 40 = .ok (.istore_n 2, 1) := by decide +kernel
theorem dX5_chatClause_41 : decode cX5_chatClause 41 = .ok (.aload_n 0, 1) := by decide +kernel
theorem dX5_chatClause_42 : decode cX5_chatClause 42 = .ok (.iconst 0, 1) := by decide +kernel
theorem dX5_chatClause_43 : decode cX5_chatClause 43 = .ok (.aload_n 1, 1) := by decide +kernel
theorem dX5_chatClause_44 : decode cX5_chatClause 44 = .ok (.getfield 52, 3) := by decide +kernel
theorem dX5_chatClause_47 : decode cX5_chatClause 47 = .ok (.iconst 1, 1) := by decide +kernel
theorem dX5_chatClause_48 : decode cX5_chatClause 48 = .ok (.isub, 1) := by decide +kernel
theorem dX5_chatClause_49 : decode cX5_chatClause 49 = .ok (.invokevirtual 73, 3) := by decide +kernel
theorem dX5_chatClause_52 : decode cX5_chatClause 52 = .ok (.istore_n 3, 1) := by decide +kernel
theorem dX5_chatClause_53 : decode cX5_chatClause 53 = .ok (.iload_n 2, 1) := by decide +kernel
theorem dX5_chatClause_54 : decode cX5_chatClause 54 = .ok (.iload_n 3, 1) := by decide +kernel
theorem dX5_chatClause_55 : decode cX5_chatClause 55 = .ok (.if_icmp .eq 16, 3) := by decide +kernel
theorem dX5_chatClause_58 : decode cX5_chatClause 58 = .ok (.aload_n 1, 1) := by decide +kernel
theorem dX5_chatClause_59 : decode cX5_chatClause 59 = .ok (.getfield 95, 3) := by decide +kernel
theorem dX5_chatClause_62 : decode cX5_chatClause 62 = .ok (.iload_n 2, 1) := by decide +kernel
theorem dX5_chatClause_63 : decode cX5_chatClause 63 = .ok (.iaload, 1) := by decide +kernel
theorem dX5_chatClause_64 : decode cX5_chatClause 64 = .ok (.iload_n 3, 1) := by decide +kernel
theorem dX5_chatClause_65 : decode cX5_chatClause 65 = .ok (.invokestatic 98, 3) := by decide +kernel
theorem dX5_chatClause_68 : decode cX5_chatClause 68 = .ok (.ifCond .eq 12, 3) := by decide +kernel
theorem dX5_chatClause_71 : decode cX5_chatClause 71 = .ok (.aload_n 0, 1) := by decide +kernel
theorem dX5_chatClause_72 : decode cX5_chatClause 72 = .ok (.iconst 4, 1) := by decide +kernel
theorem dX5_chatClause_73 : decode cX5_chatClause 73 = .ok (.aload_n 0, 1) := by decide +kernel
theorem dX5_chatClause_74 : decode cX5_chatClause 74 = .ok (.getfield 49, 3) := by decide +kernel
theorem dX5_chatClause_77 : decode cX5_chatClause 77 = .ok (.invokevirtual 45, 3) := by decide +kernel
theorem dX5_chatClause_80 : decode cX5_chatClause 80 = .ok (.aload_n 0, 1) := by decide +kernel
theorem dX5_chatClause_81 : decode cX5_chatClause 81 = .ok (.invokevirtual 77, 3) := by decide +kernel
theorem dX5_chatClause_84 : decode cX5_chatClause 84 = .ok (.aload_n 1, 1) := by decide +kernel
theorem dX5_chatClause_85 : decode cX5_chatClause 85 = .ok (.getfield 95, 3) := by decide +kernel
theorem dX5_chatClause_88 : decode cX5_chatClause 88 = .ok (.iload_n 2, 1) := by decide +kernel
theorem dX5_chatClause_89 : decode cX5_chatClause 89 = .ok (.dup2, 1) := by decide +kernel
theorem dX5_chatClause_90 : decode cX5_chatClause 90 = .ok (.iaload, 1) := by decide +kernel
theorem dX5_chatClause_91 : decode cX5_chatClause 91 = .ok (.iconst 1, 1) := by decide +kernel
theorem dX5_chatClause_92 : decode cX5_chatClause 92 = .ok (.iload_n 3, 1) := by decide +kernel
theorem dX5_chatClause_93 : decode cX5_chatClause 93 = .ok (.ishl, 1) := by decide +kernel
theorem dX5_chatClause_94 : decode cX5_chatClause 94 = .ok (.ior, 1) := by decide +kernel
theorem dX5_chatClause_95 : decode cX5_chatClause 95 = .ok (.iastore, 1) := by decide +kernel
theorem dX5_chatClause_96 : decode cX5_chatClause 96 = .ok (.aload_n 1, 1) := by decide +kernel
theorem dX5_chatClause_97 : decode cX5_chatClause 97 = .ok (.getfield 95, 3) := by decide +kernel
theorem dX5_chatClause_100 : decode cX5_chatClause 100 = .ok (.iload_n 3, 1) := by decide +kernel
theorem dX5_chatClause_101 : decode cX5_chatClause 101 = .ok (.dup2, 1) := by decide +kernel
theorem dX5_chatClause_102 : decode cX5_chatClause 102 = .ok (.iaload, 1) := by decide +kernel
theorem dX5_chatClause_103 : decode cX5_chatClause 103 = .ok (.iconst 1, 1) := by decide +kernel
theorem dX5_chatClause_104 : decode cX5_chatClause 104 = .ok (.iload_n 2, 1) := by decide +kernel
theorem dX5_chatClause_105 : decode cX5_chatClause 105 = .ok (.ishl, 1) := by decide +kernel
theorem dX5_chatClause_106 : decode cX5_chatClause 106 = .ok (.ior, 1) := by decide +kernel
theorem dX5_chatClause_107 : decode cX5_chatClause 107 = .ok (.iastore, 1) := by decide +kernel
theorem dX5_chatClause_108 : decode cX5_chatClause 108 = .ok (.aload_n 1, 1) := by decide +kernel
theorem dX5_chatClause_109 : decode cX5_chatClause 109 = .ok (.dup, 1) := by decide +kernel
theorem dX5_chatClause_110 : decode cX5_chatClause 110 = .ok (.getfield 92, 3) := by decide +kernel
theorem dX5_chatClause_113 : decode cX5_chatClause 113 = .ok (.iconst 1, 1) := by decide +kernel
theorem dX5_chatClause_114 : decode cX5_chatClause 114 = .ok (.iadd, 1) := by decide +kernel
theorem dX5_chatClause_115 : decode cX5_chatClause 115 = .ok (.putfield 92, 3) := by decide +kernel
theorem dX5_chatClause_118 : decode cX5_chatClause 118 = .ok (.return_, 1) := by decide +kernel
theorem dX5_taskClause_0 : decode cX5_taskClause 0 = .ok (.aload_n 1, 1) := by decide +kernel
theorem dX5_taskClause_1 : decode cX5_taskClause 1 = .ok (.getfield 102, 3) := by decide +kernel
theorem dX5_taskClause_4 : decode cX5_taskClause 4 = .ok (.istore_n 2, 1) := by decide +kernel
theorem dX5_taskClause_5 : decode cX5_taskClause 5 = .ok (.iload_n 2, 1) := by decide +kernel
theorem dX5_taskClause_6 : decode cX5_taskClause 6 = .ok (.bipush 6, 2) := by decide +kernel
theorem dX5_taskClause_8 : decode cX5_taskClause 8 = .ok (.if_icmp .lt 13, 3) := by decide +kernel
theorem dX5_taskClause_11 : decode cX5_taskClause 11 = .ok (.aload_n 0, 1) := by decide +kernel
theorem dX5_taskClause_12 : decode cX5_taskClause 12 = .ok (.iconst 3, 1) := by decide +kernel
theorem dX5_taskClause_13 : decode cX5_taskClause 13 = .ok (.aload_n 0, 1) := by decide +kernel
theorem dX5_taskClause_14 : decode cX5_taskClause 14 = .ok (.getfield 28, 3) := by decide +kernel
theorem dX5_taskClause_17 : decode cX5_taskClause 17 = .ok (.invokevirtual 45, 3) := by decide +kernel
theorem dX5_taskClause_20 : decode cX5_taskClause 20 = .ok (.return_, 1) := by decide +kernel
theorem dX5_taskClause_21 : decode cX5_taskClause 21 = .ok (.aload_n 0, 1) := by decide +kernel
theorem dX5_taskClause_22 : decode cX5_taskClause 22 = .ok (.dup, 1) := by decide +kernel
theorem dX5_taskClause_23 : decode cX5_taskClause 23 = .ok (.getfield 28, 3) := by decide +kernel
theorem dX5_taskClause_26 : decode cX5_taskClause 26 = .ok (.iconst 1, 1) := by decide +kernel
theorem dX5_taskClause_27 : decode cX5_taskClause 27 = .ok (.iadd, 1) := by decide +kernel
theorem dX5_taskClause_28 : decode cX5_taskClause 28 = .ok (.putfield 28, 3) := by decide +kernel
theorem dX5_taskClause_31 : decode cX5_taskClause 31 = .ok (.aload_n 1, 1) := by decide +kernel
theorem dX5_taskClause_32 : decode cX5_taskClause 32 = .ok (.getfield 105, 3) := by decide +kernel
theorem dX5_taskClause_35 : decode cX5_taskClause 35 = .ok (.iload_n 2, 1) := by decide +kernel
theorem dX5_taskClause_36 : decode cX5_taskClause 36 = .ok (.aload_n 0, 1) := by decide +kernel
theorem dX5_taskClause_37 : decode cX5_taskClause 37 = .ok (.iconst 0, 1) := by decide +kernel
theorem dX5_taskClause_38 : decode cX5_taskClause 38 = .ok (.aload_n 1, 1) := by decide +kernel
theorem dX5_taskClause_39 : decode cX5_taskClause 39 = .ok (.getfield 52, 3) := by decide +kernel
theorem dX5_taskClause_42 : decode cX5_taskClause 42 = .ok (.iconst 1, 1) := by decide +kernel
theorem dX5_taskClause_43 : decode cX5_taskClause 43 = .ok (.isub, 1) := by decide +kernel
theorem dX5_taskClause_44 : decode cX5_taskClause 44 = .ok (.invokevirtual 73, 3) := by decide +kernel
theorem dX5_taskClause_47 : decode cX5_taskClause 47 = .ok (.iastore, 1) := by decide +kernel
theorem dX5_taskClause_48 : decode cX5_taskClause 48 = .ok (.aload_n 1, 1) := by decide +kernel
theorem dX5_taskClause_49 : decode cX5_taskClause 49 = .ok (.getfield 108, 3) := by decide +kernel
theorem dX5_taskClause_52 : decode cX5_taskClause 52 = .ok (.iload_n 2, 1) := by decide +kernel
theorem dX5_taskClause_53 : decode cX5_taskClause 53 = .ok (.aload_n 0, 1) := by decide +kernel
theorem dX5_taskClause_54 : decode cX5_taskClause 54 = .ok (.iconst 0, 1) := by decide +kernel
theorem dX5_taskClause_55 : decode cX5_taskClause 55 = .ok (.bipush 99, 2) := by decide +kernel
theorem dX5_taskClause_57 : decode cX5_taskClause 57 = .ok (.invokevirtual 73, 3) := by decide +kernel
theorem dX5_taskClause_60 : decode cX5_taskClause 60 = .ok (.iastore, 1) := by decide +kernel
theorem dX5_taskClause_61 : decode cX5_taskClause 61 = .ok (.aload_n 1, 1) := by decide +kernel
theorem dX5_taskClause_62 : decode cX5_taskClause 62 = .ok (.getfield 111, 3) := by decide +kernel
theorem dX5_taskClause_65 : decode cX5_taskClause 65 = .ok (.iload_n 2, 1) := by decide +kernel
theorem dX5_taskClause_66 : decode cX5_taskClause 66 = .ok (.aload_n 0, 1) := by decide +kernel
theorem dX5_taskClause_67 : decode cX5_taskClause 67 = .ok (.iconst 0, 1) := by decide +kernel
theorem dX5_taskClause_68 : decode cX5_taskClause 68 = .ok (.bipush 99, 2) := by decide +kernel
theorem dX5_taskClause_70 : decode cX5_taskClause 70 = .ok (.invokevirtual 73, 3) := by decide +kernel
theorem dX5_taskClause_73 : decode cX5_taskClause 73 = .ok (.iastore, 1) := by decide +kernel
theorem dX5_taskClause_74 : decode cX5_taskClause 74 = .ok (.aload_n 1, 1) := by decide +kernel
theorem dX5_taskClause_75 : decode cX5_taskClause 75 = .ok (.getfield 114, 3) := by decide +kernel
theorem dX5_taskClause_78 : decode cX5_taskClause 78 = .ok (.iload_n 2, 1) := by decide +kernel
theorem dX5_taskClause_79 : decode cX5_taskClause 79 = .ok (.aload_n 0, 1) := by decide +kernel
theorem dX5_taskClause_80 : decode cX5_taskClause 80 = .ok (.iconst 0, 1) := by decide +kernel
theorem dX5_taskClause_81 : decode cX5_taskClause 81 = .ok (.bipush 20, 2) := by decide +kernel
theorem dX5_taskClause_83 : decode cX5_taskClause 83 = .ok (.invokevirtual 73, 3) := by decide +kernel
theorem dX5_taskClause_86 : decode cX5_taskClause 86 = .ok (.iastore, 1) := by decide +kernel
theorem dX5_taskClause_87 : decode cX5_taskClause 87 = .ok (.aload_n 0, 1) := by decide +kernel
theorem dX5_taskClause_88 : decode cX5_taskClause 88 = .ok (.invokevirtual 77, 3) := by decide +kernel
theorem dX5_taskClause_91 : decode cX5_taskClause 91 = .ok (.aload_n 1, 1) := by decide +kernel
theorem dX5_taskClause_92 : decode cX5_taskClause 92 = .ok (.iload_n 2, 1) := by decide +kernel
theorem dX5_taskClause_93 : decode cX5_taskClause 93 = .ok (.iconst 1, 1) := by decide +kernel
theorem dX5_taskClause_94 : decode cX5_taskClause 94 = .ok (.iadd, 1) := by decide +kernel
theorem dX5_taskClause_95 : decode cX5_taskClause 95 = .ok (.putfield 102, 3) := by decide +kernel
theorem dX5_taskClause_98 : decode cX5_taskClause 98 = .ok (.return_, 1) := by decide +kernel
theorem dX5_trickClause_0 : decode cX5_trickClause 0 = .ok (.aload_n 1, 1) := by decide +kernel
theorem dX5_trickClause_1 : decode cX5_trickClause 1 = .ok (.getfield 117, 3) := by decide +kernel
theorem dX5_trickClause_4 : decode cX5_trickClause 4 = .ok (.istore_n 2, 1) := by decide +kernel
theorem dX5_trickClause_5 : decode cX5_trickClause 5 = .ok (.iload_n 2, 1) := by decide +kernel
theorem dX5_trickClause_6 : decode cX5_trickClause 6 = .ok (.iconst 4, 1) := by decide +kernel
theorem dX5_trickClause_7 : decode cX5_trickClause 7 = .ok (.if_icmp .lt 13, 3) := by decide +kernel
theorem dX5_trickClause_10 : decode cX5_trickClause 10 = .ok (.aload_n 0, 1) := by decide +kernel
theorem dX5_trickClause_11 : decode cX5_trickClause 11 = .ok (.iconst 3, 1) := by decide +kernel
theorem dX5_trickClause_12 : decode cX5_trickClause 12 = .ok (.aload_n 0, 1) := by decide +kernel
theorem dX5_trickClause_13 : decode cX5_trickClause 13 = .ok (.getfield 28, 3) := by decide +kernel
theorem dX5_trickClause_16 : decode cX5_trickClause 16 = .ok (.invokevirtual 45, 3) := by decide +kernel
theorem dX5_trickClause_19 : decode cX5_trickClause 19 = .ok (.return_, 1) := by decide +kernel
theorem dX5_trickClause_20 : decode cX5_trickClause 20 = .ok (.aload_n 0, 1) := by decide +kernel
theorem dX5_trickClause_21 : decode cX5_trickClause 21 = .ok (.dup, 1) := by decide +kernel
theorem dX5_trickClause_22 : decode cX5_trickClause 22 = .ok (.getfield 28, 3) := by decide +kernel
theorem dX5_trickClause_25 : decode cX5_trickClause 25 = .ok (.iconst 1, 1) := by decide +kernel
theorem dX5_trickClause_26 : decode cX5_trickClause 26 = .ok (.iadd, 1) := by decide +kernel
theorem dX5_trickClause_27 : decode cX5_trickClause 27 = .ok (.putfield 28, 3) := by decide +kernel
theorem dX5_trickClause_30 : decode cX5_trickClause 30 = .ok (.aload_n 1, 1) := by decide +kernel
theorem dX5_trickClause_31 : decode cX5_trickClause 31 = .ok (.getfield 120, 3) := by decide +kernel
theorem dX5_trickClause_34 : decode cX5_trickClause 34 = .ok (.iload_n 2, 1) := by decide +kernel
theorem dX5_trickClause_35 : decode cX5_trickClause 35 = .ok (.aload_n 0, 1) := by decide +kernel
theorem dX5_trickClause_36 : decode cX5_trickClause 36 = .ok (.iconst 0, 1) := by decide +kernel
theorem dX5_trickClause_37 : decode cX5_trickClause 37 = .ok (.aload_n 1, 1) := by decide +kernel
theorem dX5_trickClause_38 : decode cX5_trickClause 38 = .ok (.getfield 102, 3) := by decide +kernel
theorem dX5_trickClause_41 : decode cX5_trickClause 41 = .ok (.iconst 1, 1) := by decide +kernel
theorem dX5_trickClause_42 : decode cX5_trickClause 42 = .ok (.isub, 1) := by decide +kernel
theorem dX5_trickClause_43 : decode cX5_trickClause 43 = .ok (.invokevirtual 73, 3) := by decide +kernel
theorem dX5_trickClause_46 : decode cX5_trickClause 46 = .ok (.iastore, 1) := by decide +kernel
theorem dX5_trickClause_47 : decode cX5_trickClause 47 = .ok (.aload_n 1, 1) := by decide +kernel
theorem dX5_trickClause_48 : decode cX5_trickClause 48 = .ok (.getfield 123, 3) := by decide +kernel
theorem dX5_trickClause_51 : decode cX5_trickClause 51 = .ok (.iload_n 2, 1) := by decide +kernel
theorem dX5_trickClause_52 : decode cX5_trickClause 52 = .ok (.aload_n 0, 1) := by decide +kernel
theorem dX5_trickClause_53 : decode cX5_trickClause 53 = .ok (.iconst 1, 1) := by decide +kernel
theorem dX5_trickClause_54 : decode cX5_trickClause 54 = .ok (.bipush 99, 2) := by decide +kernel
theorem dX5_trickClause_56 : decode cX5_trickClause 56 = .ok (.invokevirtual 73, 3) := by decide +kernel
theorem dX5_trickClause_59 : decode cX5_trickClause 59 = .ok (.iastore, 1) := by decide +kernel
theorem dX5_trickClause_60 : decode cX5_trickClause 60 = .ok (.aload_n 1, 1) := by decide +kernel
theorem dX5_trickClause_61 : decode cX5_trickClause 61 = .ok (.getfield 126, 3) := by decide +kernel
theorem dX5_trickClause_64 : decode cX5_trickClause 64 = .ok (.iload_n 2, 1) := by decide +kernel
theorem dX5_trickClause_65 : decode cX5_trickClause 65 = .ok (.aload_n 0, 1) := by decide +kernel
theorem dX5_trickClause_66 : decode cX5_trickClause 66 = .ok (.iconst 0, 1) := by decide +kernel
theorem dX5_trickClause_67 : decode cX5_trickClause 67 = .ok (.bipush 99, 2) := by decide +kernel
theorem dX5_trickClause_69 : decode cX5_trickClause 69 = .ok (.invokevirtual 73, 3) := by decide +kernel
theorem dX5_trickClause_72 : decode cX5_trickClause 72 = .ok (.iastore, 1) := by decide +kernel
theorem dX5_trickClause_73 : decode cX5_trickClause 73 = .ok (.aload_n 0, 1) := by decide +kernel
theorem dX5_trickClause_74 : decode cX5_trickClause 74 = .ok (.invokevirtual 77, 3) := by decide +kernel
theorem dX5_trickClause_77 : decode cX5_trickClause 77 = .ok (.aload_n 1, 1) := by decide +kernel
theorem dX5_trickClause_78 : decode cX5_trickClause 78 = .ok (.iload_n 2, 1) := by decide +kernel
theorem dX5_trickClause_79 : decode cX5_trickClause 79 = .ok (.iconst 1, 1) := by decide +kernel
theorem dX5_trickClause_80 : decode cX5_trickClause 80 = .ok (.iadd, 1) := by decide +kernel
theorem dX5_trickClause_81 : decode cX5_trickClause 81 = .ok (.putfield 117, 3) := by decide +kernel
theorem dX5_trickClause_84 : decode cX5_trickClause 84 = .ok (.return_, 1) := by decide +kernel
theorem dX5_thoughtClause_0 : decode cX5_thoughtClause 0 = .ok (.aload_n 0, 1) := by decide +kernel
theorem dX5_thoughtClause_1 : decode cX5_thoughtClause 1 = .ok (.dup, 1) := by decide +kernel
theorem dX5_thoughtClause_2 : decode cX5_thoughtClause 2 = .ok (.getfield 28, 3) := by decide +kernel
theorem dX5_thoughtClause_5 : decode cX5_thoughtClause 5 = .ok (.iconst 1, 1) := by decide +kernel
theorem dX5_thoughtClause_6 : decode cX5_thoughtClause 6 = .ok (.iadd, 1) := by decide +kernel
theorem dX5_thoughtClause_7 : decode cX5_thoughtClause 7 = .ok (.putfield 28, 3) := by decide +kernel
theorem dX5_thoughtClause_10 : decode cX5_thoughtClause 10 = .ok (.aload_n 0, 1) := by decide +kernel
theorem dX5_thoughtClause_11 : decode cX5_thoughtClause 11 = .ok (.iconst 0, 1) := by decide +kernel
theorem dX5_thoughtClause_12 : decode cX5_thoughtClause 12 = .ok (.aload_n 1, 1) := by decide +kernel
theorem dX5_thoughtClause_13 : decode cX5_thoughtClause 13 = .ok (.getfield 52, 3) := by decide +kernel
theorem dX5_thoughtClause_16 : decode cX5_thoughtClause 16 = .ok (.iconst 1, 1) := by decide +kernel
theorem dX5_thoughtClause_17 : decode cX5_thoughtClause 17 = .ok (.isub, 1) := by decide +kernel
theorem dX5_thoughtClause_18 : decode cX5_thoughtClause 18 = .ok (.invokevirtual 73, 3) := by decide +kernel
theorem dX5_thoughtClause_21 : decode cX5_thoughtClause 21 = .ok (.istore_n 2, 1) := by decide +kernel
theorem dX5_thoughtClause_22 : decode cX5_thoughtClause 22 = .ok (.aload_n 0, 1) := by decide +kernel
theorem dX5_thoughtClause_23 : decode cX5_thoughtClause 23 = .ok (.iconst 0, 1) := by decide +kernel
theorem dX5_thoughtClause_24 : decode cX5_thoughtClause 24 = .ok (.aload_n 1, 1) := by decide +kernel
theorem dX5_thoughtClause_25 : decode cX5_thoughtClause 25 = .ok (.getfield 80, 3) := by decide +kernel
theorem dX5_thoughtClause_28 : decode cX5_thoughtClause 28 = .ok (.iconst 1, 1) := by decide +kernel
theorem dX5_thoughtClause_29 : decode cX5_thoughtClause 29 = .ok (.isub, 1) := by decide +kernel
theorem dX5_thoughtClause_30 : decode cX5_thoughtClause 30 = .ok (.invokevirtual 73, 3) := by decide +kernel
theorem dX5_thoughtClause_33 : decode cX5_thoughtClause 33 = .ok (.istore_n 3, 1) := by decide +kernel
theorem dX5_thoughtClause_34 : decode cX5_thoughtClause 34 = .ok (.iload_n 2, 1) := by decide +kernel
theorem dX5_thoughtClause_35 : decode cX5_thoughtClause 35 = .ok (.iload_n 3, 1) := by decide +kernel
theorem dX5_thoughtClause_36 : decode cX5_thoughtClause 36 = .ok (.invokestatic 129, 3) := by decide +kernel
theorem dX5_thoughtClause_39 : decode cX5_thoughtClause 39 = .ok (.istore 4, 2) := by decide +kernel
theorem dX5_thoughtClause_41 : decode cX5_thoughtClause 41 = .ok (.aload_n 1, 1) := by decide +kernel
theorem dX5_thoughtClause_42 : decode cX5_thoughtClause 42 = .ok (.getfield 132, 3) := by decide +kernel
theorem dX5_thoughtClause_45 : decode cX5_thoughtClause 45 = .ok (.iload 4, 2) := by decide +kernel
theorem dX5_thoughtClause_47 : decode cX5_thoughtClause 47 = .ok (.invokestatic 98, 3) := by decide +kernel
theorem dX5_thoughtClause_50 : decode cX5_thoughtClause 50 = .ok (.ifCond .eq 12, 3) := by decide +kernel
theorem dX5_thoughtClause_53 : decode cX5_thoughtClause 53 = .ok (.aload_n 0, 1) := by decide +kernel
theorem dX5_thoughtClause_54 : decode cX5_thoughtClause 54 = .ok (.iconst 4, 1) := by decide +kernel
theorem dX5_thoughtClause_55 : decode cX5_thoughtClause 55 = .ok (.aload_n 0, 1) := by decide +kernel
theorem dX5_thoughtClause_56 : decode cX5_thoughtClause 56 = .ok (.getfield 49, 3) := by decide +kernel
theorem dX5_thoughtClause_59 : decode cX5_thoughtClause 59 = .ok (.invokevirtual 45, 3) := by decide +kernel
theorem dX5_thoughtClause_62 : decode cX5_thoughtClause 62 = .ok (.aload_n 1, 1) := by decide +kernel
theorem dX5_thoughtClause_63 : decode cX5_thoughtClause 63 = .ok (.getfield 135, 3) := by decide +kernel
theorem dX5_thoughtClause_66 : decode cX5_thoughtClause 66 = .ok (.iload 4, 2) := by decide +kernel
theorem dX5_thoughtClause_68 : decode cX5_thoughtClause 68 = .ok (.aload_n 0, 1) := by decide +kernel
theorem dX5_thoughtClause_69 : decode cX5_thoughtClause 69 = .ok (.iconst 0, 1) := by decide +kernel
theorem dX5_thoughtClause_70 : decode cX5_thoughtClause 70 = .ok (.bipush 99, 2) := by decide +kernel
theorem dX5_thoughtClause_72 : decode cX5_thoughtClause 72 = .ok (.invokevirtual 73, 3) := by decide +kernel
theorem dX5_thoughtClause_75 : decode cX5_thoughtClause 75 = .ok (.iastore, 1) := by decide +kernel
theorem dX5_thoughtClause_76 : decode cX5_thoughtClause 76 = .ok (.aload_n 1, 1) := by decide +kernel
theorem dX5_thoughtClause_77 : decode cX5_thoughtClause 77 = .ok (.dup, 1) := by decide +kernel
theorem dX5_thoughtClause_78 : decode cX5_thoughtClause 78 = .ok (.getfield 132, 3) := by decide +kernel
theorem dX5_thoughtClause_81 : decode cX5_thoughtClause 81 = .ok (.iconst 1, 1) := by decide +kernel
theorem dX5_thoughtClause_82 : decode cX5_thoughtClause 82 = .ok (.iload 4, 2) := by decide +kernel
theorem dX5_thoughtClause_84 : decode cX5_thoughtClause 84 = .ok (.ishl, 1) := by decide +kernel
theorem dX5_thoughtClause_85 : decode cX5_thoughtClause 85 = .ok (.ior, 1) := by decide +kernel
theorem dX5_thoughtClause_86 : decode cX5_thoughtClause 86 = .ok (.putfield 132, 3) := by decide +kernel
theorem dX5_thoughtClause_89 : decode cX5_thoughtClause 89 = .ok (.aload_n 0, 1) := by decide +kernel
theorem dX5_thoughtClause_90 : decode cX5_thoughtClause 90 = .ok (.invokevirtual 77, 3) := by decide +kernel
theorem dX5_thoughtClause_93 : decode cX5_thoughtClause 93 = .ok (.return_, 1) := by decide +kernel
theorem dX6_init_0 : decode cX6_init 0 = .ok (.aload_n 0, 1) := by decide +kernel
theorem dX6_init_1 : decode cX6_init 1 = .ok (.invokespecial 1, 3) := by decide +kernel
theorem dX6_init_4 : decode cX6_init 4 = .ok (.aload_n 0, 1) := by decide +kernel
theorem dX6_init_5 : decode cX6_init 5 = .ok (.new 7, 3) := by decide +kernel
theorem dX6_init_8 : decode cX6_init 8 = .ok (.dup, 1) := by decide +kernel
theorem dX6_init_9 : decode cX6_init 9 = .ok (.invokespecial 9, 3) := by decide +kernel
theorem dX6_init_12 : decode cX6_init 12 = .ok (.putfield 10, 3) := by decide +kernel
theorem dX6_init_15 : decode cX6_init 15 = .ok (.aload_n 0, 1) := by decide +kernel
theorem dX6_init_16 : decode cX6_init 16 = .ok (.new 16, 3) := by decide +kernel
theorem dX6_init_19 : decode cX6_init 19 = .ok (.dup, 1) := by decide +kernel
theorem dX6_init_20 : decode cX6_init 20 = .ok (.invokespecial 18, 3) := by decide +kernel
theorem dX6_init_23 : decode cX6_init 23 = .ok (.putfield 19, 3) := by decide +kernel
theorem dX6_init_26 : decode cX6_init 26 = .ok (.aload_n 0, 1) := by decide +kernel
theorem dX6_init_27 : decode cX6_init 27 = .ok (.new 16, 3) := by decide +kernel
theorem dX6_init_30 : decode cX6_init 30 = .ok (.dup, 1) := by decide +kernel
theorem dX6_init_31 : decode cX6_init 31 = .ok (.invokespecial 18, 3) := by decide +kernel
theorem dX6_init_34 : decode cX6_init 34 = .ok (.putfield 23, 3) := by decide +kernel
theorem dX6_init_37 : decode cX6_init 37 = .ok (.aload_n 0, 1) := by decide +kernel
theorem dX6_init_38 : decode cX6_init 38 = .ok (.new 26, 3) := by decide +kernel
theorem dX6_init_41 : decode cX6_init 41 = .ok (.dup, 1) := by decide +kernel
theorem dX6_init_42 : decode cX6_init 42 = .ok (.invokespecial 28, 3) := by decide +kernel
theorem dX6_init_45 : decode cX6_init 45 = .ok (.putfield 29, 3) := by decide +kernel
theorem dX6_init_48 : decode cX6_init 48 = .ok (.aload_n 0, 1) := by decide +kernel
theorem dX6_init_49 : decode cX6_init 49 = .ok (.new 26, 3) := by decide +kernel
theorem dX6_init_52 : decode cX6_init 52 = .ok (.dup, 1) := by decide +kernel
theorem dX6_init_53 : decode cX6_init 53 = .ok (.invokespecial 28, 3) := by decide +kernel
theorem dX6_init_56 : decode cX6_init 56 = .ok (.putfield 33, 3) := by decide +kernel
theorem dX6_init_59 : decode cX6_init 59 = .ok (.aload_n 0, 1) := by decide +kernel
theorem dX6_init_60 : decode cX6_init 60 = .ok (.new 26, 3) := by decide +kernel
theorem dX6_init_63 : decode cX6_init 63 = .ok (.dup, 1) := by decide +kernel
theorem dX6_init_64 : decode cX6_init 64 = .ok (.invokespecial 28, 3) := by decide +kernel
theorem dX6_init_67 : decode cX6_init 67 = .ok (.putfield 36, 3) := by decide +kernel
theorem dX6_init_70 : decode cX6_init 70 = .ok (.aload_n 0, 1) := by decide +kernel
theorem dX6_init_71 : decode cX6_init 71 = .ok (.new 39, 3) := by decide +kernel
theorem dX6_init_74 : decode cX6_init 74 = .ok (.dup, 1) := by decide +kernel
theorem dX6_init_75 : decode cX6_init 75 = .ok (.invokespecial 41, 3) := by decide +kernel
theorem dX6_init_78 : decode cX6_init 78 = .ok (.putfield 42, 3) := by decide +kernel
theorem dX6_init_81 : decode cX6_init 81 = .ok (.aload_n 0, 1) := by decide +kernel
theorem dX6_init_82 : decode cX6_init 82 = .ok (.new 46, 3) := by decide +kernel
theorem dX6_init_85 : decode cX6_init 85 = .ok (.dup, 1) := by decide +kernel
theorem dX6_init_86 : decode cX6_init 86 = .ok (.invokespecial 48, 3) := by decide +kernel
theorem dX6_init_89 : decode cX6_init 89 = .ok (.putfield 49, 3) := by decide +kernel
theorem dX6_init_92 : decode cX6_init 92 = .ok (.aload_n 0, 1) := by decide +kernel
theorem dX6_init_93 : decode cX6_init 93 = .ok (.new 53, 3) := by decide +kernel
theorem dX6_init_96 : decode cX6_init 96 = .ok (.dup, 1) := by decide +kernel
theorem dX6_init_97 : decode cX6_init 97 = .ok (.invokespecial 55, 3) := by decide +kernel
theorem dX6_init_100 : decode cX6_init 100 = .ok (.putfield 56, 3) := by decide +kernel
theorem dX6_init_103 : decode cX6_init 103 = .ok (.aload_n 0, 1) := by decide +kernel
theorem dX6_init_104 : decode cX6_init 104 = .ok (.bipush 6, 2) := by decide +kernel
theorem dX6_init_106 : decode cX6_init 106 = .ok (.newarray .int, 2) := by decide +kernel
theorem dX6_init_108 : decode cX6_init 108 = .ok (.putfield 60, 3) := by decide +kernel
theorem dX6_init_111 : decode cX6_init 111 = .ok (.return_, 1) := by decide +kernel
theorem dX6_feed_0 : decode cX6_feed 0 = .ok (.iload_n 1, 1) := by decide +kernel
theorem dX6_feed_1 : decode cX6_feed 1 = .ok (.ifCond .lt 10, 3) := by decide +kernel
theorem dX6_feed_4 : decode cX6_feed 4 = .ok (.iload_n 1, 1) := by decide +kernel
theorem dX6_feed_5 : decode cX6_feed 5 = .ok (.sipush 255, 3) := by decide +kernel
theorem dX6_feed_8 : decode cX6_feed 8 = .ok (.if_icmp .le 6, 3) := by decide +kernel
theorem dX6_feed_11 : decode cX6_feed 11 = .ok (.ldc 64, 2) := by decide +kernel
theorem dX6_feed_13 : decode cX6_feed 13 = .ok (.ireturn, 1) := by decide +kernel
theorem dX6_feed_14 : decode cX6_feed 14 = .ok (.aload_n 0, 1) := by decide +kernel
theorem dX6_feed_15 : decode cX6_feed 15 = .ok (.getfield 10, 3) := by decide +kernel
theorem dX6_feed_18 : decode cX6_feed 18 = .ok (.iload_n 1, 1) := by decide +kernel
theorem dX6_feed_19 : decode cX6_feed 19 = .ok (.invokevirtual 65, 3) := by decide +kernel
theorem dX6_feed_22 : decode cX6_feed 22 = .ok (.ireturn, 1) := by decide +kernel
theorem dX6_land_0 : decode cX6_land 0 = .ok (.aload_n 0, 1) := by decide +kernel
theorem dX6_land_1 : decode cX6_land 1 = .ok (.getfield 10, 3) := by decide +kernel
theorem dX6_land_4 : decode cX6_land 4 = .ok (.aload_n 0, 1) := by decide +kernel
theorem dX6_land_5 : decode cX6_land 5 = .ok (.getfield 23, 3) := by decide +kernel
theorem dX6_land_8 : decode cX6_land 8 = .ok (.invokevirtual 69, 3) := by decide +kernel
theorem dX6_land_11 : decode cX6_land 11 = .ok (.istore_n 1, 1) := by decide +kernel
theorem dX6_land_12 : decode cX6_land 12 = .ok (.iload_n 1, 1) := by decide +kernel
theorem dX6_land_13 : decode cX6_land 13 = .ok (.ifCond .eq 8, 3) := by decide +kernel
theorem dX6_land_16 : decode cX6_land 16 = .ok (.bipush (-10), 2) := by decide +kernel
theorem dX6_land_18 : decode cX6_land 18 = .ok (.iload_n 1, 1) := by decide +kernel
theorem dX6_land_19 : decode cX6_land 19 = .ok (.isub, 1) := by decide +kernel
theorem dX6_land_20 : decode cX6_land 20 = .ok (.ireturn, 1) := by decide +kernel
theorem dX6_land_21 : decode cX6_land 21 = .ok (.aload_n 0, 1) := by decide +kernel
theorem dX6_land_22 : decode cX6_land 22 = .ok (.getfield 19, 3) := by decide +kernel
theorem dX6_land_25 : decode cX6_land 25 = .ok (.astore_n 2, 1) := by decide +kernel
theorem dX6_land_26 : decode cX6_land 26 = .ok (.aload_n 0, 1) := by decide +kernel
theorem dX6_land_27 : decode cX6_land 27 = .ok (.aload_n 0, 1) := by decide +kernel
theorem dX6_land_28 : decode cX6_land 28 = .ok (.getfield 23, 3) := by decide +kernel
theorem dX6_land_31 : decode cX6_land 31 = .ok (.putfield 19, 3) := by decide +kernel
theorem dX6_land_34 : decode cX6_land 34 = .ok (.aload_n 0, 1) := by decide +kernel
theorem dX6_land_35 : decode cX6_land 35 = .ok (.aload_n 2, 1) := by decide +kernel
theorem dX6_land_36 : decode cX6_land 36 = .ok (.putfield 23, 3) := by decide +kernel
theorem dX6_land_39 : decode cX6_land 39 = .ok (.aload_n 0, 1) := by decide +kernel
theorem dX6_land_40 : decode cX6_land 40 = .ok (.getfield 29, 3) := by decide +kernel
theorem dX6_land_43 : decode cX6_land 43 = .ok (.aload_n 0, 1) := by decide +kernel
theorem dX6_land_44 : decode cX6_land 44 = .ok (.getfield 19, 3) := by decide +kernel
theorem dX6_land_47 : decode cX6_land 47 = .ok (.invokevirtual 73, 3) := by decide +kernel
theorem dX6_land_50 : decode cX6_land 50 = .ok (.aload_n 0, 1) := by decide +kernel
theorem dX6_land_51 : decode cX6_land 51 = .ok (.getfield 33, 3) := by decide +kernel
theorem dX6_land_54 : decode cX6_land 54 = .ok (.iconst 0, 1) := by decide +kernel
theorem dX6_land_55 : decode cX6_land 55 = .ok (.putfield 77, 3) := by decide +kernel
theorem dX6_land_58 : decode cX6_land 58 = .ok (.aload_n 0, 1) := by decide +kernel
theorem dX6_land_59 : decode cX6_land 59 = .ok (.getfield 36, 3) := by decide +kernel
theorem dX6_land_62 : decode cX6_land 62 = .ok (.iconst 0, 1) := by decide +kernel
theorem dX6_land_63 : decode cX6_land 63 = .ok (.putfield 77, 3) := by decide +kernel
theorem dX6_land_66 : decode cX6_land 66 = .ok (.aload_n 0, 1) := by decide +kernel
theorem dX6_land_67 : decode cX6_land 67 = .ok (.getfield 42, 3) := by decide +kernel
theorem dX6_land_70 : decode cX6_land 70 = .ok (.iconst 0, 1) := by decide +kernel
theorem dX6_land_71 : decode cX6_land 71 = .ok (.putfield 81, 3) := by decide +kernel
theorem dX6_land_74 : decode cX6_land 74 = .ok (.aload_n 0, 1) := by decide +kernel
theorem dX6_land_75 : decode cX6_land 75 = .ok (.getfield 19, 3) := by decide +kernel
theorem dX6_land_78 : decode cX6_land 78 = .ok (.getfield 85, 3) := by decide +kernel
theorem dX6_land_81 : decode cX6_land 81 = .ok (.ireturn, 1) := by decide +kernel
theorem dX6_fault_0 : decode cX6_fault 0 = .ok (.aload_n 0, 1) := by decide +kernel
theorem dX6_fault_1 : decode cX6_fault 1 = .ok (.getfield 10, 3) := by decide +kernel
theorem dX6_fault_4 : decode cX6_fault 4 = .ok (.getfield 88, 3) := by decide +kernel
theorem dX6_fault_7 : decode cX6_fault 7 = .ok (.ireturn, 1) := by decide +kernel
theorem dX6_told_0 : decode cX6_told 0 = .ok (.iload_n 1, 1) := by decide +kernel
theorem dX6_told_1 : decode cX6_told 1 = .ok (.tableswitch 120 0 8 #[51, 59, 67, 75, 83, 91, 99, 107, 112], 51) := by decide +kernel
theorem dX6_told_52 : decode cX6_told 52 = .ok (.aload_n 0, 1) := by decide +kernel
theorem dX6_told_53 : decode cX6_told 53 = .ok (.getfield 19, 3) := by decide +kernel
theorem dX6_told_56 : decode cX6_told 56 = .ok (.getfield 85, 3) := by decide +kernel
theorem dX6_told_59 : decode cX6_told 59 = .ok (.ireturn, 1) := by decide +kernel
theorem dX6_told_60 : decode cX6_told 60 = .ok (.aload_n 0, 1) := by decide +kernel
theorem dX6_told_61 : decode cX6_told 61 = .ok (.getfield 19, 3) := by decide +kernel
theorem dX6_told_64 : decode cX6_told 64 = .ok (.getfield 91, 3) := by decide +kernel
theorem dX6_told_67 : decode cX6_told 67 = .ok (.ireturn, 1) := by decide +kernel
theorem dX6_told_68 : decode cX6_told 68 = .ok (.aload_n 0, 1) := by decide +kernel
theorem dX6_told_69 : decode cX6_told 69 = .ok (.getfield 19, 3) := by decide +kernel
theorem dX6_told_72 : decode cX6_told 72 = .ok (.getfield 94, 3) := by decide +kernel
theorem dX6_told_75 : decode cX6_told 75 = .ok (.ireturn, 1) := by decide +kernel
theorem dX6_told_76 : decode cX6_told 76 = .ok (.aload_n 0, 1) := by decide +kernel
theorem dX6_told_77 : decode cX6_told 77 = .ok (.getfield 19, 3) := by decide +kernel
theorem dX6_told_80 : decode cX6_told 80 = .ok (.getfield 97, 3) := by decide +kernel
theorem dX6_told_83 : decode cX6_told 83 = .ok (.ireturn, 1) := by decide +kernel
theorem dX6_told_84 : decode cX6_told 84 = .ok (.aload_n 0, 1) := by decide +kernel
theorem dX6_told_85 : decode cX6_told 85 = .ok (.getfield 19, 3) := by decide +kernel
theorem dX6_told_88 : decode cX6_told 88 = .ok (.getfield 100, 3) := by decide +kernel
theorem dX6_told_91 : decode cX6_told 91 = .ok (.ireturn, 1) := by decide +kernel
theorem dX6_told_92 : decode cX6_told 92 = .ok (.aload_n 0, 1) := by decide +kernel
theorem dX6_told_93 : decode cX6_told 93 = .ok (.getfield 10, 3) := by decide +kernel
theorem dX6_told_96 : decode cX6_told 96 = .ok (.getfield 103, 3) := by decide +kernel
theorem dX6_told_99 : decode cX6_told 99 = .ok (.ireturn, 1) := by decide +kernel
theorem dX6_told_100 : decode cX6_told 100 = .ok (.aload_n 0, 1) := by decide +kernel
theorem dX6_told_101 : decode cX6_told 101 = .ok (.getfield 29, 3) := by decide +kernel
theorem dX6_told_104 : decode cX6_told 104 = .ok (.getfield 106, 3) := by decide +kernel
theorem dX6_told_107 : decode cX6_told 107 = .ok (.ireturn, 1) := by decide +kernel
theorem dX6_told_108 : decode cX6_told 108 = .ok (.aload_n 0, 1) := by decide +kernel
theorem dX6_told_109 : decode cX6_told 109 = .ok (.invokevirtual 109, 3) := by decide +kernel
theorem dX6_told_112 : decode cX6_told 112 = .ok (.ireturn, 1) := by decide +kernel
theorem dX6_told_113 : decode cX6_told 113 = .ok (.aload_n 0, 1) := by decide +kernel
theorem dX6_told_114 : decode cX6_told 114 = .ok (.getfield 42, 3) := by decide +kernel
theorem dX6_told_117 : decode cX6_told 117 = .ok (.getfield 81, 3) := by decide +kernel
theorem dX6_told_120 : decode cX6_told 120 = .ok (.ireturn, 1) := by decide +kernel
theorem dX6_told_121 : decode cX6_told 121 = .ok (.ldc 64, 2) := by decide +kernel
theorem dX6_told_123 : decode cX6_told 123 = .ok (.ireturn, 1) := by decide +kernel
theorem dX6_fighter_0 : decode cX6_fighter 0 = .ok (.aload_n 0, 1) := by decide +kernel
theorem dX6_fighter_1 : decode cX6_fighter 1 = .ok (.iload_n 1, 1) := by decide +kernel
theorem dX6_fighter_2 : decode cX6_fighter 2 = .ok (.invokevirtual 113, 3) := by decide +kernel
theorem dX6_fighter_5 : decode cX6_fighter 5 = .ok (.ifCond .ne 6, 3) := by decide +kernel
theorem dX6_fighter_8 : decode cX6_fighter 8 = .ok (.ldc 117, 2) := by decide +kernel
theorem dX6_fighter_10 : decode cX6_fighter 10 = .ok (.ireturn, 1) := by decide +kernel
theorem dX6_fighter_11 : decode cX6_fighter 11 = .ok (.iload_n 2, 1) := by decide +kernel
theorem dX6_fighter_12 : decode cX6_fighter 12 = .ok (.tableswitch 117 0 6 #[44, 54, 64, 74, 80, 90, 100], 44) := by decide +kernel
theorem dX6_fighter_56 : decode cX6_fighter 56 = .ok (.aload_n 0, 1) := by decide +kernel
theorem dX6_fighter_57 : decode cX6_fighter 57 = .ok (.getfield 19, 3) := by decide +kernel
theorem dX6_fighter_60 : decode cX6_fighter 60 = .ok (.getfield 118, 3) := by decide +kernel
theorem dX6_fighter_63 : decode cX6_fighter 63 = .ok (.iload_n 1, 1) := by decide +kernel
theorem dX6_fighter_64 : decode cX6_fighter 64 = .ok (.iaload, 1) := by decide +kernel
theorem dX6_fighter_65 : decode cX6_fighter 65 = .ok (.ireturn, 1) := by decide +kernel
theorem dX6_fighter_66 : decode cX6_fighter 66 = .ok (.aload_n 0, 1) := by decide +kernel
theorem dX6_fighter_67 : decode cX6_fighter 67 = .ok (.getfield 19, 3) := by decide +kernel
theorem dX6_fighter_70 : decode cX6_fighter 70 = .ok (.getfield 121, 3) := by decide +kernel
theorem dX6_fighter_73 : decode cX6_fighter 73 = .ok (.iload_n 1, 1) := by decide +kernel
theorem dX6_fighter_74 : decode cX6_fighter 74 = .ok (.iaload, 1) := by decide +kernel
theorem dX6_fighter_75 : decode cX6_fighter 75 = .ok (.ireturn, 1) := by decide +kernel
theorem dX6_fighter_76 : decode cX6_fighter 76 = .ok (.aload_n 0, 1) := by decide +kernel
theorem dX6_fighter_77 : decode cX6_fighter 77 = .ok (.getfield 29, 3) := by decide +kernel
theorem dX6_fighter_80 : decode cX6_fighter 80 = .ok (.getfield 124, 3) := by decide +kernel
theorem dX6_fighter_83 : decode cX6_fighter 83 = .ok (.iload_n 1, 1) := by decide +kernel
theorem dX6_fighter_84 : decode cX6_fighter 84 = .ok (.iaload, 1) := by decide +kernel
theorem dX6_fighter_85 : decode cX6_fighter 85 = .ok (.ireturn, 1) := by decide +kernel
theorem dX6_fighter_86 : decode cX6_fighter 86 = .ok (.aload_n 0, 1) := by decide +kernel
theorem dX6_fighter_87 : decode cX6_fighter 87 = .ok (.iload_n 1, 1) := by decide +kernel
theorem dX6_fighter_88 : decode cX6_fighter 88 = .ok (.invokevirtual 127, 3) := by decide +kernel
theorem dX6_fighter_91 : decode cX6_fighter 91 = .ok (.ireturn, 1) := by decide +kernel
theorem dX6_fighter_92 : decode cX6_fighter 92 = .ok (.aload_n 0, 1) := by decide +kernel
theorem dX6_fighter_93 : decode cX6_fighter 93 = .ok (.getfield 29, 3) := by decide +kernel
theorem dX6_fighter_96 : decode cX6_fighter 96 = .ok (.getfield 130, 3) := by decide +kernel
theorem dX6_fighter_99 : decode cX6_fighter 99 = .ok (.iload_n 1, 1) := by decide +kernel
theorem dX6_fighter_100 : decode cX6_fighter 100 = .ok (.iaload, 1) := by decide +kernel
theorem dX6_fighter_101 : decode cX6_fighter 101 = .ok (.ireturn, 1) := by decide +kernel
theorem dX6_fighter_102 : decode cX6_fighter 102 = .ok (.aload_n 0, 1) := by decide +kernel
theorem dX6_fighter_103 : decode cX6_fighter 103 = .ok (.getfield 29, 3) := by decide +kernel
theorem dX6_fighter_106 : decode cX6_fighter 106 = .ok (.getfield 133, 3) := by decide +kernel
theorem dX6_fighter_109 : decode cX6_fighter 109 = .ok (.iload_n 1, 1) := by decide +kernel
theorem dX6_fighter_110 : decode cX6_fighter 110 = .ok (.iaload, 1) := by decide +kernel
theorem dX6_fighter_111 : decode cX6_fighter 111 = .ok (.ireturn, 1) := by decide +kernel
theorem dX6_fighter_112 : decode cX6_fighter 112 = .ok (.aload_n 0, 1) := by decide +kernel
theorem dX6_fighter_113 : decode cX6_fighter 113 = .ok (.getfield 19, 3) := by decide +kernel
theorem dX6_fighter_116 : decode cX6_fighter 116 = .ok (.aload_n 0, 1) := by decide +kernel
theorem dX6_fighter_117 : decode cX6_fighter 117 = .ok (.getfield 29, 3) := by decide +kernel
theorem dX6_fighter_120 : decode cX6_fighter 120 = .ok (.getfield 130, 3) := by decide +kernel
theorem dX6_fighter_123 : decode cX6_fighter 123 = .ok (.iload_n 1, 1) := by decide +kernel
theorem dX6_fighter_124 : decode cX6_fighter 124 = .ok (.iaload, 1) := by decide +kernel
theorem dX6_fighter_125 : decode cX6_fighter 125 = .ok (.invokevirtual 136, 3) := by decide +kernel
theorem dX6_fighter_128 : decode cX6_fighter 128 = .ok (.ireturn, 1) := by decide +kernel
theorem dX6_fighter_129 : decode cX6_fighter 129 = .ok (.ldc 64, 2) := by decide +kernel
theorem dX6_fighter_131 : decode cX6_fighter 131 = .ok (.ireturn, 1) := by decide +kernel
theorem dX6_thinks_0 : decode cX6_thinks 0 = .ok (.aload_n 0, 1) := by decide +kernel
theorem dX6_thinks_1 : decode cX6_thinks 1 = .ok (.iload_n 1, 1) := by decide +kernel
theorem dX6_thinks_2 : decode cX6_thinks 2 = .ok (.invokevirtual 139, 3) := by decide +kernel
theorem dX6_thinks_5 : decode cX6_thinks 5 = .ok (.ifCond .eq 11, 3) := by decide +kernel
theorem dX6_thinks_8 : decode cX6_thinks 8 = .ok (.aload_n 0, 1) := by decide +kernel
theorem dX6_thinks_9 : decode cX6_thinks 9 = .ok (.iload_n 2, 1) := by decide +kernel
theorem dX6_thinks_10 : decode cX6_thinks 10 = .ok (.invokevirtual 113, 3) := by decide +kernel
theorem dX6_thinks_13 : decode cX6_thinks 13 = .ok (.ifCond .ne 6, 3) := by decide +kernel
theorem dX6_thinks_16 : decode cX6_thinks 16 = .ok (.ldc 117, 2) := by decide +kernel
theorem dX6_thinks_18 : decode cX6_thinks 18 = .ok (.ireturn, 1) := by decide +kernel
theorem dX6_thinks_19 : decode cX6_thinks 19 = .ok (.aload_n 0, 1) := by decide +kernel
theorem dX6_thinks_20 : decode cX6_thinks 20 = .ok (.getfield 29, 3) := by decide +kernel
theorem dX6_thinks_23 : decode cX6_thinks 23 = .ok (.getfield 142, 3) := by decide +kernel
theorem dX6_thinks_26 : decode cX6_thinks 26 = .ok (.iload_n 1, 1) := by decide +kernel
theorem dX6_thinks_27 : decode cX6_thinks 27 = .ok (.iload_n 2, 1) := by decide +kernel
theorem dX6_thinks_28 : decode cX6_thinks 28 = .ok (.invokestatic 145, 3) := by decide +kernel
theorem dX6_thinks_31 : decode cX6_thinks 31 = .ok (.iaload, 1) := by decide +kernel
theorem dX6_thinks_32 : decode cX6_thinks 32 = .ok (.ireturn, 1) := by decide +kernel
theorem dX6_chats_0 : decode cX6_chats 0 = .ok (.aload_n 0, 1) := by decide +kernel
theorem dX6_chats_1 : decode cX6_chats 1 = .ok (.iload_n 1, 1) := by decide +kernel
theorem dX6_chats_2 : decode cX6_chats 2 = .ok (.invokevirtual 139, 3) := by decide +kernel
theorem dX6_chats_5 : decode cX6_chats 5 = .ok (.ifCond .ne 6, 3) := by decide +kernel
theorem dX6_chats_8 : decode cX6_chats 8 = .ok (.ldc 117, 2) := by decide +kernel
theorem dX6_chats_10 : decode cX6_chats 10 = .ok (.ireturn, 1) := by decide +kernel
theorem dX6_chats_11 : decode cX6_chats 11 = .ok (.aload_n 0, 1) := by decide +kernel
theorem dX6_chats_12 : decode cX6_chats 12 = .ok (.getfield 19, 3) := by decide +kernel
theorem dX6_chats_15 : decode cX6_chats 15 = .ok (.getfield 149, 3) := by decide +kernel
theorem dX6_chats_18 : decode cX6_chats 18 = .ok (.iload_n 1, 1) := by decide +kernel
theorem dX6_chats_19 : decode cX6_chats 19 = .ok (.iaload, 1) := by decide +kernel
theorem dX6_chats_20 : decode cX6_chats 20 = .ok (.ireturn, 1) := by decide +kernel
theorem dX6_task_0 : decode cX6_task 0 = .ok (.aload_n 0, 1) := by decide +kernel
theorem dX6_task_1 : decode cX6_task 1 = .ok (.iload_n 1, 1) := by decide +kernel
theorem dX6_task_2 : decode cX6_task 2 = .ok (.invokevirtual 152, 3) := by decide +kernel
theorem dX6_task_5 : decode cX6_task 5 = .ok (.ifCond .ne 6, 3) := by decide +kernel
theorem dX6_task_8 : decode cX6_task 8 = .ok (.ldc 117, 2) := by decide +kernel
theorem dX6_task_10 : decode cX6_task 10 = .ok (.ireturn, 1) := by decide +kernel
theorem dX6_task_11 : decode cX6_task 11 = .ok (.iload_n 2, 1) := by decide +kernel
theorem dX6_task_12 : decode cX6_task 12 = .ok (.tableswitch 85 0 4 #[36, 46, 56, 66, 76], 36) := by decide +kernel
theorem dX6_task_48 : decode cX6_task 48 = .ok (.aload_n 0, 1) := by decide +kernel
theorem dX6_task_49 : decode cX6_task 49 = .ok (.getfield 19, 3) := by decide +kernel
theorem dX6_task_52 : decode cX6_task 52 = .ok (.getfield 155, 3) := by decide +kernel
theorem dX6_task_55 : decode cX6_task 55 = .ok (.iload_n 1, 1) := by decide +kernel
theorem dX6_task_56 : decode cX6_task 56 = .ok (.iaload, 1) := by decide +kernel
theorem dX6_task_57 : decode cX6_task 57 = .ok (.ireturn, 1) := by decide +kernel
theorem dX6_task_58 : decode cX6_task 58 = .ok (.aload_n 0, 1) := by decide +kernel
theorem dX6_task_59 : decode cX6_task 59 = .ok (.getfield 19, 3) := by decide +kernel
theorem dX6_task_62 : decode cX6_task 62 = .ok (.getfield 158, 3) := by decide +kernel
theorem dX6_task_65 : decode cX6_task 65 = .ok (.iload_n 1, 1) := by decide +kernel
theorem dX6_task_66 : decode cX6_task 66 = .ok (.iaload, 1) := by decide +kernel
theorem dX6_task_67 : decode cX6_task 67 = .ok (.ireturn, 1) := by decide +kernel
theorem dX6_task_68 : decode cX6_task 68 = .ok (.aload_n 0, 1) := by decide +kernel
theorem dX6_task_69 : decode cX6_task 69 = .ok (.getfield 19, 3) := by decide +kernel
theorem dX6_task_72 : decode cX6_task 72 = .ok (.getfield 161, 3) := by decide +kernel
theorem dX6_task_75 : decode cX6_task 75 = .ok (.iload_n 1, 1) := by decide +kernel
theorem dX6_task_76 : decode cX6_task 76 = .ok (.iaload, 1) := by decide +kernel
theorem dX6_task_77 : decode cX6_task 77 = .ok (.ireturn, 1) := by decide +kernel
theorem dX6_task_78 : decode cX6_task 78 = .ok (.aload_n 0, 1) := by decide +kernel
theorem dX6_task_79 : decode cX6_task 79 = .ok (.getfield 19, 3) := by decide +kernel
theorem dX6_task_82 : decode cX6_task 82 = .ok (.getfield 164, 3) := by decide +kernel
theorem dX6_task_85 : decode cX6_task 85 = .ok (.iload_n 1, 1) := by decide +kernel
theorem dX6_task_86 : decode cX6_task 86 = .ok (.iaload, 1) := by decide +kernel
theorem dX6_task_87 : decode cX6_task 87 = .ok (.ireturn, 1) := by decide +kernel
theorem dX6_task_88 : decode cX6_task 88 = .ok (.aload_n 0, 1) := by decide +kernel
theorem dX6_task_89 : decode cX6_task 89 = .ok (.getfield 19, 3) := by decide +kernel
theorem dX6_task_92 : decode cX6_task 92 = .ok (.iload_n 1, 1) := by decide +kernel
theorem dX6_task_93 : decode cX6_task 93 = .ok (.invokevirtual 167, 3) := by decide +kernel
theorem dX6_task_96 : decode cX6_task 96 = .ok (.ireturn, 1) := by decide +kernel
theorem dX6_task_97 : decode cX6_task 97 = .ok (.ldc 64, 2) := by decide +kernel
theorem dX6_task_99 : decode cX6_task 99 = .ok (.ireturn, 1) := by decide +kernel
theorem dX6_trick_0 : decode cX6_trick 0 = .ok (.iload_n 1, 1) := by decide +kernel
theorem dX6_trick_1 : decode cX6_trick 1 = .ok (.ifCond .lt 14, 3) := by decide +kernel
theorem dX6_trick_4 : decode cX6_trick 4 = .ok (.iload_n 1, 1) := by decide +kernel
theorem dX6_trick_5 : decode cX6_trick 5 = .ok (.aload_n 0, 1) := by decide +kernel
theorem dX6_trick_6 : decode cX6_trick 6 = .ok (.getfield 19, 3) := by decide +kernel
theorem dX6_trick_9 : decode cX6_trick 9 = .ok (.getfield 100, 3) := by decide +kernel
theorem dX6_trick_12 : decode cX6_trick 12 = .ok (.if_icmp .lt 6, 3) := by decide +kernel
theorem dX6_trick_15 : decode cX6_trick 15 = .ok (.ldc 117, 2) := by decide +kernel
theorem dX6_trick_17 : decode cX6_trick 17 = .ok (.ireturn, 1) := by decide +kernel
theorem dX6_trick_18 : decode cX6_trick 18 = .ok (.iload_n 2, 1) := by decide +kernel
theorem dX6_trick_19 : decode cX6_trick 19 = .ok (.tableswitch 55 0 2 #[25, 35, 45], 25) := by decide +kernel
theorem dX6_trick_44 : decode cX6_trick 44 = .ok (.aload_n 0, 1) := by decide +kernel
theorem dX6_trick_45 : decode cX6_trick 45 = .ok (.getfield 19, 3) := by decide +kernel
theorem dX6_trick_48 : decode cX6_trick 48 = .ok (.getfield 170, 3) := by decide +kernel
theorem dX6_trick_51 : decode cX6_trick 51 = .ok (.iload_n 1, 1) := by decide +kernel
theorem dX6_trick_52 : decode cX6_trick 52 = .ok (.iaload, 1) := by decide +kernel
theorem dX6_trick_53 : decode cX6_trick 53 = .ok (.ireturn, 1) := by decide +kernel
theorem dX6_trick_54 : decode cX6_trick 54 = .ok (.aload_n 0, 1) := by decide +kernel
theorem dX6_trick_55 : decode cX6_trick 55 = .ok (.getfield 19, 3) := by decide +kernel
theorem dX6_trick_58 : decode cX6_trick 58 = .ok (.getfield 173, 3) := by decide +kernel
theorem dX6_trick_61 : decode cX6_trick 61 = .ok (.iload_n 1, 1) := by decide +kernel
theorem dX6_trick_62 : decode cX6_trick 62 = .ok (.iaload, 1) := by decide +kernel
theorem dX6_trick_63 : decode cX6_trick 63 = .ok (.ireturn, 1) := by decide +kernel
theorem dX6_trick_64 : decode cX6_trick 64 = .ok (.aload_n 0, 1) := by decide +kernel
theorem dX6_trick_65 : decode cX6_trick 65 = .ok (.getfield 19, 3) := by decide +kernel
theorem dX6_trick_68 : decode cX6_trick 68 = .ok (.getfield 176, 3) := by decide +kernel
theorem dX6_trick_71 : decode cX6_trick 71 = .ok (.iload_n 1, 1) := by decide +kernel
theorem dX6_trick_72 : decode cX6_trick 72 = .ok (.iaload, 1) := by decide +kernel
theorem dX6_trick_73 : decode cX6_trick 73 = .ok (.ireturn, 1) := by decide +kernel
theorem dX6_trick_74 : decode cX6_trick 74 = .ok (.ldc 64, 2) := by decide +kernel
theorem dX6_trick_76 : decode cX6_trick 76 = .ok (.ireturn, 1) := by decide +kernel
theorem dX6_read_0 : decode cX6_read 0 = .ok (.aload_n 0, 1) := by decide +kernel
theorem dX6_read_1 : decode cX6_read 1 = .ok (.iload_n 1, 1) := by decide +kernel
theorem dX6_read_2 : decode cX6_read 2 = .ok (.invokevirtual 139, 3) := by decide +kernel
theorem dX6_read_5 : decode cX6_read 5 = .ok (.ifCond .eq 11, 3) := by decide +kernel
theorem dX6_read_8 : decode cX6_read 8 = .ok (.aload_n 0, 1) := by decide +kernel
theorem dX6_read_9 : decode cX6_read 9 = .ok (.iload_n 2, 1) := by decide +kernel
theorem dX6_read_10 : decode cX6_read 10 = .ok (.invokevirtual 113, 3) := by decide +kernel
theorem dX6_read_13 : decode cX6_read 13 = .ok (.ifCond .ne 6, 3) := by decide +kernel
theorem dX6_read_16 : decode cX6_read 16 = .ok (.ldc 117, 2) := by decide +kernel
theorem dX6_read_18 : decode cX6_read 18 = .ok (.ireturn, 1) := by decide +kernel
theorem dX6_read_19 : decode cX6_read 19 = .ok (.aload_n 0, 1) := by decide +kernel
theorem dX6_read_20 : decode cX6_read 20 = .ok (.iload_n 1, 1) := by decide +kernel
theorem dX6_read_21 : decode cX6_read 21 = .ok (.iload_n 2, 1) := by decide +kernel
theorem dX6_read_22 : decode cX6_read 22 = .ok (.invokevirtual 179, 3) := by decide +kernel
theorem dX6_read_25 : decode cX6_read 25 = .ok (.ireturn, 1) := by decide +kernel
theorem dX6_rumour_0 : decode cX6_rumour 0 = .ok (.aload_n 0, 1) := by decide +kernel
theorem dX6_rumour_1 : decode cX6_rumour 1 = .ok (.iload_n 1, 1) := by decide +kernel
theorem dX6_rumour_2 : decode cX6_rumour 2 = .ok (.invokevirtual 113, 3) := by decide +kernel
theorem dX6_rumour_5 : decode cX6_rumour 5 = .ok (.ifCond .ne 6, 3) := by decide +kernel
theorem dX6_rumour_8 : decode cX6_rumour 8 = .ok (.ldc 117, 2) := by decide +kernel
theorem dX6_rumour_10 : decode cX6_rumour 10 = .ok (.ireturn, 1) := by decide +kernel
theorem dX6_rumour_11 : decode cX6_rumour 11 = .ok (.aload_n 0, 1) := by decide +kernel
theorem dX6_rumour_12 : decode cX6_rumour 12 = .ok (.iload_n 1, 1) := by decide +kernel
theorem dX6_rumour_13 : decode cX6_rumour 13 = .ok (.invokevirtual 182, 3) := by decide +kernel
theorem dX6_rumour_16 : decode cX6_rumour 16 = .ok (.ireturn, 1) := by decide +kernel
theorem dX6_inspect_0 : decode cX6_inspect 0 = .ok (.aload_n 0, 1) := by decide +kernel
theorem dX6_inspect_1 : decode cX6_inspect 1 = .ok (.iload_n 1, 1) := by decide +kernel
theorem dX6_inspect_2 : decode cX6_inspect 2 = .ok (.invokevirtual 139, 3) := by decide +kernel
theorem dX6_inspect_5 : decode cX6_inspect 5 = .ok (.ifCond .eq 11, 3) := by decide +kernel
theorem dX6_inspect_8 : decode cX6_inspect 8 = .ok (.aload_n 0, 1) := by decide +kernel
theorem dX6_inspect_9 : decode cX6_inspect 9 = .ok (.iload_n 2, 1) := by decide +kernel
theorem dX6_inspect_10 : decode cX6_inspect 10 = .ok (.invokevirtual 113, 3) := by decide +kernel
theorem dX6_inspect_13 : decode cX6_inspect 13 = .ok (.ifCond .ne 6, 3) := by decide +kernel
theorem dX6_inspect_16 : decode cX6_inspect 16 = .ok (.ldc 117, 2) := by decide +kernel
theorem dX6_inspect_18 : decode cX6_inspect 18 = .ok (.ireturn, 1) := by decide +kernel
theorem dX6_inspect_19 : decode cX6_inspect 19 = .ok (.aload_n 0, 1) := by decide +kernel
theorem dX6_inspect_20 : decode cX6_inspect 20 = .ok (.iload_n 1, 1) := by decide +kernel
theorem dX6_inspect_21 : decode cX6_inspect 21 = .ok (.iload_n 2, 1) := by decide +kernel
theorem dX6_inspect_22 : decode cX6_inspect 22 = .ok (.invokevirtual 185, 3) := by decide +kernel
theorem dX6_inspect_25 : decode cX6_inspect 25 = .ok (.ireturn, 1) := by decide +kernel
theorem dX6_belt_0 : decode cX6_belt 0 = .ok (.aload_n 0, 1) := by decide +kernel
theorem dX6_belt_1 : decode cX6_belt 1 = .ok (.iload_n 1, 1) := by decide +kernel
theorem dX6_belt_2 : decode cX6_belt 2 = .ok (.invokevirtual 113, 3) := by decide +kernel
theorem dX6_belt_5 : decode cX6_belt 5 = .ok (.ifCond .ne 6, 3) := by decide +kernel
theorem dX6_belt_8 : decode cX6_belt 8 = .ok (.ldc 117, 2) := by decide +kernel
theorem dX6_belt_10 : decode cX6_belt 10 = .ok (.ireturn, 1) := by decide +kernel
theorem dX6_belt_11 : decode cX6_belt 11 = .ok (.iload_n 2, 1) := by decide +kernel
theorem dX6_belt_12 : decode cX6_belt 12 = .ok (.ifCond .lt 9, 3) := by decide +kernel
theorem dX6_belt_15 : decode cX6_belt 15 = .ok (.iload_n 2, 1) := by decide +kernel
theorem dX6_belt_16 : decode cX6_belt 16 = .ok (.bipush 99, 2) := by decide +kernel
theorem dX6_belt_18 : decode cX6_belt 18 = .ok (.if_icmp .le 6, 3) := by decide +kernel
theorem dX6_belt_21 : decode cX6_belt 21 = .ok (.ldc 64, 2) := by decide +kernel
theorem dX6_belt_23 : decode cX6_belt 23 = .ok (.ireturn, 1) := by decide +kernel
theorem dX6_belt_24 : decode cX6_belt 24 = .ok (.aload_n 0, 1) := by decide +kernel
theorem dX6_belt_25 : decode cX6_belt 25 = .ok (.getfield 29, 3) := by decide +kernel
theorem dX6_belt_28 : decode cX6_belt 28 = .ok (.getfield 124, 3) := by decide +kernel
theorem dX6_belt_31 : decode cX6_belt 31 = .ok (.iload_n 1, 1) := by decide +kernel
theorem dX6_belt_32 : decode cX6_belt 32 = .ok (.iaload, 1) := by decide +kernel
theorem dX6_belt_33 : decode cX6_belt 33 = .ok (.istore_n 3, 1) := by decide +kernel
theorem dX6_belt_34 : decode cX6_belt 34 = .ok (.aload_n 0, 1) := by decide +kernel
theorem dX6_belt_35 : decode cX6_belt 35 = .ok (.getfield 29, 3) := by decide +kernel
theorem dX6_belt_38 : decode cX6_belt 38 = .ok (.getfield 124, 3) := by decide +kernel
theorem dX6_belt_41 : decode cX6_belt 41 = .ok (.iload_n 1, 1) := by decide +kernel
theorem dX6_belt_42 : decode cX6_belt 42 = .ok (.iload_n 2, 1) := by decide +kernel
theorem dX6_belt_43 : decode cX6_belt 43 = .ok (.iastore, 1) := by decide +kernel
theorem dX6_belt_44 : decode cX6_belt 44 = .ok (.iload_n 3, 1) := by decide +kernel
theorem dX6_belt_45 : decode cX6_belt 45 = .ok (.ireturn, 1) := by decide +kernel
theorem dX6_attempt_0 : decode cX6_attempt 0 = .ok (.aload_n 0, 1) := by decide +kernel
theorem dX6_attempt_1 : decode cX6_attempt 1 = .ok (.iload_n 1, 1) := by decide +kernel
theorem dX6_attempt_2 : decode cX6_attempt 2 = .ok (.invokevirtual 113, 3) := by decide +kernel
theorem dX6_attempt_5 : decode cX6_attempt 5 = .ok (.ifCond .eq 26, 3) := by decide +kernel
theorem dX6_attempt_8 : decode cX6_attempt 8 = .ok (.aload_n 0, 1) := by decide +kernel
theorem dX6_attempt_9 : decode cX6_attempt 9 = .ok (.iload_n 2, 1) := by decide +kernel
theorem dX6_attempt_10 : decode cX6_attempt 10 = .ok (.invokevirtual 152, 3) := by decide +kernel
theorem dX6_attempt_13 : decode cX6_attempt 13 = .ok (.ifCond .eq 18, 3) := by decide +kernel
theorem dX6_attempt_16 : decode cX6_attempt 16 = .ok (.iload_n 3, 1) := by decide +kernel
theorem dX6_attempt_17 : decode cX6_attempt 17 = .ok (.iconst 1, 1) := by decide +kernel
theorem dX6_attempt_18 : decode cX6_attempt 18 = .ok (.aload_n 0, 1) := by decide +kernel
theorem dX6_attempt_19 : decode cX6_attempt 19 = .ok (.getfield 19, 3) := by decide +kernel
theorem dX6_attempt_22 : decode cX6_attempt 22 = .ok (.getfield 100, 3) := by decide +kernel
theorem dX6_attempt_25 : decode cX6_attempt 25 = .ok (.ishl, 1) := by decide +kernel
theorem dX6_attempt_26 : decode cX6_attempt 26 = .ok (.ineg, 1) := by decide +kernel
theorem dX6_attempt_27 : decode cX6_attempt 27 = .ok (.iand, 1) := by decide +kernel
theorem dX6_attempt_28 : decode cX6_attempt 28 = .ok (.ifCond .eq 6, 3) := by decide +kernel
theorem dX6_attempt_31 : decode cX6_attempt 31 = .ok (.ldc 117, 2) := by decide +kernel
theorem dX6_attempt_33 : decode cX6_attempt 33 = .ok (.ireturn, 1) := by decide +kernel
theorem dX6_attempt_34 : decode cX6_attempt 34 = .ok (.aload_n 0, 1) := by decide +kernel
theorem dX6_attempt_35 : decode cX6_attempt 35 = .ok (.getfield 19, 3) := by decide +kernel
theorem dX6_attempt_38 : decode cX6_attempt 38 = .ok (.iload_n 2, 1) := by decide +kernel
theorem dX6_attempt_39 : decode cX6_attempt 39 = .ok (.invokevirtual 167, 3) := by decide +kernel
theorem dX6_attempt_42 : decode cX6_attempt 42 = .ok (.aload_n 0, 1) := by decide +kernel
theorem dX6_attempt_43 : decode cX6_attempt 43 = .ok (.getfield 29, 3) := by decide +kernel
theorem dX6_attempt_46 : decode cX6_attempt 46 = .ok (.getfield 133, 3) := by decide +kernel
theorem dX6_attempt_49 : decode cX6_attempt 49 = .ok (.iload_n 1, 1) := by decide +kernel
theorem dX6_attempt_50 : decode cX6_attempt 50 = .ok (.iaload, 1) := by decide +kernel
theorem dX6_attempt_51 : decode cX6_attempt 51 = .ok (.iconst (-1), 1) := by decide +kernel
theorem dX6_attempt_52 : decode cX6_attempt 52 = .ok (.ixor, 1) := by decide +kernel
theorem dX6_attempt_53 : decode cX6_attempt 53 = .ok (.iand, 1) := by decide +kernel
theorem dX6_attempt_54 : decode cX6_attempt 54 = .ok (.istore 4, 2) := by decide +kernel
theorem dX6_attempt_56 : decode cX6_attempt 56 = .ok (.aload_n 0, 1) := by decide +kernel
theorem dX6_attempt_57 : decode cX6_attempt 57 = .ok (.getfield 29, 3) := by decide +kernel
theorem dX6_attempt_60 : decode cX6_attempt 60 = .ok (.getfield 130, 3) := by decide +kernel
theorem dX6_attempt_63 : decode cX6_attempt 63 = .ok (.iload_n 1, 1) := by decide +kernel
theorem dX6_attempt_64 : decode cX6_attempt 64 = .ok (.iaload, 1) := by decide +kernel
theorem dX6_attempt_65 : decode cX6_attempt 65 = .ok (.iload_n 2, 1) := by decide +kernel
theorem dX6_attempt_66 : decode cX6_attempt 66 = .ok (.invokestatic 188, 3) := by decide +kernel
theorem dX6_attempt_69 : decode cX6_attempt 69 = .ok (.ifCond .ne 12, 3) := by decide +kernel
theorem dX6_attempt_72 : decode cX6_attempt 72 = .ok (.iload_n 3, 1) := by decide +kernel
theorem dX6_attempt_73 : decode cX6_attempt 73 = .ok (.iload 4, 2) := by decide +kernel
theorem dX6_attempt_75 : decode cX6_attempt 75 = .ok (.iconst (-1), 1) := by decide +kernel
theorem dX6_attempt_76 : decode cX6_attempt 76 = .ok (.ixor, 1) := by decide +kernel
theorem dX6_attempt_77 : decode cX6_attempt 77 = .ok (.iand, 1) := by decide +kernel
theorem dX6_attempt_78 : decode cX6_attempt 78 = .ok (.ifCond .eq 6, 3) := by decide +kernel
theorem dX6_attempt_81 : decode cX6_attempt 81 = .ok (.ldc 192, 2) := by decide +kernel
theorem dX6_attempt_83 : decode cX6_attempt 83 = .ok (.ireturn, 1) := by decide +kernel
theorem dX6_attempt_84 : decode cX6_attempt 84 = .ok (.aload_n 0, 1) := by decide +kernel
theorem dX6_attempt_85 : decode cX6_attempt 85 = .ok (.getfield 29, 3) := by decide +kernel
theorem dX6_attempt_88 : decode cX6_attempt 88 = .ok (.getfield 133, 3) := by decide +kernel
theorem dX6_attempt_91 : decode cX6_attempt 91 = .ok (.iload_n 1, 1) := by decide +kernel
theorem dX6_attempt_92 : decode cX6_attempt 92 = .ok (.dup2, 1) := by decide +kernel
theorem dX6_attempt_93 : decode cX6_attempt 93 = .ok (.iaload, 1) := by decide +kernel
theorem dX6_attempt_94 : decode cX6_attempt 94 = .ok (.iload_n 3, 1) := by decide +kernel
theorem dX6_attempt_95 : decode cX6_attempt 95 = .ok (.ior, 1) := by decide +kernel
theorem dX6_attempt_96 : decode cX6_attempt 96 = .ok (.iastore, 1) := by decide +kernel
theorem dX6_attempt_97 : decode cX6_attempt 97 = .ok (.aload_n 0, 1) := by decide +kernel
theorem dX6_attempt_98 : decode cX6_attempt 98 = .ok (.getfield 19, 3) := by decide +kernel
theorem dX6_attempt_101 : decode cX6_attempt 101 = .ok (.getfield 155, 3) := by decide +kernel
theorem dX6_attempt_104 : decode cX6_attempt 104 = .ok (.iload_n 2, 1) := by decide +kernel
theorem dX6_attempt_105 : decode cX6_attempt 105 = .ok (.iaload, 1) := by decide +kernel
theorem dX6_attempt_106 : decode cX6_attempt 106 = .ok (.iload_n 1, 1) := by decide +kernel
theorem dX6_attempt_107 : decode cX6_attempt 107 = .ok (.invokestatic 145, 3) := by decide +kernel
theorem dX6_attempt_110 : decode cX6_attempt 110 = .ok (.istore 5, 2) := by decide +kernel
theorem dX6_attempt_112 : decode cX6_attempt 112 = .ok (.aload_n 0, 1) := by decide +kernel
theorem dX6_attempt_113 : decode cX6_attempt 113 = .ok (.getfield 19, 3) := by decide +kernel
theorem dX6_attempt_116 : decode cX6_attempt 116 = .ok (.iload_n 1, 1) := by decide +kernel
theorem dX6_attempt_117 : decode cX6_attempt 117 = .ok (.iload_n 2, 1) := by decide +kernel
theorem dX6_attempt_118 : decode cX6_attempt 118 = .ok (.iload_n 3, 1) := by decide +kernel
theorem dX6_attempt_119 : decode cX6_attempt 119 = .ok (.aload_n 0, 1) := by decide +kernel
theorem dX6_attempt_120 : decode cX6_attempt 120 = .ok (.getfield 29, 3) := by decide +kernel
theorem dX6_attempt_123 : decode cX6_attempt 123 = .ok (.getfield 142, 3) := by decide +kernel
theorem dX6_attempt_126 : decode cX6_attempt 126 = .ok (.iload 5, 2) := by decide +kernel
theorem dX6_attempt_128 : decode cX6_attempt 128 = .ok (.iaload, 1) := by decide +kernel
theorem dX6_attempt_129 : decode cX6_attempt 129 = .ok (.invokevirtual 193, 3) := by decide +kernel
theorem dX6_attempt_132 : decode cX6_attempt 132 = .ok (.ifCond .ne 24, 3) := by decide +kernel
theorem dX6_attempt_135 : decode cX6_attempt 135 = .ok (.aload_n 0, 1) := by decide +kernel
theorem dX6_attempt_136 : decode cX6_attempt 136 = .ok (.getfield 29, 3) := by decide +kernel
theorem dX6_attempt_139 : decode cX6_attempt 139 = .ok (.getfield 142, 3) := by decide +kernel
theorem dX6_attempt_142 : decode cX6_attempt 142 = .ok (.iload 5, 2) := by decide +kernel
theorem dX6_attempt_144 : decode cX6_attempt 144 = .ok (.aload_n 0, 1) := by decide +kernel
theorem dX6_attempt_145 : decode cX6_attempt 145 = .ok (.getfield 19, 3) := by decide +kernel
theorem dX6_attempt_148 : decode cX6_attempt 148 = .ok (.getfield 121, 3) := by decide +kernel
theorem dX6_attempt_151 : decode cX6_attempt 151 = .ok (.iload_n 1, 1) := by decide +kernel
theorem dX6_attempt_152 : decode cX6_attempt 152 = .ok (.iaload, 1) := by decide +kernel
theorem dX6_attempt_153 : decode cX6_attempt 153 = .ok (.iastore, 1) := by decide +kernel
theorem dX6_attempt_154 : decode cX6_attempt 154 = .ok (.iconst 0, 1) := by decide +kernel
theorem dX6_attempt_155 : decode cX6_attempt 155 = .ok (.ireturn, 1) := by decide +kernel
theorem dX6_attempt_156 : decode cX6_attempt 156 = .ok (.aload_n 0, 1) := by decide +kernel
theorem dX6_attempt_157 : decode cX6_attempt 157 = .ok (.getfield 29, 3) := by decide +kernel
theorem dX6_attempt_160 : decode cX6_attempt 160 = .ok (.getfield 130, 3) := by decide +kernel
theorem dX6_attempt_163 : decode cX6_attempt 163 = .ok (.iload_n 1, 1) := by decide +kernel
theorem dX6_attempt_164 : decode cX6_attempt 164 = .ok (.dup2, 1) := by decide +kernel
theorem dX6_attempt_165 : decode cX6_attempt 165 = .ok (.iaload, 1) := by decide +kernel
theorem dX6_attempt_166 : decode cX6_attempt 166 = .ok (.iconst 1, 1) := by decide +kernel
theorem dX6_attempt_167 : decode cX6_attempt 167 = .ok (.iload_n 2, 1) := by decide +kernel
theorem dX6_attempt_168 : decode cX6_attempt 168 = .ok (.ishl, 1) := by decide +kernel
theorem dX6_attempt_169 : decode cX6_attempt 169 = .ok (.ior, 1) := by decide +kernel
theorem dX6_attempt_170 : decode cX6_attempt 170 = .ok (.iastore, 1) := by decide +kernel
theorem dX6_attempt_171 : decode cX6_attempt 171 = .ok (.aload_n 0, 1) := by decide +kernel
theorem dX6_attempt_172 : decode cX6_attempt 172 = .ok (.iload_n 1, 1) := by decide +kernel
theorem dX6_attempt_173 : decode cX6_attempt 173 = .ok (.aload_n 0, 1) := by decide +kernel
theorem dX6_attempt_174 : decode cX6_attempt 174 = .ok (.getfield 19, 3) := by decide +kernel
theorem dX6_attempt_177 : decode cX6_attempt 177 = .ok (.getfield 164, 3) := by decide +kernel
theorem dX6_attempt_180 : decode cX6_attempt 180 = .ok (.iload_n 2, 1) := by decide +kernel
theorem dX6_attempt_181 : decode cX6_attempt 181 = .ok (.iaload, 1) := by decide +kernel
theorem dX6_attempt_182 : decode cX6_attempt 182 = .ok (.invokevirtual 197, 3) := by decide +kernel
theorem dX6_attempt_185 : decode cX6_attempt 185 = .ok (.iconst 1, 1) := by decide +kernel
theorem dX6_attempt_186 : decode cX6_attempt 186 = .ok (.ireturn, 1) := by decide +kernel
theorem dX6_drift_0 : decode cX6_drift 0 = .ok (.iload_n 1, 1) := by decide +kernel
theorem dX6_drift_1 : decode cX6_drift 1 = .ok (.iconst 1, 1) := by decide +kernel
theorem dX6_drift_2 : decode cX6_drift 2 = .ok (.if_icmp .lt 9, 3) := by decide +kernel
theorem dX6_drift_5 : decode cX6_drift 5 = .ok (.iload_n 1, 1) := by decide +kernel
theorem dX6_drift_6 : decode cX6_drift 6 = .ok (.bipush 99, 2) := by decide +kernel
theorem dX6_drift_8 : decode cX6_drift 8 = .ok (.if_icmp .le 6, 3) := by decide +kernel
theorem dX6_drift_11 : decode cX6_drift 11 = .ok (.ldc 64, 2) := by decide +kernel
theorem dX6_drift_13 : decode cX6_drift 13 = .ok (.ireturn, 1) := by decide +kernel
theorem dX6_drift_14 : decode cX6_drift 14 = .ok (.aload_n 0, 1) := by decide +kernel
theorem dX6_drift_15 : decode cX6_drift 15 = .ok (.getfield 19, 3) := by decide +kernel
theorem dX6_drift_18 : decode cX6_drift 18 = .ok (.getfield 85, 3) := by decide +kernel
theorem dX6_drift_21 : decode cX6_drift 21 = .ok (.ifCond .eq 13, 3) := by decide +kernel
theorem dX6_drift_24 : decode cX6_drift 24 = .ok (.aload_n 0, 1) := by decide +kernel
theorem dX6_drift_25 : decode cX6_drift 25 = .ok (.getfield 19, 3) := by decide +kernel
theorem dX6_drift_28 : decode cX6_drift 28 = .ok (.getfield 91, 3) := by decide +kernel
theorem dX6_drift_31 : decode cX6_drift 31 = .ok (.ifCond .ne 6, 3) := by decide +kernel
theorem dX6_drift_34 : decode cX6_drift 34 = .ok (.ldc 192, 2) := by decide +kernel
theorem dX6_drift_36 : decode cX6_drift 36 = .ok (.ireturn, 1) := by decide +kernel
theorem dX6_drift_37 : decode cX6_drift 37 = .ok (.aload_n 0, 1) := by decide +kernel
theorem dX6_drift_38 : decode cX6_drift 38 = .ok (.getfield 29, 3) := by decide +kernel
theorem dX6_drift_41 : decode cX6_drift 41 = .ok (.getfield 106, 3) := by decide +kernel
theorem dX6_drift_44 : decode cX6_drift 44 = .ok (.ldc 201, 2) := by decide +kernel
theorem dX6_drift_46 : decode cX6_drift 46 = .ok (.if_icmp .le 6, 3) := by decide +kernel
theorem dX6_drift_49 : decode cX6_drift 49 = .ok (.ldc 202, 2) := by decide +kernel
theorem dX6_drift_51 : decode cX6_drift 51 = .ok (.ireturn, 1) := by decide +kernel
theorem dX6_drift_52 : decode cX6_drift 52 = .ok (.iconst 0, 1) := by decide +kernel
theorem dX6_drift_53 : decode cX6_drift 53 = .ok (.istore_n 2, 1) := by decide +kernel
theorem dX6_drift_54 : decode cX6_drift 54 = .ok (.iload_n 2, 1) := by decide +kernel
theorem dX6_drift_55 : decode cX6_drift 55 = .ok (.iload_n 1, 1) := by decide +kernel
theorem dX6_drift_56 : decode cX6_drift 56 = .ok (.if_icmp .ge 13, 3) := by decide +kernel
theorem dX6_drift_59 : decode cX6_drift 59 = .ok (.aload_n 0, 1) := by decide +kernel
theorem dX6_drift_60 : decode cX6_drift 60 = .ok (.invokevirtual 203, 3) := by decide +kernel
theorem dX6_drift_63 : decode cX6_drift 63 = .ok (.iinc 2 1, 3) := by decide +kernel
theorem dX6_drift_66 : decode cX6_drift 66 = .ok (.goto (-12), 3) := by decide +kernel
theorem dX6_drift_69 : decode cX6_drift 69 = .ok (.aload_n 0, 1) := by decide +kernel
theorem dX6_drift_70 : decode cX6_drift 70 = .ok (.getfield 29, 3) := by decide +kernel
theorem dX6_drift_73 : decode cX6_drift 73 = .ok (.getfield 106, 3) := by decide +kernel
theorem dX6_drift_76 : decode cX6_drift 76 = .ok (.ireturn, 1) := by decide +kernel
theorem dX6_plan_0 : decode cX6_plan 0 = .ok (.aload_n 0, 1) := by decide +kernel
theorem dX6_plan_1 : decode cX6_plan 1 = .ok (.iload_n 1, 1) := by decide +kernel
theorem dX6_plan_2 : decode cX6_plan 2 = .ok (.invokevirtual 113, 3) := by decide +kernel
theorem dX6_plan_5 : decode cX6_plan 5 = .ok (.ifCond .ne 6, 3) := by decide +kernel
theorem dX6_plan_8 : decode cX6_plan 8 = .ok (.ldc 117, 2) := by decide +kernel
theorem dX6_plan_10 : decode cX6_plan 10 = .ok (.ireturn, 1) := by decide +kernel
theorem dX6_plan_11 : decode cX6_plan 11 = .ok (.iload_n 3, 1) := by decide +kernel
theorem dX6_plan_12 : decode cX6_plan 12 = .ok (.ifCond .lt 8, 3) := by decide +kernel
theorem dX6_plan_15 : decode cX6_plan 15 = .ok (.iload_n 3, 1) := by decide +kernel
theorem dX6_plan_16 : decode cX6_plan 16 = .ok (.iconst 1, 1) := by decide +kernel
theorem dX6_plan_17 : decode cX6_plan 17 = .ok (.if_icmp .le 6, 3) := by decide +kernel
theorem dX6_plan_20 : decode cX6_plan 20 = .ok (.ldc 64, 2) := by decide +kernel
theorem dX6_plan_22 : decode cX6_plan 22 = .ok (.ireturn, 1) := by decide +kernel
theorem dX6_plan_23 : decode cX6_plan 23 = .ok (.aload_n 0, 1) := by decide +kernel
theorem dX6_plan_24 : decode cX6_plan 24 = .ok (.getfield 49, 3) := by decide +kernel
theorem dX6_plan_27 : decode cX6_plan 27 = .ok (.aload_n 0, 1) := by decide +kernel
theorem dX6_plan_28 : decode cX6_plan 28 = .ok (.getfield 19, 3) := by decide +kernel
theorem dX6_plan_31 : decode cX6_plan 31 = .ok (.aload_n 0, 1) := by decide +kernel
theorem dX6_plan_32 : decode cX6_plan 32 = .ok (.getfield 29, 3) := by decide +kernel
theorem dX6_plan_35 : decode cX6_plan 35 = .ok (.iload_n 1, 1) := by decide +kernel
theorem dX6_plan_36 : decode cX6_plan 36 = .ok (.invokevirtual 206, 3) := by decide +kernel
theorem dX6_plan_39 : decode cX6_plan 39 = .ok (.iload_n 2, 1) := by decide +kernel
theorem dX6_plan_40 : decode cX6_plan 40 = .ok (.iconst (-1), 1) := by decide +kernel
theorem dX6_plan_41 : decode cX6_plan 41 = .ok (.if_icmp .ne 18, 3) := by decide +kernel
theorem dX6_plan_44 : decode cX6_plan 44 = .ok (.aload_n 0, 1) := by decide +kernel
theorem dX6_plan_45 : decode cX6_plan 45 = .ok (.getfield 19, 3) := by decide +kernel
theorem dX6_plan_48 : decode cX6_plan 48 = .ok (.aload_n 0, 1) := by decide +kernel
theorem dX6_plan_49 : decode cX6_plan 49 = .ok (.getfield 49, 3) := by decide +kernel
theorem dX6_plan_52 : decode cX6_plan 52 = .ok (.getfield 210, 3) := by decide +kernel
theorem dX6_plan_55 : decode cX6_plan 55 = .ok (.invokevirtual 136, 3) := by decide +kernel
theorem dX6_plan_58 : decode cX6_plan 58 = .ok (.ireturn, 1) := by decide +kernel
theorem dX6_plan_59 : decode cX6_plan 59 = .ok (.iload_n 2, 1) := by decide +kernel
theorem dX6_plan_60 : decode cX6_plan 60 = .ok (.ifCond .lt 18, 3) := by decide +kernel
theorem dX6_plan_63 : decode cX6_plan 63 = .ok (.iload_n 2, 1) := by decide +kernel
theorem dX6_plan_64 : decode cX6_plan 64 = .ok (.aload_n 0, 1) := by decide +kernel
theorem dX6_plan_65 : decode cX6_plan 65 = .ok (.getfield 49, 3) := by decide +kernel
theorem dX6_plan_68 : decode cX6_plan 68 = .ok (.aload_n 0, 1) := by decide +kernel
theorem dX6_plan_69 : decode cX6_plan 69 = .ok (.getfield 19, 3) := by decide +kernel
theorem dX6_plan_72 : decode cX6_plan 72 = .ok (.invokevirtual 213, 3) := by decide +kernel
theorem dX6_plan_75 : decode cX6_plan 75 = .ok (.if_icmp .lt 5, 3) := by decide +kernel
theorem dX6_plan_78 : decode cX6_plan 78 = .ok (.iconst (-1), 1) := by decide +kernel
theorem dX6_plan_79 : decode cX6_plan 79 = .ok (.ireturn, 1) := by decide +kernel
theorem dX6_plan_80 : decode cX6_plan 80 = .ok (.iload_n 3, 1) := by decide +kernel
theorem dX6_plan_81 : decode cX6_plan 81 = .ok (.ifCond .ne 15, 3) := by decide +kernel
theorem dX6_plan_84 : decode cX6_plan 84 = .ok (.aload_n 0, 1) := by decide +kernel
theorem dX6_plan_85 : decode cX6_plan 85 = .ok (.getfield 49, 3) := by decide +kernel
theorem dX6_plan_88 : decode cX6_plan 88 = .ok (.getfield 216, 3) := by decide +kernel
theorem dX6_plan_91 : decode cX6_plan 91 = .ok (.iload_n 2, 1) := by decide +kernel
theorem dX6_plan_92 : decode cX6_plan 92 = .ok (.iaload, 1) := by decide +kernel
theorem dX6_plan_93 : decode cX6_plan 93 = .ok (.goto 12, 3) := by decide +kernel
theorem dX6_plan_96 : decode cX6_plan 96 = .ok (.aload_n 0, 1) := by decide +kernel
theorem dX6_plan_97 : decode cX6_plan 97 = .ok (.getfield 49, 3) := by decide +kernel
theorem dX6_plan_100 : decode cX6_plan 100 = .ok (.getfield 219, 3) := by decide +kernel
theorem dX6_plan_103 : decode cX6_plan 103 = .ok (.iload_n 2, 1) := by decide +kernel
theorem dX6_plan_104 : decode cX6_plan 104 = .ok (.iaload, 1) := by decide +kernel
theorem dX6_plan_105 : decode cX6_plan 105 = .ok (.ireturn, 1) := by decide +kernel
theorem dX6_stops_0 : decode cX6_stops 0 = .ok (.aload_n 0, 1) := by decide +kernel
theorem dX6_stops_1 : decode cX6_stops 1 = .ok (.iload_n 1, 1) := by decide +kernel
theorem dX6_stops_2 : decode cX6_stops 2 = .ok (.invokevirtual 113, 3) := by decide +kernel
theorem dX6_stops_5 : decode cX6_stops 5 = .ok (.ifCond .ne 6, 3) := by decide +kernel
theorem dX6_stops_8 : decode cX6_stops 8 = .ok (.ldc 117, 2) := by decide +kernel
theorem dX6_stops_10 : decode cX6_stops 10 = .ok (.ireturn, 1) := by decide +kernel
theorem dX6_stops_11 : decode cX6_stops 11 = .ok (.aload_n 0, 1) := by decide +kernel
theorem dX6_stops_12 : decode cX6_stops 12 = .ok (.getfield 49, 3) := by decide +kernel
theorem dX6_stops_15 : decode cX6_stops 15 = .ok (.aload_n 0, 1) := by decide +kernel
theorem dX6_stops_16 : decode cX6_stops 16 = .ok (.getfield 19, 3) := by decide +kernel
theorem dX6_stops_19 : decode cX6_stops 19 = .ok (.aload_n 0, 1) := by decide +kernel
theorem dX6_stops_20 : decode cX6_stops 20 = .ok (.getfield 29, 3) := by decide +kernel
theorem dX6_stops_23 : decode cX6_stops 23 = .ok (.iload_n 1, 1) := by decide +kernel
theorem dX6_stops_24 : decode cX6_stops 24 = .ok (.invokevirtual 206, 3) := by decide +kernel
theorem dX6_stops_27 : decode cX6_stops 27 = .ok (.aload_n 0, 1) := by decide +kernel
theorem dX6_stops_28 : decode cX6_stops 28 = .ok (.getfield 49, 3) := by decide +kernel
theorem dX6_stops_31 : decode cX6_stops 31 = .ok (.getfield 210, 3) := by decide +kernel
theorem dX6_stops_34 : decode cX6_stops 34 = .ok (.aload_n 0, 1) := by decide +kernel
theorem dX6_stops_35 : decode cX6_stops 35 = .ok (.getfield 29, 3) := by decide +kernel
theorem dX6_stops_38 : decode cX6_stops 38 = .ok (.getfield 130, 3) := by decide +kernel
theorem dX6_stops_41 : decode cX6_stops 41 = .ok (.iload_n 1, 1) := by decide +kernel
theorem dX6_stops_42 : decode cX6_stops 42 = .ok (.iaload, 1) := by decide +kernel
theorem dX6_stops_43 : decode cX6_stops 43 = .ok (.ior, 1) := by decide +kernel
theorem dX6_stops_44 : decode cX6_stops 44 = .ok (.istore_n 2, 1) := by decide +kernel
theorem dX6_stops_45 : decode cX6_stops 45 = .ok (.iconst 0, 1) := by decide +kernel
theorem dX6_stops_46 : decode cX6_stops 46 = .ok (.istore_n 3, 1) := by decide +kernel
theorem dX6_stops_47 : decode cX6_stops 47 = .ok (.iload_n 3, 1) := by decide +kernel
theorem dX6_stops_48 : decode cX6_stops 48 = .ok (.aload_n 0, 1) := by decide +kernel
theorem dX6_stops_49 : decode cX6_stops 49 = .ok (.getfield 19, 3) := by decide +kernel
theorem dX6_stops_52 : decode cX6_stops 52 = .ok (.getfield 97, 3) := by decide +kernel
theorem dX6_stops_55 : decode cX6_stops 55 = .ok (.if_icmp .ge 19, 3) := by decide +kernel
theorem dX6_stops_58 : decode cX6_stops 58 = .ok (.iload_n 2, 1) := by decide +kernel
theorem dX6_stops_59 : decode cX6_stops 59 = .ok (.iload_n 3, 1) := by decide +kernel
theorem dX6_stops_60 : decode cX6_stops 60 = .ok (.invokestatic 188, 3) := by decide +kernel
theorem dX6_stops_63 : decode cX6_stops 63 = .ok (.ifCond .ne 5, 3) := by decide +kernel
theorem dX6_stops_66 : decode cX6_stops 66 = .ok (.iload_n 3, 1) := by decide +kernel
theorem dX6_stops_67 : decode cX6_stops 67 = .ok (.ireturn, 1) := by decide +kernel
theorem dX6_stops_68 : decode cX6_stops 68 = .ok (.iinc 3 1, 3) := by decide +kernel
theorem dX6_stops_71 : decode cX6_stops 71 = .ok (.goto (-24), 3) := by decide +kernel
theorem dX6_stops_74 : decode cX6_stops 74 = .ok (.iconst (-1), 1) := by decide +kernel
theorem dX6_stops_75 : decode cX6_stops 75 = .ok (.ireturn, 1) := by decide +kernel
theorem dX6_write_0 : decode cX6_write 0 = .ok (.iload_n 1, 1) := by decide +kernel
theorem dX6_write_1 : decode cX6_write 1 = .ok (.iconst (-1), 1) := by decide +kernel
theorem dX6_write_2 : decode cX6_write 2 = .ok (.if_icmp .eq 14, 3) := by decide +kernel
theorem dX6_write_5 : decode cX6_write 5 = .ok (.aload_n 0, 1) := by decide +kernel
theorem dX6_write_6 : decode cX6_write 6 = .ok (.iload_n 1, 1) := by decide +kernel
theorem dX6_write_7 : decode cX6_write 7 = .ok (.invokevirtual 113, 3) := by decide +kernel
theorem dX6_write_10 : decode cX6_write 10 = .ok (.ifCond .ne 6, 3) := by decide +kernel
theorem dX6_write_13 : decode cX6_write 13 = .ok (.ldc 117, 2) := by decide +kernel
theorem dX6_write_15 : decode cX6_write 15 = .ok (.ireturn, 1) := by decide +kernel
theorem dX6_write_16 : decode cX6_write 16 = .ok (.aload_n 0, 1) := by decide +kernel
theorem dX6_write_17 : decode cX6_write 17 = .ok (.getfield 56, 3) := by decide +kernel
theorem dX6_write_20 : decode cX6_write 20 = .ok (.aload_n 0, 1) := by decide +kernel
theorem dX6_write_21 : decode cX6_write 21 = .ok (.getfield 19, 3) := by decide +kernel
theorem dX6_write_24 : decode cX6_write 24 = .ok (.aload_n 0, 1) := by decide +kernel
theorem dX6_write_25 : decode cX6_write 25 = .ok (.getfield 29, 3) := by decide +kernel
theorem dX6_write_28 : decode cX6_write 28 = .ok (.invokevirtual 222, 3) := by decide +kernel
theorem dX6_write_31 : decode cX6_write 31 = .ok (.istore_n 2, 1) := by decide +kernel
theorem dX6_write_32 : decode cX6_write 32 = .ok (.iload_n 2, 1) := by decide +kernel
theorem dX6_write_33 : decode cX6_write 33 = .ok (.iconst (-1), 1) := by decide +kernel
theorem dX6_write_34 : decode cX6_write 34 = .ok (.if_icmp .eq 8, 3) := by decide +kernel
theorem dX6_write_37 : decode cX6_write 37 = .ok (.iload_n 1, 1) := by decide +kernel
theorem dX6_write_38 : decode cX6_write 38 = .ok (.iconst (-1), 1) := by decide +kernel
theorem dX6_write_39 : decode cX6_write 39 = .ok (.if_icmp .ne 5, 3) := by decide +kernel
theorem dX6_write_42 : decode cX6_write 42 = .ok (.iload_n 2, 1) := by decide +kernel
theorem dX6_write_43 : decode cX6_write 43 = .ok (.ireturn, 1) := by decide +kernel
theorem dX6_write_44 : decode cX6_write 44 = .ok (.aload_n 0, 1) := by decide +kernel
theorem dX6_write_45 : decode cX6_write 45 = .ok (.getfield 56, 3) := by decide +kernel
theorem dX6_write_48 : decode cX6_write 48 = .ok (.getfield 226, 3) := by decide +kernel
theorem dX6_write_51 : decode cX6_write 51 = .ok (.iload_n 1, 1) := by decide +kernel
theorem dX6_write_52 : decode cX6_write 52 = .ok (.iaload, 1) := by decide +kernel
theorem dX6_write_53 : decode cX6_write 53 = .ok (.ireturn, 1) := by decide +kernel
theorem dX6_tells_0 : decode cX6_tells 0 = .ok (.iload_n 1, 1) := by decide +kernel
theorem dX6_tells_1 : decode cX6_tells 1 = .ok (.ifCond .lt 28, 3) := by decide +kernel
theorem dX6_tells_4 : decode cX6_tells 4 = .ok (.iload_n 1, 1) := by decide +kernel
theorem dX6_tells_5 : decode cX6_tells 5 = .ok (.bipush 99, 2) := by decide +kernel
theorem dX6_tells_7 : decode cX6_tells 7 = .ok (.if_icmp .gt 22, 3) := by decide +kernel
theorem dX6_tells_10 : decode cX6_tells 10 = .ok (.iload_n 2, 1) := by decide +kernel
theorem dX6_tells_11 : decode cX6_tells 11 = .ok (.ifCond .lt 18, 3) := by decide +kernel
theorem dX6_tells_14 : decode cX6_tells 14 = .ok (.iload_n 2, 1) := by decide +kernel
theorem dX6_tells_15 : decode cX6_tells 15 = .ok (.bipush 99, 2) := by decide +kernel
theorem dX6_tells_17 : decode cX6_tells 17 = .ok (.if_icmp .gt 12, 3) := by decide +kernel
theorem dX6_tells_20 : decode cX6_tells 20 = .ok (.iload_n 3, 1) := by decide +kernel
theorem dX6_tells_21 : decode cX6_tells 21 = .ok (.ifCond .lt 8, 3) := by decide +kernel
theorem dX6_tells_24 : decode cX6_tells 24 = .ok (.iload_n 3, 1) := by decide +kernel
theorem dX6_tells_25 : decode cX6_tells 25 = .ok (.iconst 1, 1) := by decide +kernel
theorem dX6_tells_26 : decode cX6_tells 26 = .ok (.if_icmp .le 6, 3) := by decide +kernel
theorem dX6_tells_29 : decode cX6_tells 29 = .ok (.ldc 64, 2) := by decide +kernel
theorem dX6_tells_31 : decode cX6_tells 31 = .ok (.ireturn, 1) := by decide +kernel
theorem dX6_tells_32 : decode cX6_tells 32 = .ok (.iconst 0, 1) := by decide +kernel
theorem dX6_tells_33 : decode cX6_tells 33 = .ok (.istore 4, 2) := by decide +kernel
theorem dX6_tells_35 : decode cX6_tells 35 = .ok (.iconst 0, 1) := by decide +kernel
theorem dX6_tells_36 : decode cX6_tells 36 = .ok (.istore 5, 2) := by decide +kernel
theorem dX6_tells_38 : decode cX6_tells 38 = .ok (.iconst 0, 1) := by decide +kernel
theorem dX6_tells_39 : decode cX6_tells 39 = .ok (.istore 6, 2) := by decide +kernel
theorem dX6_tells_41 : decode cX6_tells 41 = .ok (.iload 6, 2) := by decide +kernel
theorem dX6_tells_43 : decode cX6_tells 43 = .ok (.aload_n 0, 1) := by decide +kernel
theorem dX6_tells_44 : decode cX6_tells 44 = .ok (.getfield 19, 3) := by decide +kernel
theorem dX6_tells_47 : decode cX6_tells 47 = .ok (.getfield 91, 3) := by decide +kernel
theorem dX6_tells_50 : decode cX6_tells 50 = .ok (.if_icmp .ge 39, 3) := by decide +kernel
theorem dX6_tells_53 : decode cX6_tells 53 = .ok (.aload_n 0, 1) := by decide +kernel
theorem dX6_tells_54 : decode cX6_tells 54 = .ok (.iload 6, 2) := by decide +kernel
theorem dX6_tells_56 : decode cX6_tells 56 = .ok (.invokevirtual 127, 3) := by decide +kernel
theorem dX6_tells_59 : decode cX6_tells 59 = .ok (.iload_n 1, 1) := by decide +kernel
theorem dX6_tells_60 : decode cX6_tells 60 = .ok (.if_icmp .ne 23, 3) := by decide +kernel
theorem dX6_tells_63 : decode cX6_tells 63 = .ok (.iinc 4 1, 3) := by decide +kernel
theorem dX6_tells_66 : decode cX6_tells 66 = .ok (.aload_n 0, 1) := by decide +kernel
theorem dX6_tells_67 : decode cX6_tells 67 = .ok (.getfield 19, 3) := by decide +kernel
theorem dX6_tells_70 : decode cX6_tells 70 = .ok (.getfield 121, 3) := by decide +kernel
theorem dX6_tells_73 : decode cX6_tells 73 = .ok (.iload 6, 2) := by decide +kernel
theorem dX6_tells_75 : decode cX6_tells 75 = .ok (.iaload, 1) := by decide +kernel
theorem dX6_tells_76 : decode cX6_tells 76 = .ok (.iload_n 2, 1) := by decide +kernel
theorem dX6_tells_77 : decode cX6_tells 77 = .ok (.if_icmp .lt 6, 3) := by decide +kernel
theorem dX6_tells_80 : decode cX6_tells 80 = .ok (.iinc 5 1, 3) := by decide +kernel
theorem dX6_tells_83 : decode cX6_tells 83 = .ok (.iinc 6 1, 3) := by decide +kernel
theorem dX6_tells_86 : decode cX6_tells 86 = .ok (.goto (-45), 3) := by decide +kernel
theorem dX6_tells_89 : decode cX6_tells 89 = .ok (.iload 5, 2) := by decide +kernel
theorem dX6_tells_91 : decode cX6_tells 91 = .ok (.ifCond .ne 5, 3) := by decide +kernel
theorem dX6_tells_94 : decode cX6_tells 94 = .ok (.iload_n 3, 1) := by decide +kernel
theorem dX6_tells_95 : decode cX6_tells 95 = .ok (.ireturn, 1) := by decide +kernel
theorem dX6_tells_96 : decode cX6_tells 96 = .ok (.iload_n 3, 1) := by decide +kernel
theorem dX6_tells_97 : decode cX6_tells 97 = .ok (.ifCond .ne 8, 3) := by decide +kernel
theorem dX6_tells_100 : decode cX6_tells 100 = .ok (.iload 5, 2) := by decide +kernel
theorem dX6_tells_102 : decode cX6_tells 102 = .ok (.goto 5, 3) := by decide +kernel
theorem dX6_tells_105 : decode cX6_tells 105 = .ok (.iload 4, 2) := by decide +kernel
theorem dX6_tells_107 : decode cX6_tells 107 = .ok (.iload 5, 2) := by decide +kernel
theorem dX6_tells_109 : decode cX6_tells 109 = .ok (.iload 4, 2) := by decide +kernel
theorem dX6_tells_111 : decode cX6_tells 111 = .ok (.invokestatic 227, 3) := by decide +kernel
theorem dX6_tells_114 : decode cX6_tells 114 = .ok (.idiv, 1) := by decide +kernel
theorem dX6_tells_115 : decode cX6_tells 115 = .ok (.ireturn, 1) := by decide +kernel
theorem dX6_words_0 : decode cX6_words 0 = .ok (.aload_n 0, 1) := by decide +kernel
theorem dX6_words_1 : decode cX6_words 1 = .ok (.iload_n 1, 1) := by decide +kernel
theorem dX6_words_2 : decode cX6_words 2 = .ok (.invokevirtual 113, 3) := by decide +kernel
theorem dX6_words_5 : decode cX6_words 5 = .ok (.ifCond .eq 16, 3) := by decide +kernel
theorem dX6_words_8 : decode cX6_words 8 = .ok (.aload_n 0, 1) := by decide +kernel
theorem dX6_words_9 : decode cX6_words 9 = .ok (.iload_n 2, 1) := by decide +kernel
theorem dX6_words_10 : decode cX6_words 10 = .ok (.invokevirtual 113, 3) := by decide +kernel
theorem dX6_words_13 : decode cX6_words 13 = .ok (.ifCond .eq 8, 3) := by decide +kernel
theorem dX6_words_16 : decode cX6_words 16 = .ok (.iload_n 1, 1) := by decide +kernel
theorem dX6_words_17 : decode cX6_words 17 = .ok (.iload_n 2, 1) := by decide +kernel
theorem dX6_words_18 : decode cX6_words 18 = .ok (.if_icmp .ne 6, 3) := by decide +kernel
theorem dX6_words_21 : decode cX6_words 21 = .ok (.ldc 117, 2) := by decide +kernel
theorem dX6_words_23 : decode cX6_words 23 = .ok (.ireturn, 1) := by decide +kernel
theorem dX6_words_24 : decode cX6_words 24 = .ok (.aload_n 0, 1) := by decide +kernel
theorem dX6_words_25 : decode cX6_words 25 = .ok (.getfield 19, 3) := by decide +kernel
theorem dX6_words_28 : decode cX6_words 28 = .ok (.getfield 121, 3) := by decide +kernel
theorem dX6_words_31 : decode cX6_words 31 = .ok (.iload_n 1, 1) := by decide +kernel
theorem dX6_words_32 : decode cX6_words 32 = .ok (.iaload, 1) := by decide +kernel
theorem dX6_words_33 : decode cX6_words 33 = .ok (.ifCond .eq 15, 3) := by decide +kernel
theorem dX6_words_36 : decode cX6_words 36 = .ok (.aload_n 0, 1) := by decide +kernel
theorem dX6_words_37 : decode cX6_words 37 = .ok (.getfield 19, 3) := by decide +kernel
theorem dX6_words_40 : decode cX6_words 40 = .ok (.getfield 121, 3) := by decide +kernel
theorem dX6_words_43 : decode cX6_words 43 = .ok (.iload_n 2, 1) := by decide +kernel
theorem dX6_words_44 : decode cX6_words 44 = .ok (.iaload, 1) := by decide +kernel
theorem dX6_words_45 : decode cX6_words 45 = .ok (.ifCond .ne 5, 3) := by decide +kernel
theorem dX6_words_48 : decode cX6_words 48 = .ok (.iconst (-1), 1) := by decide +kernel
theorem dX6_words_49 : decode cX6_words 49 = .ok (.ireturn, 1) := by decide +kernel
theorem dX6_words_50 : decode cX6_words 50 = .ok (.aload_n 0, 1) := by decide +kernel
theorem dX6_words_51 : decode cX6_words 51 = .ok (.iload_n 1, 1) := by decide +kernel
theorem dX6_words_52 : decode cX6_words 52 = .ok (.aload_n 0, 1) := by decide +kernel
theorem dX6_words_53 : decode cX6_words 53 = .ok (.iload_n 2, 1) := by decide +kernel
theorem dX6_words_54 : decode cX6_words 54 = .ok (.invokevirtual 127, 3) := by decide +kernel
theorem dX6_words_57 : decode cX6_words 57 = .ok (.invokevirtual 230, 3) := by decide +kernel
theorem dX6_words_60 : decode cX6_words 60 = .ok (.aload_n 0, 1) := by decide +kernel
theorem dX6_words_61 : decode cX6_words 61 = .ok (.iload_n 2, 1) := by decide +kernel
theorem dX6_words_62 : decode cX6_words 62 = .ok (.aload_n 0, 1) := by decide +kernel
theorem dX6_words_63 : decode cX6_words 63 = .ok (.iload_n 1, 1) := by decide +kernel
theorem dX6_words_64 : decode cX6_words 64 = .ok (.invokevirtual 127, 3) := by decide +kernel
theorem dX6_words_67 : decode cX6_words 67 = .ok (.invokevirtual 230, 3) := by decide +kernel
theorem dX6_words_70 : decode cX6_words 70 = .ok (.iadd, 1) := by decide +kernel
theorem dX6_words_71 : decode cX6_words 71 = .ok (.ireturn, 1) := by decide +kernel
theorem dX6_hire_0 : decode cX6_hire 0 = .ok (.aload_n 0, 1) := by decide +kernel
theorem dX6_hire_1 : decode cX6_hire 1 = .ok (.iload_n 1, 1) := by decide +kernel
theorem dX6_hire_2 : decode cX6_hire 2 = .ok (.invokevirtual 113, 3) := by decide +kernel
theorem dX6_hire_5 : decode cX6_hire 5 = .ok (.ifCond .ne 6, 3) := by decide +kernel
theorem dX6_hire_8 : decode cX6_hire 8 = .ok (.ldc 117, 2) := by decide +kernel
theorem dX6_hire_10 : decode cX6_hire 10 = .ok (.ireturn, 1) := by decide +kernel
theorem dX6_hire_11 : decode cX6_hire 11 = .ok (.iload_n 2, 1) := by decide +kernel
theorem dX6_hire_12 : decode cX6_hire 12 = .ok (.ifCond .lt 8, 3) := by decide +kernel
theorem dX6_hire_15 : decode cX6_hire 15 = .ok (.iload_n 2, 1) := by decide +kernel
theorem dX6_hire_16 : decode cX6_hire 16 = .ok (.iconst 1, 1) := by decide +kernel
theorem dX6_hire_17 : decode cX6_hire 17 = .ok (.if_icmp .le 6, 3) := by decide +kernel
theorem dX6_hire_20 : decode cX6_hire 20 = .ok (.ldc 64, 2) := by decide +kernel
theorem dX6_hire_22 : decode cX6_hire 22 = .ok (.ireturn, 1) := by decide +kernel
theorem dX6_hire_23 : decode cX6_hire 23 = .ok (.iconst 0, 1) := by decide +kernel
theorem dX6_hire_24 : decode cX6_hire 24 = .ok (.istore_n 3, 1) := by decide +kernel
theorem dX6_hire_25 : decode cX6_hire 25 = .ok (.iconst 0, 1) := by decide +kernel
theorem dX6_hire_26 : decode cX6_hire 26 = .ok (.istore 4, 2) := by decide +kernel
theorem dX6_hire_28 : decode cX6_hire 28 = .ok (.iload 4, 2) := by decide +kernel
theorem dX6_hire_30 : decode cX6_hire 30 = .ok (.iload_n 1, 1) := by decide +kernel
theorem dX6_hire_31 : decode cX6_hire 31 = .ok (.if_icmp .ge 31, 3) := by decide +kernel
theorem dX6_hire_34 : decode cX6_hire 34 = .ok (.aload_n 0, 1) := by decide +kernel
theorem dX6_hire_35 : decode cX6_hire 35 = .ok (.iload 4, 2) := by decide +kernel
theorem dX6_hire_37 : decode cX6_hire 37 = .ok (.iload_n 3, 1) := by decide +kernel
theorem dX6_hire_38 : decode cX6_hire 38 = .ok (.invokevirtual 233, 3) := by decide +kernel
theorem dX6_hire_41 : decode cX6_hire 41 = .ok (.istore 5, 2) := by decide +kernel
theorem dX6_hire_43 : decode cX6_hire 43 = .ok (.iload 5, 2) := by decide +kernel
theorem dX6_hire_45 : decode cX6_hire 45 = .ok (.iconst (-1), 1) := by decide +kernel
theorem dX6_hire_46 : decode cX6_hire 46 = .ok (.if_icmp .eq 10, 3) := by decide +kernel
theorem dX6_hire_49 : decode cX6_hire 49 = .ok (.iload_n 3, 1) := by decide +kernel
theorem dX6_hire_50 : decode cX6_hire 50 = .ok (.iconst 1, 1) := by decide +kernel
theorem dX6_hire_51 : decode cX6_hire 51 = .ok (.iload 5, 2) := by decide +kernel
theorem dX6_hire_53 : decode cX6_hire 53 = .ok (.ishl, 1) := by decide +kernel
theorem dX6_hire_54 : decode cX6_hire 54 = .ok (.ior, 1) := by decide +kernel
theorem dX6_hire_55 : decode cX6_hire 55 = .ok (.istore_n 3, 1) := by decide +kernel
theorem dX6_hire_56 : decode cX6_hire 56 = .ok (.iinc 4 1, 3) := by decide +kernel
theorem dX6_hire_59 : decode cX6_hire 59 = .ok (.goto (-31), 3) := by decide +kernel
theorem dX6_hire_62 : decode cX6_hire 62 = .ok (.aload_n 0, 1) := by decide +kernel
theorem dX6_hire_63 : decode cX6_hire 63 = .ok (.iload_n 1, 1) := by decide +kernel
theorem dX6_hire_64 : decode cX6_hire 64 = .ok (.iload_n 3, 1) := by decide +kernel
theorem dX6_hire_65 : decode cX6_hire 65 = .ok (.invokevirtual 233, 3) := by decide +kernel
theorem dX6_hire_68 : decode cX6_hire 68 = .ok (.istore 4, 2) := by decide +kernel
theorem dX6_hire_70 : decode cX6_hire 70 = .ok (.iload 4, 2) := by decide +kernel
theorem dX6_hire_72 : decode cX6_hire 72 = .ok (.iconst (-1), 1) := by decide +kernel
theorem dX6_hire_73 : decode cX6_hire 73 = .ok (.if_icmp .eq 7, 3) := by decide +kernel
theorem dX6_hire_76 : decode cX6_hire 76 = .ok (.iload_n 2, 1) := by decide +kernel
theorem dX6_hire_77 : decode cX6_hire 77 = .ok (.ifCond .ne 6, 3) := by decide +kernel
theorem dX6_hire_80 : decode cX6_hire 80 = .ok (.iload 4, 2) := by decide +kernel
theorem dX6_hire_82 : decode cX6_hire 82 = .ok (.ireturn, 1) := by decide +kernel
theorem dX6_hire_83 : decode cX6_hire 83 = .ok (.aload_n 0, 1) := by decide +kernel
theorem dX6_hire_84 : decode cX6_hire 84 = .ok (.iload_n 1, 1) := by decide +kernel
theorem dX6_hire_85 : decode cX6_hire 85 = .ok (.iload_n 3, 1) := by decide +kernel
theorem dX6_hire_86 : decode cX6_hire 86 = .ok (.iconst 1, 1) := by decide +kernel
theorem dX6_hire_87 : decode cX6_hire 87 = .ok (.iload 4, 2) := by decide +kernel
theorem dX6_hire_89 : decode cX6_hire 89 = .ok (.ishl, 1) := by decide +kernel
theorem dX6_hire_90 : decode cX6_hire 90 = .ok (.ior, 1) := by decide +kernel
theorem dX6_hire_91 : decode cX6_hire 91 = .ok (.invokevirtual 233, 3) := by decide +kernel
theorem dX6_hire_94 : decode cX6_hire 94 = .ok (.istore 5, 2) := by decide +kernel
theorem dX6_hire_96 : decode cX6_hire 96 = .ok (.iload 5, 2) := by decide +kernel
theorem dX6_hire_98 : decode cX6_hire 98 = .ok (.iconst (-1), 1) := by decide +kernel
theorem dX6_hire_99 : decode cX6_hire 99 = .ok (.if_icmp .ne 7, 3) := by decide +kernel
theorem dX6_hire_102 : decode cX6_hire 102 = .ok (.iconst 0, 1) := by decide +kernel
theorem dX6_hire_103 : decode cX6_hire 103 = .ok (.goto 17, 3) := by decide +kernel
theorem dX6_hire_106 : decode cX6_hire 106 = .ok (.aload_n 0, 1) := by decide +kernel
theorem dX6_hire_107 : decode cX6_hire 107 = .ok (.getfield 29, 3) := by decide +kernel
theorem dX6_hire_110 : decode cX6_hire 110 = .ok (.getfield 142, 3) := by decide +kernel
theorem dX6_hire_113 : decode cX6_hire 113 = .ok (.iload 5, 2) := by decide +kernel
theorem dX6_hire_115 : decode cX6_hire 115 = .ok (.iload_n 1, 1) := by decide +kernel
theorem dX6_hire_116 : decode cX6_hire 116 = .ok (.invokestatic 145, 3) := by decide +kernel
theorem dX6_hire_119 : decode cX6_hire 119 = .ok (.iaload, 1) := by decide +kernel
theorem dX6_hire_120 : decode cX6_hire 120 = .ok (.ireturn, 1) := by decide +kernel
theorem dX6_saw_0 : decode cX6_saw 0 = .ok (.aload_n 0, 1) := by decide +kernel
theorem dX6_saw_1 : decode cX6_saw 1 = .ok (.iload_n 1, 1) := by decide +kernel
theorem dX6_saw_2 : decode cX6_saw 2 = .ok (.invokevirtual 139, 3) := by decide +kernel
theorem dX6_saw_5 : decode cX6_saw 5 = .ok (.ifCond .eq 11, 3) := by decide +kernel
theorem dX6_saw_8 : decode cX6_saw 8 = .ok (.aload_n 0, 1) := by decide +kernel
theorem dX6_saw_9 : decode cX6_saw 9 = .ok (.iload_n 2, 1) := by decide +kernel
theorem dX6_saw_10 : decode cX6_saw 10 = .ok (.invokevirtual 113, 3) := by decide +kernel
theorem dX6_saw_13 : decode cX6_saw 13 = .ok (.ifCond .ne 6, 3) := by decide +kernel
theorem dX6_saw_16 : decode cX6_saw 16 = .ok (.ldc 117, 2) := by decide +kernel
theorem dX6_saw_18 : decode cX6_saw 18 = .ok (.ireturn, 1) := by decide +kernel
theorem dX6_saw_19 : decode cX6_saw 19 = .ok (.iload_n 3, 1) := by decide +kernel
theorem dX6_saw_20 : decode cX6_saw 20 = .ok (.ifCond .lt 8, 3) := by decide +kernel
theorem dX6_saw_23 : decode cX6_saw 23 = .ok (.iload_n 3, 1) := by decide +kernel
theorem dX6_saw_24 : decode cX6_saw 24 = .ok (.iconst 1, 1) := by decide +kernel
theorem dX6_saw_25 : decode cX6_saw 25 = .ok (.if_icmp .le 6, 3) := by decide +kernel
theorem dX6_saw_28 : decode cX6_saw 28 = .ok (.ldc 64, 2) := by decide +kernel
theorem dX6_saw_30 : decode cX6_saw 30 = .ok (.ireturn, 1) := by decide +kernel
theorem dX6_saw_31 : decode cX6_saw 31 = .ok (.aload_n 0, 1) := by decide +kernel
theorem dX6_saw_32 : decode cX6_saw 32 = .ok (.getfield 29, 3) := by decide +kernel
theorem dX6_saw_35 : decode cX6_saw 35 = .ok (.getfield 142, 3) := by decide +kernel
theorem dX6_saw_38 : decode cX6_saw 38 = .ok (.iload_n 1, 1) := by decide +kernel
theorem dX6_saw_39 : decode cX6_saw 39 = .ok (.iload_n 2, 1) := by decide +kernel
theorem dX6_saw_40 : decode cX6_saw 40 = .ok (.invokestatic 145, 3) := by decide +kernel
theorem dX6_saw_43 : decode cX6_saw 43 = .ok (.iaload, 1) := by decide +kernel
theorem dX6_saw_44 : decode cX6_saw 44 = .ok (.istore 4, 2) := by decide +kernel
theorem dX6_saw_46 : decode cX6_saw 46 = .ok (.iconst 0, 1) := by decide +kernel
theorem dX6_saw_47 : decode cX6_saw 47 = .ok (.istore 5, 2) := by decide +kernel
theorem dX6_saw_49 : decode cX6_saw 49 = .ok (.aload_n 0, 1) := by decide +kernel
theorem dX6_saw_50 : decode cX6_saw 50 = .ok (.getfield 29, 3) := by decide +kernel
theorem dX6_saw_53 : decode cX6_saw 53 = .ok (.getfield 130, 3) := by decide +kernel
theorem dX6_saw_56 : decode cX6_saw 56 = .ok (.iload_n 2, 1) := by decide +kernel
theorem dX6_saw_57 : decode cX6_saw 57 = .ok (.iaload, 1) := by decide +kernel
theorem dX6_saw_58 : decode cX6_saw 58 = .ok (.istore 6, 2) := by decide +kernel
theorem dX6_saw_60 : decode cX6_saw 60 = .ok (.iconst 0, 1) := by decide +kernel
theorem dX6_saw_61 : decode cX6_saw 61 = .ok (.istore 7, 2) := by decide +kernel
theorem dX6_saw_63 : decode cX6_saw 63 = .ok (.iload 7, 2) := by decide +kernel
theorem dX6_saw_65 : decode cX6_saw 65 = .ok (.bipush 64, 2) := by decide +kernel
theorem dX6_saw_67 : decode cX6_saw 67 = .ok (.if_icmp .ge 64, 3) := by decide +kernel
theorem dX6_saw_70 : decode cX6_saw 70 = .ok (.iload 7, 2) := by decide +kernel
theorem dX6_saw_72 : decode cX6_saw 72 = .ok (.aload_n 0, 1) := by decide +kernel
theorem dX6_saw_73 : decode cX6_saw 73 = .ok (.getfield 29, 3) := by decide +kernel
theorem dX6_saw_76 : decode cX6_saw 76 = .ok (.getfield 130, 3) := by decide +kernel
theorem dX6_saw_79 : decode cX6_saw 79 = .ok (.iload_n 2, 1) := by decide +kernel
theorem dX6_saw_80 : decode cX6_saw 80 = .ok (.iaload, 1) := by decide +kernel
theorem dX6_saw_81 : decode cX6_saw 81 = .ok (.iconst (-1), 1) := by decide +kernel
theorem dX6_saw_82 : decode cX6_saw 82 = .ok (.ixor, 1) := by decide +kernel
theorem dX6_saw_83 : decode cX6_saw 83 = .ok (.iand, 1) := by decide +kernel
theorem dX6_saw_84 : decode cX6_saw 84 = .ok (.ifCond .eq 7, 3) := by decide +kernel
theorem dX6_saw_87 : decode cX6_saw 87 = .ok (.iconst 0, 1) := by decide +kernel
theorem dX6_saw_88 : decode cX6_saw 88 = .ok (.goto 16, 3) := by decide +kernel
theorem dX6_saw_91 : decode cX6_saw 91 = .ok (.aload_n 0, 1) := by decide +kernel
theorem dX6_saw_92 : decode cX6_saw 92 = .ok (.iload 7, 2) := by decide +kernel
theorem dX6_saw_94 : decode cX6_saw 94 = .ok (.aload_n 0, 1) := by decide +kernel
theorem dX6_saw_95 : decode cX6_saw 95 = .ok (.iload_n 2, 1) := by decide +kernel
theorem dX6_saw_96 : decode cX6_saw 96 = .ok (.invokevirtual 127, 3) := by decide +kernel
theorem dX6_saw_99 : decode cX6_saw 99 = .ok (.iload 4, 2) := by decide +kernel
theorem dX6_saw_101 : decode cX6_saw 101 = .ok (.invokevirtual 236, 3) := by decide +kernel
theorem dX6_saw_104 : decode cX6_saw 104 = .ok (.istore 8, 2) := by decide +kernel
theorem dX6_saw_106 : decode cX6_saw 106 = .ok (.iload 5, 2) := by decide +kernel
theorem dX6_saw_108 : decode cX6_saw 108 = .ok (.iload 8, 2) := by decide +kernel
theorem dX6_saw_110 : decode cX6_saw 110 = .ok (.iadd, 1) := by decide +kernel
theorem dX6_saw_111 : decode cX6_saw 111 = .ok (.istore 5, 2) := by decide +kernel
theorem dX6_saw_113 : decode cX6_saw 113 = .ok (.iload 8, 2) := by decide +kernel
theorem dX6_saw_115 : decode cX6_saw 115 = .ok (.ifCond .le 10, 3) := by decide +kernel
theorem dX6_saw_118 : decode cX6_saw 118 = .ok (.iload 6, 2) := by decide +kernel
theorem dX6_saw_120 : decode cX6_saw 120 = .ok (.iload 7, 2) := by decide +kernel
theorem dX6_saw_122 : decode cX6_saw 122 = .ok (.iand, 1) := by decide +kernel
theorem dX6_saw_123 : decode cX6_saw 123 = .ok (.istore 6, 2) := by decide +kernel
theorem dX6_saw_125 : decode cX6_saw 125 = .ok (.iinc 7 1, 3) := by decide +kernel
theorem dX6_saw_128 : decode cX6_saw 128 = .ok (.goto (-65), 3) := by decide +kernel
theorem dX6_saw_131 : decode cX6_saw 131 = .ok (.iload_n 3, 1) := by decide +kernel
theorem dX6_saw_132 : decode cX6_saw 132 = .ok (.ifCond .ne 6, 3) := by decide +kernel
theorem dX6_saw_135 : decode cX6_saw 135 = .ok (.iload 5, 2) := by decide +kernel
theorem dX6_saw_137 : decode cX6_saw 137 = .ok (.ireturn, 1) := by decide +kernel
theorem dX6_saw_138 : decode cX6_saw 138 = .ok (.iload 5, 2) := by decide +kernel
theorem dX6_saw_140 : decode cX6_saw 140 = .ok (.ifCond .ne 7, 3) := by decide +kernel
theorem dX6_saw_143 : decode cX6_saw 143 = .ok (.iconst 0, 1) := by decide +kernel
theorem dX6_saw_144 : decode cX6_saw 144 = .ok (.goto 5, 3) := by decide +kernel
theorem dX6_saw_147 : decode cX6_saw 147 = .ok (.iload 6, 2) := by decide +kernel
theorem dX6_saw_149 : decode cX6_saw 149 = .ok (.ireturn, 1) := by decide +kernel
theorem dX6_hides_0 : decode cX6_hides 0 = .ok (.iload_n 1, 1) := by decide +kernel
theorem dX6_hides_1 : decode cX6_hides 1 = .ok (.iconst 1, 1) := by decide +kernel
theorem dX6_hides_2 : decode cX6_hides 2 = .ok (.if_icmp .lt 19, 3) := by decide +kernel
theorem dX6_hides_5 : decode cX6_hides 5 = .ok (.iload_n 1, 1) := by decide +kernel
theorem dX6_hides_6 : decode cX6_hides 6 = .ok (.bipush 9, 2) := by decide +kernel
theorem dX6_hides_8 : decode cX6_hides 8 = .ok (.if_icmp .gt 13, 3) := by decide +kernel
theorem dX6_hides_11 : decode cX6_hides 11 = .ok (.iload_n 2, 1) := by decide +kernel
theorem dX6_hides_12 : decode cX6_hides 12 = .ok (.ifCond .lt 9, 3) := by decide +kernel
theorem dX6_hides_15 : decode cX6_hides 15 = .ok (.iload_n 2, 1) := by decide +kernel
theorem dX6_hides_16 : decode cX6_hides 16 = .ok (.bipush 100, 2) := by decide +kernel
theorem dX6_hides_18 : decode cX6_hides 18 = .ok (.if_icmp .le 6, 3) := by decide +kernel
theorem dX6_hides_21 : decode cX6_hides 21 = .ok (.ldc 64, 2) := by decide +kernel
theorem dX6_hides_23 : decode cX6_hides 23 = .ok (.ireturn, 1) := by decide +kernel
theorem dX6_hides_24 : decode cX6_hides 24 = .ok (.ldc2_w 240, 3) := by decide +kernel
theorem dX6_hides_27 : decode cX6_hides 27 = .ok (.lstore_n 3, 1) := by decide +kernel
theorem dX6_hides_28 : decode cX6_hides 28 = .ok (.iconst 0, 1) := by decide +kernel
theorem dX6_hides_29 : decode cX6_hides 29 = .ok (.istore 5, 2) := by decide +kernel
theorem dX6_hides_31 : decode cX6_hides 31 = .ok (.iload 5, 2) := by decide +kernel
theorem dX6_hides_33 : decode cX6_hides 33 = .ok (.iload_n 1, 1) := by decide +kernel
theorem dX6_hides_34 : decode cX6_hides 34 = .ok (.if_icmp .ge 21, 3) := by decide +kernel
theorem dX6_hides_37 : decode cX6_hides 37 = .ok (.lload_n 3, 1) := by decide +kernel
theorem dX6_hides_38 : decode cX6_hides 38 = .ok (.bipush 100, 2) := by decide +kernel
theorem dX6_hides_40 : decode cX6_hides 40 = .ok (.iload_n 2, 1) := by decide +kernel
theorem dX6_hides_41 : decode cX6_hides 41 = .ok (.isub, 1) := by decide +kernel
theorem dX6_hides_42 : decode cX6_hides 42 = .ok (.i2l, 1) := by decide +kernel
theorem dX6_hides_43 : decode cX6_hides 43 = .ok (.lmul, 1) := by decide +kernel
theorem dX6_hides_44 : decode cX6_hides 44 = .ok (.ldc2_w 242, 3) := by decide +kernel
theorem dX6_hides_47 : decode cX6_hides 47 = .ok (.ldiv, 1) := by decide +kernel
theorem dX6_hides_48 : decode cX6_hides 48 = .ok (.lstore_n 3, 1) := by decide +kernel
theorem dX6_hides_49 : decode cX6_hides 49 = .ok (.iinc 5 1, 3) := by decide +kernel
theorem dX6_hides_52 : decode cX6_hides 52 = .ok (.goto (-21), 3) := by decide +kernel
theorem dX6_hides_55 : decode cX6_hides 55 = .ok (.lload_n 3, 1) := by decide +kernel
theorem dX6_hides_56 : decode cX6_hides 56 = .ok (.l2i, 1) := by decide +kernel
theorem dX6_hides_57 : decode cX6_hides 57 = .ok (.ireturn, 1) := by decide +kernel
theorem dX6_note_0 : decode cX6_note 0 = .ok (.aload_n 0, 1) := by decide +kernel
theorem dX6_note_1 : decode cX6_note 1 = .ok (.iload_n 1, 1) := by decide +kernel
theorem dX6_note_2 : decode cX6_note 2 = .ok (.invokevirtual 139, 3) := by decide +kernel
theorem dX6_note_5 : decode cX6_note 5 = .ok (.ifCond .eq 11, 3) := by decide +kernel
theorem dX6_note_8 : decode cX6_note 8 = .ok (.aload_n 0, 1) := by decide +kernel
theorem dX6_note_9 : decode cX6_note 9 = .ok (.iload_n 2, 1) := by decide +kernel
theorem dX6_note_10 : decode cX6_note 10 = .ok (.invokevirtual 113, 3) := by decide +kernel
theorem dX6_note_13 : decode cX6_note 13 = .ok (.ifCond .ne 6, 3) := by decide +kernel
theorem dX6_note_16 : decode cX6_note 16 = .ok (.ldc 117, 2) := by decide +kernel
theorem dX6_note_18 : decode cX6_note 18 = .ok (.ireturn, 1) := by decide +kernel
theorem dX6_note_19 : decode cX6_note 19 = .ok (.iload_n 3, 1) := by decide +kernel
theorem dX6_note_20 : decode cX6_note 20 = .ok (.ifCond .lt 9, 3) := by decide +kernel
theorem dX6_note_23 : decode cX6_note 23 = .ok (.iload_n 3, 1) := by decide +kernel
theorem dX6_note_24 : decode cX6_note 24 = .ok (.bipush 99, 2) := by decide +kernel
theorem dX6_note_26 : decode cX6_note 26 = .ok (.if_icmp .le 6, 3) := by decide +kernel
theorem dX6_note_29 : decode cX6_note 29 = .ok (.ldc 64, 2) := by decide +kernel
theorem dX6_note_31 : decode cX6_note 31 = .ok (.ireturn, 1) := by decide +kernel
theorem dX6_note_32 : decode cX6_note 32 = .ok (.aload_n 0, 1) := by decide +kernel
theorem dX6_note_33 : decode cX6_note 33 = .ok (.getfield 42, 3) := by decide +kernel
theorem dX6_note_36 : decode cX6_note 36 = .ok (.iload_n 1, 1) := by decide +kernel
theorem dX6_note_37 : decode cX6_note 37 = .ok (.iload_n 2, 1) := by decide +kernel
theorem dX6_note_38 : decode cX6_note 38 = .ok (.invokestatic 145, 3) := by decide +kernel
theorem dX6_note_41 : decode cX6_note 41 = .ok (.iload_n 3, 1) := by decide +kernel
theorem dX6_note_42 : decode cX6_note 42 = .ok (.invokevirtual 244, 3) := by decide +kernel
theorem dX6_note_45 : decode cX6_note 45 = .ok (.ireturn, 1) := by decide +kernel
theorem dX6_tear_0 : decode cX6_tear 0 = .ok (.aload_n 0, 1) := by decide +kernel
theorem dX6_tear_1 : decode cX6_tear 1 = .ok (.getfield 42, 3) := by decide +kernel
theorem dX6_tear_4 : decode cX6_tear 4 = .ok (.getfield 81, 3) := by decide +kernel
theorem dX6_tear_7 : decode cX6_tear 7 = .ok (.istore_n 1, 1) := by decide +kernel
theorem dX6_tear_8 : decode cX6_tear 8 = .ok (.aload_n 0, 1) := by decide +kernel
theorem dX6_tear_9 : decode cX6_tear 9 = .ok (.getfield 42, 3) := by decide +kernel
theorem dX6_tear_12 : decode cX6_tear 12 = .ok (.iconst 0, 1) := by decide +kernel
theorem dX6_tear_13 : decode cX6_tear 13 = .ok (.putfield 81, 3) := by decide +kernel
theorem dX6_tear_16 : decode cX6_tear 16 = .ok (.iload_n 1, 1) := by decide +kernel
theorem dX6_tear_17 : decode cX6_tear 17 = .ok (.ireturn, 1) := by decide +kernel
theorem dX6_judge_0 : decode cX6_judge 0 = .ok (.aload_n 0, 1) := by decide +kernel
theorem dX6_judge_1 : decode cX6_judge 1 = .ok (.getfield 42, 3) := by decide +kernel
theorem dX6_judge_4 : decode cX6_judge 4 = .ok (.aload_n 0, 1) := by decide +kernel
theorem dX6_judge_5 : decode cX6_judge 5 = .ok (.getfield 29, 3) := by decide +kernel
theorem dX6_judge_8 : decode cX6_judge 8 = .ok (.invokevirtual 247, 3) := by decide +kernel
theorem dX6_judge_11 : decode cX6_judge 11 = .ok (.ireturn, 1) := by decide +kernel
theorem dX6_seed_0 : decode cX6_seed 0 = .ok (.iload_n 1, 1) := by decide +kernel
theorem dX6_seed_1 : decode cX6_seed 1 = .ok (.ifCond .ge 6, 3) := by decide +kernel
theorem dX6_seed_4 : decode cX6_seed 4 = .ok (.ldc 64, 2) := by decide +kernel
theorem dX6_seed_6 : decode cX6_seed 6 = .ok (.ireturn, 1) := by decide +kernel
theorem dX6_seed_7 : decode cX6_seed 7 = .ok (.aload_n 0, 1) := by decide +kernel
theorem dX6_seed_8 : decode cX6_seed 8 = .ok (.getfield 29, 3) := by decide +kernel
theorem dX6_seed_11 : decode cX6_seed 11 = .ok (.getfield 251, 3) := by decide +kernel
theorem dX6_seed_14 : decode cX6_seed 14 = .ok (.istore_n 2, 1) := by decide +kernel
theorem dX6_seed_15 : decode cX6_seed 15 = .ok (.aload_n 0, 1) := by decide +kernel
theorem dX6_seed_16 : decode cX6_seed 16 = .ok (.getfield 29, 3) := by decide +kernel
theorem dX6_seed_19 : decode cX6_seed 19 = .ok (.iload_n 1, 1) := by decide +kernel
theorem dX6_seed_20 : decode cX6_seed 20 = .ok (.putfield 251, 3) := by decide +kernel
theorem dX6_seed_23 : decode cX6_seed 23 = .ok (.iload_n 2, 1) := by decide +kernel
theorem dX6_seed_24 : decode cX6_seed 24 = .ok (.ireturn, 1) := by decide +kernel
theorem dX6_keep_0 : decode cX6_keep 0 = .ok (.iload_n 1, 1) := by decide +kernel
theorem dX6_keep_1 : decode cX6_keep 1 = .ok (.ifCond .lt 8, 3) := by decide +kernel
theorem dX6_keep_4 : decode cX6_keep 4 = .ok (.iload_n 1, 1) := by decide +kernel
theorem dX6_keep_5 : decode cX6_keep 5 = .ok (.iconst 1, 1) := by decide +kernel
theorem dX6_keep_6 : decode cX6_keep 6 = .ok (.if_icmp .le 6, 3) := by decide +kernel
theorem dX6_keep_9 : decode cX6_keep 9 = .ok (.ldc 117, 2) := by decide +kernel
theorem dX6_keep_11 : decode cX6_keep 11 = .ok (.ireturn, 1) := by decide +kernel
theorem dX6_keep_12 : decode cX6_keep 12 = .ok (.iload_n 1, 1) := by decide +kernel
theorem dX6_keep_13 : decode cX6_keep 13 = .ok (.ifCond .ne 10, 3) := by decide +kernel
theorem dX6_keep_16 : decode cX6_keep 16 = .ok (.aload_n 0, 1) := by decide +kernel
theorem dX6_keep_17 : decode cX6_keep 17 = .ok (.getfield 33, 3) := by decide +kernel
theorem dX6_keep_20 : decode cX6_keep 20 = .ok (.goto 7, 3) := by decide +kernel
theorem dX6_keep_23 : decode cX6_keep 23 = .ok (.aload_n 0, 1) := by decide +kernel
theorem dX6_keep_24 : decode cX6_keep 24 = .ok (.getfield 36, 3) := by decide +kernel
theorem dX6_keep_27 : decode cX6_keep 27 = .ok (.astore_n 2, 1) := by decide +kernel
theorem dX6_keep_28 : decode cX6_keep 28 = .ok (.aload_n 2, 1) := by decide +kernel
theorem dX6_keep_29 : decode cX6_keep 29 = .ok (.aload_n 0, 1) := by decide +kernel
theorem dX6_keep_30 : decode cX6_keep 30 = .ok (.getfield 29, 3) := by decide +kernel
theorem dX6_keep_33 : decode cX6_keep 33 = .ok (.invokevirtual 254, 3) := by decide +kernel
theorem dX6_keep_36 : decode cX6_keep 36 = .ok (.aload_n 2, 1) := by decide +kernel
theorem dX6_keep_37 : decode cX6_keep 37 = .ok (.iconst 1, 1) := by decide +kernel
theorem dX6_keep_38 : decode cX6_keep 38 = .ok (.putfield 77, 3) := by decide +kernel
theorem dX6_keep_41 : decode cX6_keep 41 = .ok (.iconst 1, 1) := by decide +kernel
theorem dX6_keep_42 : decode cX6_keep 42 = .ok (.ireturn, 1) := by decide +kernel
theorem dX6_goBack_0 : decode cX6_goBack 0 = .ok (.iload_n 1, 1) := by decide +kernel
theorem dX6_goBack_1 : decode cX6_goBack 1 = .ok (.ifCond .lt 8, 3) := by decide +kernel
theorem dX6_goBack_4 : decode cX6_goBack 4 = .ok (.iload_n 1, 1) := by decide +kernel
theorem dX6_goBack_5 : decode cX6_goBack 5 = .ok (.iconst 1, 1) := by decide +kernel
theorem dX6_goBack_6 : decode cX6_goBack 6 = .ok (.if_icmp .le 6, 3) := by decide +kernel
theorem dX6_goBack_9 : decode cX6_goBack 9 = .ok (.ldc 117, 2) := by decide +kernel
theorem dX6_goBack_11 : decode cX6_goBack 11 = .ok (.ireturn, 1) := by decide +kernel
theorem dX6_goBack_12 : decode cX6_goBack 12 = .ok (.iload_n 1, 1) := by decide +kernel
theorem dX6_goBack_13 : decode cX6_goBack 13 = .ok (.ifCond .ne 10, 3) := by decide +kernel
theorem dX6_goBack_16 : decode cX6_goBack 16 = .ok (.aload_n 0, 1) := by decide +kernel
theorem dX6_goBack_17 : decode cX6_goBack 17 = .ok (.getfield 33, 3) := by decide +kernel
theorem dX6_goBack_20 : decode cX6_goBack 20 = .ok (.goto 7, 3) := by decide +kernel
theorem dX6_goBack_23 : decode cX6_goBack 23 = .ok (.aload_n 0, 1) := by decide +kernel
theorem dX6_goBack_24 : decode cX6_goBack 24 = .ok (.getfield 36, 3) := by decide +kernel
theorem dX6_goBack_27 : decode cX6_goBack 27 = .ok (.astore_n 2, 1) := by decide +kernel
theorem dX6_goBack_28 : decode cX6_goBack 28 = .ok (.aload_n 2, 1) := by decide +kernel
theorem dX6_goBack_29 : decode cX6_goBack 29 = .ok (.getfield 77, 3) := by decide +kernel
theorem dX6_goBack_32 : decode cX6_goBack 32 = .ok (.ifCond .ne 6, 3) := by decide +kernel
theorem dX6_goBack_35 : decode cX6_goBack 35 = .ok (.ldc 192, 2) := by decide +kernel
theorem dX6_goBack_37 : decode cX6_goBack 37 = .ok (.ireturn, 1) := by decide +kernel
theorem dX6_goBack_38 : decode cX6_goBack 38 = .ok (.aload_n 0, 1) := by decide +kernel
theorem dX6_goBack_39 : decode cX6_goBack 39 = .ok (.getfield 29, 3) := by decide +kernel
theorem dX6_goBack_42 : decode cX6_goBack 42 = .ok (.aload_n 2, 1) := by decide +kernel
theorem dX6_goBack_43 : decode cX6_goBack 43 = .ok (.invokevirtual 254, 3) := by decide +kernel
theorem dX6_goBack_46 : decode cX6_goBack 46 = .ok (.iconst 1, 1) := by decide +kernel
theorem dX6_goBack_47 : decode cX6_goBack 47 = .ok (.ireturn, 1) := by decide +kernel
theorem dX6_has_0 : decode cX6_has 0 = .ok (.iload_n 0, 1) := by decide +kernel
theorem dX6_has_1 : decode cX6_has 1 = .ok (.iload_n 1, 1) := by decide +kernel
theorem dX6_has_2 : decode cX6_has 2 = .ok (.ishr, 1) := by decide +kernel
theorem dX6_has_3 : decode cX6_has 3 = .ok (.iconst 1, 1) := by decide +kernel
theorem dX6_has_4 : decode cX6_has 4 = .ok (.iand, 1) := by decide +kernel
theorem dX6_has_5 : decode cX6_has 5 = .ok (.iconst 1, 1) := by decide +kernel
theorem dX6_has_6 : decode cX6_has 6 = .ok (.if_icmp .ne 7, 3) := by decide +kernel
theorem dX6_has_9 : decode cX6_has 9 = .ok (.iconst 1, 1) := by decide +kernel
theorem dX6_has_10 : decode cX6_has 10 = .ok (.goto 4, 3) := by decide +kernel
theorem dX6_has_13 : decode cX6_has 13 = .ok (.iconst 0, 1) := by decide +kernel
theorem dX6_has_14 : decode cX6_has 14 = .ok (.ireturn, 1) := by decide +kernel
theorem dX6_slot_0 : decode cX6_slot 0 = .ok (.iload_n 0, 1) := by decide +kernel
theorem dX6_slot_1 : decode cX6_slot 1 = .ok (.iconst 5, 1) := by decide +kernel
theorem dX6_slot_2 : decode cX6_slot 2 = .ok (.imul, 1) := by decide +kernel
theorem dX6_slot_3 : decode cX6_slot 3 = .ok (.iload_n 1, 1) := by decide +kernel
theorem dX6_slot_4 : decode cX6_slot 4 = .ok (.iadd, 1) := by decide +kernel
theorem dX6_slot_5 : decode cX6_slot 5 = .ok (.ireturn, 1) := by decide +kernel
theorem dX6_isPerson_0 : decode cX6_isPerson 0 = .ok (.iload_n 1, 1) := by decide +kernel
theorem dX6_isPerson_1 : decode cX6_isPerson 1 = .ok (.ifCond .lt 18, 3) := by decide +kernel
theorem dX6_isPerson_4 : decode cX6_isPerson 4 = .ok (.iload_n 1, 1) := by decide +kernel
theorem dX6_isPerson_5 : decode cX6_isPerson 5 = .ok (.aload_n 0, 1) := by decide +kernel
theorem dX6_isPerson_6 : decode cX6_isPerson 6 = .ok (.getfield 19, 3) := by decide +kernel
theorem dX6_isPerson_9 : decode cX6_isPerson 9 = .ok (.getfield 85, 3) := by decide +kernel
theorem dX6_isPerson_12 : decode cX6_isPerson 12 = .ok (.if_icmp .ge 7, 3) := by decide +kernel
theorem dX6_isPerson_15 : decode cX6_isPerson 15 = .ok (.iconst 1, 1) := by decide +kernel
theorem dX6_isPerson_16 : decode cX6_isPerson 16 = .ok (.goto 4, 3) := by decide +kernel
theorem dX6_isPerson_19 : decode cX6_isPerson 19 = .ok (.iconst 0, 1) := by decide +kernel
theorem dX6_isPerson_20 : decode cX6_isPerson 20 = .ok (.ireturn, 1) := by decide +kernel
theorem dX6_isFighter_0 : decode cX6_isFighter 0 = .ok (.iload_n 1, 1) := by decide +kernel
theorem dX6_isFighter_1 : decode cX6_isFighter 1 = .ok (.ifCond .lt 18, 3) := by decide +kernel
theorem dX6_isFighter_4 : decode cX6_isFighter 4 = .ok (.iload_n 1, 1) := by decide +kernel
theorem dX6_isFighter_5 : decode cX6_isFighter 5 = .ok (.aload_n 0, 1) := by decide +kernel
theorem dX6_isFighter_6 : decode cX6_isFighter 6 = .ok (.getfield 19, 3) := by decide +kernel
theorem dX6_isFighter_9 : decode cX6_isFighter 9 = .ok (.getfield 91, 3) := by decide +kernel
theorem dX6_isFighter_12 : decode cX6_isFighter 12 = .ok (.if_icmp .ge 7, 3) := by decide +kernel
theorem dX6_isFighter_15 : decode cX6_isFighter 15 = .ok (.iconst 1, 1) := by decide +kernel
theorem dX6_isFighter_16 : decode cX6_isFighter 16 = .ok (.goto 4, 3) := by decide +kernel
theorem dX6_isFighter_19 : decode cX6_isFighter 19 = .ok (.iconst 0, 1) := by decide +kernel
theorem dX6_isFighter_20 : decode cX6_isFighter 20 = .ok (.ireturn, 1) := by decide +kernel
theorem dX6_isTask_0 : decode cX6_isTask 0 = .ok (.iload_n 1, 1) := by decide +kernel
theorem dX6_isTask_1 : decode cX6_isTask 1 = .ok (.ifCond .lt 18, 3) := by decide +kernel
theorem dX6_isTask_4 : decode cX6_isTask 4 = .ok (.iload_n 1, 1) := by decide +kernel
theorem dX6_isTask_5 : decode cX6_isTask 5 = .ok (.aload_n 0, 1) := by decide +kernel
theorem dX6_isTask_6 : decode cX6_isTask 6 = .ok (.getfield 19, 3) := by decide +kernel
theorem dX6_isTask_9 : decode cX6_isTask 9 = .ok (.getfield 97, 3) := by decide +kernel
theorem dX6_isTask_12 : decode cX6_isTask 12 = .ok (.if_icmp .ge 7, 3) := by decide +kernel
theorem dX6_isTask_15 : decode cX6_isTask 15 = .ok (.iconst 1, 1) := by decide +kernel
theorem dX6_isTask_16 : decode cX6_isTask 16 = .ok (.goto 4, 3) := by decide +kernel
theorem dX6_isTask_19 : decode cX6_isTask 19 = .ok (.iconst 0, 1) := by decide +kernel
theorem dX6_isTask_20 : decode cX6_isTask 20 = .ok (.ireturn, 1) := by decide +kernel
theorem dX6_readsNow_0 : decode cX6_readsNow 0 = .ok (.aload_n 0, 1) := by decide +kernel
theorem dX6_readsNow_1 : decode cX6_readsNow 1 = .ok (.getfield 19, 3) := by decide +kernel
theorem dX6_readsNow_4 : decode cX6_readsNow 4 = .ok (.iload_n 1, 1) := by decide +kernel
theorem dX6_readsNow_5 : decode cX6_readsNow 5 = .ok (.aload_n 0, 1) := by decide +kernel
theorem dX6_readsNow_6 : decode cX6_readsNow 6 = .ok (.getfield 29, 3) := by decide +kernel
theorem dX6_readsNow_9 : decode cX6_readsNow 9 = .ok (.getfield 124, 3) := by decide +kernel
theorem dX6_readsNow_12 : decode cX6_readsNow 12 = .ok (.iload_n 1, 1) := by decide +kernel
theorem dX6_readsNow_13 : decode cX6_readsNow 13 = .ok (.iaload, 1) := by decide +kernel
theorem dX6_readsNow_14 : decode cX6_readsNow 14 = .ok (.invokevirtual 258, 3) := by decide +kernel
theorem dX6_readsNow_17 : decode cX6_readsNow 17 = .ok (.ireturn, 1) := by decide +kernel
theorem dX6_allThoughts_0 : decode cX6_allThoughts 0 = .ok (.iconst 0, 1) := by decide +kernel
theorem dX6_allThoughts_1 : decode cX6_allThoughts 1 = .ok (.istore_n 1, 1) := by decide +kernel
theorem dX6_allThoughts_2 : decode cX6_allThoughts 2 = .ok (.iconst 0, 1) := by decide +kernel
theorem dX6_allThoughts_3 : decode cX6_allThoughts 3 = .ok (.istore_n 2, 1) := by decide +kernel
theorem dX6_allThoughts_4 : decode cX6_allThoughts 4 = .ok (.iload_n 2, 1) := by decide +kernel
theorem dX6_allThoughts_5 : decode cX6_allThoughts 5 = .ok (.aload_n 0, 1) := by decide +kernel
theorem dX6_allThoughts_6 : decode cX6_allThoughts 6 = .ok (.getfield 19, 3) := by decide +kernel
theorem dX6_allThoughts_9 : decode cX6_allThoughts 9 = .ok (.getfield 85, 3) := by decide +kernel
theorem dX6_allThoughts_12 : decode cX6_allThoughts 12 = .ok (.if_icmp .ge 44, 3) := by decide +kernel
theorem dX6_allThoughts_15 : decode cX6_allThoughts 15 = .ok (.iconst 0, 1) := by decide +kernel
theorem dX6_allThoughts_16 : decode cX6_allThoughts 16 = .ok (.istore_n 3, 1) := by decide +kernel
theorem dX6_allThoughts_17 : decode cX6_allThoughts 17 = .ok (.iload_n 3, 1) := by decide +kernel
theorem dX6_allThoughts_18 : decode cX6_allThoughts 18 = .ok (.aload_n 0, 1) := by decide +kernel
theorem dX6_allThoughts_19 : decode cX6_allThoughts 19 = .ok (.getfield 19, 3) := by decide +kernel
theorem dX6_allThoughts_22 : decode cX6_allThoughts 22 = .ok (.getfield 91, 3) := by decide +kernel
theorem dX6_allThoughts_25 : decode cX6_allThoughts 25 = .ok (.if_icmp .ge 25, 3) := by decide +kernel
theorem dX6_allThoughts_28 : decode cX6_allThoughts 28 = .ok (.iload_n 1, 1) := by decide +kernel
theorem dX6_allThoughts_29 : decode cX6_allThoughts 29 = .ok (.aload_n 0, 1) := by decide +kernel
theorem dX6_allThoughts_30 : decode cX6_allThoughts 30 = .ok (.getfield 29, 3) := by decide +kernel
theorem dX6_allThoughts_33 : decode cX6_allThoughts 33 = .ok (.getfield 142, 3) := by decide +kernel
theorem dX6_allThoughts_36 : decode cX6_allThoughts 36 = .ok (.iload_n 2, 1) := by decide +kernel
theorem dX6_allThoughts_37 : decode cX6_allThoughts 37 = .ok (.iload_n 3, 1) := by decide +kernel
theorem dX6_allThoughts_38 : decode cX6_allThoughts 38 = .ok (.invokestatic 145, 3) := by decide +kernel
theorem dX6_allThoughts_41 : decode cX6_allThoughts 41 = .ok (.iaload, 1) := by decide +kernel
theorem dX6_allThoughts_42 : decode cX6_allThoughts 42 = .ok (.iadd, 1) := by decide +kernel
theorem dX6_allThoughts_43 : decode cX6_allThoughts 43 = .ok (.istore_n 1, 1) := by decide +kernel
theorem dX6_allThoughts_44 : decode cX6_allThoughts 44 = .ok (.iinc 3 1, 3) := by decide +kernel
theorem dX6_allThoughts_47 : decode cX6_allThoughts 47 = .ok (.goto (-30), 3) := by decide +kernel
theorem dX6_allThoughts_50 : decode cX6_allThoughts 50 = .ok (.iinc 2 1, 3) := by decide +kernel
theorem dX6_allThoughts_53 : decode cX6_allThoughts 53 = .ok (.goto (-49), 3) := by decide +kernel
theorem dX6_allThoughts_56 : decode cX6_allThoughts 56 = .ok (.iload_n 1, 1) := by decide +kernel
theorem dX6_allThoughts_57 : decode cX6_allThoughts 57 = .ok (.ireturn, 1) := by decide +kernel
theorem dX6_readBelt_0 : decode cX6_readBelt 0 = .ok (.iload_n 1, 1) := by decide +kernel
theorem dX6_readBelt_1 : decode cX6_readBelt 1 = .ok (.iload_n 2, 1) := by decide +kernel
theorem dX6_readBelt_2 : decode cX6_readBelt 2 = .ok (.invokestatic 145, 3) := by decide +kernel
theorem dX6_readBelt_5 : decode cX6_readBelt 5 = .ok (.istore_n 3, 1) := by decide +kernel
theorem dX6_readBelt_6 : decode cX6_readBelt 6 = .ok (.aload_n 0, 1) := by decide +kernel
theorem dX6_readBelt_7 : decode cX6_readBelt 7 = .ok (.getfield 29, 3) := by decide +kernel
theorem dX6_readBelt_10 : decode cX6_readBelt 10 = .ok (.getfield 142, 3) := by decide +kernel
theorem dX6_readBelt_13 : decode cX6_readBelt 13 = .ok (.iload_n 3, 1) := by decide +kernel
theorem dX6_readBelt_14 : decode cX6_readBelt 14 = .ok (.aload_n 0, 1) := by decide +kernel
theorem dX6_readBelt_15 : decode cX6_readBelt 15 = .ok (.getfield 29, 3) := by decide +kernel
theorem dX6_readBelt_18 : decode cX6_readBelt 18 = .ok (.getfield 142, 3) := by decide +kernel
theorem dX6_readBelt_21 : decode cX6_readBelt 21 = .ok (.iload_n 3, 1) := by decide +kernel
theorem dX6_readBelt_22 : decode cX6_readBelt 22 = .ok (.iaload, 1) := by decide +kernel
theorem dX6_readBelt_23 : decode cX6_readBelt 23 = .ok (.aload_n 0, 1) := by decide +kernel
theorem dX6_readBelt_24 : decode cX6_readBelt 24 = .ok (.iload_n 2, 1) := by decide +kernel
theorem dX6_readBelt_25 : decode cX6_readBelt 25 = .ok (.invokevirtual 127, 3) := by decide +kernel
theorem dX6_readBelt_28 : decode cX6_readBelt 28 = .ok (.invokestatic 261, 3) := by decide +kernel
theorem dX6_readBelt_31 : decode cX6_readBelt 31 = .ok (.iastore, 1) := by decide +kernel
theorem dX6_readBelt_32 : decode cX6_readBelt 32 = .ok (.aload_n 0, 1) := by decide +kernel
theorem dX6_readBelt_33 : decode cX6_readBelt 33 = .ok (.getfield 29, 3) := by decide +kernel
theorem dX6_readBelt_36 : decode cX6_readBelt 36 = .ok (.getfield 142, 3) := by decide +kernel
theorem dX6_readBelt_39 : decode cX6_readBelt 39 = .ok (.iload_n 3, 1) := by decide +kernel
theorem dX6_readBelt_40 : decode cX6_readBelt 40 = .ok (.iaload, 1) := by decide +kernel
theorem dX6_readBelt_41 : decode cX6_readBelt 41 = .ok (.ireturn, 1) := by decide +kernel
theorem dX6_spread_0 : decode cX6_spread 0 = .ok (.iconst 0, 1) := by decide +kernel
theorem dX6_spread_1 : decode cX6_spread 1 = .ok (.istore_n 2, 1) := by decide +kernel
theorem dX6_spread_2 : decode cX6_spread 2 = .ok (.iload_n 2, 1) := by decide +kernel
theorem dX6_spread_3 : decode cX6_spread 3 = .ok (.aload_n 0, 1) := by decide +kernel
theorem dX6_spread_4 : decode cX6_spread 4 = .ok (.getfield 19, 3) := by decide +kernel
theorem dX6_spread_7 : decode cX6_spread 7 = .ok (.getfield 85, 3) := by decide +kernel
theorem dX6_spread_10 : decode cX6_spread 10 = .ok (.if_icmp .ge 21, 3) := by decide +kernel
theorem dX6_spread_13 : decode cX6_spread 13 = .ok (.aload_n 0, 1) := by decide +kernel
theorem dX6_spread_14 : decode cX6_spread 14 = .ok (.getfield 60, 3) := by decide +kernel
theorem dX6_spread_17 : decode cX6_spread 17 = .ok (.iload_n 2, 1) := by decide +kernel
theorem dX6_spread_18 : decode cX6_spread 18 = .ok (.aload_n 0, 1) := by decide +kernel
theorem dX6_spread_19 : decode cX6_spread 19 = .ok (.iload_n 2, 1) := by decide +kernel
theorem dX6_spread_20 : decode cX6_spread 20 = .ok (.iload_n 1, 1) := by decide +kernel
theorem dX6_spread_21 : decode cX6_spread 21 = .ok (.invokevirtual 266, 3) := by decide +kernel
theorem dX6_spread_24 : decode cX6_spread 24 = .ok (.iastore, 1) := by decide +kernel
theorem dX6_spread_25 : decode cX6_spread 25 = .ok (.iinc 2 1, 3) := by decide +kernel
theorem dX6_spread_28 : decode cX6_spread 28 = .ok (.goto (-26), 3) := by decide +kernel
theorem dX6_spread_31 : decode cX6_spread 31 = .ok (.iconst 0, 1) := by decide +kernel
theorem dX6_spread_32 : decode cX6_spread 32 = .ok (.istore_n 2, 1) := by decide +kernel
theorem dX6_spread_33 : decode cX6_spread 33 = .ok (.iconst 0, 1) := by decide +kernel
theorem dX6_spread_34 : decode cX6_spread 34 = .ok (.istore_n 3, 1) := by decide +kernel
theorem dX6_spread_35 : decode cX6_spread 35 = .ok (.iload_n 3, 1) := by decide +kernel
theorem dX6_spread_36 : decode cX6_spread 36 = .ok (.aload_n 0, 1) := by decide +kernel
theorem dX6_spread_37 : decode cX6_spread 37 = .ok (.getfield 19, 3) := by decide +kernel
theorem dX6_spread_40 : decode cX6_spread 40 = .ok (.getfield 85, 3) := by decide +kernel
theorem dX6_spread_43 : decode cX6_spread 43 = .ok (.if_icmp .ge 54, 3) := by decide +kernel
theorem dX6_spread_46 : decode cX6_spread 46 = .ok (.iload_n 3, 1) := by decide +kernel
theorem dX6_spread_47 : decode cX6_spread 47 = .ok (.iload_n 1, 1) := by decide +kernel
theorem dX6_spread_48 : decode cX6_spread 48 = .ok (.invokestatic 145, 3) := by decide +kernel
theorem dX6_spread_51 : decode cX6_spread 51 = .ok (.istore 4, 2) := by decide +kernel
theorem dX6_spread_53 : decode cX6_spread 53 = .ok (.aload_n 0, 1) := by decide +kernel
theorem dX6_spread_54 : decode cX6_spread 54 = .ok (.getfield 60, 3) := by decide +kernel
theorem dX6_spread_57 : decode cX6_spread 57 = .ok (.iload_n 3, 1) := by decide +kernel
theorem dX6_spread_58 : decode cX6_spread 58 = .ok (.iaload, 1) := by decide +kernel
theorem dX6_spread_59 : decode cX6_spread 59 = .ok (.aload_n 0, 1) := by decide +kernel
theorem dX6_spread_60 : decode cX6_spread 60 = .ok (.getfield 29, 3) := by decide +kernel
theorem dX6_spread_63 : decode cX6_spread 63 = .ok (.getfield 142, 3) := by decide +kernel
theorem dX6_spread_66 : decode cX6_spread 66 = .ok (.iload 4, 2) := by decide +kernel
theorem dX6_spread_68 : decode cX6_spread 68 = .ok (.iaload, 1) := by decide +kernel
theorem dX6_spread_69 : decode cX6_spread 69 = .ok (.if_icmp .le 22, 3) := by decide +kernel
theorem dX6_spread_72 : decode cX6_spread 72 = .ok (.aload_n 0, 1) := by decide +kernel
theorem dX6_spread_73 : decode cX6_spread 73 = .ok (.getfield 29, 3) := by decide +kernel
theorem dX6_spread_76 : decode cX6_spread 76 = .ok (.getfield 142, 3) := by decide +kernel
theorem dX6_spread_79 : decode cX6_spread 79 = .ok (.iload 4, 2) := by decide +kernel
theorem dX6_spread_81 : decode cX6_spread 81 = .ok (.aload_n 0, 1) := by decide +kernel
theorem dX6_spread_82 : decode cX6_spread 82 = .ok (.getfield 60, 3) := by decide +kernel
theorem dX6_spread_85 : decode cX6_spread 85 = .ok (.iload_n 3, 1) := by decide +kernel
theorem dX6_spread_86 : decode cX6_spread 86 = .ok (.iaload, 1) := by decide +kernel
theorem dX6_spread_87 : decode cX6_spread 87 = .ok (.iastore, 1) := by decide +kernel
theorem dX6_spread_88 : decode cX6_spread 88 = .ok (.iinc 2 1, 3) := by decide +kernel
theorem dX6_spread_91 : decode cX6_spread 91 = .ok (.iinc 3 1, 3) := by decide +kernel
theorem dX6_spread_94 : decode cX6_spread 94 = .ok (.goto (-59), 3) := by decide +kernel
theorem dX6_spread_97 : decode cX6_spread 97 = .ok (.iload_n 2, 1) := by decide +kernel
theorem dX6_spread_98 : decode cX6_spread 98 = .ok (.ireturn, 1) := by decide +kernel
theorem dX6_mostAround_0 : decode cX6_mostAround 0 = .ok (.aload_n 0, 1) := by decide +kernel
theorem dX6_mostAround_1 : decode cX6_mostAround 1 = .ok (.getfield 29, 3) := by decide +kernel
theorem dX6_mostAround_4 : decode cX6_mostAround 4 = .ok (.getfield 142, 3) := by decide +kernel
theorem dX6_mostAround_7 : decode cX6_mostAround 7 = .ok (.iload_n 1, 1) := by decide +kernel
theorem dX6_mostAround_8 : decode cX6_mostAround 8 = .ok (.iload_n 2, 1) := by decide +kernel
theorem dX6_mostAround_9 : decode cX6_mostAround 9 = .ok (.invokestatic 145, 3) := by decide +kernel
theorem dX6_mostAround_12 : decode cX6_mostAround 12 = .ok (.iaload, 1) := by decide +kernel
theorem dX6_mostAround_13 : decode cX6_mostAround 13 = .ok (.istore_n 3, 1) := by decide +kernel
theorem dX6_mostAround_14 : decode cX6_mostAround 14 = .ok (.iconst 0, 1) := by decide +kernel
theorem dX6_mostAround_15 : decode cX6_mostAround 15 = .ok (.istore 4, 2) := by decide +kernel
theorem dX6_mostAround_17 : decode cX6_mostAround 17 = .ok (.iload 4, 2) := by decide +kernel
theorem dX6_mostAround_19 : decode cX6_mostAround 19 = .ok (.aload_n 0, 1) := by decide +kernel
theorem dX6_mostAround_20 : decode cX6_mostAround 20 = .ok (.getfield 19, 3) := by decide +kernel
theorem dX6_mostAround_23 : decode cX6_mostAround 23 = .ok (.getfield 85, 3) := by decide +kernel
theorem dX6_mostAround_26 : decode cX6_mostAround 26 = .ok (.if_icmp .ge 45, 3) := by decide +kernel
theorem dX6_mostAround_29 : decode cX6_mostAround 29 = .ok (.aload_n 0, 1) := by decide +kernel
theorem dX6_mostAround_30 : decode cX6_mostAround 30 = .ok (.getfield 19, 3) := by decide +kernel
theorem dX6_mostAround_33 : decode cX6_mostAround 33 = .ok (.getfield 149, 3) := by decide +kernel
theorem dX6_mostAround_36 : decode cX6_mostAround 36 = .ok (.iload_n 1, 1) := by decide +kernel
theorem dX6_mostAround_37 : decode cX6_mostAround 37 = .ok (.iaload, 1) := by decide +kernel
theorem dX6_mostAround_38 : decode cX6_mostAround 38 = .ok (.iload 4, 2) := by decide +kernel
theorem dX6_mostAround_40 : decode cX6_mostAround 40 = .ok (.invokestatic 188, 3) := by decide +kernel
theorem dX6_mostAround_43 : decode cX6_mostAround 43 = .ok (.ifCond .eq 22, 3) := by decide +kernel
theorem dX6_mostAround_46 : decode cX6_mostAround 46 = .ok (.iload_n 3, 1) := by decide +kernel
theorem dX6_mostAround_47 : decode cX6_mostAround 47 = .ok (.aload_n 0, 1) := by decide +kernel
theorem dX6_mostAround_48 : decode cX6_mostAround 48 = .ok (.getfield 29, 3) := by decide +kernel
theorem dX6_mostAround_51 : decode cX6_mostAround 51 = .ok (.getfield 142, 3) := by decide +kernel
theorem dX6_mostAround_54 : decode cX6_mostAround 54 = .ok (.iload 4, 2) := by decide +kernel
theorem dX6_mostAround_56 : decode cX6_mostAround 56 = .ok (.iload_n 2, 1) := by decide +kernel
theorem dX6_mostAround_57 : decode cX6_mostAround 57 = .ok (.invokestatic 145, 3) := by decide +kernel
theorem dX6_mostAround_60 : decode cX6_mostAround 60 = .ok (.iaload, 1) := by decide +kernel
theorem dX6_mostAround_61 : decode cX6_mostAround 61 = .ok (.invokestatic 261, 3) := by decide +kernel
theorem dX6_mostAround_64 : decode cX6_mostAround 64 = .ok (.istore_n 3, 1) := by decide +kernel
theorem dX6_mostAround_65 : decode cX6_mostAround 65 = .ok (.iinc 4 1, 3) := by decide +kernel
theorem dX6_mostAround_68 : decode cX6_mostAround 68 = .ok (.goto (-51), 3) := by decide +kernel
theorem dX6_mostAround_71 : decode cX6_mostAround 71 = .ok (.iload_n 3, 1) := by decide +kernel
theorem dX6_mostAround_72 : decode cX6_mostAround 72 = .ok (.ireturn, 1) := by decide +kernel
theorem dX6_lookClosely_0 : decode cX6_lookClosely 0 = .ok (.aload_n 0, 1) := by decide +kernel
theorem dX6_lookClosely_1 : decode cX6_lookClosely 1 = .ok (.getfield 29, 3) := by decide +kernel
theorem dX6_lookClosely_4 : decode cX6_lookClosely 4 = .ok (.getfield 142, 3) := by decide +kernel
theorem dX6_lookClosely_7 : decode cX6_lookClosely 7 = .ok (.iload_n 1, 1) := by decide +kernel
theorem dX6_lookClosely_8 : decode cX6_lookClosely 8 = .ok (.iload_n 2, 1) := by decide +kernel
theorem dX6_lookClosely_9 : decode cX6_lookClosely 9 = .ok (.invokestatic 145, 3) := by decide +kernel
theorem dX6_lookClosely_12 : decode cX6_lookClosely 12 = .ok (.aload_n 0, 1) := by decide +kernel
theorem dX6_lookClosely_13 : decode cX6_lookClosely 13 = .ok (.getfield 19, 3) := by decide +kernel
theorem dX6_lookClosely_16 : decode cX6_lookClosely 16 = .ok (.getfield 121, 3) := by decide +kernel
theorem dX6_lookClosely_19 : decode cX6_lookClosely 19 = .ok (.iload_n 2, 1) := by decide +kernel
theorem dX6_lookClosely_20 : decode cX6_lookClosely 20 = .ok (.iaload, 1) := by decide +kernel
theorem dX6_lookClosely_21 : decode cX6_lookClosely 21 = .ok (.iastore, 1) := by decide +kernel
theorem dX6_lookClosely_22 : decode cX6_lookClosely 22 = .ok (.aload_n 0, 1) := by decide +kernel
theorem dX6_lookClosely_23 : decode cX6_lookClosely 23 = .ok (.getfield 19, 3) := by decide +kernel
theorem dX6_lookClosely_26 : decode cX6_lookClosely 26 = .ok (.getfield 118, 3) := by decide +kernel
theorem dX6_lookClosely_29 : decode cX6_lookClosely 29 = .ok (.iload_n 2, 1) := by decide +kernel
theorem dX6_lookClosely_30 : decode cX6_lookClosely 30 = .ok (.iaload, 1) := by decide +kernel
theorem dX6_lookClosely_31 : decode cX6_lookClosely 31 = .ok (.iconst 3, 1) := by decide +kernel
theorem dX6_lookClosely_32 : decode cX6_lookClosely 32 = .ok (.if_icmp .ne 13, 3) := by decide +kernel
theorem dX6_lookClosely_35 : decode cX6_lookClosely 35 = .ok (.aload_n 0, 1) := by decide +kernel
theorem dX6_lookClosely_36 : decode cX6_lookClosely 36 = .ok (.getfield 29, 3) := by decide +kernel
theorem dX6_lookClosely_39 : decode cX6_lookClosely 39 = .ok (.getfield 124, 3) := by decide +kernel
theorem dX6_lookClosely_42 : decode cX6_lookClosely 42 = .ok (.iload_n 2, 1) := by decide +kernel
theorem dX6_lookClosely_43 : decode cX6_lookClosely 43 = .ok (.iconst 0, 1) := by decide +kernel
theorem dX6_lookClosely_44 : decode cX6_lookClosely 44 = .ok (.iastore, 1) := by decide +kernel
theorem dX6_lookClosely_45 : decode cX6_lookClosely 45 = .ok (.aload_n 0, 1) := by decide +kernel
theorem dX6_lookClosely_46 : decode cX6_lookClosely 46 = .ok (.getfield 19, 3) := by decide +kernel
theorem dX6_lookClosely_49 : decode cX6_lookClosely 49 = .ok (.getfield 121, 3) := by decide +kernel
theorem dX6_lookClosely_52 : decode cX6_lookClosely 52 = .ok (.iload_n 2, 1) := by decide +kernel
theorem dX6_lookClosely_53 : decode cX6_lookClosely 53 = .ok (.iaload, 1) := by decide +kernel
theorem dX6_lookClosely_54 : decode cX6_lookClosely 54 = .ok (.ireturn, 1) := by decide +kernel
theorem dX6_grow_0 : decode cX6_grow 0 = .ok (.iconst 0, 1) := by decide +kernel
theorem dX6_grow_1 : decode cX6_grow 1 = .ok (.istore_n 3, 1) := by decide +kernel
theorem dX6_grow_2 : decode cX6_grow 2 = .ok (.iload_n 3, 1) := by decide +kernel
theorem dX6_grow_3 : decode cX6_grow 3 = .ok (.aload_n 0, 1) := by decide +kernel
theorem dX6_grow_4 : decode cX6_grow 4 = .ok (.getfield 19, 3) := by decide +kernel
theorem dX6_grow_7 : decode cX6_grow 7 = .ok (.getfield 85, 3) := by decide +kernel
theorem dX6_grow_10 : decode cX6_grow 10 = .ok (.if_icmp .ge 43, 3) := by decide +kernel
theorem dX6_grow_13 : decode cX6_grow 13 = .ok (.iload_n 3, 1) := by decide +kernel
theorem dX6_grow_14 : decode cX6_grow 14 = .ok (.iload_n 1, 1) := by decide +kernel
theorem dX6_grow_15 : decode cX6_grow 15 = .ok (.invokestatic 145, 3) := by decide +kernel
theorem dX6_grow_18 : decode cX6_grow 18 = .ok (.istore 4, 2) := by decide +kernel
theorem dX6_grow_20 : decode cX6_grow 20 = .ok (.aload_n 0, 1) := by decide +kernel
theorem dX6_grow_21 : decode cX6_grow 21 = .ok (.getfield 29, 3) := by decide +kernel
theorem dX6_grow_24 : decode cX6_grow 24 = .ok (.getfield 142, 3) := by decide +kernel
theorem dX6_grow_27 : decode cX6_grow 27 = .ok (.iload 4, 2) := by decide +kernel
theorem dX6_grow_29 : decode cX6_grow 29 = .ok (.bipush 99, 2) := by decide +kernel
theorem dX6_grow_31 : decode cX6_grow 31 = .ok (.aload_n 0, 1) := by decide +kernel
theorem dX6_grow_32 : decode cX6_grow 32 = .ok (.getfield 29, 3) := by decide +kernel
theorem dX6_grow_35 : decode cX6_grow 35 = .ok (.getfield 142, 3) := by decide +kernel
theorem dX6_grow_38 : decode cX6_grow 38 = .ok (.iload 4, 2) := by decide +kernel
theorem dX6_grow_40 : decode cX6_grow 40 = .ok (.iaload, 1) := by decide +kernel
theorem dX6_grow_41 : decode cX6_grow 41 = .ok (.iload_n 2, 1) := by decide +kernel
theorem dX6_grow_42 : decode cX6_grow 42 = .ok (.iadd, 1) := by decide +kernel
theorem dX6_grow_43 : decode cX6_grow 43 = .ok (.invokestatic 269, 3) := by decide +kernel
theorem dX6_grow_46 : decode cX6_grow 46 = .ok (.iastore, 1) := by decide +kernel
theorem dX6_grow_47 : decode cX6_grow 47 = .ok (.iinc 3 1, 3) := by decide +kernel
theorem dX6_grow_50 : decode cX6_grow 50 = .ok (.goto (-48), 3) := by decide +kernel
theorem dX6_grow_53 : decode cX6_grow 53 = .ok (.return_, 1) := by decide +kernel
theorem dX6_liveOneDay_0 : decode cX6_liveOneDay 0 = .ok (.aload_n 0, 1) := by decide +kernel
theorem dX6_liveOneDay_1 : decode cX6_liveOneDay 1 = .ok (.getfield 29, 3) := by decide +kernel
theorem dX6_liveOneDay_4 : decode cX6_liveOneDay 4 = .ok (.aload_n 0, 1) := by decide +kernel
theorem dX6_liveOneDay_5 : decode cX6_liveOneDay 5 = .ok (.getfield 19, 3) := by decide +kernel
theorem dX6_liveOneDay_8 : decode cX6_liveOneDay 8 = .ok (.getfield 85, 3) := by decide +kernel
theorem dX6_liveOneDay_11 : decode cX6_liveOneDay 11 = .ok (.invokevirtual 272, 3) := by decide +kernel
theorem dX6_liveOneDay_14 : decode cX6_liveOneDay 14 = .ok (.istore_n 1, 1) := by decide +kernel
theorem dX6_liveOneDay_15 : decode cX6_liveOneDay 15 = .ok (.aload_n 0, 1) := by decide +kernel
theorem dX6_liveOneDay_16 : decode cX6_liveOneDay 16 = .ok (.getfield 29, 3) := by decide +kernel
theorem dX6_liveOneDay_19 : decode cX6_liveOneDay 19 = .ok (.aload_n 0, 1) := by decide +kernel
theorem dX6_liveOneDay_20 : decode cX6_liveOneDay 20 = .ok (.getfield 19, 3) := by decide +kernel
theorem dX6_liveOneDay_23 : decode cX6_liveOneDay 23 = .ok (.getfield 91, 3) := by decide +kernel
theorem dX6_liveOneDay_26 : decode cX6_liveOneDay 26 = .ok (.invokevirtual 272, 3) := by decide +kernel
theorem dX6_liveOneDay_29 : decode cX6_liveOneDay 29 = .ok (.istore_n 2, 1) := by decide +kernel
theorem dX6_liveOneDay_30 : decode cX6_liveOneDay 30 = .ok (.aload_n 0, 1) := by decide +kernel
theorem dX6_liveOneDay_31 : decode cX6_liveOneDay 31 = .ok (.getfield 29, 3) := by decide +kernel
theorem dX6_liveOneDay_34 : decode cX6_liveOneDay 34 = .ok (.iconst 3, 1) := by decide +kernel
theorem dX6_liveOneDay_35 : decode cX6_liveOneDay 35 = .ok (.invokevirtual 272, 3) := by decide +kernel
theorem dX6_liveOneDay_38 : decode cX6_liveOneDay 38 = .ok (.istore_n 3, 1) := by decide +kernel
theorem dX6_liveOneDay_39 : decode cX6_liveOneDay 39 = .ok (.aload_n 0, 1) := by decide +kernel
theorem dX6_liveOneDay_40 : decode cX6_liveOneDay 40 = .ok (.getfield 29, 3) := by decide +kernel
theorem dX6_liveOneDay_43 : decode cX6_liveOneDay 43 = .ok (.dup, 1) := by decide +kernel
theorem dX6_liveOneDay_44 : decode cX6_liveOneDay 44 = .ok (.getfield 106, 3) := by decide +kernel
theorem dX6_liveOneDay_47 : decode cX6_liveOneDay 47 = .ok (.iconst 1, 1) := by decide +kernel
theorem dX6_liveOneDay_48 : decode cX6_liveOneDay 48 = .ok (.iadd, 1) := by decide +kernel
theorem dX6_liveOneDay_49 : decode cX6_liveOneDay 49 = .ok (.putfield 106, 3) := by decide +kernel
theorem dX6_liveOneDay_52 : decode cX6_liveOneDay 52 = .ok (.iload_n 3, 1) := by decide +kernel
theorem dX6_liveOneDay_53 : decode cX6_liveOneDay 53 = .ok (.ifCond .ne 13, 3) := by decide +kernel
theorem dX6_liveOneDay_56 : decode cX6_liveOneDay 56 = .ok (.aload_n 0, 1) := by decide +kernel
theorem dX6_liveOneDay_57 : decode cX6_liveOneDay 57 = .ok (.iload_n 1, 1) := by decide +kernel
theorem dX6_liveOneDay_58 : decode cX6_liveOneDay 58 = .ok (.iload_n 2, 1) := by decide +kernel
theorem dX6_liveOneDay_59 : decode cX6_liveOneDay 59 = .ok (.invokevirtual 179, 3) := by decide +kernel
theorem dX6_liveOneDay_62 : decode cX6_liveOneDay 62 = .ok (.pop, 1) := by decide +kernel
theorem dX6_liveOneDay_63 : decode cX6_liveOneDay 63 = .ok (.goto 24, 3) := by decide +kernel
theorem dX6_liveOneDay_66 : decode cX6_liveOneDay 66 = .ok (.iload_n 3, 1) := by decide +kernel
theorem dX6_liveOneDay_67 : decode cX6_liveOneDay 67 = .ok (.iconst 1, 1) := by decide +kernel
theorem dX6_liveOneDay_68 : decode cX6_liveOneDay 68 = .ok (.if_icmp .ne 12, 3) := by decide +kernel
theorem dX6_liveOneDay_71 : decode cX6_liveOneDay 71 = .ok (.aload_n 0, 1) := by decide +kernel
theorem dX6_liveOneDay_72 : decode cX6_liveOneDay 72 = .ok (.iload_n 2, 1) := by decide +kernel
theorem dX6_liveOneDay_73 : decode cX6_liveOneDay 73 = .ok (.invokevirtual 182, 3) := by decide +kernel
theorem dX6_liveOneDay_76 : decode cX6_liveOneDay 76 = .ok (.pop, 1) := by decide +kernel
theorem dX6_liveOneDay_77 : decode cX6_liveOneDay 77 = .ok (.goto 10, 3) := by decide +kernel
theorem dX6_liveOneDay_80 : decode cX6_liveOneDay 80 = .ok (.aload_n 0, 1) := by decide +kernel
theorem dX6_liveOneDay_81 : decode cX6_liveOneDay 81 = .ok (.iload_n 1, 1) := by decide +kernel
theorem dX6_liveOneDay_82 : decode cX6_liveOneDay 82 = .ok (.iload_n 2, 1) := by decide +kernel
theorem dX6_liveOneDay_83 : decode cX6_liveOneDay 83 = .ok (.invokevirtual 185, 3) := by decide +kernel
theorem dX6_liveOneDay_86 : decode cX6_liveOneDay 86 = .ok (.pop, 1) := by decide +kernel
theorem dX6_liveOneDay_87 : decode cX6_liveOneDay 87 = .ok (.return_, 1) := by decide +kernel
theorem dX6_commonDivisor_0 : decode cX6_commonDivisor 0 = .ok (.iload_n 0, 1) := by decide +kernel
theorem dX6_commonDivisor_1 : decode cX6_commonDivisor 1 = .ok (.istore_n 2, 1) := by decide +kernel
theorem dX6_commonDivisor_2 : decode cX6_commonDivisor 2 = .ok (.iload_n 2, 1) := by decide +kernel
theorem dX6_commonDivisor_3 : decode cX6_commonDivisor 3 = .ok (.iconst 1, 1) := by decide +kernel
theorem dX6_commonDivisor_4 : decode cX6_commonDivisor 4 = .ok (.if_icmp .le 23, 3) := by decide +kernel
theorem dX6_commonDivisor_7 : decode cX6_commonDivisor 7 = .ok (.iload_n 0, 1) := by decide +kernel
theorem dX6_commonDivisor_8 : decode cX6_commonDivisor 8 = .ok (.iload_n 2, 1) := by decide +kernel
theorem dX6_commonDivisor_9 : decode cX6_commonDivisor 9 = .ok (.irem, 1) := by decide +kernel
theorem dX6_commonDivisor_10 : decode cX6_commonDivisor 10 = .ok (.ifCond .ne 11, 3) := by decide +kernel
theorem dX6_commonDivisor_13 : decode cX6_commonDivisor 13 = .ok (.iload_n 1, 1) := by decide +kernel
theorem dX6_commonDivisor_14 : decode cX6_commonDivisor 14 = .ok (.iload_n 2, 1) := by decide +kernel
theorem dX6_commonDivisor_15 : decode cX6_commonDivisor 15 = .ok (.irem, 1) := by decide +kernel
theorem dX6_commonDivisor_16 : decode cX6_commonDivisor 16 = .ok (.ifCond .ne 5, 3) := by decide +kernel
theorem dX6_commonDivisor_19 : decode cX6_commonDivisor 19 = .ok (.iload_n 2, 1) := by decide +kernel
theorem dX6_commonDivisor_20 : decode cX6_commonDivisor 20 = .ok (.ireturn, 1) := by decide +kernel
theorem dX6_commonDivisor_21 : decode cX6_commonDivisor 21 = .ok (.iinc 2 (-1), 3) := by decide +kernel
theorem dX6_commonDivisor_24 : decode cX6_commonDivisor 24 = .ok (.goto (-22), 3) := by decide +kernel
theorem dX6_commonDivisor_27 : decode cX6_commonDivisor 27 = .ok (.iconst 1, 1) := by decide +kernel
theorem dX6_commonDivisor_28 : decode cX6_commonDivisor 28 = .ok (.ireturn, 1) := by decide +kernel
theorem dX6_wordsTo_0 : decode cX6_wordsTo 0 = .ok (.iload_n 2, 1) := by decide +kernel
theorem dX6_wordsTo_1 : decode cX6_wordsTo 1 = .ok (.aload_n 0, 1) := by decide +kernel
theorem dX6_wordsTo_2 : decode cX6_wordsTo 2 = .ok (.getfield 19, 3) := by decide +kernel
theorem dX6_wordsTo_5 : decode cX6_wordsTo 5 = .ok (.getfield 121, 3) := by decide +kernel
theorem dX6_wordsTo_8 : decode cX6_wordsTo 8 = .ok (.iload_n 1, 1) := by decide +kernel
theorem dX6_wordsTo_9 : decode cX6_wordsTo 9 = .ok (.iaload, 1) := by decide +kernel
theorem dX6_wordsTo_10 : decode cX6_wordsTo 10 = .ok (.isub, 1) := by decide +kernel
theorem dX6_wordsTo_11 : decode cX6_wordsTo 11 = .ok (.istore_n 3, 1) := by decide +kernel
theorem dX6_wordsTo_12 : decode cX6_wordsTo 12 = .ok (.iload_n 3, 1) := by decide +kernel
theorem dX6_wordsTo_13 : decode cX6_wordsTo 13 = .ok (.ifCond .ge 7, 3) := by decide +kernel
theorem dX6_wordsTo_16 : decode cX6_wordsTo 16 = .ok (.iconst 0, 1) := by decide +kernel
theorem dX6_wordsTo_17 : decode cX6_wordsTo 17 = .ok (.goto 9, 3) := by decide +kernel
theorem dX6_wordsTo_20 : decode cX6_wordsTo 20 = .ok (.iload_n 3, 1) := by decide +kernel
theorem dX6_wordsTo_21 : decode cX6_wordsTo 21 = .ok (.bipush 10, 2) := by decide +kernel
theorem dX6_wordsTo_23 : decode cX6_wordsTo 23 = .ok (.idiv, 1) := by decide +kernel
theorem dX6_wordsTo_24 : decode cX6_wordsTo 24 = .ok (.iconst 1, 1) := by decide +kernel
theorem dX6_wordsTo_25 : decode cX6_wordsTo 25 = .ok (.iadd, 1) := by decide +kernel
theorem dX6_wordsTo_26 : decode cX6_wordsTo 26 = .ok (.ireturn, 1) := by decide +kernel
theorem dX6_topBidder_0 : decode cX6_topBidder 0 = .ok (.iconst (-1), 1) := by decide +kernel
theorem dX6_topBidder_1 : decode cX6_topBidder 1 = .ok (.istore_n 3, 1) := by decide +kernel
theorem dX6_topBidder_2 : decode cX6_topBidder 2 = .ok (.iconst 0, 1) := by decide +kernel
theorem dX6_topBidder_3 : decode cX6_topBidder 3 = .ok (.istore 4, 2) := by decide +kernel
theorem dX6_topBidder_5 : decode cX6_topBidder 5 = .ok (.iconst 0, 1) := by decide +kernel
theorem dX6_topBidder_6 : decode cX6_topBidder 6 = .ok (.istore 5, 2) := by decide +kernel
theorem dX6_topBidder_8 : decode cX6_topBidder 8 = .ok (.iload 5, 2) := by decide +kernel
theorem dX6_topBidder_10 : decode cX6_topBidder 10 = .ok (.aload_n 0, 1) := by decide +kernel
theorem dX6_topBidder_11 : decode cX6_topBidder 11 = .ok (.getfield 19, 3) := by decide +kernel
theorem dX6_topBidder_14 : decode cX6_topBidder 14 = .ok (.getfield 85, 3) := by decide +kernel
theorem dX6_topBidder_17 : decode cX6_topBidder 17 = .ok (.if_icmp .ge 48, 3) := by decide +kernel
theorem dX6_topBidder_20 : decode cX6_topBidder 20 = .ok (.aload_n 0, 1) := by decide +kernel
theorem dX6_topBidder_21 : decode cX6_topBidder 21 = .ok (.getfield 29, 3) := by decide +kernel
theorem dX6_topBidder_24 : decode cX6_topBidder 24 = .ok (.getfield 142, 3) := by decide +kernel
theorem dX6_topBidder_27 : decode cX6_topBidder 27 = .ok (.iload 5, 2) := by decide +kernel
theorem dX6_topBidder_29 : decode cX6_topBidder 29 = .ok (.iload_n 1, 1) := by decide +kernel
theorem dX6_topBidder_30 : decode cX6_topBidder 30 = .ok (.invokestatic 145, 3) := by decide +kernel
theorem dX6_topBidder_33 : decode cX6_topBidder 33 = .ok (.iaload, 1) := by decide +kernel
theorem dX6_topBidder_34 : decode cX6_topBidder 34 = .ok (.istore 6, 2) := by decide +kernel
theorem dX6_topBidder_36 : decode cX6_topBidder 36 = .ok (.iload_n 2, 1) := by decide +kernel
theorem dX6_topBidder_37 : decode cX6_topBidder 37 = .ok (.iload 5, 2) := by decide +kernel
theorem dX6_topBidder_39 : decode cX6_topBidder 39 = .ok (.invokestatic 188, 3) := by decide +kernel
theorem dX6_topBidder_42 : decode cX6_topBidder 42 = .ok (.ifCond .ne 17, 3) := by decide +kernel
theorem dX6_topBidder_45 : decode cX6_topBidder 45 = .ok (.iload 6, 2) := by decide +kernel
theorem dX6_topBidder_47 : decode cX6_topBidder 47 = .ok (.iload 4, 2) := by decide +kernel
theorem dX6_topBidder_49 : decode cX6_topBidder 49 = .ok (.if_icmp .le 10, 3) := by decide +kernel
theorem dX6_topBidder_52 : decode cX6_topBidder 52 = .ok (.iload 5, 2) := by decide +kernel
theorem dX6_topBidder_54 : decode cX6_topBidder 54 = .ok (.istore_n 3, 1) := by decide +kernel
theorem dX6_topBidder_55 : decode cX6_topBidder 55 = .ok (.iload 6, 2) := by decide +kernel
theorem dX6_topBidder_57 : decode cX6_topBidder 57 = .ok (.istore 4, 2) := by decide +kernel
theorem dX6_topBidder_59 : decode cX6_topBidder 59 = .ok (.iinc 5 1, 3) := by decide +kernel
theorem dX6_topBidder_62 : decode cX6_topBidder 62 = .ok (.goto (-54), 3) := by decide +kernel
theorem dX6_topBidder_65 : decode cX6_topBidder 65 = .ok (.iload_n 3, 1) := by decide +kernel
theorem dX6_topBidder_66 : decode cX6_topBidder 66 = .ok (.ireturn, 1) := by decide +kernel
theorem dX6_waysBy_0 : decode cX6_waysBy 0 = .ok (.aload_n 0, 1) := by decide +kernel
theorem dX6_waysBy_1 : decode cX6_waysBy 1 = .ok (.getfield 19, 3) := by decide +kernel
theorem dX6_waysBy_4 : decode cX6_waysBy 4 = .ok (.iload_n 1, 1) := by decide +kernel
theorem dX6_waysBy_5 : decode cX6_waysBy 5 = .ok (.invokevirtual 275, 3) := by decide +kernel
theorem dX6_waysBy_8 : decode cX6_waysBy 8 = .ok (.istore 4, 2) := by decide +kernel
theorem dX6_waysBy_10 : decode cX6_waysBy 10 = .ok (.bipush 99, 2) := by decide +kernel
theorem dX6_waysBy_12 : decode cX6_waysBy 12 = .ok (.iload 4, 2) := by decide +kernel
theorem dX6_waysBy_14 : decode cX6_waysBy 14 = .ok (.invokestatic 269, 3) := by decide +kernel
theorem dX6_waysBy_17 : decode cX6_waysBy 17 = .ok (.iload_n 3, 1) := by decide +kernel
theorem dX6_waysBy_18 : decode cX6_waysBy 18 = .ok (.if_icmp .ne 7, 3) := by decide +kernel
theorem dX6_waysBy_21 : decode cX6_waysBy 21 = .ok (.iconst 1, 1) := by decide +kernel
theorem dX6_waysBy_22 : decode cX6_waysBy 22 = .ok (.goto 4, 3) := by decide +kernel
theorem dX6_waysBy_25 : decode cX6_waysBy 25 = .ok (.iconst 0, 1) := by decide +kernel
theorem dX6_waysBy_26 : decode cX6_waysBy 26 = .ok (.istore 5, 2) := by decide +kernel
theorem dX6_waysBy_28 : decode cX6_waysBy 28 = .ok (.iload 5, 2) := by decide +kernel
theorem dX6_waysBy_30 : decode cX6_waysBy 30 = .ok (.bipush 99, 2) := by decide +kernel
theorem dX6_waysBy_32 : decode cX6_waysBy 32 = .ok (.iload_n 2, 1) := by decide +kernel
theorem dX6_waysBy_33 : decode cX6_waysBy 33 = .ok (.iload 4, 2) := by decide +kernel
theorem dX6_waysBy_35 : decode cX6_waysBy 35 = .ok (.iadd, 1) := by decide +kernel
theorem dX6_waysBy_36 : decode cX6_waysBy 36 = .ok (.invokestatic 269, 3) := by decide +kernel
theorem dX6_waysBy_39 : decode cX6_waysBy 39 = .ok (.iload_n 3, 1) := by decide +kernel
theorem dX6_waysBy_40 : decode cX6_waysBy 40 = .ok (.if_icmp .ne 7, 3) := by decide +kernel
theorem dX6_waysBy_43 : decode cX6_waysBy 43 = .ok (.iconst 1, 1) := by decide +kernel
theorem dX6_waysBy_44 : decode cX6_waysBy 44 = .ok (.goto 4, 3) := by decide +kernel
theorem dX6_waysBy_47 : decode cX6_waysBy 47 = .ok (.iconst 0, 1) := by decide +kernel
theorem dX6_waysBy_48 : decode cX6_waysBy 48 = .ok (.iadd, 1) := by decide +kernel
theorem dX6_waysBy_49 : decode cX6_waysBy 49 = .ok (.ireturn, 1) := by decide +kernel
end
section
theorem dX7_init_0 : decode cX7_init 0 = .ok (.aload_n 0, 1) := by decide +kernel
theorem dX7_init_1 : decode cX7_init 1 = .ok (.invokespecial 1, 3) := by decide +kernel
theorem dX7_init_4 : decode cX7_init 4 = .ok (.aload_n 0, 1) := by decide +kernel
theorem dX7_init_5 : decode cX7_init 5 = .ok (.sipush 141, 3) := by decide +kernel
theorem dX7_init_8 : decode cX7_init 8 = .ok (.newarray .int, 2) := by decide +kernel
theorem dX7_init_10 : decode cX7_init 10 = .ok (.putfield 7, 3) := by decide +kernel
theorem dX7_init_13 : decode cX7_init 13 = .ok (.aload_n 0, 1) := by decide +kernel
theorem dX7_init_14 : decode cX7_init 14 = .ok (.iconst 2, 1) := by decide +kernel
theorem dX7_init_15 : decode cX7_init 15 = .ok (.newarray .boolean, 2) := by decide +kernel
theorem dX7_init_17 : decode cX7_init 17 = .ok (.putfield 13, 3) := by decide +kernel
theorem dX7_init_20 : decode cX7_init 20 = .ok (.aload_n 0, 1) := by decide +kernel
theorem dX7_init_21 : decode cX7_init 21 = .ok (.sipush 250, 3) := by decide +kernel
theorem dX7_init_24 : decode cX7_init 24 = .ok (.newarray .int, 2) := by decide +kernel
theorem dX7_init_26 : decode cX7_init 26 = .ok (.putfield 17, 3) := by decide +kernel
theorem dX7_init_29 : decode cX7_init 29 = .ok (.aload_n 0, 1) := by decide +kernel
theorem dX7_init_30 : decode cX7_init 30 = .ok (.iconst (-1), 1) := by decide +kernel
theorem dX7_init_31 : decode cX7_init 31 = .ok (.putfield 20, 3) := by decide +kernel
theorem dX7_init_34 : decode cX7_init 34 = .ok (.aload_n 0, 1) := by decide +kernel
theorem dX7_init_35 : decode cX7_init 35 = .ok (.iconst 5, 1) := by decide +kernel
theorem dX7_init_36 : decode cX7_init 36 = .ok (.newarray .int, 2) := by decide +kernel
theorem dX7_init_38 : decode cX7_init 38 = .ok (.putfield 24, 3) := by decide +kernel
theorem dX7_init_41 : decode cX7_init 41 = .ok (.aload_n 0, 1) := by decide +kernel
theorem dX7_init_42 : decode cX7_init 42 = .ok (.iconst 5, 1) := by decide +kernel
theorem dX7_init_43 : decode cX7_init 43 = .ok (.newarray .int, 2) := by decide +kernel
theorem dX7_init_45 : decode cX7_init 45 = .ok (.putfield 27, 3) := by decide +kernel
theorem dX7_init_48 : decode cX7_init 48 = .ok (.aload_n 0, 1) := by decide +kernel
theorem dX7_init_49 : decode cX7_init 49 = .ok (.bipush 6, 2) := by decide +kernel
theorem dX7_init_51 : decode cX7_init 51 = .ok (.newarray .int, 2) := by decide +kernel
theorem dX7_init_53 : decode cX7_init 53 = .ok (.putfield 30, 3) := by decide +kernel
theorem dX7_init_56 : decode cX7_init 56 = .ok (.aload_n 0, 1) := by decide +kernel
theorem dX7_init_57 : decode cX7_init 57 = .ok (.bipush 24, 2) := by decide +kernel
theorem dX7_init_59 : decode cX7_init 59 = .ok (.newarray .int, 2) := by decide +kernel
theorem dX7_init_61 : decode cX7_init 61 = .ok (.putfield 33, 3) := by decide +kernel
theorem dX7_init_64 : decode cX7_init 64 = .ok (.aload_n 0, 1) := by decide +kernel
theorem dX7_init_65 : decode cX7_init 65 = .ok (.bipush 12, 2) := by decide +kernel
theorem dX7_init_67 : decode cX7_init 67 = .ok (.newarray .int, 2) := by decide +kernel
theorem dX7_init_69 : decode cX7_init 69 = .ok (.putfield 36, 3) := by decide +kernel
theorem dX7_init_72 : decode cX7_init 72 = .ok (.aload_n 0, 1) := by decide +kernel
theorem dX7_init_73 : decode cX7_init 73 = .ok (.bipush 45, 2) := by decide +kernel
theorem dX7_init_75 : decode cX7_init 75 = .ok (.newarray .int, 2) := by decide +kernel
theorem dX7_init_77 : decode cX7_init 77 = .ok (.putfield 39, 3) := by decide +kernel
theorem dX7_init_80 : decode cX7_init 80 = .ok (.aload_n 0, 1) := by decide +kernel
theorem dX7_init_81 : decode cX7_init 81 = .ok (.bipush 15, 2) := by decide +kernel
theorem dX7_init_83 : decode cX7_init 83 = .ok (.newarray .int, 2) := by decide +kernel
theorem dX7_init_85 : decode cX7_init 85 = .ok (.putfield 42, 3) := by decide +kernel
theorem dX7_init_88 : decode cX7_init 88 = .ok (.aload_n 0, 1) := by decide +kernel
theorem dX7_init_89 : decode cX7_init 89 = .ok (.bipush 6, 2) := by decide +kernel
theorem dX7_init_91 : decode cX7_init 91 = .ok (.newarray .int, 2) := by decide +kernel
theorem dX7_init_93 : decode cX7_init 93 = .ok (.putfield 45, 3) := by decide +kernel
theorem dX7_init_96 : decode cX7_init 96 = .ok (.aload_n 0, 1) := by decide +kernel
theorem dX7_init_97 : decode cX7_init 97 = .ok (.bipush 24, 2) := by decide +kernel
theorem dX7_init_99 : decode cX7_init 99 = .ok (.newarray .int, 2) := by decide +kernel
theorem dX7_init_101 : decode cX7_init 101 = .ok (.putfield 48, 3) := by decide +kernel
theorem dX7_init_104 : decode cX7_init 104 = .ok (.aload_n 0, 1) := by decide +kernel
theorem dX7_init_105 : decode cX7_init 105 = .ok (.bipush 12, 2) := by decide +kernel
theorem dX7_init_107 : decode cX7_init 107 = .ok (.newarray .int, 2) := by decide +kernel
theorem dX7_init_109 : decode cX7_init 109 = .ok (.putfield 51, 3) := by decide +kernel
theorem dX7_init_112 : decode cX7_init 112 = .ok (.aload_n 0, 1) := by decide +kernel
theorem dX7_init_113 : decode cX7_init 113 = .ok (.bipush 30, 2) := by decide +kernel
theorem dX7_init_115 : decode cX7_init 115 = .ok (.newarray .int, 2) := by decide +kernel
theorem dX7_init_117 : decode cX7_init 117 = .ok (.putfield 54, 3) := by decide +kernel
theorem dX7_init_120 : decode cX7_init 120 = .ok (.aload_n 0, 1) := by decide +kernel
theorem dX7_init_121 : decode cX7_init 121 = .ok (.iconst 4, 1) := by decide +kernel
theorem dX7_init_122 : decode cX7_init 122 = .ok (.newarray .int, 2) := by decide +kernel
theorem dX7_init_124 : decode cX7_init 124 = .ok (.putfield 57, 3) := by decide +kernel
theorem dX7_init_127 : decode cX7_init 127 = .ok (.aload_n 0, 1) := by decide +kernel
theorem dX7_init_128 : decode cX7_init 128 = .ok (.bipush 6, 2) := by decide +kernel
theorem dX7_init_130 : decode cX7_init 130 = .ok (.newarray .int, 2) := by decide +kernel
theorem dX7_init_132 : decode cX7_init 132 = .ok (.putfield 60, 3) := by decide +kernel
theorem dX7_init_135 : decode cX7_init 135 = .ok (.aload_n 0, 1) := by decide +kernel
theorem dX7_init_136 : decode cX7_init 136 = .ok (.iconst 5, 1) := by decide +kernel
theorem dX7_init_137 : decode cX7_init 137 = .ok (.newarray .int, 2) := by decide +kernel
theorem dX7_init_139 : decode cX7_init 139 = .ok (.putfield 63, 3) := by decide +kernel
theorem dX7_init_142 : decode cX7_init 142 = .ok (.return_, 1) := by decide +kernel
theorem dX7_in_0 : decode cX7_in 0 = .ok (.lload_n 0, 1) := by decide +kernel
theorem dX7_in_1 : decode cX7_in 1 = .ok (.lload_n 2, 1) := by decide +kernel
theorem dX7_in_2 : decode cX7_in 2 = .ok (.lcmp, 1) := by decide +kernel
theorem dX7_in_3 : decode cX7_in 3 = .ok (.ifCond .lt 14, 3) := by decide +kernel
theorem dX7_in_6 : decode cX7_in 6 = .ok (.lload_n 0, 1) := by decide +kernel
theorem dX7_in_7 : decode cX7_in 7 = .ok (.lload 4, 2) := by decide +kernel
theorem dX7_in_9 : decode cX7_in 9 = .ok (.lcmp, 1) := by decide +kernel
theorem dX7_in_10 : decode cX7_in 10 = .ok (.ifCond .gt 7, 3) := by decide +kernel
theorem dX7_in_13 : decode cX7_in 13 = .ok (.iconst 1, 1) := by decide +kernel
theorem dX7_in_14 : decode cX7_in 14 = .ok (.goto 4, 3) := by decide +kernel
theorem dX7_in_17 : decode cX7_in 17 = .ok (.iconst 0, 1) := by decide +kernel
theorem dX7_in_18 : decode cX7_in 18 = .ok (.ireturn, 1) := by decide +kernel
theorem dX7_has_0 : decode cX7_has 0 = .ok (.iload_n 0, 1) := by decide +kernel
theorem dX7_has_1 : decode cX7_has 1 = .ok (.iload_n 1, 1) := by decide +kernel
theorem dX7_has_2 : decode cX7_has 2 = .ok (.ishr, 1) := by decide +kernel
theorem dX7_has_3 : decode cX7_has 3 = .ok (.iconst 1, 1) := by decide +kernel
theorem dX7_has_4 : decode cX7_has 4 = .ok (.iand, 1) := by decide +kernel
theorem dX7_has_5 : decode cX7_has 5 = .ok (.iconst 1, 1) := by decide +kernel
theorem dX7_has_6 : decode cX7_has 6 = .ok (.if_icmp .ne 7, 3) := by decide +kernel
theorem dX7_has_9 : decode cX7_has 9 = .ok (.iconst 1, 1) := by decide +kernel
theorem dX7_has_10 : decode cX7_has 10 = .ok (.goto 4, 3) := by decide +kernel
theorem dX7_has_13 : decode cX7_has 13 = .ok (.iconst 0, 1) := by decide +kernel
theorem dX7_has_14 : decode cX7_has 14 = .ok (.ireturn, 1) := by decide +kernel
theorem dX7_feed_0 : decode cX7_feed 0 = .ok (.iload_n 1, 1) := by decide +kernel
theorem dX7_feed_1 : decode cX7_feed 1 = .ok (.i2l, 1) := by decide +kernel
theorem dX7_feed_2 : decode cX7_feed 2 = .ok (.lconst 0, 1) := by decide +kernel
theorem dX7_feed_3 : decode cX7_feed 3 = .ok (.ldc2_w 66, 3) := by decide +kernel
theorem dX7_feed_6 : decode cX7_feed 6 = .ok (.invokestatic 68, 3) := by decide +kernel
theorem dX7_feed_9 : decode cX7_feed 9 = .ok (.ifCond .ne 6, 3) := by decide +kernel
theorem dX7_feed_12 : decode cX7_feed 12 = .ok (.ldc 72, 2) := by decide +kernel
theorem dX7_feed_14 : decode cX7_feed 14 = .ok (.ireturn, 1) := by decide +kernel
theorem dX7_feed_15 : decode cX7_feed 15 = .ok (.aload_n 0, 1) := by decide +kernel
theorem dX7_feed_16 : decode cX7_feed 16 = .ok (.getfield 73, 3) := by decide +kernel
theorem dX7_feed_19 : decode cX7_feed 19 = .ok (.sipush 250, 3) := by decide +kernel
theorem dX7_feed_22 : decode cX7_feed 22 = .ok (.if_icmp .ne 6, 3) := by decide +kernel
theorem dX7_feed_25 : decode cX7_feed 25 = .ok (.ldc 76, 2) := by decide +kernel
theorem dX7_feed_27 : decode cX7_feed 27 = .ok (.ireturn, 1) := by decide +kernel
theorem dX7_feed_28 : decode cX7_feed 28 = .ok (.aload_n 0, 1) := by decide +kernel
theorem dX7_feed_29 : decode cX7_feed 29 = .ok (.getfield 17, 3) := by decide +kernel
theorem dX7_feed_32 : decode cX7_feed 32 = .ok (.aload_n 0, 1) := by decide +kernel
theorem dX7_feed_33 : decode cX7_feed 33 = .ok (.getfield 73, 3) := by decide +kernel
theorem dX7_feed_36 : decode cX7_feed 36 = .ok (.iload_n 1, 1) := by decide +kernel
theorem dX7_feed_37 : decode cX7_feed 37 = .ok (.iastore, 1) := by decide +kernel
theorem dX7_feed_38 : decode cX7_feed 38 = .ok (.aload_n 0, 1) := by decide +kernel
theorem dX7_feed_39 : decode cX7_feed 39 = .ok (.dup, 1) := by decide +kernel
theorem dX7_feed_40 : decode cX7_feed 40 = .ok (.getfield 73, 3) := by decide +kernel
theorem dX7_feed_43 : decode cX7_feed 43 = .ok (.iconst 1, 1) := by decide +kernel
theorem dX7_feed_44 : decode cX7_feed 44 = .ok (.iadd, 1) := by decide +kernel
theorem dX7_feed_45 : decode cX7_feed 45 = .ok (.putfield 73, 3) := by decide +kernel
theorem dX7_feed_48 : decode cX7_feed 48 = .ok (.aload_n 0, 1) := by decide +kernel
theorem dX7_feed_49 : decode cX7_feed 49 = .ok (.getfield 73, 3) := by decide +kernel
theorem dX7_feed_52 : decode cX7_feed 52 = .ok (.ireturn, 1) := by decide +kernel
theorem dX7_isFigure_0 : decode cX7_isFigure 0 = .ok (.iload_n 0, 1) := by decide +kernel
theorem dX7_isFigure_1 : decode cX7_isFigure 1 = .ok (.i2l, 1) := by decide +kernel
theorem dX7_isFigure_2 : decode cX7_isFigure 2 = .ok (.ldc2_w 77, 3) := by decide +kernel
theorem dX7_isFigure_5 : decode cX7_isFigure 5 = .ok (.ldc2_w 79, 3) := by decide +kernel
theorem dX7_isFigure_8 : decode cX7_isFigure 8 = .ok (.invokestatic 68, 3) := by decide +kernel
theorem dX7_isFigure_11 : decode cX7_isFigure 11 = .ok (.ireturn, 1) := by decide +kernel
theorem dX7_skip_0 : decode cX7_skip 0 = .ok (.aload_n 0, 1) := by decide +kernel
theorem dX7_skip_1 : decode cX7_skip 1 = .ok (.getfield 81, 3) := by decide +kernel
theorem dX7_skip_4 : decode cX7_skip 4 = .ok (.aload_n 0, 1) := by decide +kernel
theorem dX7_skip_5 : decode cX7_skip 5 = .ok (.getfield 73, 3) := by decide +kernel
theorem dX7_skip_8 : decode cX7_skip 8 = .ok (.if_icmp .ge 30, 3) := by decide +kernel
theorem dX7_skip_11 : decode cX7_skip 11 = .ok (.aload_n 0, 1) := by decide +kernel
theorem dX7_skip_12 : decode cX7_skip 12 = .ok (.getfield 17, 3) := by decide +kernel
theorem dX7_skip_15 : decode cX7_skip 15 = .ok (.aload_n 0, 1) := by decide +kernel
theorem dX7_skip_16 : decode cX7_skip 16 = .ok (.getfield 81, 3) := by decide +kernel
theorem dX7_skip_19 : decode cX7_skip 19 = .ok (.iaload, 1) := by decide +kernel
theorem dX7_skip_20 : decode cX7_skip 20 = .ok (.bipush 32, 2) := by decide +kernel
theorem dX7_skip_22 : decode cX7_skip 22 = .ok (.if_icmp .ne 16, 3) := by decide +kernel
theorem dX7_skip_25 : decode cX7_skip 25 = .ok (.aload_n 0, 1) := by decide +kernel
theorem dX7_skip_26 : decode cX7_skip 26 = .ok (.dup, 1) := by decide +kernel
theorem dX7_skip_27 : decode cX7_skip 27 = .ok (.getfield 81, 3) := by decide +kernel
theorem dX7_skip_30 : decode cX7_skip 30 = .ok (.iconst 1, 1) := by decide +kernel
theorem dX7_skip_31 : decode cX7_skip 31 = .ok (.iadd, 1) := by decide +kernel
theorem dX7_skip_32 : decode cX7_skip 32 = .ok (.putfield 81, 3) := by decide +kernel
theorem dX7_skip_35 : decode cX7_skip 35 = .ok (.goto (-35), 3) := by decide +kernel
theorem dX7_skip_38 : decode cX7_skip 38 = .ok (.aload_n 0, 1) := by decide +kernel
theorem dX7_skip_39 : decode cX7_skip 39 = .ok (.aload_n 0, 1) := by decide +kernel
theorem dX7_skip_40 : decode cX7_skip 40 = .ok (.getfield 81, 3) := by decide +kernel
theorem dX7_skip_43 : decode cX7_skip 43 = .ok (.putfield 84, 3) := by decide +kernel
theorem dX7_skip_46 : decode cX7_skip 46 = .ok (.return_, 1) := by decide +kernel
theorem dX7_number_0 : decode cX7_number 0 = .ok (.aload_n 0, 1) := by decide +kernel
theorem dX7_number_1 : decode cX7_number 1 = .ok (.invokevirtual 87, 3) := by decide +kernel
theorem dX7_number_4 : decode cX7_number 4 = .ok (.aload_n 0, 1) := by decide +kernel
theorem dX7_number_5 : decode cX7_number 5 = .ok (.getfield 81, 3) := by decide +kernel
theorem dX7_number_8 : decode cX7_number 8 = .ok (.aload_n 0, 1) := by decide +kernel
theorem dX7_number_9 : decode cX7_number 9 = .ok (.getfield 73, 3) := by decide +kernel
theorem dX7_number_12 : decode cX7_number 12 = .ok (.if_icmp .eq 18, 3) := by decide +kernel
theorem dX7_number_15 : decode cX7_number 15 = .ok (.aload_n 0, 1) := by decide +kernel
theorem dX7_number_16 : decode cX7_number 16 = .ok (.getfield 17, 3) := by decide +kernel
theorem dX7_number_19 : decode cX7_number 19 = .ok (.aload_n 0, 1) := by decide +kernel
theorem dX7_number_20 : decode cX7_number 20 = .ok (.getfield 81, 3) := by decide +kernel
theorem dX7_number_23 : decode cX7_number 23 = .ok (.iaload, 1) := by decide +kernel
theorem dX7_number_24 : decode cX7_number 24 = .ok (.invokestatic 90, 3) := by decide +kernel
theorem dX7_number_27 : decode cX7_number 27 = .ok (.ifCond .ne 5, 3) := by decide +kernel
theorem dX7_number_30 : decode cX7_number 30 = .ok (.iconst 1, 1) := by decide +kernel
theorem dX7_number_31 : decode cX7_number 31 = .ok (.ireturn, 1) := by decide +kernel
theorem dX7_number_32 : decode cX7_number 32 = .ok (.iconst 0, 1) := by decide +kernel
theorem dX7_number_33 : decode cX7_number 33 = .ok (.istore 4, 2) := by decide +kernel
theorem dX7_number_35 : decode cX7_number 35 = .ok (.aload_n 0, 1) := by decide +kernel
theorem dX7_number_36 : decode cX7_number 36 = .ok (.getfield 81, 3) := by decide +kernel
theorem dX7_number_39 : decode cX7_number 39 = .ok (.aload_n 0, 1) := by decide +kernel
theorem dX7_number_40 : decode cX7_number 40 = .ok (.getfield 73, 3) := by decide +kernel
theorem dX7_number_43 : decode cX7_number 43 = .ok (.if_icmp .ge 69, 3) := by decide +kernel
theorem dX7_number_46 : decode cX7_number 46 = .ok (.aload_n 0, 1) := by decide +kernel
theorem dX7_number_47 : decode cX7_number 47 = .ok (.getfield 17, 3) := by decide +kernel
theorem dX7_number_50 : decode cX7_number 50 = .ok (.aload_n 0, 1) := by decide +kernel
theorem dX7_number_51 : decode cX7_number 51 = .ok (.getfield 81, 3) := by decide +kernel
theorem dX7_number_54 : decode cX7_number 54 = .ok (.iaload, 1) := by decide +kernel
theorem dX7_number_55 : decode cX7_number 55 = .ok (.invokestatic 90, 3) := by decide +kernel
theorem dX7_number_58 : decode cX7_number 58 = .ok (.ifCond .eq 54, 3) := by decide +kernel
theorem dX7_number_61 : decode cX7_number 61 = .ok (.aload_n 0, 1) := by decide +kernel
theorem dX7_number_62 : decode cX7_number 62 = .ok (.getfield 81, 3) := by decide +kernel
theorem dX7_number_65 : decode cX7_number 65 = .ok (.aload_n 0, 1) := by decide +kernel
theorem dX7_number_66 : decode cX7_number 66 = .ok (.getfield 84, 3) := by decide +kernel
theorem dX7_number_69 : decode cX7_number 69 = .ok (.isub, 1) := by decide +kernel
theorem dX7_number_70 : decode cX7_number 70 = .ok (.iconst 3, 1) := by decide +kernel
theorem dX7_number_71 : decode cX7_number 71 = .ok (.if_icmp .ge 24, 3) := by decide +kernel
theorem dX7_number_74 : decode cX7_number 74 = .ok (.bipush 10, 2) := by decide +kernel
theorem dX7_number_76 : decode cX7_number 76 = .ok (.iload 4, 2) := by decide +kernel
theorem dX7_number_78 : decode cX7_number 78 = .ok (.imul, 1) := by decide +kernel
theorem dX7_number_79 : decode cX7_number 79 = .ok (.aload_n 0, 1) := by decide +kernel
theorem dX7_number_80 : decode cX7_number 80 = .ok (.getfield 17, 3) := by decide +kernel
theorem dX7_number_83 : decode cX7_number 83 = .ok (.aload_n 0, 1) := by decide +kernel
theorem dX7_number_84 : decode cX7_number 84 = .ok (.getfield 81, 3) := by decide +kernel
theorem dX7_number_87 : decode cX7_number 87 = .ok (.iaload, 1) := by decide +kernel
theorem dX7_number_88 : decode cX7_number 88 = .ok (.iadd, 1) := by decide +kernel
theorem dX7_number_89 : decode cX7_number 89 = .ok (.bipush 48, 2) := by decide +kernel
theorem dX7_number_91 : decode cX7_number 91 = .ok (.isub, 1) := by decide +kernel
theorem dX7_number_92 : decode cX7_number 92 = .ok (.goto 5, 3) := by decide +kernel
theorem dX7_number_95 : decode cX7_number 95 = .ok (.iload 4, 2) := by decide +kernel
theorem dX7_number_97 : decode cX7_number 97 = .ok (.istore 4, 2) := by decide +kernel
theorem dX7_number_99 : decode cX7_number 99 = .ok (.aload_n 0, 1) := by decide +kernel
theorem dX7_number_100 : decode cX7_number 100 = .ok (.dup, 1) := by decide +kernel
theorem dX7_number_101 : decode cX7_number 101 = .ok (.getfield 81, 3) := by decide +kernel
theorem dX7_number_104 : decode cX7_number 104 = .ok (.iconst 1, 1) := by decide +kernel
theorem dX7_number_105 : decode cX7_number 105 = .ok (.iadd, 1) := by decide +kernel
theorem dX7_number_106 : decode cX7_number 106 = .ok (.putfield 81, 3) := by decide +kernel
theorem dX7_number_109 : decode cX7_number 109 = .ok (.goto (-74), 3) := by decide +kernel
theorem dX7_number_112 : decode cX7_number 112 = .ok (.aload_n 0, 1) := by decide +kernel
theorem dX7_number_113 : decode cX7_number 113 = .ok (.getfield 57, 3) := by decide +kernel
theorem dX7_number_116 : decode cX7_number 116 = .ok (.iload_n 1, 1) := by decide +kernel
theorem dX7_number_117 : decode cX7_number 117 = .ok (.iload 4, 2) := by decide +kernel
theorem dX7_number_119 : decode cX7_number 119 = .ok (.iastore, 1) := by decide +kernel
theorem dX7_number_120 : decode cX7_number 120 = .ok (.aload_n 0, 1) := by decide +kernel
theorem dX7_number_121 : decode cX7_number 121 = .ok (.getfield 81, 3) := by decide +kernel
theorem dX7_number_124 : decode cX7_number 124 = .ok (.aload_n 0, 1) := by decide +kernel
theorem dX7_number_125 : decode cX7_number 125 = .ok (.getfield 84, 3) := by decide +kernel
theorem dX7_number_128 : decode cX7_number 128 = .ok (.isub, 1) := by decide +kernel
theorem dX7_number_129 : decode cX7_number 129 = .ok (.iconst 3, 1) := by decide +kernel
theorem dX7_number_130 : decode cX7_number 130 = .ok (.if_icmp .gt 16, 3) := by decide +kernel
theorem dX7_number_133 : decode cX7_number 133 = .ok (.iload 4, 2) := by decide +kernel
theorem dX7_number_135 : decode cX7_number 135 = .ok (.i2l, 1) := by decide +kernel
theorem dX7_number_136 : decode cX7_number 136 = .ok (.iload_n 2, 1) := by decide +kernel
theorem dX7_number_137 : decode cX7_number 137 = .ok (.i2l, 1) := by decide +kernel
theorem dX7_number_138 : decode cX7_number 138 = .ok (.iload_n 3, 1) := by decide +kernel
theorem dX7_number_139 : decode cX7_number 139 = .ok (.i2l, 1) := by decide +kernel
theorem dX7_number_140 : decode cX7_number 140 = .ok (.invokestatic 68, 3) := by decide +kernel
theorem dX7_number_143 : decode cX7_number 143 = .ok (.ifCond .ne 7, 3) := by decide +kernel
theorem dX7_number_146 : decode cX7_number 146 = .ok (.iconst 2, 1) := by decide +kernel
theorem dX7_number_147 : decode cX7_number 147 = .ok (.goto 4, 3) := by decide +kernel
theorem dX7_number_150 : decode cX7_number 150 = .ok (.iconst 0, 1) := by decide +kernel
theorem dX7_number_151 : decode cX7_number 151 = .ok (.ireturn, 1) := by decide +kernel
theorem dX7_numberOr_0 : decode cX7_numberOr 0 = .ok (.iload_n 1, 1) := by decide +kernel
theorem dX7_numberOr_1 : decode cX7_numberOr 1 = .ok (.ifCond .eq 7, 3) := by decide +kernel
theorem dX7_numberOr_4 : decode cX7_numberOr 4 = .ok (.iload_n 1, 1) := by decide +kernel
theorem dX7_numberOr_5 : decode cX7_numberOr 5 = .ok (.goto 11, 3) := by decide +kernel
theorem dX7_numberOr_8 : decode cX7_numberOr 8 = .ok (.aload_n 0, 1) := by decide +kernel
theorem dX7_numberOr_9 : decode cX7_numberOr 9 = .ok (.iload_n 2, 1) := by decide +kernel
theorem dX7_numberOr_10 : decode cX7_numberOr 10 = .ok (.iload_n 3, 1) := by decide +kernel
theorem dX7_numberOr_11 : decode cX7_numberOr 11 = .ok (.iload 4, 2) := by decide +kernel
theorem dX7_numberOr_13 : decode cX7_numberOr 13 = .ok (.invokevirtual 94, 3) := by decide +kernel
theorem dX7_numberOr_16 : decode cX7_numberOr 16 = .ok (.ireturn, 1) := by decide +kernel
theorem dX7_semicolon_0 : decode cX7_semicolon 0 = .ok (.iload_n 1, 1) := by decide +kernel
theorem dX7_semicolon_1 : decode cX7_semicolon 1 = .ok (.ifCond .eq 5, 3) := by decide +kernel
theorem dX7_semicolon_4 : decode cX7_semicolon 4 = .ok (.iload_n 1, 1) := by decide +kernel
theorem dX7_semicolon_5 : decode cX7_semicolon 5 = .ok (.ireturn, 1) := by decide +kernel
theorem dX7_semicolon_6 : decode cX7_semicolon 6 = .ok (.aload_n 0, 1) := by decide +kernel
theorem dX7_semicolon_7 : decode cX7_semicolon 7 = .ok (.invokevirtual 87, 3) := by decide +kernel
theorem dX7_semicolon_10 : decode cX7_semicolon 10 = .ok (.aload_n 0, 1) := by decide +kernel
theorem dX7_semicolon_11 : decode cX7_semicolon 11 = .ok (.getfield 81, 3) := by decide +kernel
theorem dX7_semicolon_14 : decode cX7_semicolon 14 = .ok (.aload_n 0, 1) := by decide +kernel
theorem dX7_semicolon_15 : decode cX7_semicolon 15 = .ok (.getfield 73, 3) := by decide +kernel
theorem dX7_semicolon_18 : decode cX7_semicolon 18 = .ok (.if_icmp .eq 17, 3) := by decide +kernel
theorem dX7_semicolon_21 : decode cX7_semicolon 21 = .ok (.aload_n 0, 1) := by decide +kernel
theorem dX7_semicolon_22 : decode cX7_semicolon 22 = .ok (.getfield 17, 3) := by decide +kernel
theorem dX7_semicolon_25 : decode cX7_semicolon 25 = .ok (.aload_n 0, 1) := by decide +kernel
theorem dX7_semicolon_26 : decode cX7_semicolon 26 = .ok (.getfield 81, 3) := by decide +kernel
theorem dX7_semicolon_29 : decode cX7_semicolon 29 = .ok (.iaload, 1) := by decide +kernel
theorem dX7_semicolon_30 : decode cX7_semicolon 30 = .ok (.bipush 59, 2) := by decide +kernel
theorem dX7_semicolon_32 : decode cX7_semicolon 32 = .ok (.if_icmp .eq 5, 3) := by decide +kernel
theorem dX7_semicolon_35 : decode cX7_semicolon 35 = .ok (.iconst 1, 1) := by decide +kernel
theorem dX7_semicolon_36 : decode cX7_semicolon 36 = .ok (.ireturn, 1) := by decide +kernel
theorem dX7_semicolon_37 : decode cX7_semicolon 37 = .ok (.aload_n 0, 1) := by decide +kernel
theorem dX7_semicolon_38 : decode cX7_semicolon 38 = .ok (.dup, 1) := by decide +kernel
theorem dX7_semicolon_39 : decode cX7_semicolon 39 = .ok (.getfield 81, 3) := by decide +kernel
theorem dX7_semicolon_42 : decode cX7_semicolon 42 = .ok (.iconst 1, 1) := by decide +kernel
theorem dX7_semicolon_43 : decode cX7_semicolon 43 = .ok (.iadd, 1) := by decide +kernel
theorem dX7_semicolon_44 : decode cX7_semicolon 44 = .ok (.putfield 81, 3) := by decide +kernel
theorem dX7_semicolon_47 : decode cX7_semicolon 47 = .ok (.iconst 0, 1) := by decide +kernel
theorem dX7_semicolon_48 : decode cX7_semicolon 48 = .ok (.ireturn, 1) := by decide +kernel
theorem dX7_readsPeople_0 : decode cX7_readsPeople 0 = .ok (.aload_n 0, 1) := by decide +kernel
theorem dX7_readsPeople_1 : decode cX7_readsPeople 1 = .ok (.aload_n 0, 1) := by decide +kernel
theorem dX7_readsPeople_2 : decode cX7_readsPeople 2 = .ok (.iconst 0, 1) := by decide +kernel
theorem dX7_readsPeople_3 : decode cX7_readsPeople 3 = .ok (.iconst 1, 1) := by decide +kernel
theorem dX7_readsPeople_4 : decode cX7_readsPeople 4 = .ok (.bipush 6, 2) := by decide +kernel
theorem dX7_readsPeople_6 : decode cX7_readsPeople 6 = .ok (.invokevirtual 94, 3) := by decide +kernel
theorem dX7_readsPeople_9 : decode cX7_readsPeople 9 = .ok (.invokevirtual 98, 3) := by decide +kernel
theorem dX7_readsPeople_12 : decode cX7_readsPeople 12 = .ok (.istore_n 1, 1) := by decide +kernel
theorem dX7_readsPeople_13 : decode cX7_readsPeople 13 = .ok (.aload_n 0, 1) := by decide +kernel
theorem dX7_readsPeople_14 : decode cX7_readsPeople 14 = .ok (.iload_n 1, 1) := by decide +kernel
theorem dX7_readsPeople_15 : decode cX7_readsPeople 15 = .ok (.ifCond .ne 12, 3) := by decide +kernel
theorem dX7_readsPeople_18 : decode cX7_readsPeople 18 = .ok (.aload_n 0, 1) := by decide +kernel
theorem dX7_readsPeople_19 : decode cX7_readsPeople 19 = .ok (.getfield 57, 3) := by decide +kernel
theorem dX7_readsPeople_22 : decode cX7_readsPeople 22 = .ok (.iconst 0, 1) := by decide +kernel
theorem dX7_readsPeople_23 : decode cX7_readsPeople 23 = .ok (.iaload, 1) := by decide +kernel
theorem dX7_readsPeople_24 : decode cX7_readsPeople 24 = .ok (.goto 4, 3) := by decide +kernel
theorem dX7_readsPeople_27 : decode cX7_readsPeople 27 = .ok (.iconst 0, 1) := by decide +kernel
theorem dX7_readsPeople_28 : decode cX7_readsPeople 28 = .ok (.putfield 102, 3) := by decide +kernel
theorem dX7_readsPeople_31 : decode cX7_readsPeople 31 = .ok (.iload_n 1, 1) := by decide +kernel
theorem dX7_readsPeople_32 : decode cX7_readsPeople 32 = .ok (.ireturn, 1) := by decide +kernel
theorem dX7_readsFighter_0 : decode cX7_readsFighter 0 = .ok (.aload_n 0, 1) := by decide +kernel
theorem dX7_readsFighter_1 : decode cX7_readsFighter 1 = .ok (.aload_n 0, 1) := by decide +kernel
theorem dX7_readsFighter_2 : decode cX7_readsFighter 2 = .ok (.aload_n 0, 1) := by decide +kernel
theorem dX7_readsFighter_3 : decode cX7_readsFighter 3 = .ok (.aload_n 0, 1) := by decide +kernel
theorem dX7_readsFighter_4 : decode cX7_readsFighter 4 = .ok (.iconst 0, 1) := by decide +kernel
theorem dX7_readsFighter_5 : decode cX7_readsFighter 5 = .ok (.iconst 0, 1) := by decide +kernel
theorem dX7_readsFighter_6 : decode cX7_readsFighter 6 = .ok (.iconst 4, 1) := by decide +kernel
theorem dX7_readsFighter_7 : decode cX7_readsFighter 7 = .ok (.invokevirtual 94, 3) := by decide +kernel
theorem dX7_readsFighter_10 : decode cX7_readsFighter 10 = .ok (.iconst 1, 1) := by decide +kernel
theorem dX7_readsFighter_11 : decode cX7_readsFighter 11 = .ok (.iconst 0, 1) := by decide +kernel
theorem dX7_readsFighter_12 : decode cX7_readsFighter 12 = .ok (.bipush 99, 2) := by decide +kernel
theorem dX7_readsFighter_14 : decode cX7_readsFighter 14 = .ok (.invokevirtual 105, 3) := by decide +kernel
theorem dX7_readsFighter_17 : decode cX7_readsFighter 17 = .ok (.iconst 2, 1) := by decide +kernel
theorem dX7_readsFighter_18 : decode cX7_readsFighter 18 = .ok (.iconst 0, 1) := by decide +kernel
theorem dX7_readsFighter_19 : decode cX7_readsFighter 19 = .ok (.bipush 99, 2) := by decide +kernel
theorem dX7_readsFighter_21 : decode cX7_readsFighter 21 = .ok (.invokevirtual 105, 3) := by decide +kernel
theorem dX7_readsFighter_24 : decode cX7_readsFighter 24 = .ok (.invokevirtual 98, 3) := by decide +kernel
theorem dX7_readsFighter_27 : decode cX7_readsFighter 27 = .ok (.istore_n 1, 1) := by decide +kernel
theorem dX7_readsFighter_28 : decode cX7_readsFighter 28 = .ok (.iconst 0, 1) := by decide +kernel
theorem dX7_readsFighter_29 : decode cX7_readsFighter 29 = .ok (.istore_n 2, 1) := by decide +kernel
theorem dX7_readsFighter_30 : decode cX7_readsFighter 30 = .ok (.iload_n 2, 1) := by decide +kernel
theorem dX7_readsFighter_31 : decode cX7_readsFighter 31 = .ok (.iconst 3, 1) := by decide +kernel
theorem dX7_readsFighter_32 : decode cX7_readsFighter 32 = .ok (.if_icmp .ge 32, 3) := by decide +kernel
theorem dX7_readsFighter_35 : decode cX7_readsFighter 35 = .ok (.iload_n 1, 1) := by decide +kernel
theorem dX7_readsFighter_36 : decode cX7_readsFighter 36 = .ok (.ifCond .ne 28, 3) := by decide +kernel
theorem dX7_readsFighter_39 : decode cX7_readsFighter 39 = .ok (.aload_n 0, 1) := by decide +kernel
theorem dX7_readsFighter_40 : decode cX7_readsFighter 40 = .ok (.getfield 42, 3) := by decide +kernel
theorem dX7_readsFighter_43 : decode cX7_readsFighter 43 = .ok (.iconst 3, 1) := by decide +kernel
theorem dX7_readsFighter_44 : decode cX7_readsFighter 44 = .ok (.aload_n 0, 1) := by decide +kernel
theorem dX7_readsFighter_45 : decode cX7_readsFighter 45 = .ok (.getfield 109, 3) := by decide +kernel
theorem dX7_readsFighter_48 : decode cX7_readsFighter 48 = .ok (.imul, 1) := by decide +kernel
theorem dX7_readsFighter_49 : decode cX7_readsFighter 49 = .ok (.iload_n 2, 1) := by decide +kernel
theorem dX7_readsFighter_50 : decode cX7_readsFighter 50 = .ok (.iadd, 1) := by decide +kernel
theorem dX7_readsFighter_51 : decode cX7_readsFighter 51 = .ok (.aload_n 0, 1) := by decide +kernel
theorem dX7_readsFighter_52 : decode cX7_readsFighter 52 = .ok (.getfield 57, 3) := by decide +kernel
theorem dX7_readsFighter_55 : decode cX7_readsFighter 55 = .ok (.iload_n 2, 1) := by decide +kernel
theorem dX7_readsFighter_56 : decode cX7_readsFighter 56 = .ok (.iaload, 1) := by decide +kernel
theorem dX7_readsFighter_57 : decode cX7_readsFighter 57 = .ok (.iastore, 1) := by decide +kernel
theorem dX7_readsFighter_58 : decode cX7_readsFighter 58 = .ok (.iinc 2 1, 3) := by decide +kernel
theorem dX7_readsFighter_61 : decode cX7_readsFighter 61 = .ok (.goto (-31), 3) := by decide +kernel
theorem dX7_readsFighter_64 : decode cX7_readsFighter 64 = .ok (.aload_n 0, 1) := by decide +kernel
theorem dX7_readsFighter_65 : decode cX7_readsFighter 65 = .ok (.dup, 1) := by decide +kernel
theorem dX7_readsFighter_66 : decode cX7_readsFighter 66 = .ok (.getfield 109, 3) := by decide +kernel
theorem dX7_readsFighter_69 : decode cX7_readsFighter 69 = .ok (.iload_n 1, 1) := by decide +kernel
theorem dX7_readsFighter_70 : decode cX7_readsFighter 70 = .ok (.ifCond .ne 7, 3) := by decide +kernel
theorem dX7_readsFighter_73 : decode cX7_readsFighter 73 = .ok (.iconst 1, 1) := by decide +kernel
theorem dX7_readsFighter_74 : decode cX7_readsFighter 74 = .ok (.goto 4, 3) := by decide +kernel
theorem dX7_readsFighter_77 : decode cX7_readsFighter 77 = .ok (.iconst 0, 1) := by decide +kernel
theorem dX7_readsFighter_78 : decode cX7_readsFighter 78 = .ok (.iadd, 1) := by decide +kernel
theorem dX7_readsFighter_79 : decode cX7_readsFighter 79 = .ok (.putfield 109, 3) := by decide +kernel
theorem dX7_readsFighter_82 : decode cX7_readsFighter 82 = .ok (.iload_n 1, 1) := by decide +kernel
theorem dX7_readsFighter_83 : decode cX7_readsFighter 83 = .ok (.ireturn, 1) := by decide +kernel
theorem dX7_readsChat_0 : decode cX7_readsChat 0 = .ok (.aload_n 0, 1) := by decide +kernel
theorem dX7_readsChat_1 : decode cX7_readsChat 1 = .ok (.aload_n 0, 1) := by decide +kernel
theorem dX7_readsChat_2 : decode cX7_readsChat 2 = .ok (.iconst 0, 1) := by decide +kernel
theorem dX7_readsChat_3 : decode cX7_readsChat 3 = .ok (.iconst 0, 1) := by decide +kernel
theorem dX7_readsChat_4 : decode cX7_readsChat 4 = .ok (.aload_n 0, 1) := by decide +kernel
theorem dX7_readsChat_5 : decode cX7_readsChat 5 = .ok (.getfield 102, 3) := by decide +kernel
theorem dX7_readsChat_8 : decode cX7_readsChat 8 = .ok (.iconst 1, 1) := by decide +kernel
theorem dX7_readsChat_9 : decode cX7_readsChat 9 = .ok (.isub, 1) := by decide +kernel
theorem dX7_readsChat_10 : decode cX7_readsChat 10 = .ok (.invokevirtual 94, 3) := by decide +kernel
theorem dX7_readsChat_13 : decode cX7_readsChat 13 = .ok (.iconst 1, 1) := by decide +kernel
theorem dX7_readsChat_14 : decode cX7_readsChat 14 = .ok (.iconst 0, 1) := by decide +kernel
theorem dX7_readsChat_15 : decode cX7_readsChat 15 = .ok (.aload_n 0, 1) := by decide +kernel
theorem dX7_readsChat_16 : decode cX7_readsChat 16 = .ok (.getfield 102, 3) := by decide +kernel
theorem dX7_readsChat_19 : decode cX7_readsChat 19 = .ok (.iconst 1, 1) := by decide +kernel
theorem dX7_readsChat_20 : decode cX7_readsChat 20 = .ok (.isub, 1) := by decide +kernel
theorem dX7_readsChat_21 : decode cX7_readsChat 21 = .ok (.invokevirtual 105, 3) := by decide +kernel
theorem dX7_readsChat_24 : decode cX7_readsChat 24 = .ok (.istore_n 1, 1) := by decide +kernel
theorem dX7_readsChat_25 : decode cX7_readsChat 25 = .ok (.iload_n 1, 1) := by decide +kernel
theorem dX7_readsChat_26 : decode cX7_readsChat 26 = .ok (.ifCond .ne 43, 3) := by decide +kernel
theorem dX7_readsChat_29 : decode cX7_readsChat 29 = .ok (.aload_n 0, 1) := by decide +kernel
theorem dX7_readsChat_30 : decode cX7_readsChat 30 = .ok (.getfield 57, 3) := by decide +kernel
theorem dX7_readsChat_33 : decode cX7_readsChat 33 = .ok (.iconst 0, 1) := by decide +kernel
theorem dX7_readsChat_34 : decode cX7_readsChat 34 = .ok (.iaload, 1) := by decide +kernel
theorem dX7_readsChat_35 : decode cX7_readsChat 35 = .ok (.aload_n 0, 1) := by decide +kernel
theorem dX7_readsChat_36 : decode cX7_readsChat 36 = .ok (.getfield 57, 3) := by decide +kernel
theorem dX7_readsChat_39 : decode cX7_readsChat 39 = .ok (.iconst 1, 1) := by decide +kernel
theorem dX7_readsChat_40 : decode cX7_readsChat 40 = .ok (.iaload, 1) := by decide +kernel
theorem dX7_readsChat_41 : decode cX7_readsChat 41 = .ok (.if_icmp .eq 26, 3) := by decide +kernel
theorem dX7_readsChat_44 : decode cX7_readsChat 44 = .ok (.aload_n 0, 1) := by decide +kernel
theorem dX7_readsChat_45 : decode cX7_readsChat 45 = .ok (.getfield 45, 3) := by decide +kernel
theorem dX7_readsChat_48 : decode cX7_readsChat 48 = .ok (.aload_n 0, 1) := by decide +kernel
theorem dX7_readsChat_49 : decode cX7_readsChat 49 = .ok (.getfield 57, 3) := by decide +kernel
theorem dX7_readsChat_52 : decode cX7_readsChat 52 = .ok (.iconst 0, 1) := by decide +kernel
theorem dX7_readsChat_53 : decode cX7_readsChat 53 = .ok (.iaload, 1) := by decide +kernel
theorem dX7_readsChat_54 : decode cX7_readsChat 54 = .ok (.iaload, 1) := by decide +kernel
theorem dX7_readsChat_55 : decode cX7_readsChat 55 = .ok (.aload_n 0, 1) := by decide +kernel
theorem dX7_readsChat_56 : decode cX7_readsChat 56 = .ok (.getfield 57, 3) := by decide +kernel
theorem dX7_readsChat_59 : decode cX7_readsChat 59 = .ok (.iconst 1, 1) := by decide +kernel
theorem dX7_readsChat_60 : decode cX7_readsChat 60 = .ok (.iaload, 1) := by decide +kernel
theorem dX7_readsChat_61 : decode cX7_readsChat 61 = .ok (.invokestatic 112, 3) := by decide +kernel
theorem dX7_readsChat_64 : decode cX7_readsChat 64 = .ok (.ifCond .eq 5, 3) := by decide +kernel
theorem dX7_readsChat_67 : decode cX7_readsChat 67 = .ok (.iconst 4, 1) := by decide +kernel
theorem dX7_readsChat_68 : decode cX7_readsChat 68 = .ok (.istore_n 1, 1) := by decide +kernel
theorem dX7_readsChat_69 : decode cX7_readsChat 69 = .ok (.aload_n 0, 1) := by decide +kernel
theorem dX7_readsChat_70 : decode cX7_readsChat 70 = .ok (.iload_n 1, 1) := by decide +kernel
theorem dX7_readsChat_71 : decode cX7_readsChat 71 = .ok (.invokevirtual 98, 3) := by decide +kernel
theorem dX7_readsChat_74 : decode cX7_readsChat 74 = .ok (.istore_n 1, 1) := by decide +kernel
theorem dX7_readsChat_75 : decode cX7_readsChat 75 = .ok (.iload_n 1, 1) := by decide +kernel
theorem dX7_readsChat_76 : decode cX7_readsChat 76 = .ok (.ifCond .ne 57, 3) := by decide +kernel
theorem dX7_readsChat_79 : decode cX7_readsChat 79 = .ok (.aload_n 0, 1) := by decide +kernel
theorem dX7_readsChat_80 : decode cX7_readsChat 80 = .ok (.getfield 45, 3) := by decide +kernel
theorem dX7_readsChat_83 : decode cX7_readsChat 83 = .ok (.aload_n 0, 1) := by decide +kernel
theorem dX7_readsChat_84 : decode cX7_readsChat 84 = .ok (.getfield 57, 3) := by decide +kernel
theorem dX7_readsChat_87 : decode cX7_readsChat 87 = .ok (.iconst 0, 1) := by decide +kernel
theorem dX7_readsChat_88 : decode cX7_readsChat 88 = .ok (.iaload, 1) := by decide +kernel
theorem dX7_readsChat_89 : decode cX7_readsChat 89 = .ok (.dup2, 1) := by decide +kernel
theorem dX7_readsChat_90 : decode cX7_readsChat 90 = .ok (.iaload, 1) := by decide +kernel
theorem dX7_readsChat_91 : decode cX7_readsChat 91 = .ok (.iconst 1, 1) := by decide +kernel
theorem dX7_readsChat_92 : decode cX7_readsChat 92 = .ok (.aload_n 0, 1) := by decide +kernel
theorem dX7_readsChat_93 : decode cX7_readsChat 93 = .ok (.getfield 57, 3) := by decide +kernel
theorem dX7_readsChat_96 : decode cX7_readsChat 96 = .ok (.iconst 1, 1) := by decide +kernel
theorem dX7_readsChat_97 : decode cX7_readsChat 97 = .ok (.iaload, 1) := by decide +kernel
theorem dX7_readsChat_98 : decode cX7_readsChat 98 = .ok (.ishl, 1) := by decide +kernel
theorem dX7_readsChat_99 : decode cX7_readsChat 99 = .ok (.ior, 1) := by decide +kernel
theorem dX7_readsChat_100 : decode cX7_readsChat 100 = .ok (.iastore, 1) := by decide +kernel
theorem dX7_readsChat_101 : decode cX7_readsChat 101 = .ok (.aload_n 0, 1) := by decide +kernel
theorem dX7_readsChat_102 : decode cX7_readsChat 102 = .ok (.getfield 45, 3) := by decide +kernel
theorem dX7_readsChat_105 : decode cX7_readsChat 105 = .ok (.aload_n 0, 1) := by decide +kernel
theorem dX7_readsChat_106 : decode cX7_readsChat 106 = .ok (.getfield 57, 3) := by decide +kernel
theorem dX7_readsChat_109 : decode cX7_readsChat 109 = .ok (.iconst 1, 1) := by decide +kernel
theorem dX7_readsChat_110 : decode cX7_readsChat 110 = .ok (.iaload, 1) := by decide +kernel
theorem dX7_readsChat_111 : decode cX7_readsChat 111 = .ok (.dup2, 1) := by decide +kernel
theorem dX7_readsChat_112 : decode cX7_readsChat 112 = .ok (.iaload, 1) := by decide +kernel
theorem dX7_readsChat_113 : decode cX7_readsChat 113 = .ok (.iconst 1, 1) := by decide +kernel
theorem dX7_readsChat_114 : decode cX7_readsChat 114 = .ok (.aload_n 0, 1) := by decide +kernel
theorem dX7_readsChat_115 : decode cX7_readsChat 115 = .ok (.getfield 57, 3) := by decide +kernel
theorem dX7_readsChat_118 : decode cX7_readsChat 118 = .ok (.iconst 0, 1) := by decide +kernel
theorem dX7_readsChat_119 : decode cX7_readsChat 119 = .ok (.iaload, 1) := by decide +kernel
theorem dX7_readsChat_120 : decode cX7_readsChat 120 = .ok (.ishl, 1) := by decide +kernel
theorem dX7_readsChat_121 : decode cX7_readsChat 121 = .ok (.ior, 1) := by decide +kernel
theorem dX7_readsChat_122 : decode cX7_readsChat 122 = .ok (.iastore, 1) := by decide +kernel
theorem dX7_readsChat_123 : decode cX7_readsChat 123 = .ok (.aload_n 0, 1) := by decide +kernel
theorem dX7_readsChat_124 : decode cX7_readsChat 124 = .ok (.dup, 1) := by decide +kernel
theorem dX7_readsChat_125 : decode cX7_readsChat 125 = .ok (.getfield 116, 3) := by decide +kernel
theorem dX7_readsChat_128 : decode cX7_readsChat 128 = .ok (.iconst 1, 1) := by decide +kernel
theorem dX7_readsChat_129 : decode cX7_readsChat 129 = .ok (.iadd, 1) := by decide +kernel
theorem dX7_readsChat_130 : decode cX7_readsChat 130 = .ok (.putfield 116, 3) := by decide +kernel
theorem dX7_readsChat_133 : decode cX7_readsChat 133 = .ok (.iload_n 1, 1) := by decide +kernel
theorem dX7_readsChat_134 : decode cX7_readsChat 134 = .ok (.ireturn, 1) := by decide +kernel
theorem dX7_readsTask_0 : decode cX7_readsTask 0 = .ok (.aload_n 0, 1) := by decide +kernel
theorem dX7_readsTask_1 : decode cX7_readsTask 1 = .ok (.aload_n 0, 1) := by decide +kernel
theorem dX7_readsTask_2 : decode cX7_readsTask 2 = .ok (.aload_n 0, 1) := by decide +kernel
theorem dX7_readsTask_3 : decode cX7_readsTask 3 = .ok (.iconst 0, 1) := by decide +kernel
theorem dX7_readsTask_4 : decode cX7_readsTask 4 = .ok (.iconst 0, 1) := by decide +kernel
theorem dX7_readsTask_5 : decode cX7_readsTask 5 = .ok (.aload_n 0, 1) := by decide +kernel
theorem dX7_readsTask_6 : decode cX7_readsTask 6 = .ok (.getfield 102, 3) := by decide +kernel
theorem dX7_readsTask_9 : decode cX7_readsTask 9 = .ok (.iconst 1, 1) := by decide +kernel
theorem dX7_readsTask_10 : decode cX7_readsTask 10 = .ok (.isub, 1) := by decide +kernel
theorem dX7_readsTask_11 : decode cX7_readsTask 11 = .ok (.invokevirtual 94, 3) := by decide +kernel
theorem dX7_readsTask_14 : decode cX7_readsTask 14 = .ok (.iconst 1, 1) := by decide +kernel
theorem dX7_readsTask_15 : decode cX7_readsTask 15 = .ok (.iconst 0, 1) := by decide +kernel
theorem dX7_readsTask_16 : decode cX7_readsTask 16 = .ok (.bipush 99, 2) := by decide +kernel
theorem dX7_readsTask_18 : decode cX7_readsTask 18 = .ok (.invokevirtual 105, 3) := by decide +kernel
theorem dX7_readsTask_21 : decode cX7_readsTask 21 = .ok (.iconst 2, 1) := by decide +kernel
theorem dX7_readsTask_22 : decode cX7_readsTask 22 = .ok (.iconst 0, 1) := by decide +kernel
theorem dX7_readsTask_23 : decode cX7_readsTask 23 = .ok (.bipush 99, 2) := by decide +kernel
theorem dX7_readsTask_25 : decode cX7_readsTask 25 = .ok (.invokevirtual 105, 3) := by decide +kernel
theorem dX7_readsTask_28 : decode cX7_readsTask 28 = .ok (.istore_n 1, 1) := by decide +kernel
theorem dX7_readsTask_29 : decode cX7_readsTask 29 = .ok (.aload_n 0, 1) := by decide +kernel
theorem dX7_readsTask_30 : decode cX7_readsTask 30 = .ok (.aload_n 0, 1) := by decide +kernel
theorem dX7_readsTask_31 : decode cX7_readsTask 31 = .ok (.iload_n 1, 1) := by decide +kernel
theorem dX7_readsTask_32 : decode cX7_readsTask 32 = .ok (.iconst 3, 1) := by decide +kernel
theorem dX7_readsTask_33 : decode cX7_readsTask 33 = .ok (.iconst 0, 1) := by decide +kernel
theorem dX7_readsTask_34 : decode cX7_readsTask 34 = .ok (.bipush 20, 2) := by decide +kernel
theorem dX7_readsTask_36 : decode cX7_readsTask 36 = .ok (.invokevirtual 105, 3) := by decide +kernel
theorem dX7_readsTask_39 : decode cX7_readsTask 39 = .ok (.invokevirtual 98, 3) := by decide +kernel
theorem dX7_readsTask_42 : decode cX7_readsTask 42 = .ok (.istore_n 1, 1) := by decide +kernel
theorem dX7_readsTask_43 : decode cX7_readsTask 43 = .ok (.iconst 0, 1) := by decide +kernel
theorem dX7_readsTask_44 : decode cX7_readsTask 44 = .ok (.istore_n 2, 1) := by decide +kernel
theorem dX7_readsTask_45 : decode cX7_readsTask 45 = .ok (.iload_n 2, 1) := by decide +kernel
theorem dX7_readsTask_46 : decode cX7_readsTask 46 = .ok (.iconst 4, 1) := by decide +kernel
theorem dX7_readsTask_47 : decode cX7_readsTask 47 = .ok (.if_icmp .ge 32, 3) := by decide +kernel
theorem dX7_readsTask_50 : decode cX7_readsTask 50 = .ok (.iload_n 1, 1) := by decide +kernel
theorem dX7_readsTask_51 : decode cX7_readsTask 51 = .ok (.ifCond .ne 28, 3) := by decide +kernel
theorem dX7_readsTask_54 : decode cX7_readsTask 54 = .ok (.aload_n 0, 1) := by decide +kernel
theorem dX7_readsTask_55 : decode cX7_readsTask 55 = .ok (.getfield 48, 3) := by decide +kernel
theorem dX7_readsTask_58 : decode cX7_readsTask 58 = .ok (.iconst 4, 1) := by decide +kernel
theorem dX7_readsTask_59 : decode cX7_readsTask 59 = .ok (.aload_n 0, 1) := by decide +kernel
theorem dX7_readsTask_60 : decode cX7_readsTask 60 = .ok (.getfield 119, 3) := by decide +kernel
theorem dX7_readsTask_63 : decode cX7_readsTask 63 = .ok (.imul, 1) := by decide +kernel
theorem dX7_readsTask_64 : decode cX7_readsTask 64 = .ok (.iload_n 2, 1) := by decide +kernel
theorem dX7_readsTask_65 : decode cX7_readsTask 65 = .ok (.iadd, 1) := by decide +kernel
theorem dX7_readsTask_66 : decode cX7_readsTask 66 = .ok (.aload_n 0, 1) := by decide +kernel
theorem dX7_readsTask_67 : decode cX7_readsTask 67 = .ok (.getfield 57, 3) := by decide +kernel
theorem dX7_readsTask_70 : decode cX7_readsTask 70 = .ok (.iload_n 2, 1) := by decide +kernel
theorem dX7_readsTask_71 : decode cX7_readsTask 71 = .ok (.iaload, 1) := by decide +kernel
theorem dX7_readsTask_72 : decode cX7_readsTask 72 = .ok (.iastore, 1) := by decide +kernel
theorem dX7_readsTask_73 : decode cX7_readsTask 73 = .ok (.iinc 2 1, 3) := by decide +kernel
theorem dX7_readsTask_76 : decode cX7_readsTask 76 = .ok (.goto (-31), 3) := by decide +kernel
theorem dX7_readsTask_79 : decode cX7_readsTask 79 = .ok (.aload_n 0, 1) := by decide +kernel
theorem dX7_readsTask_80 : decode cX7_readsTask 80 = .ok (.dup, 1) := by decide +kernel
theorem dX7_readsTask_81 : decode cX7_readsTask 81 = .ok (.getfield 119, 3) := by decide +kernel
theorem dX7_readsTask_84 : decode cX7_readsTask 84 = .ok (.iload_n 1, 1) := by decide +kernel
theorem dX7_readsTask_85 : decode cX7_readsTask 85 = .ok (.ifCond .ne 7, 3) := by decide +kernel
theorem dX7_readsTask_88 : decode cX7_readsTask 88 = .ok (.iconst 1, 1) := by decide +kernel
theorem dX7_readsTask_89 : decode cX7_readsTask 89 = .ok (.goto 4, 3) := by decide +kernel
theorem dX7_readsTask_92 : decode cX7_readsTask 92 = .ok (.iconst 0, 1) := by decide +kernel
theorem dX7_readsTask_93 : decode cX7_readsTask 93 = .ok (.iadd, 1) := by decide +kernel
theorem dX7_readsTask_94 : decode cX7_readsTask 94 = .ok (.putfield 119, 3) := by decide +kernel
theorem dX7_readsTask_97 : decode cX7_readsTask 97 = .ok (.iload_n 1, 1) := by decide +kernel
theorem dX7_readsTask_98 : decode cX7_readsTask 98 = .ok (.ireturn, 1) := by decide +kernel
theorem dX7_readsTrick_0 : decode cX7_readsTrick 0 = .ok (.aload_n 0, 1) := by decide +kernel
theorem dX7_readsTrick_1 : decode cX7_readsTrick 1 = .ok (.aload_n 0, 1) := by decide +kernel
theorem dX7_readsTrick_2 : decode cX7_readsTrick 2 = .ok (.aload_n 0, 1) := by decide +kernel
theorem dX7_readsTrick_3 : decode cX7_readsTrick 3 = .ok (.aload_n 0, 1) := by decide +kernel
theorem dX7_readsTrick_4 : decode cX7_readsTrick 4 = .ok (.iconst 0, 1) := by decide +kernel
theorem dX7_readsTrick_5 : decode cX7_readsTrick 5 = .ok (.iconst 0, 1) := by decide +kernel
theorem dX7_readsTrick_6 : decode cX7_readsTrick 6 = .ok (.aload_n 0, 1) := by decide +kernel
theorem dX7_readsTrick_7 : decode cX7_readsTrick 7 = .ok (.getfield 119, 3) := by decide +kernel
theorem dX7_readsTrick_10 : decode cX7_readsTrick 10 = .ok (.iconst 1, 1) := by decide +kernel
theorem dX7_readsTrick_11 : decode cX7_readsTrick 11 = .ok (.isub, 1) := by decide +kernel
theorem dX7_readsTrick_12 : decode cX7_readsTrick 12 = .ok (.invokevirtual 94, 3) := by decide +kernel
theorem dX7_readsTrick_15 : decode cX7_readsTrick 15 = .ok (.iconst 1, 1) := by decide +kernel
theorem dX7_readsTrick_16 : decode cX7_readsTrick 16 = .ok (.iconst 1, 1) := by decide +kernel
theorem dX7_readsTrick_17 : decode cX7_readsTrick 17 = .ok (.bipush 99, 2) := by decide +kernel
theorem dX7_readsTrick_19 : decode cX7_readsTrick 19 = .ok (.invokevirtual 105, 3) := by decide +kernel
theorem dX7_readsTrick_22 : decode cX7_readsTrick 22 = .ok (.iconst 2, 1) := by decide +kernel
theorem dX7_readsTrick_23 : decode cX7_readsTrick 23 = .ok (.iconst 0, 1) := by decide +kernel
theorem dX7_readsTrick_24 : decode cX7_readsTrick 24 = .ok (.bipush 99, 2) := by decide +kernel
theorem dX7_readsTrick_26 : decode cX7_readsTrick 26 = .ok (.invokevirtual 105, 3) := by decide +kernel
theorem dX7_readsTrick_29 : decode cX7_readsTrick 29 = .ok (.invokevirtual 98, 3) := by decide +kernel
theorem dX7_readsTrick_32 : decode cX7_readsTrick 32 = .ok (.istore_n 1, 1) := by decide +kernel
theorem dX7_readsTrick_33 : decode cX7_readsTrick 33 = .ok (.iconst 0, 1) := by decide +kernel
theorem dX7_readsTrick_34 : decode cX7_readsTrick 34 = .ok (.istore_n 2, 1) := by decide +kernel
theorem dX7_readsTrick_35 : decode cX7_readsTrick 35 = .ok (.iload_n 2, 1) := by decide +kernel
theorem dX7_readsTrick_36 : decode cX7_readsTrick 36 = .ok (.iconst 3, 1) := by decide +kernel
theorem dX7_readsTrick_37 : decode cX7_readsTrick 37 = .ok (.if_icmp .ge 32, 3) := by decide +kernel
theorem dX7_readsTrick_40 : decode cX7_readsTrick 40 = .ok (.iload_n 1, 1) := by decide +kernel
theorem dX7_readsTrick_41 : decode cX7_readsTrick 41 = .ok (.ifCond .ne 28, 3) := by decide +kernel
theorem dX7_readsTrick_44 : decode cX7_readsTrick 44 = .ok (.aload_n 0, 1) := by decide +kernel
theorem dX7_readsTrick_45 : decode cX7_readsTrick 45 = .ok (.getfield 51, 3) := by decide +kernel
theorem dX7_readsTrick_48 : decode cX7_readsTrick 48 = .ok (.iconst 3, 1) := by decide +kernel
theorem dX7_readsTrick_49 : decode cX7_readsTrick 49 = .ok (.aload_n 0, 1) := by decide +kernel
theorem dX7_readsTrick_50 : decode cX7_readsTrick 50 = .ok (.getfield 122, 3) := by decide +kernel
theorem dX7_readsTrick_53 : decode cX7_readsTrick 53 = .ok (.imul, 1) := by decide +kernel
theorem dX7_readsTrick_54 : decode cX7_readsTrick 54 = .ok (.iload_n 2, 1) := by decide +kernel
theorem dX7_readsTrick_55 : decode cX7_readsTrick 55 = .ok (.iadd, 1) := by decide +kernel
theorem dX7_readsTrick_56 : decode cX7_readsTrick 56 = .ok (.aload_n 0, 1) := by decide +kernel
theorem dX7_readsTrick_57 : decode cX7_readsTrick 57 = .ok (.getfield 57, 3) := by decide +kernel
theorem dX7_readsTrick_60 : decode cX7_readsTrick 60 = .ok (.iload_n 2, 1) := by decide +kernel
theorem dX7_readsTrick_61 : decode cX7_readsTrick 61 = .ok (.iaload, 1) := by decide +kernel
theorem dX7_readsTrick_62 : decode cX7_readsTrick 62 = .ok (.iastore, 1) := by decide +kernel
theorem dX7_readsTrick_63 : decode cX7_readsTrick 63 = .ok (.iinc 2 1, 3) := by decide +kernel
theorem dX7_readsTrick_66 : decode cX7_readsTrick 66 = .ok (.goto (-31), 3) := by decide +kernel
theorem dX7_readsTrick_69 : decode cX7_readsTrick 69 = .ok (.aload_n 0, 1) := by decide +kernel
theorem dX7_readsTrick_70 : decode cX7_readsTrick 70 = .ok (.dup, 1) := by decide +kernel
theorem dX7_readsTrick_71 : decode cX7_readsTrick 71 = .ok (.getfield 122, 3) := by decide +kernel
theorem dX7_readsTrick_74 : decode cX7_readsTrick 74 = .ok (.iload_n 1, 1) := by decide +kernel
theorem dX7_readsTrick_75 : decode cX7_readsTrick 75 = .ok (.ifCond .ne 7, 3) := by decide +kernel
theorem dX7_readsTrick_78 : decode cX7_readsTrick 78 = .ok (.iconst 1, 1) := by decide +kernel
theorem dX7_readsTrick_79 : decode cX7_readsTrick 79 = .ok (.goto 4, 3) := by decide +kernel
theorem dX7_readsTrick_82 : decode cX7_readsTrick 82 = .ok (.iconst 0, 1) := by decide +kernel
theorem dX7_readsTrick_83 : decode cX7_readsTrick 83 = .ok (.iadd, 1) := by decide +kernel
theorem dX7_readsTrick_84 : decode cX7_readsTrick 84 = .ok (.putfield 122, 3) := by decide +kernel
theorem dX7_readsTrick_87 : decode cX7_readsTrick 87 = .ok (.iload_n 1, 1) := by decide +kernel
theorem dX7_readsTrick_88 : decode cX7_readsTrick 88 = .ok (.ireturn, 1) := by decide +kernel
theorem dX7_readsThought_0 : decode cX7_readsThought 0 = .ok (.aload_n 0, 1) := by decide +kernel
theorem dX7_readsThought_1 : decode cX7_readsThought 1 = .ok (.aload_n 0, 1) := by decide +kernel
theorem dX7_readsThought_2 : decode cX7_readsThought 2 = .ok (.iconst 0, 1) := by decide +kernel
theorem dX7_readsThought_3 : decode cX7_readsThought 3 = .ok (.iconst 0, 1) := by decide +kernel
theorem dX7_readsThought_4 : decode cX7_readsThought 4 = .ok (.aload_n 0, 1) := by decide +kernel
theorem dX7_readsThought_5 : decode cX7_readsThought 5 = .ok (.getfield 102, 3) := by decide +kernel
theorem dX7_readsThought_8 : decode cX7_readsThought 8 = .ok (.iconst 1, 1) := by decide +kernel
theorem dX7_readsThought_9 : decode cX7_readsThought 9 = .ok (.isub, 1) := by decide +kernel
theorem dX7_readsThought_10 : decode cX7_readsThought 10 = .ok (.invokevirtual 94, 3) := by decide +kernel
theorem dX7_readsThought_13 : decode cX7_readsThought 13 = .ok (.iconst 1, 1) := by decide +kernel
theorem dX7_readsThought_14 : decode cX7_readsThought 14 = .ok (.iconst 0, 1) := by decide +kernel
theorem dX7_readsThought_15 : decode cX7_readsThought 15 = .ok (.aload_n 0, 1) := by decide +kernel
theorem dX7_readsThought_16 : decode cX7_readsThought 16 = .ok (.getfield 109, 3) := by decide +kernel
theorem dX7_readsThought_19 : decode cX7_readsThought 19 = .ok (.iconst 1, 1) := by decide +kernel
theorem dX7_readsThought_20 : decode cX7_readsThought 20 = .ok (.isub, 1) := by decide +kernel
theorem dX7_readsThought_21 : decode cX7_readsThought 21 = .ok (.invokevirtual 105, 3) := by decide +kernel
theorem dX7_readsThought_24 : decode cX7_readsThought 24 = .ok (.istore_n 1, 1) := by decide +kernel
theorem dX7_readsThought_25 : decode cX7_readsThought 25 = .ok (.iload_n 1, 1) := by decide +kernel
theorem dX7_readsThought_26 : decode cX7_readsThought 26 = .ok (.ifCond .ne 29, 3) := by decide +kernel
theorem dX7_readsThought_29 : decode cX7_readsThought 29 = .ok (.aload_n 0, 1) := by decide +kernel
theorem dX7_readsThought_30 : decode cX7_readsThought 30 = .ok (.getfield 54, 3) := by decide +kernel
theorem dX7_readsThought_33 : decode cX7_readsThought 33 = .ok (.iconst 5, 1) := by decide +kernel
theorem dX7_readsThought_34 : decode cX7_readsThought 34 = .ok (.aload_n 0, 1) := by decide +kernel
theorem dX7_readsThought_35 : decode cX7_readsThought 35 = .ok (.getfield 57, 3) := by decide +kernel
theorem dX7_readsThought_38 : decode cX7_readsThought 38 = .ok (.iconst 0, 1) := by decide +kernel
theorem dX7_readsThought_39 : decode cX7_readsThought 39 = .ok (.iaload, 1) := by decide +kernel
theorem dX7_readsThought_40 : decode cX7_readsThought 40 = .ok (.imul, 1) := by decide +kernel
theorem dX7_readsThought_41 : decode cX7_readsThought 41 = .ok (.aload_n 0, 1) := by decide +kernel
theorem dX7_readsThought_42 : decode cX7_readsThought 42 = .ok (.getfield 57, 3) := by decide +kernel
theorem dX7_readsThought_45 : decode cX7_readsThought 45 = .ok (.iconst 1, 1) := by decide +kernel
theorem dX7_readsThought_46 : decode cX7_readsThought 46 = .ok (.iaload, 1) := by decide +kernel
theorem dX7_readsThought_47 : decode cX7_readsThought 47 = .ok (.iadd, 1) := by decide +kernel
theorem dX7_readsThought_48 : decode cX7_readsThought 48 = .ok (.iaload, 1) := by decide +kernel
theorem dX7_readsThought_49 : decode cX7_readsThought 49 = .ok (.iconst (-1), 1) := by decide +kernel
theorem dX7_readsThought_50 : decode cX7_readsThought 50 = .ok (.if_icmp .eq 5, 3) := by decide +kernel
theorem dX7_readsThought_53 : decode cX7_readsThought 53 = .ok (.iconst 4, 1) := by decide +kernel
theorem dX7_readsThought_54 : decode cX7_readsThought 54 = .ok (.ireturn, 1) := by decide +kernel
theorem dX7_readsThought_55 : decode cX7_readsThought 55 = .ok (.aload_n 0, 1) := by decide +kernel
theorem dX7_readsThought_56 : decode cX7_readsThought 56 = .ok (.aload_n 0, 1) := by decide +kernel
theorem dX7_readsThought_57 : decode cX7_readsThought 57 = .ok (.iload_n 1, 1) := by decide +kernel
theorem dX7_readsThought_58 : decode cX7_readsThought 58 = .ok (.iconst 2, 1) := by decide +kernel
theorem dX7_readsThought_59 : decode cX7_readsThought 59 = .ok (.iconst 0, 1) := by decide +kernel
theorem dX7_readsThought_60 : decode cX7_readsThought 60 = .ok (.bipush 99, 2) := by decide +kernel
theorem dX7_readsThought_62 : decode cX7_readsThought 62 = .ok (.invokevirtual 105, 3) := by decide +kernel
theorem dX7_readsThought_65 : decode cX7_readsThought 65 = .ok (.invokevirtual 98, 3) := by decide +kernel
theorem dX7_readsThought_68 : decode cX7_readsThought 68 = .ok (.istore_n 1, 1) := by decide +kernel
theorem dX7_readsThought_69 : decode cX7_readsThought 69 = .ok (.iload_n 1, 1) := by decide +kernel
theorem dX7_readsThought_70 : decode cX7_readsThought 70 = .ok (.ifCond .ne 29, 3) := by decide +kernel
theorem dX7_readsThought_73 : decode cX7_readsThought 73 = .ok (.aload_n 0, 1) := by decide +kernel
theorem dX7_readsThought_74 : decode cX7_readsThought 74 = .ok (.getfield 54, 3) := by decide +kernel
theorem dX7_readsThought_77 : decode cX7_readsThought 77 = .ok (.iconst 5, 1) := by decide +kernel
theorem dX7_readsThought_78 : decode cX7_readsThought 78 = .ok (.aload_n 0, 1) := by decide +kernel
theorem dX7_readsThought_79 : decode cX7_readsThought 79 = .ok (.getfield 57, 3) := by decide +kernel
theorem dX7_readsThought_82 : decode cX7_readsThought 82 = .ok (.iconst 0, 1) := by decide +kernel
theorem dX7_readsThought_83 : decode cX7_readsThought 83 = .ok (.iaload, 1) := by decide +kernel
theorem dX7_readsThought_84 : decode cX7_readsThought 84 = .ok (.imul, 1) := by decide +kernel
theorem dX7_readsThought_85 : decode cX7_readsThought 85 = .ok (.aload_n 0, 1) := by decide +kernel
theorem dX7_readsThought_86 : decode cX7_readsThought 86 = .ok (.getfield 57, 3) := by decide +kernel
theorem dX7_readsThought_89 : decode cX7_readsThought 89 = .ok (.iconst 1, 1) := by decide +kernel
theorem dX7_readsThought_90 : decode cX7_readsThought 90 = .ok (.iaload, 1) := by decide +kernel
theorem dX7_readsThought_91 : decode cX7_readsThought 91 = .ok (.iadd, 1) := by decide +kernel
theorem dX7_readsThought_92 : decode cX7_readsThought 92 = .ok (.aload_n 0, 1) := by decide +kernel
theorem dX7_readsThought_93 : decode cX7_readsThought 93 = .ok (.getfield 57, 3) := by decide +kernel
theorem dX7_readsThought_96 : decode cX7_readsThought 96 = .ok (.iconst 2, 1) := by decide +kernel
theorem dX7_readsThought_97 : decode cX7_readsThought 97 = .ok (.iaload, 1) := by decide +kernel
theorem dX7_readsThought_98 : decode cX7_readsThought 98 = .ok (.iastore, 1) := by decide +kernel
theorem dX7_readsThought_99 : decode cX7_readsThought 99 = .ok (.iload_n 1, 1) := by decide +kernel
theorem dX7_readsThought_100 : decode cX7_readsThought 100 = .ok (.ireturn, 1) := by decide +kernel
theorem dX7_clause_0 : decode cX7_clause 0 = .ok (.aload_n 0, 1) := by decide +kernel
theorem dX7_clause_1 : decode cX7_clause 1 = .ok (.getfield 17, 3) := by decide +kernel
theorem dX7_clause_4 : decode cX7_clause 4 = .ok (.aload_n 0, 1) := by decide +kernel
theorem dX7_clause_5 : decode cX7_clause 5 = .ok (.getfield 81, 3) := by decide +kernel
theorem dX7_clause_8 : decode cX7_clause 8 = .ok (.iaload, 1) := by decide +kernel
theorem dX7_clause_9 : decode cX7_clause 9 = .ok (.istore_n 1, 1) := by decide +kernel
theorem dX7_clause_10 : decode cX7_clause 10 = .ok (.aload_n 0, 1) := by decide +kernel
theorem dX7_clause_11 : decode cX7_clause 11 = .ok (.aload_n 0, 1) := by decide +kernel
theorem dX7_clause_12 : decode cX7_clause 12 = .ok (.getfield 81, 3) := by decide +kernel
theorem dX7_clause_15 : decode cX7_clause 15 = .ok (.putfield 84, 3) := by decide +kernel
theorem dX7_clause_18 : decode cX7_clause 18 = .ok (.aload_n 0, 1) := by decide +kernel
theorem dX7_clause_19 : decode cX7_clause 19 = .ok (.getfield 102, 3) := by decide +kernel
theorem dX7_clause_22 : decode cX7_clause 22 = .ok (.ifCond .ne 7, 3) := by decide +kernel
theorem dX7_clause_25 : decode cX7_clause 25 = .ok (.iconst 1, 1) := by decide +kernel
theorem dX7_clause_26 : decode cX7_clause 26 = .ok (.goto 4, 3) := by decide +kernel
theorem dX7_clause_29 : decode cX7_clause 29 = .ok (.iconst 0, 1) := by decide +kernel
theorem dX7_clause_30 : decode cX7_clause 30 = .ok (.istore_n 2, 1) := by decide +kernel
theorem dX7_clause_31 : decode cX7_clause 31 = .ok (.iload_n 1, 1) := by decide +kernel
theorem dX7_clause_32 : decode cX7_clause 32 = .ok (.bipush 112, 2) := by decide +kernel
theorem dX7_clause_34 : decode cX7_clause 34 = .ok (.if_icmp .eq 33, 3) := by decide +kernel
theorem dX7_clause_37 : decode cX7_clause 37 = .ok (.iload_n 1, 1) := by decide +kernel
theorem dX7_clause_38 : decode cX7_clause 38 = .ok (.bipush 102, 2) := by decide +kernel
theorem dX7_clause_40 : decode cX7_clause 40 = .ok (.if_icmp .eq 27, 3) := by decide +kernel
theorem dX7_clause_43 : decode cX7_clause 43 = .ok (.iload_n 1, 1) := by decide +kernel
theorem dX7_clause_44 : decode cX7_clause 44 = .ok (.bipush 99, 2) := by decide +kernel
theorem dX7_clause_46 : decode cX7_clause 46 = .ok (.if_icmp .eq 21, 3) := by decide +kernel
theorem dX7_clause_49 : decode cX7_clause 49 = .ok (.iload_n 1, 1) := by decide +kernel
theorem dX7_clause_50 : decode cX7_clause 50 = .ok (.bipush 116, 2) := by decide +kernel
theorem dX7_clause_52 : decode cX7_clause 52 = .ok (.if_icmp .eq 15, 3) := by decide +kernel
theorem dX7_clause_55 : decode cX7_clause 55 = .ok (.iload_n 1, 1) := by decide +kernel
theorem dX7_clause_56 : decode cX7_clause 56 = .ok (.bipush 114, 2) := by decide +kernel
theorem dX7_clause_58 : decode cX7_clause 58 = .ok (.if_icmp .eq 9, 3) := by decide +kernel
theorem dX7_clause_61 : decode cX7_clause 61 = .ok (.iload_n 1, 1) := by decide +kernel
theorem dX7_clause_62 : decode cX7_clause 62 = .ok (.bipush 101, 2) := by decide +kernel
theorem dX7_clause_64 : decode cX7_clause 64 = .ok (.if_icmp .ne 7, 3) := by decide +kernel
theorem dX7_clause_67 : decode cX7_clause 67 = .ok (.iconst 1, 1) := by decide +kernel
theorem dX7_clause_68 : decode cX7_clause 68 = .ok (.goto 4, 3) := by decide +kernel
theorem dX7_clause_71 : decode cX7_clause 71 = .ok (.iconst 0, 1) := by decide +kernel
theorem dX7_clause_72 : decode cX7_clause 72 = .ok (.istore_n 3, 1) := by decide +kernel
theorem dX7_clause_73 : decode cX7_clause 73 = .ok (.iload_n 3, 1) := by decide +kernel
theorem dX7_clause_74 : decode cX7_clause 74 = .ok (.ifCond .eq 18, 3) := by decide +kernel
theorem dX7_clause_77 : decode cX7_clause 77 = .ok (.iload_n 2, 1) := by decide +kernel
theorem dX7_clause_78 : decode cX7_clause 78 = .ok (.iload_n 1, 1) := by decide +kernel
theorem dX7_clause_79 : decode cX7_clause 79 = .ok (.bipush 112, 2) := by decide +kernel
theorem dX7_clause_81 : decode cX7_clause 81 = .ok (.if_icmp .ne 7, 3) := by decide +kernel
theorem dX7_clause_84 : decode cX7_clause 84 = .ok (.iconst 1, 1) := by decide +kernel
theorem dX7_clause_85 : decode cX7_clause 85 = .ok (.goto 4, 3) := by decide +kernel
theorem dX7_clause_88 : decode cX7_clause 88 = .ok (.iconst 0, 1) := by decide +kernel
theorem dX7_clause_89 : decode cX7_clause 89 = .ok (.if_icmp .eq 17, 3) := by decide +kernel
theorem dX7_clause_92 : decode cX7_clause 92 = .ok (.iload_n 3, 1) := by decide +kernel
theorem dX7_clause_93 : decode cX7_clause 93 = .ok (.ifCond .eq 11, 3) := by decide +kernel
theorem dX7_clause_96 : decode cX7_clause 96 = .ok (.iload_n 2, 1) := by decide +kernel
theorem dX7_clause_97 : decode cX7_clause 97 = .ok (.ifCond .ne 7, 3) := by decide +kernel
theorem dX7_clause_100 : decode cX7_clause 100 = .ok (.iconst 3, 1) := by decide +kernel
theorem dX7_clause_101 : decode cX7_clause 101 = .ok (.goto 4, 3) := by decide +kernel
theorem dX7_clause_104 : decode cX7_clause 104 = .ok (.iconst 1, 1) := by decide +kernel
theorem dX7_clause_105 : decode cX7_clause 105 = .ok (.ireturn, 1) := by decide +kernel
theorem dX7_clause_106 : decode cX7_clause 106 = .ok (.iload_n 1, 1) := by decide +kernel
theorem dX7_clause_107 : decode cX7_clause 107 = .ok (.bipush 102, 2) := by decide +kernel
theorem dX7_clause_109 : decode cX7_clause 109 = .ok (.if_icmp .ne 11, 3) := by decide +kernel
theorem dX7_clause_112 : decode cX7_clause 112 = .ok (.aload_n 0, 1) := by decide +kernel
theorem dX7_clause_113 : decode cX7_clause 113 = .ok (.getfield 109, 3) := by decide +kernel
theorem dX7_clause_116 : decode cX7_clause 116 = .ok (.iconst 5, 1) := by decide +kernel
theorem dX7_clause_117 : decode cX7_clause 117 = .ok (.if_icmp .eq 47, 3) := by decide +kernel
theorem dX7_clause_120 : decode cX7_clause 120 = .ok (.iload_n 1, 1) := by decide +kernel
theorem dX7_clause_121 : decode cX7_clause 121 = .ok (.bipush 99, 2) := by decide +kernel
theorem dX7_clause_123 : decode cX7_clause 123 = .ok (.if_icmp .ne 12, 3) := by decide +kernel
theorem dX7_clause_126 : decode cX7_clause 126 = .ok (.aload_n 0, 1) := by decide +kernel
theorem dX7_clause_127 : decode cX7_clause 127 = .ok (.getfield 116, 3) := by decide +kernel
theorem dX7_clause_130 : decode cX7_clause 130 = .ok (.bipush 10, 2) := by decide +kernel
theorem dX7_clause_132 : decode cX7_clause 132 = .ok (.if_icmp .eq 32, 3) := by decide +kernel
theorem dX7_clause_135 : decode cX7_clause 135 = .ok (.iload_n 1, 1) := by decide +kernel
theorem dX7_clause_136 : decode cX7_clause 136 = .ok (.bipush 116, 2) := by decide +kernel
theorem dX7_clause_138 : decode cX7_clause 138 = .ok (.if_icmp .ne 12, 3) := by decide +kernel
theorem dX7_clause_141 : decode cX7_clause 141 = .ok (.aload_n 0, 1) := by decide +kernel
theorem dX7_clause_142 : decode cX7_clause 142 = .ok (.getfield 119, 3) := by decide +kernel
theorem dX7_clause_145 : decode cX7_clause 145 = .ok (.bipush 6, 2) := by decide +kernel
theorem dX7_clause_147 : decode cX7_clause 147 = .ok (.if_icmp .eq 17, 3) := by decide +kernel
theorem dX7_clause_150 : decode cX7_clause 150 = .ok (.iload_n 1, 1) := by decide +kernel
theorem dX7_clause_151 : decode cX7_clause 151 = .ok (.bipush 114, 2) := by decide +kernel
theorem dX7_clause_153 : decode cX7_clause 153 = .ok (.if_icmp .ne 13, 3) := by decide +kernel
theorem dX7_clause_156 : decode cX7_clause 156 = .ok (.aload_n 0, 1) := by decide +kernel
theorem dX7_clause_157 : decode cX7_clause 157 = .ok (.getfield 122, 3) := by decide +kernel
theorem dX7_clause_160 : decode cX7_clause 160 = .ok (.iconst 4, 1) := by decide +kernel
theorem dX7_clause_161 : decode cX7_clause 161 = .ok (.if_icmp .ne 5, 3) := by decide +kernel
theorem dX7_clause_164 : decode cX7_clause 164 = .ok (.iconst 3, 1) := by decide +kernel
theorem dX7_clause_165 : decode cX7_clause 165 = .ok (.ireturn, 1) := by decide +kernel
theorem dX7_clause_166 : decode cX7_clause 166 = .ok (.aload_n 0, 1) := by decide +kernel
theorem dX7_clause_167 : decode cX7_clause 167 = .ok (.dup, 1) := by decide +kernel
theorem dX7_clause_168 : decode cX7_clause 168 = .ok (.getfield 81, 3) := by decide +kernel
theorem dX7_clause_171 : decode cX7_clause 171 = .ok (.iconst 1, 1) := by decide +kernel
theorem dX7_clause_172 : decode cX7_clause 172 = .ok (.iadd, 1) := by decide +kernel
theorem dX7_clause_173 : decode cX7_clause 173 = .ok (.putfield 81, 3) := by decide +kernel
theorem dX7_clause_176 : decode cX7_clause 176 = .ok (.iload_n 1, 1) := by decide +kernel
theorem dX7_clause_177 : decode cX7_clause 177 = .ok (.lookupswitch 76 #[(99, 61), (102, 56), (112, 51), (114, 71), (116, 66)], 51) := by decide +kernel
theorem dX7_clause_228 : decode cX7_clause 228 = .ok (.aload_n 0, 1) := by decide +kernel
theorem dX7_clause_229 : decode cX7_clause 229 = .ok (.invokevirtual 125, 3) := by decide +kernel
theorem dX7_clause_232 : decode cX7_clause 232 = .ok (.ireturn, 1) := by decide +kernel
theorem dX7_clause_233 : decode cX7_clause 233 = .ok (.aload_n 0, 1) := by decide +kernel
theorem dX7_clause_234 : decode cX7_clause 234 = .ok (.invokevirtual 129, 3) := by decide +kernel
theorem dX7_clause_237 : decode cX7_clause 237 = .ok (.ireturn, 1) := by decide +kernel
theorem dX7_clause_238 : decode cX7_clause 238 = .ok (.aload_n 0, 1) := by decide +kernel
theorem dX7_clause_239 : decode cX7_clause 239 = .ok (.invokevirtual 132, 3) := by decide +kernel
theorem dX7_clause_242 : decode cX7_clause 242 = .ok (.ireturn, 1) := by decide +kernel
theorem dX7_clause_243 : decode cX7_clause 243 = .ok (.aload_n 0, 1) := by decide +kernel
theorem dX7_clause_244 : decode cX7_clause 244 = .ok (.invokevirtual 135, 3) := by decide +kernel
theorem dX7_clause_247 : decode cX7_clause 247 = .ok (.ireturn, 1) := by decide +kernel
theorem dX7_clause_248 : decode cX7_clause 248 = .ok (.aload_n 0, 1) := by decide +kernel
theorem dX7_clause_249 : decode cX7_clause 249 = .ok (.invokevirtual 138, 3) := by decide +kernel
theorem dX7_clause_252 : decode cX7_clause 252 = .ok (.ireturn, 1) := by decide +kernel
theorem dX7_clause_253 : decode cX7_clause 253 = .ok (.aload_n 0, 1) := by decide +kernel
theorem dX7_clause_254 : decode cX7_clause 254 = .ok (.invokevirtual 141, 3) := by decide +kernel
theorem dX7_clause_257 : decode cX7_clause 257 = .ok (.ireturn, 1) := by decide +kernel
theorem dX7_faultOf_0 : decode cX7_faultOf 0 = .ok (.aload_n 0, 1) := by decide +kernel
theorem dX7_faultOf_1 : decode cX7_faultOf 1 = .ok (.iconst 0, 1) := by decide +kernel
theorem dX7_faultOf_2 : decode cX7_faultOf 2 = .ok (.putfield 81, 3) := by decide +kernel
theorem dX7_faultOf_5 : decode cX7_faultOf 5 = .ok (.aload_n 0, 1) := by decide +kernel
theorem dX7_faultOf_6 : decode cX7_faultOf 6 = .ok (.iconst 0, 1) := by decide +kernel
theorem dX7_faultOf_7 : decode cX7_faultOf 7 = .ok (.putfield 102, 3) := by decide +kernel
theorem dX7_faultOf_10 : decode cX7_faultOf 10 = .ok (.aload_n 0, 1) := by decide +kernel
theorem dX7_faultOf_11 : decode cX7_faultOf 11 = .ok (.iconst 0, 1) := by decide +kernel
theorem dX7_faultOf_12 : decode cX7_faultOf 12 = .ok (.putfield 109, 3) := by decide +kernel
theorem dX7_faultOf_15 : decode cX7_faultOf 15 = .ok (.aload_n 0, 1) := by decide +kernel
theorem dX7_faultOf_16 : decode cX7_faultOf 16 = .ok (.iconst 0, 1) := by decide +kernel
theorem dX7_faultOf_17 : decode cX7_faultOf 17 = .ok (.putfield 116, 3) := by decide +kernel
theorem dX7_faultOf_20 : decode cX7_faultOf 20 = .ok (.aload_n 0, 1) := by decide +kernel
theorem dX7_faultOf_21 : decode cX7_faultOf 21 = .ok (.iconst 0, 1) := by decide +kernel
theorem dX7_faultOf_22 : decode cX7_faultOf 22 = .ok (.putfield 119, 3) := by decide +kernel
theorem dX7_faultOf_25 : decode cX7_faultOf 25 = .ok (.aload_n 0, 1) := by decide +kernel
theorem dX7_faultOf_26 : decode cX7_faultOf 26 = .ok (.iconst 0, 1) := by decide +kernel
theorem dX7_faultOf_27 : decode cX7_faultOf 27 = .ok (.putfield 122, 3) := by decide +kernel
theorem dX7_faultOf_30 : decode cX7_faultOf 30 = .ok (.iconst 0, 1) := by decide +kernel
theorem dX7_faultOf_31 : decode cX7_faultOf 31 = .ok (.istore_n 1, 1) := by decide +kernel
theorem dX7_faultOf_32 : decode cX7_faultOf 32 = .ok (.iload_n 1, 1) := by decide +kernel
theorem dX7_faultOf_33 : decode cX7_faultOf 33 = .ok (.bipush 6, 2) := by decide +kernel
theorem dX7_faultOf_35 : decode cX7_faultOf 35 = .ok (.if_icmp .ge 16, 3) := by decide +kernel
theorem dX7_faultOf_38 : decode cX7_faultOf 38 = .ok (.aload_n 0, 1) := by decide +kernel
theorem dX7_faultOf_39 : decode cX7_faultOf 39 = .ok (.getfield 45, 3) := by decide +kernel
theorem dX7_faultOf_42 : decode cX7_faultOf 42 = .ok (.iload_n 1, 1) := by decide +kernel
theorem dX7_faultOf_43 : decode cX7_faultOf 43 = .ok (.iconst 0, 1) := by decide +kernel
theorem dX7_faultOf_44 : decode cX7_faultOf 44 = .ok (.iastore, 1) := by decide +kernel
theorem dX7_faultOf_45 : decode cX7_faultOf 45 = .ok (.iinc 1 1, 3) := by decide +kernel
theorem dX7_faultOf_48 : decode cX7_faultOf 48 = .ok (.goto (-16), 3) := by decide +kernel
theorem dX7_faultOf_51 : decode cX7_faultOf 51 = .ok (.iconst 0, 1) := by decide +kernel
theorem dX7_faultOf_52 : decode cX7_faultOf 52 = .ok (.istore_n 1, 1) := by decide +kernel
theorem dX7_faultOf_53 : decode cX7_faultOf 53 = .ok (.iload_n 1, 1) := by decide +kernel
theorem dX7_faultOf_54 : decode cX7_faultOf 54 = .ok (.bipush 30, 2) := by decide +kernel
theorem dX7_faultOf_56 : decode cX7_faultOf 56 = .ok (.if_icmp .ge 16, 3) := by decide +kernel
theorem dX7_faultOf_59 : decode cX7_faultOf 59 = .ok (.aload_n 0, 1) := by decide +kernel
theorem dX7_faultOf_60 : decode cX7_faultOf 60 = .ok (.getfield 54, 3) := by decide +kernel
theorem dX7_faultOf_63 : decode cX7_faultOf 63 = .ok (.iload_n 1, 1) := by decide +kernel
theorem dX7_faultOf_64 : decode cX7_faultOf 64 = .ok (.iconst (-1), 1) := by decide +kernel
theorem dX7_faultOf_65 : decode cX7_faultOf 65 = .ok (.iastore, 1) := by decide +kernel
theorem dX7_faultOf_66 : decode cX7_faultOf 66 = .ok (.iinc 1 1, 3) := by decide +kernel
theorem dX7_faultOf_69 : decode cX7_faultOf 69 = .ok (.goto (-16), 3) := by decide +kernel
theorem dX7_faultOf_72 : decode cX7_faultOf 72 = .ok (.aload_n 0, 1) := by decide +kernel
theorem dX7_faultOf_73 : decode cX7_faultOf 73 = .ok (.invokevirtual 87, 3) := by decide +kernel
theorem dX7_faultOf_76 : decode cX7_faultOf 76 = .ok (.iconst 0, 1) := by decide +kernel
theorem dX7_faultOf_77 : decode cX7_faultOf 77 = .ok (.istore_n 1, 1) := by decide +kernel
theorem dX7_faultOf_78 : decode cX7_faultOf 78 = .ok (.iload_n 1, 1) := by decide +kernel
theorem dX7_faultOf_79 : decode cX7_faultOf 79 = .ok (.ifCond .ne 30, 3) := by decide +kernel
theorem dX7_faultOf_82 : decode cX7_faultOf 82 = .ok (.aload_n 0, 1) := by decide +kernel
theorem dX7_faultOf_83 : decode cX7_faultOf 83 = .ok (.getfield 81, 3) := by decide +kernel
theorem dX7_faultOf_86 : decode cX7_faultOf 86 = .ok (.aload_n 0, 1) := by decide +kernel
theorem dX7_faultOf_87 : decode cX7_faultOf 87 = .ok (.getfield 73, 3) := by decide +kernel
theorem dX7_faultOf_90 : decode cX7_faultOf 90 = .ok (.if_icmp .ge 19, 3) := by decide +kernel
theorem dX7_faultOf_93 : decode cX7_faultOf 93 = .ok (.aload_n 0, 1) := by decide +kernel
theorem dX7_faultOf_94 : decode cX7_faultOf 94 = .ok (.invokevirtual 144, 3) := by decide +kernel
theorem dX7_faultOf_97 : decode cX7_faultOf 97 = .ok (.istore_n 1, 1) := by decide +kernel
theorem dX7_faultOf_98 : decode cX7_faultOf 98 = .ok (.iload_n 1, 1) := by decide +kernel
theorem dX7_faultOf_99 : decode cX7_faultOf 99 = .ok (.ifCond .ne (-21), 3) := by decide +kernel
theorem dX7_faultOf_102 : decode cX7_faultOf 102 = .ok (.aload_n 0, 1) := by decide +kernel
theorem dX7_faultOf_103 : decode cX7_faultOf 103 = .ok (.invokevirtual 87, 3) := by decide +kernel
theorem dX7_faultOf_106 : decode cX7_faultOf 106 = .ok (.goto (-28), 3) := by decide +kernel
theorem dX7_faultOf_109 : decode cX7_faultOf 109 = .ok (.iload_n 1, 1) := by decide +kernel
theorem dX7_faultOf_110 : decode cX7_faultOf 110 = .ok (.ireturn, 1) := by decide +kernel
theorem dX7_land_0 : decode cX7_land 0 = .ok (.aload_n 0, 1) := by decide +kernel
theorem dX7_land_1 : decode cX7_land 1 = .ok (.invokevirtual 147, 3) := by decide +kernel
theorem dX7_land_4 : decode cX7_land 4 = .ok (.istore_n 1, 1) := by decide +kernel
theorem dX7_land_5 : decode cX7_land 5 = .ok (.aload_n 0, 1) := by decide +kernel
theorem dX7_land_6 : decode cX7_land 6 = .ok (.iconst 0, 1) := by decide +kernel
theorem dX7_land_7 : decode cX7_land 7 = .ok (.putfield 73, 3) := by decide +kernel
theorem dX7_land_10 : decode cX7_land 10 = .ok (.aload_n 0, 1) := by decide +kernel
theorem dX7_land_11 : decode cX7_land 11 = .ok (.iload_n 1, 1) := by decide +kernel
theorem dX7_land_12 : decode cX7_land 12 = .ok (.ifCond .ne 7, 3) := by decide +kernel
theorem dX7_land_15 : decode cX7_land 15 = .ok (.iconst (-1), 1) := by decide +kernel
theorem dX7_land_16 : decode cX7_land 16 = .ok (.goto 7, 3) := by decide +kernel
theorem dX7_land_19 : decode cX7_land 19 = .ok (.aload_n 0, 1) := by decide +kernel
theorem dX7_land_20 : decode cX7_land 20 = .ok (.getfield 84, 3) := by decide +kernel
theorem dX7_land_23 : decode cX7_land 23 = .ok (.putfield 20, 3) := by decide +kernel
theorem dX7_land_26 : decode cX7_land 26 = .ok (.iload_n 1, 1) := by decide +kernel
theorem dX7_land_27 : decode cX7_land 27 = .ok (.ifCond .eq 8, 3) := by decide +kernel
theorem dX7_land_30 : decode cX7_land 30 = .ok (.bipush (-10), 2) := by decide +kernel
theorem dX7_land_32 : decode cX7_land 32 = .ok (.iload_n 1, 1) := by decide +kernel
theorem dX7_land_33 : decode cX7_land 33 = .ok (.isub, 1) := by decide +kernel
theorem dX7_land_34 : decode cX7_land 34 = .ok (.ireturn, 1) := by decide +kernel
theorem dX7_land_35 : decode cX7_land 35 = .ok (.aload_n 0, 1) := by decide +kernel
theorem dX7_land_36 : decode cX7_land 36 = .ok (.aload_n 0, 1) := by decide +kernel
theorem dX7_land_37 : decode cX7_land 37 = .ok (.getfield 102, 3) := by decide +kernel
theorem dX7_land_40 : decode cX7_land 40 = .ok (.putfield 150, 3) := by decide +kernel
theorem dX7_land_43 : decode cX7_land 43 = .ok (.aload_n 0, 1) := by decide +kernel
theorem dX7_land_44 : decode cX7_land 44 = .ok (.aload_n 0, 1) := by decide +kernel
theorem dX7_land_45 : decode cX7_land 45 = .ok (.getfield 109, 3) := by decide +kernel
theorem dX7_land_48 : decode cX7_land 48 = .ok (.putfield 153, 3) := by decide +kernel
theorem dX7_land_51 : decode cX7_land 51 = .ok (.aload_n 0, 1) := by decide +kernel
theorem dX7_land_52 : decode cX7_land 52 = .ok (.aload_n 0, 1) := by decide +kernel
theorem dX7_land_53 : decode cX7_land 53 = .ok (.getfield 116, 3) := by decide +kernel
theorem dX7_land_56 : decode cX7_land 56 = .ok (.putfield 156, 3) := by decide +kernel
theorem dX7_land_59 : decode cX7_land 59 = .ok (.aload_n 0, 1) := by decide +kernel
theorem dX7_land_60 : decode cX7_land 60 = .ok (.aload_n 0, 1) := by decide +kernel
theorem dX7_land_61 : decode cX7_land 61 = .ok (.getfield 119, 3) := by decide +kernel
theorem dX7_land_64 : decode cX7_land 64 = .ok (.putfield 159, 3) := by decide +kernel
theorem dX7_land_67 : decode cX7_land 67 = .ok (.aload_n 0, 1) := by decide +kernel
theorem dX7_land_68 : decode cX7_land 68 = .ok (.aload_n 0, 1) := by decide +kernel
theorem dX7_land_69 : decode cX7_land 69 = .ok (.getfield 122, 3) := by decide +kernel
theorem dX7_land_72 : decode cX7_land 72 = .ok (.putfield 162, 3) := by decide +kernel
theorem dX7_land_75 : decode cX7_land 75 = .ok (.iconst 0, 1) := by decide +kernel
theorem dX7_land_76 : decode cX7_land 76 = .ok (.istore_n 2, 1) := by decide +kernel
theorem dX7_land_77 : decode cX7_land 77 = .ok (.iload_n 2, 1) := by decide +kernel
theorem dX7_land_78 : decode cX7_land 78 = .ok (.bipush 24, 2) := by decide +kernel
theorem dX7_land_80 : decode cX7_land 80 = .ok (.if_icmp .ge 21, 3) := by decide +kernel
theorem dX7_land_83 : decode cX7_land 83 = .ok (.aload_n 0, 1) := by decide +kernel
theorem dX7_land_84 : decode cX7_land 84 = .ok (.getfield 33, 3) := by decide +kernel
theorem dX7_land_87 : decode cX7_land 87 = .ok (.iload_n 2, 1) := by decide +kernel
theorem dX7_land_88 : decode cX7_land 88 = .ok (.aload_n 0, 1) := by decide +kernel
theorem dX7_land_89 : decode cX7_land 89 = .ok (.getfield 48, 3) := by decide +kernel
theorem dX7_land_92 : decode cX7_land 92 = .ok (.iload_n 2, 1) := by decide +kernel
theorem dX7_land_93 : decode cX7_land 93 = .ok (.iaload, 1) := by decide +kernel
theorem dX7_land_94 : decode cX7_land 94 = .ok (.iastore, 1) := by decide +kernel
theorem dX7_land_95 : decode cX7_land 95 = .ok (.iinc 2 1, 3) := by decide +kernel
theorem dX7_land_98 : decode cX7_land 98 = .ok (.goto (-21), 3) := by decide +kernel
theorem dX7_land_101 : decode cX7_land 101 = .ok (.iconst 0, 1) := by decide +kernel
theorem dX7_land_102 : decode cX7_land 102 = .ok (.istore_n 2, 1) := by decide +kernel
theorem dX7_land_103 : decode cX7_land 103 = .ok (.iload_n 2, 1) := by decide +kernel
theorem dX7_land_104 : decode cX7_land 104 = .ok (.bipush 12, 2) := by decide +kernel
theorem dX7_land_106 : decode cX7_land 106 = .ok (.if_icmp .ge 21, 3) := by decide +kernel
theorem dX7_land_109 : decode cX7_land 109 = .ok (.aload_n 0, 1) := by decide +kernel
theorem dX7_land_110 : decode cX7_land 110 = .ok (.getfield 36, 3) := by decide +kernel
theorem dX7_land_113 : decode cX7_land 113 = .ok (.iload_n 2, 1) := by decide +kernel
theorem dX7_land_114 : decode cX7_land 114 = .ok (.aload_n 0, 1) := by decide +kernel
theorem dX7_land_115 : decode cX7_land 115 = .ok (.getfield 51, 3) := by decide +kernel
theorem dX7_land_118 : decode cX7_land 118 = .ok (.iload_n 2, 1) := by decide +kernel
theorem dX7_land_119 : decode cX7_land 119 = .ok (.iaload, 1) := by decide +kernel
theorem dX7_land_120 : decode cX7_land 120 = .ok (.iastore, 1) := by decide +kernel
theorem dX7_land_121 : decode cX7_land 121 = .ok (.iinc 2 1, 3) := by decide +kernel
theorem dX7_land_124 : decode cX7_land 124 = .ok (.goto (-21), 3) := by decide +kernel
theorem dX7_land_127 : decode cX7_land 127 = .ok (.iconst 0, 1) := by decide +kernel
theorem dX7_land_128 : decode cX7_land 128 = .ok (.istore_n 2, 1) := by decide +kernel
theorem dX7_land_129 : decode cX7_land 129 = .ok (.iload_n 2, 1) := by decide +kernel
theorem dX7_land_130 : decode cX7_land 130 = .ok (.bipush 6, 2) := by decide +kernel
theorem dX7_land_132 : decode cX7_land 132 = .ok (.if_icmp .ge 21, 3) := by decide +kernel
theorem dX7_land_135 : decode cX7_land 135 = .ok (.aload_n 0, 1) := by decide +kernel
theorem dX7_land_136 : decode cX7_land 136 = .ok (.getfield 30, 3) := by decide +kernel
theorem dX7_land_139 : decode cX7_land 139 = .ok (.iload_n 2, 1) := by decide +kernel
theorem dX7_land_140 : decode cX7_land 140 = .ok (.aload_n 0, 1) := by decide +kernel
theorem dX7_land_141 : decode cX7_land 141 = .ok (.getfield 45, 3) := by decide +kernel
theorem dX7_land_144 : decode cX7_land 144 = .ok (.iload_n 2, 1) := by decide +kernel
theorem dX7_land_145 : decode cX7_land 145 = .ok (.iaload, 1) := by decide +kernel
theorem dX7_land_146 : decode cX7_land 146 = .ok (.iastore, 1) := by decide +kernel
theorem dX7_land_147 : decode cX7_land 147 = .ok (.iinc 2 1, 3) := by decide +kernel
theorem dX7_land_150 : decode cX7_land 150 = .ok (.goto (-21), 3) := by decide +kernel
theorem dX7_land_153 : decode cX7_land 153 = .ok (.aload_n 0, 1) := by decide +kernel
theorem dX7_land_154 : decode cX7_land 154 = .ok (.getfield 7, 3) := by decide +kernel
theorem dX7_land_157 : decode cX7_land 157 = .ok (.bipush 46, 2) := by decide +kernel
theorem dX7_land_159 : decode cX7_land 159 = .ok (.iaload, 1) := by decide +kernel
theorem dX7_land_160 : decode cX7_land 160 = .ok (.istore_n 2, 1) := by decide +kernel
theorem dX7_land_161 : decode cX7_land 161 = .ok (.iconst 0, 1) := by decide +kernel
theorem dX7_land_162 : decode cX7_land 162 = .ok (.istore_n 3, 1) := by decide +kernel
theorem dX7_land_163 : decode cX7_land 163 = .ok (.iload_n 3, 1) := by decide +kernel
theorem dX7_land_164 : decode cX7_land 164 = .ok (.bipush 47, 2) := by decide +kernel
theorem dX7_land_166 : decode cX7_land 166 = .ok (.if_icmp .ge 16, 3) := by decide +kernel
theorem dX7_land_169 : decode cX7_land 169 = .ok (.aload_n 0, 1) := by decide +kernel
theorem dX7_land_170 : decode cX7_land 170 = .ok (.getfield 7, 3) := by decide +kernel
theorem dX7_land_173 : decode cX7_land 173 = .ok (.iload_n 3, 1) := by decide +kernel
theorem dX7_land_174 : decode cX7_land 174 = .ok (.iconst 0, 1) := by decide +kernel
theorem dX7_land_175 : decode cX7_land 175 = .ok (.iastore, 1) := by decide +kernel
theorem dX7_land_176 : decode cX7_land 176 = .ok (.iinc 3 1, 3) := by decide +kernel
theorem dX7_land_179 : decode cX7_land 179 = .ok (.goto (-16), 3) := by decide +kernel
theorem dX7_land_182 : decode cX7_land 182 = .ok (.aload_n 0, 1) := by decide +kernel
theorem dX7_land_183 : decode cX7_land 183 = .ok (.getfield 7, 3) := by decide +kernel
theorem dX7_land_186 : decode cX7_land 186 = .ok (.bipush 46, 2) := by decide +kernel
theorem dX7_land_188 : decode cX7_land 188 = .ok (.iload_n 2, 1) := by decide +kernel
theorem dX7_land_189 : decode cX7_land 189 = .ok (.iastore, 1) := by decide +kernel
theorem dX7_land_190 : decode cX7_land 190 = .ok (.iconst 0, 1) := by decide +kernel
theorem dX7_land_191 : decode cX7_land 191 = .ok (.istore_n 3, 1) := by decide +kernel
theorem dX7_land_192 : decode cX7_land 192 = .ok (.iload_n 3, 1) := by decide +kernel
theorem dX7_land_193 : decode cX7_land 193 = .ok (.aload_n 0, 1) := by decide +kernel
theorem dX7_land_194 : decode cX7_land 194 = .ok (.getfield 153, 3) := by decide +kernel
theorem dX7_land_197 : decode cX7_land 197 = .ok (.if_icmp .ge 57, 3) := by decide +kernel
theorem dX7_land_200 : decode cX7_land 200 = .ok (.aload_n 0, 1) := by decide +kernel
theorem dX7_land_201 : decode cX7_land 201 = .ok (.getfield 24, 3) := by decide +kernel
theorem dX7_land_204 : decode cX7_land 204 = .ok (.iload_n 3, 1) := by decide +kernel
theorem dX7_land_205 : decode cX7_land 205 = .ok (.aload_n 0, 1) := by decide +kernel
theorem dX7_land_206 : decode cX7_land 206 = .ok (.getfield 42, 3) := by decide +kernel
theorem dX7_land_209 : decode cX7_land 209 = .ok (.iconst 3, 1) := by decide +kernel
theorem dX7_land_210 : decode cX7_land 210 = .ok (.iload_n 3, 1) := by decide +kernel
theorem dX7_land_211 : decode cX7_land 211 = .ok (.imul, 1) := by decide +kernel
theorem dX7_land_212 : decode cX7_land 212 = .ok (.iaload, 1) := by decide +kernel
theorem dX7_land_213 : decode cX7_land 213 = .ok (.iastore, 1) := by decide +kernel
theorem dX7_land_214 : decode cX7_land 214 = .ok (.aload_n 0, 1) := by decide +kernel
theorem dX7_land_215 : decode cX7_land 215 = .ok (.getfield 27, 3) := by decide +kernel
theorem dX7_land_218 : decode cX7_land 218 = .ok (.iload_n 3, 1) := by decide +kernel
theorem dX7_land_219 : decode cX7_land 219 = .ok (.aload_n 0, 1) := by decide +kernel
theorem dX7_land_220 : decode cX7_land 220 = .ok (.getfield 42, 3) := by decide +kernel
theorem dX7_land_223 : decode cX7_land 223 = .ok (.iconst 3, 1) := by decide +kernel
theorem dX7_land_224 : decode cX7_land 224 = .ok (.iload_n 3, 1) := by decide +kernel
theorem dX7_land_225 : decode cX7_land 225 = .ok (.imul, 1) := by decide +kernel
theorem dX7_land_226 : decode cX7_land 226 = .ok (.iconst 1, 1) := by decide +kernel
theorem dX7_land_227 : decode cX7_land 227 = .ok (.iadd, 1) := by decide +kernel
theorem dX7_land_228 : decode cX7_land 228 = .ok (.iaload, 1) := by decide +kernel
theorem dX7_land_229 : decode cX7_land 229 = .ok (.iastore, 1) := by decide +kernel
theorem dX7_land_230 : decode cX7_land 230 = .ok (.aload_n 0, 1) := by decide +kernel
theorem dX7_land_231 : decode cX7_land 231 = .ok (.getfield 7, 3) := by decide +kernel
theorem dX7_land_234 : decode cX7_land 234 = .ok (.iconst 0, 1) := by decide +kernel
theorem dX7_land_235 : decode cX7_land 235 = .ok (.iload_n 3, 1) := by decide +kernel
theorem dX7_land_236 : decode cX7_land 236 = .ok (.iadd, 1) := by decide +kernel
theorem dX7_land_237 : decode cX7_land 237 = .ok (.aload_n 0, 1) := by decide +kernel
theorem dX7_land_238 : decode cX7_land 238 = .ok (.getfield 42, 3) := by decide +kernel
theorem dX7_land_241 : decode cX7_land 241 = .ok (.iconst 3, 1) := by decide +kernel
theorem dX7_land_242 : decode cX7_land 242 = .ok (.iload_n 3, 1) := by decide +kernel
theorem dX7_land_243 : decode cX7_land 243 = .ok (.imul, 1) := by decide +kernel
theorem dX7_land_244 : decode cX7_land 244 = .ok (.iconst 2, 1) := by decide +kernel
theorem dX7_land_245 : decode cX7_land 245 = .ok (.iadd, 1) := by decide +kernel
theorem dX7_land_246 : decode cX7_land 246 = .ok (.iaload, 1) := by decide +kernel
theorem dX7_land_247 : decode cX7_land 247 = .ok (.iastore, 1) := by decide +kernel
theorem dX7_land_248 : decode cX7_land 248 = .ok (.iinc 3 1, 3) := by decide +kernel
theorem dX7_land_251 : decode cX7_land 251 = .ok (.goto (-59), 3) := by decide +kernel
theorem dX7_land_254 : decode cX7_land 254 = .ok (.iconst 0, 1) := by decide +kernel
theorem dX7_land_255 : decode cX7_land 255 = .ok (.istore_n 3, 1) := by decide +kernel
theorem dX7_land_256 : decode cX7_land 256 = .ok (.iload_n 3, 1) := by decide +kernel
theorem dX7_land_257 : decode cX7_land 257 = .ok (.bipush 30, 2) := by decide +kernel
theorem dX7_land_259 : decode cX7_land 259 = .ok (.if_icmp .ge 37, 3) := by decide +kernel
theorem dX7_land_262 : decode cX7_land 262 = .ok (.aload_n 0, 1) := by decide +kernel
theorem dX7_land_263 : decode cX7_land 263 = .ok (.getfield 7, 3) := by decide +kernel
theorem dX7_land_266 : decode cX7_land 266 = .ok (.iconst 5, 1) := by decide +kernel
theorem dX7_land_267 : decode cX7_land 267 = .ok (.iload_n 3, 1) := by decide +kernel
theorem dX7_land_268 : decode cX7_land 268 = .ok (.iadd, 1) := by decide +kernel
theorem dX7_land_269 : decode cX7_land 269 = .ok (.aload_n 0, 1) := by decide +kernel
theorem dX7_land_270 : decode cX7_land 270 = .ok (.getfield 54, 3) := by decide +kernel
theorem dX7_land_273 : decode cX7_land 273 = .ok (.iload_n 3, 1) := by decide +kernel
theorem dX7_land_274 : decode cX7_land 274 = .ok (.iaload, 1) := by decide +kernel
theorem dX7_land_275 : decode cX7_land 275 = .ok (.iconst (-1), 1) := by decide +kernel
theorem dX7_land_276 : decode cX7_land 276 = .ok (.if_icmp .ne 7, 3) := by decide +kernel
theorem dX7_land_279 : decode cX7_land 279 = .ok (.iconst 0, 1) := by decide +kernel
theorem dX7_land_280 : decode cX7_land 280 = .ok (.goto 9, 3) := by decide +kernel
theorem dX7_land_283 : decode cX7_land 283 = .ok (.aload_n 0, 1) := by decide +kernel
theorem dX7_land_284 : decode cX7_land 284 = .ok (.getfield 54, 3) := by decide +kernel
theorem dX7_land_287 : decode cX7_land 287 = .ok (.iload_n 3, 1) := by decide +kernel
theorem dX7_land_288 : decode cX7_land 288 = .ok (.iaload, 1) := by decide +kernel
theorem dX7_land_289 : decode cX7_land 289 = .ok (.iastore, 1) := by decide +kernel
theorem dX7_land_290 : decode cX7_land 290 = .ok (.iinc 3 1, 3) := by decide +kernel
theorem dX7_land_293 : decode cX7_land 293 = .ok (.goto (-37), 3) := by decide +kernel
theorem dX7_land_296 : decode cX7_land 296 = .ok (.aload_n 0, 1) := by decide +kernel
theorem dX7_land_297 : decode cX7_land 297 = .ok (.iconst 0, 1) := by decide +kernel
theorem dX7_land_298 : decode cX7_land 298 = .ok (.putfield 165, 3) := by decide +kernel
theorem dX7_land_301 : decode cX7_land 301 = .ok (.aload_n 0, 1) := by decide +kernel
theorem dX7_land_302 : decode cX7_land 302 = .ok (.getfield 13, 3) := by decide +kernel
theorem dX7_land_305 : decode cX7_land 305 = .ok (.iconst 0, 1) := by decide +kernel
theorem dX7_land_306 : decode cX7_land 306 = .ok (.iconst 0, 1) := by decide +kernel
theorem dX7_land_307 : decode cX7_land 307 = .ok (.bastore, 1) := by decide +kernel
theorem dX7_land_308 : decode cX7_land 308 = .ok (.aload_n 0, 1) := by decide +kernel
theorem dX7_land_309 : decode cX7_land 309 = .ok (.getfield 13, 3) := by decide +kernel
theorem dX7_land_312 : decode cX7_land 312 = .ok (.iconst 1, 1) := by decide +kernel
theorem dX7_land_313 : decode cX7_land 313 = .ok (.iconst 0, 1) := by decide +kernel
theorem dX7_land_314 : decode cX7_land 314 = .ok (.bastore, 1) := by decide +kernel
theorem dX7_land_315 : decode cX7_land 315 = .ok (.aload_n 0, 1) := by decide +kernel
theorem dX7_land_316 : decode cX7_land 316 = .ok (.getfield 150, 3) := by decide +kernel
theorem dX7_land_319 : decode cX7_land 319 = .ok (.ireturn, 1) := by decide +kernel
theorem dX7_fault_0 : decode cX7_fault 0 = .ok (.aload_n 0, 1) := by decide +kernel
theorem dX7_fault_1 : decode cX7_fault 1 = .ok (.getfield 20, 3) := by decide +kernel
theorem dX7_fault_4 : decode cX7_fault 4 = .ok (.ireturn, 1) := by decide +kernel
theorem dX7_isOne_0 : decode cX7_isOne 0 = .ok (.iload_n 1, 1) := by decide +kernel
theorem dX7_isOne_1 : decode cX7_isOne 1 = .ok (.i2l, 1) := by decide +kernel
theorem dX7_isOne_2 : decode cX7_isOne 2 = .ok (.lconst 0, 1) := by decide +kernel
theorem dX7_isOne_3 : decode cX7_isOne 3 = .ok (.aload_n 0, 1) := by decide +kernel
theorem dX7_isOne_4 : decode cX7_isOne 4 = .ok (.getfield 150, 3) := by decide +kernel
theorem dX7_isOne_7 : decode cX7_isOne 7 = .ok (.iconst 1, 1) := by decide +kernel
theorem dX7_isOne_8 : decode cX7_isOne 8 = .ok (.isub, 1) := by decide +kernel
theorem dX7_isOne_9 : decode cX7_isOne 9 = .ok (.i2l, 1) := by decide +kernel
theorem dX7_isOne_10 : decode cX7_isOne 10 = .ok (.invokestatic 68, 3) := by decide +kernel
theorem dX7_isOne_13 : decode cX7_isOne 13 = .ok (.ireturn, 1) := by decide +kernel
theorem dX7_isFighter_0 : decode cX7_isFighter 0 = .ok (.iload_n 1, 1) := by decide +kernel
theorem dX7_isFighter_1 : decode cX7_isFighter 1 = .ok (.i2l, 1) := by decide +kernel
theorem dX7_isFighter_2 : decode cX7_isFighter 2 = .ok (.lconst 0, 1) := by decide +kernel
theorem dX7_isFighter_3 : decode cX7_isFighter 3 = .ok (.aload_n 0, 1) := by decide +kernel
theorem dX7_isFighter_4 : decode cX7_isFighter 4 = .ok (.getfield 153, 3) := by decide +kernel
theorem dX7_isFighter_7 : decode cX7_isFighter 7 = .ok (.iconst 1, 1) := by decide +kernel
theorem dX7_isFighter_8 : decode cX7_isFighter 8 = .ok (.isub, 1) := by decide +kernel
theorem dX7_isFighter_9 : decode cX7_isFighter 9 = .ok (.i2l, 1) := by decide +kernel
theorem dX7_isFighter_10 : decode cX7_isFighter 10 = .ok (.invokestatic 68, 3) := by decide +kernel
theorem dX7_isFighter_13 : decode cX7_isFighter 13 = .ok (.ireturn, 1) := by decide +kernel
theorem dX7_isTask_0 : decode cX7_isTask 0 = .ok (.iload_n 1, 1) := by decide +kernel
theorem dX7_isTask_1 : decode cX7_isTask 1 = .ok (.i2l, 1) := by decide +kernel
theorem dX7_isTask_2 : decode cX7_isTask 2 = .ok (.lconst 0, 1) := by decide +kernel
theorem dX7_isTask_3 : decode cX7_isTask 3 = .ok (.aload_n 0, 1) := by decide +kernel
theorem dX7_isTask_4 : decode cX7_isTask 4 = .ok (.getfield 159, 3) := by decide +kernel
theorem dX7_isTask_7 : decode cX7_isTask 7 = .ok (.iconst 1, 1) := by decide +kernel
theorem dX7_isTask_8 : decode cX7_isTask 8 = .ok (.isub, 1) := by decide +kernel
theorem dX7_isTask_9 : decode cX7_isTask 9 = .ok (.i2l, 1) := by decide +kernel
theorem dX7_isTask_10 : decode cX7_isTask 10 = .ok (.invokestatic 68, 3) := by decide +kernel
theorem dX7_isTask_13 : decode cX7_isTask 13 = .ok (.ireturn, 1) := by decide +kernel
theorem dX7_thought_0 : decode cX7_thought 0 = .ok (.aload_n 0, 1) := by decide +kernel
theorem dX7_thought_1 : decode cX7_thought 1 = .ok (.getfield 7, 3) := by decide +kernel
theorem dX7_thought_4 : decode cX7_thought 4 = .ok (.iconst 5, 1) := by decide +kernel
theorem dX7_thought_5 : decode cX7_thought 5 = .ok (.iconst 5, 1) := by decide +kernel
theorem dX7_thought_6 : decode cX7_thought 6 = .ok (.iload_n 1, 1) := by decide +kernel
theorem dX7_thought_7 : decode cX7_thought 7 = .ok (.imul, 1) := by decide +kernel
theorem dX7_thought_8 : decode cX7_thought 8 = .ok (.iadd, 1) := by decide +kernel
theorem dX7_thought_9 : decode cX7_thought 9 = .ok (.iload_n 2, 1) := by decide +kernel
theorem dX7_thought_10 : decode cX7_thought 10 = .ok (.iadd, 1) := by decide +kernel
theorem dX7_thought_11 : decode cX7_thought 11 = .ok (.iaload, 1) := by decide +kernel
theorem dX7_thought_12 : decode cX7_thought 12 = .ok (.ireturn, 1) := by decide +kernel
theorem dX7_think_0 : decode cX7_think 0 = .ok (.aload_n 0, 1) := by decide +kernel
theorem dX7_think_1 : decode cX7_think 1 = .ok (.getfield 7, 3) := by decide +kernel
theorem dX7_think_4 : decode cX7_think 4 = .ok (.iconst 5, 1) := by decide +kernel
theorem dX7_think_5 : decode cX7_think 5 = .ok (.iconst 5, 1) := by decide +kernel
theorem dX7_think_6 : decode cX7_think 6 = .ok (.iload_n 1, 1) := by decide +kernel
theorem dX7_think_7 : decode cX7_think 7 = .ok (.imul, 1) := by decide +kernel
theorem dX7_think_8 : decode cX7_think 8 = .ok (.iadd, 1) := by decide +kernel
theorem dX7_think_9 : decode cX7_think 9 = .ok (.iload_n 2, 1) := by decide +kernel
theorem dX7_think_10 : decode cX7_think 10 = .ok (.iadd, 1) := by decide +kernel
theorem dX7_think_11 : decode cX7_think 11 = .ok (.iload_n 3, 1) := by decide +kernel
theorem dX7_think_12 : decode cX7_think 12 = .ok (.bipush 99, 2) := by decide +kernel
theorem dX7_think_14 : decode cX7_think 14 = .ok (.if_icmp .le 8, 3) := by decide +kernel
theorem dX7_think_17 : decode cX7_think 17 = .ok (.bipush 99, 2) := by decide +kernel
theorem dX7_think_19 : decode cX7_think 19 = .ok (.goto 4, 3) := by decide +kernel
theorem dX7_think_22 : decode cX7_think 22 = .ok (.iload_n 3, 1) := by decide +kernel
theorem dX7_think_23 : decode cX7_think 23 = .ok (.iastore, 1) := by decide +kernel
theorem dX7_think_24 : decode cX7_think 24 = .ok (.return_, 1) := by decide +kernel
theorem dX7_allThoughts_0 : decode cX7_allThoughts 0 = .ok (.iconst 0, 1) := by decide +kernel
theorem dX7_allThoughts_1 : decode cX7_allThoughts 1 = .ok (.istore_n 1, 1) := by decide +kernel
theorem dX7_allThoughts_2 : decode cX7_allThoughts 2 = .ok (.iconst 0, 1) := by decide +kernel
theorem dX7_allThoughts_3 : decode cX7_allThoughts 3 = .ok (.istore_n 2, 1) := by decide +kernel
theorem dX7_allThoughts_4 : decode cX7_allThoughts 4 = .ok (.iload_n 2, 1) := by decide +kernel
theorem dX7_allThoughts_5 : decode cX7_allThoughts 5 = .ok (.aload_n 0, 1) := by decide +kernel
theorem dX7_allThoughts_6 : decode cX7_allThoughts 6 = .ok (.getfield 150, 3) := by decide +kernel
theorem dX7_allThoughts_9 : decode cX7_allThoughts 9 = .ok (.if_icmp .ge 34, 3) := by decide +kernel
theorem dX7_allThoughts_12 : decode cX7_allThoughts 12 = .ok (.iconst 0, 1) := by decide +kernel
theorem dX7_allThoughts_13 : decode cX7_allThoughts 13 = .ok (.istore_n 3, 1) := by decide +kernel
theorem dX7_allThoughts_14 : decode cX7_allThoughts 14 = .ok (.iload_n 3, 1) := by decide +kernel
theorem dX7_allThoughts_15 : decode cX7_allThoughts 15 = .ok (.aload_n 0, 1) := by decide +kernel
theorem dX7_allThoughts_16 : decode cX7_allThoughts 16 = .ok (.getfield 153, 3) := by decide +kernel
theorem dX7_allThoughts_19 : decode cX7_allThoughts 19 = .ok (.if_icmp .ge 18, 3) := by decide +kernel
theorem dX7_allThoughts_22 : decode cX7_allThoughts 22 = .ok (.iload_n 1, 1) := by decide +kernel
theorem dX7_allThoughts_23 : decode cX7_allThoughts 23 = .ok (.aload_n 0, 1) := by decide +kernel
theorem dX7_allThoughts_24 : decode cX7_allThoughts 24 = .ok (.iload_n 2, 1) := by decide +kernel
theorem dX7_allThoughts_25 : decode cX7_allThoughts 25 = .ok (.iload_n 3, 1) := by decide +kernel
theorem dX7_allThoughts_26 : decode cX7_allThoughts 26 = .ok (.invokevirtual 168, 3) := by decide +kernel
theorem dX7_allThoughts_29 : decode cX7_allThoughts 29 = .ok (.iadd, 1) := by decide +kernel
theorem dX7_allThoughts_30 : decode cX7_allThoughts 30 = .ok (.istore_n 1, 1) := by decide +kernel
theorem dX7_allThoughts_31 : decode cX7_allThoughts 31 = .ok (.iinc 3 1, 3) := by decide +kernel
theorem dX7_allThoughts_34 : decode cX7_allThoughts 34 = .ok (.goto (-20), 3) := by decide +kernel
theorem dX7_allThoughts_37 : decode cX7_allThoughts 37 = .ok (.iinc 2 1, 3) := by decide +kernel
theorem dX7_allThoughts_40 : decode cX7_allThoughts 40 = .ok (.goto (-36), 3) := by decide +kernel
theorem dX7_allThoughts_43 : decode cX7_allThoughts 43 = .ok (.iload_n 1, 1) := by decide +kernel
theorem dX7_allThoughts_44 : decode cX7_allThoughts 44 = .ok (.ireturn, 1) := by decide +kernel
theorem dX7_told_0 : decode cX7_told 0 = .ok (.iload_n 1, 1) := by decide +kernel
theorem dX7_told_1 : decode cX7_told 1 = .ok (.tableswitch 99 0 8 #[51, 56, 61, 66, 71, 76, 81, 89, 94], 51) := by decide +kernel
theorem dX7_told_52 : decode cX7_told 52 = .ok (.aload_n 0, 1) := by decide +kernel
theorem dX7_told_53 : decode cX7_told 53 = .ok (.getfield 150, 3) := by decide +kernel
theorem dX7_told_56 : decode cX7_told 56 = .ok (.ireturn, 1) := by decide +kernel
theorem dX7_told_57 : decode cX7_told 57 = .ok (.aload_n 0, 1) := by decide +kernel
theorem dX7_told_58 : decode cX7_told 58 = .ok (.getfield 153, 3) := by decide +kernel
theorem dX7_told_61 : decode cX7_told 61 = .ok (.ireturn, 1) := by decide +kernel
theorem dX7_told_62 : decode cX7_told 62 = .ok (.aload_n 0, 1) := by decide +kernel
theorem dX7_told_63 : decode cX7_told 63 = .ok (.getfield 156, 3) := by decide +kernel
theorem dX7_told_66 : decode cX7_told 66 = .ok (.ireturn, 1) := by decide +kernel
theorem dX7_told_67 : decode cX7_told 67 = .ok (.aload_n 0, 1) := by decide +kernel
theorem dX7_told_68 : decode cX7_told 68 = .ok (.getfield 159, 3) := by decide +kernel
theorem dX7_told_71 : decode cX7_told 71 = .ok (.ireturn, 1) := by decide +kernel
theorem dX7_told_72 : decode cX7_told 72 = .ok (.aload_n 0, 1) := by decide +kernel
theorem dX7_told_73 : decode cX7_told 73 = .ok (.getfield 162, 3) := by decide +kernel
theorem dX7_told_76 : decode cX7_told 76 = .ok (.ireturn, 1) := by decide +kernel
theorem dX7_told_77 : decode cX7_told 77 = .ok (.aload_n 0, 1) := by decide +kernel
theorem dX7_told_78 : decode cX7_told 78 = .ok (.getfield 73, 3) := by decide +kernel
theorem dX7_told_81 : decode cX7_told 81 = .ok (.ireturn, 1) := by decide +kernel
theorem dX7_told_82 : decode cX7_told 82 = .ok (.aload_n 0, 1) := by decide +kernel
theorem dX7_told_83 : decode cX7_told 83 = .ok (.getfield 7, 3) := by decide +kernel
theorem dX7_told_86 : decode cX7_told 86 = .ok (.bipush 45, 2) := by decide +kernel
theorem dX7_told_88 : decode cX7_told 88 = .ok (.iaload, 1) := by decide +kernel
theorem dX7_told_89 : decode cX7_told 89 = .ok (.ireturn, 1) := by decide +kernel
theorem dX7_told_90 : decode cX7_told 90 = .ok (.aload_n 0, 1) := by decide +kernel
theorem dX7_told_91 : decode cX7_told 91 = .ok (.invokevirtual 172, 3) := by decide +kernel
theorem dX7_told_94 : decode cX7_told 94 = .ok (.ireturn, 1) := by decide +kernel
theorem dX7_told_95 : decode cX7_told 95 = .ok (.aload_n 0, 1) := by decide +kernel
theorem dX7_told_96 : decode cX7_told 96 = .ok (.getfield 165, 3) := by decide +kernel
theorem dX7_told_99 : decode cX7_told 99 = .ok (.ireturn, 1) := by decide +kernel
theorem dX7_told_100 : decode cX7_told 100 = .ok (.ldc 72, 2) := by decide +kernel
theorem dX7_told_102 : decode cX7_told 102 = .ok (.ireturn, 1) := by decide +kernel
theorem dX7_reads_0 : decode cX7_reads 0 = .ok (.iload_n 2, 1) := by decide +kernel
theorem dX7_reads_1 : decode cX7_reads 1 = .ok (.iload_n 2, 1) := by decide +kernel
theorem dX7_reads_2 : decode cX7_reads 2 = .ok (.iconst 2, 1) := by decide +kernel
theorem dX7_reads_3 : decode cX7_reads 3 = .ok (.idiv, 1) := by decide +kernel
theorem dX7_reads_4 : decode cX7_reads 4 = .ok (.iadd, 1) := by decide +kernel
theorem dX7_reads_5 : decode cX7_reads 5 = .ok (.istore_n 3, 1) := by decide +kernel
theorem dX7_reads_6 : decode cX7_reads 6 = .ok (.aload_n 0, 1) := by decide +kernel
theorem dX7_reads_7 : decode cX7_reads 7 = .ok (.getfield 24, 3) := by decide +kernel
theorem dX7_reads_10 : decode cX7_reads 10 = .ok (.iload_n 1, 1) := by decide +kernel
theorem dX7_reads_11 : decode cX7_reads 11 = .ok (.iaload, 1) := by decide +kernel
theorem dX7_reads_12 : decode cX7_reads 12 = .ok (.iconst 1, 1) := by decide +kernel
theorem dX7_reads_13 : decode cX7_reads 13 = .ok (.if_icmp .ne 7, 3) := by decide +kernel
theorem dX7_reads_16 : decode cX7_reads 16 = .ok (.iconst 0, 1) := by decide +kernel
theorem dX7_reads_17 : decode cX7_reads 17 = .ok (.goto 29, 3) := by decide +kernel
theorem dX7_reads_20 : decode cX7_reads 20 = .ok (.aload_n 0, 1) := by decide +kernel
theorem dX7_reads_21 : decode cX7_reads 21 = .ok (.getfield 24, 3) := by decide +kernel
theorem dX7_reads_24 : decode cX7_reads 24 = .ok (.iload_n 1, 1) := by decide +kernel
theorem dX7_reads_25 : decode cX7_reads 25 = .ok (.iaload, 1) := by decide +kernel
theorem dX7_reads_26 : decode cX7_reads 26 = .ok (.iconst 2, 1) := by decide +kernel
theorem dX7_reads_27 : decode cX7_reads 27 = .ok (.if_icmp .eq 7, 3) := by decide +kernel
theorem dX7_reads_30 : decode cX7_reads 30 = .ok (.iload_n 2, 1) := by decide +kernel
theorem dX7_reads_31 : decode cX7_reads 31 = .ok (.goto 15, 3) := by decide +kernel
theorem dX7_reads_34 : decode cX7_reads 34 = .ok (.iload_n 3, 1) := by decide +kernel
theorem dX7_reads_35 : decode cX7_reads 35 = .ok (.bipush 99, 2) := by decide +kernel
theorem dX7_reads_37 : decode cX7_reads 37 = .ok (.if_icmp .le 8, 3) := by decide +kernel
theorem dX7_reads_40 : decode cX7_reads 40 = .ok (.bipush 99, 2) := by decide +kernel
theorem dX7_reads_42 : decode cX7_reads 42 = .ok (.goto 4, 3) := by decide +kernel
theorem dX7_reads_45 : decode cX7_reads 45 = .ok (.iload_n 3, 1) := by decide +kernel
theorem dX7_reads_46 : decode cX7_reads 46 = .ok (.ireturn, 1) := by decide +kernel
theorem dX7_readsNow_0 : decode cX7_readsNow 0 = .ok (.aload_n 0, 1) := by decide +kernel
theorem dX7_readsNow_1 : decode cX7_readsNow 1 = .ok (.iload_n 1, 1) := by decide +kernel
theorem dX7_readsNow_2 : decode cX7_readsNow 2 = .ok (.aload_n 0, 1) := by decide +kernel
theorem dX7_readsNow_3 : decode cX7_readsNow 3 = .ok (.getfield 7, 3) := by decide +kernel
theorem dX7_readsNow_6 : decode cX7_readsNow 6 = .ok (.iconst 0, 1) := by decide +kernel
theorem dX7_readsNow_7 : decode cX7_readsNow 7 = .ok (.iload_n 1, 1) := by decide +kernel
theorem dX7_readsNow_8 : decode cX7_readsNow 8 = .ok (.iadd, 1) := by decide +kernel
theorem dX7_readsNow_9 : decode cX7_readsNow 9 = .ok (.iaload, 1) := by decide +kernel
theorem dX7_readsNow_10 : decode cX7_readsNow 10 = .ok (.invokevirtual 175, 3) := by decide +kernel
theorem dX7_readsNow_13 : decode cX7_readsNow 13 = .ok (.ireturn, 1) := by decide +kernel
theorem dX7_worthOf_0 : decode cX7_worthOf 0 = .ok (.iconst 0, 1) := by decide +kernel
theorem dX7_worthOf_1 : decode cX7_worthOf 1 = .ok (.istore_n 2, 1) := by decide +kernel
theorem dX7_worthOf_2 : decode cX7_worthOf 2 = .ok (.iconst 0, 1) := by decide +kernel
theorem dX7_worthOf_3 : decode cX7_worthOf 3 = .ok (.istore_n 3, 1) := by decide +kernel
theorem dX7_worthOf_4 : decode cX7_worthOf 4 = .ok (.iload_n 3, 1) := by decide +kernel
theorem dX7_worthOf_5 : decode cX7_worthOf 5 = .ok (.aload_n 0, 1) := by decide +kernel
theorem dX7_worthOf_6 : decode cX7_worthOf 6 = .ok (.getfield 159, 3) := by decide +kernel
theorem dX7_worthOf_9 : decode cX7_worthOf 9 = .ok (.if_icmp .ge 34, 3) := by decide +kernel
theorem dX7_worthOf_12 : decode cX7_worthOf 12 = .ok (.iload_n 2, 1) := by decide +kernel
theorem dX7_worthOf_13 : decode cX7_worthOf 13 = .ok (.iload_n 1, 1) := by decide +kernel
theorem dX7_worthOf_14 : decode cX7_worthOf 14 = .ok (.iload_n 3, 1) := by decide +kernel
theorem dX7_worthOf_15 : decode cX7_worthOf 15 = .ok (.invokestatic 112, 3) := by decide +kernel
theorem dX7_worthOf_18 : decode cX7_worthOf 18 = .ok (.ifCond .eq 16, 3) := by decide +kernel
theorem dX7_worthOf_21 : decode cX7_worthOf 21 = .ok (.aload_n 0, 1) := by decide +kernel
theorem dX7_worthOf_22 : decode cX7_worthOf 22 = .ok (.getfield 33, 3) := by decide +kernel
theorem dX7_worthOf_25 : decode cX7_worthOf 25 = .ok (.iconst 4, 1) := by decide +kernel
theorem dX7_worthOf_26 : decode cX7_worthOf 26 = .ok (.iload_n 3, 1) := by decide +kernel
theorem dX7_worthOf_27 : decode cX7_worthOf 27 = .ok (.imul, 1) := by decide +kernel
theorem dX7_worthOf_28 : decode cX7_worthOf 28 = .ok (.iconst 2, 1) := by decide +kernel
theorem dX7_worthOf_29 : decode cX7_worthOf 29 = .ok (.iadd, 1) := by decide +kernel
theorem dX7_worthOf_30 : decode cX7_worthOf 30 = .ok (.iaload, 1) := by decide +kernel
theorem dX7_worthOf_31 : decode cX7_worthOf 31 = .ok (.goto 4, 3) := by decide +kernel
theorem dX7_worthOf_34 : decode cX7_worthOf 34 = .ok (.iconst 0, 1) := by decide +kernel
theorem dX7_worthOf_35 : decode cX7_worthOf 35 = .ok (.iadd, 1) := by decide +kernel
theorem dX7_worthOf_36 : decode cX7_worthOf 36 = .ok (.istore_n 2, 1) := by decide +kernel
theorem dX7_worthOf_37 : decode cX7_worthOf 37 = .ok (.iinc 3 1, 3) := by decide +kernel
theorem dX7_worthOf_40 : decode cX7_worthOf 40 = .ok (.goto (-36), 3) := by decide +kernel
theorem dX7_worthOf_43 : decode cX7_worthOf 43 = .ok (.iload_n 2, 1) := by decide +kernel
theorem dX7_worthOf_44 : decode cX7_worthOf 44 = .ok (.ireturn, 1) := by decide +kernel
theorem dX7_fighter_0 : decode cX7_fighter 0 = .ok (.aload_n 0, 1) := by decide +kernel
theorem dX7_fighter_1 : decode cX7_fighter 1 = .ok (.iload_n 1, 1) := by decide +kernel
theorem dX7_fighter_2 : decode cX7_fighter 2 = .ok (.invokevirtual 178, 3) := by decide +kernel
theorem dX7_fighter_5 : decode cX7_fighter 5 = .ok (.ifCond .ne 6, 3) := by decide +kernel
theorem dX7_fighter_8 : decode cX7_fighter 8 = .ok (.ldc 181, 2) := by decide +kernel
theorem dX7_fighter_10 : decode cX7_fighter 10 = .ok (.ireturn, 1) := by decide +kernel
theorem dX7_fighter_11 : decode cX7_fighter 11 = .ok (.iload_n 2, 1) := by decide +kernel
theorem dX7_fighter_12 : decode cX7_fighter 12 = .ok (.tableswitch 107 0 6 #[44, 51, 58, 67, 73, 83, 93], 44) := by decide +kernel
theorem dX7_fighter_56 : decode cX7_fighter 56 = .ok (.aload_n 0, 1) := by decide +kernel
theorem dX7_fighter_57 : decode cX7_fighter 57 = .ok (.getfield 24, 3) := by decide +kernel
theorem dX7_fighter_60 : decode cX7_fighter 60 = .ok (.iload_n 1, 1) := by decide +kernel
theorem dX7_fighter_61 : decode cX7_fighter 61 = .ok (.iaload, 1) := by decide +kernel
theorem dX7_fighter_62 : decode cX7_fighter 62 = .ok (.ireturn, 1) := by decide +kernel
theorem dX7_fighter_63 : decode cX7_fighter 63 = .ok (.aload_n 0, 1) := by decide +kernel
theorem dX7_fighter_64 : decode cX7_fighter 64 = .ok (.getfield 27, 3) := by decide +kernel
theorem dX7_fighter_67 : decode cX7_fighter 67 = .ok (.iload_n 1, 1) := by decide +kernel
theorem dX7_fighter_68 : decode cX7_fighter 68 = .ok (.iaload, 1) := by decide +kernel
theorem dX7_fighter_69 : decode cX7_fighter 69 = .ok (.ireturn, 1) := by decide +kernel
theorem dX7_fighter_70 : decode cX7_fighter 70 = .ok (.aload_n 0, 1) := by decide +kernel
theorem dX7_fighter_71 : decode cX7_fighter 71 = .ok (.getfield 7, 3) := by decide +kernel
theorem dX7_fighter_74 : decode cX7_fighter 74 = .ok (.iconst 0, 1) := by decide +kernel
theorem dX7_fighter_75 : decode cX7_fighter 75 = .ok (.iload_n 1, 1) := by decide +kernel
theorem dX7_fighter_76 : decode cX7_fighter 76 = .ok (.iadd, 1) := by decide +kernel
theorem dX7_fighter_77 : decode cX7_fighter 77 = .ok (.iaload, 1) := by decide +kernel
theorem dX7_fighter_78 : decode cX7_fighter 78 = .ok (.ireturn, 1) := by decide +kernel
theorem dX7_fighter_79 : decode cX7_fighter 79 = .ok (.aload_n 0, 1) := by decide +kernel
theorem dX7_fighter_80 : decode cX7_fighter 80 = .ok (.iload_n 1, 1) := by decide +kernel
theorem dX7_fighter_81 : decode cX7_fighter 81 = .ok (.invokevirtual 182, 3) := by decide +kernel
theorem dX7_fighter_84 : decode cX7_fighter 84 = .ok (.ireturn, 1) := by decide +kernel
theorem dX7_fighter_85 : decode cX7_fighter 85 = .ok (.aload_n 0, 1) := by decide +kernel
theorem dX7_fighter_86 : decode cX7_fighter 86 = .ok (.getfield 7, 3) := by decide +kernel
theorem dX7_fighter_89 : decode cX7_fighter 89 = .ok (.bipush 35, 2) := by decide +kernel
theorem dX7_fighter_91 : decode cX7_fighter 91 = .ok (.iload_n 1, 1) := by decide +kernel
theorem dX7_fighter_92 : decode cX7_fighter 92 = .ok (.iadd, 1) := by decide +kernel
theorem dX7_fighter_93 : decode cX7_fighter 93 = .ok (.iaload, 1) := by decide +kernel
theorem dX7_fighter_94 : decode cX7_fighter 94 = .ok (.ireturn, 1) := by decide +kernel
theorem dX7_fighter_95 : decode cX7_fighter 95 = .ok (.aload_n 0, 1) := by decide +kernel
theorem dX7_fighter_96 : decode cX7_fighter 96 = .ok (.getfield 7, 3) := by decide +kernel
theorem dX7_fighter_99 : decode cX7_fighter 99 = .ok (.bipush 40, 2) := by decide +kernel
theorem dX7_fighter_101 : decode cX7_fighter 101 = .ok (.iload_n 1, 1) := by decide +kernel
theorem dX7_fighter_102 : decode cX7_fighter 102 = .ok (.iadd, 1) := by decide +kernel
theorem dX7_fighter_103 : decode cX7_fighter 103 = .ok (.iaload, 1) := by decide +kernel
theorem dX7_fighter_104 : decode cX7_fighter 104 = .ok (.ireturn, 1) := by decide +kernel
theorem dX7_fighter_105 : decode cX7_fighter 105 = .ok (.aload_n 0, 1) := by decide +kernel
theorem dX7_fighter_106 : decode cX7_fighter 106 = .ok (.aload_n 0, 1) := by decide +kernel
theorem dX7_fighter_107 : decode cX7_fighter 107 = .ok (.getfield 7, 3) := by decide +kernel
theorem dX7_fighter_110 : decode cX7_fighter 110 = .ok (.bipush 35, 2) := by decide +kernel
theorem dX7_fighter_112 : decode cX7_fighter 112 = .ok (.iload_n 1, 1) := by decide +kernel
theorem dX7_fighter_113 : decode cX7_fighter 113 = .ok (.iadd, 1) := by decide +kernel
theorem dX7_fighter_114 : decode cX7_fighter 114 = .ok (.iaload, 1) := by decide +kernel
theorem dX7_fighter_115 : decode cX7_fighter 115 = .ok (.invokevirtual 185, 3) := by decide +kernel
theorem dX7_fighter_118 : decode cX7_fighter 118 = .ok (.ireturn, 1) := by decide +kernel
theorem dX7_fighter_119 : decode cX7_fighter 119 = .ok (.ldc 72, 2) := by decide +kernel
theorem dX7_fighter_121 : decode cX7_fighter 121 = .ok (.ireturn, 1) := by decide +kernel
theorem dX7_thinks_0 : decode cX7_thinks 0 = .ok (.aload_n 0, 1) := by decide +kernel
theorem dX7_thinks_1 : decode cX7_thinks 1 = .ok (.iload_n 1, 1) := by decide +kernel
theorem dX7_thinks_2 : decode cX7_thinks 2 = .ok (.invokevirtual 188, 3) := by decide +kernel
theorem dX7_thinks_5 : decode cX7_thinks 5 = .ok (.ifCond .eq 20, 3) := by decide +kernel
theorem dX7_thinks_8 : decode cX7_thinks 8 = .ok (.aload_n 0, 1) := by decide +kernel
theorem dX7_thinks_9 : decode cX7_thinks 9 = .ok (.iload_n 2, 1) := by decide +kernel
theorem dX7_thinks_10 : decode cX7_thinks 10 = .ok (.invokevirtual 178, 3) := by decide +kernel
theorem dX7_thinks_13 : decode cX7_thinks 13 = .ok (.ifCond .eq 12, 3) := by decide +kernel
theorem dX7_thinks_16 : decode cX7_thinks 16 = .ok (.aload_n 0, 1) := by decide +kernel
theorem dX7_thinks_17 : decode cX7_thinks 17 = .ok (.iload_n 1, 1) := by decide +kernel
theorem dX7_thinks_18 : decode cX7_thinks 18 = .ok (.iload_n 2, 1) := by decide +kernel
theorem dX7_thinks_19 : decode cX7_thinks 19 = .ok (.invokevirtual 168, 3) := by decide +kernel
theorem dX7_thinks_22 : decode cX7_thinks 22 = .ok (.goto 5, 3) := by decide +kernel
theorem dX7_thinks_25 : decode cX7_thinks 25 = .ok (.ldc 181, 2) := by decide +kernel
theorem dX7_thinks_27 : decode cX7_thinks 27 = .ok (.ireturn, 1) := by decide +kernel
theorem dX7_chats_0 : decode cX7_chats 0 = .ok (.aload_n 0, 1) := by decide +kernel
theorem dX7_chats_1 : decode cX7_chats 1 = .ok (.iload_n 1, 1) := by decide +kernel
theorem dX7_chats_2 : decode cX7_chats 2 = .ok (.invokevirtual 188, 3) := by decide +kernel
theorem dX7_chats_5 : decode cX7_chats 5 = .ok (.ifCond .eq 12, 3) := by decide +kernel
theorem dX7_chats_8 : decode cX7_chats 8 = .ok (.aload_n 0, 1) := by decide +kernel
theorem dX7_chats_9 : decode cX7_chats 9 = .ok (.getfield 30, 3) := by decide +kernel
theorem dX7_chats_12 : decode cX7_chats 12 = .ok (.iload_n 1, 1) := by decide +kernel
theorem dX7_chats_13 : decode cX7_chats 13 = .ok (.iaload, 1) := by decide +kernel
theorem dX7_chats_14 : decode cX7_chats 14 = .ok (.goto 5, 3) := by decide +kernel
theorem dX7_chats_17 : decode cX7_chats 17 = .ok (.ldc 181, 2) := by decide +kernel
theorem dX7_chats_19 : decode cX7_chats 19 = .ok (.ireturn, 1) := by decide +kernel
theorem dX7_tricksOf_0 : decode cX7_tricksOf 0 = .ok (.iconst 0, 1) := by decide +kernel
theorem dX7_tricksOf_1 : decode cX7_tricksOf 1 = .ok (.istore_n 2, 1) := by decide +kernel
theorem dX7_tricksOf_2 : decode cX7_tricksOf 2 = .ok (.iconst 0, 1) := by decide +kernel
theorem dX7_tricksOf_3 : decode cX7_tricksOf 3 = .ok (.istore_n 3, 1) := by decide +kernel
theorem dX7_tricksOf_4 : decode cX7_tricksOf 4 = .ok (.iload_n 3, 1) := by decide +kernel
theorem dX7_tricksOf_5 : decode cX7_tricksOf 5 = .ok (.aload_n 0, 1) := by decide +kernel
theorem dX7_tricksOf_6 : decode cX7_tricksOf 6 = .ok (.getfield 162, 3) := by decide +kernel
theorem dX7_tricksOf_9 : decode cX7_tricksOf 9 = .ok (.if_icmp .ge 31, 3) := by decide +kernel
theorem dX7_tricksOf_12 : decode cX7_tricksOf 12 = .ok (.iload_n 2, 1) := by decide +kernel
theorem dX7_tricksOf_13 : decode cX7_tricksOf 13 = .ok (.aload_n 0, 1) := by decide +kernel
theorem dX7_tricksOf_14 : decode cX7_tricksOf 14 = .ok (.getfield 36, 3) := by decide +kernel
theorem dX7_tricksOf_17 : decode cX7_tricksOf 17 = .ok (.iconst 3, 1) := by decide +kernel
theorem dX7_tricksOf_18 : decode cX7_tricksOf 18 = .ok (.iload_n 3, 1) := by decide +kernel
theorem dX7_tricksOf_19 : decode cX7_tricksOf 19 = .ok (.imul, 1) := by decide +kernel
theorem dX7_tricksOf_20 : decode cX7_tricksOf 20 = .ok (.iaload, 1) := by decide +kernel
theorem dX7_tricksOf_21 : decode cX7_tricksOf 21 = .ok (.iload_n 1, 1) := by decide +kernel
theorem dX7_tricksOf_22 : decode cX7_tricksOf 22 = .ok (.if_icmp .ne 9, 3) := by decide +kernel
theorem dX7_tricksOf_25 : decode cX7_tricksOf 25 = .ok (.iconst 1, 1) := by decide +kernel
theorem dX7_tricksOf_26 : decode cX7_tricksOf 26 = .ok (.iload_n 3, 1) := by decide +kernel
theorem dX7_tricksOf_27 : decode cX7_tricksOf 27 = .ok (.ishl, 1) := by decide +kernel
theorem dX7_tricksOf_28 : decode cX7_tricksOf 28 = .ok (.goto 4, 3) := by decide +kernel
theorem dX7_tricksOf_31 : decode cX7_tricksOf 31 = .ok (.iconst 0, 1) := by decide +kernel
theorem dX7_tricksOf_32 : decode cX7_tricksOf 32 = .ok (.ior, 1) := by decide +kernel
theorem dX7_tricksOf_33 : decode cX7_tricksOf 33 = .ok (.istore_n 2, 1) := by decide +kernel
theorem dX7_tricksOf_34 : decode cX7_tricksOf 34 = .ok (.iinc 3 1, 3) := by decide +kernel
theorem dX7_tricksOf_37 : decode cX7_tricksOf 37 = .ok (.goto (-33), 3) := by decide +kernel
theorem dX7_tricksOf_40 : decode cX7_tricksOf 40 = .ok (.iload_n 2, 1) := by decide +kernel
theorem dX7_tricksOf_41 : decode cX7_tricksOf 41 = .ok (.ireturn, 1) := by decide +kernel
theorem dX7_task_0 : decode cX7_task 0 = .ok (.aload_n 0, 1) := by decide +kernel
theorem dX7_task_1 : decode cX7_task 1 = .ok (.iload_n 1, 1) := by decide +kernel
theorem dX7_task_2 : decode cX7_task 2 = .ok (.invokevirtual 191, 3) := by decide +kernel
theorem dX7_task_5 : decode cX7_task 5 = .ok (.ifCond .ne 8, 3) := by decide +kernel
theorem dX7_task_8 : decode cX7_task 8 = .ok (.ldc 181, 2) := by decide +kernel
theorem dX7_task_10 : decode cX7_task 10 = .ok (.goto 43, 3) := by decide +kernel
theorem dX7_task_13 : decode cX7_task 13 = .ok (.iload_n 2, 1) := by decide +kernel
theorem dX7_task_14 : decode cX7_task 14 = .ok (.i2l, 1) := by decide +kernel
theorem dX7_task_15 : decode cX7_task 15 = .ok (.lconst 0, 1) := by decide +kernel
theorem dX7_task_16 : decode cX7_task 16 = .ok (.ldc2_w 194, 3) := by decide +kernel
theorem dX7_task_19 : decode cX7_task 19 = .ok (.invokestatic 68, 3) := by decide +kernel
theorem dX7_task_22 : decode cX7_task 22 = .ok (.ifCond .eq 16, 3) := by decide +kernel
theorem dX7_task_25 : decode cX7_task 25 = .ok (.aload_n 0, 1) := by decide +kernel
theorem dX7_task_26 : decode cX7_task 26 = .ok (.getfield 33, 3) := by decide +kernel
theorem dX7_task_29 : decode cX7_task 29 = .ok (.iconst 4, 1) := by decide +kernel
theorem dX7_task_30 : decode cX7_task 30 = .ok (.iload_n 1, 1) := by decide +kernel
theorem dX7_task_31 : decode cX7_task 31 = .ok (.imul, 1) := by decide +kernel
theorem dX7_task_32 : decode cX7_task 32 = .ok (.iload_n 2, 1) := by decide +kernel
theorem dX7_task_33 : decode cX7_task 33 = .ok (.iadd, 1) := by decide +kernel
theorem dX7_task_34 : decode cX7_task 34 = .ok (.iaload, 1) := by decide +kernel
theorem dX7_task_35 : decode cX7_task 35 = .ok (.goto 18, 3) := by decide +kernel
theorem dX7_task_38 : decode cX7_task 38 = .ok (.iload_n 2, 1) := by decide +kernel
theorem dX7_task_39 : decode cX7_task 39 = .ok (.iconst 4, 1) := by decide +kernel
theorem dX7_task_40 : decode cX7_task 40 = .ok (.if_icmp .ne 11, 3) := by decide +kernel
theorem dX7_task_43 : decode cX7_task 43 = .ok (.aload_n 0, 1) := by decide +kernel
theorem dX7_task_44 : decode cX7_task 44 = .ok (.iload_n 1, 1) := by decide +kernel
theorem dX7_task_45 : decode cX7_task 45 = .ok (.invokevirtual 196, 3) := by decide +kernel
theorem dX7_task_48 : decode cX7_task 48 = .ok (.goto 5, 3) := by decide +kernel
theorem dX7_task_51 : decode cX7_task 51 = .ok (.ldc 72, 2) := by decide +kernel
theorem dX7_task_53 : decode cX7_task 53 = .ok (.ireturn, 1) := by decide +kernel
theorem dX7_trick_0 : decode cX7_trick 0 = .ok (.iload_n 1, 1) := by decide +kernel
theorem dX7_trick_1 : decode cX7_trick 1 = .ok (.i2l, 1) := by decide +kernel
theorem dX7_trick_2 : decode cX7_trick 2 = .ok (.lconst 0, 1) := by decide +kernel
theorem dX7_trick_3 : decode cX7_trick 3 = .ok (.aload_n 0, 1) := by decide +kernel
theorem dX7_trick_4 : decode cX7_trick 4 = .ok (.getfield 162, 3) := by decide +kernel
theorem dX7_trick_7 : decode cX7_trick 7 = .ok (.iconst 1, 1) := by decide +kernel
theorem dX7_trick_8 : decode cX7_trick 8 = .ok (.isub, 1) := by decide +kernel
theorem dX7_trick_9 : decode cX7_trick 9 = .ok (.i2l, 1) := by decide +kernel
theorem dX7_trick_10 : decode cX7_trick 10 = .ok (.invokestatic 68, 3) := by decide +kernel
theorem dX7_trick_13 : decode cX7_trick 13 = .ok (.ifCond .ne 8, 3) := by decide +kernel
theorem dX7_trick_16 : decode cX7_trick 16 = .ok (.ldc 181, 2) := by decide +kernel
theorem dX7_trick_18 : decode cX7_trick 18 = .ok (.goto 30, 3) := by decide +kernel
theorem dX7_trick_21 : decode cX7_trick 21 = .ok (.iload_n 2, 1) := by decide +kernel
theorem dX7_trick_22 : decode cX7_trick 22 = .ok (.i2l, 1) := by decide +kernel
theorem dX7_trick_23 : decode cX7_trick 23 = .ok (.lconst 0, 1) := by decide +kernel
theorem dX7_trick_24 : decode cX7_trick 24 = .ok (.ldc2_w 199, 3) := by decide +kernel
theorem dX7_trick_27 : decode cX7_trick 27 = .ok (.invokestatic 68, 3) := by decide +kernel
theorem dX7_trick_30 : decode cX7_trick 30 = .ok (.ifCond .eq 16, 3) := by decide +kernel
theorem dX7_trick_33 : decode cX7_trick 33 = .ok (.aload_n 0, 1) := by decide +kernel
theorem dX7_trick_34 : decode cX7_trick 34 = .ok (.getfield 36, 3) := by decide +kernel
theorem dX7_trick_37 : decode cX7_trick 37 = .ok (.iconst 3, 1) := by decide +kernel
theorem dX7_trick_38 : decode cX7_trick 38 = .ok (.iload_n 1, 1) := by decide +kernel
theorem dX7_trick_39 : decode cX7_trick 39 = .ok (.imul, 1) := by decide +kernel
theorem dX7_trick_40 : decode cX7_trick 40 = .ok (.iload_n 2, 1) := by decide +kernel
theorem dX7_trick_41 : decode cX7_trick 41 = .ok (.iadd, 1) := by decide +kernel
theorem dX7_trick_42 : decode cX7_trick 42 = .ok (.iaload, 1) := by decide +kernel
theorem dX7_trick_43 : decode cX7_trick 43 = .ok (.goto 5, 3) := by decide +kernel
theorem dX7_trick_46 : decode cX7_trick 46 = .ok (.ldc 72, 2) := by decide +kernel
theorem dX7_trick_48 : decode cX7_trick 48 = .ok (.ireturn, 1) := by decide +kernel
theorem dX7_doRead_0 : decode cX7_doRead 0 = .ok (.aload_n 0, 1) := by decide +kernel
theorem dX7_doRead_1 : decode cX7_doRead 1 = .ok (.iload_n 1, 1) := by decide +kernel
theorem dX7_doRead_2 : decode cX7_doRead 2 = .ok (.iload_n 2, 1) := by decide +kernel
theorem dX7_doRead_3 : decode cX7_doRead 3 = .ok (.aload_n 0, 1) := by decide +kernel
theorem dX7_doRead_4 : decode cX7_doRead 4 = .ok (.iload_n 1, 1) := by decide +kernel
theorem dX7_doRead_5 : decode cX7_doRead 5 = .ok (.iload_n 2, 1) := by decide +kernel
theorem dX7_doRead_6 : decode cX7_doRead 6 = .ok (.invokevirtual 168, 3) := by decide +kernel
theorem dX7_doRead_9 : decode cX7_doRead 9 = .ok (.aload_n 0, 1) := by decide +kernel
theorem dX7_doRead_10 : decode cX7_doRead 10 = .ok (.iload_n 2, 1) := by decide +kernel
theorem dX7_doRead_11 : decode cX7_doRead 11 = .ok (.invokevirtual 182, 3) := by decide +kernel
theorem dX7_doRead_14 : decode cX7_doRead 14 = .ok (.if_icmp .le 12, 3) := by decide +kernel
theorem dX7_doRead_17 : decode cX7_doRead 17 = .ok (.aload_n 0, 1) := by decide +kernel
theorem dX7_doRead_18 : decode cX7_doRead 18 = .ok (.iload_n 1, 1) := by decide +kernel
theorem dX7_doRead_19 : decode cX7_doRead 19 = .ok (.iload_n 2, 1) := by decide +kernel
theorem dX7_doRead_20 : decode cX7_doRead 20 = .ok (.invokevirtual 168, 3) := by decide +kernel
theorem dX7_doRead_23 : decode cX7_doRead 23 = .ok (.goto 8, 3) := by decide +kernel
theorem dX7_doRead_26 : decode cX7_doRead 26 = .ok (.aload_n 0, 1) := by decide +kernel
theorem dX7_doRead_27 : decode cX7_doRead 27 = .ok (.iload_n 2, 1) := by decide +kernel
theorem dX7_doRead_28 : decode cX7_doRead 28 = .ok (.invokevirtual 182, 3) := by decide +kernel
theorem dX7_doRead_31 : decode cX7_doRead 31 = .ok (.invokevirtual 201, 3) := by decide +kernel
theorem dX7_doRead_34 : decode cX7_doRead 34 = .ok (.return_, 1) := by decide +kernel
theorem dX7_read_0 : decode cX7_read 0 = .ok (.aload_n 0, 1) := by decide +kernel
theorem dX7_read_1 : decode cX7_read 1 = .ok (.iload_n 1, 1) := by decide +kernel
theorem dX7_read_2 : decode cX7_read 2 = .ok (.invokevirtual 188, 3) := by decide +kernel
theorem dX7_read_5 : decode cX7_read 5 = .ok (.ifCond .eq 11, 3) := by decide +kernel
theorem dX7_read_8 : decode cX7_read 8 = .ok (.aload_n 0, 1) := by decide +kernel
theorem dX7_read_9 : decode cX7_read 9 = .ok (.iload_n 2, 1) := by decide +kernel
theorem dX7_read_10 : decode cX7_read 10 = .ok (.invokevirtual 178, 3) := by decide +kernel
theorem dX7_read_13 : decode cX7_read 13 = .ok (.ifCond .ne 6, 3) := by decide +kernel
theorem dX7_read_16 : decode cX7_read 16 = .ok (.ldc 181, 2) := by decide +kernel
theorem dX7_read_18 : decode cX7_read 18 = .ok (.ireturn, 1) := by decide +kernel
theorem dX7_read_19 : decode cX7_read 19 = .ok (.aload_n 0, 1) := by decide +kernel
theorem dX7_read_20 : decode cX7_read 20 = .ok (.iload_n 1, 1) := by decide +kernel
theorem dX7_read_21 : decode cX7_read 21 = .ok (.iload_n 2, 1) := by decide +kernel
theorem dX7_read_22 : decode cX7_read 22 = .ok (.invokevirtual 205, 3) := by decide +kernel
theorem dX7_read_25 : decode cX7_read 25 = .ok (.aload_n 0, 1) := by decide +kernel
theorem dX7_read_26 : decode cX7_read 26 = .ok (.iload_n 1, 1) := by decide +kernel
theorem dX7_read_27 : decode cX7_read 27 = .ok (.iload_n 2, 1) := by decide +kernel
theorem dX7_read_28 : decode cX7_read 28 = .ok (.invokevirtual 168, 3) := by decide +kernel
theorem dX7_read_31 : decode cX7_read 31 = .ok (.ireturn, 1) := by decide +kernel
theorem dX7_doRumour_0 : decode cX7_doRumour 0 = .ok (.iconst 0, 1) := by decide +kernel
theorem dX7_doRumour_1 : decode cX7_doRumour 1 = .ok (.istore_n 2, 1) := by decide +kernel
theorem dX7_doRumour_2 : decode cX7_doRumour 2 = .ok (.iconst 0, 1) := by decide +kernel
theorem dX7_doRumour_3 : decode cX7_doRumour 3 = .ok (.istore_n 3, 1) := by decide +kernel
theorem dX7_doRumour_4 : decode cX7_doRumour 4 = .ok (.iload_n 3, 1) := by decide +kernel
theorem dX7_doRumour_5 : decode cX7_doRumour 5 = .ok (.aload_n 0, 1) := by decide +kernel
theorem dX7_doRumour_6 : decode cX7_doRumour 6 = .ok (.getfield 150, 3) := by decide +kernel
theorem dX7_doRumour_9 : decode cX7_doRumour 9 = .ok (.if_icmp .ge 114, 3) := by decide +kernel
theorem dX7_doRumour_12 : decode cX7_doRumour 12 = .ok (.aload_n 0, 1) := by decide +kernel
theorem dX7_doRumour_13 : decode cX7_doRumour 13 = .ok (.getfield 60, 3) := by decide +kernel
theorem dX7_doRumour_16 : decode cX7_doRumour 16 = .ok (.iload_n 3, 1) := by decide +kernel
theorem dX7_doRumour_17 : decode cX7_doRumour 17 = .ok (.aload_n 0, 1) := by decide +kernel
theorem dX7_doRumour_18 : decode cX7_doRumour 18 = .ok (.iload_n 3, 1) := by decide +kernel
theorem dX7_doRumour_19 : decode cX7_doRumour 19 = .ok (.iload_n 1, 1) := by decide +kernel
theorem dX7_doRumour_20 : decode cX7_doRumour 20 = .ok (.invokevirtual 168, 3) := by decide +kernel
theorem dX7_doRumour_23 : decode cX7_doRumour 23 = .ok (.iastore, 1) := by decide +kernel
theorem dX7_doRumour_24 : decode cX7_doRumour 24 = .ok (.iconst 0, 1) := by decide +kernel
theorem dX7_doRumour_25 : decode cX7_doRumour 25 = .ok (.istore 4, 2) := by decide +kernel
theorem dX7_doRumour_27 : decode cX7_doRumour 27 = .ok (.iload 4, 2) := by decide +kernel
theorem dX7_doRumour_29 : decode cX7_doRumour 29 = .ok (.aload_n 0, 1) := by decide +kernel
theorem dX7_doRumour_30 : decode cX7_doRumour 30 = .ok (.getfield 150, 3) := by decide +kernel
theorem dX7_doRumour_33 : decode cX7_doRumour 33 = .ok (.if_icmp .ge 61, 3) := by decide +kernel
theorem dX7_doRumour_36 : decode cX7_doRumour 36 = .ok (.aload_n 0, 1) := by decide +kernel
theorem dX7_doRumour_37 : decode cX7_doRumour 37 = .ok (.getfield 60, 3) := by decide +kernel
theorem dX7_doRumour_40 : decode cX7_doRumour 40 = .ok (.iload_n 3, 1) := by decide +kernel
theorem dX7_doRumour_41 : decode cX7_doRumour 41 = .ok (.aload_n 0, 1) := by decide +kernel
theorem dX7_doRumour_42 : decode cX7_doRumour 42 = .ok (.getfield 30, 3) := by decide +kernel
theorem dX7_doRumour_45 : decode cX7_doRumour 45 = .ok (.iload_n 3, 1) := by decide +kernel
theorem dX7_doRumour_46 : decode cX7_doRumour 46 = .ok (.iaload, 1) := by decide +kernel
theorem dX7_doRumour_47 : decode cX7_doRumour 47 = .ok (.iload 4, 2) := by decide +kernel
theorem dX7_doRumour_49 : decode cX7_doRumour 49 = .ok (.invokestatic 112, 3) := by decide +kernel
theorem dX7_doRumour_52 : decode cX7_doRumour 52 = .ok (.ifCond .eq 29, 3) := by decide +kernel
theorem dX7_doRumour_55 : decode cX7_doRumour 55 = .ok (.aload_n 0, 1) := by decide +kernel
theorem dX7_doRumour_56 : decode cX7_doRumour 56 = .ok (.iload 4, 2) := by decide +kernel
theorem dX7_doRumour_58 : decode cX7_doRumour 58 = .ok (.iload_n 1, 1) := by decide +kernel
theorem dX7_doRumour_59 : decode cX7_doRumour 59 = .ok (.invokevirtual 168, 3) := by decide +kernel
theorem dX7_doRumour_62 : decode cX7_doRumour 62 = .ok (.aload_n 0, 1) := by decide +kernel
theorem dX7_doRumour_63 : decode cX7_doRumour 63 = .ok (.getfield 60, 3) := by decide +kernel
theorem dX7_doRumour_66 : decode cX7_doRumour 66 = .ok (.iload_n 3, 1) := by decide +kernel
theorem dX7_doRumour_67 : decode cX7_doRumour 67 = .ok (.iaload, 1) := by decide +kernel
theorem dX7_doRumour_68 : decode cX7_doRumour 68 = .ok (.if_icmp .le 13, 3) := by decide +kernel
theorem dX7_doRumour_71 : decode cX7_doRumour 71 = .ok (.aload_n 0, 1) := by decide +kernel
theorem dX7_doRumour_72 : decode cX7_doRumour 72 = .ok (.iload 4, 2) := by decide +kernel
theorem dX7_doRumour_74 : decode cX7_doRumour 74 = .ok (.iload_n 1, 1) := by decide +kernel
theorem dX7_doRumour_75 : decode cX7_doRumour 75 = .ok (.invokevirtual 168, 3) := by decide +kernel
theorem dX7_doRumour_78 : decode cX7_doRumour 78 = .ok (.goto 9, 3) := by decide +kernel
theorem dX7_doRumour_81 : decode cX7_doRumour 81 = .ok (.aload_n 0, 1) := by decide +kernel
theorem dX7_doRumour_82 : decode cX7_doRumour 82 = .ok (.getfield 60, 3) := by decide +kernel
theorem dX7_doRumour_85 : decode cX7_doRumour 85 = .ok (.iload_n 3, 1) := by decide +kernel
theorem dX7_doRumour_86 : decode cX7_doRumour 86 = .ok (.iaload, 1) := by decide +kernel
theorem dX7_doRumour_87 : decode cX7_doRumour 87 = .ok (.iastore, 1) := by decide +kernel
theorem dX7_doRumour_88 : decode cX7_doRumour 88 = .ok (.iinc 4 1, 3) := by decide +kernel
theorem dX7_doRumour_91 : decode cX7_doRumour 91 = .ok (.goto (-64), 3) := by decide +kernel
theorem dX7_doRumour_94 : decode cX7_doRumour 94 = .ok (.iload_n 2, 1) := by decide +kernel
theorem dX7_doRumour_95 : decode cX7_doRumour 95 = .ok (.aload_n 0, 1) := by decide +kernel
theorem dX7_doRumour_96 : decode cX7_doRumour 96 = .ok (.getfield 60, 3) := by decide +kernel
theorem dX7_doRumour_99 : decode cX7_doRumour 99 = .ok (.iload_n 3, 1) := by decide +kernel
theorem dX7_doRumour_100 : decode cX7_doRumour 100 = .ok (.iaload, 1) := by decide +kernel
theorem dX7_doRumour_101 : decode cX7_doRumour 101 = .ok (.aload_n 0, 1) := by decide +kernel
theorem dX7_doRumour_102 : decode cX7_doRumour 102 = .ok (.iload_n 3, 1) := by decide +kernel
theorem dX7_doRumour_103 : decode cX7_doRumour 103 = .ok (.iload_n 1, 1) := by decide +kernel
theorem dX7_doRumour_104 : decode cX7_doRumour 104 = .ok (.invokevirtual 168, 3) := by decide +kernel
theorem dX7_doRumour_107 : decode cX7_doRumour 107 = .ok (.if_icmp .le 7, 3) := by decide +kernel
theorem dX7_doRumour_110 : decode cX7_doRumour 110 = .ok (.iconst 1, 1) := by decide +kernel
theorem dX7_doRumour_111 : decode cX7_doRumour 111 = .ok (.goto 4, 3) := by decide +kernel
theorem dX7_doRumour_114 : decode cX7_doRumour 114 = .ok (.iconst 0, 1) := by decide +kernel
theorem dX7_doRumour_115 : decode cX7_doRumour 115 = .ok (.iadd, 1) := by decide +kernel
theorem dX7_doRumour_116 : decode cX7_doRumour 116 = .ok (.istore_n 2, 1) := by decide +kernel
theorem dX7_doRumour_117 : decode cX7_doRumour 117 = .ok (.iinc 3 1, 3) := by decide +kernel
theorem dX7_doRumour_120 : decode cX7_doRumour 120 = .ok (.goto (-116), 3) := by decide +kernel
theorem dX7_doRumour_123 : decode cX7_doRumour 123 = .ok (.iconst 0, 1) := by decide +kernel
theorem dX7_doRumour_124 : decode cX7_doRumour 124 = .ok (.istore_n 3, 1) := by decide +kernel
theorem dX7_doRumour_125 : decode cX7_doRumour 125 = .ok (.iload_n 3, 1) := by decide +kernel
theorem dX7_doRumour_126 : decode cX7_doRumour 126 = .ok (.aload_n 0, 1) := by decide +kernel
theorem dX7_doRumour_127 : decode cX7_doRumour 127 = .ok (.getfield 150, 3) := by decide +kernel
theorem dX7_doRumour_130 : decode cX7_doRumour 130 = .ok (.if_icmp .ge 21, 3) := by decide +kernel
theorem dX7_doRumour_133 : decode cX7_doRumour 133 = .ok (.aload_n 0, 1) := by decide +kernel
theorem dX7_doRumour_134 : decode cX7_doRumour 134 = .ok (.iload_n 3, 1) := by decide +kernel
theorem dX7_doRumour_135 : decode cX7_doRumour 135 = .ok (.iload_n 1, 1) := by decide +kernel
theorem dX7_doRumour_136 : decode cX7_doRumour 136 = .ok (.aload_n 0, 1) := by decide +kernel
theorem dX7_doRumour_137 : decode cX7_doRumour 137 = .ok (.getfield 60, 3) := by decide +kernel
theorem dX7_doRumour_140 : decode cX7_doRumour 140 = .ok (.iload_n 3, 1) := by decide +kernel
theorem dX7_doRumour_141 : decode cX7_doRumour 141 = .ok (.iaload, 1) := by decide +kernel
theorem dX7_doRumour_142 : decode cX7_doRumour 142 = .ok (.invokevirtual 201, 3) := by decide +kernel
theorem dX7_doRumour_145 : decode cX7_doRumour 145 = .ok (.iinc 3 1, 3) := by decide +kernel
theorem dX7_doRumour_148 : decode cX7_doRumour 148 = .ok (.goto (-23), 3) := by decide +kernel
theorem dX7_doRumour_151 : decode cX7_doRumour 151 = .ok (.iload_n 2, 1) := by decide +kernel
theorem dX7_doRumour_152 : decode cX7_doRumour 152 = .ok (.ireturn, 1) := by decide +kernel
theorem dX7_rumour_0 : decode cX7_rumour 0 = .ok (.aload_n 0, 1) := by decide +kernel
theorem dX7_rumour_1 : decode cX7_rumour 1 = .ok (.iload_n 1, 1) := by decide +kernel
theorem dX7_rumour_2 : decode cX7_rumour 2 = .ok (.invokevirtual 178, 3) := by decide +kernel
theorem dX7_rumour_5 : decode cX7_rumour 5 = .ok (.ifCond .eq 11, 3) := by decide +kernel
theorem dX7_rumour_8 : decode cX7_rumour 8 = .ok (.aload_n 0, 1) := by decide +kernel
theorem dX7_rumour_9 : decode cX7_rumour 9 = .ok (.iload_n 1, 1) := by decide +kernel
theorem dX7_rumour_10 : decode cX7_rumour 10 = .ok (.invokevirtual 209, 3) := by decide +kernel
theorem dX7_rumour_13 : decode cX7_rumour 13 = .ok (.goto 5, 3) := by decide +kernel
theorem dX7_rumour_16 : decode cX7_rumour 16 = .ok (.ldc 181, 2) := by decide +kernel
theorem dX7_rumour_18 : decode cX7_rumour 18 = .ok (.ireturn, 1) := by decide +kernel
theorem dX7_doInspect_0 : decode cX7_doInspect 0 = .ok (.aload_n 0, 1) := by decide +kernel
theorem dX7_doInspect_1 : decode cX7_doInspect 1 = .ok (.iload_n 1, 1) := by decide +kernel
theorem dX7_doInspect_2 : decode cX7_doInspect 2 = .ok (.iload_n 2, 1) := by decide +kernel
theorem dX7_doInspect_3 : decode cX7_doInspect 3 = .ok (.aload_n 0, 1) := by decide +kernel
theorem dX7_doInspect_4 : decode cX7_doInspect 4 = .ok (.getfield 27, 3) := by decide +kernel
theorem dX7_doInspect_7 : decode cX7_doInspect 7 = .ok (.iload_n 2, 1) := by decide +kernel
theorem dX7_doInspect_8 : decode cX7_doInspect 8 = .ok (.iaload, 1) := by decide +kernel
theorem dX7_doInspect_9 : decode cX7_doInspect 9 = .ok (.invokevirtual 201, 3) := by decide +kernel
theorem dX7_doInspect_12 : decode cX7_doInspect 12 = .ok (.aload_n 0, 1) := by decide +kernel
theorem dX7_doInspect_13 : decode cX7_doInspect 13 = .ok (.getfield 7, 3) := by decide +kernel
theorem dX7_doInspect_16 : decode cX7_doInspect 16 = .ok (.iconst 0, 1) := by decide +kernel
theorem dX7_doInspect_17 : decode cX7_doInspect 17 = .ok (.iload_n 2, 1) := by decide +kernel
theorem dX7_doInspect_18 : decode cX7_doInspect 18 = .ok (.iadd, 1) := by decide +kernel
theorem dX7_doInspect_19 : decode cX7_doInspect 19 = .ok (.aload_n 0, 1) := by decide +kernel
theorem dX7_doInspect_20 : decode cX7_doInspect 20 = .ok (.getfield 24, 3) := by decide +kernel
theorem dX7_doInspect_23 : decode cX7_doInspect 23 = .ok (.iload_n 2, 1) := by decide +kernel
theorem dX7_doInspect_24 : decode cX7_doInspect 24 = .ok (.iaload, 1) := by decide +kernel
theorem dX7_doInspect_25 : decode cX7_doInspect 25 = .ok (.iconst 3, 1) := by decide +kernel
theorem dX7_doInspect_26 : decode cX7_doInspect 26 = .ok (.if_icmp .ne 7, 3) := by decide +kernel
theorem dX7_doInspect_29 : decode cX7_doInspect 29 = .ok (.iconst 0, 1) := by decide +kernel
theorem dX7_doInspect_30 : decode cX7_doInspect 30 = .ok (.goto 11, 3) := by decide +kernel
theorem dX7_doInspect_33 : decode cX7_doInspect 33 = .ok (.aload_n 0, 1) := by decide +kernel
theorem dX7_doInspect_34 : decode cX7_doInspect 34 = .ok (.getfield 7, 3) := by decide +kernel
theorem dX7_doInspect_37 : decode cX7_doInspect 37 = .ok (.iconst 0, 1) := by decide +kernel
theorem dX7_doInspect_38 : decode cX7_doInspect 38 = .ok (.iload_n 2, 1) := by decide +kernel
theorem dX7_doInspect_39 : decode cX7_doInspect 39 = .ok (.iadd, 1) := by decide +kernel
theorem dX7_doInspect_40 : decode cX7_doInspect 40 = .ok (.iaload, 1) := by decide +kernel
theorem dX7_doInspect_41 : decode cX7_doInspect 41 = .ok (.iastore, 1) := by decide +kernel
theorem dX7_doInspect_42 : decode cX7_doInspect 42 = .ok (.return_, 1) := by decide +kernel
theorem dX7_inspect_0 : decode cX7_inspect 0 = .ok (.aload_n 0, 1) := by decide +kernel
theorem dX7_inspect_1 : decode cX7_inspect 1 = .ok (.iload_n 1, 1) := by decide +kernel
theorem dX7_inspect_2 : decode cX7_inspect 2 = .ok (.invokevirtual 188, 3) := by decide +kernel
theorem dX7_inspect_5 : decode cX7_inspect 5 = .ok (.ifCond .eq 11, 3) := by decide +kernel
theorem dX7_inspect_8 : decode cX7_inspect 8 = .ok (.aload_n 0, 1) := by decide +kernel
theorem dX7_inspect_9 : decode cX7_inspect 9 = .ok (.iload_n 2, 1) := by decide +kernel
theorem dX7_inspect_10 : decode cX7_inspect 10 = .ok (.invokevirtual 178, 3) := by decide +kernel
theorem dX7_inspect_13 : decode cX7_inspect 13 = .ok (.ifCond .ne 6, 3) := by decide +kernel
theorem dX7_inspect_16 : decode cX7_inspect 16 = .ok (.ldc 181, 2) := by decide +kernel
theorem dX7_inspect_18 : decode cX7_inspect 18 = .ok (.ireturn, 1) := by decide +kernel
theorem dX7_inspect_19 : decode cX7_inspect 19 = .ok (.aload_n 0, 1) := by decide +kernel
theorem dX7_inspect_20 : decode cX7_inspect 20 = .ok (.iload_n 1, 1) := by decide +kernel
theorem dX7_inspect_21 : decode cX7_inspect 21 = .ok (.iload_n 2, 1) := by decide +kernel
theorem dX7_inspect_22 : decode cX7_inspect 22 = .ok (.invokevirtual 212, 3) := by decide +kernel
theorem dX7_inspect_25 : decode cX7_inspect 25 = .ok (.aload_n 0, 1) := by decide +kernel
theorem dX7_inspect_26 : decode cX7_inspect 26 = .ok (.getfield 27, 3) := by decide +kernel
theorem dX7_inspect_29 : decode cX7_inspect 29 = .ok (.iload_n 2, 1) := by decide +kernel
theorem dX7_inspect_30 : decode cX7_inspect 30 = .ok (.iaload, 1) := by decide +kernel
theorem dX7_inspect_31 : decode cX7_inspect 31 = .ok (.ireturn, 1) := by decide +kernel
theorem dX7_belt_0 : decode cX7_belt 0 = .ok (.aload_n 0, 1) := by decide +kernel
theorem dX7_belt_1 : decode cX7_belt 1 = .ok (.iload_n 1, 1) := by decide +kernel
theorem dX7_belt_2 : decode cX7_belt 2 = .ok (.invokevirtual 178, 3) := by decide +kernel
theorem dX7_belt_5 : decode cX7_belt 5 = .ok (.ifCond .ne 6, 3) := by decide +kernel
theorem dX7_belt_8 : decode cX7_belt 8 = .ok (.ldc 181, 2) := by decide +kernel
theorem dX7_belt_10 : decode cX7_belt 10 = .ok (.ireturn, 1) := by decide +kernel
theorem dX7_belt_11 : decode cX7_belt 11 = .ok (.iload_n 2, 1) := by decide +kernel
theorem dX7_belt_12 : decode cX7_belt 12 = .ok (.i2l, 1) := by decide +kernel
theorem dX7_belt_13 : decode cX7_belt 13 = .ok (.lconst 0, 1) := by decide +kernel
theorem dX7_belt_14 : decode cX7_belt 14 = .ok (.ldc2_w 215, 3) := by decide +kernel
theorem dX7_belt_17 : decode cX7_belt 17 = .ok (.invokestatic 68, 3) := by decide +kernel
theorem dX7_belt_20 : decode cX7_belt 20 = .ok (.ifCond .ne 6, 3) := by decide +kernel
theorem dX7_belt_23 : decode cX7_belt 23 = .ok (.ldc 72, 2) := by decide +kernel
theorem dX7_belt_25 : decode cX7_belt 25 = .ok (.ireturn, 1) := by decide +kernel
theorem dX7_belt_26 : decode cX7_belt 26 = .ok (.aload_n 0, 1) := by decide +kernel
theorem dX7_belt_27 : decode cX7_belt 27 = .ok (.getfield 7, 3) := by decide +kernel
theorem dX7_belt_30 : decode cX7_belt 30 = .ok (.iconst 0, 1) := by decide +kernel
theorem dX7_belt_31 : decode cX7_belt 31 = .ok (.iload_n 1, 1) := by decide +kernel
theorem dX7_belt_32 : decode cX7_belt 32 = .ok (.iadd, 1) := by decide +kernel
theorem dX7_belt_33 : decode cX7_belt 33 = .ok (.iaload, 1) := by decide +kernel
theorem dX7_belt_34 : decode cX7_belt 34 = .ok (.istore_n 3, 1) := by decide +kernel
theorem dX7_belt_35 : decode cX7_belt 35 = .ok (.aload_n 0, 1) := by decide +kernel
theorem dX7_belt_36 : decode cX7_belt 36 = .ok (.getfield 7, 3) := by decide +kernel
theorem dX7_belt_39 : decode cX7_belt 39 = .ok (.iconst 0, 1) := by decide +kernel
theorem dX7_belt_40 : decode cX7_belt 40 = .ok (.iload_n 1, 1) := by decide +kernel
theorem dX7_belt_41 : decode cX7_belt 41 = .ok (.iadd, 1) := by decide +kernel
theorem dX7_belt_42 : decode cX7_belt 42 = .ok (.iload_n 2, 1) := by decide +kernel
theorem dX7_belt_43 : decode cX7_belt 43 = .ok (.iastore, 1) := by decide +kernel
theorem dX7_belt_44 : decode cX7_belt 44 = .ok (.iload_n 3, 1) := by decide +kernel
theorem dX7_belt_45 : decode cX7_belt 45 = .ok (.ireturn, 1) := by decide +kernel
theorem dX7_passes_0 : decode cX7_passes 0 = .ok (.aload_n 0, 1) := by decide +kernel
theorem dX7_passes_1 : decode cX7_passes 1 = .ok (.getfield 33, 3) := by decide +kernel
theorem dX7_passes_4 : decode cX7_passes 4 = .ok (.iconst 4, 1) := by decide +kernel
theorem dX7_passes_5 : decode cX7_passes 5 = .ok (.iload_n 2, 1) := by decide +kernel
theorem dX7_passes_6 : decode cX7_passes 6 = .ok (.imul, 1) := by decide +kernel
theorem dX7_passes_7 : decode cX7_passes 7 = .ok (.iconst 1, 1) := by decide +kernel
theorem dX7_passes_8 : decode cX7_passes 8 = .ok (.iadd, 1) := by decide +kernel
theorem dX7_passes_9 : decode cX7_passes 9 = .ok (.iaload, 1) := by decide +kernel
theorem dX7_passes_10 : decode cX7_passes 10 = .ok (.istore 5, 2) := by decide +kernel
theorem dX7_passes_12 : decode cX7_passes 12 = .ok (.iload 5, 2) := by decide +kernel
theorem dX7_passes_14 : decode cX7_passes 14 = .ok (.istore 6, 2) := by decide +kernel
theorem dX7_passes_16 : decode cX7_passes 16 = .ok (.iconst 0, 1) := by decide +kernel
theorem dX7_passes_17 : decode cX7_passes 17 = .ok (.istore 7, 2) := by decide +kernel
theorem dX7_passes_19 : decode cX7_passes 19 = .ok (.iload 7, 2) := by decide +kernel
theorem dX7_passes_21 : decode cX7_passes 21 = .ok (.aload_n 0, 1) := by decide +kernel
theorem dX7_passes_22 : decode cX7_passes 22 = .ok (.getfield 162, 3) := by decide +kernel
theorem dX7_passes_25 : decode cX7_passes 25 = .ok (.if_icmp .ge 54, 3) := by decide +kernel
theorem dX7_passes_28 : decode cX7_passes 28 = .ok (.iload 6, 2) := by decide +kernel
theorem dX7_passes_30 : decode cX7_passes 30 = .ok (.iload_n 3, 1) := by decide +kernel
theorem dX7_passes_31 : decode cX7_passes 31 = .ok (.iload 7, 2) := by decide +kernel
theorem dX7_passes_33 : decode cX7_passes 33 = .ok (.invokestatic 112, 3) := by decide +kernel
theorem dX7_passes_36 : decode cX7_passes 36 = .ok (.ifCond .eq 33, 3) := by decide +kernel
theorem dX7_passes_39 : decode cX7_passes 39 = .ok (.aload_n 0, 1) := by decide +kernel
theorem dX7_passes_40 : decode cX7_passes 40 = .ok (.getfield 36, 3) := by decide +kernel
theorem dX7_passes_43 : decode cX7_passes 43 = .ok (.iconst 3, 1) := by decide +kernel
theorem dX7_passes_44 : decode cX7_passes 44 = .ok (.iload 7, 2) := by decide +kernel
theorem dX7_passes_46 : decode cX7_passes 46 = .ok (.imul, 1) := by decide +kernel
theorem dX7_passes_47 : decode cX7_passes 47 = .ok (.iconst 2, 1) := by decide +kernel
theorem dX7_passes_48 : decode cX7_passes 48 = .ok (.iadd, 1) := by decide +kernel
theorem dX7_passes_49 : decode cX7_passes 49 = .ok (.iaload, 1) := by decide +kernel
theorem dX7_passes_50 : decode cX7_passes 50 = .ok (.iload 4, 2) := by decide +kernel
theorem dX7_passes_52 : decode cX7_passes 52 = .ok (.if_icmp .gt 17, 3) := by decide +kernel
theorem dX7_passes_55 : decode cX7_passes 55 = .ok (.aload_n 0, 1) := by decide +kernel
theorem dX7_passes_56 : decode cX7_passes 56 = .ok (.getfield 36, 3) := by decide +kernel
theorem dX7_passes_59 : decode cX7_passes 59 = .ok (.iconst 3, 1) := by decide +kernel
theorem dX7_passes_60 : decode cX7_passes 60 = .ok (.iload 7, 2) := by decide +kernel
theorem dX7_passes_62 : decode cX7_passes 62 = .ok (.imul, 1) := by decide +kernel
theorem dX7_passes_63 : decode cX7_passes 63 = .ok (.iconst 1, 1) := by decide +kernel
theorem dX7_passes_64 : decode cX7_passes 64 = .ok (.iadd, 1) := by decide +kernel
theorem dX7_passes_65 : decode cX7_passes 65 = .ok (.iaload, 1) := by decide +kernel
theorem dX7_passes_66 : decode cX7_passes 66 = .ok (.goto 4, 3) := by decide +kernel
theorem dX7_passes_69 : decode cX7_passes 69 = .ok (.iconst 0, 1) := by decide +kernel
theorem dX7_passes_70 : decode cX7_passes 70 = .ok (.isub, 1) := by decide +kernel
theorem dX7_passes_71 : decode cX7_passes 71 = .ok (.istore 6, 2) := by decide +kernel
theorem dX7_passes_73 : decode cX7_passes 73 = .ok (.iinc 7 1, 3) := by decide +kernel
theorem dX7_passes_76 : decode cX7_passes 76 = .ok (.goto (-57), 3) := by decide +kernel
theorem dX7_passes_79 : decode cX7_passes 79 = .ok (.iload 6, 2) := by decide +kernel
theorem dX7_passes_81 : decode cX7_passes 81 = .ok (.ifCond .ge 7, 3) := by decide +kernel
theorem dX7_passes_84 : decode cX7_passes 84 = .ok (.iconst 0, 1) := by decide +kernel
theorem dX7_passes_85 : decode cX7_passes 85 = .ok (.goto 5, 3) := by decide +kernel
theorem dX7_passes_88 : decode cX7_passes 88 = .ok (.iload 6, 2) := by decide +kernel
theorem dX7_passes_90 : decode cX7_passes 90 = .ok (.istore 6, 2) := by decide +kernel
theorem dX7_passes_92 : decode cX7_passes 92 = .ok (.aload_n 0, 1) := by decide +kernel
theorem dX7_passes_93 : decode cX7_passes 93 = .ok (.getfield 24, 3) := by decide +kernel
theorem dX7_passes_96 : decode cX7_passes 96 = .ok (.iload_n 1, 1) := by decide +kernel
theorem dX7_passes_97 : decode cX7_passes 97 = .ok (.iaload, 1) := by decide +kernel
theorem dX7_passes_98 : decode cX7_passes 98 = .ok (.iconst 4, 1) := by decide +kernel
theorem dX7_passes_99 : decode cX7_passes 99 = .ok (.if_icmp .eq 25, 3) := by decide +kernel
theorem dX7_passes_102 : decode cX7_passes 102 = .ok (.aload_n 0, 1) := by decide +kernel
theorem dX7_passes_103 : decode cX7_passes 103 = .ok (.getfield 27, 3) := by decide +kernel
theorem dX7_passes_106 : decode cX7_passes 106 = .ok (.iload_n 1, 1) := by decide +kernel
theorem dX7_passes_107 : decode cX7_passes 107 = .ok (.iaload, 1) := by decide +kernel
theorem dX7_passes_108 : decode cX7_passes 108 = .ok (.iload 6, 2) := by decide +kernel
theorem dX7_passes_110 : decode cX7_passes 110 = .ok (.if_icmp .ge 10, 3) := by decide +kernel
theorem dX7_passes_113 : decode cX7_passes 113 = .ok (.iload 4, 2) := by decide +kernel
theorem dX7_passes_115 : decode cX7_passes 115 = .ok (.iload 5, 2) := by decide +kernel
theorem dX7_passes_117 : decode cX7_passes 117 = .ok (.if_icmp .le 7, 3) := by decide +kernel
theorem dX7_passes_120 : decode cX7_passes 120 = .ok (.iconst 1, 1) := by decide +kernel
theorem dX7_passes_121 : decode cX7_passes 121 = .ok (.goto 4, 3) := by decide +kernel
theorem dX7_passes_124 : decode cX7_passes 124 = .ok (.iconst 0, 1) := by decide +kernel
theorem dX7_passes_125 : decode cX7_passes 125 = .ok (.ireturn, 1) := by decide +kernel
theorem dX7_attempt_0 : decode cX7_attempt 0 = .ok (.aload_n 0, 1) := by decide +kernel
theorem dX7_attempt_1 : decode cX7_attempt 1 = .ok (.iload_n 1, 1) := by decide +kernel
theorem dX7_attempt_2 : decode cX7_attempt 2 = .ok (.invokevirtual 178, 3) := by decide +kernel
theorem dX7_attempt_5 : decode cX7_attempt 5 = .ok (.ifCond .eq 29, 3) := by decide +kernel
theorem dX7_attempt_8 : decode cX7_attempt 8 = .ok (.aload_n 0, 1) := by decide +kernel
theorem dX7_attempt_9 : decode cX7_attempt 9 = .ok (.iload_n 2, 1) := by decide +kernel
theorem dX7_attempt_10 : decode cX7_attempt 10 = .ok (.invokevirtual 191, 3) := by decide +kernel
theorem dX7_attempt_13 : decode cX7_attempt 13 = .ok (.ifCond .eq 21, 3) := by decide +kernel
theorem dX7_attempt_16 : decode cX7_attempt 16 = .ok (.iload_n 3, 1) := by decide +kernel
theorem dX7_attempt_17 : decode cX7_attempt 17 = .ok (.i2l, 1) := by decide +kernel
theorem dX7_attempt_18 : decode cX7_attempt 18 = .ok (.lconst 0, 1) := by decide +kernel
theorem dX7_attempt_19 : decode cX7_attempt 19 = .ok (.iconst 1, 1) := by decide +kernel
theorem dX7_attempt_20 : decode cX7_attempt 20 = .ok (.aload_n 0, 1) := by decide +kernel
theorem dX7_attempt_21 : decode cX7_attempt 21 = .ok (.getfield 162, 3) := by decide +kernel
theorem dX7_attempt_24 : decode cX7_attempt 24 = .ok (.ishl, 1) := by decide +kernel
theorem dX7_attempt_25 : decode cX7_attempt 25 = .ok (.iconst 1, 1) := by decide +kernel
theorem dX7_attempt_26 : decode cX7_attempt 26 = .ok (.isub, 1) := by decide +kernel
theorem dX7_attempt_27 : decode cX7_attempt 27 = .ok (.i2l, 1) := by decide +kernel
theorem dX7_attempt_28 : decode cX7_attempt 28 = .ok (.invokestatic 68, 3) := by decide +kernel
theorem dX7_attempt_31 : decode cX7_attempt 31 = .ok (.ifCond .ne 6, 3) := by decide +kernel
theorem dX7_attempt_34 : decode cX7_attempt 34 = .ok (.ldc 181, 2) := by decide +kernel
theorem dX7_attempt_36 : decode cX7_attempt 36 = .ok (.ireturn, 1) := by decide +kernel
theorem dX7_attempt_37 : decode cX7_attempt 37 = .ok (.aload_n 0, 1) := by decide +kernel
theorem dX7_attempt_38 : decode cX7_attempt 38 = .ok (.getfield 7, 3) := by decide +kernel
theorem dX7_attempt_41 : decode cX7_attempt 41 = .ok (.bipush 35, 2) := by decide +kernel
theorem dX7_attempt_43 : decode cX7_attempt 43 = .ok (.iload_n 1, 1) := by decide +kernel
theorem dX7_attempt_44 : decode cX7_attempt 44 = .ok (.iadd, 1) := by decide +kernel
theorem dX7_attempt_45 : decode cX7_attempt 45 = .ok (.iaload, 1) := by decide +kernel
theorem dX7_attempt_46 : decode cX7_attempt 46 = .ok (.iload_n 2, 1) := by decide +kernel
theorem dX7_attempt_47 : decode cX7_attempt 47 = .ok (.invokestatic 112, 3) := by decide +kernel
theorem dX7_attempt_50 : decode cX7_attempt 50 = .ok (.ifCond .ne 29, 3) := by decide +kernel
theorem dX7_attempt_53 : decode cX7_attempt 53 = .ok (.iload_n 3, 1) := by decide +kernel
theorem dX7_attempt_54 : decode cX7_attempt 54 = .ok (.aload_n 0, 1) := by decide +kernel
theorem dX7_attempt_55 : decode cX7_attempt 55 = .ok (.iload_n 2, 1) := by decide +kernel
theorem dX7_attempt_56 : decode cX7_attempt 56 = .ok (.invokevirtual 196, 3) := by decide +kernel
theorem dX7_attempt_59 : decode cX7_attempt 59 = .ok (.iconst (-1), 1) := by decide +kernel
theorem dX7_attempt_60 : decode cX7_attempt 60 = .ok (.ixor, 1) := by decide +kernel
theorem dX7_attempt_61 : decode cX7_attempt 61 = .ok (.iand, 1) := by decide +kernel
theorem dX7_attempt_62 : decode cX7_attempt 62 = .ok (.ifCond .ne 17, 3) := by decide +kernel
theorem dX7_attempt_65 : decode cX7_attempt 65 = .ok (.iload_n 3, 1) := by decide +kernel
theorem dX7_attempt_66 : decode cX7_attempt 66 = .ok (.aload_n 0, 1) := by decide +kernel
theorem dX7_attempt_67 : decode cX7_attempt 67 = .ok (.getfield 7, 3) := by decide +kernel
theorem dX7_attempt_70 : decode cX7_attempt 70 = .ok (.bipush 40, 2) := by decide +kernel
theorem dX7_attempt_72 : decode cX7_attempt 72 = .ok (.iload_n 1, 1) := by decide +kernel
theorem dX7_attempt_73 : decode cX7_attempt 73 = .ok (.iadd, 1) := by decide +kernel
theorem dX7_attempt_74 : decode cX7_attempt 74 = .ok (.iaload, 1) := by decide +kernel
theorem dX7_attempt_75 : decode cX7_attempt 75 = .ok (.iand, 1) := by decide +kernel
theorem dX7_attempt_76 : decode cX7_attempt 76 = .ok (.ifCond .eq 6, 3) := by decide +kernel
theorem dX7_attempt_79 : decode cX7_attempt 79 = .ok (.ldc 217, 2) := by decide +kernel
theorem dX7_attempt_81 : decode cX7_attempt 81 = .ok (.ireturn, 1) := by decide +kernel
theorem dX7_attempt_82 : decode cX7_attempt 82 = .ok (.aload_n 0, 1) := by decide +kernel
theorem dX7_attempt_83 : decode cX7_attempt 83 = .ok (.getfield 33, 3) := by decide +kernel
theorem dX7_attempt_86 : decode cX7_attempt 86 = .ok (.iconst 4, 1) := by decide +kernel
theorem dX7_attempt_87 : decode cX7_attempt 87 = .ok (.iload_n 2, 1) := by decide +kernel
theorem dX7_attempt_88 : decode cX7_attempt 88 = .ok (.imul, 1) := by decide +kernel
theorem dX7_attempt_89 : decode cX7_attempt 89 = .ok (.iaload, 1) := by decide +kernel
theorem dX7_attempt_90 : decode cX7_attempt 90 = .ok (.istore 4, 2) := by decide +kernel
theorem dX7_attempt_92 : decode cX7_attempt 92 = .ok (.aload_n 0, 1) := by decide +kernel
theorem dX7_attempt_93 : decode cX7_attempt 93 = .ok (.iload_n 1, 1) := by decide +kernel
theorem dX7_attempt_94 : decode cX7_attempt 94 = .ok (.iload_n 2, 1) := by decide +kernel
theorem dX7_attempt_95 : decode cX7_attempt 95 = .ok (.iload_n 3, 1) := by decide +kernel
theorem dX7_attempt_96 : decode cX7_attempt 96 = .ok (.aload_n 0, 1) := by decide +kernel
theorem dX7_attempt_97 : decode cX7_attempt 97 = .ok (.iload 4, 2) := by decide +kernel
theorem dX7_attempt_99 : decode cX7_attempt 99 = .ok (.iload_n 1, 1) := by decide +kernel
theorem dX7_attempt_100 : decode cX7_attempt 100 = .ok (.invokevirtual 168, 3) := by decide +kernel
theorem dX7_attempt_103 : decode cX7_attempt 103 = .ok (.invokevirtual 218, 3) := by decide +kernel
theorem dX7_attempt_106 : decode cX7_attempt 106 = .ok (.istore 5, 2) := by decide +kernel
theorem dX7_attempt_108 : decode cX7_attempt 108 = .ok (.aload_n 0, 1) := by decide +kernel
theorem dX7_attempt_109 : decode cX7_attempt 109 = .ok (.getfield 7, 3) := by decide +kernel
theorem dX7_attempt_112 : decode cX7_attempt 112 = .ok (.bipush 40, 2) := by decide +kernel
theorem dX7_attempt_114 : decode cX7_attempt 114 = .ok (.iload_n 1, 1) := by decide +kernel
theorem dX7_attempt_115 : decode cX7_attempt 115 = .ok (.iadd, 1) := by decide +kernel
theorem dX7_attempt_116 : decode cX7_attempt 116 = .ok (.dup2, 1) := by decide +kernel
theorem dX7_attempt_117 : decode cX7_attempt 117 = .ok (.iaload, 1) := by decide +kernel
theorem dX7_attempt_118 : decode cX7_attempt 118 = .ok (.iload_n 3, 1) := by decide +kernel
theorem dX7_attempt_119 : decode cX7_attempt 119 = .ok (.ior, 1) := by decide +kernel
theorem dX7_attempt_120 : decode cX7_attempt 120 = .ok (.iastore, 1) := by decide +kernel
theorem dX7_attempt_121 : decode cX7_attempt 121 = .ok (.iload 5, 2) := by decide +kernel
theorem dX7_attempt_123 : decode cX7_attempt 123 = .ok (.ifCond .ne 18, 3) := by decide +kernel
theorem dX7_attempt_126 : decode cX7_attempt 126 = .ok (.aload_n 0, 1) := by decide +kernel
theorem dX7_attempt_127 : decode cX7_attempt 127 = .ok (.iload 4, 2) := by decide +kernel
theorem dX7_attempt_129 : decode cX7_attempt 129 = .ok (.iload_n 1, 1) := by decide +kernel
theorem dX7_attempt_130 : decode cX7_attempt 130 = .ok (.aload_n 0, 1) := by decide +kernel
theorem dX7_attempt_131 : decode cX7_attempt 131 = .ok (.getfield 27, 3) := by decide +kernel
theorem dX7_attempt_134 : decode cX7_attempt 134 = .ok (.iload_n 1, 1) := by decide +kernel
theorem dX7_attempt_135 : decode cX7_attempt 135 = .ok (.iaload, 1) := by decide +kernel
theorem dX7_attempt_136 : decode cX7_attempt 136 = .ok (.invokevirtual 201, 3) := by decide +kernel
theorem dX7_attempt_139 : decode cX7_attempt 139 = .ok (.iconst 0, 1) := by decide +kernel
theorem dX7_attempt_140 : decode cX7_attempt 140 = .ok (.ireturn, 1) := by decide +kernel
theorem dX7_attempt_141 : decode cX7_attempt 141 = .ok (.aload_n 0, 1) := by decide +kernel
theorem dX7_attempt_142 : decode cX7_attempt 142 = .ok (.getfield 7, 3) := by decide +kernel
theorem dX7_attempt_145 : decode cX7_attempt 145 = .ok (.bipush 35, 2) := by decide +kernel
theorem dX7_attempt_147 : decode cX7_attempt 147 = .ok (.iload_n 1, 1) := by decide +kernel
theorem dX7_attempt_148 : decode cX7_attempt 148 = .ok (.iadd, 1) := by decide +kernel
theorem dX7_attempt_149 : decode cX7_attempt 149 = .ok (.dup2, 1) := by decide +kernel
theorem dX7_attempt_150 : decode cX7_attempt 150 = .ok (.iaload, 1) := by decide +kernel
theorem dX7_attempt_151 : decode cX7_attempt 151 = .ok (.iconst 1, 1) := by decide +kernel
theorem dX7_attempt_152 : decode cX7_attempt 152 = .ok (.iload_n 2, 1) := by decide +kernel
theorem dX7_attempt_153 : decode cX7_attempt 153 = .ok (.ishl, 1) := by decide +kernel
theorem dX7_attempt_154 : decode cX7_attempt 154 = .ok (.ior, 1) := by decide +kernel
theorem dX7_attempt_155 : decode cX7_attempt 155 = .ok (.iastore, 1) := by decide +kernel
theorem dX7_attempt_156 : decode cX7_attempt 156 = .ok (.iconst 0, 1) := by decide +kernel
theorem dX7_attempt_157 : decode cX7_attempt 157 = .ok (.istore 6, 2) := by decide +kernel
theorem dX7_attempt_159 : decode cX7_attempt 159 = .ok (.iload 6, 2) := by decide +kernel
theorem dX7_attempt_161 : decode cX7_attempt 161 = .ok (.aload_n 0, 1) := by decide +kernel
theorem dX7_attempt_162 : decode cX7_attempt 162 = .ok (.getfield 150, 3) := by decide +kernel
theorem dX7_attempt_165 : decode cX7_attempt 165 = .ok (.if_icmp .ge 34, 3) := by decide +kernel
theorem dX7_attempt_168 : decode cX7_attempt 168 = .ok (.aload_n 0, 1) := by decide +kernel
theorem dX7_attempt_169 : decode cX7_attempt 169 = .ok (.iload 6, 2) := by decide +kernel
theorem dX7_attempt_171 : decode cX7_attempt 171 = .ok (.iload_n 1, 1) := by decide +kernel
theorem dX7_attempt_172 : decode cX7_attempt 172 = .ok (.aload_n 0, 1) := by decide +kernel
theorem dX7_attempt_173 : decode cX7_attempt 173 = .ok (.iload 6, 2) := by decide +kernel
theorem dX7_attempt_175 : decode cX7_attempt 175 = .ok (.iload_n 1, 1) := by decide +kernel
theorem dX7_attempt_176 : decode cX7_attempt 176 = .ok (.invokevirtual 168, 3) := by decide +kernel
theorem dX7_attempt_179 : decode cX7_attempt 179 = .ok (.aload_n 0, 1) := by decide +kernel
theorem dX7_attempt_180 : decode cX7_attempt 180 = .ok (.getfield 33, 3) := by decide +kernel
theorem dX7_attempt_183 : decode cX7_attempt 183 = .ok (.iconst 4, 1) := by decide +kernel
theorem dX7_attempt_184 : decode cX7_attempt 184 = .ok (.iload_n 2, 1) := by decide +kernel
theorem dX7_attempt_185 : decode cX7_attempt 185 = .ok (.imul, 1) := by decide +kernel
theorem dX7_attempt_186 : decode cX7_attempt 186 = .ok (.iconst 3, 1) := by decide +kernel
theorem dX7_attempt_187 : decode cX7_attempt 187 = .ok (.iadd, 1) := by decide +kernel
theorem dX7_attempt_188 : decode cX7_attempt 188 = .ok (.iaload, 1) := by decide +kernel
theorem dX7_attempt_189 : decode cX7_attempt 189 = .ok (.iadd, 1) := by decide +kernel
theorem dX7_attempt_190 : decode cX7_attempt 190 = .ok (.invokevirtual 201, 3) := by decide +kernel
theorem dX7_attempt_193 : decode cX7_attempt 193 = .ok (.iinc 6 1, 3) := by decide +kernel
theorem dX7_attempt_196 : decode cX7_attempt 196 = .ok (.goto (-37), 3) := by decide +kernel
theorem dX7_attempt_199 : decode cX7_attempt 199 = .ok (.iconst 1, 1) := by decide +kernel
theorem dX7_attempt_200 : decode cX7_attempt 200 = .ok (.ireturn, 1) := by decide +kernel
theorem dX7_draw_0 : decode cX7_draw 0 = .ok (.aload_n 0, 1) := by decide +kernel
theorem dX7_draw_1 : decode cX7_draw 1 = .ok (.getfield 7, 3) := by decide +kernel
theorem dX7_draw_4 : decode cX7_draw 4 = .ok (.bipush 46, 2) := by decide +kernel
theorem dX7_draw_6 : decode cX7_draw 6 = .ok (.iaload, 1) := by decide +kernel
theorem dX7_draw_7 : decode cX7_draw 7 = .ok (.i2l, 1) := by decide +kernel
theorem dX7_draw_8 : decode cX7_draw 8 = .ok (.ldc2_w 222, 3) := by decide +kernel
theorem dX7_draw_11 : decode cX7_draw 11 = .ok (.lmul, 1) := by decide +kernel
theorem dX7_draw_12 : decode cX7_draw 12 = .ok (.ldc2_w 224, 3) := by decide +kernel
theorem dX7_draw_15 : decode cX7_draw 15 = .ok (.ladd, 1) := by decide +kernel
theorem dX7_draw_16 : decode cX7_draw 16 = .ok (.ldc2_w 226, 3) := by decide +kernel
theorem dX7_draw_19 : decode cX7_draw 19 = .ok (.lrem, 1) := by decide +kernel
theorem dX7_draw_20 : decode cX7_draw 20 = .ok (.lstore_n 2, 1) := by decide +kernel
theorem dX7_draw_21 : decode cX7_draw 21 = .ok (.aload_n 0, 1) := by decide +kernel
theorem dX7_draw_22 : decode cX7_draw 22 = .ok (.getfield 7, 3) := by decide +kernel
theorem dX7_draw_25 : decode cX7_draw 25 = .ok (.bipush 46, 2) := by decide +kernel
theorem dX7_draw_27 : decode cX7_draw 27 = .ok (.lload_n 2, 1) := by decide +kernel
theorem dX7_draw_28 : decode cX7_draw 28 = .ok (.l2i, 1) := by decide +kernel
theorem dX7_draw_29 : decode cX7_draw 29 = .ok (.iastore, 1) := by decide +kernel
theorem dX7_draw_30 : decode cX7_draw 30 = .ok (.lload_n 2, 1) := by decide +kernel
theorem dX7_draw_31 : decode cX7_draw 31 = .ok (.ldc2_w 228, 3) := by decide +kernel
theorem dX7_draw_34 : decode cX7_draw 34 = .ok (.ldiv, 1) := by decide +kernel
theorem dX7_draw_35 : decode cX7_draw 35 = .ok (.iload_n 1, 1) := by decide +kernel
theorem dX7_draw_36 : decode cX7_draw 36 = .ok (.i2l, 1) := by decide +kernel
theorem dX7_draw_37 : decode cX7_draw 37 = .ok (.lrem, 1) := by decide +kernel
theorem dX7_draw_38 : decode cX7_draw 38 = .ok (.l2i, 1) := by decide +kernel
theorem dX7_draw_39 : decode cX7_draw 39 = .ok (.ireturn, 1) := by decide +kernel
theorem dX7_drift_0 : decode cX7_drift 0 = .ok (.iload_n 1, 1) := by decide +kernel
theorem dX7_drift_1 : decode cX7_drift 1 = .ok (.i2l, 1) := by decide +kernel
theorem dX7_drift_2 : decode cX7_drift 2 = .ok (.lconst 1, 1) := by decide +kernel
theorem dX7_drift_3 : decode cX7_drift 3 = .ok (.ldc2_w 215, 3) := by decide +kernel
theorem dX7_drift_6 : decode cX7_drift 6 = .ok (.invokestatic 68, 3) := by decide +kernel
theorem dX7_drift_9 : decode cX7_drift 9 = .ok (.ifCond .ne 6, 3) := by decide +kernel
theorem dX7_drift_12 : decode cX7_drift 12 = .ok (.ldc 72, 2) := by decide +kernel
theorem dX7_drift_14 : decode cX7_drift 14 = .ok (.ireturn, 1) := by decide +kernel
theorem dX7_drift_15 : decode cX7_drift 15 = .ok (.aload_n 0, 1) := by decide +kernel
theorem dX7_drift_16 : decode cX7_drift 16 = .ok (.getfield 150, 3) := by decide +kernel
theorem dX7_drift_19 : decode cX7_drift 19 = .ok (.ifCond .eq 10, 3) := by decide +kernel
theorem dX7_drift_22 : decode cX7_drift 22 = .ok (.aload_n 0, 1) := by decide +kernel
theorem dX7_drift_23 : decode cX7_drift 23 = .ok (.getfield 153, 3) := by decide +kernel
theorem dX7_drift_26 : decode cX7_drift 26 = .ok (.ifCond .ne 6, 3) := by decide +kernel
theorem dX7_drift_29 : decode cX7_drift 29 = .ok (.ldc 217, 2) := by decide +kernel
theorem dX7_drift_31 : decode cX7_drift 31 = .ok (.ireturn, 1) := by decide +kernel
theorem dX7_drift_32 : decode cX7_drift 32 = .ok (.aload_n 0, 1) := by decide +kernel
theorem dX7_drift_33 : decode cX7_drift 33 = .ok (.getfield 7, 3) := by decide +kernel
theorem dX7_drift_36 : decode cX7_drift 36 = .ok (.bipush 45, 2) := by decide +kernel
theorem dX7_drift_38 : decode cX7_drift 38 = .ok (.iaload, 1) := by decide +kernel
theorem dX7_drift_39 : decode cX7_drift 39 = .ok (.ldc 230, 2) := by decide +kernel
theorem dX7_drift_41 : decode cX7_drift 41 = .ok (.if_icmp .le 6, 3) := by decide +kernel
theorem dX7_drift_44 : decode cX7_drift 44 = .ok (.ldc 76, 2) := by decide +kernel
theorem dX7_drift_46 : decode cX7_drift 46 = .ok (.ireturn, 1) := by decide +kernel
theorem dX7_drift_47 : decode cX7_drift 47 = .ok (.iconst 0, 1) := by decide +kernel
theorem dX7_drift_48 : decode cX7_drift 48 = .ok (.istore_n 2, 1) := by decide +kernel
theorem dX7_drift_49 : decode cX7_drift 49 = .ok (.iload_n 2, 1) := by decide +kernel
theorem dX7_drift_50 : decode cX7_drift 50 = .ok (.iload_n 1, 1) := by decide +kernel
theorem dX7_drift_51 : decode cX7_drift 51 = .ok (.if_icmp .ge 84, 3) := by decide +kernel
theorem dX7_drift_54 : decode cX7_drift 54 = .ok (.aload_n 0, 1) := by decide +kernel
theorem dX7_drift_55 : decode cX7_drift 55 = .ok (.aload_n 0, 1) := by decide +kernel
theorem dX7_drift_56 : decode cX7_drift 56 = .ok (.getfield 150, 3) := by decide +kernel
theorem dX7_drift_59 : decode cX7_drift 59 = .ok (.invokevirtual 231, 3) := by decide +kernel
theorem dX7_drift_62 : decode cX7_drift 62 = .ok (.istore_n 3, 1) := by decide +kernel
theorem dX7_drift_63 : decode cX7_drift 63 = .ok (.aload_n 0, 1) := by decide +kernel
theorem dX7_drift_64 : decode cX7_drift 64 = .ok (.aload_n 0, 1) := by decide +kernel
theorem dX7_drift_65 : decode cX7_drift 65 = .ok (.getfield 153, 3) := by decide +kernel
theorem dX7_drift_68 : decode cX7_drift 68 = .ok (.invokevirtual 231, 3) := by decide +kernel
theorem dX7_drift_71 : decode cX7_drift 71 = .ok (.istore 4, 2) := by decide +kernel
theorem dX7_drift_73 : decode cX7_drift 73 = .ok (.aload_n 0, 1) := by decide +kernel
theorem dX7_drift_74 : decode cX7_drift 74 = .ok (.iconst 3, 1) := by decide +kernel
theorem dX7_drift_75 : decode cX7_drift 75 = .ok (.invokevirtual 231, 3) := by decide +kernel
theorem dX7_drift_78 : decode cX7_drift 78 = .ok (.istore 5, 2) := by decide +kernel
theorem dX7_drift_80 : decode cX7_drift 80 = .ok (.iload 5, 2) := by decide +kernel
theorem dX7_drift_82 : decode cX7_drift 82 = .ok (.ifCond .ne 13, 3) := by decide +kernel
theorem dX7_drift_85 : decode cX7_drift 85 = .ok (.aload_n 0, 1) := by decide +kernel
theorem dX7_drift_86 : decode cX7_drift 86 = .ok (.iload_n 3, 1) := by decide +kernel
theorem dX7_drift_87 : decode cX7_drift 87 = .ok (.iload 4, 2) := by decide +kernel
theorem dX7_drift_89 : decode cX7_drift 89 = .ok (.invokevirtual 205, 3) := by decide +kernel
theorem dX7_drift_92 : decode cX7_drift 92 = .ok (.goto 26, 3) := by decide +kernel
theorem dX7_drift_95 : decode cX7_drift 95 = .ok (.iload 5, 2) := by decide +kernel
theorem dX7_drift_97 : decode cX7_drift 97 = .ok (.iconst 1, 1) := by decide +kernel
theorem dX7_drift_98 : decode cX7_drift 98 = .ok (.if_icmp .ne 13, 3) := by decide +kernel
theorem dX7_drift_101 : decode cX7_drift 101 = .ok (.aload_n 0, 1) := by decide +kernel
theorem dX7_drift_102 : decode cX7_drift 102 = .ok (.iload 4, 2) := by decide +kernel
theorem dX7_drift_104 : decode cX7_drift 104 = .ok (.invokevirtual 209, 3) := by decide +kernel
theorem dX7_drift_107 : decode cX7_drift 107 = .ok (.pop, 1) := by decide +kernel
theorem dX7_drift_108 : decode cX7_drift 108 = .ok (.goto 10, 3) := by decide +kernel
theorem dX7_drift_111 : decode cX7_drift 111 = .ok (.aload_n 0, 1) := by decide +kernel
theorem dX7_drift_112 : decode cX7_drift 112 = .ok (.iload_n 3, 1) := by decide +kernel
theorem dX7_drift_113 : decode cX7_drift 113 = .ok (.iload 4, 2) := by decide +kernel
theorem dX7_drift_115 : decode cX7_drift 115 = .ok (.invokevirtual 212, 3) := by decide +kernel
theorem dX7_drift_118 : decode cX7_drift 118 = .ok (.aload_n 0, 1) := by decide +kernel
theorem dX7_drift_119 : decode cX7_drift 119 = .ok (.getfield 7, 3) := by decide +kernel
theorem dX7_drift_122 : decode cX7_drift 122 = .ok (.bipush 45, 2) := by decide +kernel
theorem dX7_drift_124 : decode cX7_drift 124 = .ok (.dup2, 1) := by decide +kernel
theorem dX7_drift_125 : decode cX7_drift 125 = .ok (.iaload, 1) := by decide +kernel
theorem dX7_drift_126 : decode cX7_drift 126 = .ok (.iconst 1, 1) := by decide +kernel
theorem dX7_drift_127 : decode cX7_drift 127 = .ok (.iadd, 1) := by decide +kernel
theorem dX7_drift_128 : decode cX7_drift 128 = .ok (.iastore, 1) := by decide +kernel
theorem dX7_drift_129 : decode cX7_drift 129 = .ok (.iinc 2 1, 3) := by decide +kernel
theorem dX7_drift_132 : decode cX7_drift 132 = .ok (.goto (-83), 3) := by decide +kernel
theorem dX7_drift_135 : decode cX7_drift 135 = .ok (.aload_n 0, 1) := by decide +kernel
theorem dX7_drift_136 : decode cX7_drift 136 = .ok (.getfield 7, 3) := by decide +kernel
theorem dX7_drift_139 : decode cX7_drift 139 = .ok (.bipush 45, 2) := by decide +kernel
theorem dX7_drift_141 : decode cX7_drift 141 = .ok (.iaload, 1) := by decide +kernel
theorem dX7_drift_142 : decode cX7_drift 142 = .ok (.ireturn, 1) := by decide +kernel
theorem dX7_fameOf_0 : decode cX7_fameOf 0 = .ok (.iconst 0, 1) := by decide +kernel
theorem dX7_fameOf_1 : decode cX7_fameOf 1 = .ok (.istore_n 2, 1) := by decide +kernel
theorem dX7_fameOf_2 : decode cX7_fameOf 2 = .ok (.iconst 0, 1) := by decide +kernel
theorem dX7_fameOf_3 : decode cX7_fameOf 3 = .ok (.istore_n 3, 1) := by decide +kernel
theorem dX7_fameOf_4 : decode cX7_fameOf 4 = .ok (.iload_n 3, 1) := by decide +kernel
theorem dX7_fameOf_5 : decode cX7_fameOf 5 = .ok (.aload_n 0, 1) := by decide +kernel
theorem dX7_fameOf_6 : decode cX7_fameOf 6 = .ok (.getfield 159, 3) := by decide +kernel
theorem dX7_fameOf_9 : decode cX7_fameOf 9 = .ok (.if_icmp .ge 34, 3) := by decide +kernel
theorem dX7_fameOf_12 : decode cX7_fameOf 12 = .ok (.iload_n 2, 1) := by decide +kernel
theorem dX7_fameOf_13 : decode cX7_fameOf 13 = .ok (.iload_n 1, 1) := by decide +kernel
theorem dX7_fameOf_14 : decode cX7_fameOf 14 = .ok (.iload_n 3, 1) := by decide +kernel
theorem dX7_fameOf_15 : decode cX7_fameOf 15 = .ok (.invokestatic 112, 3) := by decide +kernel
theorem dX7_fameOf_18 : decode cX7_fameOf 18 = .ok (.ifCond .eq 16, 3) := by decide +kernel
theorem dX7_fameOf_21 : decode cX7_fameOf 21 = .ok (.aload_n 0, 1) := by decide +kernel
theorem dX7_fameOf_22 : decode cX7_fameOf 22 = .ok (.getfield 33, 3) := by decide +kernel
theorem dX7_fameOf_25 : decode cX7_fameOf 25 = .ok (.iconst 4, 1) := by decide +kernel
theorem dX7_fameOf_26 : decode cX7_fameOf 26 = .ok (.iload_n 3, 1) := by decide +kernel
theorem dX7_fameOf_27 : decode cX7_fameOf 27 = .ok (.imul, 1) := by decide +kernel
theorem dX7_fameOf_28 : decode cX7_fameOf 28 = .ok (.iconst 3, 1) := by decide +kernel
theorem dX7_fameOf_29 : decode cX7_fameOf 29 = .ok (.iadd, 1) := by decide +kernel
theorem dX7_fameOf_30 : decode cX7_fameOf 30 = .ok (.iaload, 1) := by decide +kernel
theorem dX7_fameOf_31 : decode cX7_fameOf 31 = .ok (.goto 4, 3) := by decide +kernel
theorem dX7_fameOf_34 : decode cX7_fameOf 34 = .ok (.iconst 0, 1) := by decide +kernel
theorem dX7_fameOf_35 : decode cX7_fameOf 35 = .ok (.iadd, 1) := by decide +kernel
theorem dX7_fameOf_36 : decode cX7_fameOf 36 = .ok (.istore_n 2, 1) := by decide +kernel
theorem dX7_fameOf_37 : decode cX7_fameOf 37 = .ok (.iinc 3 1, 3) := by decide +kernel
theorem dX7_fameOf_40 : decode cX7_fameOf 40 = .ok (.goto (-36), 3) := by decide +kernel
theorem dX7_fameOf_43 : decode cX7_fameOf 43 = .ok (.iload_n 2, 1) := by decide +kernel
theorem dX7_fameOf_44 : decode cX7_fameOf 44 = .ok (.ireturn, 1) := by decide +kernel
theorem dX7_leastTricks_0 : decode cX7_leastTricks 0 = .ok (.aload_n 0, 1) := by decide +kernel
theorem dX7_leastTricks_1 : decode cX7_leastTricks 1 = .ok (.aload_n 0, 1) := by decide +kernel
theorem dX7_leastTricks_2 : decode cX7_leastTricks 2 = .ok (.getfield 33, 3) := by decide +kernel
theorem dX7_leastTricks_5 : decode cX7_leastTricks 5 = .ok (.iconst 4, 1) := by decide +kernel
theorem dX7_leastTricks_6 : decode cX7_leastTricks 6 = .ok (.iload_n 2, 1) := by decide +kernel
theorem dX7_leastTricks_7 : decode cX7_leastTricks 7 = .ok (.imul, 1) := by decide +kernel
theorem dX7_leastTricks_8 : decode cX7_leastTricks 8 = .ok (.iaload, 1) := by decide +kernel
theorem dX7_leastTricks_9 : decode cX7_leastTricks 9 = .ok (.iload_n 1, 1) := by decide +kernel
theorem dX7_leastTricks_10 : decode cX7_leastTricks 10 = .ok (.invokevirtual 168, 3) := by decide +kernel
theorem dX7_leastTricks_13 : decode cX7_leastTricks 13 = .ok (.aload_n 0, 1) := by decide +kernel
theorem dX7_leastTricks_14 : decode cX7_leastTricks 14 = .ok (.iload_n 3, 1) := by decide +kernel
theorem dX7_leastTricks_15 : decode cX7_leastTricks 15 = .ok (.invokevirtual 234, 3) := by decide +kernel
theorem dX7_leastTricks_18 : decode cX7_leastTricks 18 = .ok (.iadd, 1) := by decide +kernel
theorem dX7_leastTricks_19 : decode cX7_leastTricks 19 = .ok (.istore 4, 2) := by decide +kernel
theorem dX7_leastTricks_21 : decode cX7_leastTricks 21 = .ok (.iload 4, 2) := by decide +kernel
theorem dX7_leastTricks_23 : decode cX7_leastTricks 23 = .ok (.bipush 99, 2) := by decide +kernel
theorem dX7_leastTricks_25 : decode cX7_leastTricks 25 = .ok (.if_icmp .le 8, 3) := by decide +kernel
theorem dX7_leastTricks_28 : decode cX7_leastTricks 28 = .ok (.bipush 99, 2) := by decide +kernel
theorem dX7_leastTricks_30 : decode cX7_leastTricks 30 = .ok (.goto 5, 3) := by decide +kernel
theorem dX7_leastTricks_33 : decode cX7_leastTricks 33 = .ok (.iload 4, 2) := by decide +kernel
theorem dX7_leastTricks_35 : decode cX7_leastTricks 35 = .ok (.istore 4, 2) := by decide +kernel
theorem dX7_leastTricks_37 : decode cX7_leastTricks 37 = .ok (.aload_n 0, 1) := by decide +kernel
theorem dX7_leastTricks_38 : decode cX7_leastTricks 38 = .ok (.iload_n 2, 1) := by decide +kernel
theorem dX7_leastTricks_39 : decode cX7_leastTricks 39 = .ok (.invokevirtual 196, 3) := by decide +kernel
theorem dX7_leastTricks_42 : decode cX7_leastTricks 42 = .ok (.aload_n 0, 1) := by decide +kernel
theorem dX7_leastTricks_43 : decode cX7_leastTricks 43 = .ok (.getfield 7, 3) := by decide +kernel
theorem dX7_leastTricks_46 : decode cX7_leastTricks 46 = .ok (.bipush 40, 2) := by decide +kernel
theorem dX7_leastTricks_48 : decode cX7_leastTricks 48 = .ok (.iload_n 1, 1) := by decide +kernel
theorem dX7_leastTricks_49 : decode cX7_leastTricks 49 = .ok (.iadd, 1) := by decide +kernel
theorem dX7_leastTricks_50 : decode cX7_leastTricks 50 = .ok (.iaload, 1) := by decide +kernel
theorem dX7_leastTricks_51 : decode cX7_leastTricks 51 = .ok (.iconst (-1), 1) := by decide +kernel
theorem dX7_leastTricks_52 : decode cX7_leastTricks 52 = .ok (.ixor, 1) := by decide +kernel
theorem dX7_leastTricks_53 : decode cX7_leastTricks 53 = .ok (.iand, 1) := by decide +kernel
theorem dX7_leastTricks_54 : decode cX7_leastTricks 54 = .ok (.istore 5, 2) := by decide +kernel
theorem dX7_leastTricks_56 : decode cX7_leastTricks 56 = .ok (.iconst 0, 1) := by decide +kernel
theorem dX7_leastTricks_57 : decode cX7_leastTricks 57 = .ok (.istore 6, 2) := by decide +kernel
theorem dX7_leastTricks_59 : decode cX7_leastTricks 59 = .ok (.iload 6, 2) := by decide +kernel
theorem dX7_leastTricks_61 : decode cX7_leastTricks 61 = .ok (.bipush 16, 2) := by decide +kernel
theorem dX7_leastTricks_63 : decode cX7_leastTricks 63 = .ok (.if_icmp .ge 35, 3) := by decide +kernel
theorem dX7_leastTricks_66 : decode cX7_leastTricks 66 = .ok (.iload 6, 2) := by decide +kernel
theorem dX7_leastTricks_68 : decode cX7_leastTricks 68 = .ok (.iload 5, 2) := by decide +kernel
theorem dX7_leastTricks_70 : decode cX7_leastTricks 70 = .ok (.iconst (-1), 1) := by decide +kernel
theorem dX7_leastTricks_71 : decode cX7_leastTricks 71 = .ok (.ixor, 1) := by decide +kernel
theorem dX7_leastTricks_72 : decode cX7_leastTricks 72 = .ok (.iand, 1) := by decide +kernel
theorem dX7_leastTricks_73 : decode cX7_leastTricks 73 = .ok (.ifCond .ne 19, 3) := by decide +kernel
theorem dX7_leastTricks_76 : decode cX7_leastTricks 76 = .ok (.aload_n 0, 1) := by decide +kernel
theorem dX7_leastTricks_77 : decode cX7_leastTricks 77 = .ok (.iload_n 1, 1) := by decide +kernel
theorem dX7_leastTricks_78 : decode cX7_leastTricks 78 = .ok (.iload_n 2, 1) := by decide +kernel
theorem dX7_leastTricks_79 : decode cX7_leastTricks 79 = .ok (.iload 6, 2) := by decide +kernel
theorem dX7_leastTricks_81 : decode cX7_leastTricks 81 = .ok (.iload 4, 2) := by decide +kernel
theorem dX7_leastTricks_83 : decode cX7_leastTricks 83 = .ok (.invokevirtual 218, 3) := by decide +kernel
theorem dX7_leastTricks_86 : decode cX7_leastTricks 86 = .ok (.ifCond .eq 6, 3) := by decide +kernel
theorem dX7_leastTricks_89 : decode cX7_leastTricks 89 = .ok (.iload 6, 2) := by decide +kernel
theorem dX7_leastTricks_91 : decode cX7_leastTricks 91 = .ok (.ireturn, 1) := by decide +kernel
theorem dX7_leastTricks_92 : decode cX7_leastTricks 92 = .ok (.iinc 6 1, 3) := by decide +kernel
theorem dX7_leastTricks_95 : decode cX7_leastTricks 95 = .ok (.goto (-36), 3) := by decide +kernel
theorem dX7_leastTricks_98 : decode cX7_leastTricks 98 = .ok (.iconst (-1), 1) := by decide +kernel
theorem dX7_leastTricks_99 : decode cX7_leastTricks 99 = .ok (.ireturn, 1) := by decide +kernel
theorem dX7_nextTask_0 : decode cX7_nextTask 0 = .ok (.iconst 0, 1) := by decide +kernel
theorem dX7_nextTask_1 : decode cX7_nextTask 1 = .ok (.istore_n 3, 1) := by decide +kernel
theorem dX7_nextTask_2 : decode cX7_nextTask 2 = .ok (.iload_n 3, 1) := by decide +kernel
theorem dX7_nextTask_3 : decode cX7_nextTask 3 = .ok (.aload_n 0, 1) := by decide +kernel
theorem dX7_nextTask_4 : decode cX7_nextTask 4 = .ok (.getfield 159, 3) := by decide +kernel
theorem dX7_nextTask_7 : decode cX7_nextTask 7 = .ok (.if_icmp .ge 46, 3) := by decide +kernel
theorem dX7_nextTask_10 : decode cX7_nextTask 10 = .ok (.aload_n 0, 1) := by decide +kernel
theorem dX7_nextTask_11 : decode cX7_nextTask 11 = .ok (.getfield 7, 3) := by decide +kernel
theorem dX7_nextTask_14 : decode cX7_nextTask 14 = .ok (.bipush 35, 2) := by decide +kernel
theorem dX7_nextTask_16 : decode cX7_nextTask 16 = .ok (.iload_n 1, 1) := by decide +kernel
theorem dX7_nextTask_17 : decode cX7_nextTask 17 = .ok (.iadd, 1) := by decide +kernel
theorem dX7_nextTask_18 : decode cX7_nextTask 18 = .ok (.iaload, 1) := by decide +kernel
theorem dX7_nextTask_19 : decode cX7_nextTask 19 = .ok (.iload_n 3, 1) := by decide +kernel
theorem dX7_nextTask_20 : decode cX7_nextTask 20 = .ok (.invokestatic 112, 3) := by decide +kernel
theorem dX7_nextTask_23 : decode cX7_nextTask 23 = .ok (.ifCond .ne 24, 3) := by decide +kernel
theorem dX7_nextTask_26 : decode cX7_nextTask 26 = .ok (.iload_n 2, 1) := by decide +kernel
theorem dX7_nextTask_27 : decode cX7_nextTask 27 = .ok (.iload_n 3, 1) := by decide +kernel
theorem dX7_nextTask_28 : decode cX7_nextTask 28 = .ok (.invokestatic 112, 3) := by decide +kernel
theorem dX7_nextTask_31 : decode cX7_nextTask 31 = .ok (.ifCond .ne 16, 3) := by decide +kernel
theorem dX7_nextTask_34 : decode cX7_nextTask 34 = .ok (.aload_n 0, 1) := by decide +kernel
theorem dX7_nextTask_35 : decode cX7_nextTask 35 = .ok (.iload_n 1, 1) := by decide +kernel
theorem dX7_nextTask_36 : decode cX7_nextTask 36 = .ok (.iload_n 3, 1) := by decide +kernel
theorem dX7_nextTask_37 : decode cX7_nextTask 37 = .ok (.iload_n 2, 1) := by decide +kernel
theorem dX7_nextTask_38 : decode cX7_nextTask 38 = .ok (.invokevirtual 237, 3) := by decide +kernel
theorem dX7_nextTask_41 : decode cX7_nextTask 41 = .ok (.iconst (-1), 1) := by decide +kernel
theorem dX7_nextTask_42 : decode cX7_nextTask 42 = .ok (.if_icmp .eq 5, 3) := by decide +kernel
theorem dX7_nextTask_45 : decode cX7_nextTask 45 = .ok (.iload_n 3, 1) := by decide +kernel
theorem dX7_nextTask_46 : decode cX7_nextTask 46 = .ok (.ireturn, 1) := by decide +kernel
theorem dX7_nextTask_47 : decode cX7_nextTask 47 = .ok (.iinc 3 1, 3) := by decide +kernel
theorem dX7_nextTask_50 : decode cX7_nextTask 50 = .ok (.goto (-48), 3) := by decide +kernel
theorem dX7_nextTask_53 : decode cX7_nextTask 53 = .ok (.iconst (-1), 1) := by decide +kernel
theorem dX7_nextTask_54 : decode cX7_nextTask 54 = .ok (.ireturn, 1) := by decide +kernel
theorem dX7_passable_0 : decode cX7_passable 0 = .ok (.iconst 0, 1) := by decide +kernel
theorem dX7_passable_1 : decode cX7_passable 1 = .ok (.istore_n 2, 1) := by decide +kernel
theorem dX7_passable_2 : decode cX7_passable 2 = .ok (.aload_n 0, 1) := by decide +kernel
theorem dX7_passable_3 : decode cX7_passable 3 = .ok (.iload_n 1, 1) := by decide +kernel
theorem dX7_passable_4 : decode cX7_passable 4 = .ok (.iload_n 2, 1) := by decide +kernel
theorem dX7_passable_5 : decode cX7_passable 5 = .ok (.invokevirtual 240, 3) := by decide +kernel
theorem dX7_passable_8 : decode cX7_passable 8 = .ok (.istore_n 3, 1) := by decide +kernel
theorem dX7_passable_9 : decode cX7_passable 9 = .ok (.iload_n 3, 1) := by decide +kernel
theorem dX7_passable_10 : decode cX7_passable 10 = .ok (.iconst (-1), 1) := by decide +kernel
theorem dX7_passable_11 : decode cX7_passable 11 = .ok (.if_icmp .eq 19, 3) := by decide +kernel
theorem dX7_passable_14 : decode cX7_passable 14 = .ok (.iload_n 2, 1) := by decide +kernel
theorem dX7_passable_15 : decode cX7_passable 15 = .ok (.iconst 1, 1) := by decide +kernel
theorem dX7_passable_16 : decode cX7_passable 16 = .ok (.iload_n 3, 1) := by decide +kernel
theorem dX7_passable_17 : decode cX7_passable 17 = .ok (.ishl, 1) := by decide +kernel
theorem dX7_passable_18 : decode cX7_passable 18 = .ok (.ior, 1) := by decide +kernel
theorem dX7_passable_19 : decode cX7_passable 19 = .ok (.istore_n 2, 1) := by decide +kernel
theorem dX7_passable_20 : decode cX7_passable 20 = .ok (.aload_n 0, 1) := by decide +kernel
theorem dX7_passable_21 : decode cX7_passable 21 = .ok (.iload_n 1, 1) := by decide +kernel
theorem dX7_passable_22 : decode cX7_passable 22 = .ok (.iload_n 2, 1) := by decide +kernel
theorem dX7_passable_23 : decode cX7_passable 23 = .ok (.invokevirtual 240, 3) := by decide +kernel
theorem dX7_passable_26 : decode cX7_passable 26 = .ok (.istore_n 3, 1) := by decide +kernel
theorem dX7_passable_27 : decode cX7_passable 27 = .ok (.goto (-18), 3) := by decide +kernel
theorem dX7_passable_30 : decode cX7_passable 30 = .ok (.iload_n 2, 1) := by decide +kernel
theorem dX7_passable_31 : decode cX7_passable 31 = .ok (.ireturn, 1) := by decide +kernel
theorem dX7_plan_0 : decode cX7_plan 0 = .ok (.aload_n 0, 1) := by decide +kernel
theorem dX7_plan_1 : decode cX7_plan 1 = .ok (.iload_n 1, 1) := by decide +kernel
theorem dX7_plan_2 : decode cX7_plan 2 = .ok (.invokevirtual 178, 3) := by decide +kernel
theorem dX7_plan_5 : decode cX7_plan 5 = .ok (.ifCond .ne 6, 3) := by decide +kernel
theorem dX7_plan_8 : decode cX7_plan 8 = .ok (.ldc 181, 2) := by decide +kernel
theorem dX7_plan_10 : decode cX7_plan 10 = .ok (.ireturn, 1) := by decide +kernel
theorem dX7_plan_11 : decode cX7_plan 11 = .ok (.iload_n 3, 1) := by decide +kernel
theorem dX7_plan_12 : decode cX7_plan 12 = .ok (.i2l, 1) := by decide +kernel
theorem dX7_plan_13 : decode cX7_plan 13 = .ok (.lconst 0, 1) := by decide +kernel
theorem dX7_plan_14 : decode cX7_plan 14 = .ok (.lconst 1, 1) := by decide +kernel
theorem dX7_plan_15 : decode cX7_plan 15 = .ok (.invokestatic 68, 3) := by decide +kernel
theorem dX7_plan_18 : decode cX7_plan 18 = .ok (.ifCond .ne 6, 3) := by decide +kernel
theorem dX7_plan_21 : decode cX7_plan 21 = .ok (.ldc 72, 2) := by decide +kernel
theorem dX7_plan_23 : decode cX7_plan 23 = .ok (.ireturn, 1) := by decide +kernel
theorem dX7_plan_24 : decode cX7_plan 24 = .ok (.aload_n 0, 1) := by decide +kernel
theorem dX7_plan_25 : decode cX7_plan 25 = .ok (.aload_n 0, 1) := by decide +kernel
theorem dX7_plan_26 : decode cX7_plan 26 = .ok (.iload_n 1, 1) := by decide +kernel
theorem dX7_plan_27 : decode cX7_plan 27 = .ok (.invokevirtual 243, 3) := by decide +kernel
theorem dX7_plan_30 : decode cX7_plan 30 = .ok (.invokevirtual 185, 3) := by decide +kernel
theorem dX7_plan_33 : decode cX7_plan 33 = .ok (.istore 4, 2) := by decide +kernel
theorem dX7_plan_35 : decode cX7_plan 35 = .ok (.iload_n 2, 1) := by decide +kernel
theorem dX7_plan_36 : decode cX7_plan 36 = .ok (.iconst (-1), 1) := by decide +kernel
theorem dX7_plan_37 : decode cX7_plan 37 = .ok (.if_icmp .gt 15, 3) := by decide +kernel
theorem dX7_plan_40 : decode cX7_plan 40 = .ok (.iload_n 2, 1) := by decide +kernel
theorem dX7_plan_41 : decode cX7_plan 41 = .ok (.iconst (-1), 1) := by decide +kernel
theorem dX7_plan_42 : decode cX7_plan 42 = .ok (.if_icmp .ne 8, 3) := by decide +kernel
theorem dX7_plan_45 : decode cX7_plan 45 = .ok (.iload 4, 2) := by decide +kernel
theorem dX7_plan_47 : decode cX7_plan 47 = .ok (.goto 4, 3) := by decide +kernel
theorem dX7_plan_50 : decode cX7_plan 50 = .ok (.iconst (-1), 1) := by decide +kernel
theorem dX7_plan_51 : decode cX7_plan 51 = .ok (.ireturn, 1) := by decide +kernel
theorem dX7_plan_52 : decode cX7_plan 52 = .ok (.iconst 0, 1) := by decide +kernel
theorem dX7_plan_53 : decode cX7_plan 53 = .ok (.istore 5, 2) := by decide +kernel
theorem dX7_plan_55 : decode cX7_plan 55 = .ok (.iconst 0, 1) := by decide +kernel
theorem dX7_plan_56 : decode cX7_plan 56 = .ok (.istore 6, 2) := by decide +kernel
theorem dX7_plan_58 : decode cX7_plan 58 = .ok (.aload_n 0, 1) := by decide +kernel
theorem dX7_plan_59 : decode cX7_plan 59 = .ok (.iload 5, 2) := by decide +kernel
theorem dX7_plan_61 : decode cX7_plan 61 = .ok (.invokevirtual 185, 3) := by decide +kernel
theorem dX7_plan_64 : decode cX7_plan 64 = .ok (.iload 4, 2) := by decide +kernel
theorem dX7_plan_66 : decode cX7_plan 66 = .ok (.if_icmp .ge 52, 3) := by decide +kernel
theorem dX7_plan_69 : decode cX7_plan 69 = .ok (.aload_n 0, 1) := by decide +kernel
theorem dX7_plan_70 : decode cX7_plan 70 = .ok (.iload_n 1, 1) := by decide +kernel
theorem dX7_plan_71 : decode cX7_plan 71 = .ok (.iload 5, 2) := by decide +kernel
theorem dX7_plan_73 : decode cX7_plan 73 = .ok (.invokevirtual 240, 3) := by decide +kernel
theorem dX7_plan_76 : decode cX7_plan 76 = .ok (.istore 7, 2) := by decide +kernel
theorem dX7_plan_78 : decode cX7_plan 78 = .ok (.iload 6, 2) := by decide +kernel
theorem dX7_plan_80 : decode cX7_plan 80 = .ok (.iload_n 2, 1) := by decide +kernel
theorem dX7_plan_81 : decode cX7_plan 81 = .ok (.if_icmp .ne 22, 3) := by decide +kernel
theorem dX7_plan_84 : decode cX7_plan 84 = .ok (.iload_n 3, 1) := by decide +kernel
theorem dX7_plan_85 : decode cX7_plan 85 = .ok (.ifCond .ne 8, 3) := by decide +kernel
theorem dX7_plan_88 : decode cX7_plan 88 = .ok (.iload 7, 2) := by decide +kernel
theorem dX7_plan_90 : decode cX7_plan 90 = .ok (.goto 12, 3) := by decide +kernel
theorem dX7_plan_93 : decode cX7_plan 93 = .ok (.aload_n 0, 1) := by decide +kernel
theorem dX7_plan_94 : decode cX7_plan 94 = .ok (.iload_n 1, 1) := by decide +kernel
theorem dX7_plan_95 : decode cX7_plan 95 = .ok (.iload 7, 2) := by decide +kernel
theorem dX7_plan_97 : decode cX7_plan 97 = .ok (.iload 5, 2) := by decide +kernel
theorem dX7_plan_99 : decode cX7_plan 99 = .ok (.invokevirtual 237, 3) := by decide +kernel
theorem dX7_plan_102 : decode cX7_plan 102 = .ok (.ireturn, 1) := by decide +kernel
theorem dX7_plan_103 : decode cX7_plan 103 = .ok (.iload 5, 2) := by decide +kernel
theorem dX7_plan_105 : decode cX7_plan 105 = .ok (.iconst 1, 1) := by decide +kernel
theorem dX7_plan_106 : decode cX7_plan 106 = .ok (.iload 7, 2) := by decide +kernel
theorem dX7_plan_108 : decode cX7_plan 108 = .ok (.ishl, 1) := by decide +kernel
theorem dX7_plan_109 : decode cX7_plan 109 = .ok (.ior, 1) := by decide +kernel
theorem dX7_plan_110 : decode cX7_plan 110 = .ok (.istore 5, 2) := by decide +kernel
theorem dX7_plan_112 : decode cX7_plan 112 = .ok (.iinc 6 1, 3) := by decide +kernel
theorem dX7_plan_115 : decode cX7_plan 115 = .ok (.goto (-57), 3) := by decide +kernel
theorem dX7_plan_118 : decode cX7_plan 118 = .ok (.iconst (-1), 1) := by decide +kernel
theorem dX7_plan_119 : decode cX7_plan 119 = .ok (.ireturn, 1) := by decide +kernel
theorem dX7_stops_0 : decode cX7_stops 0 = .ok (.aload_n 0, 1) := by decide +kernel
theorem dX7_stops_1 : decode cX7_stops 1 = .ok (.iload_n 1, 1) := by decide +kernel
theorem dX7_stops_2 : decode cX7_stops 2 = .ok (.invokevirtual 178, 3) := by decide +kernel
theorem dX7_stops_5 : decode cX7_stops 5 = .ok (.ifCond .ne 6, 3) := by decide +kernel
theorem dX7_stops_8 : decode cX7_stops 8 = .ok (.ldc 181, 2) := by decide +kernel
theorem dX7_stops_10 : decode cX7_stops 10 = .ok (.ireturn, 1) := by decide +kernel
theorem dX7_stops_11 : decode cX7_stops 11 = .ok (.aload_n 0, 1) := by decide +kernel
theorem dX7_stops_12 : decode cX7_stops 12 = .ok (.iload_n 1, 1) := by decide +kernel
theorem dX7_stops_13 : decode cX7_stops 13 = .ok (.invokevirtual 243, 3) := by decide +kernel
theorem dX7_stops_16 : decode cX7_stops 16 = .ok (.aload_n 0, 1) := by decide +kernel
theorem dX7_stops_17 : decode cX7_stops 17 = .ok (.getfield 7, 3) := by decide +kernel
theorem dX7_stops_20 : decode cX7_stops 20 = .ok (.bipush 35, 2) := by decide +kernel
theorem dX7_stops_22 : decode cX7_stops 22 = .ok (.iload_n 1, 1) := by decide +kernel
theorem dX7_stops_23 : decode cX7_stops 23 = .ok (.iadd, 1) := by decide +kernel
theorem dX7_stops_24 : decode cX7_stops 24 = .ok (.iaload, 1) := by decide +kernel
theorem dX7_stops_25 : decode cX7_stops 25 = .ok (.ior, 1) := by decide +kernel
theorem dX7_stops_26 : decode cX7_stops 26 = .ok (.istore_n 2, 1) := by decide +kernel
theorem dX7_stops_27 : decode cX7_stops 27 = .ok (.iconst 0, 1) := by decide +kernel
theorem dX7_stops_28 : decode cX7_stops 28 = .ok (.istore_n 3, 1) := by decide +kernel
theorem dX7_stops_29 : decode cX7_stops 29 = .ok (.iload_n 3, 1) := by decide +kernel
theorem dX7_stops_30 : decode cX7_stops 30 = .ok (.aload_n 0, 1) := by decide +kernel
theorem dX7_stops_31 : decode cX7_stops 31 = .ok (.getfield 159, 3) := by decide +kernel
theorem dX7_stops_34 : decode cX7_stops 34 = .ok (.if_icmp .ge 19, 3) := by decide +kernel
theorem dX7_stops_37 : decode cX7_stops 37 = .ok (.iload_n 2, 1) := by decide +kernel
theorem dX7_stops_38 : decode cX7_stops 38 = .ok (.iload_n 3, 1) := by decide +kernel
theorem dX7_stops_39 : decode cX7_stops 39 = .ok (.invokestatic 112, 3) := by decide +kernel
theorem dX7_stops_42 : decode cX7_stops 42 = .ok (.ifCond .ne 5, 3) := by decide +kernel
theorem dX7_stops_45 : decode cX7_stops 45 = .ok (.iload_n 3, 1) := by decide +kernel
theorem dX7_stops_46 : decode cX7_stops 46 = .ok (.ireturn, 1) := by decide +kernel
theorem dX7_stops_47 : decode cX7_stops 47 = .ok (.iinc 3 1, 3) := by decide +kernel
theorem dX7_stops_50 : decode cX7_stops 50 = .ok (.goto (-21), 3) := by decide +kernel
theorem dX7_stops_53 : decode cX7_stops 53 = .ok (.iconst (-1), 1) := by decide +kernel
theorem dX7_stops_54 : decode cX7_stops 54 = .ok (.ireturn, 1) := by decide +kernel
theorem dX7_wouldThink_0 : decode cX7_wouldThink 0 = .ok (.aload_n 0, 1) := by decide +kernel
theorem dX7_wouldThink_1 : decode cX7_wouldThink 1 = .ok (.iload_n 2, 1) := by decide +kernel
theorem dX7_wouldThink_2 : decode cX7_wouldThink 2 = .ok (.aload_n 0, 1) := by decide +kernel
theorem dX7_wouldThink_3 : decode cX7_wouldThink 3 = .ok (.getfield 63, 3) := by decide +kernel
theorem dX7_wouldThink_6 : decode cX7_wouldThink 6 = .ok (.iload_n 2, 1) := by decide +kernel
theorem dX7_wouldThink_7 : decode cX7_wouldThink 7 = .ok (.iaload, 1) := by decide +kernel
theorem dX7_wouldThink_8 : decode cX7_wouldThink 8 = .ok (.invokevirtual 175, 3) := by decide +kernel
theorem dX7_wouldThink_11 : decode cX7_wouldThink 11 = .ok (.istore_n 3, 1) := by decide +kernel
theorem dX7_wouldThink_12 : decode cX7_wouldThink 12 = .ok (.iload_n 3, 1) := by decide +kernel
theorem dX7_wouldThink_13 : decode cX7_wouldThink 13 = .ok (.aload_n 0, 1) := by decide +kernel
theorem dX7_wouldThink_14 : decode cX7_wouldThink 14 = .ok (.iload_n 1, 1) := by decide +kernel
theorem dX7_wouldThink_15 : decode cX7_wouldThink 15 = .ok (.iload_n 2, 1) := by decide +kernel
theorem dX7_wouldThink_16 : decode cX7_wouldThink 16 = .ok (.invokevirtual 168, 3) := by decide +kernel
theorem dX7_wouldThink_19 : decode cX7_wouldThink 19 = .ok (.if_icmp .le 7, 3) := by decide +kernel
theorem dX7_wouldThink_22 : decode cX7_wouldThink 22 = .ok (.iload_n 3, 1) := by decide +kernel
theorem dX7_wouldThink_23 : decode cX7_wouldThink 23 = .ok (.goto 9, 3) := by decide +kernel
theorem dX7_wouldThink_26 : decode cX7_wouldThink 26 = .ok (.aload_n 0, 1) := by decide +kernel
theorem dX7_wouldThink_27 : decode cX7_wouldThink 27 = .ok (.iload_n 1, 1) := by decide +kernel
theorem dX7_wouldThink_28 : decode cX7_wouldThink 28 = .ok (.iload_n 2, 1) := by decide +kernel
theorem dX7_wouldThink_29 : decode cX7_wouldThink 29 = .ok (.invokevirtual 168, 3) := by decide +kernel
theorem dX7_wouldThink_32 : decode cX7_wouldThink 32 = .ok (.ireturn, 1) := by decide +kernel
theorem dX7_gainOf_0 : decode cX7_gainOf 0 = .ok (.iconst 0, 1) := by decide +kernel
theorem dX7_gainOf_1 : decode cX7_gainOf 1 = .ok (.istore_n 2, 1) := by decide +kernel
theorem dX7_gainOf_2 : decode cX7_gainOf 2 = .ok (.iconst 0, 1) := by decide +kernel
theorem dX7_gainOf_3 : decode cX7_gainOf 3 = .ok (.istore_n 3, 1) := by decide +kernel
theorem dX7_gainOf_4 : decode cX7_gainOf 4 = .ok (.iload_n 3, 1) := by decide +kernel
theorem dX7_gainOf_5 : decode cX7_gainOf 5 = .ok (.aload_n 0, 1) := by decide +kernel
theorem dX7_gainOf_6 : decode cX7_gainOf 6 = .ok (.getfield 150, 3) := by decide +kernel
theorem dX7_gainOf_9 : decode cX7_gainOf 9 = .ok (.if_icmp .ge 77, 3) := by decide +kernel
theorem dX7_gainOf_12 : decode cX7_gainOf 12 = .ok (.iconst 1, 1) := by decide +kernel
theorem dX7_gainOf_13 : decode cX7_gainOf 13 = .ok (.istore 4, 2) := by decide +kernel
theorem dX7_gainOf_15 : decode cX7_gainOf 15 = .ok (.iconst 0, 1) := by decide +kernel
theorem dX7_gainOf_16 : decode cX7_gainOf 16 = .ok (.istore 5, 2) := by decide +kernel
theorem dX7_gainOf_18 : decode cX7_gainOf 18 = .ok (.iload 5, 2) := by decide +kernel
theorem dX7_gainOf_20 : decode cX7_gainOf 20 = .ok (.aload_n 0, 1) := by decide +kernel
theorem dX7_gainOf_21 : decode cX7_gainOf 21 = .ok (.getfield 153, 3) := by decide +kernel
theorem dX7_gainOf_24 : decode cX7_gainOf 24 = .ok (.if_icmp .ge 43, 3) := by decide +kernel
theorem dX7_gainOf_27 : decode cX7_gainOf 27 = .ok (.iload 4, 2) := by decide +kernel
theorem dX7_gainOf_29 : decode cX7_gainOf 29 = .ok (.ifCond .eq 29, 3) := by decide +kernel
theorem dX7_gainOf_32 : decode cX7_gainOf 32 = .ok (.iload 5, 2) := by decide +kernel
theorem dX7_gainOf_34 : decode cX7_gainOf 34 = .ok (.iload_n 1, 1) := by decide +kernel
theorem dX7_gainOf_35 : decode cX7_gainOf 35 = .ok (.if_icmp .eq 19, 3) := by decide +kernel
theorem dX7_gainOf_38 : decode cX7_gainOf 38 = .ok (.aload_n 0, 1) := by decide +kernel
theorem dX7_gainOf_39 : decode cX7_gainOf 39 = .ok (.iload_n 3, 1) := by decide +kernel
theorem dX7_gainOf_40 : decode cX7_gainOf 40 = .ok (.iload_n 1, 1) := by decide +kernel
theorem dX7_gainOf_41 : decode cX7_gainOf 41 = .ok (.invokevirtual 246, 3) := by decide +kernel
theorem dX7_gainOf_44 : decode cX7_gainOf 44 = .ok (.aload_n 0, 1) := by decide +kernel
theorem dX7_gainOf_45 : decode cX7_gainOf 45 = .ok (.iload_n 3, 1) := by decide +kernel
theorem dX7_gainOf_46 : decode cX7_gainOf 46 = .ok (.iload 5, 2) := by decide +kernel
theorem dX7_gainOf_48 : decode cX7_gainOf 48 = .ok (.invokevirtual 246, 3) := by decide +kernel
theorem dX7_gainOf_51 : decode cX7_gainOf 51 = .ok (.if_icmp .le 7, 3) := by decide +kernel
theorem dX7_gainOf_54 : decode cX7_gainOf 54 = .ok (.iconst 1, 1) := by decide +kernel
theorem dX7_gainOf_55 : decode cX7_gainOf 55 = .ok (.goto 4, 3) := by decide +kernel
theorem dX7_gainOf_58 : decode cX7_gainOf 58 = .ok (.iconst 0, 1) := by decide +kernel
theorem dX7_gainOf_59 : decode cX7_gainOf 59 = .ok (.istore 4, 2) := by decide +kernel
theorem dX7_gainOf_61 : decode cX7_gainOf 61 = .ok (.iinc 5 1, 3) := by decide +kernel
theorem dX7_gainOf_64 : decode cX7_gainOf 64 = .ok (.goto (-46), 3) := by decide +kernel
theorem dX7_gainOf_67 : decode cX7_gainOf 67 = .ok (.iload_n 2, 1) := by decide +kernel
theorem dX7_gainOf_68 : decode cX7_gainOf 68 = .ok (.iload 4, 2) := by decide +kernel
theorem dX7_gainOf_70 : decode cX7_gainOf 70 = .ok (.ifCond .eq 7, 3) := by decide +kernel
theorem dX7_gainOf_73 : decode cX7_gainOf 73 = .ok (.iconst 1, 1) := by decide +kernel
theorem dX7_gainOf_74 : decode cX7_gainOf 74 = .ok (.goto 4, 3) := by decide +kernel
theorem dX7_gainOf_77 : decode cX7_gainOf 77 = .ok (.iconst 0, 1) := by decide +kernel
theorem dX7_gainOf_78 : decode cX7_gainOf 78 = .ok (.iadd, 1) := by decide +kernel
theorem dX7_gainOf_79 : decode cX7_gainOf 79 = .ok (.istore_n 2, 1) := by decide +kernel
theorem dX7_gainOf_80 : decode cX7_gainOf 80 = .ok (.iinc 3 1, 3) := by decide +kernel
theorem dX7_gainOf_83 : decode cX7_gainOf 83 = .ok (.goto (-79), 3) := by decide +kernel
theorem dX7_gainOf_86 : decode cX7_gainOf 86 = .ok (.aload_n 0, 1) := by decide +kernel
theorem dX7_gainOf_87 : decode cX7_gainOf 87 = .ok (.iload_n 1, 1) := by decide +kernel
theorem dX7_gainOf_88 : decode cX7_gainOf 88 = .ok (.aload_n 0, 1) := by decide +kernel
theorem dX7_gainOf_89 : decode cX7_gainOf 89 = .ok (.getfield 63, 3) := by decide +kernel
theorem dX7_gainOf_92 : decode cX7_gainOf 92 = .ok (.iload_n 1, 1) := by decide +kernel
theorem dX7_gainOf_93 : decode cX7_gainOf 93 = .ok (.iaload, 1) := by decide +kernel
theorem dX7_gainOf_94 : decode cX7_gainOf 94 = .ok (.invokevirtual 175, 3) := by decide +kernel
theorem dX7_gainOf_97 : decode cX7_gainOf 97 = .ok (.aload_n 0, 1) := by decide +kernel
theorem dX7_gainOf_98 : decode cX7_gainOf 98 = .ok (.getfield 27, 3) := by decide +kernel
theorem dX7_gainOf_101 : decode cX7_gainOf 101 = .ok (.iload_n 1, 1) := by decide +kernel
theorem dX7_gainOf_102 : decode cX7_gainOf 102 = .ok (.iaload, 1) := by decide +kernel
theorem dX7_gainOf_103 : decode cX7_gainOf 103 = .ok (.isub, 1) := by decide +kernel
theorem dX7_gainOf_104 : decode cX7_gainOf 104 = .ok (.istore_n 3, 1) := by decide +kernel
theorem dX7_gainOf_105 : decode cX7_gainOf 105 = .ok (.bipush 10, 2) := by decide +kernel
theorem dX7_gainOf_107 : decode cX7_gainOf 107 = .ok (.iload_n 2, 1) := by decide +kernel
theorem dX7_gainOf_108 : decode cX7_gainOf 108 = .ok (.imul, 1) := by decide +kernel
theorem dX7_gainOf_109 : decode cX7_gainOf 109 = .ok (.iload_n 3, 1) := by decide +kernel
theorem dX7_gainOf_110 : decode cX7_gainOf 110 = .ok (.ifCond .le 12, 3) := by decide +kernel
theorem dX7_gainOf_113 : decode cX7_gainOf 113 = .ok (.iconst 3, 1) := by decide +kernel
theorem dX7_gainOf_114 : decode cX7_gainOf 114 = .ok (.iload_n 3, 1) := by decide +kernel
theorem dX7_gainOf_115 : decode cX7_gainOf 115 = .ok (.bipush 10, 2) := by decide +kernel
theorem dX7_gainOf_117 : decode cX7_gainOf 117 = .ok (.idiv, 1) := by decide +kernel
theorem dX7_gainOf_118 : decode cX7_gainOf 118 = .ok (.imul, 1) := by decide +kernel
theorem dX7_gainOf_119 : decode cX7_gainOf 119 = .ok (.goto 4, 3) := by decide +kernel
theorem dX7_gainOf_122 : decode cX7_gainOf 122 = .ok (.iconst 0, 1) := by decide +kernel
theorem dX7_gainOf_123 : decode cX7_gainOf 123 = .ok (.isub, 1) := by decide +kernel
theorem dX7_gainOf_124 : decode cX7_gainOf 124 = .ok (.ireturn, 1) := by decide +kernel
theorem dX7_writes_0 : decode cX7_writes 0 = .ok (.iconst 0, 1) := by decide +kernel
theorem dX7_writes_1 : decode cX7_writes 1 = .ok (.istore_n 1, 1) := by decide +kernel
theorem dX7_writes_2 : decode cX7_writes 2 = .ok (.iconst 0, 1) := by decide +kernel
theorem dX7_writes_3 : decode cX7_writes 3 = .ok (.istore_n 2, 1) := by decide +kernel
theorem dX7_writes_4 : decode cX7_writes 4 = .ok (.iload_n 2, 1) := by decide +kernel
theorem dX7_writes_5 : decode cX7_writes 5 = .ok (.aload_n 0, 1) := by decide +kernel
theorem dX7_writes_6 : decode cX7_writes 6 = .ok (.getfield 153, 3) := by decide +kernel
theorem dX7_writes_9 : decode cX7_writes 9 = .ok (.if_icmp .ge 111, 3) := by decide +kernel
theorem dX7_writes_12 : decode cX7_writes 12 = .ok (.aload_n 0, 1) := by decide +kernel
theorem dX7_writes_13 : decode cX7_writes 13 = .ok (.getfield 63, 3) := by decide +kernel
theorem dX7_writes_16 : decode cX7_writes 16 = .ok (.iload_n 2, 1) := by decide +kernel
theorem dX7_writes_17 : decode cX7_writes 17 = .ok (.iaload, 1) := by decide +kernel
theorem dX7_writes_18 : decode cX7_writes 18 = .ok (.istore_n 3, 1) := by decide +kernel
theorem dX7_writes_19 : decode cX7_writes 19 = .ok (.iconst 0, 1) := by decide +kernel
theorem dX7_writes_20 : decode cX7_writes 20 = .ok (.istore 4, 2) := by decide +kernel
theorem dX7_writes_22 : decode cX7_writes 22 = .ok (.sipush (-1000), 3) := by decide +kernel
theorem dX7_writes_25 : decode cX7_writes 25 = .ok (.istore 5, 2) := by decide +kernel
theorem dX7_writes_27 : decode cX7_writes 27 = .ok (.iconst 0, 1) := by decide +kernel
theorem dX7_writes_28 : decode cX7_writes 28 = .ok (.istore 6, 2) := by decide +kernel
theorem dX7_writes_30 : decode cX7_writes 30 = .ok (.iload 6, 2) := by decide +kernel
theorem dX7_writes_32 : decode cX7_writes 32 = .ok (.bipush 100, 2) := by decide +kernel
theorem dX7_writes_34 : decode cX7_writes 34 = .ok (.if_icmp .ge 56, 3) := by decide +kernel
theorem dX7_writes_37 : decode cX7_writes 37 = .ok (.aload_n 0, 1) := by decide +kernel
theorem dX7_writes_38 : decode cX7_writes 38 = .ok (.getfield 63, 3) := by decide +kernel
theorem dX7_writes_41 : decode cX7_writes 41 = .ok (.iload_n 2, 1) := by decide +kernel
theorem dX7_writes_42 : decode cX7_writes 42 = .ok (.iload 6, 2) := by decide +kernel
theorem dX7_writes_44 : decode cX7_writes 44 = .ok (.iastore, 1) := by decide +kernel
theorem dX7_writes_45 : decode cX7_writes 45 = .ok (.aload_n 0, 1) := by decide +kernel
theorem dX7_writes_46 : decode cX7_writes 46 = .ok (.iload_n 2, 1) := by decide +kernel
theorem dX7_writes_47 : decode cX7_writes 47 = .ok (.invokevirtual 249, 3) := by decide +kernel
theorem dX7_writes_50 : decode cX7_writes 50 = .ok (.istore 7, 2) := by decide +kernel
theorem dX7_writes_52 : decode cX7_writes 52 = .ok (.iload 7, 2) := by decide +kernel
theorem dX7_writes_54 : decode cX7_writes 54 = .ok (.iload 5, 2) := by decide +kernel
theorem dX7_writes_56 : decode cX7_writes 56 = .ok (.if_icmp .le 8, 3) := by decide +kernel
theorem dX7_writes_59 : decode cX7_writes 59 = .ok (.iload 6, 2) := by decide +kernel
theorem dX7_writes_61 : decode cX7_writes 61 = .ok (.goto 5, 3) := by decide +kernel
theorem dX7_writes_64 : decode cX7_writes 64 = .ok (.iload 4, 2) := by decide +kernel
theorem dX7_writes_66 : decode cX7_writes 66 = .ok (.istore 4, 2) := by decide +kernel
theorem dX7_writes_68 : decode cX7_writes 68 = .ok (.iload 7, 2) := by decide +kernel
theorem dX7_writes_70 : decode cX7_writes 70 = .ok (.iload 5, 2) := by decide +kernel
theorem dX7_writes_72 : decode cX7_writes 72 = .ok (.if_icmp .le 8, 3) := by decide +kernel
theorem dX7_writes_75 : decode cX7_writes 75 = .ok (.iload 7, 2) := by decide +kernel
theorem dX7_writes_77 : decode cX7_writes 77 = .ok (.goto 5, 3) := by decide +kernel
theorem dX7_writes_80 : decode cX7_writes 80 = .ok (.iload 5, 2) := by decide +kernel
theorem dX7_writes_82 : decode cX7_writes 82 = .ok (.istore 5, 2) := by decide +kernel
theorem dX7_writes_84 : decode cX7_writes 84 = .ok (.iinc 6 10, 3) := by decide +kernel
theorem dX7_writes_87 : decode cX7_writes 87 = .ok (.goto (-57), 3) := by decide +kernel
theorem dX7_writes_90 : decode cX7_writes 90 = .ok (.aload_n 0, 1) := by decide +kernel
theorem dX7_writes_91 : decode cX7_writes 91 = .ok (.getfield 63, 3) := by decide +kernel
theorem dX7_writes_94 : decode cX7_writes 94 = .ok (.iload_n 2, 1) := by decide +kernel
theorem dX7_writes_95 : decode cX7_writes 95 = .ok (.iload 4, 2) := by decide +kernel
theorem dX7_writes_97 : decode cX7_writes 97 = .ok (.iastore, 1) := by decide +kernel
theorem dX7_writes_98 : decode cX7_writes 98 = .ok (.iload_n 1, 1) := by decide +kernel
theorem dX7_writes_99 : decode cX7_writes 99 = .ok (.ifCond .ne 9, 3) := by decide +kernel
theorem dX7_writes_102 : decode cX7_writes 102 = .ok (.iload 4, 2) := by decide +kernel
theorem dX7_writes_104 : decode cX7_writes 104 = .ok (.iload_n 3, 1) := by decide +kernel
theorem dX7_writes_105 : decode cX7_writes 105 = .ok (.if_icmp .eq 7, 3) := by decide +kernel
theorem dX7_writes_108 : decode cX7_writes 108 = .ok (.iconst 1, 1) := by decide +kernel
theorem dX7_writes_109 : decode cX7_writes 109 = .ok (.goto 4, 3) := by decide +kernel
theorem dX7_writes_112 : decode cX7_writes 112 = .ok (.iconst 0, 1) := by decide +kernel
theorem dX7_writes_113 : decode cX7_writes 113 = .ok (.istore_n 1, 1) := by decide +kernel
theorem dX7_writes_114 : decode cX7_writes 114 = .ok (.iinc 2 1, 3) := by decide +kernel
theorem dX7_writes_117 : decode cX7_writes 117 = .ok (.goto (-113), 3) := by decide +kernel
theorem dX7_writes_120 : decode cX7_writes 120 = .ok (.iload_n 1, 1) := by decide +kernel
theorem dX7_writes_121 : decode cX7_writes 121 = .ok (.ireturn, 1) := by decide +kernel
theorem dX7_write_0 : decode cX7_write 0 = .ok (.iload_n 1, 1) := by decide +kernel
theorem dX7_write_1 : decode cX7_write 1 = .ok (.iconst (-1), 1) := by decide +kernel
theorem dX7_write_2 : decode cX7_write 2 = .ok (.if_icmp .eq 14, 3) := by decide +kernel
theorem dX7_write_5 : decode cX7_write 5 = .ok (.aload_n 0, 1) := by decide +kernel
theorem dX7_write_6 : decode cX7_write 6 = .ok (.iload_n 1, 1) := by decide +kernel
theorem dX7_write_7 : decode cX7_write 7 = .ok (.invokevirtual 178, 3) := by decide +kernel
theorem dX7_write_10 : decode cX7_write 10 = .ok (.ifCond .ne 6, 3) := by decide +kernel
theorem dX7_write_13 : decode cX7_write 13 = .ok (.ldc 181, 2) := by decide +kernel
theorem dX7_write_15 : decode cX7_write 15 = .ok (.ireturn, 1) := by decide +kernel
theorem dX7_write_16 : decode cX7_write 16 = .ok (.iconst 0, 1) := by decide +kernel
theorem dX7_write_17 : decode cX7_write 17 = .ok (.istore_n 2, 1) := by decide +kernel
theorem dX7_write_18 : decode cX7_write 18 = .ok (.iload_n 2, 1) := by decide +kernel
theorem dX7_write_19 : decode cX7_write 19 = .ok (.iconst 5, 1) := by decide +kernel
theorem dX7_write_20 : decode cX7_write 20 = .ok (.if_icmp .ge 23, 3) := by decide +kernel
theorem dX7_write_23 : decode cX7_write 23 = .ok (.aload_n 0, 1) := by decide +kernel
theorem dX7_write_24 : decode cX7_write 24 = .ok (.getfield 63, 3) := by decide +kernel
theorem dX7_write_27 : decode cX7_write 27 = .ok (.iload_n 2, 1) := by decide +kernel
theorem dX7_write_28 : decode cX7_write 28 = .ok (.aload_n 0, 1) := by decide +kernel
theorem dX7_write_29 : decode cX7_write 29 = .ok (.getfield 7, 3) := by decide +kernel
theorem dX7_write_32 : decode cX7_write 32 = .ok (.iconst 0, 1) := by decide +kernel
theorem dX7_write_33 : decode cX7_write 33 = .ok (.iload_n 2, 1) := by decide +kernel
theorem dX7_write_34 : decode cX7_write 34 = .ok (.iadd, 1) := by decide +kernel
theorem dX7_write_35 : decode cX7_write 35 = .ok (.iaload, 1) := by decide +kernel
theorem dX7_write_36 : decode cX7_write 36 = .ok (.iastore, 1) := by decide +kernel
theorem dX7_write_37 : decode cX7_write 37 = .ok (.iinc 2 1, 3) := by decide +kernel
theorem dX7_write_40 : decode cX7_write 40 = .ok (.goto (-22), 3) := by decide +kernel
theorem dX7_write_43 : decode cX7_write 43 = .ok (.iconst 0, 1) := by decide +kernel
theorem dX7_write_44 : decode cX7_write 44 = .ok (.istore_n 2, 1) := by decide +kernel
theorem dX7_write_45 : decode cX7_write 45 = .ok (.iload_n 2, 1) := by decide +kernel
theorem dX7_write_46 : decode cX7_write 46 = .ok (.bipush 20, 2) := by decide +kernel
theorem dX7_write_48 : decode cX7_write 48 = .ok (.if_icmp .ge 16, 3) := by decide +kernel
theorem dX7_write_51 : decode cX7_write 51 = .ok (.aload_n 0, 1) := by decide +kernel
theorem dX7_write_52 : decode cX7_write 52 = .ok (.invokevirtual 252, 3) := by decide +kernel
theorem dX7_write_55 : decode cX7_write 55 = .ok (.ifCond .eq 9, 3) := by decide +kernel
theorem dX7_write_58 : decode cX7_write 58 = .ok (.iinc 2 1, 3) := by decide +kernel
theorem dX7_write_61 : decode cX7_write 61 = .ok (.goto (-16), 3) := by decide +kernel
theorem dX7_write_64 : decode cX7_write 64 = .ok (.iload_n 2, 1) := by decide +kernel
theorem dX7_write_65 : decode cX7_write 65 = .ok (.bipush 20, 2) := by decide +kernel
theorem dX7_write_67 : decode cX7_write 67 = .ok (.if_icmp .ne 7, 3) := by decide +kernel
theorem dX7_write_70 : decode cX7_write 70 = .ok (.iconst (-1), 1) := by decide +kernel
theorem dX7_write_71 : decode cX7_write 71 = .ok (.goto 18, 3) := by decide +kernel
theorem dX7_write_74 : decode cX7_write 74 = .ok (.iload_n 1, 1) := by decide +kernel
theorem dX7_write_75 : decode cX7_write 75 = .ok (.iconst (-1), 1) := by decide +kernel
theorem dX7_write_76 : decode cX7_write 76 = .ok (.if_icmp .ne 7, 3) := by decide +kernel
theorem dX7_write_79 : decode cX7_write 79 = .ok (.iload_n 2, 1) := by decide +kernel
theorem dX7_write_80 : decode cX7_write 80 = .ok (.goto 9, 3) := by decide +kernel
theorem dX7_write_83 : decode cX7_write 83 = .ok (.aload_n 0, 1) := by decide +kernel
theorem dX7_write_84 : decode cX7_write 84 = .ok (.getfield 63, 3) := by decide +kernel
theorem dX7_write_87 : decode cX7_write 87 = .ok (.iload_n 1, 1) := by decide +kernel
theorem dX7_write_88 : decode cX7_write 88 = .ok (.iaload, 1) := by decide +kernel
theorem dX7_write_89 : decode cX7_write 89 = .ok (.ireturn, 1) := by decide +kernel
theorem dX7_divisor_0 : decode cX7_divisor 0 = .ok (.iload_n 0, 1) := by decide +kernel
theorem dX7_divisor_1 : decode cX7_divisor 1 = .ok (.istore_n 2, 1) := by decide +kernel
theorem dX7_divisor_2 : decode cX7_divisor 2 = .ok (.iload_n 1, 1) := by decide +kernel
theorem dX7_divisor_3 : decode cX7_divisor 3 = .ok (.istore_n 3, 1) := by decide +kernel
theorem dX7_divisor_4 : decode cX7_divisor 4 = .ok (.iload_n 3, 1) := by decide +kernel
theorem dX7_divisor_5 : decode cX7_divisor 5 = .ok (.ifCond .eq 16, 3) := by decide +kernel
theorem dX7_divisor_8 : decode cX7_divisor 8 = .ok (.iload_n 2, 1) := by decide +kernel
theorem dX7_divisor_9 : decode cX7_divisor 9 = .ok (.iload_n 3, 1) := by decide +kernel
theorem dX7_divisor_10 : decode cX7_divisor 10 = .ok (.irem, 1) := by decide +kernel
theorem dX7_divisor_11 : decode cX7_divisor 11 = .ok (.istore 4, 2) := by decide +kernel
theorem dX7_divisor_13 : decode cX7_divisor 13 = .ok (.iload_n 3, 1) := by decide +kernel
theorem dX7_divisor_14 : decode cX7_divisor 14 = .ok (.istore_n 2, 1) := by decide +kernel
theorem dX7_divisor_15 : decode cX7_divisor 15 = .ok (.iload 4, 2) := by decide +kernel
theorem dX7_divisor_17 : decode cX7_divisor 17 = .ok (.istore_n 3, 1) := by decide +kernel
theorem dX7_divisor_18 : decode cX7_divisor 18 = .ok (.goto (-14), 3) := by decide +kernel
theorem dX7_divisor_21 : decode cX7_divisor 21 = .ok (.iload_n 2, 1) := by decide +kernel
theorem dX7_divisor_22 : decode cX7_divisor 22 = .ok (.ireturn, 1) := by decide +kernel
theorem dX7_tells_0 : decode cX7_tells 0 = .ok (.iload_n 1, 1) := by decide +kernel
theorem dX7_tells_1 : decode cX7_tells 1 = .ok (.i2l, 1) := by decide +kernel
theorem dX7_tells_2 : decode cX7_tells 2 = .ok (.lconst 0, 1) := by decide +kernel
theorem dX7_tells_3 : decode cX7_tells 3 = .ok (.ldc2_w 215, 3) := by decide +kernel
theorem dX7_tells_6 : decode cX7_tells 6 = .ok (.invokestatic 68, 3) := by decide +kernel
theorem dX7_tells_9 : decode cX7_tells 9 = .ok (.ifCond .eq 25, 3) := by decide +kernel
theorem dX7_tells_12 : decode cX7_tells 12 = .ok (.iload_n 2, 1) := by decide +kernel
theorem dX7_tells_13 : decode cX7_tells 13 = .ok (.i2l, 1) := by decide +kernel
theorem dX7_tells_14 : decode cX7_tells 14 = .ok (.lconst 0, 1) := by decide +kernel
theorem dX7_tells_15 : decode cX7_tells 15 = .ok (.ldc2_w 215, 3) := by decide +kernel
theorem dX7_tells_18 : decode cX7_tells 18 = .ok (.invokestatic 68, 3) := by decide +kernel
theorem dX7_tells_21 : decode cX7_tells 21 = .ok (.ifCond .eq 13, 3) := by decide +kernel
theorem dX7_tells_24 : decode cX7_tells 24 = .ok (.iload_n 3, 1) := by decide +kernel
theorem dX7_tells_25 : decode cX7_tells 25 = .ok (.i2l, 1) := by decide +kernel
theorem dX7_tells_26 : decode cX7_tells 26 = .ok (.lconst 0, 1) := by decide +kernel
theorem dX7_tells_27 : decode cX7_tells 27 = .ok (.lconst 1, 1) := by decide +kernel
theorem dX7_tells_28 : decode cX7_tells 28 = .ok (.invokestatic 68, 3) := by decide +kernel
theorem dX7_tells_31 : decode cX7_tells 31 = .ok (.ifCond .ne 6, 3) := by decide +kernel
theorem dX7_tells_34 : decode cX7_tells 34 = .ok (.ldc 72, 2) := by decide +kernel
theorem dX7_tells_36 : decode cX7_tells 36 = .ok (.ireturn, 1) := by decide +kernel
theorem dX7_tells_37 : decode cX7_tells 37 = .ok (.iconst 0, 1) := by decide +kernel
theorem dX7_tells_38 : decode cX7_tells 38 = .ok (.istore 4, 2) := by decide +kernel
theorem dX7_tells_40 : decode cX7_tells 40 = .ok (.iconst 0, 1) := by decide +kernel
theorem dX7_tells_41 : decode cX7_tells 41 = .ok (.istore 5, 2) := by decide +kernel
theorem dX7_tells_43 : decode cX7_tells 43 = .ok (.iconst 0, 1) := by decide +kernel
theorem dX7_tells_44 : decode cX7_tells 44 = .ok (.istore 6, 2) := by decide +kernel
theorem dX7_tells_46 : decode cX7_tells 46 = .ok (.iload 6, 2) := by decide +kernel
theorem dX7_tells_48 : decode cX7_tells 48 = .ok (.aload_n 0, 1) := by decide +kernel
theorem dX7_tells_49 : decode cX7_tells 49 = .ok (.getfield 153, 3) := by decide +kernel
theorem dX7_tells_52 : decode cX7_tells 52 = .ok (.if_icmp .ge 67, 3) := by decide +kernel
theorem dX7_tells_55 : decode cX7_tells 55 = .ok (.aload_n 0, 1) := by decide +kernel
theorem dX7_tells_56 : decode cX7_tells 56 = .ok (.iload 6, 2) := by decide +kernel
theorem dX7_tells_58 : decode cX7_tells 58 = .ok (.invokevirtual 182, 3) := by decide +kernel
theorem dX7_tells_61 : decode cX7_tells 61 = .ok (.iload_n 1, 1) := by decide +kernel
theorem dX7_tells_62 : decode cX7_tells 62 = .ok (.if_icmp .ne 7, 3) := by decide +kernel
theorem dX7_tells_65 : decode cX7_tells 65 = .ok (.iconst 1, 1) := by decide +kernel
theorem dX7_tells_66 : decode cX7_tells 66 = .ok (.goto 4, 3) := by decide +kernel
theorem dX7_tells_69 : decode cX7_tells 69 = .ok (.iconst 0, 1) := by decide +kernel
theorem dX7_tells_70 : decode cX7_tells 70 = .ok (.istore 7, 2) := by decide +kernel
theorem dX7_tells_72 : decode cX7_tells 72 = .ok (.iload 4, 2) := by decide +kernel
theorem dX7_tells_74 : decode cX7_tells 74 = .ok (.iload 7, 2) := by decide +kernel
theorem dX7_tells_76 : decode cX7_tells 76 = .ok (.ifCond .eq 7, 3) := by decide +kernel
theorem dX7_tells_79 : decode cX7_tells 79 = .ok (.iconst 1, 1) := by decide +kernel
theorem dX7_tells_80 : decode cX7_tells 80 = .ok (.goto 4, 3) := by decide +kernel
theorem dX7_tells_83 : decode cX7_tells 83 = .ok (.iconst 0, 1) := by decide +kernel
theorem dX7_tells_84 : decode cX7_tells 84 = .ok (.iadd, 1) := by decide +kernel
theorem dX7_tells_85 : decode cX7_tells 85 = .ok (.istore 4, 2) := by decide +kernel
theorem dX7_tells_87 : decode cX7_tells 87 = .ok (.iload 5, 2) := by decide +kernel
theorem dX7_tells_89 : decode cX7_tells 89 = .ok (.iload 7, 2) := by decide +kernel
theorem dX7_tells_91 : decode cX7_tells 91 = .ok (.ifCond .eq 18, 3) := by decide +kernel
theorem dX7_tells_94 : decode cX7_tells 94 = .ok (.aload_n 0, 1) := by decide +kernel
theorem dX7_tells_95 : decode cX7_tells 95 = .ok (.getfield 27, 3) := by decide +kernel
theorem dX7_tells_98 : decode cX7_tells 98 = .ok (.iload 6, 2) := by decide +kernel
theorem dX7_tells_100 : decode cX7_tells 100 = .ok (.iaload, 1) := by decide +kernel
theorem dX7_tells_101 : decode cX7_tells 101 = .ok (.iload_n 2, 1) := by decide +kernel
theorem dX7_tells_102 : decode cX7_tells 102 = .ok (.if_icmp .lt 7, 3) := by decide +kernel
theorem dX7_tells_105 : decode cX7_tells 105 = .ok (.iconst 1, 1) := by decide +kernel
theorem dX7_tells_106 : decode cX7_tells 106 = .ok (.goto 4, 3) := by decide +kernel
theorem dX7_tells_109 : decode cX7_tells 109 = .ok (.iconst 0, 1) := by decide +kernel
theorem dX7_tells_110 : decode cX7_tells 110 = .ok (.iadd, 1) := by decide +kernel
theorem dX7_tells_111 : decode cX7_tells 111 = .ok (.istore 5, 2) := by decide +kernel
theorem dX7_tells_113 : decode cX7_tells 113 = .ok (.iinc 6 1, 3) := by decide +kernel
theorem dX7_tells_116 : decode cX7_tells 116 = .ok (.goto (-70), 3) := by decide +kernel
theorem dX7_tells_119 : decode cX7_tells 119 = .ok (.iload 4, 2) := by decide +kernel
theorem dX7_tells_121 : decode cX7_tells 121 = .ok (.ifCond .ne 5, 3) := by decide +kernel
theorem dX7_tells_124 : decode cX7_tells 124 = .ok (.iload_n 3, 1) := by decide +kernel
theorem dX7_tells_125 : decode cX7_tells 125 = .ok (.ireturn, 1) := by decide +kernel
theorem dX7_tells_126 : decode cX7_tells 126 = .ok (.iload 5, 2) := by decide +kernel
theorem dX7_tells_128 : decode cX7_tells 128 = .ok (.iload 4, 2) := by decide +kernel
theorem dX7_tells_130 : decode cX7_tells 130 = .ok (.invokestatic 256, 3) := by decide +kernel
theorem dX7_tells_133 : decode cX7_tells 133 = .ok (.istore 6, 2) := by decide +kernel
theorem dX7_tells_135 : decode cX7_tells 135 = .ok (.iload_n 3, 1) := by decide +kernel
theorem dX7_tells_136 : decode cX7_tells 136 = .ok (.ifCond .ne 11, 3) := by decide +kernel
theorem dX7_tells_139 : decode cX7_tells 139 = .ok (.iload 5, 2) := by decide +kernel
theorem dX7_tells_141 : decode cX7_tells 141 = .ok (.iload 6, 2) := by decide +kernel
theorem dX7_tells_143 : decode cX7_tells 143 = .ok (.idiv, 1) := by decide +kernel
theorem dX7_tells_144 : decode cX7_tells 144 = .ok (.goto 8, 3) := by decide +kernel
theorem dX7_tells_147 : decode cX7_tells 147 = .ok (.iload 4, 2) := by decide +kernel
theorem dX7_tells_149 : decode cX7_tells 149 = .ok (.iload 6, 2) := by decide +kernel
theorem dX7_tells_151 : decode cX7_tells 151 = .ok (.idiv, 1) := by decide +kernel
theorem dX7_tells_152 : decode cX7_tells 152 = .ok (.ireturn, 1) := by decide +kernel
theorem dX7_wordsTo_0 : decode cX7_wordsTo 0 = .ok (.iconst 0, 1) := by decide +kernel
theorem dX7_wordsTo_1 : decode cX7_wordsTo 1 = .ok (.istore_n 3, 1) := by decide +kernel
theorem dX7_wordsTo_2 : decode cX7_wordsTo 2 = .ok (.iload_n 2, 1) := by decide +kernel
theorem dX7_wordsTo_3 : decode cX7_wordsTo 3 = .ok (.istore 4, 2) := by decide +kernel
theorem dX7_wordsTo_5 : decode cX7_wordsTo 5 = .ok (.iload 4, 2) := by decide +kernel
theorem dX7_wordsTo_7 : decode cX7_wordsTo 7 = .ok (.aload_n 0, 1) := by decide +kernel
theorem dX7_wordsTo_8 : decode cX7_wordsTo 8 = .ok (.getfield 27, 3) := by decide +kernel
theorem dX7_wordsTo_11 : decode cX7_wordsTo 11 = .ok (.iload_n 1, 1) := by decide +kernel
theorem dX7_wordsTo_12 : decode cX7_wordsTo 12 = .ok (.iaload, 1) := by decide +kernel
theorem dX7_wordsTo_13 : decode cX7_wordsTo 13 = .ok (.if_icmp .lt 27, 3) := by decide +kernel
theorem dX7_wordsTo_16 : decode cX7_wordsTo 16 = .ok (.iload 4, 2) := by decide +kernel
theorem dX7_wordsTo_18 : decode cX7_wordsTo 18 = .ok (.bipush 10, 2) := by decide +kernel
theorem dX7_wordsTo_20 : decode cX7_wordsTo 20 = .ok (.if_icmp .ge 7, 3) := by decide +kernel
theorem dX7_wordsTo_23 : decode cX7_wordsTo 23 = .ok (.iconst 0, 1) := by decide +kernel
theorem dX7_wordsTo_24 : decode cX7_wordsTo 24 = .ok (.goto 8, 3) := by decide +kernel
theorem dX7_wordsTo_27 : decode cX7_wordsTo 27 = .ok (.iload 4, 2) := by decide +kernel
theorem dX7_wordsTo_29 : decode cX7_wordsTo 29 = .ok (.bipush 10, 2) := by decide +kernel
theorem dX7_wordsTo_31 : decode cX7_wordsTo 31 = .ok (.isub, 1) := by decide +kernel
theorem dX7_wordsTo_32 : decode cX7_wordsTo 32 = .ok (.istore 4, 2) := by decide +kernel
theorem dX7_wordsTo_34 : decode cX7_wordsTo 34 = .ok (.iinc 3 1, 3) := by decide +kernel
theorem dX7_wordsTo_37 : decode cX7_wordsTo 37 = .ok (.goto (-32), 3) := by decide +kernel
theorem dX7_wordsTo_40 : decode cX7_wordsTo 40 = .ok (.iload_n 3, 1) := by decide +kernel
theorem dX7_wordsTo_41 : decode cX7_wordsTo 41 = .ok (.ireturn, 1) := by decide +kernel
theorem dX7_words_0 : decode cX7_words 0 = .ok (.aload_n 0, 1) := by decide +kernel
theorem dX7_words_1 : decode cX7_words 1 = .ok (.iload_n 1, 1) := by decide +kernel
theorem dX7_words_2 : decode cX7_words 2 = .ok (.invokevirtual 178, 3) := by decide +kernel
theorem dX7_words_5 : decode cX7_words 5 = .ok (.ifCond .eq 16, 3) := by decide +kernel
theorem dX7_words_8 : decode cX7_words 8 = .ok (.aload_n 0, 1) := by decide +kernel
theorem dX7_words_9 : decode cX7_words 9 = .ok (.iload_n 2, 1) := by decide +kernel
theorem dX7_words_10 : decode cX7_words 10 = .ok (.invokevirtual 178, 3) := by decide +kernel
theorem dX7_words_13 : decode cX7_words 13 = .ok (.ifCond .eq 8, 3) := by decide +kernel
theorem dX7_words_16 : decode cX7_words 16 = .ok (.iload_n 1, 1) := by decide +kernel
theorem dX7_words_17 : decode cX7_words 17 = .ok (.iload_n 2, 1) := by decide +kernel
theorem dX7_words_18 : decode cX7_words 18 = .ok (.if_icmp .ne 6, 3) := by decide +kernel
theorem dX7_words_21 : decode cX7_words 21 = .ok (.ldc 181, 2) := by decide +kernel
theorem dX7_words_23 : decode cX7_words 23 = .ok (.ireturn, 1) := by decide +kernel
theorem dX7_words_24 : decode cX7_words 24 = .ok (.aload_n 0, 1) := by decide +kernel
theorem dX7_words_25 : decode cX7_words 25 = .ok (.getfield 27, 3) := by decide +kernel
theorem dX7_words_28 : decode cX7_words 28 = .ok (.iload_n 1, 1) := by decide +kernel
theorem dX7_words_29 : decode cX7_words 29 = .ok (.iaload, 1) := by decide +kernel
theorem dX7_words_30 : decode cX7_words 30 = .ok (.ifCond .eq 12, 3) := by decide +kernel
theorem dX7_words_33 : decode cX7_words 33 = .ok (.aload_n 0, 1) := by decide +kernel
theorem dX7_words_34 : decode cX7_words 34 = .ok (.getfield 27, 3) := by decide +kernel
theorem dX7_words_37 : decode cX7_words 37 = .ok (.iload_n 2, 1) := by decide +kernel
theorem dX7_words_38 : decode cX7_words 38 = .ok (.iaload, 1) := by decide +kernel
theorem dX7_words_39 : decode cX7_words 39 = .ok (.ifCond .ne 7, 3) := by decide +kernel
theorem dX7_words_42 : decode cX7_words 42 = .ok (.iconst (-1), 1) := by decide +kernel
theorem dX7_words_43 : decode cX7_words 43 = .ok (.goto 24, 3) := by decide +kernel
theorem dX7_words_46 : decode cX7_words 46 = .ok (.aload_n 0, 1) := by decide +kernel
theorem dX7_words_47 : decode cX7_words 47 = .ok (.iload_n 1, 1) := by decide +kernel
theorem dX7_words_48 : decode cX7_words 48 = .ok (.aload_n 0, 1) := by decide +kernel
theorem dX7_words_49 : decode cX7_words 49 = .ok (.iload_n 2, 1) := by decide +kernel
theorem dX7_words_50 : decode cX7_words 50 = .ok (.invokevirtual 182, 3) := by decide +kernel
theorem dX7_words_53 : decode cX7_words 53 = .ok (.invokevirtual 259, 3) := by decide +kernel
theorem dX7_words_56 : decode cX7_words 56 = .ok (.aload_n 0, 1) := by decide +kernel
theorem dX7_words_57 : decode cX7_words 57 = .ok (.iload_n 2, 1) := by decide +kernel
theorem dX7_words_58 : decode cX7_words 58 = .ok (.aload_n 0, 1) := by decide +kernel
theorem dX7_words_59 : decode cX7_words 59 = .ok (.iload_n 1, 1) := by decide +kernel
theorem dX7_words_60 : decode cX7_words 60 = .ok (.invokevirtual 182, 3) := by decide +kernel
theorem dX7_words_63 : decode cX7_words 63 = .ok (.invokevirtual 259, 3) := by decide +kernel
theorem dX7_words_66 : decode cX7_words 66 = .ok (.iadd, 1) := by decide +kernel
theorem dX7_words_67 : decode cX7_words 67 = .ok (.ireturn, 1) := by decide +kernel
theorem dX7_hire_0 : decode cX7_hire 0 = .ok (.aload_n 0, 1) := by decide +kernel
theorem dX7_hire_1 : decode cX7_hire 1 = .ok (.iload_n 1, 1) := by decide +kernel
theorem dX7_hire_2 : decode cX7_hire 2 = .ok (.invokevirtual 178, 3) := by decide +kernel
theorem dX7_hire_5 : decode cX7_hire 5 = .ok (.ifCond .ne 6, 3) := by decide +kernel
theorem dX7_hire_8 : decode cX7_hire 8 = .ok (.ldc 181, 2) := by decide +kernel
theorem dX7_hire_10 : decode cX7_hire 10 = .ok (.ireturn, 1) := by decide +kernel
theorem dX7_hire_11 : decode cX7_hire 11 = .ok (.iload_n 2, 1) := by decide +kernel
theorem dX7_hire_12 : decode cX7_hire 12 = .ok (.i2l, 1) := by decide +kernel
theorem dX7_hire_13 : decode cX7_hire 13 = .ok (.lconst 0, 1) := by decide +kernel
theorem dX7_hire_14 : decode cX7_hire 14 = .ok (.lconst 1, 1) := by decide +kernel
theorem dX7_hire_15 : decode cX7_hire 15 = .ok (.invokestatic 68, 3) := by decide +kernel
theorem dX7_hire_18 : decode cX7_hire 18 = .ok (.ifCond .ne 6, 3) := by decide +kernel
theorem dX7_hire_21 : decode cX7_hire 21 = .ok (.ldc 72, 2) := by decide +kernel
theorem dX7_hire_23 : decode cX7_hire 23 = .ok (.ireturn, 1) := by decide +kernel
theorem dX7_hire_24 : decode cX7_hire 24 = .ok (.iconst 0, 1) := by decide +kernel
theorem dX7_hire_25 : decode cX7_hire 25 = .ok (.istore_n 3, 1) := by decide +kernel
theorem dX7_hire_26 : decode cX7_hire 26 = .ok (.iconst (-1), 1) := by decide +kernel
theorem dX7_hire_27 : decode cX7_hire 27 = .ok (.istore 4, 2) := by decide +kernel
theorem dX7_hire_29 : decode cX7_hire 29 = .ok (.iconst 0, 1) := by decide +kernel
theorem dX7_hire_30 : decode cX7_hire 30 = .ok (.istore 5, 2) := by decide +kernel
theorem dX7_hire_32 : decode cX7_hire 32 = .ok (.iconst 0, 1) := by decide +kernel
theorem dX7_hire_33 : decode cX7_hire 33 = .ok (.istore 6, 2) := by decide +kernel
theorem dX7_hire_35 : decode cX7_hire 35 = .ok (.iload 6, 2) := by decide +kernel
theorem dX7_hire_37 : decode cX7_hire 37 = .ok (.iload_n 1, 1) := by decide +kernel
theorem dX7_hire_38 : decode cX7_hire 38 = .ok (.if_icmp .gt 136, 3) := by decide +kernel
theorem dX7_hire_41 : decode cX7_hire 41 = .ok (.iconst (-1), 1) := by decide +kernel
theorem dX7_hire_42 : decode cX7_hire 42 = .ok (.istore 4, 2) := by decide +kernel
theorem dX7_hire_44 : decode cX7_hire 44 = .ok (.iconst 0, 1) := by decide +kernel
theorem dX7_hire_45 : decode cX7_hire 45 = .ok (.istore 7, 2) := by decide +kernel
theorem dX7_hire_47 : decode cX7_hire 47 = .ok (.iconst 0, 1) := by decide +kernel
theorem dX7_hire_48 : decode cX7_hire 48 = .ok (.istore 5, 2) := by decide +kernel
theorem dX7_hire_50 : decode cX7_hire 50 = .ok (.iconst 0, 1) := by decide +kernel
theorem dX7_hire_51 : decode cX7_hire 51 = .ok (.istore 8, 2) := by decide +kernel
theorem dX7_hire_53 : decode cX7_hire 53 = .ok (.iload 8, 2) := by decide +kernel
theorem dX7_hire_55 : decode cX7_hire 55 = .ok (.aload_n 0, 1) := by decide +kernel
theorem dX7_hire_56 : decode cX7_hire 56 = .ok (.getfield 150, 3) := by decide +kernel
theorem dX7_hire_59 : decode cX7_hire 59 = .ok (.if_icmp .ge 92, 3) := by decide +kernel
theorem dX7_hire_62 : decode cX7_hire 62 = .ok (.iload_n 3, 1) := by decide +kernel
theorem dX7_hire_63 : decode cX7_hire 63 = .ok (.iload 8, 2) := by decide +kernel
theorem dX7_hire_65 : decode cX7_hire 65 = .ok (.invokestatic 112, 3) := by decide +kernel
theorem dX7_hire_68 : decode cX7_hire 68 = .ok (.ifCond .eq 7, 3) := by decide +kernel
theorem dX7_hire_71 : decode cX7_hire 71 = .ok (.iconst 0, 1) := by decide +kernel
theorem dX7_hire_72 : decode cX7_hire 72 = .ok (.goto 11, 3) := by decide +kernel
theorem dX7_hire_75 : decode cX7_hire 75 = .ok (.aload_n 0, 1) := by decide +kernel
theorem dX7_hire_76 : decode cX7_hire 76 = .ok (.iload 8, 2) := by decide +kernel
theorem dX7_hire_78 : decode cX7_hire 78 = .ok (.iload 6, 2) := by decide +kernel
theorem dX7_hire_80 : decode cX7_hire 80 = .ok (.invokevirtual 168, 3) := by decide +kernel
theorem dX7_hire_83 : decode cX7_hire 83 = .ok (.istore 9, 2) := by decide +kernel
theorem dX7_hire_85 : decode cX7_hire 85 = .ok (.iload 9, 2) := by decide +kernel
theorem dX7_hire_87 : decode cX7_hire 87 = .ok (.iload 7, 2) := by decide +kernel
theorem dX7_hire_89 : decode cX7_hire 89 = .ok (.if_icmp .le 8, 3) := by decide +kernel
theorem dX7_hire_92 : decode cX7_hire 92 = .ok (.iload 7, 2) := by decide +kernel
theorem dX7_hire_94 : decode cX7_hire 94 = .ok (.goto 17, 3) := by decide +kernel
theorem dX7_hire_97 : decode cX7_hire 97 = .ok (.iload 9, 2) := by decide +kernel
theorem dX7_hire_99 : decode cX7_hire 99 = .ok (.iload 5, 2) := by decide +kernel
theorem dX7_hire_101 : decode cX7_hire 101 = .ok (.if_icmp .le 8, 3) := by decide +kernel
theorem dX7_hire_104 : decode cX7_hire 104 = .ok (.iload 9, 2) := by decide +kernel
theorem dX7_hire_106 : decode cX7_hire 106 = .ok (.goto 5, 3) := by decide +kernel
theorem dX7_hire_109 : decode cX7_hire 109 = .ok (.iload 5, 2) := by decide +kernel
theorem dX7_hire_111 : decode cX7_hire 111 = .ok (.istore 5, 2) := by decide +kernel
theorem dX7_hire_113 : decode cX7_hire 113 = .ok (.iload 9, 2) := by decide +kernel
theorem dX7_hire_115 : decode cX7_hire 115 = .ok (.iload 7, 2) := by decide +kernel
theorem dX7_hire_117 : decode cX7_hire 117 = .ok (.if_icmp .le 8, 3) := by decide +kernel
theorem dX7_hire_120 : decode cX7_hire 120 = .ok (.iload 8, 2) := by decide +kernel
theorem dX7_hire_122 : decode cX7_hire 122 = .ok (.goto 5, 3) := by decide +kernel
theorem dX7_hire_125 : decode cX7_hire 125 = .ok (.iload 4, 2) := by decide +kernel
theorem dX7_hire_127 : decode cX7_hire 127 = .ok (.istore 4, 2) := by decide +kernel
theorem dX7_hire_129 : decode cX7_hire 129 = .ok (.iload 9, 2) := by decide +kernel
theorem dX7_hire_131 : decode cX7_hire 131 = .ok (.iload 7, 2) := by decide +kernel
theorem dX7_hire_133 : decode cX7_hire 133 = .ok (.if_icmp .le 8, 3) := by decide +kernel
theorem dX7_hire_136 : decode cX7_hire 136 = .ok (.iload 9, 2) := by decide +kernel
theorem dX7_hire_138 : decode cX7_hire 138 = .ok (.goto 5, 3) := by decide +kernel
theorem dX7_hire_141 : decode cX7_hire 141 = .ok (.iload 7, 2) := by decide +kernel
theorem dX7_hire_143 : decode cX7_hire 143 = .ok (.istore 7, 2) := by decide +kernel
theorem dX7_hire_145 : decode cX7_hire 145 = .ok (.iinc 8 1, 3) := by decide +kernel
theorem dX7_hire_148 : decode cX7_hire 148 = .ok (.goto (-95), 3) := by decide +kernel
theorem dX7_hire_151 : decode cX7_hire 151 = .ok (.iload_n 3, 1) := by decide +kernel
theorem dX7_hire_152 : decode cX7_hire 152 = .ok (.iload 4, 2) := by decide +kernel
theorem dX7_hire_154 : decode cX7_hire 154 = .ok (.iconst (-1), 1) := by decide +kernel
theorem dX7_hire_155 : decode cX7_hire 155 = .ok (.if_icmp .ne 7, 3) := by decide +kernel
theorem dX7_hire_158 : decode cX7_hire 158 = .ok (.iconst 0, 1) := by decide +kernel
theorem dX7_hire_159 : decode cX7_hire 159 = .ok (.goto 7, 3) := by decide +kernel
theorem dX7_hire_162 : decode cX7_hire 162 = .ok (.iconst 1, 1) := by decide +kernel
theorem dX7_hire_163 : decode cX7_hire 163 = .ok (.iload 4, 2) := by decide +kernel
theorem dX7_hire_165 : decode cX7_hire 165 = .ok (.ishl, 1) := by decide +kernel
theorem dX7_hire_166 : decode cX7_hire 166 = .ok (.ior, 1) := by decide +kernel
theorem dX7_hire_167 : decode cX7_hire 167 = .ok (.istore_n 3, 1) := by decide +kernel
theorem dX7_hire_168 : decode cX7_hire 168 = .ok (.iinc 6 1, 3) := by decide +kernel
theorem dX7_hire_171 : decode cX7_hire 171 = .ok (.goto (-136), 3) := by decide +kernel
theorem dX7_hire_174 : decode cX7_hire 174 = .ok (.iload 4, 2) := by decide +kernel
theorem dX7_hire_176 : decode cX7_hire 176 = .ok (.iconst (-1), 1) := by decide +kernel
theorem dX7_hire_177 : decode cX7_hire 177 = .ok (.if_icmp .ne 7, 3) := by decide +kernel
theorem dX7_hire_180 : decode cX7_hire 180 = .ok (.iconst (-1), 1) := by decide +kernel
theorem dX7_hire_181 : decode cX7_hire 181 = .ok (.goto 14, 3) := by decide +kernel
theorem dX7_hire_184 : decode cX7_hire 184 = .ok (.iload_n 2, 1) := by decide +kernel
theorem dX7_hire_185 : decode cX7_hire 185 = .ok (.ifCond .ne 8, 3) := by decide +kernel
theorem dX7_hire_188 : decode cX7_hire 188 = .ok (.iload 4, 2) := by decide +kernel
theorem dX7_hire_190 : decode cX7_hire 190 = .ok (.goto 5, 3) := by decide +kernel
theorem dX7_hire_193 : decode cX7_hire 193 = .ok (.iload 5, 2) := by decide +kernel
theorem dX7_hire_195 : decode cX7_hire 195 = .ok (.ireturn, 1) := by decide +kernel
theorem dX7_saw_0 : decode cX7_saw 0 = .ok (.aload_n 0, 1) := by decide +kernel
theorem dX7_saw_1 : decode cX7_saw 1 = .ok (.iload_n 1, 1) := by decide +kernel
theorem dX7_saw_2 : decode cX7_saw 2 = .ok (.invokevirtual 188, 3) := by decide +kernel
theorem dX7_saw_5 : decode cX7_saw 5 = .ok (.ifCond .eq 11, 3) := by decide +kernel
theorem dX7_saw_8 : decode cX7_saw 8 = .ok (.aload_n 0, 1) := by decide +kernel
theorem dX7_saw_9 : decode cX7_saw 9 = .ok (.iload_n 2, 1) := by decide +kernel
theorem dX7_saw_10 : decode cX7_saw 10 = .ok (.invokevirtual 178, 3) := by decide +kernel
theorem dX7_saw_13 : decode cX7_saw 13 = .ok (.ifCond .ne 6, 3) := by decide +kernel
theorem dX7_saw_16 : decode cX7_saw 16 = .ok (.ldc 181, 2) := by decide +kernel
theorem dX7_saw_18 : decode cX7_saw 18 = .ok (.ireturn, 1) := by decide +kernel
theorem dX7_saw_19 : decode cX7_saw 19 = .ok (.iload_n 3, 1) := by decide +kernel
theorem dX7_saw_20 : decode cX7_saw 20 = .ok (.i2l, 1) := by decide +kernel
theorem dX7_saw_21 : decode cX7_saw 21 = .ok (.lconst 0, 1) := by decide +kernel
theorem dX7_saw_22 : decode cX7_saw 22 = .ok (.lconst 1, 1) := by decide +kernel
theorem dX7_saw_23 : decode cX7_saw 23 = .ok (.invokestatic 68, 3) := by decide +kernel
theorem dX7_saw_26 : decode cX7_saw 26 = .ok (.ifCond .ne 6, 3) := by decide +kernel
theorem dX7_saw_29 : decode cX7_saw 29 = .ok (.ldc 72, 2) := by decide +kernel
theorem dX7_saw_31 : decode cX7_saw 31 = .ok (.ireturn, 1) := by decide +kernel
theorem dX7_saw_32 : decode cX7_saw 32 = .ok (.iconst 0, 1) := by decide +kernel
theorem dX7_saw_33 : decode cX7_saw 33 = .ok (.istore 4, 2) := by decide +kernel
theorem dX7_saw_35 : decode cX7_saw 35 = .ok (.iconst 0, 1) := by decide +kernel
theorem dX7_saw_36 : decode cX7_saw 36 = .ok (.istore 5, 2) := by decide +kernel
theorem dX7_saw_38 : decode cX7_saw 38 = .ok (.iconst 0, 1) := by decide +kernel
theorem dX7_saw_39 : decode cX7_saw 39 = .ok (.istore 6, 2) := by decide +kernel
theorem dX7_saw_41 : decode cX7_saw 41 = .ok (.iload 6, 2) := by decide +kernel
theorem dX7_saw_43 : decode cX7_saw 43 = .ok (.iconst 2, 1) := by decide +kernel
theorem dX7_saw_44 : decode cX7_saw 44 = .ok (.if_icmp .ge 113, 3) := by decide +kernel
theorem dX7_saw_47 : decode cX7_saw 47 = .ok (.iconst 0, 1) := by decide +kernel
theorem dX7_saw_48 : decode cX7_saw 48 = .ok (.istore 7, 2) := by decide +kernel
theorem dX7_saw_50 : decode cX7_saw 50 = .ok (.iload 7, 2) := by decide +kernel
theorem dX7_saw_52 : decode cX7_saw 52 = .ok (.bipush 64, 2) := by decide +kernel
theorem dX7_saw_54 : decode cX7_saw 54 = .ok (.if_icmp .ge 97, 3) := by decide +kernel
theorem dX7_saw_57 : decode cX7_saw 57 = .ok (.iload 6, 2) := by decide +kernel
theorem dX7_saw_59 : decode cX7_saw 59 = .ok (.iconst 1, 1) := by decide +kernel
theorem dX7_saw_60 : decode cX7_saw 60 = .ok (.if_icmp .ne 11, 3) := by decide +kernel
theorem dX7_saw_63 : decode cX7_saw 63 = .ok (.aload_n 0, 1) := by decide +kernel
theorem dX7_saw_64 : decode cX7_saw 64 = .ok (.iload_n 2, 1) := by decide +kernel
theorem dX7_saw_65 : decode cX7_saw 65 = .ok (.invokevirtual 182, 3) := by decide +kernel
theorem dX7_saw_68 : decode cX7_saw 68 = .ok (.goto 4, 3) := by decide +kernel
theorem dX7_saw_71 : decode cX7_saw 71 = .ok (.iconst 0, 1) := by decide +kernel
theorem dX7_saw_72 : decode cX7_saw 72 = .ok (.aload_n 0, 1) := by decide +kernel
theorem dX7_saw_73 : decode cX7_saw 73 = .ok (.iload 7, 2) := by decide +kernel
theorem dX7_saw_75 : decode cX7_saw 75 = .ok (.invokevirtual 234, 3) := by decide +kernel
theorem dX7_saw_78 : decode cX7_saw 78 = .ok (.iadd, 1) := by decide +kernel
theorem dX7_saw_79 : decode cX7_saw 79 = .ok (.istore 8, 2) := by decide +kernel
theorem dX7_saw_81 : decode cX7_saw 81 = .ok (.iload 8, 2) := by decide +kernel
theorem dX7_saw_83 : decode cX7_saw 83 = .ok (.bipush 99, 2) := by decide +kernel
theorem dX7_saw_85 : decode cX7_saw 85 = .ok (.if_icmp .le 8, 3) := by decide +kernel
theorem dX7_saw_88 : decode cX7_saw 88 = .ok (.bipush 99, 2) := by decide +kernel
theorem dX7_saw_90 : decode cX7_saw 90 = .ok (.goto 5, 3) := by decide +kernel
theorem dX7_saw_93 : decode cX7_saw 93 = .ok (.iload 8, 2) := by decide +kernel
theorem dX7_saw_95 : decode cX7_saw 95 = .ok (.istore 8, 2) := by decide +kernel
theorem dX7_saw_97 : decode cX7_saw 97 = .ok (.iload 7, 2) := by decide +kernel
theorem dX7_saw_99 : decode cX7_saw 99 = .ok (.aload_n 0, 1) := by decide +kernel
theorem dX7_saw_100 : decode cX7_saw 100 = .ok (.getfield 7, 3) := by decide +kernel
theorem dX7_saw_103 : decode cX7_saw 103 = .ok (.bipush 35, 2) := by decide +kernel
theorem dX7_saw_105 : decode cX7_saw 105 = .ok (.iload_n 2, 1) := by decide +kernel
theorem dX7_saw_106 : decode cX7_saw 106 = .ok (.iadd, 1) := by decide +kernel
theorem dX7_saw_107 : decode cX7_saw 107 = .ok (.iaload, 1) := by decide +kernel
theorem dX7_saw_108 : decode cX7_saw 108 = .ok (.iconst (-1), 1) := by decide +kernel
theorem dX7_saw_109 : decode cX7_saw 109 = .ok (.ixor, 1) := by decide +kernel
theorem dX7_saw_110 : decode cX7_saw 110 = .ok (.iand, 1) := by decide +kernel
theorem dX7_saw_111 : decode cX7_saw 111 = .ok (.ifCond .ne 34, 3) := by decide +kernel
theorem dX7_saw_114 : decode cX7_saw 114 = .ok (.iload 8, 2) := by decide +kernel
theorem dX7_saw_116 : decode cX7_saw 116 = .ok (.aload_n 0, 1) := by decide +kernel
theorem dX7_saw_117 : decode cX7_saw 117 = .ok (.iload_n 1, 1) := by decide +kernel
theorem dX7_saw_118 : decode cX7_saw 118 = .ok (.iload_n 2, 1) := by decide +kernel
theorem dX7_saw_119 : decode cX7_saw 119 = .ok (.invokevirtual 168, 3) := by decide +kernel
theorem dX7_saw_122 : decode cX7_saw 122 = .ok (.if_icmp .ne 23, 3) := by decide +kernel
theorem dX7_saw_125 : decode cX7_saw 125 = .ok (.iload 4, 2) := by decide +kernel
theorem dX7_saw_127 : decode cX7_saw 127 = .ok (.ifCond .ne 8, 3) := by decide +kernel
theorem dX7_saw_130 : decode cX7_saw 130 = .ok (.iload 7, 2) := by decide +kernel
theorem dX7_saw_132 : decode cX7_saw 132 = .ok (.goto 8, 3) := by decide +kernel
theorem dX7_saw_135 : decode cX7_saw 135 = .ok (.iload 5, 2) := by decide +kernel
theorem dX7_saw_137 : decode cX7_saw 137 = .ok (.iload 7, 2) := by decide +kernel
theorem dX7_saw_139 : decode cX7_saw 139 = .ok (.iand, 1) := by decide +kernel
theorem dX7_saw_140 : decode cX7_saw 140 = .ok (.istore 5, 2) := by decide +kernel
theorem dX7_saw_142 : decode cX7_saw 142 = .ok (.iinc 4 1, 3) := by decide +kernel
theorem dX7_saw_145 : decode cX7_saw 145 = .ok (.iinc 7 1, 3) := by decide +kernel
theorem dX7_saw_148 : decode cX7_saw 148 = .ok (.goto (-98), 3) := by decide +kernel
theorem dX7_saw_151 : decode cX7_saw 151 = .ok (.iinc 6 1, 3) := by decide +kernel
theorem dX7_saw_154 : decode cX7_saw 154 = .ok (.goto (-113), 3) := by decide +kernel
theorem dX7_saw_157 : decode cX7_saw 157 = .ok (.iload_n 3, 1) := by decide +kernel
theorem dX7_saw_158 : decode cX7_saw 158 = .ok (.ifCond .ne 8, 3) := by decide +kernel
theorem dX7_saw_161 : decode cX7_saw 161 = .ok (.iload 4, 2) := by decide +kernel
theorem dX7_saw_163 : decode cX7_saw 163 = .ok (.goto 5, 3) := by decide +kernel
theorem dX7_saw_166 : decode cX7_saw 166 = .ok (.iload 5, 2) := by decide +kernel
theorem dX7_saw_168 : decode cX7_saw 168 = .ok (.ireturn, 1) := by decide +kernel
theorem dX7_hides_0 : decode cX7_hides 0 = .ok (.iload_n 1, 1) := by decide +kernel
theorem dX7_hides_1 : decode cX7_hides 1 = .ok (.i2l, 1) := by decide +kernel
theorem dX7_hides_2 : decode cX7_hides 2 = .ok (.lconst 1, 1) := by decide +kernel
theorem dX7_hides_3 : decode cX7_hides 3 = .ok (.ldc2_w 262, 3) := by decide +kernel
theorem dX7_hides_6 : decode cX7_hides 6 = .ok (.invokestatic 68, 3) := by decide +kernel
theorem dX7_hides_9 : decode cX7_hides 9 = .ok (.ifCond .eq 15, 3) := by decide +kernel
theorem dX7_hides_12 : decode cX7_hides 12 = .ok (.iload_n 2, 1) := by decide +kernel
theorem dX7_hides_13 : decode cX7_hides 13 = .ok (.i2l, 1) := by decide +kernel
theorem dX7_hides_14 : decode cX7_hides 14 = .ok (.lconst 0, 1) := by decide +kernel
theorem dX7_hides_15 : decode cX7_hides 15 = .ok (.ldc2_w 264, 3) := by decide +kernel
theorem dX7_hides_18 : decode cX7_hides 18 = .ok (.invokestatic 68, 3) := by decide +kernel
theorem dX7_hides_21 : decode cX7_hides 21 = .ok (.ifCond .ne 6, 3) := by decide +kernel
theorem dX7_hides_24 : decode cX7_hides 24 = .ok (.ldc 72, 2) := by decide +kernel
theorem dX7_hides_26 : decode cX7_hides 26 = .ok (.ireturn, 1) := by decide +kernel
theorem dX7_hides_27 : decode cX7_hides 27 = .ok (.ldc2_w 266, 3) := by decide +kernel
theorem dX7_hides_30 : decode cX7_hides 30 = .ok (.lstore_n 3, 1) := by decide +kernel
theorem dX7_hides_31 : decode cX7_hides 31 = .ok (.iconst 0, 1) := by decide +kernel
theorem dX7_hides_32 : decode cX7_hides 32 = .ok (.istore 5, 2) := by decide +kernel
theorem dX7_hides_34 : decode cX7_hides 34 = .ok (.iload 5, 2) := by decide +kernel
theorem dX7_hides_36 : decode cX7_hides 36 = .ok (.iload_n 1, 1) := by decide +kernel
theorem dX7_hides_37 : decode cX7_hides 37 = .ok (.if_icmp .ge 21, 3) := by decide +kernel
theorem dX7_hides_40 : decode cX7_hides 40 = .ok (.lload_n 3, 1) := by decide +kernel
theorem dX7_hides_41 : decode cX7_hides 41 = .ok (.bipush 100, 2) := by decide +kernel
theorem dX7_hides_43 : decode cX7_hides 43 = .ok (.iload_n 2, 1) := by decide +kernel
theorem dX7_hides_44 : decode cX7_hides 44 = .ok (.isub, 1) := by decide +kernel
theorem dX7_hides_45 : decode cX7_hides 45 = .ok (.i2l, 1) := by decide +kernel
theorem dX7_hides_46 : decode cX7_hides 46 = .ok (.lmul, 1) := by decide +kernel
theorem dX7_hides_47 : decode cX7_hides 47 = .ok (.ldc2_w 264, 3) := by decide +kernel
theorem dX7_hides_50 : decode cX7_hides 50 = .ok (.ldiv, 1) := by decide +kernel
theorem dX7_hides_51 : decode cX7_hides 51 = .ok (.lstore_n 3, 1) := by decide +kernel
theorem dX7_hides_52 : decode cX7_hides 52 = .ok (.iinc 5 1, 3) := by decide +kernel
theorem dX7_hides_55 : decode cX7_hides 55 = .ok (.goto (-21), 3) := by decide +kernel
theorem dX7_hides_58 : decode cX7_hides 58 = .ok (.lload_n 3, 1) := by decide +kernel
theorem dX7_hides_59 : decode cX7_hides 59 = .ok (.l2i, 1) := by decide +kernel
theorem dX7_hides_60 : decode cX7_hides 60 = .ok (.ireturn, 1) := by decide +kernel
theorem dX7_note_0 : decode cX7_note 0 = .ok (.aload_n 0, 1) := by decide +kernel
theorem dX7_note_1 : decode cX7_note 1 = .ok (.iload_n 1, 1) := by decide +kernel
theorem dX7_note_2 : decode cX7_note 2 = .ok (.invokevirtual 188, 3) := by decide +kernel
theorem dX7_note_5 : decode cX7_note 5 = .ok (.ifCond .eq 11, 3) := by decide +kernel
theorem dX7_note_8 : decode cX7_note 8 = .ok (.aload_n 0, 1) := by decide +kernel
theorem dX7_note_9 : decode cX7_note 9 = .ok (.iload_n 2, 1) := by decide +kernel
theorem dX7_note_10 : decode cX7_note 10 = .ok (.invokevirtual 178, 3) := by decide +kernel
theorem dX7_note_13 : decode cX7_note 13 = .ok (.ifCond .ne 6, 3) := by decide +kernel
theorem dX7_note_16 : decode cX7_note 16 = .ok (.ldc 181, 2) := by decide +kernel
theorem dX7_note_18 : decode cX7_note 18 = .ok (.ireturn, 1) := by decide +kernel
theorem dX7_note_19 : decode cX7_note 19 = .ok (.iload_n 3, 1) := by decide +kernel
theorem dX7_note_20 : decode cX7_note 20 = .ok (.i2l, 1) := by decide +kernel
theorem dX7_note_21 : decode cX7_note 21 = .ok (.lconst 0, 1) := by decide +kernel
theorem dX7_note_22 : decode cX7_note 22 = .ok (.ldc2_w 215, 3) := by decide +kernel
theorem dX7_note_25 : decode cX7_note 25 = .ok (.invokestatic 68, 3) := by decide +kernel
theorem dX7_note_28 : decode cX7_note 28 = .ok (.ifCond .ne 6, 3) := by decide +kernel
theorem dX7_note_31 : decode cX7_note 31 = .ok (.ldc 72, 2) := by decide +kernel
theorem dX7_note_33 : decode cX7_note 33 = .ok (.ireturn, 1) := by decide +kernel
theorem dX7_note_34 : decode cX7_note 34 = .ok (.aload_n 0, 1) := by decide +kernel
theorem dX7_note_35 : decode cX7_note 35 = .ok (.getfield 165, 3) := by decide +kernel
theorem dX7_note_38 : decode cX7_note 38 = .ok (.bipush 15, 2) := by decide +kernel
theorem dX7_note_40 : decode cX7_note 40 = .ok (.if_icmp .ne 6, 3) := by decide +kernel
theorem dX7_note_43 : decode cX7_note 43 = .ok (.ldc 76, 2) := by decide +kernel
theorem dX7_note_45 : decode cX7_note 45 = .ok (.ireturn, 1) := by decide +kernel
theorem dX7_note_46 : decode cX7_note 46 = .ok (.aload_n 0, 1) := by decide +kernel
theorem dX7_note_47 : decode cX7_note 47 = .ok (.getfield 39, 3) := by decide +kernel
theorem dX7_note_50 : decode cX7_note 50 = .ok (.iconst 3, 1) := by decide +kernel
theorem dX7_note_51 : decode cX7_note 51 = .ok (.aload_n 0, 1) := by decide +kernel
theorem dX7_note_52 : decode cX7_note 52 = .ok (.getfield 165, 3) := by decide +kernel
theorem dX7_note_55 : decode cX7_note 55 = .ok (.imul, 1) := by decide +kernel
theorem dX7_note_56 : decode cX7_note 56 = .ok (.iload_n 1, 1) := by decide +kernel
theorem dX7_note_57 : decode cX7_note 57 = .ok (.iastore, 1) := by decide +kernel
theorem dX7_note_58 : decode cX7_note 58 = .ok (.aload_n 0, 1) := by decide +kernel
theorem dX7_note_59 : decode cX7_note 59 = .ok (.getfield 39, 3) := by decide +kernel
theorem dX7_note_62 : decode cX7_note 62 = .ok (.iconst 3, 1) := by decide +kernel
theorem dX7_note_63 : decode cX7_note 63 = .ok (.aload_n 0, 1) := by decide +kernel
theorem dX7_note_64 : decode cX7_note 64 = .ok (.getfield 165, 3) := by decide +kernel
theorem dX7_note_67 : decode cX7_note 67 = .ok (.imul, 1) := by decide +kernel
theorem dX7_note_68 : decode cX7_note 68 = .ok (.iconst 1, 1) := by decide +kernel
theorem dX7_note_69 : decode cX7_note 69 = .ok (.iadd, 1) := by decide +kernel
theorem dX7_note_70 : decode cX7_note 70 = .ok (.iload_n 2, 1) := by decide +kernel
theorem dX7_note_71 : decode cX7_note 71 = .ok (.iastore, 1) := by decide +kernel
theorem dX7_note_72 : decode cX7_note 72 = .ok (.aload_n 0, 1) := by decide +kernel
theorem dX7_note_73 : decode cX7_note 73 = .ok (.getfield 39, 3) := by decide +kernel
theorem dX7_note_76 : decode cX7_note 76 = .ok (.iconst 3, 1) := by decide +kernel
theorem dX7_note_77 : decode cX7_note 77 = .ok (.aload_n 0, 1) := by decide +kernel
theorem dX7_note_78 : decode cX7_note 78 = .ok (.getfield 165, 3) := by decide +kernel
theorem dX7_note_81 : decode cX7_note 81 = .ok (.imul, 1) := by decide +kernel
theorem dX7_note_82 : decode cX7_note 82 = .ok (.iconst 2, 1) := by decide +kernel
theorem dX7_note_83 : decode cX7_note 83 = .ok (.iadd, 1) := by decide +kernel
theorem dX7_note_84 : decode cX7_note 84 = .ok (.iload_n 3, 1) := by decide +kernel
theorem dX7_note_85 : decode cX7_note 85 = .ok (.iastore, 1) := by decide +kernel
theorem dX7_note_86 : decode cX7_note 86 = .ok (.aload_n 0, 1) := by decide +kernel
theorem dX7_note_87 : decode cX7_note 87 = .ok (.dup, 1) := by decide +kernel
theorem dX7_note_88 : decode cX7_note 88 = .ok (.getfield 165, 3) := by decide +kernel
theorem dX7_note_91 : decode cX7_note 91 = .ok (.iconst 1, 1) := by decide +kernel
theorem dX7_note_92 : decode cX7_note 92 = .ok (.iadd, 1) := by decide +kernel
theorem dX7_note_93 : decode cX7_note 93 = .ok (.putfield 165, 3) := by decide +kernel
theorem dX7_note_96 : decode cX7_note 96 = .ok (.aload_n 0, 1) := by decide +kernel
theorem dX7_note_97 : decode cX7_note 97 = .ok (.getfield 165, 3) := by decide +kernel
theorem dX7_note_100 : decode cX7_note 100 = .ok (.ireturn, 1) := by decide +kernel
theorem dX7_tear_0 : decode cX7_tear 0 = .ok (.aload_n 0, 1) := by decide +kernel
theorem dX7_tear_1 : decode cX7_tear 1 = .ok (.getfield 165, 3) := by decide +kernel
theorem dX7_tear_4 : decode cX7_tear 4 = .ok (.istore_n 1, 1) := by decide +kernel
theorem dX7_tear_5 : decode cX7_tear 5 = .ok (.aload_n 0, 1) := by decide +kernel
theorem dX7_tear_6 : decode cX7_tear 6 = .ok (.iconst 0, 1) := by decide +kernel
theorem dX7_tear_7 : decode cX7_tear 7 = .ok (.putfield 165, 3) := by decide +kernel
theorem dX7_tear_10 : decode cX7_tear 10 = .ok (.iload_n 1, 1) := by decide +kernel
theorem dX7_tear_11 : decode cX7_tear 11 = .ok (.ireturn, 1) := by decide +kernel
theorem dX7_judge_0 : decode cX7_judge 0 = .ok (.iconst 0, 1) := by decide +kernel
theorem dX7_judge_1 : decode cX7_judge 1 = .ok (.istore_n 1, 1) := by decide +kernel
theorem dX7_judge_2 : decode cX7_judge 2 = .ok (.iload_n 1, 1) := by decide +kernel
theorem dX7_judge_3 : decode cX7_judge 3 = .ok (.aload_n 0, 1) := by decide +kernel
theorem dX7_judge_4 : decode cX7_judge 4 = .ok (.getfield 165, 3) := by decide +kernel
theorem dX7_judge_7 : decode cX7_judge 7 = .ok (.if_icmp .ge 46, 3) := by decide +kernel
theorem dX7_judge_10 : decode cX7_judge 10 = .ok (.aload_n 0, 1) := by decide +kernel
theorem dX7_judge_11 : decode cX7_judge 11 = .ok (.aload_n 0, 1) := by decide +kernel
theorem dX7_judge_12 : decode cX7_judge 12 = .ok (.getfield 39, 3) := by decide +kernel
theorem dX7_judge_15 : decode cX7_judge 15 = .ok (.iconst 3, 1) := by decide +kernel
theorem dX7_judge_16 : decode cX7_judge 16 = .ok (.iload_n 1, 1) := by decide +kernel
theorem dX7_judge_17 : decode cX7_judge 17 = .ok (.imul, 1) := by decide +kernel
theorem dX7_judge_18 : decode cX7_judge 18 = .ok (.iaload, 1) := by decide +kernel
theorem dX7_judge_19 : decode cX7_judge 19 = .ok (.aload_n 0, 1) := by decide +kernel
theorem dX7_judge_20 : decode cX7_judge 20 = .ok (.getfield 39, 3) := by decide +kernel
theorem dX7_judge_23 : decode cX7_judge 23 = .ok (.iconst 3, 1) := by decide +kernel
theorem dX7_judge_24 : decode cX7_judge 24 = .ok (.iload_n 1, 1) := by decide +kernel
theorem dX7_judge_25 : decode cX7_judge 25 = .ok (.imul, 1) := by decide +kernel
theorem dX7_judge_26 : decode cX7_judge 26 = .ok (.iconst 1, 1) := by decide +kernel
theorem dX7_judge_27 : decode cX7_judge 27 = .ok (.iadd, 1) := by decide +kernel
theorem dX7_judge_28 : decode cX7_judge 28 = .ok (.iaload, 1) := by decide +kernel
theorem dX7_judge_29 : decode cX7_judge 29 = .ok (.invokevirtual 168, 3) := by decide +kernel
theorem dX7_judge_32 : decode cX7_judge 32 = .ok (.aload_n 0, 1) := by decide +kernel
theorem dX7_judge_33 : decode cX7_judge 33 = .ok (.getfield 39, 3) := by decide +kernel
theorem dX7_judge_36 : decode cX7_judge 36 = .ok (.iconst 3, 1) := by decide +kernel
theorem dX7_judge_37 : decode cX7_judge 37 = .ok (.iload_n 1, 1) := by decide +kernel
theorem dX7_judge_38 : decode cX7_judge 38 = .ok (.imul, 1) := by decide +kernel
theorem dX7_judge_39 : decode cX7_judge 39 = .ok (.iconst 2, 1) := by decide +kernel
theorem dX7_judge_40 : decode cX7_judge 40 = .ok (.iadd, 1) := by decide +kernel
theorem dX7_judge_41 : decode cX7_judge 41 = .ok (.iaload, 1) := by decide +kernel
theorem dX7_judge_42 : decode cX7_judge 42 = .ok (.if_icmp .eq 5, 3) := by decide +kernel
theorem dX7_judge_45 : decode cX7_judge 45 = .ok (.iload_n 1, 1) := by decide +kernel
theorem dX7_judge_46 : decode cX7_judge 46 = .ok (.ireturn, 1) := by decide +kernel
theorem dX7_judge_47 : decode cX7_judge 47 = .ok (.iinc 1 1, 3) := by decide +kernel
theorem dX7_judge_50 : decode cX7_judge 50 = .ok (.goto (-48), 3) := by decide +kernel
theorem dX7_judge_53 : decode cX7_judge 53 = .ok (.iconst (-1), 1) := by decide +kernel
theorem dX7_judge_54 : decode cX7_judge 54 = .ok (.ireturn, 1) := by decide +kernel
theorem dX7_seed_0 : decode cX7_seed 0 = .ok (.iload_n 1, 1) := by decide +kernel
theorem dX7_seed_1 : decode cX7_seed 1 = .ok (.ifCond .ge 6, 3) := by decide +kernel
theorem dX7_seed_4 : decode cX7_seed 4 = .ok (.ldc 72, 2) := by decide +kernel
theorem dX7_seed_6 : decode cX7_seed 6 = .ok (.ireturn, 1) := by decide +kernel
theorem dX7_seed_7 : decode cX7_seed 7 = .ok (.aload_n 0, 1) := by decide +kernel
theorem dX7_seed_8 : decode cX7_seed 8 = .ok (.getfield 7, 3) := by decide +kernel
theorem dX7_seed_11 : decode cX7_seed 11 = .ok (.bipush 46, 2) := by decide +kernel
theorem dX7_seed_13 : decode cX7_seed 13 = .ok (.iaload, 1) := by decide +kernel
theorem dX7_seed_14 : decode cX7_seed 14 = .ok (.istore_n 2, 1) := by decide +kernel
theorem dX7_seed_15 : decode cX7_seed 15 = .ok (.aload_n 0, 1) := by decide +kernel
theorem dX7_seed_16 : decode cX7_seed 16 = .ok (.getfield 7, 3) := by decide +kernel
theorem dX7_seed_19 : decode cX7_seed 19 = .ok (.bipush 46, 2) := by decide +kernel
theorem dX7_seed_21 : decode cX7_seed 21 = .ok (.iload_n 1, 1) := by decide +kernel
theorem dX7_seed_22 : decode cX7_seed 22 = .ok (.iastore, 1) := by decide +kernel
theorem dX7_seed_23 : decode cX7_seed 23 = .ok (.iload_n 2, 1) := by decide +kernel
theorem dX7_seed_24 : decode cX7_seed 24 = .ok (.ireturn, 1) := by decide +kernel
theorem dX7_copyRow_0 : decode cX7_copyRow 0 = .ok (.iconst 0, 1) := by decide +kernel
theorem dX7_copyRow_1 : decode cX7_copyRow 1 = .ok (.istore_n 3, 1) := by decide +kernel
theorem dX7_copyRow_2 : decode cX7_copyRow 2 = .ok (.iload_n 3, 1) := by decide +kernel
theorem dX7_copyRow_3 : decode cX7_copyRow 3 = .ok (.bipush 47, 2) := by decide +kernel
theorem dX7_copyRow_5 : decode cX7_copyRow 5 = .ok (.if_icmp .ge 25, 3) := by decide +kernel
theorem dX7_copyRow_8 : decode cX7_copyRow 8 = .ok (.aload_n 0, 1) := by decide +kernel
theorem dX7_copyRow_9 : decode cX7_copyRow 9 = .ok (.getfield 7, 3) := by decide +kernel
theorem dX7_copyRow_12 : decode cX7_copyRow 12 = .ok (.iload_n 2, 1) := by decide +kernel
theorem dX7_copyRow_13 : decode cX7_copyRow 13 = .ok (.iload_n 3, 1) := by decide +kernel
theorem dX7_copyRow_14 : decode cX7_copyRow 14 = .ok (.iadd, 1) := by decide +kernel
theorem dX7_copyRow_15 : decode cX7_copyRow 15 = .ok (.aload_n 0, 1) := by decide +kernel
theorem dX7_copyRow_16 : decode cX7_copyRow 16 = .ok (.getfield 7, 3) := by decide +kernel
theorem dX7_copyRow_19 : decode cX7_copyRow 19 = .ok (.iload_n 1, 1) := by decide +kernel
theorem dX7_copyRow_20 : decode cX7_copyRow 20 = .ok (.iload_n 3, 1) := by decide +kernel
theorem dX7_copyRow_21 : decode cX7_copyRow 21 = .ok (.iadd, 1) := by decide +kernel
theorem dX7_copyRow_22 : decode cX7_copyRow 22 = .ok (.iaload, 1) := by decide +kernel
theorem dX7_copyRow_23 : decode cX7_copyRow 23 = .ok (.iastore, 1) := by decide +kernel
theorem dX7_copyRow_24 : decode cX7_copyRow 24 = .ok (.iinc 3 1, 3) := by decide +kernel
theorem dX7_copyRow_27 : decode cX7_copyRow 27 = .ok (.goto (-25), 3) := by decide +kernel
theorem dX7_copyRow_30 : decode cX7_copyRow 30 = .ok (.return_, 1) := by decide +kernel
theorem dX7_keep_0 : decode cX7_keep 0 = .ok (.iload_n 1, 1) := by decide +kernel
theorem dX7_keep_1 : decode cX7_keep 1 = .ok (.i2l, 1) := by decide +kernel
theorem dX7_keep_2 : decode cX7_keep 2 = .ok (.lconst 0, 1) := by decide +kernel
theorem dX7_keep_3 : decode cX7_keep 3 = .ok (.lconst 1, 1) := by decide +kernel
theorem dX7_keep_4 : decode cX7_keep 4 = .ok (.invokestatic 68, 3) := by decide +kernel
theorem dX7_keep_7 : decode cX7_keep 7 = .ok (.ifCond .ne 6, 3) := by decide +kernel
theorem dX7_keep_10 : decode cX7_keep 10 = .ok (.ldc 181, 2) := by decide +kernel
theorem dX7_keep_12 : decode cX7_keep 12 = .ok (.ireturn, 1) := by decide +kernel
theorem dX7_keep_13 : decode cX7_keep 13 = .ok (.aload_n 0, 1) := by decide +kernel
theorem dX7_keep_14 : decode cX7_keep 14 = .ok (.iconst 0, 1) := by decide +kernel
theorem dX7_keep_15 : decode cX7_keep 15 = .ok (.bipush 47, 2) := by decide +kernel
theorem dX7_keep_17 : decode cX7_keep 17 = .ok (.iconst 1, 1) := by decide +kernel
theorem dX7_keep_18 : decode cX7_keep 18 = .ok (.iload_n 1, 1) := by decide +kernel
theorem dX7_keep_19 : decode cX7_keep 19 = .ok (.iadd, 1) := by decide +kernel
theorem dX7_keep_20 : decode cX7_keep 20 = .ok (.imul, 1) := by decide +kernel
theorem dX7_keep_21 : decode cX7_keep 21 = .ok (.invokevirtual 268, 3) := by decide +kernel
theorem dX7_keep_24 : decode cX7_keep 24 = .ok (.aload_n 0, 1) := by decide +kernel
theorem dX7_keep_25 : decode cX7_keep 25 = .ok (.getfield 13, 3) := by decide +kernel
theorem dX7_keep_28 : decode cX7_keep 28 = .ok (.iload_n 1, 1) := by decide +kernel
theorem dX7_keep_29 : decode cX7_keep 29 = .ok (.iconst 1, 1) := by decide +kernel
theorem dX7_keep_30 : decode cX7_keep 30 = .ok (.bastore, 1) := by decide +kernel
theorem dX7_keep_31 : decode cX7_keep 31 = .ok (.iconst 1, 1) := by decide +kernel
theorem dX7_keep_32 : decode cX7_keep 32 = .ok (.ireturn, 1) := by decide +kernel
theorem dX7_goBack_0 : decode cX7_goBack 0 = .ok (.iload_n 1, 1) := by decide +kernel
theorem dX7_goBack_1 : decode cX7_goBack 1 = .ok (.i2l, 1) := by decide +kernel
theorem dX7_goBack_2 : decode cX7_goBack 2 = .ok (.lconst 0, 1) := by decide +kernel
theorem dX7_goBack_3 : decode cX7_goBack 3 = .ok (.lconst 1, 1) := by decide +kernel
theorem dX7_goBack_4 : decode cX7_goBack 4 = .ok (.invokestatic 68, 3) := by decide +kernel
theorem dX7_goBack_7 : decode cX7_goBack 7 = .ok (.ifCond .ne 6, 3) := by decide +kernel
theorem dX7_goBack_10 : decode cX7_goBack 10 = .ok (.ldc 181, 2) := by decide +kernel
theorem dX7_goBack_12 : decode cX7_goBack 12 = .ok (.ireturn, 1) := by decide +kernel
theorem dX7_goBack_13 : decode cX7_goBack 13 = .ok (.aload_n 0, 1) := by decide +kernel
theorem dX7_goBack_14 : decode cX7_goBack 14 = .ok (.getfield 13, 3) := by decide +kernel
theorem dX7_goBack_17 : decode cX7_goBack 17 = .ok (.iload_n 1, 1) := by decide +kernel
theorem dX7_goBack_18 : decode cX7_goBack 18 = .ok (.baload, 1) := by decide +kernel
theorem dX7_goBack_19 : decode cX7_goBack 19 = .ok (.ifCond .ne 6, 3) := by decide +kernel
theorem dX7_goBack_22 : decode cX7_goBack 22 = .ok (.ldc 217, 2) := by decide +kernel
theorem dX7_goBack_24 : decode cX7_goBack 24 = .ok (.ireturn, 1) := by decide +kernel
theorem dX7_goBack_25 : decode cX7_goBack 25 = .ok (.aload_n 0, 1) := by decide +kernel
theorem dX7_goBack_26 : decode cX7_goBack 26 = .ok (.bipush 47, 2) := by decide +kernel
theorem dX7_goBack_28 : decode cX7_goBack 28 = .ok (.iconst 1, 1) := by decide +kernel
theorem dX7_goBack_29 : decode cX7_goBack 29 = .ok (.iload_n 1, 1) := by decide +kernel
theorem dX7_goBack_30 : decode cX7_goBack 30 = .ok (.iadd, 1) := by decide +kernel
theorem dX7_goBack_31 : decode cX7_goBack 31 = .ok (.imul, 1) := by decide +kernel
theorem dX7_goBack_32 : decode cX7_goBack 32 = .ok (.iconst 0, 1) := by decide +kernel
theorem dX7_goBack_33 : decode cX7_goBack 33 = .ok (.invokevirtual 268, 3) := by decide +kernel
theorem dX7_goBack_36 : decode cX7_goBack 36 = .ok (.iconst 1, 1) := by decide +kernel
theorem dX7_goBack_37 : decode cX7_goBack 37 = .ok (.ireturn, 1) := by decide +kernel
theorem dL_law_0 : decode cL_law 0 = .ok (.new 7, 3) := by decide +kernel
theorem dL_law_3 : decode cL_law 3 = .ok (.dup, 1) := by decide +kernel
theorem dL_law_4 : decode cL_law 4 = .ok (.invokespecial 9, 3) := by decide +kernel
theorem dL_law_7 : decode cL_law 7 = .ok (.astore_n 1, 1) := by decide +kernel
theorem dL_law_8 : decode cL_law 8 = .ok (.new 10, 3) := by decide +kernel
theorem dL_law_11 : decode cL_law 11 = .ok (.dup, 1) := by decide +kernel
theorem dL_law_12 : decode cL_law 12 = .ok (.invokespecial 12, 3) := by decide +kernel
theorem dL_law_15 : decode cL_law 15 = .ok (.astore_n 2, 1) := by decide +kernel
theorem dL_law_16 : decode cL_law 16 = .ok (.iconst 0, 1) := by decide +kernel
theorem dL_law_17 : decode cL_law 17 = .ok (.istore_n 3, 1) := by decide +kernel
theorem dL_law_18 : decode cL_law 18 = .ok (.iload_n 3, 1) := by decide +kernel
theorem dL_law_19 : decode cL_law 19 = .ok (.aload_n 0, 1) := by decide +kernel
theorem dL_law_20 : decode cL_law 20 = .ok (.arraylength, 1) := by decide +kernel
theorem dL_law_21 : decode cL_law 21 = .ok (.iconst 4, 1) := by decide +kernel
theorem dL_law_22 : decode cL_law 22 = .ok (.isub, 1) := by decide +kernel
theorem dL_law_23 : decode cL_law 23 = .ok (.if_icmp .gt 974, 3) := by decide +kernel
theorem dL_law_26 : decode cL_law 26 = .ok (.aload_n 0, 1) := by decide +kernel
theorem dL_law_27 : decode cL_law 27 = .ok (.iload_n 3, 1) := by decide +kernel
theorem dL_law_28 : decode cL_law 28 = .ok (.iaload, 1) := by decide +kernel
theorem dL_law_29 : decode cL_law 29 = .ok (.bipush 31, 2) := by decide +kernel
theorem dL_law_31 : decode cL_law 31 = .ok (.iand, 1) := by decide +kernel
theorem dL_law_32 : decode cL_law 32 = .ok (.tableswitch 959 0 28 #[132, 155, 168, 181, 204, 237, 270, 293, 326, 359, 392, 415, 448, 481, 524, 547, 590, 613, 636, 679, 712, 745, 788, 821, 864, 877, 890, 913, 936], 132) := by decide +kernel
theorem dL_law_164 : decode cL_law 164 = .ok (.aload_n 1, 1) := by decide +kernel
theorem dL_law_165 : decode cL_law 165 = .ok (.aload_n 0, 1) := by decide +kernel
theorem dL_law_166 : decode cL_law 166 = .ok (.iload_n 3, 1) := by decide +kernel
theorem dL_law_167 : decode cL_law 167 = .ok (.iconst 1, 1) := by decide +kernel
theorem dL_law_168 : decode cL_law 168 = .ok (.iadd, 1) := by decide +kernel
theorem dL_law_169 : decode cL_law 169 = .ok (.iaload, 1) := by decide +kernel
theorem dL_law_170 : decode cL_law 170 = .ok (.invokevirtual 13, 3) := by decide +kernel
theorem dL_law_173 : decode cL_law 173 = .ok (.aload_n 2, 1) := by decide +kernel
theorem dL_law_174 : decode cL_law 174 = .ok (.aload_n 0, 1) := by decide +kernel
theorem dL_law_175 : decode cL_law 175 = .ok (.iload_n 3, 1) := by decide +kernel
theorem dL_law_176 : decode cL_law 176 = .ok (.iconst 1, 1) := by decide +kernel
theorem dL_law_177 : decode cL_law 177 = .ok (.iadd, 1) := by decide +kernel
theorem dL_law_178 : decode cL_law 178 = .ok (.iaload, 1) := by decide +kernel
theorem dL_law_179 : decode cL_law 179 = .ok (.invokevirtual 17, 3) := by decide +kernel
theorem dL_law_182 : decode cL_law 182 = .ok (.if_icmp .eq 809, 3) := by decide +kernel
theorem dL_law_185 : decode cL_law 185 = .ok (.iconst 0, 1) := by decide +kernel
theorem dL_law_186 : decode cL_law 186 = .ok (.ireturn, 1) := by decide +kernel
theorem dL_law_187 : decode cL_law 187 = .ok (.aload_n 1, 1) := by decide +kernel
theorem dL_law_188 : decode cL_law 188 = .ok (.invokevirtual 18, 3) := by decide +kernel
theorem dL_law_191 : decode cL_law 191 = .ok (.aload_n 2, 1) := by decide +kernel
theorem dL_law_192 : decode cL_law 192 = .ok (.invokevirtual 22, 3) := by decide +kernel
theorem dL_law_195 : decode cL_law 195 = .ok (.if_icmp .eq 796, 3) := by decide +kernel
theorem dL_law_198 : decode cL_law 198 = .ok (.iconst 0, 1) := by decide +kernel
theorem dL_law_199 : decode cL_law 199 = .ok (.ireturn, 1) := by decide +kernel
theorem dL_law_200 : decode cL_law 200 = .ok (.aload_n 1, 1) := by decide +kernel
theorem dL_law_201 : decode cL_law 201 = .ok (.invokevirtual 23, 3) := by decide +kernel
theorem dL_law_204 : decode cL_law 204 = .ok (.aload_n 2, 1) := by decide +kernel
theorem dL_law_205 : decode cL_law 205 = .ok (.invokevirtual 26, 3) := by decide +kernel
theorem dL_law_208 : decode cL_law 208 = .ok (.if_icmp .eq 783, 3) := by decide +kernel
theorem dL_law_211 : decode cL_law 211 = .ok (.iconst 0, 1) := by decide +kernel
theorem dL_law_212 : decode cL_law 212 = .ok (.ireturn, 1) := by decide +kernel
theorem dL_law_213 : decode cL_law 213 = .ok (.aload_n 1, 1) := by decide +kernel
theorem dL_law_214 : decode cL_law 214 = .ok (.aload_n 0, 1) := by decide +kernel
theorem dL_law_215 : decode cL_law 215 = .ok (.iload_n 3, 1) := by decide +kernel
theorem dL_law_216 : decode cL_law 216 = .ok (.iconst 1, 1) := by decide +kernel
theorem dL_law_217 : decode cL_law 217 = .ok (.iadd, 1) := by decide +kernel
theorem dL_law_218 : decode cL_law 218 = .ok (.iaload, 1) := by decide +kernel
theorem dL_law_219 : decode cL_law 219 = .ok (.invokevirtual 27, 3) := by decide +kernel
theorem dL_law_222 : decode cL_law 222 = .ok (.aload_n 2, 1) := by decide +kernel
theorem dL_law_223 : decode cL_law 223 = .ok (.aload_n 0, 1) := by decide +kernel
theorem dL_law_224 : decode cL_law 224 = .ok (.iload_n 3, 1) := by decide +kernel
theorem dL_law_225 : decode cL_law 225 = .ok (.iconst 1, 1) := by decide +kernel
theorem dL_law_226 : decode cL_law 226 = .ok (.iadd, 1) := by decide +kernel
theorem dL_law_227 : decode cL_law 227 = .ok (.iaload, 1) := by decide +kernel
theorem dL_law_228 : decode cL_law 228 = .ok (.invokevirtual 30, 3) := by decide +kernel
theorem dL_law_231 : decode cL_law 231 = .ok (.if_icmp .eq 760, 3) := by decide +kernel
theorem dL_law_234 : decode cL_law 234 = .ok (.iconst 0, 1) := by decide +kernel
theorem dL_law_235 : decode cL_law 235 = .ok (.ireturn, 1) := by decide +kernel
theorem dL_law_236 : decode cL_law 236 = .ok (.aload_n 1, 1) := by decide +kernel
theorem dL_law_237 : decode cL_law 237 = .ok (.aload_n 0, 1) := by decide +kernel
theorem dL_law_238 : decode cL_law 238 = .ok (.iload_n 3, 1) := by decide +kernel
theorem dL_law_239 : decode cL_law 239 = .ok (.iconst 1, 1) := by decide +kernel
theorem dL_law_240 : decode cL_law 240 = .ok (.iadd, 1) := by decide +kernel
theorem dL_law_241 : decode cL_law 241 = .ok (.iaload, 1) := by decide +kernel
theorem dL_law_242 : decode cL_law 242 = .ok (.aload_n 0, 1) := by decide +kernel
theorem dL_law_243 : decode cL_law 243 = .ok (.iload_n 3, 1) := by decide +kernel
theorem dL_law_244 : decode cL_law 244 = .ok (.iconst 2, 1) := by decide +kernel
theorem dL_law_245 : decode cL_law 245 = .ok (.iadd, 1) := by decide +kernel
theorem dL_law_246 : decode cL_law 246 = .ok (.iaload, 1) := by decide +kernel
theorem dL_law_247 : decode cL_law 247 = .ok (.invokevirtual 31, 3) := by decide +kernel
theorem dL_law_250 : decode cL_law 250 = .ok (.aload_n 2, 1) := by decide +kernel
theorem dL_law_251 : decode cL_law 251 = .ok (.aload_n 0, 1) := by decide +kernel
theorem dL_law_252 : decode cL_law 252 = .ok (.iload_n 3, 1) := by decide +kernel
theorem dL_law_253 : decode cL_law 253 = .ok (.iconst 1, 1) := by decide +kernel
theorem dL_law_254 : decode cL_law 254 = .ok (.iadd, 1) := by decide +kernel
theorem dL_law_255 : decode cL_law 255 = .ok (.iaload, 1) := by decide +kernel
theorem dL_law_256 : decode cL_law 256 = .ok (.aload_n 0, 1) := by decide +kernel
theorem dL_law_257 : decode cL_law 257 = .ok (.iload_n 3, 1) := by decide +kernel
theorem dL_law_258 : decode cL_law 258 = .ok (.iconst 2, 1) := by decide +kernel
theorem dL_law_259 : decode cL_law 259 = .ok (.iadd, 1) := by decide +kernel
theorem dL_law_260 : decode cL_law 260 = .ok (.iaload, 1) := by decide +kernel
theorem dL_law_261 : decode cL_law 261 = .ok (.invokevirtual 35, 3) := by decide +kernel
theorem dL_law_264 : decode cL_law 264 = .ok (.if_icmp .eq 727, 3) := by decide +kernel
theorem dL_law_267 : decode cL_law 267 = .ok (.iconst 0, 1) := by decide +kernel
theorem dL_law_268 : decode cL_law 268 = .ok (.ireturn, 1) := by decide +kernel
theorem dL_law_269 : decode cL_law 269 = .ok (.aload_n 1, 1) := by decide +kernel
theorem dL_law_270 : decode cL_law 270 = .ok (.aload_n 0, 1) := by decide +kernel
theorem dL_law_271 : decode cL_law 271 = .ok (.iload_n 3, 1) := by decide +kernel
theorem dL_law_272 : decode cL_law 272 = .ok (.iconst 1, 1) := by decide +kernel
theorem dL_law_273 : decode cL_law 273 = .ok (.iadd, 1) := by decide +kernel
theorem dL_law_274 : decode cL_law 274 = .ok (.iaload, 1) := by decide +kernel
theorem dL_law_275 : decode cL_law 275 = .ok (.aload_n 0, 1) := by decide +kernel
theorem dL_law_276 : decode cL_law 276 = .ok (.iload_n 3, 1) := by decide +kernel
theorem dL_law_277 : decode cL_law 277 = .ok (.iconst 2, 1) := by decide +kernel
theorem dL_law_278 : decode cL_law 278 = .ok (.iadd, 1) := by decide +kernel
theorem dL_law_279 : decode cL_law 279 = .ok (.iaload, 1) := by decide +kernel
theorem dL_law_280 : decode cL_law 280 = .ok (.invokevirtual 36, 3) := by decide +kernel
theorem dL_law_283 : decode cL_law 283 = .ok (.aload_n 2, 1) := by decide +kernel
theorem dL_law_284 : decode cL_law 284 = .ok (.aload_n 0, 1) := by decide +kernel
theorem dL_law_285 : decode cL_law 285 = .ok (.iload_n 3, 1) := by decide +kernel
theorem dL_law_286 : decode cL_law 286 = .ok (.iconst 1, 1) := by decide +kernel
theorem dL_law_287 : decode cL_law 287 = .ok (.iadd, 1) := by decide +kernel
theorem dL_law_288 : decode cL_law 288 = .ok (.iaload, 1) := by decide +kernel
theorem dL_law_289 : decode cL_law 289 = .ok (.aload_n 0, 1) := by decide +kernel
theorem dL_law_290 : decode cL_law 290 = .ok (.iload_n 3, 1) := by decide +kernel
theorem dL_law_291 : decode cL_law 291 = .ok (.iconst 2, 1) := by decide +kernel
theorem dL_law_292 : decode cL_law 292 = .ok (.iadd, 1) := by decide +kernel
theorem dL_law_293 : decode cL_law 293 = .ok (.iaload, 1) := by decide +kernel
theorem dL_law_294 : decode cL_law 294 = .ok (.invokevirtual 39, 3) := by decide +kernel
theorem dL_law_297 : decode cL_law 297 = .ok (.if_icmp .eq 694, 3) := by decide +kernel
theorem dL_law_300 : decode cL_law 300 = .ok (.iconst 0, 1) := by decide +kernel
theorem dL_law_301 : decode cL_law 301 = .ok (.ireturn, 1) := by decide +kernel
theorem dL_law_302 : decode cL_law 302 = .ok (.aload_n 1, 1) := by decide +kernel
theorem dL_law_303 : decode cL_law 303 = .ok (.aload_n 0, 1) := by decide +kernel
theorem dL_law_304 : decode cL_law 304 = .ok (.iload_n 3, 1) := by decide +kernel
theorem dL_law_305 : decode cL_law 305 = .ok (.iconst 1, 1) := by decide +kernel
theorem dL_law_306 : decode cL_law 306 = .ok (.iadd, 1) := by decide +kernel
theorem dL_law_307 : decode cL_law 307 = .ok (.iaload, 1) := by decide +kernel
theorem dL_law_308 : decode cL_law 308 = .ok (.invokevirtual 40, 3) := by decide +kernel
theorem dL_law_311 : decode cL_law 311 = .ok (.aload_n 2, 1) := by decide +kernel
theorem dL_law_312 : decode cL_law 312 = .ok (.aload_n 0, 1) := by decide +kernel
theorem dL_law_313 : decode cL_law 313 = .ok (.iload_n 3, 1) := by decide +kernel
theorem dL_law_314 : decode cL_law 314 = .ok (.iconst 1, 1) := by decide +kernel
theorem dL_law_315 : decode cL_law 315 = .ok (.iadd, 1) := by decide +kernel
theorem dL_law_316 : decode cL_law 316 = .ok (.iaload, 1) := by decide +kernel
theorem dL_law_317 : decode cL_law 317 = .ok (.invokevirtual 43, 3) := by decide +kernel
theorem dL_law_320 : decode cL_law 320 = .ok (.if_icmp .eq 671, 3) := by decide +kernel
theorem dL_law_323 : decode cL_law 323 = .ok (.iconst 0, 1) := by decide +kernel
theorem dL_law_324 : decode cL_law 324 = .ok (.ireturn, 1) := by decide +kernel
theorem dL_law_325 : decode cL_law 325 = .ok (.aload_n 1, 1) := by decide +kernel
theorem dL_law_326 : decode cL_law 326 = .ok (.aload_n 0, 1) := by decide +kernel
theorem dL_law_327 : decode cL_law 327 = .ok (.iload_n 3, 1) := by decide +kernel
theorem dL_law_328 : decode cL_law 328 = .ok (.iconst 1, 1) := by decide +kernel
theorem dL_law_329 : decode cL_law 329 = .ok (.iadd, 1) := by decide +kernel
theorem dL_law_330 : decode cL_law 330 = .ok (.iaload, 1) := by decide +kernel
theorem dL_law_331 : decode cL_law 331 = .ok (.aload_n 0, 1) := by decide +kernel
theorem dL_law_332 : decode cL_law 332 = .ok (.iload_n 3, 1) := by decide +kernel
theorem dL_law_333 : decode cL_law 333 = .ok (.iconst 2, 1) := by decide +kernel
theorem dL_law_334 : decode cL_law 334 = .ok (.iadd, 1) := by decide +kernel
theorem dL_law_335 : decode cL_law 335 = .ok (.iaload, 1) := by decide +kernel
theorem dL_law_336 : decode cL_law 336 = .ok (.invokevirtual 44, 3) := by decide +kernel
theorem dL_law_339 : decode cL_law 339 = .ok (.aload_n 2, 1) := by decide +kernel
theorem dL_law_340 : decode cL_law 340 = .ok (.aload_n 0, 1) := by decide +kernel
theorem dL_law_341 : decode cL_law 341 = .ok (.iload_n 3, 1) := by decide +kernel
theorem dL_law_342 : decode cL_law 342 = .ok (.iconst 1, 1) := by decide +kernel
theorem dL_law_343 : decode cL_law 343 = .ok (.iadd, 1) := by decide +kernel
theorem dL_law_344 : decode cL_law 344 = .ok (.iaload, 1) := by decide +kernel
theorem dL_law_345 : decode cL_law 345 = .ok (.aload_n 0, 1) := by decide +kernel
theorem dL_law_346 : decode cL_law 346 = .ok (.iload_n 3, 1) := by decide +kernel
theorem dL_law_347 : decode cL_law 347 = .ok (.iconst 2, 1) := by decide +kernel
theorem dL_law_348 : decode cL_law 348 = .ok (.iadd, 1) := by decide +kernel
theorem dL_law_349 : decode cL_law 349 = .ok (.iaload, 1) := by decide +kernel
theorem dL_law_350 : decode cL_law 350 = .ok (.invokevirtual 47, 3) := by decide +kernel
theorem dL_law_353 : decode cL_law 353 = .ok (.if_icmp .eq 638, 3) := by decide +kernel
theorem dL_law_356 : decode cL_law 356 = .ok (.iconst 0, 1) := by decide +kernel
theorem dL_law_357 : decode cL_law 357 = .ok (.ireturn, 1) := by decide +kernel
theorem dL_law_358 : decode cL_law 358 = .ok (.aload_n 1, 1) := by decide +kernel
theorem dL_law_359 : decode cL_law 359 = .ok (.aload_n 0, 1) := by decide +kernel
theorem dL_law_360 : decode cL_law 360 = .ok (.iload_n 3, 1) := by decide +kernel
theorem dL_law_361 : decode cL_law 361 = .ok (.iconst 1, 1) := by decide +kernel
theorem dL_law_362 : decode cL_law 362 = .ok (.iadd, 1) := by decide +kernel
theorem dL_law_363 : decode cL_law 363 = .ok (.iaload, 1) := by decide +kernel
theorem dL_law_364 : decode cL_law 364 = .ok (.aload_n 0, 1) := by decide +kernel
theorem dL_law_365 : decode cL_law 365 = .ok (.iload_n 3, 1) := by decide +kernel
theorem dL_law_366 : decode cL_law 366 = .ok (.iconst 2, 1) := by decide +kernel
theorem dL_law_367 : decode cL_law 367 = .ok (.iadd, 1) := by decide +kernel
theorem dL_law_368 : decode cL_law 368 = .ok (.iaload, 1) := by decide +kernel
theorem dL_law_369 : decode cL_law 369 = .ok (.invokevirtual 48, 3) := by decide +kernel
theorem dL_law_372 : decode cL_law 372 = .ok (.aload_n 2, 1) := by decide +kernel
theorem dL_law_373 : decode cL_law 373 = .ok (.aload_n 0, 1) := by decide +kernel
theorem dL_law_374 : decode cL_law 374 = .ok (.iload_n 3, 1) := by decide +kernel
theorem dL_law_375 : decode cL_law 375 = .ok (.iconst 1, 1) := by decide +kernel
theorem dL_law_376 : decode cL_law 376 = .ok (.iadd, 1) := by decide +kernel
theorem dL_law_377 : decode cL_law 377 = .ok (.iaload, 1) := by decide +kernel
theorem dL_law_378 : decode cL_law 378 = .ok (.aload_n 0, 1) := by decide +kernel
theorem dL_law_379 : decode cL_law 379 = .ok (.iload_n 3, 1) := by decide +kernel
theorem dL_law_380 : decode cL_law 380 = .ok (.iconst 2, 1) := by decide +kernel
theorem dL_law_381 : decode cL_law 381 = .ok (.iadd, 1) := by decide +kernel
theorem dL_law_382 : decode cL_law 382 = .ok (.iaload, 1) := by decide +kernel
theorem dL_law_383 : decode cL_law 383 = .ok (.invokevirtual 51, 3) := by decide +kernel
theorem dL_law_386 : decode cL_law 386 = .ok (.if_icmp .eq 605, 3) := by decide +kernel
theorem dL_law_389 : decode cL_law 389 = .ok (.iconst 0, 1) := by decide +kernel
theorem dL_law_390 : decode cL_law 390 = .ok (.ireturn, 1) := by decide +kernel
theorem dL_law_391 : decode cL_law 391 = .ok (.aload_n 1, 1) := by decide +kernel
theorem dL_law_392 : decode cL_law 392 = .ok (.aload_n 0, 1) := by decide +kernel
theorem dL_law_393 : decode cL_law 393 = .ok (.iload_n 3, 1) := by decide +kernel
theorem dL_law_394 : decode cL_law 394 = .ok (.iconst 1, 1) := by decide +kernel
theorem dL_law_395 : decode cL_law 395 = .ok (.iadd, 1) := by decide +kernel
theorem dL_law_396 : decode cL_law 396 = .ok (.iaload, 1) := by decide +kernel
theorem dL_law_397 : decode cL_law 397 = .ok (.aload_n 0, 1) := by decide +kernel
theorem dL_law_398 : decode cL_law 398 = .ok (.iload_n 3, 1) := by decide +kernel
theorem dL_law_399 : decode cL_law 399 = .ok (.iconst 2, 1) := by decide +kernel
theorem dL_law_400 : decode cL_law 400 = .ok (.iadd, 1) := by decide +kernel
theorem dL_law_401 : decode cL_law 401 = .ok (.iaload, 1) := by decide +kernel
theorem dL_law_402 : decode cL_law 402 = .ok (.invokevirtual 52, 3) := by decide +kernel
theorem dL_law_405 : decode cL_law 405 = .ok (.aload_n 2, 1) := by decide +kernel
theorem dL_law_406 : decode cL_law 406 = .ok (.aload_n 0, 1) := by decide +kernel
theorem dL_law_407 : decode cL_law 407 = .ok (.iload_n 3, 1) := by decide +kernel
theorem dL_law_408 : decode cL_law 408 = .ok (.iconst 1, 1) := by decide +kernel
theorem dL_law_409 : decode cL_law 409 = .ok (.iadd, 1) := by decide +kernel
theorem dL_law_410 : decode cL_law 410 = .ok (.iaload, 1) := by decide +kernel
theorem dL_law_411 : decode cL_law 411 = .ok (.aload_n 0, 1) := by decide +kernel
theorem dL_law_412 : decode cL_law 412 = .ok (.iload_n 3, 1) := by decide +kernel
theorem dL_law_413 : decode cL_law 413 = .ok (.iconst 2, 1) := by decide +kernel
theorem dL_law_414 : decode cL_law 414 = .ok (.iadd, 1) := by decide +kernel
theorem dL_law_415 : decode cL_law 415 = .ok (.iaload, 1) := by decide +kernel
theorem dL_law_416 : decode cL_law 416 = .ok (.invokevirtual 55, 3) := by decide +kernel
theorem dL_law_419 : decode cL_law 419 = .ok (.if_icmp .eq 572, 3) := by decide +kernel
theorem dL_law_422 : decode cL_law 422 = .ok (.iconst 0, 1) := by decide +kernel
theorem dL_law_423 : decode cL_law 423 = .ok (.ireturn, 1) := by decide +kernel
theorem dL_law_424 : decode cL_law 424 = .ok (.aload_n 1, 1) := by decide +kernel
theorem dL_law_425 : decode cL_law 425 = .ok (.aload_n 0, 1) := by decide +kernel
theorem dL_law_426 : decode cL_law 426 = .ok (.iload_n 3, 1) := by decide +kernel
theorem dL_law_427 : decode cL_law 427 = .ok (.iconst 1, 1) := by decide +kernel
theorem dL_law_428 : decode cL_law 428 = .ok (.iadd, 1) := by decide +kernel
theorem dL_law_429 : decode cL_law 429 = .ok (.iaload, 1) := by decide +kernel
theorem dL_law_430 : decode cL_law 430 = .ok (.invokevirtual 56, 3) := by decide +kernel
theorem dL_law_433 : decode cL_law 433 = .ok (.aload_n 2, 1) := by decide +kernel
theorem dL_law_434 : decode cL_law 434 = .ok (.aload_n 0, 1) := by decide +kernel
theorem dL_law_435 : decode cL_law 435 = .ok (.iload_n 3, 1) := by decide +kernel
theorem dL_law_436 : decode cL_law 436 = .ok (.iconst 1, 1) := by decide +kernel
theorem dL_law_437 : decode cL_law 437 = .ok (.iadd, 1) := by decide +kernel
theorem dL_law_438 : decode cL_law 438 = .ok (.iaload, 1) := by decide +kernel
theorem dL_law_439 : decode cL_law 439 = .ok (.invokevirtual 59, 3) := by decide +kernel
theorem dL_law_442 : decode cL_law 442 = .ok (.if_icmp .eq 549, 3) := by decide +kernel
theorem dL_law_445 : decode cL_law 445 = .ok (.iconst 0, 1) := by decide +kernel
theorem dL_law_446 : decode cL_law 446 = .ok (.ireturn, 1) := by decide +kernel
theorem dL_law_447 : decode cL_law 447 = .ok (.aload_n 1, 1) := by decide +kernel
theorem dL_law_448 : decode cL_law 448 = .ok (.aload_n 0, 1) := by decide +kernel
theorem dL_law_449 : decode cL_law 449 = .ok (.iload_n 3, 1) := by decide +kernel
theorem dL_law_450 : decode cL_law 450 = .ok (.iconst 1, 1) := by decide +kernel
theorem dL_law_451 : decode cL_law 451 = .ok (.iadd, 1) := by decide +kernel
theorem dL_law_452 : decode cL_law 452 = .ok (.iaload, 1) := by decide +kernel
theorem dL_law_453 : decode cL_law 453 = .ok (.aload_n 0, 1) := by decide +kernel
theorem dL_law_454 : decode cL_law 454 = .ok (.iload_n 3, 1) := by decide +kernel
theorem dL_law_455 : decode cL_law 455 = .ok (.iconst 2, 1) := by decide +kernel
theorem dL_law_456 : decode cL_law 456 = .ok (.iadd, 1) := by decide +kernel
theorem dL_law_457 : decode cL_law 457 = .ok (.iaload, 1) := by decide +kernel
theorem dL_law_458 : decode cL_law 458 = .ok (.invokevirtual 60, 3) := by decide +kernel
theorem dL_law_461 : decode cL_law 461 = .ok (.aload_n 2, 1) := by decide +kernel
theorem dL_law_462 : decode cL_law 462 = .ok (.aload_n 0, 1) := by decide +kernel
theorem dL_law_463 : decode cL_law 463 = .ok (.iload_n 3, 1) := by decide +kernel
theorem dL_law_464 : decode cL_law 464 = .ok (.iconst 1, 1) := by decide +kernel
theorem dL_law_465 : decode cL_law 465 = .ok (.iadd, 1) := by decide +kernel
theorem dL_law_466 : decode cL_law 466 = .ok (.iaload, 1) := by decide +kernel
theorem dL_law_467 : decode cL_law 467 = .ok (.aload_n 0, 1) := by decide +kernel
theorem dL_law_468 : decode cL_law 468 = .ok (.iload_n 3, 1) := by decide +kernel
theorem dL_law_469 : decode cL_law 469 = .ok (.iconst 2, 1) := by decide +kernel
theorem dL_law_470 : decode cL_law 470 = .ok (.iadd, 1) := by decide +kernel
theorem dL_law_471 : decode cL_law 471 = .ok (.iaload, 1) := by decide +kernel
theorem dL_law_472 : decode cL_law 472 = .ok (.invokevirtual 63, 3) := by decide +kernel
theorem dL_law_475 : decode cL_law 475 = .ok (.if_icmp .eq 516, 3) := by decide +kernel
theorem dL_law_478 : decode cL_law 478 = .ok (.iconst 0, 1) := by decide +kernel
theorem dL_law_479 : decode cL_law 479 = .ok (.ireturn, 1) := by decide +kernel
theorem dL_law_480 : decode cL_law 480 = .ok (.aload_n 1, 1) := by decide +kernel
theorem dL_law_481 : decode cL_law 481 = .ok (.aload_n 0, 1) := by decide +kernel
theorem dL_law_482 : decode cL_law 482 = .ok (.iload_n 3, 1) := by decide +kernel
theorem dL_law_483 : decode cL_law 483 = .ok (.iconst 1, 1) := by decide +kernel
theorem dL_law_484 : decode cL_law 484 = .ok (.iadd, 1) := by decide +kernel
theorem dL_law_485 : decode cL_law 485 = .ok (.iaload, 1) := by decide +kernel
theorem dL_law_486 : decode cL_law 486 = .ok (.aload_n 0, 1) := by decide +kernel
theorem dL_law_487 : decode cL_law 487 = .ok (.iload_n 3, 1) := by decide +kernel
theorem dL_law_488 : decode cL_law 488 = .ok (.iconst 2, 1) := by decide +kernel
theorem dL_law_489 : decode cL_law 489 = .ok (.iadd, 1) := by decide +kernel
theorem dL_law_490 : decode cL_law 490 = .ok (.iaload, 1) := by decide +kernel
theorem dL_law_491 : decode cL_law 491 = .ok (.invokevirtual 64, 3) := by decide +kernel
theorem dL_law_494 : decode cL_law 494 = .ok (.aload_n 2, 1) := by decide +kernel
theorem dL_law_495 : decode cL_law 495 = .ok (.aload_n 0, 1) := by decide +kernel
theorem dL_law_496 : decode cL_law 496 = .ok (.iload_n 3, 1) := by decide +kernel
theorem dL_law_497 : decode cL_law 497 = .ok (.iconst 1, 1) := by decide +kernel
theorem dL_law_498 : decode cL_law 498 = .ok (.iadd, 1) := by decide +kernel
theorem dL_law_499 : decode cL_law 499 = .ok (.iaload, 1) := by decide +kernel
theorem dL_law_500 : decode cL_law 500 = .ok (.aload_n 0, 1) := by decide +kernel
theorem dL_law_501 : decode cL_law 501 = .ok (.iload_n 3, 1) := by decide +kernel
theorem dL_law_502 : decode cL_law 502 = .ok (.iconst 2, 1) := by decide +kernel
theorem dL_law_503 : decode cL_law 503 = .ok (.iadd, 1) := by decide +kernel
theorem dL_law_504 : decode cL_law 504 = .ok (.iaload, 1) := by decide +kernel
theorem dL_law_505 : decode cL_law 505 = .ok (.invokevirtual 67, 3) := by decide +kernel
theorem dL_law_508 : decode cL_law 508 = .ok (.if_icmp .eq 483, 3) := by decide +kernel
theorem dL_law_511 : decode cL_law 511 = .ok (.iconst 0, 1) := by decide +kernel
theorem dL_law_512 : decode cL_law 512 = .ok (.ireturn, 1) := by decide +kernel
theorem dL_law_513 : decode cL_law 513 = .ok (.aload_n 1, 1) := by decide +kernel
theorem dL_law_514 : decode cL_law 514 = .ok (.aload_n 0, 1) := by decide +kernel
theorem dL_law_515 : decode cL_law 515 = .ok (.iload_n 3, 1) := by decide +kernel
theorem dL_law_516 : decode cL_law 516 = .ok (.iconst 1, 1) := by decide +kernel
theorem dL_law_517 : decode cL_law 517 = .ok (.iadd, 1) := by decide +kernel
theorem dL_law_518 : decode cL_law 518 = .ok (.iaload, 1) := by decide +kernel
theorem dL_law_519 : decode cL_law 519 = .ok (.aload_n 0, 1) := by decide +kernel
theorem dL_law_520 : decode cL_law 520 = .ok (.iload_n 3, 1) := by decide +kernel
theorem dL_law_521 : decode cL_law 521 = .ok (.iconst 2, 1) := by decide +kernel
theorem dL_law_522 : decode cL_law 522 = .ok (.iadd, 1) := by decide +kernel
theorem dL_law_523 : decode cL_law 523 = .ok (.iaload, 1) := by decide +kernel
theorem dL_law_524 : decode cL_law 524 = .ok (.aload_n 0, 1) := by decide +kernel
theorem dL_law_525 : decode cL_law 525 = .ok (.iload_n 3, 1) := by decide +kernel
theorem dL_law_526 : decode cL_law 526 = .ok (.iconst 3, 1) := by decide +kernel
theorem dL_law_527 : decode cL_law 527 = .ok (.iadd, 1) := by decide +kernel
theorem dL_law_528 : decode cL_law 528 = .ok (.iaload, 1) := by decide +kernel
theorem dL_law_529 : decode cL_law 529 = .ok (.invokevirtual 68, 3) := by decide +kernel
theorem dL_law_532 : decode cL_law 532 = .ok (.aload_n 2, 1) := by decide +kernel
theorem dL_law_533 : decode cL_law 533 = .ok (.aload_n 0, 1) := by decide +kernel
theorem dL_law_534 : decode cL_law 534 = .ok (.iload_n 3, 1) := by decide +kernel
theorem dL_law_535 : decode cL_law 535 = .ok (.iconst 1, 1) := by decide +kernel
theorem dL_law_536 : decode cL_law 536 = .ok (.iadd, 1) := by decide +kernel
theorem dL_law_537 : decode cL_law 537 = .ok (.iaload, 1) := by decide +kernel
theorem dL_law_538 : decode cL_law 538 = .ok (.aload_n 0, 1) := by decide +kernel
theorem dL_law_539 : decode cL_law 539 = .ok (.iload_n 3, 1) := by decide +kernel
theorem dL_law_540 : decode cL_law 540 = .ok (.iconst 2, 1) := by decide +kernel
theorem dL_law_541 : decode cL_law 541 = .ok (.iadd, 1) := by decide +kernel
theorem dL_law_542 : decode cL_law 542 = .ok (.iaload, 1) := by decide +kernel
theorem dL_law_543 : decode cL_law 543 = .ok (.aload_n 0, 1) := by decide +kernel
theorem dL_law_544 : decode cL_law 544 = .ok (.iload_n 3, 1) := by decide +kernel
theorem dL_law_545 : decode cL_law 545 = .ok (.iconst 3, 1) := by decide +kernel
theorem dL_law_546 : decode cL_law 546 = .ok (.iadd, 1) := by decide +kernel
theorem dL_law_547 : decode cL_law 547 = .ok (.iaload, 1) := by decide +kernel
theorem dL_law_548 : decode cL_law 548 = .ok (.invokevirtual 72, 3) := by decide +kernel
theorem dL_law_551 : decode cL_law 551 = .ok (.if_icmp .eq 440, 3) := by decide +kernel
theorem dL_law_554 : decode cL_law 554 = .ok (.iconst 0, 1) := by decide +kernel
theorem dL_law_555 : decode cL_law 555 = .ok (.ireturn, 1) := by decide +kernel
theorem dL_law_556 : decode cL_law 556 = .ok (.aload_n 1, 1) := by decide +kernel
theorem dL_law_557 : decode cL_law 557 = .ok (.aload_n 0, 1) := by decide +kernel
theorem dL_law_558 : decode cL_law 558 = .ok (.iload_n 3, 1) := by decide +kernel
theorem dL_law_559 : decode cL_law 559 = .ok (.iconst 1, 1) := by decide +kernel
theorem dL_law_560 : decode cL_law 560 = .ok (.iadd, 1) := by decide +kernel
theorem dL_law_561 : decode cL_law 561 = .ok (.iaload, 1) := by decide +kernel
theorem dL_law_562 : decode cL_law 562 = .ok (.invokevirtual 73, 3) := by decide +kernel
theorem dL_law_565 : decode cL_law 565 = .ok (.aload_n 2, 1) := by decide +kernel
theorem dL_law_566 : decode cL_law 566 = .ok (.aload_n 0, 1) := by decide +kernel
theorem dL_law_567 : decode cL_law 567 = .ok (.iload_n 3, 1) := by decide +kernel
theorem dL_law_568 : decode cL_law 568 = .ok (.iconst 1, 1) := by decide +kernel
theorem dL_law_569 : decode cL_law 569 = .ok (.iadd, 1) := by decide +kernel
theorem dL_law_570 : decode cL_law 570 = .ok (.iaload, 1) := by decide +kernel
theorem dL_law_571 : decode cL_law 571 = .ok (.invokevirtual 76, 3) := by decide +kernel
theorem dL_law_574 : decode cL_law 574 = .ok (.if_icmp .eq 417, 3) := by decide +kernel
theorem dL_law_577 : decode cL_law 577 = .ok (.iconst 0, 1) := by decide +kernel
theorem dL_law_578 : decode cL_law 578 = .ok (.ireturn, 1) := by decide +kernel
theorem dL_law_579 : decode cL_law 579 = .ok (.aload_n 1, 1) := by decide +kernel
theorem dL_law_580 : decode cL_law 580 = .ok (.aload_n 0, 1) := by decide +kernel
theorem dL_law_581 : decode cL_law 581 = .ok (.iload_n 3, 1) := by decide +kernel
theorem dL_law_582 : decode cL_law 582 = .ok (.iconst 1, 1) := by decide +kernel
theorem dL_law_583 : decode cL_law 583 = .ok (.iadd, 1) := by decide +kernel
theorem dL_law_584 : decode cL_law 584 = .ok (.iaload, 1) := by decide +kernel
theorem dL_law_585 : decode cL_law 585 = .ok (.aload_n 0, 1) := by decide +kernel
theorem dL_law_586 : decode cL_law 586 = .ok (.iload_n 3, 1) := by decide +kernel
theorem dL_law_587 : decode cL_law 587 = .ok (.iconst 2, 1) := by decide +kernel
theorem dL_law_588 : decode cL_law 588 = .ok (.iadd, 1) := by decide +kernel
theorem dL_law_589 : decode cL_law 589 = .ok (.iaload, 1) := by decide +kernel
theorem dL_law_590 : decode cL_law 590 = .ok (.aload_n 0, 1) := by decide +kernel
theorem dL_law_591 : decode cL_law 591 = .ok (.iload_n 3, 1) := by decide +kernel
theorem dL_law_592 : decode cL_law 592 = .ok (.iconst 3, 1) := by decide +kernel
theorem dL_law_593 : decode cL_law 593 = .ok (.iadd, 1) := by decide +kernel
theorem dL_law_594 : decode cL_law 594 = .ok (.iaload, 1) := by decide +kernel
theorem dL_law_595 : decode cL_law 595 = .ok (.invokevirtual 77, 3) := by decide +kernel
theorem dL_law_598 : decode cL_law 598 = .ok (.aload_n 2, 1) := by decide +kernel
theorem dL_law_599 : decode cL_law 599 = .ok (.aload_n 0, 1) := by decide +kernel
theorem dL_law_600 : decode cL_law 600 = .ok (.iload_n 3, 1) := by decide +kernel
theorem dL_law_601 : decode cL_law 601 = .ok (.iconst 1, 1) := by decide +kernel
theorem dL_law_602 : decode cL_law 602 = .ok (.iadd, 1) := by decide +kernel
theorem dL_law_603 : decode cL_law 603 = .ok (.iaload, 1) := by decide +kernel
theorem dL_law_604 : decode cL_law 604 = .ok (.aload_n 0, 1) := by decide +kernel
theorem dL_law_605 : decode cL_law 605 = .ok (.iload_n 3, 1) := by decide +kernel
theorem dL_law_606 : decode cL_law 606 = .ok (.iconst 2, 1) := by decide +kernel
theorem dL_law_607 : decode cL_law 607 = .ok (.iadd, 1) := by decide +kernel
theorem dL_law_608 : decode cL_law 608 = .ok (.iaload, 1) := by decide +kernel
theorem dL_law_609 : decode cL_law 609 = .ok (.aload_n 0, 1) := by decide +kernel
theorem dL_law_610 : decode cL_law 610 = .ok (.iload_n 3, 1) := by decide +kernel
theorem dL_law_611 : decode cL_law 611 = .ok (.iconst 3, 1) := by decide +kernel
theorem dL_law_612 : decode cL_law 612 = .ok (.iadd, 1) := by decide +kernel
theorem dL_law_613 : decode cL_law 613 = .ok (.iaload, 1) := by decide +kernel
theorem dL_law_614 : decode cL_law 614 = .ok (.invokevirtual 80, 3) := by decide +kernel
theorem dL_law_617 : decode cL_law 617 = .ok (.if_icmp .eq 374, 3) := by decide +kernel
theorem dL_law_620 : decode cL_law 620 = .ok (.iconst 0, 1) := by decide +kernel
theorem dL_law_621 : decode cL_law 621 = .ok (.ireturn, 1) := by decide +kernel
theorem dL_law_622 : decode cL_law 622 = .ok (.aload_n 1, 1) := by decide +kernel
theorem dL_law_623 : decode cL_law 623 = .ok (.aload_n 0, 1) := by decide +kernel
theorem dL_law_624 : decode cL_law 624 = .ok (.iload_n 3, 1) := by decide +kernel
theorem dL_law_625 : decode cL_law 625 = .ok (.iconst 1, 1) := by decide +kernel
theorem dL_law_626 : decode cL_law 626 = .ok (.iadd, 1) := by decide +kernel
theorem dL_law_627 : decode cL_law 627 = .ok (.iaload, 1) := by decide +kernel
theorem dL_law_628 : decode cL_law 628 = .ok (.invokevirtual 81, 3) := by decide +kernel
theorem dL_law_631 : decode cL_law 631 = .ok (.aload_n 2, 1) := by decide +kernel
theorem dL_law_632 : decode cL_law 632 = .ok (.aload_n 0, 1) := by decide +kernel
theorem dL_law_633 : decode cL_law 633 = .ok (.iload_n 3, 1) := by decide +kernel
theorem dL_law_634 : decode cL_law 634 = .ok (.iconst 1, 1) := by decide +kernel
theorem dL_law_635 : decode cL_law 635 = .ok (.iadd, 1) := by decide +kernel
theorem dL_law_636 : decode cL_law 636 = .ok (.iaload, 1) := by decide +kernel
theorem dL_law_637 : decode cL_law 637 = .ok (.invokevirtual 84, 3) := by decide +kernel
theorem dL_law_640 : decode cL_law 640 = .ok (.if_icmp .eq 351, 3) := by decide +kernel
theorem dL_law_643 : decode cL_law 643 = .ok (.iconst 0, 1) := by decide +kernel
theorem dL_law_644 : decode cL_law 644 = .ok (.ireturn, 1) := by decide +kernel
theorem dL_law_645 : decode cL_law 645 = .ok (.aload_n 1, 1) := by decide +kernel
theorem dL_law_646 : decode cL_law 646 = .ok (.aload_n 0, 1) := by decide +kernel
theorem dL_law_647 : decode cL_law 647 = .ok (.iload_n 3, 1) := by decide +kernel
theorem dL_law_648 : decode cL_law 648 = .ok (.iconst 1, 1) := by decide +kernel
theorem dL_law_649 : decode cL_law 649 = .ok (.iadd, 1) := by decide +kernel
theorem dL_law_650 : decode cL_law 650 = .ok (.iaload, 1) := by decide +kernel
theorem dL_law_651 : decode cL_law 651 = .ok (.invokevirtual 85, 3) := by decide +kernel
theorem dL_law_654 : decode cL_law 654 = .ok (.aload_n 2, 1) := by decide +kernel
theorem dL_law_655 : decode cL_law 655 = .ok (.aload_n 0, 1) := by decide +kernel
theorem dL_law_656 : decode cL_law 656 = .ok (.iload_n 3, 1) := by decide +kernel
theorem dL_law_657 : decode cL_law 657 = .ok (.iconst 1, 1) := by decide +kernel
theorem dL_law_658 : decode cL_law 658 = .ok (.iadd, 1) := by decide +kernel
theorem dL_law_659 : decode cL_law 659 = .ok (.iaload, 1) := by decide +kernel
theorem dL_law_660 : decode cL_law 660 = .ok (.invokevirtual 88, 3) := by decide +kernel
theorem dL_law_663 : decode cL_law 663 = .ok (.if_icmp .eq 328, 3) := by decide +kernel
theorem dL_law_666 : decode cL_law 666 = .ok (.iconst 0, 1) := by decide +kernel
theorem dL_law_667 : decode cL_law 667 = .ok (.ireturn, 1) := by decide +kernel
theorem dL_law_668 : decode cL_law 668 = .ok (.aload_n 1, 1) := by decide +kernel
theorem dL_law_669 : decode cL_law 669 = .ok (.aload_n 0, 1) := by decide +kernel
theorem dL_law_670 : decode cL_law 670 = .ok (.iload_n 3, 1) := by decide +kernel
theorem dL_law_671 : decode cL_law 671 = .ok (.iconst 1, 1) := by decide +kernel
theorem dL_law_672 : decode cL_law 672 = .ok (.iadd, 1) := by decide +kernel
theorem dL_law_673 : decode cL_law 673 = .ok (.iaload, 1) := by decide +kernel
theorem dL_law_674 : decode cL_law 674 = .ok (.aload_n 0, 1) := by decide +kernel
theorem dL_law_675 : decode cL_law 675 = .ok (.iload_n 3, 1) := by decide +kernel
theorem dL_law_676 : decode cL_law 676 = .ok (.iconst 2, 1) := by decide +kernel
theorem dL_law_677 : decode cL_law 677 = .ok (.iadd, 1) := by decide +kernel
theorem dL_law_678 : decode cL_law 678 = .ok (.iaload, 1) := by decide +kernel
theorem dL_law_679 : decode cL_law 679 = .ok (.aload_n 0, 1) := by decide +kernel
theorem dL_law_680 : decode cL_law 680 = .ok (.iload_n 3, 1) := by decide +kernel
theorem dL_law_681 : decode cL_law 681 = .ok (.iconst 3, 1) := by decide +kernel
theorem dL_law_682 : decode cL_law 682 = .ok (.iadd, 1) := by decide +kernel
theorem dL_law_683 : decode cL_law 683 = .ok (.iaload, 1) := by decide +kernel
theorem dL_law_684 : decode cL_law 684 = .ok (.invokevirtual 89, 3) := by decide +kernel
theorem dL_law_687 : decode cL_law 687 = .ok (.aload_n 2, 1) := by decide +kernel
theorem dL_law_688 : decode cL_law 688 = .ok (.aload_n 0, 1) := by decide +kernel
theorem dL_law_689 : decode cL_law 689 = .ok (.iload_n 3, 1) := by decide +kernel
theorem dL_law_690 : decode cL_law 690 = .ok (.iconst 1, 1) := by decide +kernel
theorem dL_law_691 : decode cL_law 691 = .ok (.iadd, 1) := by decide +kernel
theorem dL_law_692 : decode cL_law 692 = .ok (.iaload, 1) := by decide +kernel
theorem dL_law_693 : decode cL_law 693 = .ok (.aload_n 0, 1) := by decide +kernel
theorem dL_law_694 : decode cL_law 694 = .ok (.iload_n 3, 1) := by decide +kernel
theorem dL_law_695 : decode cL_law 695 = .ok (.iconst 2, 1) := by decide +kernel
theorem dL_law_696 : decode cL_law 696 = .ok (.iadd, 1) := by decide +kernel
theorem dL_law_697 : decode cL_law 697 = .ok (.iaload, 1) := by decide +kernel
theorem dL_law_698 : decode cL_law 698 = .ok (.aload_n 0, 1) := by decide +kernel
theorem dL_law_699 : decode cL_law 699 = .ok (.iload_n 3, 1) := by decide +kernel
theorem dL_law_700 : decode cL_law 700 = .ok (.iconst 3, 1) := by decide +kernel
theorem dL_law_701 : decode cL_law 701 = .ok (.iadd, 1) := by decide +kernel
theorem dL_law_702 : decode cL_law 702 = .ok (.iaload, 1) := by decide +kernel
theorem dL_law_703 : decode cL_law 703 = .ok (.invokevirtual 92, 3) := by decide +kernel
theorem dL_law_706 : decode cL_law 706 = .ok (.if_icmp .eq 285, 3) := by decide +kernel
theorem dL_law_709 : decode cL_law 709 = .ok (.iconst 0, 1) := by decide +kernel
theorem dL_law_710 : decode cL_law 710 = .ok (.ireturn, 1) := by decide +kernel
theorem dL_law_711 : decode cL_law 711 = .ok (.aload_n 1, 1) := by decide +kernel
theorem dL_law_712 : decode cL_law 712 = .ok (.aload_n 0, 1) := by decide +kernel
theorem dL_law_713 : decode cL_law 713 = .ok (.iload_n 3, 1) := by decide +kernel
theorem dL_law_714 : decode cL_law 714 = .ok (.iconst 1, 1) := by decide +kernel
theorem dL_law_715 : decode cL_law 715 = .ok (.iadd, 1) := by decide +kernel
theorem dL_law_716 : decode cL_law 716 = .ok (.iaload, 1) := by decide +kernel
theorem dL_law_717 : decode cL_law 717 = .ok (.aload_n 0, 1) := by decide +kernel
theorem dL_law_718 : decode cL_law 718 = .ok (.iload_n 3, 1) := by decide +kernel
theorem dL_law_719 : decode cL_law 719 = .ok (.iconst 2, 1) := by decide +kernel
theorem dL_law_720 : decode cL_law 720 = .ok (.iadd, 1) := by decide +kernel
theorem dL_law_721 : decode cL_law 721 = .ok (.iaload, 1) := by decide +kernel
theorem dL_law_722 : decode cL_law 722 = .ok (.invokevirtual 93, 3) := by decide +kernel
theorem dL_law_725 : decode cL_law 725 = .ok (.aload_n 2, 1) := by decide +kernel
theorem dL_law_726 : decode cL_law 726 = .ok (.aload_n 0, 1) := by decide +kernel
theorem dL_law_727 : decode cL_law 727 = .ok (.iload_n 3, 1) := by decide +kernel
theorem dL_law_728 : decode cL_law 728 = .ok (.iconst 1, 1) := by decide +kernel
theorem dL_law_729 : decode cL_law 729 = .ok (.iadd, 1) := by decide +kernel
theorem dL_law_730 : decode cL_law 730 = .ok (.iaload, 1) := by decide +kernel
theorem dL_law_731 : decode cL_law 731 = .ok (.aload_n 0, 1) := by decide +kernel
theorem dL_law_732 : decode cL_law 732 = .ok (.iload_n 3, 1) := by decide +kernel
theorem dL_law_733 : decode cL_law 733 = .ok (.iconst 2, 1) := by decide +kernel
theorem dL_law_734 : decode cL_law 734 = .ok (.iadd, 1) := by decide +kernel
theorem dL_law_735 : decode cL_law 735 = .ok (.iaload, 1) := by decide +kernel
theorem dL_law_736 : decode cL_law 736 = .ok (.invokevirtual 96, 3) := by decide +kernel
theorem dL_law_739 : decode cL_law 739 = .ok (.if_icmp .eq 252, 3) := by decide +kernel
theorem dL_law_742 : decode cL_law 742 = .ok (.iconst 0, 1) := by decide +kernel
theorem dL_law_743 : decode cL_law 743 = .ok (.ireturn, 1) := by decide +kernel
theorem dL_law_744 : decode cL_law 744 = .ok (.aload_n 1, 1) := by decide +kernel
theorem dL_law_745 : decode cL_law 745 = .ok (.aload_n 0, 1) := by decide +kernel
theorem dL_law_746 : decode cL_law 746 = .ok (.iload_n 3, 1) := by decide +kernel
theorem dL_law_747 : decode cL_law 747 = .ok (.iconst 1, 1) := by decide +kernel
theorem dL_law_748 : decode cL_law 748 = .ok (.iadd, 1) := by decide +kernel
theorem dL_law_749 : decode cL_law 749 = .ok (.iaload, 1) := by decide +kernel
theorem dL_law_750 : decode cL_law 750 = .ok (.aload_n 0, 1) := by decide +kernel
theorem dL_law_751 : decode cL_law 751 = .ok (.iload_n 3, 1) := by decide +kernel
theorem dL_law_752 : decode cL_law 752 = .ok (.iconst 2, 1) := by decide +kernel
theorem dL_law_753 : decode cL_law 753 = .ok (.iadd, 1) := by decide +kernel
theorem dL_law_754 : decode cL_law 754 = .ok (.iaload, 1) := by decide +kernel
theorem dL_law_755 : decode cL_law 755 = .ok (.invokevirtual 97, 3) := by decide +kernel
theorem dL_law_758 : decode cL_law 758 = .ok (.aload_n 2, 1) := by decide +kernel
theorem dL_law_759 : decode cL_law 759 = .ok (.aload_n 0, 1) := by decide +kernel
theorem dL_law_760 : decode cL_law 760 = .ok (.iload_n 3, 1) := by decide +kernel
theorem dL_law_761 : decode cL_law 761 = .ok (.iconst 1, 1) := by decide +kernel
theorem dL_law_762 : decode cL_law 762 = .ok (.iadd, 1) := by decide +kernel
theorem dL_law_763 : decode cL_law 763 = .ok (.iaload, 1) := by decide +kernel
theorem dL_law_764 : decode cL_law 764 = .ok (.aload_n 0, 1) := by decide +kernel
theorem dL_law_765 : decode cL_law 765 = .ok (.iload_n 3, 1) := by decide +kernel
theorem dL_law_766 : decode cL_law 766 = .ok (.iconst 2, 1) := by decide +kernel
theorem dL_law_767 : decode cL_law 767 = .ok (.iadd, 1) := by decide +kernel
theorem dL_law_768 : decode cL_law 768 = .ok (.iaload, 1) := by decide +kernel
theorem dL_law_769 : decode cL_law 769 = .ok (.invokevirtual 100, 3) := by decide +kernel
theorem dL_law_772 : decode cL_law 772 = .ok (.if_icmp .eq 219, 3) := by decide +kernel
theorem dL_law_775 : decode cL_law 775 = .ok (.iconst 0, 1) := by decide +kernel
theorem dL_law_776 : decode cL_law 776 = .ok (.ireturn, 1) := by decide +kernel
theorem dL_law_777 : decode cL_law 777 = .ok (.aload_n 1, 1) := by decide +kernel
theorem dL_law_778 : decode cL_law 778 = .ok (.aload_n 0, 1) := by decide +kernel
theorem dL_law_779 : decode cL_law 779 = .ok (.iload_n 3, 1) := by decide +kernel
theorem dL_law_780 : decode cL_law 780 = .ok (.iconst 1, 1) := by decide +kernel
theorem dL_law_781 : decode cL_law 781 = .ok (.iadd, 1) := by decide +kernel
theorem dL_law_782 : decode cL_law 782 = .ok (.iaload, 1) := by decide +kernel
theorem dL_law_783 : decode cL_law 783 = .ok (.aload_n 0, 1) := by decide +kernel
theorem dL_law_784 : decode cL_law 784 = .ok (.iload_n 3, 1) := by decide +kernel
theorem dL_law_785 : decode cL_law 785 = .ok (.iconst 2, 1) := by decide +kernel
theorem dL_law_786 : decode cL_law 786 = .ok (.iadd, 1) := by decide +kernel
theorem dL_law_787 : decode cL_law 787 = .ok (.iaload, 1) := by decide +kernel
theorem dL_law_788 : decode cL_law 788 = .ok (.aload_n 0, 1) := by decide +kernel
theorem dL_law_789 : decode cL_law 789 = .ok (.iload_n 3, 1) := by decide +kernel
theorem dL_law_790 : decode cL_law 790 = .ok (.iconst 3, 1) := by decide +kernel
theorem dL_law_791 : decode cL_law 791 = .ok (.iadd, 1) := by decide +kernel
theorem dL_law_792 : decode cL_law 792 = .ok (.iaload, 1) := by decide +kernel
theorem dL_law_793 : decode cL_law 793 = .ok (.invokevirtual 101, 3) := by decide +kernel
theorem dL_law_796 : decode cL_law 796 = .ok (.aload_n 2, 1) := by decide +kernel
theorem dL_law_797 : decode cL_law 797 = .ok (.aload_n 0, 1) := by decide +kernel
theorem dL_law_798 : decode cL_law 798 = .ok (.iload_n 3, 1) := by decide +kernel
theorem dL_law_799 : decode cL_law 799 = .ok (.iconst 1, 1) := by decide +kernel
theorem dL_law_800 : decode cL_law 800 = .ok (.iadd, 1) := by decide +kernel
theorem dL_law_801 : decode cL_law 801 = .ok (.iaload, 1) := by decide +kernel
theorem dL_law_802 : decode cL_law 802 = .ok (.aload_n 0, 1) := by decide +kernel
theorem dL_law_803 : decode cL_law 803 = .ok (.iload_n 3, 1) := by decide +kernel
theorem dL_law_804 : decode cL_law 804 = .ok (.iconst 2, 1) := by decide +kernel
theorem dL_law_805 : decode cL_law 805 = .ok (.iadd, 1) := by decide +kernel
theorem dL_law_806 : decode cL_law 806 = .ok (.iaload, 1) := by decide +kernel
theorem dL_law_807 : decode cL_law 807 = .ok (.aload_n 0, 1) := by decide +kernel
theorem dL_law_808 : decode cL_law 808 = .ok (.iload_n 3, 1) := by decide +kernel
theorem dL_law_809 : decode cL_law 809 = .ok (.iconst 3, 1) := by decide +kernel
theorem dL_law_810 : decode cL_law 810 = .ok (.iadd, 1) := by decide +kernel
theorem dL_law_811 : decode cL_law 811 = .ok (.iaload, 1) := by decide +kernel
theorem dL_law_812 : decode cL_law 812 = .ok (.invokevirtual 104, 3) := by decide +kernel
theorem dL_law_815 : decode cL_law 815 = .ok (.if_icmp .eq 176, 3) := by decide +kernel
theorem dL_law_818 : decode cL_law 818 = .ok (.iconst 0, 1) := by decide +kernel
theorem dL_law_819 : decode cL_law 819 = .ok (.ireturn, 1) := by decide +kernel
theorem dL_law_820 : decode cL_law 820 = .ok (.aload_n 1, 1) := by decide +kernel
theorem dL_law_821 : decode cL_law 821 = .ok (.aload_n 0, 1) := by decide +kernel
theorem dL_law_822 : decode cL_law 822 = .ok (.iload_n 3, 1) := by decide +kernel
theorem dL_law_823 : decode cL_law 823 = .ok (.iconst 1, 1) := by decide +kernel
theorem dL_law_824 : decode cL_law 824 = .ok (.iadd, 1) := by decide +kernel
theorem dL_law_825 : decode cL_law 825 = .ok (.iaload, 1) := by decide +kernel
theorem dL_law_826 : decode cL_law 826 = .ok (.aload_n 0, 1) := by decide +kernel
theorem dL_law_827 : decode cL_law 827 = .ok (.iload_n 3, 1) := by decide +kernel
theorem dL_law_828 : decode cL_law 828 = .ok (.iconst 2, 1) := by decide +kernel
theorem dL_law_829 : decode cL_law 829 = .ok (.iadd, 1) := by decide +kernel
theorem dL_law_830 : decode cL_law 830 = .ok (.iaload, 1) := by decide +kernel
theorem dL_law_831 : decode cL_law 831 = .ok (.invokevirtual 105, 3) := by decide +kernel
theorem dL_law_834 : decode cL_law 834 = .ok (.aload_n 2, 1) := by decide +kernel
theorem dL_law_835 : decode cL_law 835 = .ok (.aload_n 0, 1) := by decide +kernel
theorem dL_law_836 : decode cL_law 836 = .ok (.iload_n 3, 1) := by decide +kernel
theorem dL_law_837 : decode cL_law 837 = .ok (.iconst 1, 1) := by decide +kernel
theorem dL_law_838 : decode cL_law 838 = .ok (.iadd, 1) := by decide +kernel
theorem dL_law_839 : decode cL_law 839 = .ok (.iaload, 1) := by decide +kernel
theorem dL_law_840 : decode cL_law 840 = .ok (.aload_n 0, 1) := by decide +kernel
theorem dL_law_841 : decode cL_law 841 = .ok (.iload_n 3, 1) := by decide +kernel
theorem dL_law_842 : decode cL_law 842 = .ok (.iconst 2, 1) := by decide +kernel
theorem dL_law_843 : decode cL_law 843 = .ok (.iadd, 1) := by decide +kernel
theorem dL_law_844 : decode cL_law 844 = .ok (.iaload, 1) := by decide +kernel
theorem dL_law_845 : decode cL_law 845 = .ok (.invokevirtual 108, 3) := by decide +kernel
theorem dL_law_848 : decode cL_law 848 = .ok (.if_icmp .eq 143, 3) := by decide +kernel
theorem dL_law_851 : decode cL_law 851 = .ok (.iconst 0, 1) := by decide +kernel
theorem dL_law_852 : decode cL_law 852 = .ok (.ireturn, 1) := by decide +kernel
theorem dL_law_853 : decode cL_law 853 = .ok (.aload_n 1, 1) := by decide +kernel
theorem dL_law_854 : decode cL_law 854 = .ok (.aload_n 0, 1) := by decide +kernel
theorem dL_law_855 : decode cL_law 855 = .ok (.iload_n 3, 1) := by decide +kernel
theorem dL_law_856 : decode cL_law 856 = .ok (.iconst 1, 1) := by decide +kernel
theorem dL_law_857 : decode cL_law 857 = .ok (.iadd, 1) := by decide +kernel
theorem dL_law_858 : decode cL_law 858 = .ok (.iaload, 1) := by decide +kernel
theorem dL_law_859 : decode cL_law 859 = .ok (.aload_n 0, 1) := by decide +kernel
theorem dL_law_860 : decode cL_law 860 = .ok (.iload_n 3, 1) := by decide +kernel
theorem dL_law_861 : decode cL_law 861 = .ok (.iconst 2, 1) := by decide +kernel
theorem dL_law_862 : decode cL_law 862 = .ok (.iadd, 1) := by decide +kernel
theorem dL_law_863 : decode cL_law 863 = .ok (.iaload, 1) := by decide +kernel
theorem dL_law_864 : decode cL_law 864 = .ok (.aload_n 0, 1) := by decide +kernel
theorem dL_law_865 : decode cL_law 865 = .ok (.iload_n 3, 1) := by decide +kernel
theorem dL_law_866 : decode cL_law 866 = .ok (.iconst 3, 1) := by decide +kernel
theorem dL_law_867 : decode cL_law 867 = .ok (.iadd, 1) := by decide +kernel
theorem dL_law_868 : decode cL_law 868 = .ok (.iaload, 1) := by decide +kernel
theorem dL_law_869 : decode cL_law 869 = .ok (.invokevirtual 109, 3) := by decide +kernel
theorem dL_law_872 : decode cL_law 872 = .ok (.aload_n 2, 1) := by decide +kernel
theorem dL_law_873 : decode cL_law 873 = .ok (.aload_n 0, 1) := by decide +kernel
theorem dL_law_874 : decode cL_law 874 = .ok (.iload_n 3, 1) := by decide +kernel
theorem dL_law_875 : decode cL_law 875 = .ok (.iconst 1, 1) := by decide +kernel
theorem dL_law_876 : decode cL_law 876 = .ok (.iadd, 1) := by decide +kernel
theorem dL_law_877 : decode cL_law 877 = .ok (.iaload, 1) := by decide +kernel
theorem dL_law_878 : decode cL_law 878 = .ok (.aload_n 0, 1) := by decide +kernel
theorem dL_law_879 : decode cL_law 879 = .ok (.iload_n 3, 1) := by decide +kernel
theorem dL_law_880 : decode cL_law 880 = .ok (.iconst 2, 1) := by decide +kernel
theorem dL_law_881 : decode cL_law 881 = .ok (.iadd, 1) := by decide +kernel
theorem dL_law_882 : decode cL_law 882 = .ok (.iaload, 1) := by decide +kernel
theorem dL_law_883 : decode cL_law 883 = .ok (.aload_n 0, 1) := by decide +kernel
theorem dL_law_884 : decode cL_law 884 = .ok (.iload_n 3, 1) := by decide +kernel
theorem dL_law_885 : decode cL_law 885 = .ok (.iconst 3, 1) := by decide +kernel
theorem dL_law_886 : decode cL_law 886 = .ok (.iadd, 1) := by decide +kernel
theorem dL_law_887 : decode cL_law 887 = .ok (.iaload, 1) := by decide +kernel
theorem dL_law_888 : decode cL_law 888 = .ok (.invokevirtual 112, 3) := by decide +kernel
theorem dL_law_891 : decode cL_law 891 = .ok (.if_icmp .eq 100, 3) := by decide +kernel
theorem dL_law_894 : decode cL_law 894 = .ok (.iconst 0, 1) := by decide +kernel
theorem dL_law_895 : decode cL_law 895 = .ok (.ireturn, 1) := by decide +kernel
theorem dL_law_896 : decode cL_law 896 = .ok (.aload_n 1, 1) := by decide +kernel
theorem dL_law_897 : decode cL_law 897 = .ok (.invokevirtual 113, 3) := by decide +kernel
theorem dL_law_900 : decode cL_law 900 = .ok (.aload_n 2, 1) := by decide +kernel
theorem dL_law_901 : decode cL_law 901 = .ok (.invokevirtual 116, 3) := by decide +kernel
theorem dL_law_904 : decode cL_law 904 = .ok (.if_icmp .eq 87, 3) := by decide +kernel
theorem dL_law_907 : decode cL_law 907 = .ok (.iconst 0, 1) := by decide +kernel
theorem dL_law_908 : decode cL_law 908 = .ok (.ireturn, 1) := by decide +kernel
theorem dL_law_909 : decode cL_law 909 = .ok (.aload_n 1, 1) := by decide +kernel
theorem dL_law_910 : decode cL_law 910 = .ok (.invokevirtual 117, 3) := by decide +kernel
theorem dL_law_913 : decode cL_law 913 = .ok (.aload_n 2, 1) := by decide +kernel
theorem dL_law_914 : decode cL_law 914 = .ok (.invokevirtual 120, 3) := by decide +kernel
theorem dL_law_917 : decode cL_law 917 = .ok (.if_icmp .eq 74, 3) := by decide +kernel
theorem dL_law_920 : decode cL_law 920 = .ok (.iconst 0, 1) := by decide +kernel
theorem dL_law_921 : decode cL_law 921 = .ok (.ireturn, 1) := by decide +kernel
theorem dL_law_922 : decode cL_law 922 = .ok (.aload_n 1, 1) := by decide +kernel
theorem dL_law_923 : decode cL_law 923 = .ok (.aload_n 0, 1) := by decide +kernel
theorem dL_law_924 : decode cL_law 924 = .ok (.iload_n 3, 1) := by decide +kernel
theorem dL_law_925 : decode cL_law 925 = .ok (.iconst 1, 1) := by decide +kernel
theorem dL_law_926 : decode cL_law 926 = .ok (.iadd, 1) := by decide +kernel
theorem dL_law_927 : decode cL_law 927 = .ok (.iaload, 1) := by decide +kernel
theorem dL_law_928 : decode cL_law 928 = .ok (.invokevirtual 121, 3) := by decide +kernel
theorem dL_law_931 : decode cL_law 931 = .ok (.aload_n 2, 1) := by decide +kernel
theorem dL_law_932 : decode cL_law 932 = .ok (.aload_n 0, 1) := by decide +kernel
theorem dL_law_933 : decode cL_law 933 = .ok (.iload_n 3, 1) := by decide +kernel
theorem dL_law_934 : decode cL_law 934 = .ok (.iconst 1, 1) := by decide +kernel
theorem dL_law_935 : decode cL_law 935 = .ok (.iadd, 1) := by decide +kernel
theorem dL_law_936 : decode cL_law 936 = .ok (.iaload, 1) := by decide +kernel
theorem dL_law_937 : decode cL_law 937 = .ok (.invokevirtual 124, 3) := by decide +kernel
theorem dL_law_940 : decode cL_law 940 = .ok (.if_icmp .eq 51, 3) := by decide +kernel
theorem dL_law_943 : decode cL_law 943 = .ok (.iconst 0, 1) := by decide +kernel
theorem dL_law_944 : decode cL_law 944 = .ok (.ireturn, 1) := by decide +kernel
theorem dL_law_945 : decode cL_law 945 = .ok (.aload_n 1, 1) := by decide +kernel
theorem dL_law_946 : decode cL_law 946 = .ok (.aload_n 0, 1) := by decide +kernel
theorem dL_law_947 : decode cL_law 947 = .ok (.iload_n 3, 1) := by decide +kernel
theorem dL_law_948 : decode cL_law 948 = .ok (.iconst 1, 1) := by decide +kernel
theorem dL_law_949 : decode cL_law 949 = .ok (.iadd, 1) := by decide +kernel
theorem dL_law_950 : decode cL_law 950 = .ok (.iaload, 1) := by decide +kernel
theorem dL_law_951 : decode cL_law 951 = .ok (.invokevirtual 125, 3) := by decide +kernel
theorem dL_law_954 : decode cL_law 954 = .ok (.aload_n 2, 1) := by decide +kernel
theorem dL_law_955 : decode cL_law 955 = .ok (.aload_n 0, 1) := by decide +kernel
theorem dL_law_956 : decode cL_law 956 = .ok (.iload_n 3, 1) := by decide +kernel
theorem dL_law_957 : decode cL_law 957 = .ok (.iconst 1, 1) := by decide +kernel
theorem dL_law_958 : decode cL_law 958 = .ok (.iadd, 1) := by decide +kernel
theorem dL_law_959 : decode cL_law 959 = .ok (.iaload, 1) := by decide +kernel
theorem dL_law_960 : decode cL_law 960 = .ok (.invokevirtual 128, 3) := by decide +kernel
theorem dL_law_963 : decode cL_law 963 = .ok (.if_icmp .eq 28, 3) := by decide +kernel
theorem dL_law_966 : decode cL_law 966 = .ok (.iconst 0, 1) := by decide +kernel
theorem dL_law_967 : decode cL_law 967 = .ok (.ireturn, 1) := by decide +kernel
theorem dL_law_968 : decode cL_law 968 = .ok (.aload_n 1, 1) := by decide +kernel
theorem dL_law_969 : decode cL_law 969 = .ok (.aload_n 0, 1) := by decide +kernel
theorem dL_law_970 : decode cL_law 970 = .ok (.iload_n 3, 1) := by decide +kernel
theorem dL_law_971 : decode cL_law 971 = .ok (.iconst 1, 1) := by decide +kernel
theorem dL_law_972 : decode cL_law 972 = .ok (.iadd, 1) := by decide +kernel
theorem dL_law_973 : decode cL_law 973 = .ok (.iaload, 1) := by decide +kernel
theorem dL_law_974 : decode cL_law 974 = .ok (.invokevirtual 129, 3) := by decide +kernel
theorem dL_law_977 : decode cL_law 977 = .ok (.aload_n 2, 1) := by decide +kernel
theorem dL_law_978 : decode cL_law 978 = .ok (.aload_n 0, 1) := by decide +kernel
theorem dL_law_979 : decode cL_law 979 = .ok (.iload_n 3, 1) := by decide +kernel
theorem dL_law_980 : decode cL_law 980 = .ok (.iconst 1, 1) := by decide +kernel
theorem dL_law_981 : decode cL_law 981 = .ok (.iadd, 1) := by decide +kernel
theorem dL_law_982 : decode cL_law 982 = .ok (.iaload, 1) := by decide +kernel
theorem dL_law_983 : decode cL_law 983 = .ok (.invokevirtual 132, 3) := by decide +kernel
theorem dL_law_986 : decode cL_law 986 = .ok (.if_icmp .eq 5, 3) := by decide +kernel
theorem dL_law_989 : decode cL_law 989 = .ok (.iconst 0, 1) := by decide +kernel
theorem dL_law_990 : decode cL_law 990 = .ok (.ireturn, 1) := by decide +kernel
theorem dL_law_991 : decode cL_law 991 = .ok (.iinc 3 4, 3) := by decide +kernel
theorem dL_law_994 : decode cL_law 994 = .ok (.goto (-976), 3) := by decide +kernel
theorem dL_law_997 : decode cL_law 997 = .ok (.iconst 1, 1) := by decide +kernel
theorem dL_law_998 : decode cL_law 998 = .ok (.ireturn, 1) := by decide +kernel
end
section
/-! ===== base: partial answers, loops by fuel, the world behind a call, a contract's start and end ===== -/
abbrev HC : Type := Nat → Nat → Int32
abbrev TY (cI cZ : ClassId) : List (ClassId × FieldType) := [(cI, .int), (cZ, .boolean)]
def bd {α β : Type} (o : Option α) (f : α → Option β) : Option β := match o with
  | none => none
  | some a => f a
theorem bd_x {α β : Type} {o : Option α} {f : α → Option β} {r : β} (h : bd o f = some r) : ∃ q, o = some q ∧ f q = some r := by
  cases o with
  | none => cases h
  | some a => exact ⟨a, rfl, h⟩
theorem bd_s {α β : Type} {a : α} {f : α → Option β} : bd (some a) f = f a := rfl
/-- a value with a name -/
def nm {α β : Type} (a : α) (f : α → β) : β := f a
theorem nm_x {α β : Type} {v y : α} {f : α → Option β} {r : β} (hy : y = v) (h : nm v f = some r) : f y = some r := by subst hy; exact h
theorem if_t {β : Type} {c : Prop} [hd : Decidable c] {a b : Option β} {r : β} (hc : c) (h : (if c then a else b) = some r) : a = some r := by rw [if_pos hc] at h; exact h
theorem if_f {β : Type} {c : Prop} [hd : Decidable c] {a b : Option β} {r : β} (hc : ¬ c) (h : (if c then a else b) = some r) : b = some r := by rw [if_neg hc] at h; exact h
theorem gd {β : Type} {c : Prop} [hd : Decidable c] {a : Option β} {r : β} (h : (if c then a else none) = some r) : c ∧ a = some r := by
  by_cases hc : c
  · rw [if_pos hc] at h; exact ⟨hc, h⟩
  · rw [if_neg hc] at h; cases h
abbrev inb (i : Int32) (n : Nat) : Prop := 0 ≤ i ∧ i.toNatClampNeg < n
theorem inb_in {i : Int32} {n : Nat} (h : inb i n) : vp_in i n := fun q => q.elim (fun q => absurd (Int32.lt_iff_toInt_lt.mp q) (Int.not_lt.mpr (Int32.le_iff_toInt_le.mp h.1))) (fun q => absurd h.2 (Nat.not_lt.mpr q))
abbrev bz (v : Int32) : Prop := v = 0 ∨ v = 1
theorem bz_n {v : Int32} (h : bz v) : narrow .boolean (.int v) = .int v := by rcases h with rfl | rfl <;> decide
/-- a loop: n rounds at most -/
def lp {T : Type} (z : T) (F : T → T) : Nat → T
  | 0 => z
  | n + 1 => F (lp z F n)
theorem lp_s {T : Type} (z : T) (F : T → T) (n : Nat) : lp z F (n + 1) = F (lp z F n) := rfl
def FU : Nat := 5000
/-- a field, an element is written -/
def sf (x : HC) (k : Nat) (v : Int32) : HC := va_up x 0 (upd (x 0) k v)
def sa (x : HC) (j : Nat) (i v : Int32) : HC := va_up x j (upd (x j) i.toNatClampNeg v)
/-- the links to nest mates' private methods -/
def nwA (U : State) : Prop := va_Nw (.methodLinkNest RX5 98 yX6_has "SevenBlows") U ∧ va_Nw (.methodLinkNest RX5 129 yX6_slot "SevenBlows") U ∧ va_Nw (.methodLinkNest RX2 77 yX6_has "SevenBlows") U ∧ va_Nw (.methodLinkNest RX3 46 yX6_has "SevenBlows") U ∧ va_Nw (.methodLinkNest RX3 56 yX6_slot "SevenBlows") U ∧ va_Nw (.methodLinkNest RX0 48 yX6_slot "SevenBlows") U
theorem nwA.warm {s U : State} (hW : s.WarmedH U.vm) (h : nwA s) : nwA U := ⟨va_Nw.warmM hW h.1, va_Nw.warmM hW h.2.1, va_Nw.warmM hW h.2.2.1, va_Nw.warmM hW h.2.2.2.1, va_Nw.warmM hW h.2.2.2.2.1, va_Nw.warmM hW h.2.2.2.2.2⟩
theorem nwA.same {u U : State} (e : u.vm = U.vm) (h : nwA u) : nwA U := ⟨va_Nw.same rfl e h.1, va_Nw.same rfl e h.2.1, va_Nw.same rfl e h.2.2.1, va_Nw.same rfl e h.2.2.2.1, va_Nw.same rfl e h.2.2.2.2.1, va_Nw.same rfl e h.2.2.2.2.2⟩
def pre (D : va_G) (cI cZ : ClassId) (ws : va_W) (sz : Nat) (U : State) : Prop := U.heap.size = sz ∧ va_P D vwCl ws U.heap ∧ va_K D vwCl (TY cI cZ) U ∧ va_D (fun _ => True) ws ∧ nwA U
theorem pre_blind {D : va_G} {cI cZ : ClassId} {ws : va_W} {sz : Nat} {av : List Value} : FrameBlind (va_Pc av (pre D cI cZ ws sz)) := fun a U g mk q => by
  obtain ⟨q0, q1, qP, qK, qD, qN⟩ := q
  exact ⟨q0, q1, qP, va_K.moved (u := U) (U := U.calling g mk a) (Vm.Alike.refl U.vm) qK, qD, nwA.same (u := U) (U := U.calling g mk a) rfl qN⟩
theorem pre_of {D : va_G} {cI cZ : ClassId} {ws : va_W} {H : Heap} {s U : State} (hP : va_P D vwCl ws H) (hK : va_K D vwCl (TY cI cZ) s) {A : Nat → Prop} (hD : va_D A ws) (hN : nwA s) (hU : U.heap = H) (hW : s.WarmedH U.vm) : pre D cI cZ ws H.size U := ⟨by rw [hU], by rw [hU]; exact hP, va_K.moved hW.alike hK, hD.weaken (fun _ _ _ _ => trivial), hN.warm hW⟩
def post (D : va_G) (A : Nat → Prop) (ws : va_W) (t : State) : Prop := va_P D vwCl ws t.heap ∧ va_D A ws
/-- a reader's end, a writer's, one without an answer -/
abbrev QI0 (D : va_G) (A : Nat → Prop) (ws : va_W) (r : Int32) := va_Qi (fun v (_ : Unit) => v = r) (fun _ t => post D A ws t) A
abbrev QI {S : Type} (D : va_G) (A : Nat → Prop) (wf : S → va_W) (r : Int32 × S) := va_Qi (fun v (u : S) => v = r.1 ∧ u = r.2) (fun u t => post D A (wf u) t) A
abbrev QV {S : Type} (D : va_G) (A : Nat → Prop) (wf : S → va_W) (r : S) := va_Qv (fun (u : S) => u = r) (fun u t => post D A (wf u) t) A
theorem wP {D : va_G} {cl : List vw_C} {ws ws' : va_W} {H : Heap} (e : ws = ws') (h : va_P D cl ws H) : va_P D cl ws' H := e ▸ h
theorem wD {A : Nat → Prop} {ws ws' : va_W} (e : ws = ws') (h : va_D A ws) : va_D A ws' := e ▸ h
/-- a part of a world put back -/
def putL : va_W → List Nat → va_W → va_W
  | ws, i :: is, q :: qs => putL (ws.set i q) is qs
  | ws, _, _ => ws
theorem putL_spec : ∀ (is : List Nat) (ws w1 : va_W) (k : Nat) (q : Nat × va_E), is.length = w1.length → (putL ws is w1)[k]? = some q → (∃ j : Nat, is[j]? = some k ∧ w1[j]? = some q) ∨ (k ∉ is ∧ ws[k]? = some q) := by
  intro is
  induction is with
  | nil => intro ws w1 k q _ h; exact Or.inr ⟨List.not_mem_nil, by simpa [putL] using h⟩
  | cons i is ih =>
    intro ws w1 k q hl h
    cases w1 with
    | nil => simp at hl
    | cons p w =>
      have hl' : is.length = w.length := by simpa using hl
      rcases ih (ws.set i p) w k q hl' h with ⟨j, h1, h2⟩ | ⟨h1, h2⟩
      · exact Or.inl ⟨j + 1, by simpa using h1, by simpa using h2⟩
      · by_cases hk : i = k
        · subst hk
          rw [List.getElem?_set_self'] at h2
          cases hw : ws[i]? with
          | none => rw [hw] at h2; cases h2
          | some w0 => rw [hw] at h2; cases h2; exact Or.inl ⟨0, rfl, rfl⟩
        · rw [List.getElem?_set_ne hk] at h2
          exact Or.inr ⟨fun hm => (List.mem_cons.mp hm).elim (fun e => hk e.symm) h1, h2⟩
theorem back {A0 : Nat → Prop} {D : va_G} {cl : List vw_C} {ws wc w1 : va_W} {H H1 : Heap} (hP : va_P D cl ws H) (hD : va_D A0 ws) (is : List Nat) (hC : is.map (fun i => ws[i]?) = wc.map some) (hL : is.length = w1.length)
    (hk : ∀ q : Nat, q < H.size → ¬ va_A wc H.size q → H1[q]? = H[q]?) (hF : ∀ q, va_A wc H.size q → A0 q) (hP1 : va_P D cl w1 H1) (hD1 : va_D (va_A wc H.size) w1) : va_P D cl (putL ws is w1) H1 ∧ va_D A0 (putL ws is w1) := by
  have apart : ∀ (k : Nat) (q : Nat × va_E), k ∉ is → ws[k]? = some q → q.1 < H.size ∧ ¬ va_A wc H.size q.1 := by
    intro k q hn hq
    have hl := (hP k q hq).lt
    refine ⟨hl, fun h => ?_⟩
    rcases h with ⟨k2, e, h⟩ | h
    · have h1 : (is.map (fun i => ws[i]?))[k2]? = some (some (q.1, e)) := by rw [hC, List.getElem?_map, h]; rfl
      rw [List.getElem?_map] at h1
      cases hi : is[k2]? with
      | none => rw [hi] at h1; cases h1
      | some i =>
        rw [hi] at h1
        have h4 : ws[i]? = some (q.1, e) := Option.some.inj h1
        have := hD.1 k i q (q.1, e) hq h4 rfl
        subst this
        exact hn (List.mem_of_getElem? hi)
    · omega
  refine ⟨fun k q h => ?_, ⟨fun i j p q hi hj hpq => ?_, fun k q h => ?_⟩⟩
  · rcases putL_spec is ws w1 k q hL h with ⟨j, -, h2⟩ | ⟨h1, h2⟩
    · exact hP1 j q h2
    · obtain ⟨g1, g2⟩ := apart k q h1 h2
      exact (hP k q h2).kept (hk q.1 g1 g2)
  · rcases putL_spec is ws w1 i p hL hi with ⟨x, h1, h2⟩ | ⟨h1, h2⟩ <;> rcases putL_spec is ws w1 j q hL hj with ⟨y, h3, h4⟩ | ⟨h3, h4⟩
    · have := hD1.1 x y p q h2 h4 hpq
      subst this
      exact Option.some.inj (h1.symm.trans h3)
    · exact absurd (hpq ▸ hD1.2 x p h2) (apart j q h3 h4).2
    · exact absurd (hpq ▸ hD1.2 y q h4) (hpq ▸ (apart i p h1 h2).2)
    · exact hD.1 i j p q h2 h4 hpq
  · rcases putL_spec is ws w1 k q hL h with ⟨j, -, h2⟩ | ⟨h1, h2⟩
    · exact hF _ (hD1.2 j q h2)
    · exact hD.2 k q h2
theorem subP {D : va_G} {cl : List vw_C} {ws wc : va_W} {H : Heap} (is : List Nat) (hC : is.map (fun i => ws[i]?) = wc.map some) (h : va_P D cl ws H) : va_P D cl wc H := by
  intro k q hq
  have h1 : (is.map (fun i => ws[i]?))[k]? = some (some q) := by rw [hC, List.getElem?_map, hq]; rfl
  rw [List.getElem?_map] at h1
  cases hi : is[k]? with
  | none => rw [hi] at h1; cases h1
  | some i => rw [hi] at h1; exact h i q (Option.some.inj h1)
theorem freeS {A0 : Nat → Prop} {ws : va_W} {H0 H : Heap} {locs : List Loc} (hD : va_D A0 ws) (hS : va_S A0 H0 H locs) (hA : ∀ q, H0.size ≤ q → A0 q) : ∀ q, va_A ws H.size q → A0 q := by
  intro q h
  rcases h with ⟨k, e, h⟩ | h
  · exact hD.2 k (q, e) h
  · exact hA q (Nat.le_trans hS.1 h)
theorem lv_tabK {p : Program} {l : Launch} {e : Env} {R : Room} {s : State} {m : MethodId} {args : Array Value} {below : List Frame} {meth : Method} {c : Code} {H : Heap} {locs : List Loc} {cells slots : Nat} {Q : State → Prop} {cc : ByteArray} {pc : Nat} {ls : Array Slot} {rest : List Value} (hexec : p.tables.exec = Jvm.exec) (hb : c.code = cc) {dflt lo hi : Int} {offs : Array Int} {len : Nat} {x k : Int32} {off : Int} {tgt : Nat} (hdg : decode cc pc = .ok (.tableswitch dflt lo hi offs, len)) (hk : x = k) (h1 : ¬ k.toInt < lo) (h2 : ¬ hi < k.toInt) (ho : offs[(k.toInt - lo).toNat]? = some off) (ht : (pc : Int) + off = (tgt : Int)) (kk : W p l e R s m args below meth c H locs cells slots Q (F0 m tgt ls rest)) : W p l e R s m args below meth c H locs cells slots Q (F0 m pc ls (.int x :: rest)) := by
  subst hk
  exact lv_tableIn hexec hb hdg h1 h2 ho ht kk
theorem lv_lokK {p : Program} {l : Launch} {e : Env} {R : Room} {s : State} {m : MethodId} {args : Array Value} {below : List Frame} {meth : Method} {c : Code} {H : Heap} {locs : List Loc} {cells slots : Nat} {Q : State → Prop} {cc : ByteArray} {pc : Nat} {ls : Array Slot} {rest : List Value} (hexec : p.tables.exec = Jvm.exec) (hb : c.code = cc) {dflt : Int} {ps : Array (Int × Int)} {len : Nat} {x k : Int32} {off : Int} {tgt : Nat} (hdg : decode cc pc = .ok (.lookupswitch dflt ps, len)) (hp : (ps.toList.zip (ps.toList.drop 1)).all (fun (a, next) => a.1 < next.1) = true) (hk : x = k) (ho : Op.lookupswitch.offset ps.toList dflt k.toInt = off) (ht : (pc : Int) + off = (tgt : Int)) (kk : W p l e R s m args below meth c H locs cells slots Q (F0 m tgt ls rest)) : W p l e R s m args below meth c H locs cells slots Q (F0 m pc ls (.int x :: rest)) := by
  subst hk
  exact lv_lookup hexec hb hdg hp ho ht kk
theorem P_nil {D : va_G} {H : Heap} : va_P D vwCl [] H := fun k q h => by simp at h
theorem D_nil : va_D (fun _ => True) ([] : va_W) := ⟨fun i j p q h => by simp at h, fun k q h => by simp at h⟩
end
section
abbrev kW (cI : ClassId) (a : Nat → Nat) (x : HC) : va_W := [(a 0, .inr (0, [.ref (a 1), .ref (a 2)])), (a 1, .inl (cI, 5, .inl (x 1))), (a 2, .inl (cI, 6, .inl (x 2)))]
abbrev kB (cI : ClassId) (a : Nat → Nat) (x : HC) : va_W := [(a 0, .inr (1, [.ref (a 1), .ref (a 2), .int (x 0 2)])), (a 1, .inl (cI, 15, .inl (x 1))), (a 2, .inl (cI, 15, .inl (x 2)))]
abbrev kL (cI : ClassId) (a : Nat → Nat) (x : HC) : va_W := [(a 0, .inr (2, [.int (x 0 0), .int (x 0 1), .int (x 0 2), .int (x 0 3), .int (x 0 4), .int (x 0 5), .ref (a 1), .ref (a 2), .ref (a 3), .ref (a 4), .ref (a 5), .ref (a 6), .ref (a 7), .ref (a 8), .ref (a 9), .ref (a 10), .ref (a 11), .ref (a 12)])), (a 1, .inl (cI, 5, .inl (x 1))), (a 2, .inl (cI, 5, .inl (x 2))), (a 3, .inl (cI, 5, .inl (x 3))), (a 4, .inl (cI, 6, .inl (x 4))), (a 5, .inl (cI, 6, .inl (x 5))), (a 6, .inl (cI, 6, .inl (x 6))), (a 7, .inl (cI, 6, .inl (x 7))), (a 8, .inl (cI, 6, .inl (x 8))), (a 9, .inl (cI, 4, .inl (x 9))), (a 10, .inl (cI, 4, .inl (x 10))), (a 11, .inl (cI, 4, .inl (x 11))), (a 12, .inl (cI, 30, .inl (x 12)))]
abbrev kP (cI : ClassId) (a : Nat → Nat) (x : HC) : va_W := [(a 0, .inr (3, [.ref (a 1), .ref (a 2), .int (x 0 2), .int (x 0 3)])), (a 1, .inl (cI, 6, .inl (x 1))), (a 2, .inl (cI, 6, .inl (x 2)))]
abbrev kS (cI : ClassId) (a : Nat → Nat) (x : HC) : va_W := [(a 0, .inr (4, [.ref (a 1), .ref (a 2), .ref (a 3), .ref (a 4), .int (x 0 4), .int (x 0 5), .int (x 0 6)])), (a 1, .inl (cI, 5, .inl (x 1))), (a 2, .inl (cI, 5, .inl (x 2))), (a 3, .inl (cI, 5, .inl (x 3))), (a 4, .inl (cI, 30, .inl (x 4)))]
abbrev kT (cI : ClassId) (a : Nat → Nat) (x : HC) : va_W := [(a 0, .inr (5, [.ref (a 1), .int (x 0 1), .int (x 0 2), .int (x 0 3), .int (x 0 4), .int (x 0 5)])), (a 1, .inl (cI, 250, .inl (x 1)))]
abbrev kM (cI cZ : ClassId) (a : Nat → Nat) (x : HC) : va_W := [(a 0, .inr (7, [.ref (a 1), .ref (a 2), .ref (a 3), .int (x 0 3), .int (x 0 4), .int (x 0 5), .int (x 0 6), .ref (a 4), .ref (a 5), .int (x 0 9), .ref (a 6), .int (x 0 11), .ref (a 7), .int (x 0 13), .ref (a 8), .ref (a 9), .int (x 0 16), .int (x 0 17), .int (x 0 18), .int (x 0 19), .int (x 0 20), .ref (a 10), .int (x 0 22), .ref (a 11), .int (x 0 24), .ref (a 12), .int (x 0 26), .ref (a 13), .ref (a 14), .ref (a 15), .ref (a 16), .ref (a 17)])), (a 1, .inl (cI, 141, .inl (x 1))), (a 2, .inl (cZ, 2, .inl (x 2))), (a 3, .inl (cI, 250, .inl (x 3))), (a 4, .inl (cI, 5, .inl (x 4))), (a 5, .inl (cI, 5, .inl (x 5))), (a 6, .inl (cI, 6, .inl (x 6))), (a 7, .inl (cI, 24, .inl (x 7))), (a 8, .inl (cI, 12, .inl (x 8))), (a 9, .inl (cI, 45, .inl (x 9))), (a 10, .inl (cI, 15, .inl (x 10))), (a 11, .inl (cI, 6, .inl (x 11))), (a 12, .inl (cI, 24, .inl (x 12))), (a 13, .inl (cI, 12, .inl (x 13))), (a 14, .inl (cI, 30, .inl (x 14))), (a 15, .inl (cI, 4, .inl (x 15))), (a 16, .inl (cI, 6, .inl (x 16))), (a 17, .inl (cI, 5, .inl (x 17)))]
abbrev cW (cI : ClassId) (a : Nat → Nat → Nat) (C : Nat → HC) : va_W := [(a 0 0, .inr (6, [.ref (a 1 0), .ref (a 2 0), .ref (a 3 0), .ref (a 4 0), .ref (a 5 0), .ref (a 6 0), .ref (a 7 0), .ref (a 8 0), .ref (a 9 0), .ref (a 0 1)])), (a 0 1, .inl (cI, 6, .inl (C 0 1))), (a 1 0, .inr (5, [.ref (a 1 1), .int (C 1 0 1), .int (C 1 0 2), .int (C 1 0 3), .int (C 1 0 4), .int (C 1 0 5)])), (a 1 1, .inl (cI, 250, .inl (C 1 1))), (a 2 0, .inr (2, [.int (C 2 0 0), .int (C 2 0 1), .int (C 2 0 2), .int (C 2 0 3), .int (C 2 0 4), .int (C 2 0 5), .ref (a 2 1), .ref (a 2 2), .ref (a 2 3), .ref (a 2 4), .ref (a 2 5), .ref (a 2 6), .ref (a 2 7), .ref (a 2 8), .ref (a 2 9), .ref (a 2 10), .ref (a 2 11), .ref (a 2 12)])), (a 2 1, .inl (cI, 5, .inl (C 2 1))), (a 2 2, .inl (cI, 5, .inl (C 2 2))), (a 2 3, .inl (cI, 5, .inl (C 2 3))), (a 2 4, .inl (cI, 6, .inl (C 2 4))), (a 2 5, .inl (cI, 6, .inl (C 2 5))), (a 2 6, .inl (cI, 6, .inl (C 2 6))), (a 2 7, .inl (cI, 6, .inl (C 2 7))), (a 2 8, .inl (cI, 6, .inl (C 2 8))), (a 2 9, .inl (cI, 4, .inl (C 2 9))), (a 2 10, .inl (cI, 4, .inl (C 2 10))), (a 2 11, .inl (cI, 4, .inl (C 2 11))), (a 2 12, .inl (cI, 30, .inl (C 2 12))), (a 3 0, .inr (2, [.int (C 3 0 0), .int (C 3 0 1), .int (C 3 0 2), .int (C 3 0 3), .int (C 3 0 4), .int (C 3 0 5), .ref (a 3 1), .ref (a 3 2), .ref (a 3 3), .ref (a 3 4), .ref (a 3 5), .ref (a 3 6), .ref (a 3 7), .ref (a 3 8), .ref (a 3 9), .ref (a 3 10), .ref (a 3 11), .ref (a 3 12)])), (a 3 1, .inl (cI, 5, .inl (C 3 1))), (a 3 2, .inl (cI, 5, .inl (C 3 2))), (a 3 3, .inl (cI, 5, .inl (C 3 3))), (a 3 4, .inl (cI, 6, .inl (C 3 4))), (a 3 5, .inl (cI, 6, .inl (C 3 5))), (a 3 6, .inl (cI, 6, .inl (C 3 6))), (a 3 7, .inl (cI, 6, .inl (C 3 7))), (a 3 8, .inl (cI, 6, .inl (C 3 8))), (a 3 9, .inl (cI, 4, .inl (C 3 9))), (a 3 10, .inl (cI, 4, .inl (C 3 10))), (a 3 11, .inl (cI, 4, .inl (C 3 11))), (a 3 12, .inl (cI, 30, .inl (C 3 12))), (a 4 0, .inr (4, [.ref (a 4 1), .ref (a 4 2), .ref (a 4 3), .ref (a 4 4), .int (C 4 0 4), .int (C 4 0 5), .int (C 4 0 6)])), (a 4 1, .inl (cI, 5, .inl (C 4 1))), (a 4 2, .inl (cI, 5, .inl (C 4 2))), (a 4 3, .inl (cI, 5, .inl (C 4 3))), (a 4 4, .inl (cI, 30, .inl (C 4 4))), (a 5 0, .inr (4, [.ref (a 5 1), .ref (a 5 2), .ref (a 5 3), .ref (a 5 4), .int (C 5 0 4), .int (C 5 0 5), .int (C 5 0 6)])), (a 5 1, .inl (cI, 5, .inl (C 5 1))), (a 5 2, .inl (cI, 5, .inl (C 5 2))), (a 5 3, .inl (cI, 5, .inl (C 5 3))), (a 5 4, .inl (cI, 30, .inl (C 5 4))), (a 6 0, .inr (4, [.ref (a 6 1), .ref (a 6 2), .ref (a 6 3), .ref (a 6 4), .int (C 6 0 4), .int (C 6 0 5), .int (C 6 0 6)])), (a 6 1, .inl (cI, 5, .inl (C 6 1))), (a 6 2, .inl (cI, 5, .inl (C 6 2))), (a 6 3, .inl (cI, 5, .inl (C 6 3))), (a 6 4, .inl (cI, 30, .inl (C 6 4))), (a 7 0, .inr (1, [.ref (a 7 1), .ref (a 7 2), .int (C 7 0 2)])), (a 7 1, .inl (cI, 15, .inl (C 7 1))), (a 7 2, .inl (cI, 15, .inl (C 7 2))), (a 8 0, .inr (3, [.ref (a 8 1), .ref (a 8 2), .int (C 8 0 2), .int (C 8 0 3)])), (a 8 1, .inl (cI, 6, .inl (C 8 1))), (a 8 2, .inl (cI, 6, .inl (C 8 2))), (a 9 0, .inr (0, [.ref (a 9 1), .ref (a 9 2)])), (a 9 1, .inl (cI, 5, .inl (C 9 1))), (a 9 2, .inl (cI, 6, .inl (C 9 2)))]
theorem at_L_0_0 {cI : ClassId} {a : Nat → Nat} {x : HC} : (kL cI a x)[0]? = some (a 0, .inr (2, [.int (x 0 0), .int (x 0 1), .int (x 0 2), .int (x 0 3), .int (x 0 4), .int (x 0 5), .ref (a 1), .ref (a 2), .ref (a 3), .ref (a 4), .ref (a 5), .ref (a 6), .ref (a 7), .ref (a 8), .ref (a 9), .ref (a 10), .ref (a 11), .ref (a 12)])) := rfl
theorem at_L_0_9 {cI : ClassId} {a : Nat → Nat} {x : HC} : (kL cI a x)[9]? = some (a 9, .inl (cI, 4, .inl (x 9))) := rfl
theorem at_L_0_6 {cI : ClassId} {a : Nat → Nat} {x : HC} : (kL cI a x)[6]? = some (a 6, .inl (cI, 6, .inl (x 6))) := rfl
theorem at_L_0_11 {cI : ClassId} {a : Nat → Nat} {x : HC} : (kL cI a x)[11]? = some (a 11, .inl (cI, 4, .inl (x 11))) := rfl
theorem at_L_0_10 {cI : ClassId} {a : Nat → Nat} {x : HC} : (kL cI a x)[10]? = some (a 10, .inl (cI, 4, .inl (x 10))) := rfl
theorem at_L_0_1 {cI : ClassId} {a : Nat → Nat} {x : HC} : (kL cI a x)[1]? = some (a 1, .inl (cI, 5, .inl (x 1))) := rfl
theorem at_L_0_2 {cI : ClassId} {a : Nat → Nat} {x : HC} : (kL cI a x)[2]? = some (a 2, .inl (cI, 5, .inl (x 2))) := rfl
def f_X2_tricksOf_j28 (rc4 : Int32 → Int32 → Option (Int32)) (v2 : Int32) (v3 : Int32) : Option (Int32) := nm (v2 + (1 : Int32)) (fun (v4 : Int32) => rc4 v3 v4)
def f_X2_tricksOf_b4 (x : HC) (p1 : Int32) (rc4 : Int32 → Int32 → Option (Int32)) (v1 : Int32) (v2 : Int32) : Option (Int32) := (if (x 0 4) ≤ v2 then some v1 else (if inb v2 4 then (if (x 9 (Int32.toNatClampNeg v2)) = p1 then nm (v1 ||| ((1 : Int32) <<< (v2 &&& 31))) (fun (v5 : Int32) => f_X2_tricksOf_j28 rc4 v2 v5) else f_X2_tricksOf_j28 rc4 v2 v1) else none))
def f_X2_tricksOf (x : HC) (p1 : Int32) : Option (Int32) := lp (fun _ _ => none : Int32 → Int32 → Option (Int32)) (f_X2_tricksOf_b4 x p1) FU (0 : Int32) (0 : Int32)
abbrev RM_X2_tricksOf : Room := { frames := 0, cells := 0, slots := 0, locals := 0 }
set_option maxHeartbeats 4000000 in
set_option maxRecDepth 100000 in
theorem c_X2_tricksOf (l : Launch) (D : va_G) (cI cZ : ClassId) (a : Nat → Nat) (x : HC) (p1 : Int32) (sz : Nat) {r : Int32} (hf : f_X2_tricksOf x p1 = some r) : Met l yX2_tricksOf (wM yX2_tricksOf cX2_tricksOf 4 (some .int)) RM_X2_tricksOf (va_Pc [.ref (a 0), .int p1] (pre D cI cZ (kL cI a x) sz)) (QI0 D (va_A (kL cI a x) sz) (kL cI a x) r) 0 0 (va_A (kL cI a x) sz) := by
  unfold f_X2_tricksOf at hf
  refine Met.ofW (cc := cX2_tricksOf) (maxL := 4) (ret := (some .int)) (by decide) rfl ?_
  intro p e s m args below meth c s₁ B hml hv
  obtain ⟨rfl, hsz, hP, hK, hD0, hnw⟩ := hv
  have hx := B.exec
  have hb := B.bytes
  have hr := B.returns
  have hts := atoms_spec (ws := wM yX2_tricksOf cX2_tricksOf 4 (some .int)) B.pre
  have hG : ∀ w ∈ GW, w.before (([.ref (a 0), .int p1] : List Value).toArray) s = true := fun w h => hts w (List.mem_cons_of_mem _ h)
  have hown : s.vm.findClass RX2 = some m.cls := findClass_of_methodNamed B.named
  have hlocks := B.notSynchronized
  subst hsz
  have hD := hD0.self (sz := s.heap.size)
  generalize hAe : va_A (kL cI a x) s.heap.size = A at hD ⊢
  have hA : ∀ q : Nat, s.heap.size ≤ q → A q := fun q h => by rw [← hAe]; exact Or.inr h
  have hS : va_S A s.heap s.heap [] := va_S.rf
  have hl := lv_entry ([.ref (a 0), .int p1]) (n := 4) (Nat.le_of_ble_eq_true rfl)
  rw [lg_entry_eq]
  generalize (lg_sl ([.ref (a 0), .int p1]) ++ List.replicate (4 - (lg_sl ([.ref (a 0), .int p1])).length) Slot.unset).toArray = ls at hl ⊢
  have hl : lv_has ls 4 [(0, .ref (a 0)), (1, .int p1)] := hl
  show W p l e RM_X2_tricksOf s m (([.ref (a 0), .int p1] : List Value).toArray) below meth c s.heap [] 0 0 (MQ below (QI0 D A (kL cI a x) r) (([.ref (a 0), .int p1] : List Value).toArray) s 0 0 A) (F0 m 0 ls [])
  refine lv_iconst (v := (0 : Int32)) hx hb dX2_tricksOf_0 (by decide) ?_
  refine lv_istore_n (lv' := [(2, .int (0 : Int32)), (0, .ref (a 0)), (1, .int p1)]) hx hb dX2_tricksOf_1 rfl hl (by decide) rfl (fun ls hl => ?_)
  refine lv_iconst (v := (0 : Int32)) hx hb dX2_tricksOf_2 (by decide) ?_
  refine lv_istore_n (lv' := [(3, .int (0 : Int32)), (2, .int (0 : Int32)), (0, .ref (a 0)), (1, .int p1)]) hx hb dX2_tricksOf_3 rfl hl (by decide) rfl (fun ls hl => ?_)
  have L4 : ∀ (n : Nat) (v1 : Int32) (v2 : Int32) (H : Heap) (locs : List Loc) (ls : Array Slot), va_P D vwCl (kL cI a x) H → va_D A (kL cI a x) → va_S A s.heap H locs → lv_has ls 4 [(0, .ref (a 0)), (1, .int p1), (2, .int v1), (3, .int v2)] → lp (fun _ _ => none : Int32 → Int32 → Option (Int32)) (f_X2_tricksOf_b4 x p1) n v1 v2 = some r → W p l e RM_X2_tricksOf s m (([.ref (a 0), .int p1] : List Value).toArray) below meth c H locs 0 0 (MQ below (QI0 D A (kL cI a x) r) (([.ref (a 0), .int p1] : List Value).toArray) s 0 0 A) (F0 m 4 ls []) := by
    intro n
    induction n with
    | zero => intro v1 v2 H locs ls _ _ _ _ hf; cases (show (none : Option (Int32)) = some r from hf)
    | succ n ih4 =>
      intro v1 v2 H locs ls hP hD hS hl hf
      have hf : (f_X2_tricksOf_b4 x p1) (lp (fun _ _ => none : Int32 → Int32 → Option (Int32)) (f_X2_tricksOf_b4 x p1) n) v1 v2 = some r := hf
      generalize lp (fun _ _ => none : Int32 → Int32 → Option (Int32)) (f_X2_tricksOf_b4 x p1) n = rc4 at ih4 hf
      unfold f_X2_tricksOf_b4 at hf
      refine lv_iload_n hx hb dX2_tricksOf_4 rfl (lv_at hl 3 rfl) ?_
      refine lv_aload_n hx hb dX2_tricksOf_5 rfl (lv_at hl 0 rfl) ?_
      refine va_get (D := D) (ci := 2) (v := .int (x 0 4)) (C := RX2) (T := TX2) (N := 18) hx hb hG inG2 hown hK hP 0 at_L_0_0 rfl 4 (by decide) (hG _ g_123) (fun _ h9 => h9) rfl dX2_tricksOf_6 ?_
      refine lv_icmp_ge (tgt := 34) hx hb dX2_tricksOf_9 (by decide) (fun cc9 => ?_) (fun cc9 => ?_)
      · have hf := if_t cc9 hf
        refine lv_iload_n hx hb dX2_tricksOf_34 rfl (lv_at hl 2 rfl) ?_
        exact W.iret (v := v1) hx hb hr (fun t ht hW => ⟨⟨v1, (), rfl, Option.some.inj hf, by rw [ht]; exact hP, hD⟩, hS.F ht⟩) hS.2.2 dX2_tricksOf_35
      · have hf := if_f cc9 hf
        refine lv_aload_n hx hb dX2_tricksOf_12 rfl (lv_at hl 0 rfl) ?_
        refine va_get (D := D) (ci := 2) (v := .ref (a 9)) (C := RX2) (T := TX2) (N := 18) hx hb hG inG2 hown hK hP 0 at_L_0_0 rfl 14 (by decide) (hG _ g_155) (fun _ h9 => h9) rfl dX2_tricksOf_13 ?_
        refine lv_iload_n hx hb dX2_tricksOf_16 rfl (lv_at hl 3 rfl) ?_
        obtain ⟨hb17, hf⟩ := gd hf
        refine va_iald (cA := cI) (n := 4) (f := x 9) hx hb hK hP 9 0 at_L_0_9 rfl (inb_in hb17) dX2_tricksOf_17 ?_
        refine lv_iload_n hx hb dX2_tricksOf_18 rfl (lv_at hl 1 rfl) ?_
        have J28 : ∀ (v3 : Int32) (H : Heap) (locs : List Loc) (ls : Array Slot), va_P D vwCl (kL cI a x) H → va_D A (kL cI a x) → va_S A s.heap H locs → lv_has ls 4 [(0, .ref (a 0)), (1, .int p1), (2, .int v3), (3, .int v2)] → f_X2_tricksOf_j28 rc4 v2 v3 = some r → W p l e RM_X2_tricksOf s m (([.ref (a 0), .int p1] : List Value).toArray) below meth c H locs 0 0 (MQ below (QI0 D A (kL cI a x) r) (([.ref (a 0), .int p1] : List Value).toArray) s 0 0 A) (F0 m 28 ls []) := by
          intro v3 H locs ls hP hD hS hl hf
          unfold f_X2_tricksOf_j28 at hf
          obtain ⟨v4, ev4⟩ : ∃ y : Int32, y = (v2 + (1 : Int32)) := ⟨_, rfl⟩
          have hf := nm_x ev4 hf
          refine lv_iinc (v := v4) (lv' := [(3, .int v4), (0, .ref (a 0)), (1, .int p1), (2, .int v3)]) hx hb dX2_tricksOf_28 hl (k := 3) rfl (by rw [ev4]; rfl) (by decide) rfl (fun ls hl => ?_)
          refine lv_goto (tgt := 4) hx hb dX2_tricksOf_31 (by decide) ?_
          exact ih4 v3 v4 _ _ _ hP hD hS (lv_sub hl [1, 2, 3, 0] rfl) hf
        refine lv_icmp_ne (tgt := 28) hx hb dX2_tricksOf_19 (by decide) (fun cc19 => ?_) (fun cc19 => ?_)
        · have hf := if_f cc19 hf
          exact J28 v1 _ _ _ hP hD hS (lv_sub hl [0, 1, 2, 3] rfl) hf
        · have hf := if_t cc19 hf
          refine lv_iload_n hx hb dX2_tricksOf_22 rfl (lv_at hl 2 rfl) ?_
          refine lv_iconst (v := (1 : Int32)) hx hb dX2_tricksOf_23 (by decide) ?_
          refine lv_iload_n hx hb dX2_tricksOf_24 rfl (lv_at hl 3 rfl) ?_
          refine lv_ishl hx hb dX2_tricksOf_25 ?_
          refine lv_ior hx hb dX2_tricksOf_26 ?_
          refine lv_topi (fun v5 ev5 => ?_)
          have hf := nm_x ev5 hf
          refine lv_istore_n (lv' := [(2, .int v5), (0, .ref (a 0)), (1, .int p1), (3, .int v2)]) hx hb dX2_tricksOf_27 rfl hl (by decide) rfl (fun ls hl => ?_)
          exact J28 v5 _ _ _ hP hD hS (lv_sub hl [1, 2, 0, 3] rfl) hf
  exact L4 FU (0 : Int32) (0 : Int32) _ _ _ hP hD hS (lv_sub hl [2, 3, 1, 0] rfl) hf
def f_X6_has (p1 : Int32) (p2 : Int32) : Option (Int32) := (if ((p1 >>> (p2 &&& 31)) &&& (1 : Int32)) = (1 : Int32) then some (1 : Int32) else some (0 : Int32))
abbrev RM_X6_has : Room := { frames := 0, cells := 0, slots := 0, locals := 0 }
set_option maxHeartbeats 4000000 in
set_option maxRecDepth 100000 in
theorem c_X6_has (l : Launch) (D : va_G) (cI cZ : ClassId)  (p1 : Int32) (p2 : Int32) (sz : Nat) {r : Int32} (hf : f_X6_has p1 p2 = some r) : Met l yX6_has (wM yX6_has cX6_has 2 (some .boolean)) RM_X6_has (va_Pc [.int p1, .int p2] (pre D cI cZ ([] : va_W) sz)) (QI0 D (va_A ([] : va_W) sz) ([] : va_W) r) 0 0 (va_A ([] : va_W) sz) := by
  unfold f_X6_has at hf
  refine Met.ofW (cc := cX6_has) (maxL := 2) (ret := (some .boolean)) (by decide) rfl ?_
  intro p e s m args below meth c s₁ B hml hv
  obtain ⟨rfl, hsz, hP, hK, hD0, hnw⟩ := hv
  have hx := B.exec
  have hb := B.bytes
  have hr := B.returns
  have hts := atoms_spec (ws := wM yX6_has cX6_has 2 (some .boolean)) B.pre
  have hG : ∀ w ∈ GW, w.before (([.int p1, .int p2] : List Value).toArray) s = true := fun w h => hts w (List.mem_cons_of_mem _ h)
  have hown : s.vm.findClass RX6 = some m.cls := findClass_of_methodNamed B.named
  have hlocks := B.notSynchronized
  subst hsz
  have hD := hD0.self (sz := s.heap.size)
  generalize hAe : va_A ([] : va_W) s.heap.size = A at hD ⊢
  have hA : ∀ q : Nat, s.heap.size ≤ q → A q := fun q h => by rw [← hAe]; exact Or.inr h
  have hS : va_S A s.heap s.heap [] := va_S.rf
  have hl := lv_entry ([.int p1, .int p2]) (n := 2) (Nat.le_of_ble_eq_true rfl)
  rw [lg_entry_eq]
  generalize (lg_sl ([.int p1, .int p2]) ++ List.replicate (2 - (lg_sl ([.int p1, .int p2])).length) Slot.unset).toArray = ls at hl ⊢
  have hl : lv_has ls 2 [(0, .int p1), (1, .int p2)] := hl
  show W p l e RM_X6_has s m (([.int p1, .int p2] : List Value).toArray) below meth c s.heap [] 0 0 (MQ below (QI0 D A ([] : va_W) r) (([.int p1, .int p2] : List Value).toArray) s 0 0 A) (F0 m 0 ls [])
  refine lv_iload_n hx hb dX6_has_0 rfl (lv_at hl 0 rfl) ?_
  refine lv_iload_n hx hb dX6_has_1 rfl (lv_at hl 1 rfl) ?_
  refine lv_ishr hx hb dX6_has_2 ?_
  refine lv_iconst (v := (1 : Int32)) hx hb dX6_has_3 (by decide) ?_
  refine lv_iand hx hb dX6_has_4 ?_
  refine lv_iconst (v := (1 : Int32)) hx hb dX6_has_5 (by decide) ?_
  refine lv_icmp_ne (tgt := 13) hx hb dX6_has_6 (by decide) (fun cc6 => ?_) (fun cc6 => ?_)
  · have hf := if_f cc6 hf
    refine lv_iconst (v := (0 : Int32)) hx hb dX6_has_13 (by decide) ?_
    exact W.zret (v := (0 : Int32)) hx hb hr (by decide) (fun t ht hW => ⟨⟨(0 : Int32), (), rfl, Option.some.inj hf, by rw [ht]; exact hP, hD⟩, hS.F ht⟩) hS.2.2 dX6_has_14
  · have hf := if_t cc6 hf
    refine lv_iconst (v := (1 : Int32)) hx hb dX6_has_9 (by decide) ?_
    refine lv_goto (tgt := 14) hx hb dX6_has_10 (by decide) ?_
    exact W.zret (v := (1 : Int32)) hx hb hr (by decide) (fun t ht hW => ⟨⟨(1 : Int32), (), rfl, Option.some.inj hf, by rw [ht]; exact hP, hD⟩, hS.F ht⟩) hS.2.2 dX6_has_14
def f_X2_dangerLeft_j56 (rc11 : Int32 → Int32 → Option (Int32)) (v3 : Int32) (v5 : Int32) : Option (Int32) := nm (v3 + (1 : Int32)) (fun (v6 : Int32) => rc11 v5 v6)
def f_X2_dangerLeft_b11 (x : HC) (p2 : Int32) (p3 : Int32) (rc11 : Int32 → Int32 → Option (Int32)) (v2 : Int32) (v3 : Int32) : Option (Int32) := (if (x 0 4) ≤ v3 then some v2 else bd (f_X6_has p2 v3) (fun (q4 : Int32) => (if q4 = 0 then f_X2_dangerLeft_j56 rc11 v3 v2 else (if inb v3 4 then (if p3 < (x 11 (Int32.toNatClampNeg v3)) then f_X2_dangerLeft_j56 rc11 v3 v2 else (if inb v3 4 then nm (if (0 : Int32) < (v2 - (x 10 (Int32.toNatClampNeg v3))) then (v2 - (x 10 (Int32.toNatClampNeg v3))) else (0 : Int32)) (fun (v7 : Int32) => f_X2_dangerLeft_j56 rc11 v3 v7) else none)) else none))))
def f_X2_dangerLeft (x : HC) (p1 : Int32) (p2 : Int32) (p3 : Int32) : Option (Int32) := (if inb p1 6 then nm (x 6 (Int32.toNatClampNeg p1)) (fun (v1 : Int32) => lp (fun _ _ => none : Int32 → Int32 → Option (Int32)) (f_X2_dangerLeft_b11 x p2 p3) FU v1 (0 : Int32)) else none)
abbrev RM_X2_dangerLeft : Room := { frames := 1, cells := 0, slots := 0, locals := 21 }
set_option maxHeartbeats 4000000 in
set_option maxRecDepth 100000 in
theorem c_X2_dangerLeft (l : Launch) (D : va_G) (cI cZ : ClassId) (a : Nat → Nat) (x : HC) (p1 : Int32) (p2 : Int32) (p3 : Int32) (sz : Nat) {r : Int32} (hf : f_X2_dangerLeft x p1 p2 p3 = some r) : Met l yX2_dangerLeft (wM yX2_dangerLeft cX2_dangerLeft 6 (some .int)) RM_X2_dangerLeft (va_Pc [.ref (a 0), .int p1, .int p2, .int p3] (pre D cI cZ (kL cI a x) sz)) (QI0 D (va_A (kL cI a x) sz) (kL cI a x) r) 0 0 (va_A (kL cI a x) sz) := by
  unfold f_X2_dangerLeft at hf
  refine Met.ofW (cc := cX2_dangerLeft) (maxL := 6) (ret := (some .int)) (by decide) rfl ?_
  intro p e s m args below meth c s₁ B hml hv
  obtain ⟨rfl, hsz, hP, hK, hD0, hnw⟩ := hv
  have hx := B.exec
  have hb := B.bytes
  have hr := B.returns
  have hts := atoms_spec (ws := wM yX2_dangerLeft cX2_dangerLeft 6 (some .int)) B.pre
  have hG : ∀ w ∈ GW, w.before (([.ref (a 0), .int p1, .int p2, .int p3] : List Value).toArray) s = true := fun w h => hts w (List.mem_cons_of_mem _ h)
  have hown : s.vm.findClass RX2 = some m.cls := findClass_of_methodNamed B.named
  have hlocks := B.notSynchronized
  subst hsz
  have hD := hD0.self (sz := s.heap.size)
  generalize hAe : va_A (kL cI a x) s.heap.size = A at hD ⊢
  have hA : ∀ q : Nat, s.heap.size ≤ q → A q := fun q h => by rw [← hAe]; exact Or.inr h
  have hS : va_S A s.heap s.heap [] := va_S.rf
  have hl := lv_entry ([.ref (a 0), .int p1, .int p2, .int p3]) (n := 6) (Nat.le_of_ble_eq_true rfl)
  rw [lg_entry_eq]
  generalize (lg_sl ([.ref (a 0), .int p1, .int p2, .int p3]) ++ List.replicate (6 - (lg_sl ([.ref (a 0), .int p1, .int p2, .int p3])).length) Slot.unset).toArray = ls at hl ⊢
  have hl : lv_has ls 6 [(0, .ref (a 0)), (1, .int p1), (2, .int p2), (3, .int p3)] := hl
  show W p l e RM_X2_dangerLeft s m (([.ref (a 0), .int p1, .int p2, .int p3] : List Value).toArray) below meth c s.heap [] 0 0 (MQ below (QI0 D A (kL cI a x) r) (([.ref (a 0), .int p1, .int p2, .int p3] : List Value).toArray) s 0 0 A) (F0 m 0 ls [])
  refine lv_aload_n hx hb dX2_dangerLeft_0 rfl (lv_at hl 0 rfl) ?_
  refine va_get (D := D) (ci := 2) (v := .ref (a 6)) (C := RX2) (T := TX2) (N := 18) hx hb hG inG2 hown hK hP 0 at_L_0_0 rfl 11 (by decide) (hG _ g_145) (fun _ h9 => h9) rfl dX2_dangerLeft_1 ?_
  refine lv_iload_n hx hb dX2_dangerLeft_4 rfl (lv_at hl 1 rfl) ?_
  obtain ⟨hb5, hf⟩ := gd hf
  refine va_iald (cA := cI) (n := 6) (f := x 6) hx hb hK hP 6 0 at_L_0_6 rfl (inb_in hb5) dX2_dangerLeft_5 ?_
  refine lv_topi (fun v1 ev1 => ?_)
  have hf := nm_x ev1 hf
  refine lv_istore (lv' := [(4, .int v1), (0, .ref (a 0)), (1, .int p1), (2, .int p2), (3, .int p3)]) hx hb dX2_dangerLeft_6 hl (by decide) rfl (fun ls hl => ?_)
  refine lv_iconst (v := (0 : Int32)) hx hb dX2_dangerLeft_8 (by decide) ?_
  refine lv_istore (lv' := [(5, .int (0 : Int32)), (4, .int v1), (0, .ref (a 0)), (1, .int p1), (2, .int p2), (3, .int p3)]) hx hb dX2_dangerLeft_9 hl (by decide) rfl (fun ls hl => ?_)
  have L11 : ∀ (n : Nat) (v2 : Int32) (v3 : Int32) (H : Heap) (locs : List Loc) (ls : Array Slot), va_P D vwCl (kL cI a x) H → va_D A (kL cI a x) → va_S A s.heap H locs → lv_has ls 6 [(0, .ref (a 0)), (2, .int p2), (3, .int p3), (4, .int v2), (5, .int v3)] → lp (fun _ _ => none : Int32 → Int32 → Option (Int32)) (f_X2_dangerLeft_b11 x p2 p3) n v2 v3 = some r → W p l e RM_X2_dangerLeft s m (([.ref (a 0), .int p1, .int p2, .int p3] : List Value).toArray) below meth c H locs 0 0 (MQ below (QI0 D A (kL cI a x) r) (([.ref (a 0), .int p1, .int p2, .int p3] : List Value).toArray) s 0 0 A) (F0 m 11 ls []) := by
    intro n
    induction n with
    | zero => intro v2 v3 H locs ls _ _ _ _ hf; cases (show (none : Option (Int32)) = some r from hf)
    | succ n ih11 =>
      intro v2 v3 H locs ls hP hD hS hl hf
      have hf : (f_X2_dangerLeft_b11 x p2 p3) (lp (fun _ _ => none : Int32 → Int32 → Option (Int32)) (f_X2_dangerLeft_b11 x p2 p3) n) v2 v3 = some r := hf
      generalize lp (fun _ _ => none : Int32 → Int32 → Option (Int32)) (f_X2_dangerLeft_b11 x p2 p3) n = rc11 at ih11 hf
      unfold f_X2_dangerLeft_b11 at hf
      refine lv_iload hx hb dX2_dangerLeft_11 (lv_at hl 4 rfl) ?_
      refine lv_aload_n hx hb dX2_dangerLeft_13 rfl (lv_at hl 0 rfl) ?_
      refine va_get (D := D) (ci := 2) (v := .int (x 0 4)) (C := RX2) (T := TX2) (N := 18) hx hb hG inG2 hown hK hP 0 at_L_0_0 rfl 4 (by decide) (hG _ g_123) (fun _ h9 => h9) rfl dX2_dangerLeft_14 ?_
      refine lv_icmp_ge (tgt := 62) hx hb dX2_dangerLeft_17 (by decide) (fun cc17 => ?_) (fun cc17 => ?_)
      · have hf := if_t cc17 hf
        refine lv_iload hx hb dX2_dangerLeft_62 (lv_at hl 3 rfl) ?_
        exact W.iret (v := v2) hx hb hr (fun t ht hW => ⟨⟨v2, (), rfl, Option.some.inj hf, by rw [ht]; exact hP, hD⟩, hS.F ht⟩) hS.2.2 dX2_dangerLeft_64
      · have hf := if_f cc17 hf
        refine lv_iload_n hx hb dX2_dangerLeft_20 rfl (lv_at hl 1 rfl) ?_
        refine lv_iload hx hb dX2_dangerLeft_21 (lv_at hl 4 rfl) ?_
        obtain ⟨q4, hq4, hf⟩ := bd_x hf
        have hFc := va_free (wc := []) hD hS hA [] rfl
        refine va_calli (va_runSN (As := [.int p2, .int v3]) (rest := []) ⟨hx, hb, hml, hown, hG⟩ (c_X6_has l D cI cZ p2 v3 H.size hq4) ⟨va_cnB 2 hG (gC g_285) rfl rfl rfl hnw.2.2.1 (hG _ g_70) (by decide +kernel) ⟨Nat.le_of_ble_eq_true rfl, Nat.le_of_ble_eq_true rfl⟩, hG _ g_284, trivial⟩ ⟨pre_blind, fun U hU hW => ⟨rfl, pre_of P_nil hK D_nil hnw hU hW⟩⟩ rfl rfl hl.1 rfl (lv_room (Nat.le_of_ble_eq_true rfl)) dX2_dangerLeft_23 ⟨Nat.le_of_ble_eq_true rfl, Nat.le_of_ble_eq_true rfl⟩) hS (fun q _ h => hFc q h) hFc (fun v u t H locs ht hvm hw hB hz1 hk1 hS => ?_)
        have hw := hw.symm; subst hw
        obtain ⟨hP1, hD1⟩ := hB
        rw [ht] at hP1
        obtain ⟨hP, hD⟩ := back hP hD [] rfl rfl hk1 hFc hP1 hD1
        have J56 : ∀ (v5 : Int32) (H : Heap) (locs : List Loc) (ls : Array Slot), va_P D vwCl (kL cI a x) H → va_D A (kL cI a x) → va_S A s.heap H locs → lv_has ls 6 [(0, .ref (a 0)), (2, .int p2), (3, .int p3), (4, .int v5), (5, .int v3)] → f_X2_dangerLeft_j56 rc11 v3 v5 = some r → W p l e RM_X2_dangerLeft s m (([.ref (a 0), .int p1, .int p2, .int p3] : List Value).toArray) below meth c H locs 0 0 (MQ below (QI0 D A (kL cI a x) r) (([.ref (a 0), .int p1, .int p2, .int p3] : List Value).toArray) s 0 0 A) (F0 m 56 ls []) := by
          intro v5 H locs ls hP hD hS hl hf
          unfold f_X2_dangerLeft_j56 at hf
          obtain ⟨v6, ev6⟩ : ∃ y : Int32, y = (v3 + (1 : Int32)) := ⟨_, rfl⟩
          have hf := nm_x ev6 hf
          refine lv_iinc (v := v6) (lv' := [(5, .int v6), (0, .ref (a 0)), (2, .int p2), (3, .int p3), (4, .int v5)]) hx hb dX2_dangerLeft_56 hl (k := 4) rfl (by rw [ev6]; rfl) (by decide) rfl (fun ls hl => ?_)
          refine lv_goto (tgt := 11) hx hb dX2_dangerLeft_59 (by decide) ?_
          exact ih11 v5 v6 _ _ _ hP hD hS (lv_sub hl [1, 2, 3, 4, 0] rfl) hf
        refine lv_if_eq (tgt := 56) hx hb dX2_dangerLeft_26 (by decide) (fun cc26 => ?_) (fun cc26 => ?_)
        · have hf := if_t cc26 hf
          exact J56 v2 _ _ _ hP hD hS (lv_sub hl [0, 1, 2, 3, 4] rfl) hf
        · have hf := if_f cc26 hf
          refine lv_aload_n hx hb dX2_dangerLeft_29 rfl (lv_at hl 0 rfl) ?_
          refine va_get (D := D) (ci := 2) (v := .ref (a 11)) (C := RX2) (T := TX2) (N := 18) hx hb hG inG2 hown hK hP 0 at_L_0_0 rfl 16 (by decide) (hG _ g_161) (fun _ h9 => h9) rfl dX2_dangerLeft_30 ?_
          refine lv_iload hx hb dX2_dangerLeft_33 (lv_at hl 4 rfl) ?_
          obtain ⟨hb35, hf⟩ := gd hf
          refine va_iald (cA := cI) (n := 4) (f := x 11) hx hb hK hP 11 0 at_L_0_11 rfl (inb_in hb35) dX2_dangerLeft_35 ?_
          refine lv_iload_n hx hb dX2_dangerLeft_36 rfl (lv_at hl 2 rfl) ?_
          refine lv_icmp_gt (tgt := 56) hx hb dX2_dangerLeft_37 (by decide) (fun cc37 => ?_) (fun cc37 => ?_)
          · have hf := if_t cc37 hf
            exact J56 v2 _ _ _ hP hD hS (lv_sub hl [0, 1, 2, 3, 4] rfl) hf
          · have hf := if_f cc37 hf
            refine lv_iconst (v := (0 : Int32)) hx hb dX2_dangerLeft_40 (by decide) ?_
            refine lv_iload hx hb dX2_dangerLeft_41 (lv_at hl 3 rfl) ?_
            refine lv_aload_n hx hb dX2_dangerLeft_43 rfl (lv_at hl 0 rfl) ?_
            refine va_get (D := D) (ci := 2) (v := .ref (a 10)) (C := RX2) (T := TX2) (N := 18) hx hb hG inG2 hown hK hP 0 at_L_0_0 rfl 15 (by decide) (hG _ g_158) (fun _ h9 => h9) rfl dX2_dangerLeft_44 ?_
            refine lv_iload hx hb dX2_dangerLeft_47 (lv_at hl 4 rfl) ?_
            obtain ⟨hb49, hf⟩ := gd hf
            refine va_iald (cA := cI) (n := 4) (f := x 10) hx hb hK hP 10 0 at_L_0_10 rfl (inb_in hb49) dX2_dangerLeft_49 ?_
            refine lv_isub hx hb dX2_dangerLeft_50 ?_
            refine va_mmax hx hb (hml.trans hl.1.symm) hown (hG _ g_410) (hG _ g_374) (hG _ g_78) (hG _ g_375) (Nat.le_of_ble_eq_true rfl) (Nat.le_of_ble_eq_true rfl) (Nat.zero_le _) (Nat.zero_le _) dX2_dangerLeft_51 ?_
            refine lv_topi (fun v7 ev7 => ?_)
            have hf := nm_x ev7 hf
            refine lv_istore (lv' := [(4, .int v7), (0, .ref (a 0)), (2, .int p2), (3, .int p3), (5, .int v3)]) hx hb dX2_dangerLeft_54 hl (by decide) rfl (fun ls hl => ?_)
            exact J56 v7 _ _ _ hP hD hS (lv_sub hl [1, 2, 3, 0, 4] rfl) hf
  exact L11 FU v1 (0 : Int32) _ _ _ hP hD hS (lv_sub hl [2, 4, 5, 1, 0] rfl) hf
def f_X2_passes_j40   : Option (Int32) := some (1 : Int32)
def f_X2_passes (x : HC) (p1 : Int32) (p2 : Int32) (p3 : Int32) (p4 : Int32) : Option (Int32) := (if inb p1 5 then (if (x 1 (Int32.toNatClampNeg p1)) = (4 : Int32) then some (0 : Int32) else (if inb p2 6 then (if (x 6 (Int32.toNatClampNeg p2)) < p4 then f_X2_passes_j40 else (if inb p1 5 then bd (f_X2_dangerLeft x p2 p3 p4) (fun (q1 : Int32) => (if (x 2 (Int32.toNatClampNeg p1)) < q1 then some (0 : Int32) else f_X2_passes_j40)) else none)) else none)) else none)
abbrev RM_X2_passes : Room := { frames := 2, cells := 0, slots := 0, locals := 46 }
set_option maxHeartbeats 4000000 in
set_option maxRecDepth 100000 in
theorem c_X2_passes (l : Launch) (D : va_G) (cI cZ : ClassId) (a : Nat → Nat) (x : HC) (p1 : Int32) (p2 : Int32) (p3 : Int32) (p4 : Int32) (sz : Nat) {r : Int32} (hf : f_X2_passes x p1 p2 p3 p4 = some r) : Met l yX2_passes (wM yX2_passes cX2_passes 5 (some .boolean)) RM_X2_passes (va_Pc [.ref (a 0), .int p1, .int p2, .int p3, .int p4] (pre D cI cZ (kL cI a x) sz)) (QI0 D (va_A (kL cI a x) sz) (kL cI a x) r) 0 0 (va_A (kL cI a x) sz) := by
  unfold f_X2_passes at hf
  refine Met.ofW (cc := cX2_passes) (maxL := 5) (ret := (some .boolean)) (by decide) rfl ?_
  intro p e s m args below meth c s₁ B hml hv
  obtain ⟨rfl, hsz, hP, hK, hD0, hnw⟩ := hv
  have hx := B.exec
  have hb := B.bytes
  have hr := B.returns
  have hts := atoms_spec (ws := wM yX2_passes cX2_passes 5 (some .boolean)) B.pre
  have hG : ∀ w ∈ GW, w.before (([.ref (a 0), .int p1, .int p2, .int p3, .int p4] : List Value).toArray) s = true := fun w h => hts w (List.mem_cons_of_mem _ h)
  have hown : s.vm.findClass RX2 = some m.cls := findClass_of_methodNamed B.named
  have hlocks := B.notSynchronized
  subst hsz
  have hD := hD0.self (sz := s.heap.size)
  generalize hAe : va_A (kL cI a x) s.heap.size = A at hD ⊢
  have hA : ∀ q : Nat, s.heap.size ≤ q → A q := fun q h => by rw [← hAe]; exact Or.inr h
  have hS : va_S A s.heap s.heap [] := va_S.rf
  have hl := lv_entry ([.ref (a 0), .int p1, .int p2, .int p3, .int p4]) (n := 5) (Nat.le_of_ble_eq_true rfl)
  rw [lg_entry_eq]
  generalize (lg_sl ([.ref (a 0), .int p1, .int p2, .int p3, .int p4]) ++ List.replicate (5 - (lg_sl ([.ref (a 0), .int p1, .int p2, .int p3, .int p4])).length) Slot.unset).toArray = ls at hl ⊢
  have hl : lv_has ls 5 [(0, .ref (a 0)), (1, .int p1), (2, .int p2), (3, .int p3), (4, .int p4)] := hl
  show W p l e RM_X2_passes s m (([.ref (a 0), .int p1, .int p2, .int p3, .int p4] : List Value).toArray) below meth c s.heap [] 0 0 (MQ below (QI0 D A (kL cI a x) r) (([.ref (a 0), .int p1, .int p2, .int p3, .int p4] : List Value).toArray) s 0 0 A) (F0 m 0 ls [])
  refine lv_aload_n hx hb dX2_passes_0 rfl (lv_at hl 0 rfl) ?_
  refine va_get (D := D) (ci := 2) (v := .ref (a 1)) (C := RX2) (T := TX2) (N := 18) hx hb hG inG2 hown hK hP 0 at_L_0_0 rfl 6 (by decide) (hG _ g_128) (fun _ h9 => h9) rfl dX2_passes_1 ?_
  refine lv_iload_n hx hb dX2_passes_4 rfl (lv_at hl 1 rfl) ?_
  obtain ⟨hb5, hf⟩ := gd hf
  refine va_iald (cA := cI) (n := 5) (f := x 1) hx hb hK hP 1 0 at_L_0_1 rfl (inb_in hb5) dX2_passes_5 ?_
  refine lv_iconst (v := (4 : Int32)) hx hb dX2_passes_6 (by decide) ?_
  refine lv_icmp_ne (tgt := 12) hx hb dX2_passes_7 (by decide) (fun cc7 => ?_) (fun cc7 => ?_)
  · have hf := if_f cc7 hf
    refine lv_iload hx hb dX2_passes_12 (lv_at hl 4 rfl) ?_
    refine lv_aload_n hx hb dX2_passes_14 rfl (lv_at hl 0 rfl) ?_
    refine va_get (D := D) (ci := 2) (v := .ref (a 6)) (C := RX2) (T := TX2) (N := 18) hx hb hG inG2 hown hK hP 0 at_L_0_0 rfl 11 (by decide) (hG _ g_145) (fun _ h9 => h9) rfl dX2_passes_15 ?_
    refine lv_iload_n hx hb dX2_passes_18 rfl (lv_at hl 2 rfl) ?_
    obtain ⟨hb19, hf⟩ := gd hf
    refine va_iald (cA := cI) (n := 6) (f := x 6) hx hb hK hP 6 0 at_L_0_6 rfl (inb_in hb19) dX2_passes_19 ?_
    have J40 : ∀  (H : Heap) (locs : List Loc) (ls : Array Slot), va_P D vwCl (kL cI a x) H → va_D A (kL cI a x) → va_S A s.heap H locs → lv_has ls 5 [] → f_X2_passes_j40  = some r → W p l e RM_X2_passes s m (([.ref (a 0), .int p1, .int p2, .int p3, .int p4] : List Value).toArray) below meth c H locs 0 0 (MQ below (QI0 D A (kL cI a x) r) (([.ref (a 0), .int p1, .int p2, .int p3, .int p4] : List Value).toArray) s 0 0 A) (F0 m 40 ls []) := by
      intro  H locs ls hP hD hS hl hf
      unfold f_X2_passes_j40 at hf
      refine lv_iconst (v := (1 : Int32)) hx hb dX2_passes_40 (by decide) ?_
      refine lv_goto (tgt := 45) hx hb dX2_passes_41 (by decide) ?_
      exact W.zret (v := (1 : Int32)) hx hb hr (by decide) (fun t ht hW => ⟨⟨(1 : Int32), (), rfl, Option.some.inj hf, by rw [ht]; exact hP, hD⟩, hS.F ht⟩) hS.2.2 dX2_passes_45
    refine lv_icmp_gt (tgt := 40) hx hb dX2_passes_20 (by decide) (fun cc20 => ?_) (fun cc20 => ?_)
    · have hf := if_t cc20 hf
      exact J40  _ _ _ hP hD hS (lv_sub hl [] rfl) hf
    · have hf := if_f cc20 hf
      refine lv_aload_n hx hb dX2_passes_23 rfl (lv_at hl 0 rfl) ?_
      refine va_get (D := D) (ci := 2) (v := .ref (a 2)) (C := RX2) (T := TX2) (N := 18) hx hb hG inG2 hown hK hP 0 at_L_0_0 rfl 7 (by decide) (hG _ g_131) (fun _ h9 => h9) rfl dX2_passes_24 ?_
      refine lv_iload_n hx hb dX2_passes_27 rfl (lv_at hl 1 rfl) ?_
      obtain ⟨hb28, hf⟩ := gd hf
      refine va_iald (cA := cI) (n := 5) (f := x 2) hx hb hK hP 2 0 at_L_0_2 rfl (inb_in hb28) dX2_passes_28 ?_
      refine lv_aload_n hx hb dX2_passes_29 rfl (lv_at hl 0 rfl) ?_
      refine lv_iload_n hx hb dX2_passes_30 rfl (lv_at hl 2 rfl) ?_
      refine lv_iload_n hx hb dX2_passes_31 rfl (lv_at hl 3 rfl) ?_
      refine lv_iload hx hb dX2_passes_32 (lv_at hl 4 rfl) ?_
      obtain ⟨q1, hq1, hf⟩ := bd_x hf
      have hFc := freeS hD hS hA
      refine va_calli (va_runV (As := [.int p2, .int p3, .int p4]) (rest := [.int (x 2 (Int32.toNatClampNeg p1))]) ⟨hx, hb, hml, hown, hG⟩ (c_X2_dangerLeft l D cI cZ a x p2 p3 p4 s.heap.size hq1) (cwV 3 hG (gV g_407 g_408 g_22 g_72 g_409) rfl rfl rfl (by decide +kernel) ⟨Nat.le_of_ble_eq_true rfl, Nat.le_of_ble_eq_true rfl⟩) ⟨pre_blind, va_recv hK hP (ci := 2) (q0 := 0) rfl rfl, fun U hU hW => ⟨rfl, pre_of hP hK hD hnw hU hW⟩⟩ rfl rfl hl.1 rfl (lv_room (Nat.le_of_ble_eq_true rfl)) dX2_passes_34 ⟨Nat.le_of_ble_eq_true rfl, Nat.le_of_ble_eq_true rfl⟩) hS (fun q _ h => hFc q h) hFc (fun v u t H locs ht hvm hw hB hz1 hk1 hS => ?_)
      have hw := hw.symm; subst hw
      obtain ⟨hP1, hD1⟩ := hB
      rw [ht] at hP1
      have hP := hP1
      have hD := hD1.weaken (fun _ q _ h => hFc q.1 h)
      refine lv_icmp_lt (tgt := 44) hx hb dX2_passes_37 (by decide) (fun cc37 => ?_) (fun cc37 => ?_)
      · have hf := if_t cc37 hf
        refine lv_iconst (v := (0 : Int32)) hx hb dX2_passes_44 (by decide) ?_
        exact W.zret (v := (0 : Int32)) hx hb hr (by decide) (fun t ht hW => ⟨⟨(0 : Int32), (), rfl, Option.some.inj hf, by rw [ht]; exact hP, hD⟩, hS.F ht⟩) hS.2.2 dX2_passes_45
      · have hf := if_f cc37 hf
        exact J40  _ _ _ hP hD hS (lv_sub hl [] rfl) hf
  · have hf := if_t cc7 hf
    refine lv_iconst (v := (0 : Int32)) hx hb dX2_passes_10 (by decide) ?_
    exact W.zret (v := (0 : Int32)) hx hb hr (by decide) (fun t ht hW => ⟨⟨(0 : Int32), (), rfl, Option.some.inj hf, by rw [ht]; exact hP, hD⟩, hS.F ht⟩) hS.2.2 dX2_passes_11
end
