section
-- ===== PART A: goes FIRST, ahead of the names: the tables' words, and 'selects' of the private methods out of them =====
/-- a private method of a class that the tables say can be made, by its rows of tables_1 -/
def lw_okq (q : MethodName × Nat) : Prop := (q.1.cls ≠ "java/lang/invoke/MethodHandle" ∧ q.1.cls ≠ "java/lang/invoke/VarHandle") ∧ Cond.instantiable q.1.cls q.2 ∈ tables_1 ∧ Cond.privateMethod q.1 ∈ tables_1 ∧ Cond.instanceMethod q.1 ∈ tables_1
theorem lw_p0 : lw_okq (⟨"BlockBench", "refresh", "()V"⟩, 14) := ⟨⟨by decide +kernel, by decide +kernel⟩, List.mem_of_getElem? (i := 14) (by decide +kernel), List.mem_of_getElem? (i := 322) (by decide +kernel), List.mem_of_getElem? (i := 323) (by decide +kernel)⟩
theorem lw_p1 : lw_okq (⟨"BlockBench$Dependences", "findDelaysOf", "(I)V"⟩, 6) := ⟨⟨by decide +kernel, by decide +kernel⟩, List.mem_of_getElem? (i := 78) (by decide +kernel), List.mem_of_getElem? (i := 330) (by decide +kernel), List.mem_of_getElem? (i := 331) (by decide +kernel)⟩
theorem lw_p2 : lw_okq (⟨"BlockBench$Dependences", "registerDelay", "(III)I"⟩, 6) := ⟨⟨by decide +kernel, by decide +kernel⟩, List.mem_of_getElem? (i := 78) (by decide +kernel), List.mem_of_getElem? (i := 337) (by decide +kernel), List.mem_of_getElem? (i := 338) (by decide +kernel)⟩
theorem lw_p3 : lw_okq (⟨"BlockBench$Dependences", "memoryDelay", "(III)I"⟩, 6) := ⟨⟨by decide +kernel, by decide +kernel⟩, List.mem_of_getElem? (i := 78) (by decide +kernel), List.mem_of_getElem? (i := 356) (by decide +kernel), List.mem_of_getElem? (i := 357) (by decide +kernel)⟩
theorem lw_p4 : lw_okq (⟨"BlockBench$Dependences", "areApart", "(III)Z"⟩, 6) := ⟨⟨by decide +kernel, by decide +kernel⟩, List.mem_of_getElem? (i := 78) (by decide +kernel), List.mem_of_getElem? (i := 364) (by decide +kernel), List.mem_of_getElem? (i := 365) (by decide +kernel)⟩
theorem lw_p5 : lw_okq (⟨"BlockBench$Dependences", "findWays", "()V"⟩, 6) := ⟨⟨by decide +kernel, by decide +kernel⟩, List.mem_of_getElem? (i := 78) (by decide +kernel), List.mem_of_getElem? (i := 375) (by decide +kernel), List.mem_of_getElem? (i := 376) (by decide +kernel)⟩
theorem lw_p6 : lw_okq (⟨"BlockBench$ListPlan", "forgetCycles", "()V"⟩, 6) := ⟨⟨by decide +kernel, by decide +kernel⟩, List.mem_of_getElem? (i := 109) (by decide +kernel), List.mem_of_getElem? (i := 387) (by decide +kernel), List.mem_of_getElem? (i := 388) (by decide +kernel)⟩
theorem lw_p7 : lw_okq (⟨"BlockBench$ListPlan", "bestFor", "(I)I"⟩, 6) := ⟨⟨by decide +kernel, by decide +kernel⟩, List.mem_of_getElem? (i := 109) (by decide +kernel), List.mem_of_getElem? (i := 392) (by decide +kernel), List.mem_of_getElem? (i := 393) (by decide +kernel)⟩
theorem lw_p8 : lw_okq (⟨"BlockBench$ListPlan", "isFree", "(I)Z"⟩, 6) := ⟨⟨by decide +kernel, by decide +kernel⟩, List.mem_of_getElem? (i := 109) (by decide +kernel), List.mem_of_getElem? (i := 396) (by decide +kernel), List.mem_of_getElem? (i := 397) (by decide +kernel)⟩
theorem lw_p9 : lw_okq (⟨"BlockBench$ListPlan", "firstPossibleBehind", "(I)I"⟩, 6) := ⟨⟨by decide +kernel, by decide +kernel⟩, List.mem_of_getElem? (i := 109) (by decide +kernel), List.mem_of_getElem? (i := 400) (by decide +kernel), List.mem_of_getElem? (i := 401) (by decide +kernel)⟩
theorem lw_p10 : lw_okq (⟨"BlockBench$ListPlan", "giveCycle", "(II)V"⟩, 6) := ⟨⟨by decide +kernel, by decide +kernel⟩, List.mem_of_getElem? (i := 109) (by decide +kernel), List.mem_of_getElem? (i := 405) (by decide +kernel), List.mem_of_getElem? (i := 406) (by decide +kernel)⟩
theorem lw_p11 : lw_okq (⟨"BlockBench", "shortest", "()I"⟩, 14) := ⟨⟨by decide +kernel, by decide +kernel⟩, List.mem_of_getElem? (i := 14) (by decide +kernel), List.mem_of_getElem? (i := 434) (by decide +kernel), List.mem_of_getElem? (i := 435) (by decide +kernel)⟩
theorem lw_p12 : lw_okq (⟨"BlockBench$ShortestSearch", "tryAll", "(III)V"⟩, 4) := ⟨⟨by decide +kernel, by decide +kernel⟩, List.mem_of_getElem? (i := 153) (by decide +kernel), List.mem_of_getElem? (i := 443) (by decide +kernel), List.mem_of_getElem? (i := 444) (by decide +kernel)⟩
theorem lw_p13 : lw_okq (⟨"BlockBench$ShortestSearch", "isHopeless", "(II)Z"⟩, 4) := ⟨⟨by decide +kernel, by decide +kernel⟩, List.mem_of_getElem? (i := 153) (by decide +kernel), List.mem_of_getElem? (i := 451) (by decide +kernel), List.mem_of_getElem? (i := 452) (by decide +kernel)⟩
theorem lw_p14 : lw_okq (⟨"BlockBench$ShortestSearch", "howManyWithWay", "(I)I"⟩, 4) := ⟨⟨by decide +kernel, by decide +kernel⟩, List.mem_of_getElem? (i := 153) (by decide +kernel), List.mem_of_getElem? (i := 455) (by decide +kernel), List.mem_of_getElem? (i := 456) (by decide +kernel)⟩
theorem lw_p15 : lw_okq (⟨"BlockBench$ShortestSearch", "isFree", "(I)Z"⟩, 4) := ⟨⟨by decide +kernel, by decide +kernel⟩, List.mem_of_getElem? (i := 153) (by decide +kernel), List.mem_of_getElem? (i := 461) (by decide +kernel), List.mem_of_getElem? (i := 462) (by decide +kernel)⟩
def lw_privs_1 : List (MethodName × Nat) := [(⟨"BlockBench", "refresh", "()V"⟩, 14), (⟨"BlockBench$Dependences", "findDelaysOf", "(I)V"⟩, 6), (⟨"BlockBench$Dependences", "registerDelay", "(III)I"⟩, 6), (⟨"BlockBench$Dependences", "memoryDelay", "(III)I"⟩, 6), (⟨"BlockBench$Dependences", "areApart", "(III)Z"⟩, 6), (⟨"BlockBench$Dependences", "findWays", "()V"⟩, 6), (⟨"BlockBench$ListPlan", "forgetCycles", "()V"⟩, 6), (⟨"BlockBench$ListPlan", "bestFor", "(I)I"⟩, 6), (⟨"BlockBench$ListPlan", "isFree", "(I)Z"⟩, 6), (⟨"BlockBench$ListPlan", "firstPossibleBehind", "(I)I"⟩, 6), (⟨"BlockBench$ListPlan", "giveCycle", "(II)V"⟩, 6), (⟨"BlockBench", "shortest", "()I"⟩, 14), (⟨"BlockBench$ShortestSearch", "tryAll", "(III)V"⟩, 4), (⟨"BlockBench$ShortestSearch", "isHopeless", "(II)Z"⟩, 4), (⟨"BlockBench$ShortestSearch", "howManyWithWay", "(I)I"⟩, 4), (⟨"BlockBench$ShortestSearch", "isFree", "(I)Z"⟩, 4)]
theorem lw_r1 : ∀ q ∈ lw_privs_1, lw_okq q := List.forall_mem_cons.mpr ⟨lw_p0, List.forall_mem_cons.mpr ⟨lw_p1, List.forall_mem_cons.mpr ⟨lw_p2, List.forall_mem_cons.mpr ⟨lw_p3, List.forall_mem_cons.mpr ⟨lw_p4, List.forall_mem_cons.mpr ⟨lw_p5, List.forall_mem_cons.mpr ⟨lw_p6, List.forall_mem_cons.mpr ⟨lw_p7, List.forall_mem_cons.mpr ⟨lw_p8, List.forall_mem_cons.mpr ⟨lw_p9, List.forall_mem_cons.mpr ⟨lw_p10, List.forall_mem_cons.mpr ⟨lw_p11, List.forall_mem_cons.mpr ⟨lw_p12, List.forall_mem_cons.mpr ⟨lw_p13, List.forall_mem_cons.mpr ⟨lw_p14, List.forall_mem_cons.mpr ⟨lw_p15, fun _ h => absurd h List.not_mem_nil⟩⟩⟩⟩⟩⟩⟩⟩⟩⟩⟩⟩⟩⟩⟩⟩
theorem lw_p16 : lw_okq (⟨"BlockBench$OwnPlan", "findWithoutCycle", "()Z"⟩, 5) := ⟨⟨by decide +kernel, by decide +kernel⟩, List.mem_of_getElem? (i := 172) (by decide +kernel), List.mem_of_getElem? (i := 470) (by decide +kernel), List.mem_of_getElem? (i := 471) (by decide +kernel)⟩
theorem lw_p17 : lw_okq (⟨"BlockBench$OwnPlan", "findDelayNotKept", "()Z"⟩, 5) := ⟨⟨by decide +kernel, by decide +kernel⟩, List.mem_of_getElem? (i := 172) (by decide +kernel), List.mem_of_getElem? (i := 474) (by decide +kernel), List.mem_of_getElem? (i := 475) (by decide +kernel)⟩
theorem lw_p18 : lw_okq (⟨"BlockBench$OwnPlan", "findTooMany", "()Z"⟩, 5) := ⟨⟨by decide +kernel, by decide +kernel⟩, List.mem_of_getElem? (i := 172) (by decide +kernel), List.mem_of_getElem? (i := 479) (by decide +kernel), List.mem_of_getElem? (i := 480) (by decide +kernel)⟩
theorem lw_p19 : lw_okq (⟨"BlockBench$OwnPlan", "howManyIn", "(I)I"⟩, 5) := ⟨⟨by decide +kernel, by decide +kernel⟩, List.mem_of_getElem? (i := 172) (by decide +kernel), List.mem_of_getElem? (i := 483) (by decide +kernel), List.mem_of_getElem? (i := 484) (by decide +kernel)⟩
theorem lw_p20 : lw_okq (⟨"BlockBench$Machine", "startAnew", "()V"⟩, 7) := ⟨⟨by decide +kernel, by decide +kernel⟩, List.mem_of_getElem? (i := 198) (by decide +kernel), List.mem_of_getElem? (i := 519) (by decide +kernel), List.mem_of_getElem? (i := 520) (by decide +kernel)⟩
theorem lw_p21 : lw_okq (⟨"BlockBench$Machine", "begin", "(I)V"⟩, 7) := ⟨⟨by decide +kernel, by decide +kernel⟩, List.mem_of_getElem? (i := 198) (by decide +kernel), List.mem_of_getElem? (i := 526) (by decide +kernel), List.mem_of_getElem? (i := 527) (by decide +kernel)⟩
theorem lw_p22 : lw_okq (⟨"BlockBench$Machine", "come", "(I)V"⟩, 7) := ⟨⟨by decide +kernel, by decide +kernel⟩, List.mem_of_getElem? (i := 198) (by decide +kernel), List.mem_of_getElem? (i := 531) (by decide +kernel), List.mem_of_getElem? (i := 532) (by decide +kernel)⟩
theorem lw_p23 : lw_okq (⟨"BlockBench", "runByPlan", "([I)I"⟩, 14) := ⟨⟨by decide +kernel, by decide +kernel⟩, List.mem_of_getElem? (i := 14) (by decide +kernel), List.mem_of_getElem? (i := 535) (by decide +kernel), List.mem_of_getElem? (i := 536) (by decide +kernel)⟩
theorem lw_p24 : lw_okq (⟨"BlockBench$Machine", "nextMoment", "(I[I)I"⟩, 7) := ⟨⟨by decide +kernel, by decide +kernel⟩, List.mem_of_getElem? (i := 198) (by decide +kernel), List.mem_of_getElem? (i := 543) (by decide +kernel), List.mem_of_getElem? (i := 544) (by decide +kernel)⟩
theorem lw_p25 : lw_okq (⟨"BlockBench$Machine", "comeIn", "(I[I)V"⟩, 7) := ⟨⟨by decide +kernel, by decide +kernel⟩, List.mem_of_getElem? (i := 198) (by decide +kernel), List.mem_of_getElem? (i := 548) (by decide +kernel), List.mem_of_getElem? (i := 549) (by decide +kernel)⟩
theorem lw_p26 : lw_okq (⟨"BlockBench$Machine", "beginIn", "(I[I)V"⟩, 7) := ⟨⟨by decide +kernel, by decide +kernel⟩, List.mem_of_getElem? (i := 198) (by decide +kernel), List.mem_of_getElem? (i := 552) (by decide +kernel), List.mem_of_getElem? (i := 553) (by decide +kernel)⟩
theorem lw_p27 : lw_okq (⟨"BlockBenchModel", "isThere", "(I)Z"⟩, 28) := ⟨⟨by decide +kernel, by decide +kernel⟩, List.mem_of_getElem? (i := 564) (by decide +kernel), List.mem_of_getElem? (i := 678) (by decide +kernel), List.mem_of_getElem? (i := 679) (by decide +kernel)⟩
theorem lw_p28 : lw_okq (⟨"BlockBenchModel", "work", "()V"⟩, 28) := ⟨⟨by decide +kernel, by decide +kernel⟩, List.mem_of_getElem? (i := 564) (by decide +kernel), List.mem_of_getElem? (i := 682) (by decide +kernel), List.mem_of_getElem? (i := 683) (by decide +kernel)⟩
theorem lw_p29 : lw_okq (⟨"BlockBenchModel", "delayOf", "(II)I"⟩, 28) := ⟨⟨by decide +kernel, by decide +kernel⟩, List.mem_of_getElem? (i := 564) (by decide +kernel), List.mem_of_getElem? (i := 686) (by decide +kernel), List.mem_of_getElem? (i := 687) (by decide +kernel)⟩
theorem lw_p30 : lw_okq (⟨"BlockBenchModel", "memoryDelay", "(II)I"⟩, 28) := ⟨⟨by decide +kernel, by decide +kernel⟩, List.mem_of_getElem? (i := 564) (by decide +kernel), List.mem_of_getElem? (i := 690) (by decide +kernel), List.mem_of_getElem? (i := 691) (by decide +kernel)⟩
theorem lw_p31 : lw_okq (⟨"BlockBenchModel", "mayMeet", "(II)Z"⟩, 28) := ⟨⟨by decide +kernel, by decide +kernel⟩, List.mem_of_getElem? (i := 564) (by decide +kernel), List.mem_of_getElem? (i := 694) (by decide +kernel), List.mem_of_getElem? (i := 695) (by decide +kernel)⟩
def lw_privs_2 : List (MethodName × Nat) := [(⟨"BlockBench$OwnPlan", "findWithoutCycle", "()Z"⟩, 5), (⟨"BlockBench$OwnPlan", "findDelayNotKept", "()Z"⟩, 5), (⟨"BlockBench$OwnPlan", "findTooMany", "()Z"⟩, 5), (⟨"BlockBench$OwnPlan", "howManyIn", "(I)I"⟩, 5), (⟨"BlockBench$Machine", "startAnew", "()V"⟩, 7), (⟨"BlockBench$Machine", "begin", "(I)V"⟩, 7), (⟨"BlockBench$Machine", "come", "(I)V"⟩, 7), (⟨"BlockBench", "runByPlan", "([I)I"⟩, 14), (⟨"BlockBench$Machine", "nextMoment", "(I[I)I"⟩, 7), (⟨"BlockBench$Machine", "comeIn", "(I[I)V"⟩, 7), (⟨"BlockBench$Machine", "beginIn", "(I[I)V"⟩, 7), (⟨"BlockBenchModel", "isThere", "(I)Z"⟩, 28), (⟨"BlockBenchModel", "work", "()V"⟩, 28), (⟨"BlockBenchModel", "delayOf", "(II)I"⟩, 28), (⟨"BlockBenchModel", "memoryDelay", "(II)I"⟩, 28), (⟨"BlockBenchModel", "mayMeet", "(II)Z"⟩, 28)]
theorem lw_r2 : ∀ q ∈ lw_privs_2, lw_okq q := List.forall_mem_cons.mpr ⟨lw_p16, List.forall_mem_cons.mpr ⟨lw_p17, List.forall_mem_cons.mpr ⟨lw_p18, List.forall_mem_cons.mpr ⟨lw_p19, List.forall_mem_cons.mpr ⟨lw_p20, List.forall_mem_cons.mpr ⟨lw_p21, List.forall_mem_cons.mpr ⟨lw_p22, List.forall_mem_cons.mpr ⟨lw_p23, List.forall_mem_cons.mpr ⟨lw_p24, List.forall_mem_cons.mpr ⟨lw_p25, List.forall_mem_cons.mpr ⟨lw_p26, List.forall_mem_cons.mpr ⟨lw_p27, List.forall_mem_cons.mpr ⟨lw_p28, List.forall_mem_cons.mpr ⟨lw_p29, List.forall_mem_cons.mpr ⟨lw_p30, List.forall_mem_cons.mpr ⟨lw_p31, fun _ h => absurd h List.not_mem_nil⟩⟩⟩⟩⟩⟩⟩⟩⟩⟩⟩⟩⟩⟩⟩⟩
theorem lw_p32 : lw_okq (⟨"BlockBenchModel", "isWritten", "(III)Z"⟩, 28) := ⟨⟨by decide +kernel, by decide +kernel⟩, List.mem_of_getElem? (i := 564) (by decide +kernel), List.mem_of_getElem? (i := 698) (by decide +kernel), List.mem_of_getElem? (i := 699) (by decide +kernel)⟩
theorem lw_p33 : lw_okq (⟨"BlockBenchModel", "writes", "(II)Z"⟩, 28) := ⟨⟨by decide +kernel, by decide +kernel⟩, List.mem_of_getElem? (i := 564) (by decide +kernel), List.mem_of_getElem? (i := 702) (by decide +kernel), List.mem_of_getElem? (i := 703) (by decide +kernel)⟩
theorem lw_p34 : lw_okq (⟨"BlockBenchModel", "latencyOf", "(I)I"⟩, 28) := ⟨⟨by decide +kernel, by decide +kernel⟩, List.mem_of_getElem? (i := 564) (by decide +kernel), List.mem_of_getElem? (i := 706) (by decide +kernel), List.mem_of_getElem? (i := 707) (by decide +kernel)⟩
theorem lw_p35 : lw_okq (⟨"BlockBenchModel", "reads", "(II)Z"⟩, 28) := ⟨⟨by decide +kernel, by decide +kernel⟩, List.mem_of_getElem? (i := 564) (by decide +kernel), List.mem_of_getElem? (i := 710) (by decide +kernel), List.mem_of_getElem? (i := 711) (by decide +kernel)⟩
theorem lw_p36 : lw_okq (⟨"BlockBenchModel", "delayAt", "(II)I"⟩, 28) := ⟨⟨by decide +kernel, by decide +kernel⟩, List.mem_of_getElem? (i := 564) (by decide +kernel), List.mem_of_getElem? (i := 714) (by decide +kernel), List.mem_of_getElem? (i := 715) (by decide +kernel)⟩
theorem lw_p37 : lw_okq (⟨"BlockBenchModel", "makeList", "()V"⟩, 28) := ⟨⟨by decide +kernel, by decide +kernel⟩, List.mem_of_getElem? (i := 564) (by decide +kernel), List.mem_of_getElem? (i := 718) (by decide +kernel), List.mem_of_getElem? (i := 719) (by decide +kernel)⟩
theorem lw_p38 : lw_okq (⟨"BlockBenchModel", "mayBegin", "(II)Z"⟩, 28) := ⟨⟨by decide +kernel, by decide +kernel⟩, List.mem_of_getElem? (i := 564) (by decide +kernel), List.mem_of_getElem? (i := 722) (by decide +kernel), List.mem_of_getElem? (i := 723) (by decide +kernel)⟩
theorem lw_p39 : lw_okq (⟨"BlockBenchModel", "inOrder", "([I)V"⟩, 28) := ⟨⟨by decide +kernel, by decide +kernel⟩, List.mem_of_getElem? (i := 564) (by decide +kernel), List.mem_of_getElem? (i := 726) (by decide +kernel), List.mem_of_getElem? (i := 727) (by decide +kernel)⟩
theorem lw_p40 : lw_okq (⟨"BlockBenchModel", "leastCycle", "([III)I"⟩, 28) := ⟨⟨by decide +kernel, by decide +kernel⟩, List.mem_of_getElem? (i := 564) (by decide +kernel), List.mem_of_getElem? (i := 730) (by decide +kernel), List.mem_of_getElem? (i := 731) (by decide +kernel)⟩
theorem lw_p41 : lw_okq (⟨"BlockBenchModel", "inCycle", "([III)I"⟩, 28) := ⟨⟨by decide +kernel, by decide +kernel⟩, List.mem_of_getElem? (i := 564) (by decide +kernel), List.mem_of_getElem? (i := 734) (by decide +kernel), List.mem_of_getElem? (i := 735) (by decide +kernel)⟩
theorem lw_p42 : lw_okq (⟨"BlockBenchModel", "findShortest", "()I"⟩, 28) := ⟨⟨by decide +kernel, by decide +kernel⟩, List.mem_of_getElem? (i := 564) (by decide +kernel), List.mem_of_getElem? (i := 738) (by decide +kernel), List.mem_of_getElem? (i := 739) (by decide +kernel)⟩
theorem lw_p43 : lw_okq (⟨"BlockBenchModel", "isKept", "()Z"⟩, 28) := ⟨⟨by decide +kernel, by decide +kernel⟩, List.mem_of_getElem? (i := 564) (by decide +kernel), List.mem_of_getElem? (i := 742) (by decide +kernel), List.mem_of_getElem? (i := 743) (by decide +kernel)⟩
theorem lw_p44 : lw_okq (⟨"BlockBenchModel", "lengthOf", "([I)I"⟩, 28) := ⟨⟨by decide +kernel, by decide +kernel⟩, List.mem_of_getElem? (i := 564) (by decide +kernel), List.mem_of_getElem? (i := 746) (by decide +kernel), List.mem_of_getElem? (i := 747) (by decide +kernel)⟩
theorem lw_p45 : lw_okq (⟨"BlockBenchModel", "nextRow", "()Z"⟩, 28) := ⟨⟨by decide +kernel, by decide +kernel⟩, List.mem_of_getElem? (i := 564) (by decide +kernel), List.mem_of_getElem? (i := 750) (by decide +kernel), List.mem_of_getElem? (i := 751) (by decide +kernel)⟩
theorem lw_p46 : lw_okq (⟨"BlockBenchModel", "exchange", "(II)V"⟩, 28) := ⟨⟨by decide +kernel, by decide +kernel⟩, List.mem_of_getElem? (i := 564) (by decide +kernel), List.mem_of_getElem? (i := 754) (by decide +kernel), List.mem_of_getElem? (i := 755) (by decide +kernel)⟩
theorem lw_p47 : lw_okq (⟨"BlockBenchModel", "greatestWay", "()I"⟩, 28) := ⟨⟨by decide +kernel, by decide +kernel⟩, List.mem_of_getElem? (i := 564) (by decide +kernel), List.mem_of_getElem? (i := 762) (by decide +kernel), List.mem_of_getElem? (i := 763) (by decide +kernel)⟩
def lw_privs_3 : List (MethodName × Nat) := [(⟨"BlockBenchModel", "isWritten", "(III)Z"⟩, 28), (⟨"BlockBenchModel", "writes", "(II)Z"⟩, 28), (⟨"BlockBenchModel", "latencyOf", "(I)I"⟩, 28), (⟨"BlockBenchModel", "reads", "(II)Z"⟩, 28), (⟨"BlockBenchModel", "delayAt", "(II)I"⟩, 28), (⟨"BlockBenchModel", "makeList", "()V"⟩, 28), (⟨"BlockBenchModel", "mayBegin", "(II)Z"⟩, 28), (⟨"BlockBenchModel", "inOrder", "([I)V"⟩, 28), (⟨"BlockBenchModel", "leastCycle", "([III)I"⟩, 28), (⟨"BlockBenchModel", "inCycle", "([III)I"⟩, 28), (⟨"BlockBenchModel", "findShortest", "()I"⟩, 28), (⟨"BlockBenchModel", "isKept", "()Z"⟩, 28), (⟨"BlockBenchModel", "lengthOf", "([I)I"⟩, 28), (⟨"BlockBenchModel", "nextRow", "()Z"⟩, 28), (⟨"BlockBenchModel", "exchange", "(II)V"⟩, 28), (⟨"BlockBenchModel", "greatestWay", "()I"⟩, 28)]
theorem lw_r3 : ∀ q ∈ lw_privs_3, lw_okq q := List.forall_mem_cons.mpr ⟨lw_p32, List.forall_mem_cons.mpr ⟨lw_p33, List.forall_mem_cons.mpr ⟨lw_p34, List.forall_mem_cons.mpr ⟨lw_p35, List.forall_mem_cons.mpr ⟨lw_p36, List.forall_mem_cons.mpr ⟨lw_p37, List.forall_mem_cons.mpr ⟨lw_p38, List.forall_mem_cons.mpr ⟨lw_p39, List.forall_mem_cons.mpr ⟨lw_p40, List.forall_mem_cons.mpr ⟨lw_p41, List.forall_mem_cons.mpr ⟨lw_p42, List.forall_mem_cons.mpr ⟨lw_p43, List.forall_mem_cons.mpr ⟨lw_p44, List.forall_mem_cons.mpr ⟨lw_p45, List.forall_mem_cons.mpr ⟨lw_p46, List.forall_mem_cons.mpr ⟨lw_p47, fun _ h => absurd h List.not_mem_nil⟩⟩⟩⟩⟩⟩⟩⟩⟩⟩⟩⟩⟩⟩⟩⟩
theorem lw_p48 : lw_okq (⟨"BlockBenchModel", "look", "(Z)I"⟩, 28) := ⟨⟨by decide +kernel, by decide +kernel⟩, List.mem_of_getElem? (i := 564) (by decide +kernel), List.mem_of_getElem? (i := 774) (by decide +kernel), List.mem_of_getElem? (i := 775) (by decide +kernel)⟩
theorem lw_p49 : lw_okq (⟨"BlockBenchModel", "tell", "(ZII)V"⟩, 28) := ⟨⟨by decide +kernel, by decide +kernel⟩, List.mem_of_getElem? (i := 564) (by decide +kernel), List.mem_of_getElem? (i := 778) (by decide +kernel), List.mem_of_getElem? (i := 779) (by decide +kernel)⟩
theorem lw_p50 : lw_okq (⟨"BlockBenchModel", "dependences", "()I"⟩, 28) := ⟨⟨by decide +kernel, by decide +kernel⟩, List.mem_of_getElem? (i := 564) (by decide +kernel), List.mem_of_getElem? (i := 782) (by decide +kernel), List.mem_of_getElem? (i := 783) (by decide +kernel)⟩
theorem lw_p51 : lw_okq (⟨"BlockBenchModel", "begin", "(I)V"⟩, 28) := ⟨⟨by decide +kernel, by decide +kernel⟩, List.mem_of_getElem? (i := 564) (by decide +kernel), List.mem_of_getElem? (i := 806) (by decide +kernel), List.mem_of_getElem? (i := 807) (by decide +kernel)⟩
theorem lw_p52 : lw_okq (⟨"BlockBenchModel", "come", "(I)V"⟩, 28) := ⟨⟨by decide +kernel, by decide +kernel⟩, List.mem_of_getElem? (i := 564) (by decide +kernel), List.mem_of_getElem? (i := 810) (by decide +kernel), List.mem_of_getElem? (i := 811) (by decide +kernel)⟩
theorem lw_p53 : lw_okq (⟨"BlockBenchModel", "runBy", "([II)V"⟩, 28) := ⟨⟨by decide +kernel, by decide +kernel⟩, List.mem_of_getElem? (i := 564) (by decide +kernel), List.mem_of_getElem? (i := 814) (by decide +kernel), List.mem_of_getElem? (i := 815) (by decide +kernel)⟩
def lw_privs_4 : List (MethodName × Nat) := [(⟨"BlockBenchModel", "look", "(Z)I"⟩, 28), (⟨"BlockBenchModel", "tell", "(ZII)V"⟩, 28), (⟨"BlockBenchModel", "dependences", "()I"⟩, 28), (⟨"BlockBenchModel", "begin", "(I)V"⟩, 28), (⟨"BlockBenchModel", "come", "(I)V"⟩, 28), (⟨"BlockBenchModel", "runBy", "([II)V"⟩, 28)]
theorem lw_r4 : ∀ q ∈ lw_privs_4, lw_okq q := List.forall_mem_cons.mpr ⟨lw_p48, List.forall_mem_cons.mpr ⟨lw_p49, List.forall_mem_cons.mpr ⟨lw_p50, List.forall_mem_cons.mpr ⟨lw_p51, List.forall_mem_cons.mpr ⟨lw_p52, List.forall_mem_cons.mpr ⟨lw_p53, fun _ h => absurd h List.not_mem_nil⟩⟩⟩⟩⟩⟩
def lw_privs : List (MethodName × Nat) := lw_privs_1 ++ (lw_privs_2 ++ (lw_privs_3 ++ (lw_privs_4)))
def lw_tbl : List Cond := k2_sels lw_privs ++ tables_1
theorem lw_privs_ok : ∀ q ∈ lw_privs, lw_okq q := by
  show ∀ q ∈ lw_privs_1 ++ (lw_privs_2 ++ (lw_privs_3 ++ (lw_privs_4))), lw_okq q
  exact List.forall_mem_append.mpr ⟨lw_r1, List.forall_mem_append.mpr ⟨lw_r2, List.forall_mem_append.mpr ⟨lw_r3, lw_r4⟩⟩⟩
-- ===== end of PART A; then your names; then what follows =====
end
section
def RX0 : String := "BlockBench$Block"
def TX0 : u_T := fun k => match k with
  | 0 => ("BlockBench$Block", "kinds", "[I", true)
  | 1 => ("BlockBench$Block", "targets", "[I", true)
  | 2 => ("BlockBench$Block", "firsts", "[I", true)
  | 3 => ("BlockBench$Block", "seconds", "[I", true)
  | 4 => ("BlockBench$Block", "numbers", "[I", true)
  | 5 => ("BlockBench$Block", "latencies", "[I", true)
  | 6 => ("BlockBench$Block", "count", "I", false)
  | _ => ("BlockBench$Block", "units", "I", false)
def tyX0 : Nat → FieldType := fun k => match k with
  | 0 => .array .int
  | 1 => .array .int
  | 2 => .array .int
  | 3 => .array .int
  | 4 => .array .int
  | 5 => .array .int
  | 6 => .int
  | _ => .int
abbrev wsX00 : List Cond := u_ws RX0 TX0 8
theorem nmX0 : ∀ a, a < 8 → ∀ b, b < 8 → a ≠ b → (TX0 a).2.1 ≠ (TX0 b).2.1 := by decide +kernel
theorem tyX0_ok : ∀ k, k < 8 → parseFieldDescriptor (TX0 k).2.2.1 = some (tyX0 k) := by decide +kernel
abbrev cX0_init : ByteArray := prog_2_method_1_code
def yX0_init : MethodName := ⟨RX0, "<init>", "()V"⟩
abbrev cX0_holds : ByteArray := prog_2_method_2_code
def yX0_holds : MethodName := ⟨RX0, "holds", "(I)Z"⟩
abbrev cX0_append : ByteArray := prog_2_method_3_code
def yX0_append : MethodName := ⟨RX0, "append", "(IIIII)I"⟩
abbrev cX0_latencyOf : ByteArray := prog_2_method_4_code
def yX0_latencyOf : MethodName := ⟨RX0, "latencyOf", "(I)I"⟩
abbrev cX0_written : ByteArray := prog_2_method_5_code
def yX0_written : MethodName := ⟨RX0, "written", "(I)I"⟩
abbrev cX0_read : ByteArray := prog_2_method_6_code
def yX0_read : MethodName := ⟨RX0, "read", "(I)I"⟩
abbrev cX0_usesMemory : ByteArray := prog_2_method_7_code
def yX0_usesMemory : MethodName := ⟨RX0, "usesMemory", "(I)Z"⟩
abbrev cX0_lengthOf : ByteArray := prog_2_method_8_code
def yX0_lengthOf : MethodName := ⟨RX0, "lengthOf", "([I)I"⟩
def RX1 : String := "BlockBench$Dependences"
def TX1 : u_T := fun k => match k with
  | 0 => ("BlockBench$Dependences", "ways", "[I", true)
  | 1 => ("BlockBench$Dependences", "earlies", "[I", true)
  | 2 => ("BlockBench$Dependences", "pairs", "I", false)
  | 3 => ("BlockBench$Dependences", "longestWay", "I", false)
  | 4 => ("BlockBench$Dependences", "block", "LBlockBench$Block;", true)
  | _ => ("BlockBench$Dependences", "delays", "[I", true)
def tyX1 : Nat → FieldType := fun k => match k with
  | 0 => .array .int
  | 1 => .array .int
  | 2 => .int
  | 3 => .int
  | 4 => .object "BlockBench$Block"
  | _ => .array .int
abbrev wsX10 : List Cond := u_ws RX1 TX1 6
theorem nmX1 : ∀ a, a < 6 → ∀ b, b < 6 → a ≠ b → (TX1 a).2.1 ≠ (TX1 b).2.1 := by decide +kernel
theorem tyX1_ok : ∀ k, k < 6 → parseFieldDescriptor (TX1 k).2.2.1 = some (tyX1 k) := by decide +kernel
abbrev cX1_init : ByteArray := prog_3_method_1_code
def yX1_init : MethodName := ⟨RX1, "<init>", "(LBlockBench$Block;)V"⟩
abbrev cX1_find : ByteArray := prog_3_method_2_code
def yX1_find : MethodName := ⟨RX1, "find", "()V"⟩
abbrev cX1_between : ByteArray := prog_3_method_3_code
def yX1_between : MethodName := ⟨RX1, "between", "(II)I"⟩
abbrev cX1_leastCycle : ByteArray := prog_3_method_4_code
def yX1_leastCycle : MethodName := ⟨RX1, "leastCycle", "(I[I)I"⟩
abbrev cX1_rowOf : ByteArray := prog_3_method_5_code
def yX1_rowOf : MethodName := ⟨RX1, "rowOf", "(I)I"⟩
abbrev cX1_findDelaysOf : ByteArray := prog_3_method_6_code
def yX1_findDelaysOf : MethodName := ⟨RX1, "findDelaysOf", "(I)V"⟩
abbrev cX1_registerDelay : ByteArray := prog_3_method_7_code
def yX1_registerDelay : MethodName := ⟨RX1, "registerDelay", "(III)I"⟩
abbrev cX1_memoryDelay : ByteArray := prog_3_method_8_code
def yX1_memoryDelay : MethodName := ⟨RX1, "memoryDelay", "(III)I"⟩
abbrev cX1_areApart : ByteArray := prog_3_method_9_code
def yX1_areApart : MethodName := ⟨RX1, "areApart", "(III)Z"⟩
abbrev cX1_findWays : ByteArray := prog_3_method_10_code
def yX1_findWays : MethodName := ⟨RX1, "findWays", "()V"⟩
def RX2 : String := "BlockBench$ListPlan"
def TX2 : u_T := fun k => match k with
  | 0 => ("BlockBench$ListPlan", "cycles", "[I", true)
  | 1 => ("BlockBench$ListPlan", "order", "[I", true)
  | 2 => ("BlockBench$ListPlan", "block", "LBlockBench$Block;", true)
  | 3 => ("BlockBench$ListPlan", "dependences", "LBlockBench$Dependences;", true)
  | 4 => ("BlockBench$ListPlan", "waitsFor", "[I", true)
  | _ => ("BlockBench$ListPlan", "possibleFrom", "[I", true)
def tyX2 : Nat → FieldType := fun k => match k with
  | 0 => .array .int
  | 1 => .array .int
  | 2 => .object "BlockBench$Block"
  | 3 => .object "BlockBench$Dependences"
  | 4 => .array .int
  | _ => .array .int
abbrev wsX20 : List Cond := u_ws RX2 TX2 6
theorem nmX2 : ∀ a, a < 6 → ∀ b, b < 6 → a ≠ b → (TX2 a).2.1 ≠ (TX2 b).2.1 := by decide +kernel
theorem tyX2_ok : ∀ k, k < 6 → parseFieldDescriptor (TX2 k).2.2.1 = some (tyX2 k) := by decide +kernel
abbrev cX2_init : ByteArray := prog_4_method_1_code
def yX2_init : MethodName := ⟨RX2, "<init>", "(LBlockBench$Block;LBlockBench$Dependences;)V"⟩
abbrev cX2_make : ByteArray := prog_4_method_2_code
def yX2_make : MethodName := ⟨RX2, "make", "()V"⟩
abbrev cX2_forgetCycles : ByteArray := prog_4_method_3_code
def yX2_forgetCycles : MethodName := ⟨RX2, "forgetCycles", "()V"⟩
abbrev cX2_isFree : ByteArray := prog_4_method_4_code
def yX2_isFree : MethodName := ⟨RX2, "isFree", "(I)Z"⟩
abbrev cX2_bestFor : ByteArray := prog_4_method_5_code
def yX2_bestFor : MethodName := ⟨RX2, "bestFor", "(I)I"⟩
abbrev cX2_firstPossibleBehind : ByteArray := prog_4_method_6_code
def yX2_firstPossibleBehind : MethodName := ⟨RX2, "firstPossibleBehind", "(I)I"⟩
abbrev cX2_giveCycle : ByteArray := prog_4_method_7_code
def yX2_giveCycle : MethodName := ⟨RX2, "giveCycle", "(II)V"⟩
def RX3 : String := "BlockBench$Machine"
def TX3 : u_T := fun k => match k with
  | 0 => ("BlockBench$Machine", "block", "LBlockBench$Block;", true)
  | 1 => ("BlockBench$Machine", "toldRegisters", "[I", true)
  | 2 => ("BlockBench$Machine", "toldMemory", "[I", true)
  | 3 => ("BlockBench$Machine", "registers", "[I", true)
  | 4 => ("BlockBench$Machine", "memory", "[I", true)
  | 5 => ("BlockBench$Machine", "results", "[I", true)
  | _ => ("BlockBench$Machine", "addresses", "[I", true)
def tyX3 : Nat → FieldType := fun k => match k with
  | 0 => .object "BlockBench$Block"
  | 1 => .array .int
  | 2 => .array .int
  | 3 => .array .int
  | 4 => .array .int
  | 5 => .array .int
  | _ => .array .int
abbrev wsX30 : List Cond := u_ws RX3 TX3 7
theorem nmX3 : ∀ a, a < 7 → ∀ b, b < 7 → a ≠ b → (TX3 a).2.1 ≠ (TX3 b).2.1 := by decide +kernel
theorem tyX3_ok : ∀ k, k < 7 → parseFieldDescriptor (TX3 k).2.2.1 = some (tyX3 k) := by decide +kernel
abbrev cX3_init : ByteArray := prog_5_method_1_code
def yX3_init : MethodName := ⟨RX3, "<init>", "(LBlockBench$Block;)V"⟩
abbrev cX3_tell : ByteArray := prog_5_method_2_code
def yX3_tell : MethodName := ⟨RX3, "tell", "(III)I"⟩
abbrev cX3_look : ByteArray := prog_5_method_3_code
def yX3_look : MethodName := ⟨RX3, "look", "(II)I"⟩
abbrev cX3_runAsItStands : ByteArray := prog_5_method_4_code
def yX3_runAsItStands : MethodName := ⟨RX3, "runAsItStands", "()V"⟩
abbrev cX3_runByCycles : ByteArray := prog_5_method_5_code
def yX3_runByCycles : MethodName := ⟨RX3, "runByCycles", "([I)V"⟩
abbrev cX3_isPlace : ByteArray := prog_5_method_6_code
def yX3_isPlace : MethodName := ⟨RX3, "isPlace", "(II)Z"⟩
abbrev cX3_startAnew : ByteArray := prog_5_method_7_code
def yX3_startAnew : MethodName := ⟨RX3, "startAnew", "()V"⟩
abbrev cX3_nextMoment : ByteArray := prog_5_method_8_code
def yX3_nextMoment : MethodName := ⟨RX3, "nextMoment", "(I[I)I"⟩
abbrev cX3_comeIn : ByteArray := prog_5_method_9_code
def yX3_comeIn : MethodName := ⟨RX3, "comeIn", "(I[I)V"⟩
abbrev cX3_beginIn : ByteArray := prog_5_method_10_code
def yX3_beginIn : MethodName := ⟨RX3, "beginIn", "(I[I)V"⟩
abbrev cX3_begin : ByteArray := prog_5_method_11_code
def yX3_begin : MethodName := ⟨RX3, "begin", "(I)V"⟩
abbrev cX3_come : ByteArray := prog_5_method_12_code
def yX3_come : MethodName := ⟨RX3, "come", "(I)V"⟩
def RX4 : String := "BlockBench$OrderedPlan"
def TX4 : u_T := fun k => match k with
  | 0 => ("BlockBench$OrderedPlan", "cycles", "[I", true)
  | 1 => ("BlockBench$OrderedPlan", "block", "LBlockBench$Block;", true)
  | _ => ("BlockBench$OrderedPlan", "dependences", "LBlockBench$Dependences;", true)
def tyX4 : Nat → FieldType := fun k => match k with
  | 0 => .array .int
  | 1 => .object "BlockBench$Block"
  | _ => .object "BlockBench$Dependences"
abbrev wsX40 : List Cond := u_ws RX4 TX4 3
theorem nmX4 : ∀ a, a < 3 → ∀ b, b < 3 → a ≠ b → (TX4 a).2.1 ≠ (TX4 b).2.1 := by decide +kernel
theorem tyX4_ok : ∀ k, k < 3 → parseFieldDescriptor (TX4 k).2.2.1 = some (tyX4 k) := by decide +kernel
abbrev cX4_init : ByteArray := prog_6_method_1_code
def yX4_init : MethodName := ⟨RX4, "<init>", "(LBlockBench$Block;LBlockBench$Dependences;)V"⟩
abbrev cX4_make : ByteArray := prog_6_method_2_code
def yX4_make : MethodName := ⟨RX4, "make", "([I)V"⟩
def RX5 : String := "BlockBench$OwnPlan"
def TX5 : u_T := fun k => match k with
  | 0 => ("BlockBench$OwnPlan", "cycles", "[I", true)
  | 1 => ("BlockBench$OwnPlan", "first", "I", false)
  | 2 => ("BlockBench$OwnPlan", "second", "I", false)
  | 3 => ("BlockBench$OwnPlan", "block", "LBlockBench$Block;", true)
  | _ => ("BlockBench$OwnPlan", "dependences", "LBlockBench$Dependences;", true)
def tyX5 : Nat → FieldType := fun k => match k with
  | 0 => .array .int
  | 1 => .int
  | 2 => .int
  | 3 => .object "BlockBench$Block"
  | _ => .object "BlockBench$Dependences"
abbrev wsX50 : List Cond := u_ws RX5 TX5 5
theorem nmX5 : ∀ a, a < 5 → ∀ b, b < 5 → a ≠ b → (TX5 a).2.1 ≠ (TX5 b).2.1 := by decide +kernel
theorem tyX5_ok : ∀ k, k < 5 → parseFieldDescriptor (TX5 k).2.2.1 = some (tyX5 k) := by decide +kernel
abbrev cX5_init : ByteArray := prog_7_method_1_code
def yX5_init : MethodName := ⟨RX5, "<init>", "(LBlockBench$Block;LBlockBench$Dependences;)V"⟩
abbrev cX5_forgetFrom : ByteArray := prog_7_method_2_code
def yX5_forgetFrom : MethodName := ⟨RX5, "forgetFrom", "(I)V"⟩
abbrev cX5_inspect : ByteArray := prog_7_method_3_code
def yX5_inspect : MethodName := ⟨RX5, "inspect", "()I"⟩
abbrev cX5_findWithoutCycle : ByteArray := prog_7_method_4_code
def yX5_findWithoutCycle : MethodName := ⟨RX5, "findWithoutCycle", "()Z"⟩
abbrev cX5_findDelayNotKept : ByteArray := prog_7_method_5_code
def yX5_findDelayNotKept : MethodName := ⟨RX5, "findDelayNotKept", "()Z"⟩
abbrev cX5_findTooMany : ByteArray := prog_7_method_6_code
def yX5_findTooMany : MethodName := ⟨RX5, "findTooMany", "()Z"⟩
abbrev cX5_howManyIn : ByteArray := prog_7_method_7_code
def yX5_howManyIn : MethodName := ⟨RX5, "howManyIn", "(I)I"⟩
def RX6 : String := "BlockBench$ShortestSearch"
def TX6 : u_T := fun k => match k with
  | 0 => ("BlockBench$ShortestSearch", "block", "LBlockBench$Block;", true)
  | 1 => ("BlockBench$ShortestSearch", "dependences", "LBlockBench$Dependences;", true)
  | 2 => ("BlockBench$ShortestSearch", "cycles", "[I", true)
  | _ => ("BlockBench$ShortestSearch", "best", "I", false)
def tyX6 : Nat → FieldType := fun k => match k with
  | 0 => .object "BlockBench$Block"
  | 1 => .object "BlockBench$Dependences"
  | 2 => .array .int
  | _ => .int
abbrev wsX60 : List Cond := u_ws RX6 TX6 4
theorem nmX6 : ∀ a, a < 4 → ∀ b, b < 4 → a ≠ b → (TX6 a).2.1 ≠ (TX6 b).2.1 := by decide +kernel
theorem tyX6_ok : ∀ k, k < 4 → parseFieldDescriptor (TX6 k).2.2.1 = some (tyX6 k) := by decide +kernel
abbrev cX6_init : ByteArray := prog_8_method_1_code
def yX6_init : MethodName := ⟨RX6, "<init>", "(LBlockBench$Block;LBlockBench$Dependences;)V"⟩
abbrev cX6_leastLength : ByteArray := prog_8_method_2_code
def yX6_leastLength : MethodName := ⟨RX6, "leastLength", "(I)I"⟩
abbrev cX6_tryAll : ByteArray := prog_8_method_3_code
def yX6_tryAll : MethodName := ⟨RX6, "tryAll", "(III)V"⟩
abbrev cX6_isFree : ByteArray := prog_8_method_4_code
def yX6_isFree : MethodName := ⟨RX6, "isFree", "(I)Z"⟩
abbrev cX6_isHopeless : ByteArray := prog_8_method_5_code
def yX6_isHopeless : MethodName := ⟨RX6, "isHopeless", "(II)Z"⟩
abbrev cX6_howManyWithWay : ByteArray := prog_8_method_6_code
def yX6_howManyWithWay : MethodName := ⟨RX6, "howManyWithWay", "(I)I"⟩
def RX7 : String := "BlockBench"
def TX7 : u_T := fun k => match k with
  | 0 => ("BlockBench", "block", "LBlockBench$Block;", true)
  | 1 => ("BlockBench", "dependences", "LBlockBench$Dependences;", true)
  | 2 => ("BlockBench", "listPlan", "LBlockBench$ListPlan;", true)
  | 3 => ("BlockBench", "standingPlan", "LBlockBench$OrderedPlan;", true)
  | 4 => ("BlockBench", "relistedPlan", "LBlockBench$OrderedPlan;", true)
  | 5 => ("BlockBench", "search", "LBlockBench$ShortestSearch;", true)
  | 6 => ("BlockBench", "ownPlan", "LBlockBench$OwnPlan;", true)
  | 7 => ("BlockBench", "machine", "LBlockBench$Machine;", true)
  | 8 => ("BlockBench", "standingOrder", "[I", true)
  | 9 => ("BlockBench", "stale", "Z", false)
  | 10 => ("BlockBench", "shortestKnown", "Z", false)
  | 11 => ("BlockBench", "shortestLength", "I", false)
  | 12 => ("BlockBench", "toldFirst", "I", false)
  | _ => ("BlockBench", "toldSecond", "I", false)
def tyX7 : Nat → FieldType := fun k => match k with
  | 0 => .object "BlockBench$Block"
  | 1 => .object "BlockBench$Dependences"
  | 2 => .object "BlockBench$ListPlan"
  | 3 => .object "BlockBench$OrderedPlan"
  | 4 => .object "BlockBench$OrderedPlan"
  | 5 => .object "BlockBench$ShortestSearch"
  | 6 => .object "BlockBench$OwnPlan"
  | 7 => .object "BlockBench$Machine"
  | 8 => .array .int
  | 9 => .boolean
  | 10 => .boolean
  | 11 => .int
  | 12 => .int
  | _ => .int
abbrev wsX70 : List Cond := u_ws RX7 TX7 14
theorem nmX7 : ∀ a, a < 14 → ∀ b, b < 14 → a ≠ b → (TX7 a).2.1 ≠ (TX7 b).2.1 := by decide +kernel
theorem tyX7_ok : ∀ k, k < 14 → parseFieldDescriptor (TX7 k).2.2.1 = some (tyX7 k) := by decide +kernel
abbrev cX7_init : ByteArray := prog_1_method_1_code
def yX7_init : MethodName := ⟨RX7, "<init>", "()V"⟩
abbrev cX7_add : ByteArray := prog_1_method_2_code
def yX7_add : MethodName := ⟨RX7, "add", "(IIIII)I"⟩
abbrev cX7_cut : ByteArray := prog_1_method_3_code
def yX7_cut : MethodName := ⟨RX7, "cut", "(I)I"⟩
abbrev cX7_latency : ByteArray := prog_1_method_4_code
def yX7_latency : MethodName := ⟨RX7, "latency", "(II)I"⟩
abbrev cX7_units : ByteArray := prog_1_method_5_code
def yX7_units : MethodName := ⟨RX7, "units", "(I)I"⟩
abbrev cX7_delay : ByteArray := prog_1_method_6_code
def yX7_delay : MethodName := ⟨RX7, "delay", "(II)I"⟩
abbrev cX7_about : ByteArray := prog_1_method_7_code
def yX7_about : MethodName := ⟨RX7, "about", "(II)I"⟩
abbrev cX7_listed : ByteArray := prog_1_method_8_code
def yX7_listed : MethodName := ⟨RX7, "listed", "(I)I"⟩
abbrev cX7_length : ByteArray := prog_1_method_9_code
def yX7_length : MethodName := ⟨RX7, "length", "(I)I"⟩
abbrev cX7_place : ByteArray := prog_1_method_10_code
def yX7_place : MethodName := ⟨RX7, "place", "(II)I"⟩
abbrev cX7_check : ByteArray := prog_1_method_11_code
def yX7_check : MethodName := ⟨RX7, "check", "()I"⟩
abbrev cX7_wrong : ByteArray := prog_1_method_12_code
def yX7_wrong : MethodName := ⟨RX7, "wrong", "(I)I"⟩
abbrev cX7_given : ByteArray := prog_1_method_13_code
def yX7_given : MethodName := ⟨RX7, "given", "(III)I"⟩
abbrev cX7_run : ByteArray := prog_1_method_14_code
def yX7_run : MethodName := ⟨RX7, "run", "(I)I"⟩
abbrev cX7_value : ByteArray := prog_1_method_15_code
def yX7_value : MethodName := ⟨RX7, "value", "(II)I"⟩
abbrev cX7_runByPlan : ByteArray := prog_1_method_16_code
def yX7_runByPlan : MethodName := ⟨RX7, "runByPlan", "([I)I"⟩
abbrev cX7_shortest : ByteArray := prog_1_method_17_code
def yX7_shortest : MethodName := ⟨RX7, "shortest", "()I"⟩
abbrev cX7_refresh : ByteArray := prog_1_method_18_code
def yX7_refresh : MethodName := ⟨RX7, "refresh", "()V"⟩
abbrev cX7_isKind : ByteArray := prog_1_method_19_code
def yX7_isKind : MethodName := ⟨RX7, "isKind", "(I)Z"⟩
abbrev cX7_isRegister : ByteArray := prog_1_method_20_code
def yX7_isRegister : MethodName := ⟨RX7, "isRegister", "(I)Z"⟩
abbrev cX7_namesTarget : ByteArray := prog_1_method_21_code
def yX7_namesTarget : MethodName := ⟨RX7, "namesTarget", "(I)Z"⟩
abbrev cX7_namesFirst : ByteArray := prog_1_method_22_code
def yX7_namesFirst : MethodName := ⟨RX7, "namesFirst", "(I)Z"⟩
abbrev cX7_namesSecond : ByteArray := prog_1_method_23_code
def yX7_namesSecond : MethodName := ⟨RX7, "namesSecond", "(I)Z"⟩
abbrev cX7_namesRegistersOnly : ByteArray := prog_1_method_24_code
def yX7_namesRegistersOnly : MethodName := ⟨RX7, "namesRegistersOnly", "(IIII)Z"⟩
def RX8 : String := "BlockBenchModel"
def TX8 : u_T := fun k => match k with
  | 0 => ("BlockBenchModel", "kinds", "[I", true)
  | 1 => ("BlockBenchModel", "ds", "[I", true)
  | 2 => ("BlockBenchModel", "as", "[I", true)
  | 3 => ("BlockBenchModel", "bs", "[I", true)
  | 4 => ("BlockBenchModel", "cs", "[I", true)
  | 5 => ("BlockBenchModel", "many", "I", false)
  | 6 => ("BlockBenchModel", "latencies", "[I", true)
  | 7 => ("BlockBenchModel", "units", "I", false)
  | 8 => ("BlockBenchModel", "delays", "[I", true)
  | 9 => ("BlockBenchModel", "fresh", "Z", false)
  | 10 => ("BlockBenchModel", "ways", "[I", true)
  | 11 => ("BlockBenchModel", "early", "[I", true)
  | 12 => ("BlockBenchModel", "list", "[I", true)
  | 13 => ("BlockBenchModel", "order", "[I", true)
  | 14 => ("BlockBenchModel", "standing", "[I", true)
  | 15 => ("BlockBenchModel", "byList", "[I", true)
  | 16 => ("BlockBenchModel", "own", "[I", true)
  | 17 => ("BlockBenchModel", "shortest", "I", false)
  | 18 => ("BlockBenchModel", "row", "[I", true)
  | 19 => ("BlockBenchModel", "plan", "[I", true)
  | 20 => ("BlockBenchModel", "wrongOne", "I", false)
  | 21 => ("BlockBenchModel", "wrongTwo", "I", false)
  | 22 => ("BlockBenchModel", "firstRegisters", "[I", true)
  | 23 => ("BlockBenchModel", "firstMemory", "[I", true)
  | 24 => ("BlockBenchModel", "registers", "[I", true)
  | 25 => ("BlockBenchModel", "memory", "[I", true)
  | 26 => ("BlockBenchModel", "target", "[I", true)
  | _ => ("BlockBenchModel", "result", "[I", true)
def tyX8 : Nat → FieldType := fun k => match k with
  | 0 => .array .int
  | 1 => .array .int
  | 2 => .array .int
  | 3 => .array .int
  | 4 => .array .int
  | 5 => .int
  | 6 => .array .int
  | 7 => .int
  | 8 => .array .int
  | 9 => .boolean
  | 10 => .array .int
  | 11 => .array .int
  | 12 => .array .int
  | 13 => .array .int
  | 14 => .array .int
  | 15 => .array .int
  | 16 => .array .int
  | 17 => .int
  | 18 => .array .int
  | 19 => .array .int
  | 20 => .int
  | 21 => .int
  | 22 => .array .int
  | 23 => .array .int
  | 24 => .array .int
  | 25 => .array .int
  | 26 => .array .int
  | _ => .array .int
abbrev wsX80 : List Cond := u_ws RX8 TX8 28
theorem nmX8 : ∀ a, a < 28 → ∀ b, b < 28 → a ≠ b → (TX8 a).2.1 ≠ (TX8 b).2.1 := by decide +kernel
theorem tyX8_ok : ∀ k, k < 28 → parseFieldDescriptor (TX8 k).2.2.1 = some (tyX8 k) := by decide +kernel
abbrev cX8_init : ByteArray := prog_10_method_1_code
def yX8_init : MethodName := ⟨RX8, "<init>", "()V"⟩
abbrev cX8_reads : ByteArray := prog_10_method_2_code
def yX8_reads : MethodName := ⟨RX8, "reads", "(II)Z"⟩
abbrev cX8_writes : ByteArray := prog_10_method_3_code
def yX8_writes : MethodName := ⟨RX8, "writes", "(II)Z"⟩
abbrev cX8_isWritten : ByteArray := prog_10_method_4_code
def yX8_isWritten : MethodName := ⟨RX8, "isWritten", "(III)Z"⟩
abbrev cX8_latencyOf : ByteArray := prog_10_method_5_code
def yX8_latencyOf : MethodName := ⟨RX8, "latencyOf", "(I)I"⟩
abbrev cX8_mayMeet : ByteArray := prog_10_method_6_code
def yX8_mayMeet : MethodName := ⟨RX8, "mayMeet", "(II)Z"⟩
abbrev cX8_memoryDelay : ByteArray := prog_10_method_7_code
def yX8_memoryDelay : MethodName := ⟨RX8, "memoryDelay", "(II)I"⟩
abbrev cX8_delayOf : ByteArray := prog_10_method_8_code
def yX8_delayOf : MethodName := ⟨RX8, "delayOf", "(II)I"⟩
abbrev cX8_delayAt : ByteArray := prog_10_method_9_code
def yX8_delayAt : MethodName := ⟨RX8, "delayAt", "(II)I"⟩
abbrev cX8_work : ByteArray := prog_10_method_10_code
def yX8_work : MethodName := ⟨RX8, "work", "()V"⟩
abbrev cX8_mayBegin : ByteArray := prog_10_method_11_code
def yX8_mayBegin : MethodName := ⟨RX8, "mayBegin", "(II)Z"⟩
abbrev cX8_makeList : ByteArray := prog_10_method_12_code
def yX8_makeList : MethodName := ⟨RX8, "makeList", "()V"⟩
abbrev cX8_inCycle : ByteArray := prog_10_method_13_code
def yX8_inCycle : MethodName := ⟨RX8, "inCycle", "([III)I"⟩
abbrev cX8_leastCycle : ByteArray := prog_10_method_14_code
def yX8_leastCycle : MethodName := ⟨RX8, "leastCycle", "([III)I"⟩
abbrev cX8_inOrder : ByteArray := prog_10_method_15_code
def yX8_inOrder : MethodName := ⟨RX8, "inOrder", "([I)V"⟩
abbrev cX8_lengthOf : ByteArray := prog_10_method_16_code
def yX8_lengthOf : MethodName := ⟨RX8, "lengthOf", "([I)I"⟩
abbrev cX8_nextRow : ByteArray := prog_10_method_17_code
def yX8_nextRow : MethodName := ⟨RX8, "nextRow", "()Z"⟩
abbrev cX8_exchange : ByteArray := prog_10_method_18_code
def yX8_exchange : MethodName := ⟨RX8, "exchange", "(II)V"⟩
abbrev cX8_isKept : ByteArray := prog_10_method_19_code
def yX8_isKept : MethodName := ⟨RX8, "isKept", "()Z"⟩
abbrev cX8_findShortest : ByteArray := prog_10_method_20_code
def yX8_findShortest : MethodName := ⟨RX8, "findShortest", "()I"⟩
abbrev cX8_isRegister : ByteArray := prog_10_method_21_code
def yX8_isRegister : MethodName := ⟨RX8, "isRegister", "(I)Z"⟩
abbrev cX8_add : ByteArray := prog_10_method_22_code
def yX8_add : MethodName := ⟨RX8, "add", "(IIIII)I"⟩
abbrev cX8_cut : ByteArray := prog_10_method_23_code
def yX8_cut : MethodName := ⟨RX8, "cut", "(I)I"⟩
abbrev cX8_latency : ByteArray := prog_10_method_24_code
def yX8_latency : MethodName := ⟨RX8, "latency", "(II)I"⟩
abbrev cX8_units : ByteArray := prog_10_method_25_code
def yX8_units : MethodName := ⟨RX8, "units", "(I)I"⟩
abbrev cX8_isThere : ByteArray := prog_10_method_26_code
def yX8_isThere : MethodName := ⟨RX8, "isThere", "(I)Z"⟩
abbrev cX8_delay : ByteArray := prog_10_method_27_code
def yX8_delay : MethodName := ⟨RX8, "delay", "(II)I"⟩
abbrev cX8_greatestWay : ByteArray := prog_10_method_28_code
def yX8_greatestWay : MethodName := ⟨RX8, "greatestWay", "()I"⟩
abbrev cX8_about : ByteArray := prog_10_method_29_code
def yX8_about : MethodName := ⟨RX8, "about", "(II)I"⟩
abbrev cX8_listed : ByteArray := prog_10_method_30_code
def yX8_listed : MethodName := ⟨RX8, "listed", "(I)I"⟩
abbrev cX8_dependences : ByteArray := prog_10_method_31_code
def yX8_dependences : MethodName := ⟨RX8, "dependences", "()I"⟩
abbrev cX8_length : ByteArray := prog_10_method_32_code
def yX8_length : MethodName := ⟨RX8, "length", "(I)I"⟩
abbrev cX8_place : ByteArray := prog_10_method_33_code
def yX8_place : MethodName := ⟨RX8, "place", "(II)I"⟩
abbrev cX8_tell : ByteArray := prog_10_method_34_code
def yX8_tell : MethodName := ⟨RX8, "tell", "(ZII)V"⟩
abbrev cX8_look : ByteArray := prog_10_method_35_code
def yX8_look : MethodName := ⟨RX8, "look", "(Z)I"⟩
abbrev cX8_check : ByteArray := prog_10_method_36_code
def yX8_check : MethodName := ⟨RX8, "check", "()I"⟩
abbrev cX8_wrong : ByteArray := prog_10_method_37_code
def yX8_wrong : MethodName := ⟨RX8, "wrong", "(I)I"⟩
abbrev cX8_given : ByteArray := prog_10_method_38_code
def yX8_given : MethodName := ⟨RX8, "given", "(III)I"⟩
abbrev cX8_begin : ByteArray := prog_10_method_39_code
def yX8_begin : MethodName := ⟨RX8, "begin", "(I)V"⟩
abbrev cX8_come : ByteArray := prog_10_method_40_code
def yX8_come : MethodName := ⟨RX8, "come", "(I)V"⟩
abbrev cX8_runBy : ByteArray := prog_10_method_41_code
def yX8_runBy : MethodName := ⟨RX8, "runBy", "([II)V"⟩
abbrev cX8_run : ByteArray := prog_10_method_42_code
def yX8_run : MethodName := ⟨RX8, "run", "(I)I"⟩
abbrev cX8_value : ByteArray := prog_10_method_43_code
def yX8_value : MethodName := ⟨RX8, "value", "(II)I"⟩
def RJ9 : String := "java/lang/Math"
def TJ9 : u_T := fun k => match k with
  | _ => ("", "", "", false)
def tyJ9 : Nat → FieldType := fun k => match k with
  | _ => .int
abbrev wsJ90 : List Cond := u_ws RJ9 TJ9 0
theorem nmJ9 : ∀ a, a < 0 → ∀ b, b < 0 → a ≠ b → (TJ9 a).2.1 ≠ (TJ9 b).2.1 := by decide +kernel
theorem tyJ9_ok : ∀ k, k < 0 → parseFieldDescriptor (TJ9 k).2.2.1 = some (tyJ9 k) := by decide +kernel
abbrev cJ9_floorMod_7cf53 : ByteArray := prog_11_method_50_code
def yJ9_floorMod_7cf53 : MethodName := ⟨RJ9, "floorMod", "(II)I"⟩
abbrev cJ9_max_7cf53 : ByteArray := prog_11_method_65_code
def yJ9_max_7cf53 : MethodName := ⟨RJ9, "max", "(II)I"⟩
abbrev cJ9_min_7cf53 : ByteArray := prog_11_method_69_code
def yJ9_min_7cf53 : MethodName := ⟨RJ9, "min", "(II)I"⟩
def RJ10 : String := "java/lang/System"
def TJ10 : u_T := fun k => match k with
  | _ => ("", "", "", false)
def tyJ10 : Nat → FieldType := fun k => match k with
  | _ => .int
abbrev wsJ100 : List Cond := u_ws RJ10 TJ10 0
theorem nmJ10 : ∀ a, a < 0 → ∀ b, b < 0 → a ≠ b → (TJ10 a).2.1 ≠ (TJ10 b).2.1 := by decide +kernel
theorem tyJ10_ok : ∀ k, k < 0 → parseFieldDescriptor (TJ10 k).2.2.1 = some (tyJ10 k) := by decide +kernel
def RJ7 : String := "java/util/Arrays"
def TJ7 : u_T := fun k => match k with
  | _ => ("", "", "", false)
def tyJ7 : Nat → FieldType := fun k => match k with
  | _ => .int
abbrev wsJ70 : List Cond := u_ws RJ7 TJ7 0
theorem nmJ7 : ∀ a, a < 0 → ∀ b, b < 0 → a ≠ b → (TJ7 a).2.1 ≠ (TJ7 b).2.1 := by decide +kernel
theorem tyJ7_ok : ∀ k, k < 0 → parseFieldDescriptor (TJ7 k).2.2.1 = some (tyJ7 k) := by decide +kernel
abbrev cJ7_fill_53178 : ByteArray := prog_13_method_103_code
def yJ7_fill_53178 : MethodName := ⟨RJ7, "fill", "([II)V"⟩
def RL : String := "BlockBenchLaw"
abbrev cL_law : ByteArray := code
def yL_law : MethodName := ⟨RL, "law", "([I)Z"⟩
abbrev vwCl : List vw_C := [(RX0, TX0, 8), (RX1, TX1, 6), (RX2, TX2, 6), (RX3, TX3, 7), (RX4, TX4, 3), (RX5, TX5, 5), (RX6, TX6, 4), (RX7, TX7, 14), (RX8, TX8, 28)]
end
section
/-! A MACHINE OF OUR OWN: int values are integers (an Int32 is Int32.ofInt of one), references are numbers of cells; a cell's shape stands in a list, all ints of all cells stand in one function M. -/
abbrev zV : Type := Int ⊕ Option Nat
/-- .inl n: an int array of n places; .inr (c, fs): an object of class c; of a field: none an int, some r a reference -/
abbrev zC : Type := Nat ⊕ (Nat × List (Option (Option Nat)))
abbrev zM : Type := Nat → Nat → Int
abbrev zS : Type := Nat × List (Option zV) × List zV × List zC × zM
/-- an instruction, and what its operand names: three numbers -/
abbrev zR : Type := Instr × Nat × Nat × Nat
def zw (x : Int) : Int := (Int32.ofInt x).toInt
def zup (M : zM) (i k : Nat) (x : Int) : zM := fun a b => if a = i ∧ b = k then x else M a b
def zcopy (M : zM) (i j sp dp n : Nat) : zM := fun a b => if a = j ∧ dp ≤ b ∧ b < dp + n then M i (sp + (b - dp)) else M a b
def znew (M : zM) (i : Nat) : zM := fun a b => if a = i then 0 else M a b
def zand (x y : Int) : Int := (Int32.ofInt x &&& Int32.ofInt y).toInt
def zor (x y : Int) : Int := (Int32.ofInt x ||| Int32.ofInt y).toInt
def zxor (x y : Int) : Int := (Int32.ofInt x ^^^ Int32.ofInt y).toInt
def zshl (x y : Int) : Int := (Int32.ofInt x <<< (Int32.ofInt y &&& 31)).toInt
def zdiv (x y : Int) : Int := (Int32.ofInt x / Int32.ofInt y).toInt
def zrem (x y : Int) : Int := (Int32.ofInt x - Int32.ofInt x / Int32.ofInt y * Int32.ofInt y).toInt
def ztgt (pc : Nat) (off : Int) : Nat := ((pc : Int) + off).toNat
/-- the fields' shapes of a new object of class c -/
def zsof (zdef : Nat → List Bool) (c : Nat) : List (Option (Option Nat)) := (zdef c).map fun b => if b then some none else none
def zld (ls : List (Option zV)) (i : Nat) : Option Int := match ls[i]? with
  | some (some (.inl x)) => some x
  | _ => none
def zldr (ls : List (Option zV)) (i : Nat) : Option Nat := match ls[i]? with
  | some (some (.inr (some x))) => some x
  | _ => none
/-- one step of an instruction that neither calls nor returns -/
def zstep (zdef : Nat → List Bool) (r : zR) (s : zS) : Option zS := match s with
  | (pc, ls, st, S, M) => match r with
    | (ins, ra, rb, rt) => match ins with
      | .iconst n => some (pc + 1, ls, .inl n :: st, S, M)
      | .bipush n => some (pc + 2, ls, .inl n :: st, S, M)
      | .sipush n => some (pc + 3, ls, .inl n :: st, S, M)
      | .iload_n k => match zld ls k.val with
        | some x => some (pc + 1, ls, .inl x :: st, S, M)
        | none => none
      | .iload k => match zld ls k with
        | some x => some (pc + 2, ls, .inl x :: st, S, M)
        | none => none
      | .aload_n k => match zldr ls k.val with
        | some x => some (pc + 1, ls, .inr (some x) :: st, S, M)
        | none => none
      | .aload k => match zldr ls k with
        | some x => some (pc + 2, ls, .inr (some x) :: st, S, M)
        | none => none
      | .istore_n k => match st with
        | .inl x :: st' => if k.val < ls.length then some (pc + 1, ls.set k.val (some (.inl x)), st', S, M) else none
        | _ => none
      | .istore k => match st with
        | .inl x :: st' => if k < ls.length then some (pc + 2, ls.set k (some (.inl x)), st', S, M) else none
        | _ => none
      | .astore_n k => match st with
        | .inr (some x) :: st' => if k.val < ls.length then some (pc + 1, ls.set k.val (some (.inr (some x))), st', S, M) else none
        | _ => none
      | .astore k => match st with
        | .inr (some x) :: st' => if k < ls.length then some (pc + 2, ls.set k (some (.inr (some x))), st', S, M) else none
        | _ => none
      | .iinc k n => match zld ls k with
        | some x => some (pc + 3, ls.set k (some (.inl (x + n))), st, S, M)
        | none => none
      | .iadd => match st with
        | .inl y :: .inl x :: st' => some (pc + 1, ls, .inl (x + y) :: st', S, M)
        | _ => none
      | .isub => match st with
        | .inl y :: .inl x :: st' => some (pc + 1, ls, .inl (x - y) :: st', S, M)
        | _ => none
      | .imul => match st with
        | .inl y :: .inl x :: st' => some (pc + 1, ls, .inl (x * y) :: st', S, M)
        | _ => none
      | .iand => match st with
        | .inl y :: .inl x :: st' => some (pc + 1, ls, .inl (zand x y) :: st', S, M)
        | _ => none
      | .ior => match st with
        | .inl y :: .inl x :: st' => some (pc + 1, ls, .inl (zor x y) :: st', S, M)
        | _ => none
      | .ixor => match st with
        | .inl y :: .inl x :: st' => some (pc + 1, ls, .inl (zxor x y) :: st', S, M)
        | _ => none
      | .ishl => match st with
        | .inl y :: .inl x :: st' => some (pc + 1, ls, .inl (zshl x y) :: st', S, M)
        | _ => none
      | .idiv => match st with
        | .inl y :: .inl x :: st' => if zw y ≠ 0 then some (pc + 1, ls, .inl (zdiv x y) :: st', S, M) else none
        | _ => none
      | .irem => match st with
        | .inl y :: .inl x :: st' => if zw y ≠ 0 then some (pc + 1, ls, .inl (zrem x y) :: st', S, M) else none
        | _ => none
      | .dup => match st with
        | v :: st' => some (pc + 1, ls, v :: v :: st', S, M)
        | _ => none
      | .dup2 => match st with
        | v :: u :: st' => some (pc + 1, ls, v :: u :: v :: u :: st', S, M)
        | _ => none
      | .goto off => some (ztgt pc off, ls, st, S, M)
      | .ifCond cnd off => match st with
        | .inl x :: st' => match cnd with
          | .eq => some (if zw x = 0 then ztgt pc off else pc + 3, ls, st', S, M)
          | .ne => some (if zw x ≠ 0 then ztgt pc off else pc + 3, ls, st', S, M)
          | .lt => some (if zw x < 0 then ztgt pc off else pc + 3, ls, st', S, M)
          | .ge => some (if zw x ≥ 0 then ztgt pc off else pc + 3, ls, st', S, M)
          | .gt => some (if zw x > 0 then ztgt pc off else pc + 3, ls, st', S, M)
          | .le => some (if zw x ≤ 0 then ztgt pc off else pc + 3, ls, st', S, M)
        | _ => none
      | .if_icmp cnd off => match st with
        | .inl y :: .inl x :: st' => match cnd with
          | .eq => some (if zw x = zw y then ztgt pc off else pc + 3, ls, st', S, M)
          | .ne => some (if zw x ≠ zw y then ztgt pc off else pc + 3, ls, st', S, M)
          | .lt => some (if zw x < zw y then ztgt pc off else pc + 3, ls, st', S, M)
          | .ge => some (if zw x ≥ zw y then ztgt pc off else pc + 3, ls, st', S, M)
          | .gt => some (if zw x > zw y then ztgt pc off else pc + 3, ls, st', S, M)
          | .le => some (if zw x ≤ zw y then ztgt pc off else pc + 3, ls, st', S, M)
        | _ => none
      | .tableswitch dflt lo hi offs => match st with
        | .inl x :: st' => if zw x < lo ∨ hi < zw x then some (ztgt pc dflt, ls, st', S, M) else match offs.toList[(zw x - lo).toNat]? with
          | some off => some (ztgt pc off, ls, st', S, M)
          | none => none
        | _ => none
      | .lookupswitch dflt ps => match st with
        | .inl x :: st' => some (ztgt pc (Op.lookupswitch.offset ps.toList dflt (zw x)), ls, st', S, M)
        | _ => none
      | .getfield _ => match st with
        | .inr (some j) :: st' => match j, S[j]? with
          | _ + 1, some (.inr (c, fs)) => if c = ra then match fs[rb]? with
            | some none => some (pc + 3, ls, .inl (M j rb) :: st', S, M)
            | some (some r) => some (pc + 3, ls, .inr r :: st', S, M)
            | none => none else none
          | _, _ => none
        | _ => none
      | .putfield _ => match st with
        | .inl x :: .inr (some j) :: st' => match j, S[j]? with
          | _ + 1, some (.inr (c, fs)) => if c = ra ∧ rt < 2 ∧ (rt = 1 → x = 0 ∨ x = 1) then match fs[rb]? with
            | some none => some (pc + 3, ls, st', S, zup M j rb x)
            | _ => none else none
          | _, _ => none
        | .inr r :: .inr (some j) :: st' => match j, S[j]? with
          | _ + 1, some (.inr (c, fs)) => if c = ra ∧ rt = 2 then match fs[rb]? with
            | some (some _) => some (pc + 3, ls, st', S.set j (.inr (c, fs.set rb (some r))), M)
            | _ => none else none
          | _, _ => none
        | _ => none
      | .iaload => match st with
        | .inl i :: .inr (some j) :: st' => match S[j]? with
          | some (.inl n) => if 0 ≤ zw i ∧ zw i < n then some (pc + 1, ls, .inl (M j (zw i).toNat) :: st', S, M) else none
          | _ => none
        | _ => none
      | .iastore => match st with
        | .inl x :: .inl i :: .inr (some j) :: st' => match j, S[j]? with
          | _ + 1, some (.inl n) => if 0 ≤ zw i ∧ zw i < n then some (pc + 1, ls, st', S, zup M j (zw i).toNat x) else none
          | _, _ => none
        | _ => none
      | .arraylength => match st with
        | .inr (some j) :: st' => match S[j]? with
          | some (.inl n) => some (pc + 1, ls, .inl (n : Int) :: st', S, M)
          | _ => none
        | _ => none
      | .new _ => some (pc + 3, ls, .inr (some S.length) :: st, S ++ [.inr (ra, zsof zdef ra)], znew M S.length)
      | .newarray _ => match st with
        | .inl n :: st' => if 0 ≤ zw n ∧ zw n ≤ 65536 then some (pc + 2, ls, .inr (some S.length) :: st', S ++ [.inl (zw n).toNat], znew M S.length) else none
        | _ => none
      | .invokespecial _ => match st with
        | .inr (some _) :: st' => if st'.length ≤ 8 then some (pc + 3, ls, st', S, M) else none
        | _ => none
      | .invokestatic _ => match st with
        | .inl n :: .inl dp :: .inr (some j) :: .inl sp :: .inr (some i) :: st' => match i, j, S[i]?, S[j]? with
          | _ + 1, _ + 1, some (.inl n0), some (.inl n1) => if st'.length ≤ 8 ∧ 0 ≤ zw sp ∧ 0 ≤ zw dp ∧ 0 ≤ zw n ∧ zw sp + zw n ≤ n0 ∧ zw dp + zw n ≤ n1 then some (pc + 3, ls, st', S, zcopy M i j (zw sp).toNat (zw dp).toNat (zw n).toNat) else none
          | _, _, _, _ => none
        | _ => none
      | _ => none
/-- what an instruction is: 0 a step, 1 a call, 2 an end -/
def zkind (r : zR) : Nat := match r with
  | (.ireturn, _, _, _) => 2
  | (.return_, _, _, _) => 2
  | (.invokevirtual _, _, _, _) => 1
  | (.invokestatic _, _, _, t) => if t = 3 then 0 else 1
  | (.invokespecial _, _, _, t) => if t = 1 then 0 else 1
  | _ => 0
/-- a call: whom, with what, and what stays on the stack. (rt of invokevirtual: 4 and the receiver's class) -/
def zcall (r : zR) (s : zS) : Option (Nat × List zV × List zV) := match s with
  | (_, _, st, S, _) => match r with
    | (ins, ra, rb, rt) => match ins with
      | .invokestatic _ => if rb ≤ st.length ∧ st.length ≤ rb + 8 then some (ra, (st.take rb).reverse, st.drop rb) else none
      | .invokespecial _ => match st[rb]? with
        | some (.inr (some _)) => if st.length ≤ rb + 9 then some (ra, (st.take (rb + 1)).reverse, st.drop (rb + 1)) else none
        | _ => none
      | .invokevirtual _ => match st[rb]? with
        | some (.inr (some j)) => match j, S[j]? with
          | _ + 1, some (.inr (c, _)) => if c = rt / 4 ∧ st.length ≤ rb + 9 then some (ra, (st.take (rb + 1)).reverse, st.drop (rb + 1)) else none
          | _, _ => none
        | _ => none
      | _ => none
/-- an end: the answer -/
def zret (r : zR) (s : zS) : Option (Option zV) := match s with
  | (_, _, st, _, _) => match r with
    | (ins, _, _, rt) => match ins with
      | .return_ => match st with
        | [] => some none
        | _ => none
      | .ireturn => match st with
        | [.inl x] => if rt = 1 → x = 0 ∨ x = 1 then some (some (.inl x)) else none
        | _ => none
      | _ => none
def zGo (zdef : Nat → List Bool) (C : Nat → List zV → List zC → zM → Option zV → List zC → zM → Prop) (cd : List (Option zR)) : Nat → zS → Option zV → List zC → zM → Prop
  | 0, _, _, _, _ => False
  | n + 1, s, r, S', M' => ∃ w, cd[s.1]? = some (some w) ∧
      ((zkind w = 0 ∧ ∃ s', zstep zdef w s = some s' ∧ zGo zdef C cd n s' r S' M') ∨
       (zkind w = 1 ∧ ∃ k as rest v S1 M1, zcall w s = some (k, as, rest) ∧ C k as s.2.2.2.1 s.2.2.2.2 v S1 M1 ∧ zGo zdef C cd n (s.1 + 3, s.2.1, v.toList ++ rest, S1, M1) r S' M') ∨
       (zkind w = 2 ∧ zret w s = some r ∧ S' = s.2.2.2.1 ∧ M' = s.2.2.2.2))
/-- a method's first locals -/
def zent (n : Nat) (as : List zV) : List (Option zV) := as.map some ++ List.replicate (n - as.length) none
end
section
/-! PRINTED by wip/whole/gen.py: the methods' rows for our machine, and where their words stand in lw_tbl -/
abbrev zE : Type := MethodName × ByteArray × Nat × Option FieldType × Nat × Bool × Nat × List (Option zR)
def tX0_init : List (Option zR) := [some (.aload_n 0, 0, 0, 0), some (.invokespecial 3, 0, 0, 1), none, none, some (.aload_n 0, 0, 0, 0), some (.bipush 60, 0, 0, 0), none, some (.newarray .int, 0, 0, 0), none, some (.putfield 9, 0, 0, 2), none, none, some (.aload_n 0, 0, 0, 0), some (.bipush 60, 0, 0, 0), none, some (.newarray .int, 0, 0, 0), none, some (.putfield 15, 0, 1, 2), none, none, some (.aload_n 0, 0, 0, 0), some (.bipush 60, 0, 0, 0), none, some (.newarray .int, 0, 0, 0), none, some (.putfield 18, 0, 2, 2), none, none, some (.aload_n 0, 0, 0, 0), some (.bipush 60, 0, 0, 0), none, some (.newarray .int, 0, 0, 0), none, some (.putfield 21, 0, 3, 2), none, none, some (.aload_n 0, 0, 0, 0), some (.bipush 60, 0, 0, 0), none, some (.newarray .int, 0, 0, 0), none, some (.putfield 24, 0, 4, 2), none, none, some (.aload_n 0, 0, 0, 0), some (.bipush 7, 0, 0, 0), none, some (.newarray .int, 0, 0, 0), none, some (.putfield 27, 0, 5, 2), none, none, some (.aload_n 0, 0, 0, 0), some (.getfield 27, 0, 5, 2), none, none, some (.iconst 1, 0, 0, 0), some (.invokestatic 30, 122, 2, 0), none, none, some (.aload_n 0, 0, 0, 0), some (.iconst 1, 0, 0, 0), some (.putfield 36, 0, 7, 0), none, none, some (.return_, 0, 0, 0)]
abbrev kX0_init : Nat := 0
def eX0_init : zE := (yX0_init, cX0_init, 1, none, 0, false, 0, tX0_init)
def tX0_holds : List (Option zR) := [some (.iload_n 1, 0, 0, 0), some (.ifCond .lt 15, 0, 0, 0), none, none, some (.iload_n 1, 0, 0, 0), some (.aload_n 0, 0, 0, 0), some (.getfield 40, 0, 6, 0), none, none, some (.if_icmp .ge 7, 0, 0, 0), none, none, some (.iconst 1, 0, 0, 0), some (.goto 4, 0, 0, 0), none, none, some (.iconst 0, 0, 0, 0), some (.ireturn, 0, 0, 1)]
abbrev kX0_holds : Nat := 1
def eX0_holds : zE := (yX0_holds, cX0_holds, 2, some .boolean, 1, false, 0, tX0_holds)
def tX0_append : List (Option zR) := [some (.aload_n 0, 0, 0, 0), some (.getfield 40, 0, 6, 0), none, none, some (.istore 6, 0, 0, 0), none, some (.aload_n 0, 0, 0, 0), some (.getfield 9, 0, 0, 2), none, none, some (.iload 6, 0, 0, 0), none, some (.iload_n 1, 0, 0, 0), some (.iastore, 0, 0, 0), some (.aload_n 0, 0, 0, 0), some (.getfield 15, 0, 1, 2), none, none, some (.iload 6, 0, 0, 0), none, some (.iload_n 1, 0, 0, 0), some (.invokestatic 43, 72, 1, 2), none, none, some (.ifCond .eq 7, 0, 0, 0), none, none, some (.iload_n 2, 0, 0, 0), some (.goto 4, 0, 0, 0), none, none, some (.iconst 0, 0, 0, 0), some (.iastore, 0, 0, 0), some (.aload_n 0, 0, 0, 0), some (.getfield 18, 0, 2, 2), none, none, some (.iload 6, 0, 0, 0), none, some (.iload_n 1, 0, 0, 0), some (.invokestatic 47, 73, 1, 2), none, none, some (.ifCond .eq 7, 0, 0, 0), none, none, some (.iload_n 3, 0, 0, 0), some (.goto 4, 0, 0, 0), none, none, some (.iconst 0, 0, 0, 0), some (.iastore, 0, 0, 0), some (.aload_n 0, 0, 0, 0), some (.getfield 21, 0, 3, 2), none, none, some (.iload 6, 0, 0, 0), none, some (.iload_n 1, 0, 0, 0), some (.invokestatic 50, 74, 1, 2), none, none, some (.ifCond .eq 8, 0, 0, 0), none, none, some (.iload 4, 0, 0, 0), none, some (.goto 4, 0, 0, 0), none, none, some (.iconst 0, 0, 0, 0), some (.iastore, 0, 0, 0), some (.aload_n 0, 0, 0, 0), some (.getfield 24, 0, 4, 2), none, none, some (.iload 6, 0, 0, 0), none, some (.iload 5, 0, 0, 0), none, some (.iastore, 0, 0, 0), some (.aload_n 0, 0, 0, 0), some (.dup, 0, 0, 0), some (.getfield 40, 0, 6, 0), none, none, some (.iconst 1, 0, 0, 0), some (.iadd, 0, 0, 0), some (.putfield 40, 0, 6, 0), none, none, some (.iload 6, 0, 0, 0), none, some (.ireturn, 0, 0, 0)]
abbrev kX0_append : Nat := 2
def eX0_append : zE := (yX0_append, cX0_append, 7, some .int, 5, false, 0, tX0_append)
def tX0_latencyOf : List (Option zR) := [some (.aload_n 0, 0, 0, 0), some (.getfield 27, 0, 5, 2), none, none, some (.aload_n 0, 0, 0, 0), some (.getfield 9, 0, 0, 2), none, none, some (.iload_n 1, 0, 0, 0), some (.iaload, 0, 0, 0), some (.iaload, 0, 0, 0), some (.ireturn, 0, 0, 0)]
abbrev kX0_latencyOf : Nat := 3
def eX0_latencyOf : zE := (yX0_latencyOf, cX0_latencyOf, 2, some .int, 1, false, 0, tX0_latencyOf)
def tX0_written : List (Option zR) := [some (.aload_n 0, 0, 0, 0), some (.getfield 9, 0, 0, 2), none, none, some (.iload_n 1, 0, 0, 0), some (.iaload, 0, 0, 0), some (.invokestatic 43, 72, 1, 2), none, none, some (.ifCond .eq 14, 0, 0, 0), none, none, some (.iconst 1, 0, 0, 0), some (.aload_n 0, 0, 0, 0), some (.getfield 15, 0, 1, 2), none, none, some (.iload_n 1, 0, 0, 0), some (.iaload, 0, 0, 0), some (.ishl, 0, 0, 0), some (.goto 4, 0, 0, 0), none, none, some (.iconst 0, 0, 0, 0), some (.ireturn, 0, 0, 0)]
abbrev kX0_written : Nat := 4
def eX0_written : zE := (yX0_written, cX0_written, 2, some .int, 1, false, 0, tX0_written)
def tX0_read : List (Option zR) := [some (.iconst 0, 0, 0, 0), some (.istore_n 2, 0, 0, 0), some (.aload_n 0, 0, 0, 0), some (.getfield 9, 0, 0, 2), none, none, some (.iload_n 1, 0, 0, 0), some (.iaload, 0, 0, 0), some (.invokestatic 47, 73, 1, 2), none, none, some (.ifCond .eq 14, 0, 0, 0), none, none, some (.iload_n 2, 0, 0, 0), some (.iconst 1, 0, 0, 0), some (.aload_n 0, 0, 0, 0), some (.getfield 18, 0, 2, 2), none, none, some (.iload_n 1, 0, 0, 0), some (.iaload, 0, 0, 0), some (.ishl, 0, 0, 0), some (.ior, 0, 0, 0), some (.istore_n 2, 0, 0, 0), some (.aload_n 0, 0, 0, 0), some (.getfield 9, 0, 0, 2), none, none, some (.iload_n 1, 0, 0, 0), some (.iaload, 0, 0, 0), some (.invokestatic 50, 74, 1, 2), none, none, some (.ifCond .eq 14, 0, 0, 0), none, none, some (.iload_n 2, 0, 0, 0), some (.iconst 1, 0, 0, 0), some (.aload_n 0, 0, 0, 0), some (.getfield 21, 0, 3, 2), none, none, some (.iload_n 1, 0, 0, 0), some (.iaload, 0, 0, 0), some (.ishl, 0, 0, 0), some (.ior, 0, 0, 0), some (.istore_n 2, 0, 0, 0), some (.iload_n 2, 0, 0, 0), some (.ireturn, 0, 0, 0)]
abbrev kX0_read : Nat := 5
def eX0_read : zE := (yX0_read, cX0_read, 3, some .int, 1, false, 0, tX0_read)
def tX0_usesMemory : List (Option zR) := [some (.aload_n 0, 0, 0, 0), some (.getfield 9, 0, 0, 2), none, none, some (.iload_n 1, 0, 0, 0), some (.iaload, 0, 0, 0), some (.iconst 5, 0, 0, 0), some (.if_icmp .eq 14, 0, 0, 0), none, none, some (.aload_n 0, 0, 0, 0), some (.getfield 9, 0, 0, 2), none, none, some (.iload_n 1, 0, 0, 0), some (.iaload, 0, 0, 0), some (.bipush 6, 0, 0, 0), none, some (.if_icmp .ne 7, 0, 0, 0), none, none, some (.iconst 1, 0, 0, 0), some (.goto 4, 0, 0, 0), none, none, some (.iconst 0, 0, 0, 0), some (.ireturn, 0, 0, 1)]
abbrev kX0_usesMemory : Nat := 6
def eX0_usesMemory : zE := (yX0_usesMemory, cX0_usesMemory, 2, some .boolean, 1, false, 0, tX0_usesMemory)
def tX0_lengthOf : List (Option zR) := [some (.iconst 0, 0, 0, 0), some (.istore_n 2, 0, 0, 0), some (.iconst 0, 0, 0, 0), some (.istore_n 3, 0, 0, 0), some (.iload_n 3, 0, 0, 0), some (.aload_n 0, 0, 0, 0), some (.getfield 40, 0, 6, 0), none, none, some (.if_icmp .ge 23, 0, 0, 0), none, none, some (.iload_n 2, 0, 0, 0), some (.aload_n 1, 0, 0, 0), some (.iload_n 3, 0, 0, 0), some (.iaload, 0, 0, 0), some (.aload_n 0, 0, 0, 0), some (.iload_n 3, 0, 0, 0), some (.invokevirtual 53, 3, 1, 0), none, none, some (.iadd, 0, 0, 0), some (.invokestatic 57, 120, 2, 0), none, none, some (.istore_n 2, 0, 0, 0), some (.iinc 3 1, 0, 0, 0), none, none, some (.goto (-25), 0, 0, 0), none, none, some (.iload_n 2, 0, 0, 0), some (.ireturn, 0, 0, 0)]
abbrev kX0_lengthOf : Nat := 7
def eX0_lengthOf : zE := (yX0_lengthOf, cX0_lengthOf, 4, some .int, 1, false, 0, tX0_lengthOf)
def tX1_init : List (Option zR) := [some (.aload_n 0, 0, 0, 0), some (.invokespecial 3, 0, 0, 1), none, none, some (.aload_n 0, 0, 0, 0), some (.aload_n 1, 0, 0, 0), some (.putfield 9, 1, 4, 2), none, none, some (.aload_n 0, 0, 0, 0), some (.sipush 1770, 0, 0, 0), none, none, some (.newarray .int, 0, 0, 0), none, some (.putfield 15, 1, 5, 2), none, none, some (.aload_n 0, 0, 0, 0), some (.bipush 60, 0, 0, 0), none, some (.newarray .int, 0, 0, 0), none, some (.putfield 19, 1, 0, 2), none, none, some (.aload_n 0, 0, 0, 0), some (.bipush 60, 0, 0, 0), none, some (.newarray .int, 0, 0, 0), none, some (.putfield 22, 1, 1, 2), none, none, some (.return_, 0, 0, 0)]
abbrev kX1_init : Nat := 8
def eX1_init : zE := (yX1_init, cX1_init, 2, none, 1, false, 1, tX1_init)
def tX1_find : List (Option zR) := [some (.aload_n 0, 0, 0, 0), some (.iconst 0, 0, 0, 0), some (.putfield 25, 1, 2, 0), none, none, some (.iconst 0, 0, 0, 0), some (.istore_n 1, 0, 0, 0), some (.iload_n 1, 0, 0, 0), some (.aload_n 0, 0, 0, 0), some (.getfield 9, 1, 4, 2), none, none, some (.getfield 29, 0, 6, 0), none, none, some (.if_icmp .ge 29, 0, 0, 0), none, none, some (.aload_n 0, 0, 0, 0), some (.iload_n 1, 0, 0, 0), some (.invokevirtual 34, 13, 1, 4), none, none, some (.aload_n 0, 0, 0, 0), some (.getfield 22, 1, 1, 2), none, none, some (.iload_n 1, 0, 0, 0), some (.aload_n 0, 0, 0, 0), some (.iload_n 1, 0, 0, 0), some (.aload_n 0, 0, 0, 0), some (.getfield 22, 1, 1, 2), none, none, some (.invokevirtual 38, 11, 2, 4), none, none, some (.iastore, 0, 0, 0), some (.iinc 1 1, 0, 0, 0), none, none, some (.goto (-34), 0, 0, 0), none, none, some (.aload_n 0, 0, 0, 0), some (.invokevirtual 42, 17, 0, 4), none, none, some (.return_, 0, 0, 0)]
abbrev kX1_find : Nat := 9
def eX1_find : zE := (yX1_find, cX1_find, 2, none, 0, false, 1, tX1_find)
def tX1_between : List (Option zR) := [some (.iload_n 1, 0, 0, 0), some (.iload_n 2, 0, 0, 0), some (.if_icmp .ge 17, 0, 0, 0), none, none, some (.aload_n 0, 0, 0, 0), some (.getfield 15, 1, 5, 2), none, none, some (.iload_n 2, 0, 0, 0), some (.invokestatic 45, 12, 1, 0), none, none, some (.iload_n 1, 0, 0, 0), some (.iadd, 0, 0, 0), some (.iaload, 0, 0, 0), some (.goto 5, 0, 0, 0), none, none, some (.bipush (-3), 0, 0, 0), none, some (.ireturn, 0, 0, 0)]
abbrev kX1_between : Nat := 10
def eX1_between : zE := (yX1_between, cX1_between, 3, some .int, 2, false, 1, tX1_between)
def tX1_leastCycle : List (Option zR) := [some (.iconst 0, 0, 0, 0), some (.istore_n 3, 0, 0, 0), some (.iload_n 1, 0, 0, 0), some (.invokestatic 45, 12, 1, 0), none, none, some (.istore 4, 0, 0, 0), none, some (.iconst 0, 0, 0, 0), some (.istore 5, 0, 0, 0), none, some (.iload 5, 0, 0, 0), none, some (.iload_n 1, 0, 0, 0), some (.if_icmp .ge 47, 0, 0, 0), none, none, some (.aload_n 0, 0, 0, 0), some (.getfield 15, 1, 5, 2), none, none, some (.iload 4, 0, 0, 0), none, some (.iload 5, 0, 0, 0), none, some (.iadd, 0, 0, 0), some (.iaload, 0, 0, 0), some (.istore 6, 0, 0, 0), none, some (.iload 6, 0, 0, 0), none, some (.bipush (-3), 0, 0, 0), none, some (.if_icmp .eq 22, 0, 0, 0), none, none, some (.aload_n 2, 0, 0, 0), some (.iload 5, 0, 0, 0), none, some (.iaload, 0, 0, 0), some (.ifCond .lt 15, 0, 0, 0), none, none, some (.iload_n 3, 0, 0, 0), some (.aload_n 2, 0, 0, 0), some (.iload 5, 0, 0, 0), none, some (.iaload, 0, 0, 0), some (.iload 6, 0, 0, 0), none, some (.iadd, 0, 0, 0), some (.invokestatic 49, 120, 2, 0), none, none, some (.istore_n 3, 0, 0, 0), some (.iinc 5 1, 0, 0, 0), none, none, some (.goto (-47), 0, 0, 0), none, none, some (.iload_n 3, 0, 0, 0), some (.ireturn, 0, 0, 0)]
abbrev kX1_leastCycle : Nat := 11
def eX1_leastCycle : zE := (yX1_leastCycle, cX1_leastCycle, 7, some .int, 2, false, 1, tX1_leastCycle)
def tX1_rowOf : List (Option zR) := [some (.iload_n 0, 0, 0, 0), some (.iload_n 0, 0, 0, 0), some (.iconst 1, 0, 0, 0), some (.isub, 0, 0, 0), some (.imul, 0, 0, 0), some (.iconst 2, 0, 0, 0), some (.idiv, 0, 0, 0), some (.ireturn, 0, 0, 0)]
abbrev kX1_rowOf : Nat := 12
def eX1_rowOf : zE := (yX1_rowOf, cX1_rowOf, 1, some .int, 1, true, 1, tX1_rowOf)
def tX1_findDelaysOf : List (Option zR) := [some (.iload_n 1, 0, 0, 0), some (.invokestatic 45, 12, 1, 0), none, none, some (.istore_n 2, 0, 0, 0), some (.iconst 0, 0, 0, 0), some (.istore_n 3, 0, 0, 0), some (.iload_n 1, 0, 0, 0), some (.iconst 1, 0, 0, 0), some (.isub, 0, 0, 0), some (.istore 4, 0, 0, 0), none, some (.iload 4, 0, 0, 0), none, some (.ifCond .lt 72, 0, 0, 0), none, none, some (.aload_n 0, 0, 0, 0), some (.iload 4, 0, 0, 0), none, some (.iload_n 1, 0, 0, 0), some (.iload_n 3, 0, 0, 0), some (.iconst (-1), 0, 0, 0), some (.ixor, 0, 0, 0), some (.invokevirtual 55, 14, 3, 4), none, none, some (.aload_n 0, 0, 0, 0), some (.iload 4, 0, 0, 0), none, some (.iload_n 1, 0, 0, 0), some (.iload_n 3, 0, 0, 0), some (.invokevirtual 59, 15, 3, 4), none, none, some (.invokestatic 49, 120, 2, 0), none, none, some (.istore 5, 0, 0, 0), none, some (.aload_n 0, 0, 0, 0), some (.getfield 15, 1, 5, 2), none, none, some (.iload_n 2, 0, 0, 0), some (.iload 4, 0, 0, 0), none, some (.iadd, 0, 0, 0), some (.iload 5, 0, 0, 0), none, some (.iastore, 0, 0, 0), some (.iload 5, 0, 0, 0), none, some (.bipush (-3), 0, 0, 0), none, some (.if_icmp .eq 13, 0, 0, 0), none, none, some (.aload_n 0, 0, 0, 0), some (.dup, 0, 0, 0), some (.getfield 25, 1, 2, 0), none, none, some (.iconst 1, 0, 0, 0), some (.iadd, 0, 0, 0), some (.putfield 25, 1, 2, 0), none, none, some (.iload_n 3, 0, 0, 0), some (.aload_n 0, 0, 0, 0), some (.getfield 9, 1, 4, 2), none, none, some (.iload 4, 0, 0, 0), none, some (.invokevirtual 62, 4, 1, 0), none, none, some (.ior, 0, 0, 0), some (.istore_n 3, 0, 0, 0), some (.iinc 4 (-1), 0, 0, 0), none, none, some (.goto (-71), 0, 0, 0), none, none, some (.return_, 0, 0, 0)]
abbrev kX1_findDelaysOf : Nat := 13
def eX1_findDelaysOf : zE := (yX1_findDelaysOf, cX1_findDelaysOf, 6, none, 1, false, 1, tX1_findDelaysOf)
def tX1_registerDelay : List (Option zR) := [some (.bipush (-3), 0, 0, 0), none, some (.istore 4, 0, 0, 0), none, some (.aload_n 0, 0, 0, 0), some (.getfield 9, 1, 4, 2), none, none, some (.iload_n 2, 0, 0, 0), some (.invokevirtual 65, 5, 1, 0), none, none, some (.aload_n 0, 0, 0, 0), some (.getfield 9, 1, 4, 2), none, none, some (.iload_n 1, 0, 0, 0), some (.invokevirtual 62, 4, 1, 0), none, none, some (.iand, 0, 0, 0), some (.iload_n 3, 0, 0, 0), some (.iand, 0, 0, 0), some (.ifCond .eq 13, 0, 0, 0), none, none, some (.aload_n 0, 0, 0, 0), some (.getfield 9, 1, 4, 2), none, none, some (.iload_n 1, 0, 0, 0), some (.invokevirtual 68, 3, 1, 0), none, none, some (.istore 4, 0, 0, 0), none, some (.aload_n 0, 0, 0, 0), some (.getfield 9, 1, 4, 2), none, none, some (.iload_n 2, 0, 0, 0), some (.invokevirtual 62, 4, 1, 0), none, none, some (.aload_n 0, 0, 0, 0), some (.getfield 9, 1, 4, 2), none, none, some (.iload_n 1, 0, 0, 0), some (.invokevirtual 65, 5, 1, 0), none, none, some (.iand, 0, 0, 0), some (.iload_n 3, 0, 0, 0), some (.iand, 0, 0, 0), some (.ifCond .eq 11, 0, 0, 0), none, none, some (.iload 4, 0, 0, 0), none, some (.iconst 0, 0, 0, 0), some (.invokestatic 49, 120, 2, 0), none, none, some (.istore 4, 0, 0, 0), none, some (.aload_n 0, 0, 0, 0), some (.getfield 9, 1, 4, 2), none, none, some (.iload_n 2, 0, 0, 0), some (.invokevirtual 62, 4, 1, 0), none, none, some (.aload_n 0, 0, 0, 0), some (.getfield 9, 1, 4, 2), none, none, some (.iload_n 1, 0, 0, 0), some (.invokevirtual 62, 4, 1, 0), none, none, some (.iand, 0, 0, 0), some (.iload_n 3, 0, 0, 0), some (.iand, 0, 0, 0), some (.ifCond .eq 37, 0, 0, 0), none, none, some (.aload_n 0, 0, 0, 0), some (.getfield 9, 1, 4, 2), none, none, some (.iload_n 1, 0, 0, 0), some (.invokevirtual 68, 3, 1, 0), none, none, some (.aload_n 0, 0, 0, 0), some (.getfield 9, 1, 4, 2), none, none, some (.iload_n 2, 0, 0, 0), some (.invokevirtual 68, 3, 1, 0), none, none, some (.isub, 0, 0, 0), some (.iconst 1, 0, 0, 0), some (.iadd, 0, 0, 0), some (.istore 5, 0, 0, 0), none, some (.iload 4, 0, 0, 0), none, some (.iconst 1, 0, 0, 0), some (.iload 5, 0, 0, 0), none, some (.invokestatic 49, 120, 2, 0), none, none, some (.invokestatic 49, 120, 2, 0), none, none, some (.istore 4, 0, 0, 0), none, some (.iload 4, 0, 0, 0), none, some (.ireturn, 0, 0, 0)]
abbrev kX1_registerDelay : Nat := 14
def eX1_registerDelay : zE := (yX1_registerDelay, cX1_registerDelay, 6, some .int, 3, false, 1, tX1_registerDelay)
def tX1_memoryDelay : List (Option zR) := [some (.aload_n 0, 0, 0, 0), some (.getfield 9, 1, 4, 2), none, none, some (.iload_n 1, 0, 0, 0), some (.invokevirtual 71, 6, 1, 0), none, none, some (.ifCond .eq 14, 0, 0, 0), none, none, some (.aload_n 0, 0, 0, 0), some (.getfield 9, 1, 4, 2), none, none, some (.iload_n 2, 0, 0, 0), some (.invokevirtual 71, 6, 1, 0), none, none, some (.ifCond .ne 6, 0, 0, 0), none, none, some (.bipush (-3), 0, 0, 0), none, some (.ireturn, 0, 0, 0), some (.aload_n 0, 0, 0, 0), some (.getfield 9, 1, 4, 2), none, none, some (.getfield 75, 0, 0, 2), none, none, some (.iload_n 1, 0, 0, 0), some (.iaload, 0, 0, 0), some (.bipush 6, 0, 0, 0), none, some (.if_icmp .ne 7, 0, 0, 0), none, none, some (.iconst 1, 0, 0, 0), some (.goto 4, 0, 0, 0), none, none, some (.iconst 0, 0, 0, 0), some (.istore 4, 0, 0, 0), none, some (.aload_n 0, 0, 0, 0), some (.getfield 9, 1, 4, 2), none, none, some (.getfield 75, 0, 0, 2), none, none, some (.iload_n 2, 0, 0, 0), some (.iaload, 0, 0, 0), some (.bipush 6, 0, 0, 0), none, some (.if_icmp .ne 7, 0, 0, 0), none, none, some (.iconst 1, 0, 0, 0), some (.goto 4, 0, 0, 0), none, none, some (.iconst 0, 0, 0, 0), some (.istore 5, 0, 0, 0), none, some (.iload 4, 0, 0, 0), none, some (.ifCond .ne 11, 0, 0, 0), none, none, some (.iload 5, 0, 0, 0), none, some (.ifCond .ne 6, 0, 0, 0), none, none, some (.bipush (-3), 0, 0, 0), none, some (.ireturn, 0, 0, 0), some (.aload_n 0, 0, 0, 0), some (.iload_n 1, 0, 0, 0), some (.iload_n 2, 0, 0, 0), some (.iload_n 3, 0, 0, 0), some (.aload_n 0, 0, 0, 0), some (.getfield 9, 1, 4, 2), none, none, some (.iload_n 1, 0, 0, 0), some (.invokevirtual 62, 4, 1, 0), none, none, some (.ior, 0, 0, 0), some (.invokevirtual 78, 16, 3, 4), none, none, some (.ifCond .eq 6, 0, 0, 0), none, none, some (.bipush (-3), 0, 0, 0), none, some (.ireturn, 0, 0, 0), some (.iload 4, 0, 0, 0), none, some (.ifCond .eq 10, 0, 0, 0), none, none, some (.iload 5, 0, 0, 0), none, some (.ifCond .eq 5, 0, 0, 0), none, none, some (.iconst 1, 0, 0, 0), some (.ireturn, 0, 0, 0), some (.iload 4, 0, 0, 0), none, some (.ifCond .eq 14, 0, 0, 0), none, none, some (.aload_n 0, 0, 0, 0), some (.getfield 9, 1, 4, 2), none, none, some (.iload_n 1, 0, 0, 0), some (.invokevirtual 68, 3, 1, 0), none, none, some (.goto 4, 0, 0, 0), none, none, some (.iconst 0, 0, 0, 0), some (.ireturn, 0, 0, 0)]
abbrev kX1_memoryDelay : Nat := 15
def eX1_memoryDelay : zE := (yX1_memoryDelay, cX1_memoryDelay, 6, some .int, 3, false, 1, tX1_memoryDelay)
def tX1_areApart : List (Option zR) := [some (.aload_n 0, 0, 0, 0), some (.getfield 9, 1, 4, 2), none, none, some (.getfield 82, 0, 2, 2), none, none, some (.iload_n 1, 0, 0, 0), some (.iaload, 0, 0, 0), some (.istore 4, 0, 0, 0), none, some (.iload 4, 0, 0, 0), none, some (.aload_n 0, 0, 0, 0), some (.getfield 9, 1, 4, 2), none, none, some (.getfield 82, 0, 2, 2), none, none, some (.iload_n 2, 0, 0, 0), some (.iaload, 0, 0, 0), some (.if_icmp .ne 47, 0, 0, 0), none, none, some (.iload_n 3, 0, 0, 0), some (.iconst 1, 0, 0, 0), some (.iload 4, 0, 0, 0), none, some (.ishl, 0, 0, 0), some (.iand, 0, 0, 0), some (.ifCond .ne 38, 0, 0, 0), none, none, some (.aload_n 0, 0, 0, 0), some (.getfield 9, 1, 4, 2), none, none, some (.getfield 85, 0, 4, 2), none, none, some (.iload_n 1, 0, 0, 0), some (.iaload, 0, 0, 0), some (.bipush 64, 0, 0, 0), none, some (.invokestatic 88, 119, 2, 0), none, none, some (.aload_n 0, 0, 0, 0), some (.getfield 9, 1, 4, 2), none, none, some (.getfield 85, 0, 4, 2), none, none, some (.iload_n 2, 0, 0, 0), some (.iaload, 0, 0, 0), some (.bipush 64, 0, 0, 0), none, some (.invokestatic 88, 119, 2, 0), none, none, some (.if_icmp .eq 7, 0, 0, 0), none, none, some (.iconst 1, 0, 0, 0), some (.goto 4, 0, 0, 0), none, none, some (.iconst 0, 0, 0, 0), some (.ireturn, 0, 0, 1)]
abbrev kX1_areApart : Nat := 16
def eX1_areApart : zE := (yX1_areApart, cX1_areApart, 5, some .boolean, 3, false, 1, tX1_areApart)
def tX1_findWays : List (Option zR) := [some (.aload_n 0, 0, 0, 0), some (.iconst 0, 0, 0, 0), some (.putfield 91, 1, 3, 0), none, none, some (.aload_n 0, 0, 0, 0), some (.getfield 9, 1, 4, 2), none, none, some (.getfield 29, 0, 6, 0), none, none, some (.iconst 1, 0, 0, 0), some (.isub, 0, 0, 0), some (.istore_n 1, 0, 0, 0), some (.iload_n 1, 0, 0, 0), some (.ifCond .lt 87, 0, 0, 0), none, none, some (.aload_n 0, 0, 0, 0), some (.getfield 9, 1, 4, 2), none, none, some (.iload_n 1, 0, 0, 0), some (.invokevirtual 68, 3, 1, 0), none, none, some (.istore_n 2, 0, 0, 0), some (.iload_n 1, 0, 0, 0), some (.iconst 1, 0, 0, 0), some (.iadd, 0, 0, 0), some (.istore_n 3, 0, 0, 0), some (.iload_n 3, 0, 0, 0), some (.aload_n 0, 0, 0, 0), some (.getfield 9, 1, 4, 2), none, none, some (.getfield 29, 0, 6, 0), none, none, some (.if_icmp .ge 38, 0, 0, 0), none, none, some (.aload_n 0, 0, 0, 0), some (.iload_n 1, 0, 0, 0), some (.iload_n 3, 0, 0, 0), some (.invokevirtual 94, 10, 2, 4), none, none, some (.istore 4, 0, 0, 0), none, some (.iload 4, 0, 0, 0), none, some (.bipush (-3), 0, 0, 0), none, some (.if_icmp .eq 17, 0, 0, 0), none, none, some (.iload_n 2, 0, 0, 0), some (.iload 4, 0, 0, 0), none, some (.aload_n 0, 0, 0, 0), some (.getfield 19, 1, 0, 2), none, none, some (.iload_n 3, 0, 0, 0), some (.iaload, 0, 0, 0), some (.iadd, 0, 0, 0), some (.invokestatic 49, 120, 2, 0), none, none, some (.istore_n 2, 0, 0, 0), some (.iinc 3 1, 0, 0, 0), none, none, some (.goto (-43), 0, 0, 0), none, none, some (.aload_n 0, 0, 0, 0), some (.getfield 19, 1, 0, 2), none, none, some (.iload_n 1, 0, 0, 0), some (.iload_n 2, 0, 0, 0), some (.iastore, 0, 0, 0), some (.aload_n 0, 0, 0, 0), some (.aload_n 0, 0, 0, 0), some (.getfield 91, 1, 3, 0), none, none, some (.iload_n 2, 0, 0, 0), some (.invokestatic 49, 120, 2, 0), none, none, some (.putfield 91, 1, 3, 0), none, none, some (.iinc 1 (-1), 0, 0, 0), none, none, some (.goto (-85), 0, 0, 0), none, none, some (.return_, 0, 0, 0)]
abbrev kX1_findWays : Nat := 17
def eX1_findWays : zE := (yX1_findWays, cX1_findWays, 5, none, 0, false, 1, tX1_findWays)
def tX2_init : List (Option zR) := [some (.aload_n 0, 0, 0, 0), some (.invokespecial 3, 0, 0, 1), none, none, some (.aload_n 0, 0, 0, 0), some (.aload_n 1, 0, 0, 0), some (.putfield 9, 2, 2, 2), none, none, some (.aload_n 0, 0, 0, 0), some (.aload_n 2, 0, 0, 0), some (.putfield 15, 2, 3, 2), none, none, some (.aload_n 0, 0, 0, 0), some (.bipush 60, 0, 0, 0), none, some (.newarray .int, 0, 0, 0), none, some (.putfield 19, 2, 0, 2), none, none, some (.aload_n 0, 0, 0, 0), some (.bipush 60, 0, 0, 0), none, some (.newarray .int, 0, 0, 0), none, some (.putfield 23, 2, 1, 2), none, none, some (.aload_n 0, 0, 0, 0), some (.bipush 60, 0, 0, 0), none, some (.newarray .int, 0, 0, 0), none, some (.putfield 26, 2, 4, 2), none, none, some (.aload_n 0, 0, 0, 0), some (.bipush 60, 0, 0, 0), none, some (.newarray .int, 0, 0, 0), none, some (.putfield 29, 2, 5, 2), none, none, some (.return_, 0, 0, 0)]
abbrev kX2_init : Nat := 18
def eX2_init : zE := (yX2_init, cX2_init, 3, none, 2, false, 2, tX2_init)
def tX2_make : List (Option zR) := [some (.aload_n 0, 0, 0, 0), some (.invokevirtual 32, 20, 0, 8), none, none, some (.iconst 0, 0, 0, 0), some (.istore_n 1, 0, 0, 0), some (.iconst 0, 0, 0, 0), some (.istore_n 2, 0, 0, 0), some (.iconst 0, 0, 0, 0), some (.istore_n 3, 0, 0, 0), some (.iload_n 3, 0, 0, 0), some (.aload_n 0, 0, 0, 0), some (.getfield 9, 2, 2, 2), none, none, some (.getfield 35, 0, 6, 0), none, none, some (.if_icmp .ge 80, 0, 0, 0), none, none, some (.iload_n 2, 0, 0, 0), some (.aload_n 0, 0, 0, 0), some (.getfield 9, 2, 2, 2), none, none, some (.getfield 41, 0, 7, 0), none, none, some (.if_icmp .ge 11, 0, 0, 0), none, none, some (.aload_n 0, 0, 0, 0), some (.iload_n 1, 0, 0, 0), some (.invokevirtual 44, 22, 1, 8), none, none, some (.goto 5, 0, 0, 0), none, none, some (.bipush (-3), 0, 0, 0), none, some (.istore 4, 0, 0, 0), none, some (.iload 4, 0, 0, 0), none, some (.bipush (-3), 0, 0, 0), none, some (.if_icmp .ne 18, 0, 0, 0), none, none, some (.aload_n 0, 0, 0, 0), some (.iload_n 1, 0, 0, 0), some (.invokevirtual 48, 23, 1, 8), none, none, some (.istore_n 1, 0, 0, 0), some (.iconst 0, 0, 0, 0), some (.istore_n 2, 0, 0, 0), some (.aload_n 0, 0, 0, 0), some (.iload_n 1, 0, 0, 0), some (.invokevirtual 44, 22, 1, 8), none, none, some (.istore 4, 0, 0, 0), none, some (.iload 4, 0, 0, 0), none, some (.bipush (-3), 0, 0, 0), none, some (.if_icmp .ne 4, 0, 0, 0), none, none, some (.return_, 0, 0, 0), some (.aload_n 0, 0, 0, 0), some (.getfield 23, 2, 1, 2), none, none, some (.iload_n 3, 0, 0, 0), some (.iload 4, 0, 0, 0), none, some (.iastore, 0, 0, 0), some (.aload_n 0, 0, 0, 0), some (.iload 4, 0, 0, 0), none, some (.iload_n 1, 0, 0, 0), some (.invokevirtual 51, 24, 2, 8), none, none, some (.iinc 2 1, 0, 0, 0), none, none, some (.iinc 3 1, 0, 0, 0), none, none, some (.goto (-85), 0, 0, 0), none, none, some (.return_, 0, 0, 0)]
abbrev kX2_make : Nat := 19
def eX2_make : zE := (yX2_make, cX2_make, 5, none, 0, false, 2, tX2_make)
def tX2_forgetCycles : List (Option zR) := [some (.iconst 0, 0, 0, 0), some (.istore_n 1, 0, 0, 0), some (.iload_n 1, 0, 0, 0), some (.aload_n 0, 0, 0, 0), some (.getfield 9, 2, 2, 2), none, none, some (.getfield 35, 0, 6, 0), none, none, some (.if_icmp .ge 68, 0, 0, 0), none, none, some (.aload_n 0, 0, 0, 0), some (.getfield 19, 2, 0, 2), none, none, some (.iload_n 1, 0, 0, 0), some (.bipush (-3), 0, 0, 0), none, some (.iastore, 0, 0, 0), some (.aload_n 0, 0, 0, 0), some (.getfield 29, 2, 5, 2), none, none, some (.iload_n 1, 0, 0, 0), some (.iconst 0, 0, 0, 0), some (.iastore, 0, 0, 0), some (.aload_n 0, 0, 0, 0), some (.getfield 26, 2, 4, 2), none, none, some (.iload_n 1, 0, 0, 0), some (.iconst 0, 0, 0, 0), some (.iastore, 0, 0, 0), some (.iconst 0, 0, 0, 0), some (.istore_n 2, 0, 0, 0), some (.iload_n 2, 0, 0, 0), some (.iload_n 1, 0, 0, 0), some (.if_icmp .ge 33, 0, 0, 0), none, none, some (.aload_n 0, 0, 0, 0), some (.getfield 15, 2, 3, 2), none, none, some (.iload_n 2, 0, 0, 0), some (.iload_n 1, 0, 0, 0), some (.invokevirtual 55, 10, 2, 4), none, none, some (.bipush (-3), 0, 0, 0), none, some (.if_icmp .eq 13, 0, 0, 0), none, none, some (.aload_n 0, 0, 0, 0), some (.getfield 26, 2, 4, 2), none, none, some (.iload_n 1, 0, 0, 0), some (.dup2, 0, 0, 0), some (.iaload, 0, 0, 0), some (.iconst 1, 0, 0, 0), some (.iadd, 0, 0, 0), some (.iastore, 0, 0, 0), some (.iinc 2 1, 0, 0, 0), none, none, some (.goto (-32), 0, 0, 0), none, none, some (.iinc 1 1, 0, 0, 0), none, none, some (.goto (-73), 0, 0, 0), none, none, some (.return_, 0, 0, 0)]
abbrev kX2_forgetCycles : Nat := 20
def eX2_forgetCycles : zE := (yX2_forgetCycles, cX2_forgetCycles, 3, none, 0, false, 2, tX2_forgetCycles)
def tX2_isFree : List (Option zR) := [some (.aload_n 0, 0, 0, 0), some (.getfield 19, 2, 0, 2), none, none, some (.iload_n 1, 0, 0, 0), some (.iaload, 0, 0, 0), some (.bipush (-3), 0, 0, 0), none, some (.if_icmp .ne 16, 0, 0, 0), none, none, some (.aload_n 0, 0, 0, 0), some (.getfield 26, 2, 4, 2), none, none, some (.iload_n 1, 0, 0, 0), some (.iaload, 0, 0, 0), some (.ifCond .ne 7, 0, 0, 0), none, none, some (.iconst 1, 0, 0, 0), some (.goto 4, 0, 0, 0), none, none, some (.iconst 0, 0, 0, 0), some (.ireturn, 0, 0, 1)]
abbrev kX2_isFree : Nat := 21
def eX2_isFree : zE := (yX2_isFree, cX2_isFree, 2, some .boolean, 1, false, 2, tX2_isFree)
def tX2_bestFor : List (Option zR) := [some (.bipush (-3), 0, 0, 0), none, some (.istore_n 2, 0, 0, 0), some (.iconst 0, 0, 0, 0), some (.istore_n 3, 0, 0, 0), some (.iload_n 3, 0, 0, 0), some (.aload_n 0, 0, 0, 0), some (.getfield 9, 2, 2, 2), none, none, some (.getfield 35, 0, 6, 0), none, none, some (.if_icmp .ge 56, 0, 0, 0), none, none, some (.aload_n 0, 0, 0, 0), some (.iload_n 3, 0, 0, 0), some (.invokevirtual 61, 21, 1, 8), none, none, some (.ifCond .eq 42, 0, 0, 0), none, none, some (.aload_n 0, 0, 0, 0), some (.getfield 29, 2, 5, 2), none, none, some (.iload_n 3, 0, 0, 0), some (.iaload, 0, 0, 0), some (.iload_n 1, 0, 0, 0), some (.if_icmp .gt 32, 0, 0, 0), none, none, some (.iload_n 2, 0, 0, 0), some (.bipush (-3), 0, 0, 0), none, some (.if_icmp .eq 24, 0, 0, 0), none, none, some (.aload_n 0, 0, 0, 0), some (.getfield 15, 2, 3, 2), none, none, some (.getfield 65, 1, 0, 2), none, none, some (.iload_n 3, 0, 0, 0), some (.iaload, 0, 0, 0), some (.aload_n 0, 0, 0, 0), some (.getfield 15, 2, 3, 2), none, none, some (.getfield 65, 1, 0, 2), none, none, some (.iload_n 2, 0, 0, 0), some (.iaload, 0, 0, 0), some (.if_icmp .le 5, 0, 0, 0), none, none, some (.iload_n 3, 0, 0, 0), some (.istore_n 2, 0, 0, 0), some (.iinc 3 1, 0, 0, 0), none, none, some (.goto (-61), 0, 0, 0), none, none, some (.iload_n 2, 0, 0, 0), some (.ireturn, 0, 0, 0)]
abbrev kX2_bestFor : Nat := 22
def eX2_bestFor : zE := (yX2_bestFor, cX2_bestFor, 4, some .int, 1, false, 2, tX2_bestFor)
def tX2_firstPossibleBehind : List (Option zR) := [some (.bipush (-3), 0, 0, 0), none, some (.istore_n 2, 0, 0, 0), some (.iconst 0, 0, 0, 0), some (.istore_n 3, 0, 0, 0), some (.iload_n 3, 0, 0, 0), some (.aload_n 0, 0, 0, 0), some (.getfield 9, 2, 2, 2), none, none, some (.getfield 35, 0, 6, 0), none, none, some (.if_icmp .ge 40, 0, 0, 0), none, none, some (.aload_n 0, 0, 0, 0), some (.iload_n 3, 0, 0, 0), some (.invokevirtual 61, 21, 1, 8), none, none, some (.ifCond .eq 26, 0, 0, 0), none, none, some (.iload_n 2, 0, 0, 0), some (.bipush (-3), 0, 0, 0), none, some (.if_icmp .eq 13, 0, 0, 0), none, none, some (.aload_n 0, 0, 0, 0), some (.getfield 29, 2, 5, 2), none, none, some (.iload_n 3, 0, 0, 0), some (.iaload, 0, 0, 0), some (.iload_n 2, 0, 0, 0), some (.if_icmp .ge 10, 0, 0, 0), none, none, some (.aload_n 0, 0, 0, 0), some (.getfield 29, 2, 5, 2), none, none, some (.iload_n 3, 0, 0, 0), some (.iaload, 0, 0, 0), some (.istore_n 2, 0, 0, 0), some (.iinc 3 1, 0, 0, 0), none, none, some (.goto (-45), 0, 0, 0), none, none, some (.iload_n 2, 0, 0, 0), some (.iload_n 1, 0, 0, 0), some (.iconst 1, 0, 0, 0), some (.iadd, 0, 0, 0), some (.invokestatic 68, 120, 2, 0), none, none, some (.ireturn, 0, 0, 0)]
abbrev kX2_firstPossibleBehind : Nat := 23
def eX2_firstPossibleBehind : zE := (yX2_firstPossibleBehind, cX2_firstPossibleBehind, 4, some .int, 1, false, 2, tX2_firstPossibleBehind)
def tX2_giveCycle : List (Option zR) := [some (.aload_n 0, 0, 0, 0), some (.getfield 19, 2, 0, 2), none, none, some (.iload_n 1, 0, 0, 0), some (.iload_n 2, 0, 0, 0), some (.iastore, 0, 0, 0), some (.iload_n 1, 0, 0, 0), some (.iconst 1, 0, 0, 0), some (.iadd, 0, 0, 0), some (.istore_n 3, 0, 0, 0), some (.iload_n 3, 0, 0, 0), some (.aload_n 0, 0, 0, 0), some (.getfield 9, 2, 2, 2), none, none, some (.getfield 35, 0, 6, 0), none, none, some (.if_icmp .ge 56, 0, 0, 0), none, none, some (.aload_n 0, 0, 0, 0), some (.getfield 15, 2, 3, 2), none, none, some (.iload_n 1, 0, 0, 0), some (.iload_n 3, 0, 0, 0), some (.invokevirtual 55, 10, 2, 4), none, none, some (.istore 4, 0, 0, 0), none, some (.iload 4, 0, 0, 0), none, some (.bipush (-3), 0, 0, 0), none, some (.if_icmp .eq 32, 0, 0, 0), none, none, some (.aload_n 0, 0, 0, 0), some (.getfield 26, 2, 4, 2), none, none, some (.iload_n 3, 0, 0, 0), some (.dup2, 0, 0, 0), some (.iaload, 0, 0, 0), some (.iconst 1, 0, 0, 0), some (.isub, 0, 0, 0), some (.iastore, 0, 0, 0), some (.aload_n 0, 0, 0, 0), some (.getfield 29, 2, 5, 2), none, none, some (.iload_n 3, 0, 0, 0), some (.aload_n 0, 0, 0, 0), some (.getfield 29, 2, 5, 2), none, none, some (.iload_n 3, 0, 0, 0), some (.iaload, 0, 0, 0), some (.iload_n 2, 0, 0, 0), some (.iload 4, 0, 0, 0), none, some (.iadd, 0, 0, 0), some (.invokestatic 68, 120, 2, 0), none, none, some (.iastore, 0, 0, 0), some (.iinc 3 1, 0, 0, 0), none, none, some (.goto (-61), 0, 0, 0), none, none, some (.return_, 0, 0, 0)]
abbrev kX2_giveCycle : Nat := 24
def eX2_giveCycle : zE := (yX2_giveCycle, cX2_giveCycle, 5, none, 2, false, 2, tX2_giveCycle)
def tX3_init : List (Option zR) := [some (.aload_n 0, 0, 0, 0), some (.invokespecial 3, 0, 0, 1), none, none, some (.aload_n 0, 0, 0, 0), some (.aload_n 1, 0, 0, 0), some (.putfield 9, 3, 0, 2), none, none, some (.aload_n 0, 0, 0, 0), some (.bipush 16, 0, 0, 0), none, some (.newarray .int, 0, 0, 0), none, some (.putfield 15, 3, 1, 2), none, none, some (.aload_n 0, 0, 0, 0), some (.bipush 64, 0, 0, 0), none, some (.newarray .int, 0, 0, 0), none, some (.putfield 19, 3, 2, 2), none, none, some (.aload_n 0, 0, 0, 0), some (.bipush 16, 0, 0, 0), none, some (.newarray .int, 0, 0, 0), none, some (.putfield 22, 3, 3, 2), none, none, some (.aload_n 0, 0, 0, 0), some (.bipush 64, 0, 0, 0), none, some (.newarray .int, 0, 0, 0), none, some (.putfield 25, 3, 4, 2), none, none, some (.aload_n 0, 0, 0, 0), some (.bipush 60, 0, 0, 0), none, some (.newarray .int, 0, 0, 0), none, some (.putfield 28, 3, 5, 2), none, none, some (.aload_n 0, 0, 0, 0), some (.bipush 60, 0, 0, 0), none, some (.newarray .int, 0, 0, 0), none, some (.putfield 31, 3, 6, 2), none, none, some (.return_, 0, 0, 0)]
abbrev kX3_init : Nat := 25
def eX3_init : zE := (yX3_init, cX3_init, 2, none, 1, false, 3, tX3_init)
def tX3_tell : List (Option zR) := [some (.iload_n 1, 0, 0, 0), some (.iload_n 2, 0, 0, 0), some (.invokestatic 34, 30, 2, 0), none, none, some (.ifCond .ne 5, 0, 0, 0), none, none, some (.iconst 0, 0, 0, 0), some (.ireturn, 0, 0, 0), some (.iload_n 1, 0, 0, 0), some (.ifCond .ne 10, 0, 0, 0), none, none, some (.aload_n 0, 0, 0, 0), some (.getfield 15, 3, 1, 2), none, none, some (.goto 7, 0, 0, 0), none, none, some (.aload_n 0, 0, 0, 0), some (.getfield 19, 3, 2, 2), none, none, some (.astore 4, 0, 0, 0), none, some (.aload 4, 0, 0, 0), none, some (.iload_n 2, 0, 0, 0), some (.iaload, 0, 0, 0), some (.istore 5, 0, 0, 0), none, some (.aload 4, 0, 0, 0), none, some (.iload_n 2, 0, 0, 0), some (.iload_n 3, 0, 0, 0), some (.iastore, 0, 0, 0), some (.iload 5, 0, 0, 0), none, some (.ireturn, 0, 0, 0)]
abbrev kX3_tell : Nat := 26
def eX3_tell : zE := (yX3_tell, cX3_tell, 6, some .int, 3, false, 3, tX3_tell)
def tX3_look : List (Option zR) := [some (.iload_n 1, 0, 0, 0), some (.iload_n 2, 0, 0, 0), some (.invokestatic 34, 30, 2, 0), none, none, some (.ifCond .ne 5, 0, 0, 0), none, none, some (.iconst 0, 0, 0, 0), some (.ireturn, 0, 0, 0), some (.iload_n 1, 0, 0, 0), some (.ifCond .ne 12, 0, 0, 0), none, none, some (.aload_n 0, 0, 0, 0), some (.getfield 22, 3, 3, 2), none, none, some (.iload_n 2, 0, 0, 0), some (.iaload, 0, 0, 0), some (.goto 9, 0, 0, 0), none, none, some (.aload_n 0, 0, 0, 0), some (.getfield 25, 3, 4, 2), none, none, some (.iload_n 2, 0, 0, 0), some (.iaload, 0, 0, 0), some (.ireturn, 0, 0, 0)]
abbrev kX3_look : Nat := 27
def eX3_look : zE := (yX3_look, cX3_look, 3, some .int, 2, false, 3, tX3_look)
def tX3_runAsItStands : List (Option zR) := [some (.aload_n 0, 0, 0, 0), some (.invokevirtual 38, 31, 0, 12), none, none, some (.iconst 0, 0, 0, 0), some (.istore_n 1, 0, 0, 0), some (.iload_n 1, 0, 0, 0), some (.aload_n 0, 0, 0, 0), some (.getfield 9, 3, 0, 2), none, none, some (.getfield 41, 0, 6, 0), none, none, some (.if_icmp .ge 19, 0, 0, 0), none, none, some (.aload_n 0, 0, 0, 0), some (.iload_n 1, 0, 0, 0), some (.invokevirtual 47, 35, 1, 12), none, none, some (.aload_n 0, 0, 0, 0), some (.iload_n 1, 0, 0, 0), some (.invokevirtual 51, 36, 1, 12), none, none, some (.iinc 1 1, 0, 0, 0), none, none, some (.goto (-24), 0, 0, 0), none, none, some (.return_, 0, 0, 0)]
abbrev kX3_runAsItStands : Nat := 28
def eX3_runAsItStands : zE := (yX3_runAsItStands, cX3_runAsItStands, 2, none, 0, false, 3, tX3_runAsItStands)
def tX3_runByCycles : List (Option zR) := [some (.aload_n 0, 0, 0, 0), some (.invokevirtual 38, 31, 0, 12), none, none, some (.aload_n 0, 0, 0, 0), some (.bipush (-3), 0, 0, 0), none, some (.aload_n 1, 0, 0, 0), some (.invokevirtual 54, 32, 2, 12), none, none, some (.istore_n 2, 0, 0, 0), some (.iconst 0, 0, 0, 0), some (.istore_n 3, 0, 0, 0), some (.iload_n 3, 0, 0, 0), some (.iconst 2, 0, 0, 0), some (.aload_n 0, 0, 0, 0), some (.getfield 9, 3, 0, 2), none, none, some (.getfield 41, 0, 6, 0), none, none, some (.imul, 0, 0, 0), some (.if_icmp .ge 34, 0, 0, 0), none, none, some (.iload_n 2, 0, 0, 0), some (.bipush (-3), 0, 0, 0), none, some (.if_icmp .eq 28, 0, 0, 0), none, none, some (.aload_n 0, 0, 0, 0), some (.iload_n 2, 0, 0, 0), some (.aload_n 1, 0, 0, 0), some (.invokevirtual 58, 33, 2, 12), none, none, some (.aload_n 0, 0, 0, 0), some (.iload_n 2, 0, 0, 0), some (.aload_n 1, 0, 0, 0), some (.invokevirtual 62, 34, 2, 12), none, none, some (.aload_n 0, 0, 0, 0), some (.iload_n 2, 0, 0, 0), some (.aload_n 1, 0, 0, 0), some (.invokevirtual 54, 32, 2, 12), none, none, some (.istore_n 2, 0, 0, 0), some (.iinc 3 1, 0, 0, 0), none, none, some (.goto (-41), 0, 0, 0), none, none, some (.return_, 0, 0, 0)]
abbrev kX3_runByCycles : Nat := 29
def eX3_runByCycles : zE := (yX3_runByCycles, cX3_runByCycles, 4, none, 1, false, 3, tX3_runByCycles)
def tX3_isPlace : List (Option zR) := [some (.iload_n 0, 0, 0, 0), some (.ifCond .ne 8, 0, 0, 0), none, none, some (.iload_n 1, 0, 0, 0), some (.invokestatic 65, 71, 1, 2), none, none, some (.ireturn, 0, 0, 1), some (.iload_n 0, 0, 0, 0), some (.iconst 1, 0, 0, 0), some (.if_icmp .ne 17, 0, 0, 0), none, none, some (.iload_n 1, 0, 0, 0), some (.ifCond .lt 13, 0, 0, 0), none, none, some (.iload_n 1, 0, 0, 0), some (.bipush 64, 0, 0, 0), none, some (.if_icmp .ge 7, 0, 0, 0), none, none, some (.iconst 1, 0, 0, 0), some (.goto 4, 0, 0, 0), none, none, some (.iconst 0, 0, 0, 0), some (.ireturn, 0, 0, 1)]
abbrev kX3_isPlace : Nat := 30
def eX3_isPlace : zE := (yX3_isPlace, cX3_isPlace, 2, some .boolean, 2, true, 3, tX3_isPlace)
def tX3_startAnew : List (Option zR) := [some (.aload_n 0, 0, 0, 0), some (.getfield 15, 3, 1, 2), none, none, some (.iconst 0, 0, 0, 0), some (.aload_n 0, 0, 0, 0), some (.getfield 22, 3, 3, 2), none, none, some (.iconst 0, 0, 0, 0), some (.bipush 16, 0, 0, 0), none, some (.invokestatic 69, 0, 0, 3), none, none, some (.aload_n 0, 0, 0, 0), some (.getfield 19, 3, 2, 2), none, none, some (.iconst 0, 0, 0, 0), some (.aload_n 0, 0, 0, 0), some (.getfield 25, 3, 4, 2), none, none, some (.iconst 0, 0, 0, 0), some (.bipush 64, 0, 0, 0), none, some (.invokestatic 69, 0, 0, 3), none, none, some (.return_, 0, 0, 0)]
abbrev kX3_startAnew : Nat := 31
def eX3_startAnew : zE := (yX3_startAnew, cX3_startAnew, 1, none, 0, false, 3, tX3_startAnew)
def tX3_nextMoment : List (Option zR) := [some (.bipush (-3), 0, 0, 0), none, some (.istore_n 3, 0, 0, 0), some (.iconst 0, 0, 0, 0), some (.istore 4, 0, 0, 0), none, some (.iload 4, 0, 0, 0), none, some (.aload_n 0, 0, 0, 0), some (.getfield 9, 3, 0, 2), none, none, some (.getfield 41, 0, 6, 0), none, none, some (.if_icmp .ge 61, 0, 0, 0), none, none, some (.aload_n 2, 0, 0, 0), some (.iload 4, 0, 0, 0), none, some (.iaload, 0, 0, 0), some (.istore 5, 0, 0, 0), none, some (.iload 5, 0, 0, 0), none, some (.iload_n 1, 0, 0, 0), some (.if_icmp .le 8, 0, 0, 0), none, none, some (.iload 5, 0, 0, 0), none, some (.goto 15, 0, 0, 0), none, none, some (.iload 5, 0, 0, 0), none, some (.aload_n 0, 0, 0, 0), some (.getfield 9, 3, 0, 2), none, none, some (.iload 4, 0, 0, 0), none, some (.invokevirtual 75, 3, 1, 0), none, none, some (.iadd, 0, 0, 0), some (.istore 6, 0, 0, 0), none, some (.iload 6, 0, 0, 0), none, some (.iload_n 1, 0, 0, 0), some (.if_icmp .le 18, 0, 0, 0), none, none, some (.iload_n 3, 0, 0, 0), some (.bipush (-3), 0, 0, 0), none, some (.if_icmp .eq 9, 0, 0, 0), none, none, some (.iload 6, 0, 0, 0), none, some (.iload_n 3, 0, 0, 0), some (.if_icmp .ge 6, 0, 0, 0), none, none, some (.iload 6, 0, 0, 0), none, some (.istore_n 3, 0, 0, 0), some (.iinc 4 1, 0, 0, 0), none, none, some (.goto (-67), 0, 0, 0), none, none, some (.iload_n 3, 0, 0, 0), some (.ireturn, 0, 0, 0)]
abbrev kX3_nextMoment : Nat := 32
def eX3_nextMoment : zE := (yX3_nextMoment, cX3_nextMoment, 7, some .int, 2, false, 3, tX3_nextMoment)
def tX3_comeIn : List (Option zR) := [some (.iconst 0, 0, 0, 0), some (.istore_n 3, 0, 0, 0), some (.iload_n 3, 0, 0, 0), some (.aload_n 0, 0, 0, 0), some (.getfield 9, 3, 0, 2), none, none, some (.getfield 41, 0, 6, 0), none, none, some (.if_icmp .ge 30, 0, 0, 0), none, none, some (.aload_n 2, 0, 0, 0), some (.iload_n 3, 0, 0, 0), some (.iaload, 0, 0, 0), some (.aload_n 0, 0, 0, 0), some (.getfield 9, 3, 0, 2), none, none, some (.iload_n 3, 0, 0, 0), some (.invokevirtual 75, 3, 1, 0), none, none, some (.iadd, 0, 0, 0), some (.iload_n 1, 0, 0, 0), some (.if_icmp .ne 8, 0, 0, 0), none, none, some (.aload_n 0, 0, 0, 0), some (.iload_n 3, 0, 0, 0), some (.invokevirtual 51, 36, 1, 12), none, none, some (.iinc 3 1, 0, 0, 0), none, none, some (.goto (-35), 0, 0, 0), none, none, some (.return_, 0, 0, 0)]
abbrev kX3_comeIn : Nat := 33
def eX3_comeIn : zE := (yX3_comeIn, cX3_comeIn, 4, none, 2, false, 3, tX3_comeIn)
def tX3_beginIn : List (Option zR) := [some (.iconst 0, 0, 0, 0), some (.istore_n 3, 0, 0, 0), some (.iload_n 3, 0, 0, 0), some (.aload_n 0, 0, 0, 0), some (.getfield 9, 3, 0, 2), none, none, some (.getfield 41, 0, 6, 0), none, none, some (.if_icmp .ge 21, 0, 0, 0), none, none, some (.aload_n 2, 0, 0, 0), some (.iload_n 3, 0, 0, 0), some (.iaload, 0, 0, 0), some (.iload_n 1, 0, 0, 0), some (.if_icmp .ne 8, 0, 0, 0), none, none, some (.aload_n 0, 0, 0, 0), some (.iload_n 3, 0, 0, 0), some (.invokevirtual 47, 35, 1, 12), none, none, some (.iinc 3 1, 0, 0, 0), none, none, some (.goto (-26), 0, 0, 0), none, none, some (.return_, 0, 0, 0)]
abbrev kX3_beginIn : Nat := 34
def eX3_beginIn : zE := (yX3_beginIn, cX3_beginIn, 4, none, 2, false, 3, tX3_beginIn)
def tX3_begin : List (Option zR) := [some (.aload_n 0, 0, 0, 0), some (.getfield 22, 3, 3, 2), none, none, some (.aload_n 0, 0, 0, 0), some (.getfield 9, 3, 0, 2), none, none, some (.getfield 79, 0, 2, 2), none, none, some (.iload_n 1, 0, 0, 0), some (.iaload, 0, 0, 0), some (.iaload, 0, 0, 0), some (.istore_n 2, 0, 0, 0), some (.aload_n 0, 0, 0, 0), some (.getfield 22, 3, 3, 2), none, none, some (.aload_n 0, 0, 0, 0), some (.getfield 9, 3, 0, 2), none, none, some (.getfield 82, 0, 3, 2), none, none, some (.iload_n 1, 0, 0, 0), some (.iaload, 0, 0, 0), some (.iaload, 0, 0, 0), some (.istore_n 3, 0, 0, 0), some (.aload_n 0, 0, 0, 0), some (.getfield 9, 3, 0, 2), none, none, some (.getfield 85, 0, 4, 2), none, none, some (.iload_n 1, 0, 0, 0), some (.iaload, 0, 0, 0), some (.istore 4, 0, 0, 0), none, some (.aload_n 0, 0, 0, 0), some (.getfield 31, 3, 6, 2), none, none, some (.iload_n 1, 0, 0, 0), some (.iload_n 2, 0, 0, 0), some (.iload 4, 0, 0, 0), none, some (.iadd, 0, 0, 0), some (.bipush 64, 0, 0, 0), none, some (.invokestatic 88, 119, 2, 0), none, none, some (.iastore, 0, 0, 0), some (.aload_n 0, 0, 0, 0), some (.getfield 9, 3, 0, 2), none, none, some (.getfield 94, 0, 0, 2), none, none, some (.iload_n 1, 0, 0, 0), some (.iaload, 0, 0, 0), some (.tableswitch 125 0 5 #[39, 50, 62, 74, 86, 105], 0, 0, 0), none, none, none, none, none, none, none, none, none, none, none, none, none, none, none, none, none, none, none, none, none, none, none, none, none, none, none, none, none, none, none, none, none, none, none, none, none, none, some (.aload_n 0, 0, 0, 0), some (.getfield 28, 3, 5, 2), none, none, some (.iload_n 1, 0, 0, 0), some (.iload 4, 0, 0, 0), none, some (.iastore, 0, 0, 0), some (.goto 85, 0, 0, 0), none, none, some (.aload_n 0, 0, 0, 0), some (.getfield 28, 3, 5, 2), none, none, some (.iload_n 1, 0, 0, 0), some (.iload_n 2, 0, 0, 0), some (.iload_n 3, 0, 0, 0), some (.iadd, 0, 0, 0), some (.iastore, 0, 0, 0), some (.goto 73, 0, 0, 0), none, none, some (.aload_n 0, 0, 0, 0), some (.getfield 28, 3, 5, 2), none, none, some (.iload_n 1, 0, 0, 0), some (.iload_n 2, 0, 0, 0), some (.iload_n 3, 0, 0, 0), some (.isub, 0, 0, 0), some (.iastore, 0, 0, 0), some (.goto 61, 0, 0, 0), none, none, some (.aload_n 0, 0, 0, 0), some (.getfield 28, 3, 5, 2), none, none, some (.iload_n 1, 0, 0, 0), some (.iload_n 2, 0, 0, 0), some (.iload_n 3, 0, 0, 0), some (.imul, 0, 0, 0), some (.iastore, 0, 0, 0), some (.goto 49, 0, 0, 0), none, none, some (.aload_n 0, 0, 0, 0), some (.getfield 28, 3, 5, 2), none, none, some (.iload_n 1, 0, 0, 0), some (.iload_n 2, 0, 0, 0), some (.iload_n 3, 0, 0, 0), some (.if_icmp .ge 7, 0, 0, 0), none, none, some (.iconst 1, 0, 0, 0), some (.goto 4, 0, 0, 0), none, none, some (.iconst 0, 0, 0, 0), some (.iastore, 0, 0, 0), some (.goto 30, 0, 0, 0), none, none, some (.aload_n 0, 0, 0, 0), some (.getfield 28, 3, 5, 2), none, none, some (.iload_n 1, 0, 0, 0), some (.aload_n 0, 0, 0, 0), some (.getfield 25, 3, 4, 2), none, none, some (.aload_n 0, 0, 0, 0), some (.getfield 31, 3, 6, 2), none, none, some (.iload_n 1, 0, 0, 0), some (.iaload, 0, 0, 0), some (.iaload, 0, 0, 0), some (.iastore, 0, 0, 0), some (.goto 10, 0, 0, 0), none, none, some (.aload_n 0, 0, 0, 0), some (.getfield 28, 3, 5, 2), none, none, some (.iload_n 1, 0, 0, 0), some (.iload_n 3, 0, 0, 0), some (.iastore, 0, 0, 0), some (.return_, 0, 0, 0)]
abbrev kX3_begin : Nat := 35
def eX3_begin : zE := (yX3_begin, cX3_begin, 5, none, 1, false, 3, tX3_begin)
def tX3_come : List (Option zR) := [some (.aload_n 0, 0, 0, 0), some (.getfield 9, 3, 0, 2), none, none, some (.getfield 94, 0, 0, 2), none, none, some (.iload_n 1, 0, 0, 0), some (.iaload, 0, 0, 0), some (.bipush 6, 0, 0, 0), none, some (.if_icmp .ne 23, 0, 0, 0), none, none, some (.aload_n 0, 0, 0, 0), some (.getfield 25, 3, 4, 2), none, none, some (.aload_n 0, 0, 0, 0), some (.getfield 31, 3, 6, 2), none, none, some (.iload_n 1, 0, 0, 0), some (.iaload, 0, 0, 0), some (.aload_n 0, 0, 0, 0), some (.getfield 28, 3, 5, 2), none, none, some (.iload_n 1, 0, 0, 0), some (.iaload, 0, 0, 0), some (.iastore, 0, 0, 0), some (.goto 23, 0, 0, 0), none, none, some (.aload_n 0, 0, 0, 0), some (.getfield 22, 3, 3, 2), none, none, some (.aload_n 0, 0, 0, 0), some (.getfield 9, 3, 0, 2), none, none, some (.getfield 97, 0, 1, 2), none, none, some (.iload_n 1, 0, 0, 0), some (.iaload, 0, 0, 0), some (.aload_n 0, 0, 0, 0), some (.getfield 28, 3, 5, 2), none, none, some (.iload_n 1, 0, 0, 0), some (.iaload, 0, 0, 0), some (.iastore, 0, 0, 0), some (.return_, 0, 0, 0)]
abbrev kX3_come : Nat := 36
def eX3_come : zE := (yX3_come, cX3_come, 2, none, 1, false, 3, tX3_come)
def tX4_init : List (Option zR) := [some (.aload_n 0, 0, 0, 0), some (.invokespecial 3, 0, 0, 1), none, none, some (.aload_n 0, 0, 0, 0), some (.aload_n 1, 0, 0, 0), some (.putfield 9, 4, 1, 2), none, none, some (.aload_n 0, 0, 0, 0), some (.aload_n 2, 0, 0, 0), some (.putfield 15, 4, 2, 2), none, none, some (.aload_n 0, 0, 0, 0), some (.bipush 60, 0, 0, 0), none, some (.newarray .int, 0, 0, 0), none, some (.putfield 19, 4, 0, 2), none, none, some (.return_, 0, 0, 0)]
abbrev kX4_init : Nat := 37
def eX4_init : zE := (yX4_init, cX4_init, 3, none, 2, false, 4, tX4_init)
def tX4_make : List (Option zR) := [some (.iconst 0, 0, 0, 0), some (.istore_n 2, 0, 0, 0), some (.iconst 0, 0, 0, 0), some (.istore_n 3, 0, 0, 0), some (.iconst 0, 0, 0, 0), some (.istore 4, 0, 0, 0), none, some (.iload 4, 0, 0, 0), none, some (.aload_n 0, 0, 0, 0), some (.getfield 9, 4, 1, 2), none, none, some (.getfield 23, 0, 6, 0), none, none, some (.if_icmp .ge 73, 0, 0, 0), none, none, some (.aload_n 1, 0, 0, 0), some (.iload 4, 0, 0, 0), none, some (.iaload, 0, 0, 0), some (.istore 5, 0, 0, 0), none, some (.aload_n 0, 0, 0, 0), some (.getfield 15, 4, 2, 2), none, none, some (.iload 5, 0, 0, 0), none, some (.aload_n 0, 0, 0, 0), some (.getfield 19, 4, 0, 2), none, none, some (.invokevirtual 29, 11, 2, 4), none, none, some (.istore 6, 0, 0, 0), none, some (.iload_n 3, 0, 0, 0), some (.aload_n 0, 0, 0, 0), some (.getfield 9, 4, 1, 2), none, none, some (.getfield 35, 0, 7, 0), none, none, some (.if_icmp .ne 13, 0, 0, 0), none, none, some (.iload 6, 0, 0, 0), none, some (.iload_n 2, 0, 0, 0), some (.iconst 1, 0, 0, 0), some (.iadd, 0, 0, 0), some (.invokestatic 38, 120, 2, 0), none, none, some (.istore 6, 0, 0, 0), none, some (.iload 6, 0, 0, 0), none, some (.iload_n 2, 0, 0, 0), some (.if_icmp .le 8, 0, 0, 0), none, none, some (.iload 6, 0, 0, 0), none, some (.istore_n 2, 0, 0, 0), some (.iconst 0, 0, 0, 0), some (.istore_n 3, 0, 0, 0), some (.aload_n 0, 0, 0, 0), some (.getfield 19, 4, 0, 2), none, none, some (.iload 5, 0, 0, 0), none, some (.iload_n 2, 0, 0, 0), some (.iastore, 0, 0, 0), some (.iinc 3 1, 0, 0, 0), none, none, some (.iinc 4 1, 0, 0, 0), none, none, some (.goto (-79), 0, 0, 0), none, none, some (.return_, 0, 0, 0)]
abbrev kX4_make : Nat := 38
def eX4_make : zE := (yX4_make, cX4_make, 7, none, 1, false, 4, tX4_make)
def tX5_init : List (Option zR) := [some (.aload_n 0, 0, 0, 0), some (.invokespecial 3, 0, 0, 1), none, none, some (.aload_n 0, 0, 0, 0), some (.aload_n 1, 0, 0, 0), some (.putfield 9, 5, 3, 2), none, none, some (.aload_n 0, 0, 0, 0), some (.aload_n 2, 0, 0, 0), some (.putfield 15, 5, 4, 2), none, none, some (.aload_n 0, 0, 0, 0), some (.bipush 60, 0, 0, 0), none, some (.newarray .int, 0, 0, 0), none, some (.putfield 19, 5, 0, 2), none, none, some (.aload_n 0, 0, 0, 0), some (.getfield 19, 5, 0, 2), none, none, some (.bipush (-3), 0, 0, 0), none, some (.invokestatic 23, 122, 2, 0), none, none, some (.aload_n 0, 0, 0, 0), some (.bipush (-3), 0, 0, 0), none, some (.putfield 29, 5, 1, 0), none, none, some (.aload_n 0, 0, 0, 0), some (.bipush (-3), 0, 0, 0), none, some (.putfield 33, 5, 2, 0), none, none, some (.return_, 0, 0, 0)]
abbrev kX5_init : Nat := 39
def eX5_init : zE := (yX5_init, cX5_init, 3, none, 2, false, 5, tX5_init)
def tX5_forgetFrom : List (Option zR) := [some (.iload_n 1, 0, 0, 0), some (.istore_n 2, 0, 0, 0), some (.iload_n 2, 0, 0, 0), some (.bipush 60, 0, 0, 0), none, some (.if_icmp .ge 17, 0, 0, 0), none, none, some (.aload_n 0, 0, 0, 0), some (.getfield 19, 5, 0, 2), none, none, some (.iload_n 2, 0, 0, 0), some (.bipush (-3), 0, 0, 0), none, some (.iastore, 0, 0, 0), some (.iinc 2 1, 0, 0, 0), none, none, some (.goto (-17), 0, 0, 0), none, none, some (.return_, 0, 0, 0)]
abbrev kX5_forgetFrom : Nat := 40
def eX5_forgetFrom : zE := (yX5_forgetFrom, cX5_forgetFrom, 3, none, 1, false, 5, tX5_forgetFrom)
def tX5_inspect : List (Option zR) := [some (.aload_n 0, 0, 0, 0), some (.bipush (-3), 0, 0, 0), none, some (.putfield 29, 5, 1, 0), none, none, some (.aload_n 0, 0, 0, 0), some (.bipush (-3), 0, 0, 0), none, some (.putfield 33, 5, 2, 0), none, none, some (.aload_n 0, 0, 0, 0), some (.invokevirtual 36, 42, 0, 20), none, none, some (.ifCond .eq 5, 0, 0, 0), none, none, some (.iconst 1, 0, 0, 0), some (.ireturn, 0, 0, 0), some (.aload_n 0, 0, 0, 0), some (.invokevirtual 40, 43, 0, 20), none, none, some (.ifCond .eq 5, 0, 0, 0), none, none, some (.iconst 2, 0, 0, 0), some (.ireturn, 0, 0, 0), some (.aload_n 0, 0, 0, 0), some (.invokevirtual 43, 44, 0, 20), none, none, some (.ifCond .eq 7, 0, 0, 0), none, none, some (.iconst 3, 0, 0, 0), some (.goto 4, 0, 0, 0), none, none, some (.iconst 0, 0, 0, 0), some (.ireturn, 0, 0, 0)]
abbrev kX5_inspect : Nat := 41
def eX5_inspect : zE := (yX5_inspect, cX5_inspect, 1, some .int, 0, false, 5, tX5_inspect)
def tX5_findWithoutCycle : List (Option zR) := [some (.iconst 0, 0, 0, 0), some (.istore_n 1, 0, 0, 0), some (.iload_n 1, 0, 0, 0), some (.aload_n 0, 0, 0, 0), some (.getfield 9, 5, 3, 2), none, none, some (.getfield 46, 0, 6, 0), none, none, some (.if_icmp .ge 27, 0, 0, 0), none, none, some (.aload_n 0, 0, 0, 0), some (.getfield 19, 5, 0, 2), none, none, some (.iload_n 1, 0, 0, 0), some (.iaload, 0, 0, 0), some (.bipush (-3), 0, 0, 0), none, some (.if_icmp .ne 10, 0, 0, 0), none, none, some (.aload_n 0, 0, 0, 0), some (.iload_n 1, 0, 0, 0), some (.putfield 29, 5, 1, 0), none, none, some (.iconst 1, 0, 0, 0), some (.ireturn, 0, 0, 1), some (.iinc 1 1, 0, 0, 0), none, none, some (.goto (-32), 0, 0, 0), none, none, some (.iconst 0, 0, 0, 0), some (.ireturn, 0, 0, 1)]
abbrev kX5_findWithoutCycle : Nat := 42
def eX5_findWithoutCycle : zE := (yX5_findWithoutCycle, cX5_findWithoutCycle, 2, some .boolean, 0, false, 5, tX5_findWithoutCycle)
def tX5_findDelayNotKept : List (Option zR) := [some (.iconst 0, 0, 0, 0), some (.istore_n 1, 0, 0, 0), some (.iload_n 1, 0, 0, 0), some (.aload_n 0, 0, 0, 0), some (.getfield 9, 5, 3, 2), none, none, some (.getfield 46, 0, 6, 0), none, none, some (.if_icmp .ge 67, 0, 0, 0), none, none, some (.iconst 0, 0, 0, 0), some (.istore_n 2, 0, 0, 0), some (.iload_n 2, 0, 0, 0), some (.iload_n 1, 0, 0, 0), some (.if_icmp .ge 54, 0, 0, 0), none, none, some (.aload_n 0, 0, 0, 0), some (.getfield 15, 5, 4, 2), none, none, some (.iload_n 2, 0, 0, 0), some (.iload_n 1, 0, 0, 0), some (.invokevirtual 51, 10, 2, 4), none, none, some (.istore_n 3, 0, 0, 0), some (.iload_n 3, 0, 0, 0), some (.bipush (-3), 0, 0, 0), none, some (.if_icmp .eq 32, 0, 0, 0), none, none, some (.aload_n 0, 0, 0, 0), some (.getfield 19, 5, 0, 2), none, none, some (.iload_n 1, 0, 0, 0), some (.iaload, 0, 0, 0), some (.aload_n 0, 0, 0, 0), some (.getfield 19, 5, 0, 2), none, none, some (.iload_n 2, 0, 0, 0), some (.iaload, 0, 0, 0), some (.iload_n 3, 0, 0, 0), some (.iadd, 0, 0, 0), some (.if_icmp .ge 15, 0, 0, 0), none, none, some (.aload_n 0, 0, 0, 0), some (.iload_n 2, 0, 0, 0), some (.putfield 29, 5, 1, 0), none, none, some (.aload_n 0, 0, 0, 0), some (.iload_n 1, 0, 0, 0), some (.putfield 33, 5, 2, 0), none, none, some (.iconst 1, 0, 0, 0), some (.ireturn, 0, 0, 1), some (.iinc 2 1, 0, 0, 0), none, none, some (.goto (-53), 0, 0, 0), none, none, some (.iinc 1 1, 0, 0, 0), none, none, some (.goto (-72), 0, 0, 0), none, none, some (.iconst 0, 0, 0, 0), some (.ireturn, 0, 0, 1)]
abbrev kX5_findDelayNotKept : Nat := 43
def eX5_findDelayNotKept : zE := (yX5_findDelayNotKept, cX5_findDelayNotKept, 4, some .boolean, 0, false, 5, tX5_findDelayNotKept)
def tX5_findTooMany : List (Option zR) := [some (.iconst 0, 0, 0, 0), some (.istore_n 1, 0, 0, 0), some (.iload_n 1, 0, 0, 0), some (.aload_n 0, 0, 0, 0), some (.getfield 9, 5, 3, 2), none, none, some (.getfield 46, 0, 6, 0), none, none, some (.if_icmp .ge 71, 0, 0, 0), none, none, some (.aload_n 0, 0, 0, 0), some (.getfield 29, 5, 1, 0), none, none, some (.bipush (-3), 0, 0, 0), none, some (.if_icmp .eq 16, 0, 0, 0), none, none, some (.aload_n 0, 0, 0, 0), some (.getfield 19, 5, 0, 2), none, none, some (.iload_n 1, 0, 0, 0), some (.iaload, 0, 0, 0), some (.aload_n 0, 0, 0, 0), some (.getfield 29, 5, 1, 0), none, none, some (.if_icmp .ge 7, 0, 0, 0), none, none, some (.iconst 1, 0, 0, 0), some (.goto 4, 0, 0, 0), none, none, some (.iconst 0, 0, 0, 0), some (.istore_n 2, 0, 0, 0), some (.iload_n 2, 0, 0, 0), some (.ifCond .eq 33, 0, 0, 0), none, none, some (.aload_n 0, 0, 0, 0), some (.aload_n 0, 0, 0, 0), some (.getfield 19, 5, 0, 2), none, none, some (.iload_n 1, 0, 0, 0), some (.iaload, 0, 0, 0), some (.invokevirtual 57, 45, 1, 20), none, none, some (.aload_n 0, 0, 0, 0), some (.getfield 9, 5, 3, 2), none, none, some (.getfield 61, 0, 7, 0), none, none, some (.if_icmp .le 13, 0, 0, 0), none, none, some (.aload_n 0, 0, 0, 0), some (.aload_n 0, 0, 0, 0), some (.getfield 19, 5, 0, 2), none, none, some (.iload_n 1, 0, 0, 0), some (.iaload, 0, 0, 0), some (.putfield 29, 5, 1, 0), none, none, some (.iinc 1 1, 0, 0, 0), none, none, some (.goto (-76), 0, 0, 0), none, none, some (.aload_n 0, 0, 0, 0), some (.getfield 29, 5, 1, 0), none, none, some (.bipush (-3), 0, 0, 0), none, some (.if_icmp .eq 7, 0, 0, 0), none, none, some (.iconst 1, 0, 0, 0), some (.goto 4, 0, 0, 0), none, none, some (.iconst 0, 0, 0, 0), some (.ireturn, 0, 0, 1)]
abbrev kX5_findTooMany : Nat := 44
def eX5_findTooMany : zE := (yX5_findTooMany, cX5_findTooMany, 3, some .boolean, 0, false, 5, tX5_findTooMany)
def tX5_howManyIn : List (Option zR) := [some (.iconst 0, 0, 0, 0), some (.istore_n 2, 0, 0, 0), some (.iconst 0, 0, 0, 0), some (.istore_n 3, 0, 0, 0), some (.iload_n 3, 0, 0, 0), some (.aload_n 0, 0, 0, 0), some (.getfield 9, 5, 3, 2), none, none, some (.getfield 46, 0, 6, 0), none, none, some (.if_icmp .ge 22, 0, 0, 0), none, none, some (.aload_n 0, 0, 0, 0), some (.getfield 19, 5, 0, 2), none, none, some (.iload_n 3, 0, 0, 0), some (.iaload, 0, 0, 0), some (.iload_n 1, 0, 0, 0), some (.if_icmp .ne 6, 0, 0, 0), none, none, some (.iinc 2 1, 0, 0, 0), none, none, some (.iinc 3 1, 0, 0, 0), none, none, some (.goto (-27), 0, 0, 0), none, none, some (.iload_n 2, 0, 0, 0), some (.ireturn, 0, 0, 0)]
abbrev kX5_howManyIn : Nat := 45
def eX5_howManyIn : zE := (yX5_howManyIn, cX5_howManyIn, 4, some .int, 1, false, 5, tX5_howManyIn)
def tX6_init : List (Option zR) := [some (.aload_n 0, 0, 0, 0), some (.invokespecial 3, 0, 0, 1), none, none, some (.aload_n 0, 0, 0, 0), some (.aload_n 1, 0, 0, 0), some (.putfield 9, 6, 0, 2), none, none, some (.aload_n 0, 0, 0, 0), some (.aload_n 2, 0, 0, 0), some (.putfield 15, 6, 1, 2), none, none, some (.aload_n 0, 0, 0, 0), some (.bipush 60, 0, 0, 0), none, some (.newarray .int, 0, 0, 0), none, some (.putfield 19, 6, 2, 2), none, none, some (.return_, 0, 0, 0)]
abbrev kX6_init : Nat := 46
def eX6_init : zE := (yX6_init, cX6_init, 3, none, 2, false, 6, tX6_init)
def tX6_leastLength : List (Option zR) := [some (.aload_n 0, 0, 0, 0), some (.iload_n 1, 0, 0, 0), some (.putfield 23, 6, 3, 0), none, none, some (.aload_n 0, 0, 0, 0), some (.getfield 19, 6, 2, 2), none, none, some (.bipush (-3), 0, 0, 0), none, some (.invokestatic 27, 122, 2, 0), none, none, some (.aload_n 0, 0, 0, 0), some (.iconst 0, 0, 0, 0), some (.iconst 0, 0, 0, 0), some (.iconst 0, 0, 0, 0), some (.invokevirtual 33, 48, 3, 24), none, none, some (.aload_n 0, 0, 0, 0), some (.getfield 23, 6, 3, 0), none, none, some (.ireturn, 0, 0, 0)]
abbrev kX6_leastLength : Nat := 47
def eX6_leastLength : zE := (yX6_leastLength, cX6_leastLength, 2, some .int, 1, false, 6, tX6_leastLength)
def tX6_tryAll : List (Option zR) := [some (.iload_n 1, 0, 0, 0), some (.aload_n 0, 0, 0, 0), some (.getfield 9, 6, 0, 2), none, none, some (.getfield 37, 0, 6, 0), none, none, some (.if_icmp .ge 9, 0, 0, 0), none, none, some (.iload_n 1, 0, 0, 0), some (.bipush 7, 0, 0, 0), none, some (.if_icmp .lt 26, 0, 0, 0), none, none, some (.aload_n 0, 0, 0, 0), some (.aload_n 0, 0, 0, 0), some (.getfield 23, 6, 3, 0), none, none, some (.aload_n 0, 0, 0, 0), some (.getfield 9, 6, 0, 2), none, none, some (.aload_n 0, 0, 0, 0), some (.getfield 19, 6, 2, 2), none, none, some (.invokevirtual 42, 7, 1, 0), none, none, some (.invokestatic 46, 121, 2, 0), none, none, some (.putfield 23, 6, 3, 0), none, none, some (.return_, 0, 0, 0), some (.aload_n 0, 0, 0, 0), some (.iload_n 2, 0, 0, 0), some (.iload_n 3, 0, 0, 0), some (.invokevirtual 52, 50, 2, 24), none, none, some (.ifCond .eq 4, 0, 0, 0), none, none, some (.return_, 0, 0, 0), some (.iload_n 3, 0, 0, 0), some (.aload_n 0, 0, 0, 0), some (.getfield 9, 6, 0, 2), none, none, some (.getfield 56, 0, 7, 0), none, none, some (.if_icmp .ge 7, 0, 0, 0), none, none, some (.iload_n 2, 0, 0, 0), some (.goto 6, 0, 0, 0), none, none, some (.iload_n 2, 0, 0, 0), some (.iconst 1, 0, 0, 0), some (.iadd, 0, 0, 0), some (.istore 4, 0, 0, 0), none, some (.iconst 0, 0, 0, 0), some (.istore 5, 0, 0, 0), none, some (.iload 5, 0, 0, 0), none, some (.aload_n 0, 0, 0, 0), some (.getfield 9, 6, 0, 2), none, none, some (.getfield 37, 0, 6, 0), none, none, some (.if_icmp .ge 90, 0, 0, 0), none, none, some (.aload_n 0, 0, 0, 0), some (.getfield 19, 6, 2, 2), none, none, some (.iload 5, 0, 0, 0), none, some (.iaload, 0, 0, 0), some (.bipush (-3), 0, 0, 0), none, some (.if_icmp .ne 72, 0, 0, 0), none, none, some (.aload_n 0, 0, 0, 0), some (.iload 5, 0, 0, 0), none, some (.invokevirtual 59, 49, 1, 24), none, none, some (.ifCond .eq 63, 0, 0, 0), none, none, some (.iload 4, 0, 0, 0), none, some (.aload_n 0, 0, 0, 0), some (.getfield 15, 6, 1, 2), none, none, some (.iload 5, 0, 0, 0), none, some (.aload_n 0, 0, 0, 0), some (.getfield 19, 6, 2, 2), none, none, some (.invokevirtual 63, 11, 2, 4), none, none, some (.invokestatic 69, 120, 2, 0), none, none, some (.istore 6, 0, 0, 0), none, some (.aload_n 0, 0, 0, 0), some (.getfield 19, 6, 2, 2), none, none, some (.iload 5, 0, 0, 0), none, some (.iload 6, 0, 0, 0), none, some (.iastore, 0, 0, 0), some (.aload_n 0, 0, 0, 0), some (.iload_n 1, 0, 0, 0), some (.iconst 1, 0, 0, 0), some (.iadd, 0, 0, 0), some (.iload 6, 0, 0, 0), none, some (.iload 6, 0, 0, 0), none, some (.iload_n 2, 0, 0, 0), some (.if_icmp .ne 9, 0, 0, 0), none, none, some (.iload_n 3, 0, 0, 0), some (.iconst 1, 0, 0, 0), some (.iadd, 0, 0, 0), some (.goto 4, 0, 0, 0), none, none, some (.iconst 1, 0, 0, 0), some (.invokevirtual 33, 48, 3, 24), none, none, some (.aload_n 0, 0, 0, 0), some (.getfield 19, 6, 2, 2), none, none, some (.iload 5, 0, 0, 0), none, some (.bipush (-3), 0, 0, 0), none, some (.iastore, 0, 0, 0), some (.iinc 5 1, 0, 0, 0), none, none, some (.goto (-96), 0, 0, 0), none, none, some (.return_, 0, 0, 0)]
abbrev kX6_tryAll : Nat := 48
def eX6_tryAll : zE := (yX6_tryAll, cX6_tryAll, 7, none, 3, false, 6, tX6_tryAll)
def tX6_isFree : List (Option zR) := [some (.iconst 0, 0, 0, 0), some (.istore_n 2, 0, 0, 0), some (.iload_n 2, 0, 0, 0), some (.iload_n 1, 0, 0, 0), some (.if_icmp .ge 36, 0, 0, 0), none, none, some (.aload_n 0, 0, 0, 0), some (.getfield 19, 6, 2, 2), none, none, some (.iload_n 2, 0, 0, 0), some (.iaload, 0, 0, 0), some (.bipush (-3), 0, 0, 0), none, some (.if_icmp .ne 19, 0, 0, 0), none, none, some (.aload_n 0, 0, 0, 0), some (.getfield 15, 6, 1, 2), none, none, some (.iload_n 2, 0, 0, 0), some (.iload_n 1, 0, 0, 0), some (.invokevirtual 72, 10, 2, 4), none, none, some (.bipush (-3), 0, 0, 0), none, some (.if_icmp .eq 5, 0, 0, 0), none, none, some (.iconst 0, 0, 0, 0), some (.ireturn, 0, 0, 1), some (.iinc 2 1, 0, 0, 0), none, none, some (.goto (-35), 0, 0, 0), none, none, some (.iconst 1, 0, 0, 0), some (.ireturn, 0, 0, 1)]
abbrev kX6_isFree : Nat := 49
def eX6_isFree : zE := (yX6_isFree, cX6_isFree, 3, some .boolean, 1, false, 6, tX6_isFree)
def tX6_isHopeless : List (Option zR) := [some (.iconst 0, 0, 0, 0), some (.istore_n 3, 0, 0, 0), some (.iload_n 3, 0, 0, 0), some (.aload_n 0, 0, 0, 0), some (.getfield 9, 6, 0, 2), none, none, some (.getfield 37, 0, 6, 0), none, none, some (.if_icmp .ge 89, 0, 0, 0), none, none, some (.aload_n 0, 0, 0, 0), some (.getfield 19, 6, 2, 2), none, none, some (.iload_n 3, 0, 0, 0), some (.iaload, 0, 0, 0), some (.bipush (-3), 0, 0, 0), none, some (.if_icmp .ne 72, 0, 0, 0), none, none, some (.iload_n 1, 0, 0, 0), some (.iload_n 2, 0, 0, 0), some (.aload_n 0, 0, 0, 0), some (.aload_n 0, 0, 0, 0), some (.getfield 15, 6, 1, 2), none, none, some (.getfield 75, 1, 0, 2), none, none, some (.iload_n 3, 0, 0, 0), some (.iaload, 0, 0, 0), some (.invokevirtual 78, 51, 1, 24), none, none, some (.iadd, 0, 0, 0), some (.iconst 1, 0, 0, 0), some (.isub, 0, 0, 0), some (.aload_n 0, 0, 0, 0), some (.getfield 9, 6, 0, 2), none, none, some (.getfield 56, 0, 7, 0), none, none, some (.idiv, 0, 0, 0), some (.iadd, 0, 0, 0), some (.istore 4, 0, 0, 0), none, some (.iload 4, 0, 0, 0), none, some (.aload_n 0, 0, 0, 0), some (.getfield 15, 6, 1, 2), none, none, some (.iload_n 3, 0, 0, 0), some (.aload_n 0, 0, 0, 0), some (.getfield 19, 6, 2, 2), none, none, some (.invokevirtual 63, 11, 2, 4), none, none, some (.invokestatic 69, 120, 2, 0), none, none, some (.istore 5, 0, 0, 0), none, some (.iload 5, 0, 0, 0), none, some (.aload_n 0, 0, 0, 0), some (.getfield 15, 6, 1, 2), none, none, some (.getfield 75, 1, 0, 2), none, none, some (.iload_n 3, 0, 0, 0), some (.iaload, 0, 0, 0), some (.iadd, 0, 0, 0), some (.aload_n 0, 0, 0, 0), some (.getfield 23, 6, 3, 0), none, none, some (.if_icmp .lt 5, 0, 0, 0), none, none, some (.iconst 1, 0, 0, 0), some (.ireturn, 0, 0, 1), some (.iinc 3 1, 0, 0, 0), none, none, some (.goto (-94), 0, 0, 0), none, none, some (.iconst 0, 0, 0, 0), some (.ireturn, 0, 0, 1)]
abbrev kX6_isHopeless : Nat := 50
def eX6_isHopeless : zE := (yX6_isHopeless, cX6_isHopeless, 6, some .boolean, 2, false, 6, tX6_isHopeless)
def tX6_howManyWithWay : List (Option zR) := [some (.iconst 0, 0, 0, 0), some (.istore_n 2, 0, 0, 0), some (.iconst 0, 0, 0, 0), some (.istore_n 3, 0, 0, 0), some (.iload_n 3, 0, 0, 0), some (.aload_n 0, 0, 0, 0), some (.getfield 9, 6, 0, 2), none, none, some (.getfield 37, 0, 6, 0), none, none, some (.if_icmp .ge 36, 0, 0, 0), none, none, some (.aload_n 0, 0, 0, 0), some (.getfield 19, 6, 2, 2), none, none, some (.iload_n 3, 0, 0, 0), some (.iaload, 0, 0, 0), some (.bipush (-3), 0, 0, 0), none, some (.if_icmp .ne 19, 0, 0, 0), none, none, some (.aload_n 0, 0, 0, 0), some (.getfield 15, 6, 1, 2), none, none, some (.getfield 75, 1, 0, 2), none, none, some (.iload_n 3, 0, 0, 0), some (.iaload, 0, 0, 0), some (.iload_n 1, 0, 0, 0), some (.if_icmp .lt 6, 0, 0, 0), none, none, some (.iinc 2 1, 0, 0, 0), none, none, some (.iinc 3 1, 0, 0, 0), none, none, some (.goto (-41), 0, 0, 0), none, none, some (.iload_n 2, 0, 0, 0), some (.ireturn, 0, 0, 0)]
abbrev kX6_howManyWithWay : Nat := 51
def eX6_howManyWithWay : zE := (yX6_howManyWithWay, cX6_howManyWithWay, 4, some .int, 1, false, 6, tX6_howManyWithWay)
def tX7_init : List (Option zR) := [some (.aload_n 0, 0, 0, 0), some (.invokespecial 3, 0, 0, 1), none, none, some (.aload_n 0, 0, 0, 0), some (.new 9, 0, 0, 0), none, none, some (.dup, 0, 0, 0), some (.invokespecial 11, 0, 0, 0), none, none, some (.putfield 12, 7, 0, 2), none, none, some (.aload_n 0, 0, 0, 0), some (.new 16, 1, 0, 0), none, none, some (.dup, 0, 0, 0), some (.aload_n 0, 0, 0, 0), some (.getfield 12, 7, 0, 2), none, none, some (.invokespecial 18, 8, 1, 0), none, none, some (.putfield 21, 7, 1, 2), none, none, some (.aload_n 0, 0, 0, 0), some (.new 25, 2, 0, 0), none, none, some (.dup, 0, 0, 0), some (.aload_n 0, 0, 0, 0), some (.getfield 12, 7, 0, 2), none, none, some (.aload_n 0, 0, 0, 0), some (.getfield 21, 7, 1, 2), none, none, some (.invokespecial 27, 18, 2, 0), none, none, some (.putfield 30, 7, 2, 2), none, none, some (.aload_n 0, 0, 0, 0), some (.new 34, 4, 0, 0), none, none, some (.dup, 0, 0, 0), some (.aload_n 0, 0, 0, 0), some (.getfield 12, 7, 0, 2), none, none, some (.aload_n 0, 0, 0, 0), some (.getfield 21, 7, 1, 2), none, none, some (.invokespecial 36, 37, 2, 0), none, none, some (.putfield 37, 7, 3, 2), none, none, some (.aload_n 0, 0, 0, 0), some (.new 34, 4, 0, 0), none, none, some (.dup, 0, 0, 0), some (.aload_n 0, 0, 0, 0), some (.getfield 12, 7, 0, 2), none, none, some (.aload_n 0, 0, 0, 0), some (.getfield 21, 7, 1, 2), none, none, some (.invokespecial 36, 37, 2, 0), none, none, some (.putfield 41, 7, 4, 2), none, none, some (.aload_n 0, 0, 0, 0), some (.new 44, 6, 0, 0), none, none, some (.dup, 0, 0, 0), some (.aload_n 0, 0, 0, 0), some (.getfield 12, 7, 0, 2), none, none, some (.aload_n 0, 0, 0, 0), some (.getfield 21, 7, 1, 2), none, none, some (.invokespecial 46, 46, 2, 0), none, none, some (.putfield 47, 7, 5, 2), none, none, some (.aload_n 0, 0, 0, 0), some (.new 51, 5, 0, 0), none, none, some (.dup, 0, 0, 0), some (.aload_n 0, 0, 0, 0), some (.getfield 12, 7, 0, 2), none, none, some (.aload_n 0, 0, 0, 0), some (.getfield 21, 7, 1, 2), none, none, some (.invokespecial 53, 39, 2, 0), none, none, some (.putfield 54, 7, 6, 2), none, none, some (.aload_n 0, 0, 0, 0), some (.new 58, 3, 0, 0), none, none, some (.dup, 0, 0, 0), some (.aload_n 0, 0, 0, 0), some (.getfield 12, 7, 0, 2), none, none, some (.invokespecial 60, 25, 1, 0), none, none, some (.putfield 61, 7, 7, 2), none, none, some (.aload_n 0, 0, 0, 0), some (.bipush 60, 0, 0, 0), none, some (.newarray .int, 0, 0, 0), none, some (.putfield 65, 7, 8, 2), none, none, some (.iconst 0, 0, 0, 0), some (.istore_n 1, 0, 0, 0), some (.iload_n 1, 0, 0, 0), some (.bipush 60, 0, 0, 0), none, some (.if_icmp .ge 16, 0, 0, 0), none, none, some (.aload_n 0, 0, 0, 0), some (.getfield 65, 7, 8, 2), none, none, some (.iload_n 1, 0, 0, 0), some (.iload_n 1, 0, 0, 0), some (.iastore, 0, 0, 0), some (.iinc 1 1, 0, 0, 0), none, none, some (.goto (-16), 0, 0, 0), none, none, some (.aload_n 0, 0, 0, 0), some (.iconst 1, 0, 0, 0), some (.putfield 69, 7, 9, 1), none, none, some (.aload_n 0, 0, 0, 0), some (.bipush (-3), 0, 0, 0), none, some (.putfield 73, 7, 12, 0), none, none, some (.aload_n 0, 0, 0, 0), some (.bipush (-3), 0, 0, 0), none, some (.putfield 77, 7, 13, 0), none, none, some (.return_, 0, 0, 0)]
abbrev kX7_init : Nat := 52
def eX7_init : zE := (yX7_init, cX7_init, 2, none, 0, false, 7, tX7_init)
def tX7_add : List (Option zR) := [some (.iload_n 1, 0, 0, 0), some (.invokestatic 80, 70, 1, 0), none, none, some (.ifCond .eq 14, 0, 0, 0), none, none, some (.iload_n 1, 0, 0, 0), some (.iload_n 2, 0, 0, 0), some (.iload_n 3, 0, 0, 0), some (.iload 4, 0, 0, 0), none, some (.invokestatic 84, 75, 4, 0), none, none, some (.ifCond .ne 5, 0, 0, 0), none, none, some (.iconst (-1), 0, 0, 0), some (.ireturn, 0, 0, 0), some (.aload_n 0, 0, 0, 0), some (.getfield 12, 7, 0, 2), none, none, some (.getfield 88, 0, 6, 0), none, none, some (.bipush 60, 0, 0, 0), none, some (.if_icmp .lt 6, 0, 0, 0), none, none, some (.bipush (-2), 0, 0, 0), none, some (.ireturn, 0, 0, 0), some (.aload_n 0, 0, 0, 0), some (.iconst 1, 0, 0, 0), some (.putfield 69, 7, 9, 1), none, none, some (.aload_n 0, 0, 0, 0), some (.getfield 12, 7, 0, 2), none, none, some (.iload_n 1, 0, 0, 0), some (.iload_n 2, 0, 0, 0), some (.iload_n 3, 0, 0, 0), some (.iload 4, 0, 0, 0), none, some (.iload 5, 0, 0, 0), none, some (.invokevirtual 91, 2, 5, 0), none, none, some (.ireturn, 0, 0, 0)]
abbrev kX7_add : Nat := 53
def eX7_add : zE := (yX7_add, cX7_add, 6, some .int, 5, false, 7, tX7_add)
def tX7_cut : List (Option zR) := [some (.iload_n 1, 0, 0, 0), some (.ifCond .lt 14, 0, 0, 0), none, none, some (.iload_n 1, 0, 0, 0), some (.aload_n 0, 0, 0, 0), some (.getfield 12, 7, 0, 2), none, none, some (.getfield 88, 0, 6, 0), none, none, some (.if_icmp .le 5, 0, 0, 0), none, none, some (.iconst (-1), 0, 0, 0), some (.ireturn, 0, 0, 0), some (.aload_n 0, 0, 0, 0), some (.iconst 1, 0, 0, 0), some (.putfield 69, 7, 9, 1), none, none, some (.aload_n 0, 0, 0, 0), some (.getfield 12, 7, 0, 2), none, none, some (.dup, 0, 0, 0), some (.getfield 88, 0, 6, 0), none, none, some (.iload_n 1, 0, 0, 0), some (.isub, 0, 0, 0), some (.putfield 88, 0, 6, 0), none, none, some (.aload_n 0, 0, 0, 0), some (.getfield 54, 7, 6, 2), none, none, some (.aload_n 0, 0, 0, 0), some (.getfield 12, 7, 0, 2), none, none, some (.getfield 88, 0, 6, 0), none, none, some (.invokevirtual 95, 40, 1, 20), none, none, some (.aload_n 0, 0, 0, 0), some (.getfield 12, 7, 0, 2), none, none, some (.getfield 88, 0, 6, 0), none, none, some (.ireturn, 0, 0, 0)]
abbrev kX7_cut : Nat := 54
def eX7_cut : zE := (yX7_cut, cX7_cut, 2, some .int, 1, false, 7, tX7_cut)
def tX7_latency : List (Option zR) := [some (.iload_n 1, 0, 0, 0), some (.invokestatic 80, 70, 1, 0), none, none, some (.ifCond .eq 14, 0, 0, 0), none, none, some (.iload_n 2, 0, 0, 0), some (.iconst 1, 0, 0, 0), some (.if_icmp .lt 9, 0, 0, 0), none, none, some (.iload_n 2, 0, 0, 0), some (.bipush 12, 0, 0, 0), none, some (.if_icmp .le 5, 0, 0, 0), none, none, some (.iconst (-1), 0, 0, 0), some (.ireturn, 0, 0, 0), some (.aload_n 0, 0, 0, 0), some (.iconst 1, 0, 0, 0), some (.putfield 69, 7, 9, 1), none, none, some (.aload_n 0, 0, 0, 0), some (.getfield 12, 7, 0, 2), none, none, some (.getfield 99, 0, 5, 2), none, none, some (.iload_n 1, 0, 0, 0), some (.iaload, 0, 0, 0), some (.istore_n 3, 0, 0, 0), some (.aload_n 0, 0, 0, 0), some (.getfield 12, 7, 0, 2), none, none, some (.getfield 99, 0, 5, 2), none, none, some (.iload_n 1, 0, 0, 0), some (.iload_n 2, 0, 0, 0), some (.iastore, 0, 0, 0), some (.iload_n 3, 0, 0, 0), some (.ireturn, 0, 0, 0)]
abbrev kX7_latency : Nat := 55
def eX7_latency : zE := (yX7_latency, cX7_latency, 4, some .int, 2, false, 7, tX7_latency)
def tX7_units : List (Option zR) := [some (.iload_n 1, 0, 0, 0), some (.iconst 1, 0, 0, 0), some (.if_icmp .lt 9, 0, 0, 0), none, none, some (.iload_n 1, 0, 0, 0), some (.bipush 8, 0, 0, 0), none, some (.if_icmp .le 5, 0, 0, 0), none, none, some (.iconst (-1), 0, 0, 0), some (.ireturn, 0, 0, 0), some (.aload_n 0, 0, 0, 0), some (.iconst 1, 0, 0, 0), some (.putfield 69, 7, 9, 1), none, none, some (.aload_n 0, 0, 0, 0), some (.getfield 12, 7, 0, 2), none, none, some (.getfield 102, 0, 7, 0), none, none, some (.istore_n 2, 0, 0, 0), some (.aload_n 0, 0, 0, 0), some (.getfield 12, 7, 0, 2), none, none, some (.iload_n 1, 0, 0, 0), some (.putfield 102, 0, 7, 0), none, none, some (.iload_n 2, 0, 0, 0), some (.ireturn, 0, 0, 0)]
abbrev kX7_units : Nat := 56
def eX7_units : zE := (yX7_units, cX7_units, 3, some .int, 1, false, 7, tX7_units)
def tX7_delay : List (Option zR) := [some (.aload_n 0, 0, 0, 0), some (.getfield 12, 7, 0, 2), none, none, some (.iload_n 1, 0, 0, 0), some (.invokevirtual 105, 1, 1, 0), none, none, some (.ifCond .eq 14, 0, 0, 0), none, none, some (.aload_n 0, 0, 0, 0), some (.getfield 12, 7, 0, 2), none, none, some (.iload_n 2, 0, 0, 0), some (.invokevirtual 105, 1, 1, 0), none, none, some (.ifCond .ne 5, 0, 0, 0), none, none, some (.iconst (-1), 0, 0, 0), some (.ireturn, 0, 0, 0), some (.aload_n 0, 0, 0, 0), some (.invokevirtual 108, 69, 0, 28), none, none, some (.aload_n 0, 0, 0, 0), some (.getfield 21, 7, 1, 2), none, none, some (.iload_n 1, 0, 0, 0), some (.iload_n 2, 0, 0, 0), some (.invokevirtual 111, 10, 2, 4), none, none, some (.ireturn, 0, 0, 0)]
abbrev kX7_delay : Nat := 57
def eX7_delay : zE := (yX7_delay, cX7_delay, 3, some .int, 2, false, 7, tX7_delay)
def tX7_about : List (Option zR) := [some (.aload_n 0, 0, 0, 0), some (.getfield 12, 7, 0, 2), none, none, some (.iload_n 1, 0, 0, 0), some (.invokevirtual 105, 1, 1, 0), none, none, some (.ifCond .ne 5, 0, 0, 0), none, none, some (.iconst (-1), 0, 0, 0), some (.ireturn, 0, 0, 0), some (.aload_n 0, 0, 0, 0), some (.invokevirtual 108, 69, 0, 28), none, none, some (.iload_n 2, 0, 0, 0), some (.tableswitch 130 0 6 #[42, 52, 62, 90, 100, 110, 120], 0, 0, 0), none, none, none, none, none, none, none, none, none, none, none, none, none, none, none, none, none, none, none, none, none, none, none, none, none, none, none, none, none, none, none, none, none, none, none, none, none, none, none, none, none, some (.aload_n 0, 0, 0, 0), some (.getfield 21, 7, 1, 2), none, none, some (.getfield 115, 1, 0, 2), none, none, some (.iload_n 1, 0, 0, 0), some (.iaload, 0, 0, 0), some (.ireturn, 0, 0, 0), some (.aload_n 0, 0, 0, 0), some (.getfield 21, 7, 1, 2), none, none, some (.getfield 118, 1, 1, 2), none, none, some (.iload_n 1, 0, 0, 0), some (.iaload, 0, 0, 0), some (.ireturn, 0, 0, 0), some (.aload_n 0, 0, 0, 0), some (.getfield 21, 7, 1, 2), none, none, some (.getfield 121, 1, 3, 0), none, none, some (.aload_n 0, 0, 0, 0), some (.getfield 21, 7, 1, 2), none, none, some (.getfield 115, 1, 0, 2), none, none, some (.iload_n 1, 0, 0, 0), some (.iaload, 0, 0, 0), some (.isub, 0, 0, 0), some (.aload_n 0, 0, 0, 0), some (.getfield 21, 7, 1, 2), none, none, some (.getfield 118, 1, 1, 2), none, none, some (.iload_n 1, 0, 0, 0), some (.iaload, 0, 0, 0), some (.isub, 0, 0, 0), some (.ireturn, 0, 0, 0), some (.aload_n 0, 0, 0, 0), some (.getfield 30, 7, 2, 2), none, none, some (.getfield 124, 2, 0, 2), none, none, some (.iload_n 1, 0, 0, 0), some (.iaload, 0, 0, 0), some (.ireturn, 0, 0, 0), some (.aload_n 0, 0, 0, 0), some (.getfield 37, 7, 3, 2), none, none, some (.getfield 127, 4, 0, 2), none, none, some (.iload_n 1, 0, 0, 0), some (.iaload, 0, 0, 0), some (.ireturn, 0, 0, 0), some (.aload_n 0, 0, 0, 0), some (.getfield 41, 7, 4, 2), none, none, some (.getfield 127, 4, 0, 2), none, none, some (.iload_n 1, 0, 0, 0), some (.iaload, 0, 0, 0), some (.ireturn, 0, 0, 0), some (.aload_n 0, 0, 0, 0), some (.getfield 54, 7, 6, 2), none, none, some (.getfield 128, 5, 0, 2), none, none, some (.iload_n 1, 0, 0, 0), some (.iaload, 0, 0, 0), some (.ireturn, 0, 0, 0), some (.iconst (-1), 0, 0, 0), some (.ireturn, 0, 0, 0)]
abbrev kX7_about : Nat := 58
def eX7_about : zE := (yX7_about, cX7_about, 3, some .int, 2, false, 7, tX7_about)
def tX7_listed : List (Option zR) := [some (.aload_n 0, 0, 0, 0), some (.getfield 12, 7, 0, 2), none, none, some (.iload_n 1, 0, 0, 0), some (.invokevirtual 105, 1, 1, 0), none, none, some (.ifCond .ne 5, 0, 0, 0), none, none, some (.iconst (-1), 0, 0, 0), some (.ireturn, 0, 0, 0), some (.aload_n 0, 0, 0, 0), some (.invokevirtual 108, 69, 0, 28), none, none, some (.aload_n 0, 0, 0, 0), some (.getfield 30, 7, 2, 2), none, none, some (.getfield 129, 2, 1, 2), none, none, some (.iload_n 1, 0, 0, 0), some (.iaload, 0, 0, 0), some (.ireturn, 0, 0, 0)]
abbrev kX7_listed : Nat := 59
def eX7_listed : zE := (yX7_listed, cX7_listed, 2, some .int, 1, false, 7, tX7_listed)
def tX7_length : List (Option zR) := [some (.aload_n 0, 0, 0, 0), some (.invokevirtual 108, 69, 0, 28), none, none, some (.iload_n 1, 0, 0, 0), some (.tableswitch 151 0 7 #[47, 55, 70, 85, 100, 105, 135, 143], 0, 0, 0), none, none, none, none, none, none, none, none, none, none, none, none, none, none, none, none, none, none, none, none, none, none, none, none, none, none, none, none, none, none, none, none, none, none, none, none, none, none, none, none, none, none, none, none, none, none, some (.aload_n 0, 0, 0, 0), some (.getfield 21, 7, 1, 2), none, none, some (.getfield 121, 1, 3, 0), none, none, some (.ireturn, 0, 0, 0), some (.aload_n 0, 0, 0, 0), some (.getfield 12, 7, 0, 2), none, none, some (.aload_n 0, 0, 0, 0), some (.getfield 30, 7, 2, 2), none, none, some (.getfield 124, 2, 0, 2), none, none, some (.invokevirtual 132, 7, 1, 0), none, none, some (.ireturn, 0, 0, 0), some (.aload_n 0, 0, 0, 0), some (.getfield 12, 7, 0, 2), none, none, some (.aload_n 0, 0, 0, 0), some (.getfield 37, 7, 3, 2), none, none, some (.getfield 127, 4, 0, 2), none, none, some (.invokevirtual 132, 7, 1, 0), none, none, some (.ireturn, 0, 0, 0), some (.aload_n 0, 0, 0, 0), some (.getfield 12, 7, 0, 2), none, none, some (.aload_n 0, 0, 0, 0), some (.getfield 41, 7, 4, 2), none, none, some (.getfield 127, 4, 0, 2), none, none, some (.invokevirtual 132, 7, 1, 0), none, none, some (.ireturn, 0, 0, 0), some (.aload_n 0, 0, 0, 0), some (.invokevirtual 136, 68, 0, 28), none, none, some (.ireturn, 0, 0, 0), some (.aload_n 0, 0, 0, 0), some (.getfield 54, 7, 6, 2), none, none, some (.invokevirtual 140, 41, 0, 20), none, none, some (.ifCond .ne 20, 0, 0, 0), none, none, some (.aload_n 0, 0, 0, 0), some (.getfield 12, 7, 0, 2), none, none, some (.aload_n 0, 0, 0, 0), some (.getfield 54, 7, 6, 2), none, none, some (.getfield 128, 5, 0, 2), none, none, some (.invokevirtual 132, 7, 1, 0), none, none, some (.goto 5, 0, 0, 0), none, none, some (.bipush (-3), 0, 0, 0), none, some (.ireturn, 0, 0, 0), some (.aload_n 0, 0, 0, 0), some (.getfield 12, 7, 0, 2), none, none, some (.getfield 88, 0, 6, 0), none, none, some (.ireturn, 0, 0, 0), some (.aload_n 0, 0, 0, 0), some (.getfield 21, 7, 1, 2), none, none, some (.getfield 143, 1, 2, 0), none, none, some (.ireturn, 0, 0, 0), some (.iconst (-1), 0, 0, 0), some (.ireturn, 0, 0, 0)]
abbrev kX7_length : Nat := 60
def eX7_length : zE := (yX7_length, cX7_length, 2, some .int, 1, false, 7, tX7_length)
def tX7_place : List (Option zR) := [some (.aload_n 0, 0, 0, 0), some (.getfield 12, 7, 0, 2), none, none, some (.iload_n 1, 0, 0, 0), some (.invokevirtual 105, 1, 1, 0), none, none, some (.ifCond .eq 14, 0, 0, 0), none, none, some (.iload_n 2, 0, 0, 0), some (.ifCond .lt 10, 0, 0, 0), none, none, some (.iload_n 2, 0, 0, 0), some (.sipush 1000, 0, 0, 0), none, none, some (.if_icmp .le 5, 0, 0, 0), none, none, some (.iconst (-1), 0, 0, 0), some (.ireturn, 0, 0, 0), some (.aload_n 0, 0, 0, 0), some (.getfield 54, 7, 6, 2), none, none, some (.getfield 128, 5, 0, 2), none, none, some (.iload_n 1, 0, 0, 0), some (.iaload, 0, 0, 0), some (.istore_n 3, 0, 0, 0), some (.aload_n 0, 0, 0, 0), some (.getfield 54, 7, 6, 2), none, none, some (.getfield 128, 5, 0, 2), none, none, some (.iload_n 1, 0, 0, 0), some (.iload_n 2, 0, 0, 0), some (.iastore, 0, 0, 0), some (.iload_n 3, 0, 0, 0), some (.ireturn, 0, 0, 0)]
abbrev kX7_place : Nat := 61
def eX7_place : zE := (yX7_place, cX7_place, 4, some .int, 2, false, 7, tX7_place)
def tX7_check : List (Option zR) := [some (.aload_n 0, 0, 0, 0), some (.invokevirtual 108, 69, 0, 28), none, none, some (.aload_n 0, 0, 0, 0), some (.getfield 54, 7, 6, 2), none, none, some (.invokevirtual 140, 41, 0, 20), none, none, some (.istore_n 1, 0, 0, 0), some (.aload_n 0, 0, 0, 0), some (.aload_n 0, 0, 0, 0), some (.getfield 54, 7, 6, 2), none, none, some (.getfield 146, 5, 1, 0), none, none, some (.putfield 73, 7, 12, 0), none, none, some (.aload_n 0, 0, 0, 0), some (.aload_n 0, 0, 0, 0), some (.getfield 54, 7, 6, 2), none, none, some (.getfield 149, 5, 2, 0), none, none, some (.putfield 77, 7, 13, 0), none, none, some (.iload_n 1, 0, 0, 0), some (.ireturn, 0, 0, 0)]
abbrev kX7_check : Nat := 62
def eX7_check : zE := (yX7_check, cX7_check, 2, some .int, 0, false, 7, tX7_check)
def tX7_wrong : List (Option zR) := [some (.iload_n 1, 0, 0, 0), some (.lookupswitch 37 #[(0, 27), (1, 32)], 0, 0, 0), none, none, none, none, none, none, none, none, none, none, none, none, none, none, none, none, none, none, none, none, none, none, none, none, none, none, some (.aload_n 0, 0, 0, 0), some (.getfield 73, 7, 12, 0), none, none, some (.ireturn, 0, 0, 0), some (.aload_n 0, 0, 0, 0), some (.getfield 77, 7, 13, 0), none, none, some (.ireturn, 0, 0, 0), some (.iconst (-1), 0, 0, 0), some (.ireturn, 0, 0, 0)]
abbrev kX7_wrong : Nat := 63
def eX7_wrong : zE := (yX7_wrong, cX7_wrong, 2, some .int, 1, false, 7, tX7_wrong)
def tX7_given : List (Option zR) := [some (.aload_n 0, 0, 0, 0), some (.getfield 61, 7, 7, 2), none, none, some (.iload_n 1, 0, 0, 0), some (.iload_n 2, 0, 0, 0), some (.iload_n 3, 0, 0, 0), some (.invokevirtual 152, 26, 3, 12), none, none, some (.ireturn, 0, 0, 0)]
abbrev kX7_given : Nat := 64
def eX7_given : zE := (yX7_given, cX7_given, 4, some .int, 3, false, 7, tX7_given)
def tX7_run : List (Option zR) := [some (.aload_n 0, 0, 0, 0), some (.invokevirtual 108, 69, 0, 28), none, none, some (.iload_n 1, 0, 0, 0), some (.tableswitch 88 0 2 #[27, 49, 61], 0, 0, 0), none, none, none, none, none, none, none, none, none, none, none, none, none, none, none, none, none, none, none, none, none, none, none, none, none, none, some (.aload_n 0, 0, 0, 0), some (.getfield 61, 7, 7, 2), none, none, some (.invokevirtual 156, 28, 0, 12), none, none, some (.aload_n 0, 0, 0, 0), some (.getfield 12, 7, 0, 2), none, none, some (.aload_n 0, 0, 0, 0), some (.getfield 37, 7, 3, 2), none, none, some (.getfield 127, 4, 0, 2), none, none, some (.invokevirtual 132, 7, 1, 0), none, none, some (.ireturn, 0, 0, 0), some (.aload_n 0, 0, 0, 0), some (.aload_n 0, 0, 0, 0), some (.getfield 30, 7, 2, 2), none, none, some (.getfield 124, 2, 0, 2), none, none, some (.invokevirtual 159, 67, 1, 28), none, none, some (.ireturn, 0, 0, 0), some (.aload_n 0, 0, 0, 0), some (.getfield 54, 7, 6, 2), none, none, some (.invokevirtual 140, 41, 0, 20), none, none, some (.ifCond .ne 17, 0, 0, 0), none, none, some (.aload_n 0, 0, 0, 0), some (.aload_n 0, 0, 0, 0), some (.getfield 54, 7, 6, 2), none, none, some (.getfield 128, 5, 0, 2), none, none, some (.invokevirtual 159, 67, 1, 28), none, none, some (.goto 5, 0, 0, 0), none, none, some (.bipush (-3), 0, 0, 0), none, some (.ireturn, 0, 0, 0), some (.iconst (-1), 0, 0, 0), some (.ireturn, 0, 0, 0)]
abbrev kX7_run : Nat := 65
def eX7_run : zE := (yX7_run, cX7_run, 2, some .int, 1, false, 7, tX7_run)
def tX7_value : List (Option zR) := [some (.aload_n 0, 0, 0, 0), some (.getfield 61, 7, 7, 2), none, none, some (.iload_n 1, 0, 0, 0), some (.iload_n 2, 0, 0, 0), some (.invokevirtual 162, 27, 2, 12), none, none, some (.ireturn, 0, 0, 0)]
abbrev kX7_value : Nat := 66
def eX7_value : zE := (yX7_value, cX7_value, 3, some .int, 2, false, 7, tX7_value)
def tX7_runByPlan : List (Option zR) := [some (.aload_n 0, 0, 0, 0), some (.getfield 61, 7, 7, 2), none, none, some (.aload_n 1, 0, 0, 0), some (.invokevirtual 165, 29, 1, 12), none, none, some (.aload_n 0, 0, 0, 0), some (.getfield 12, 7, 0, 2), none, none, some (.aload_n 1, 0, 0, 0), some (.invokevirtual 132, 7, 1, 0), none, none, some (.ireturn, 0, 0, 0)]
abbrev kX7_runByPlan : Nat := 67
def eX7_runByPlan : zE := (yX7_runByPlan, cX7_runByPlan, 2, some .int, 1, false, 7, tX7_runByPlan)
def tX7_shortest : List (Option zR) := [some (.aload_n 0, 0, 0, 0), some (.getfield 12, 7, 0, 2), none, none, some (.getfield 88, 0, 6, 0), none, none, some (.bipush 7, 0, 0, 0), none, some (.if_icmp .le 6, 0, 0, 0), none, none, some (.bipush (-3), 0, 0, 0), none, some (.ireturn, 0, 0, 0), some (.aload_n 0, 0, 0, 0), some (.getfield 169, 7, 10, 1), none, none, some (.ifCond .ne 33, 0, 0, 0), none, none, some (.aload_n 0, 0, 0, 0), some (.aload_n 0, 0, 0, 0), some (.getfield 47, 7, 5, 2), none, none, some (.aload_n 0, 0, 0, 0), some (.getfield 12, 7, 0, 2), none, none, some (.aload_n 0, 0, 0, 0), some (.getfield 30, 7, 2, 2), none, none, some (.getfield 124, 2, 0, 2), none, none, some (.invokevirtual 132, 7, 1, 0), none, none, some (.invokevirtual 172, 47, 1, 24), none, none, some (.putfield 176, 7, 11, 0), none, none, some (.aload_n 0, 0, 0, 0), some (.iconst 1, 0, 0, 0), some (.putfield 169, 7, 10, 1), none, none, some (.aload_n 0, 0, 0, 0), some (.getfield 176, 7, 11, 0), none, none, some (.ireturn, 0, 0, 0)]
abbrev kX7_shortest : Nat := 68
def eX7_shortest : zE := (yX7_shortest, cX7_shortest, 1, some .int, 0, false, 7, tX7_shortest)
def tX7_refresh : List (Option zR) := [some (.aload_n 0, 0, 0, 0), some (.getfield 69, 7, 9, 1), none, none, some (.ifCond .ne 4, 0, 0, 0), none, none, some (.return_, 0, 0, 0), some (.aload_n 0, 0, 0, 0), some (.getfield 21, 7, 1, 2), none, none, some (.invokevirtual 179, 9, 0, 4), none, none, some (.aload_n 0, 0, 0, 0), some (.getfield 30, 7, 2, 2), none, none, some (.invokevirtual 182, 19, 0, 8), none, none, some (.aload_n 0, 0, 0, 0), some (.getfield 37, 7, 3, 2), none, none, some (.aload_n 0, 0, 0, 0), some (.getfield 65, 7, 8, 2), none, none, some (.invokevirtual 185, 38, 1, 16), none, none, some (.aload_n 0, 0, 0, 0), some (.getfield 41, 7, 4, 2), none, none, some (.aload_n 0, 0, 0, 0), some (.getfield 30, 7, 2, 2), none, none, some (.getfield 129, 2, 1, 2), none, none, some (.invokevirtual 185, 38, 1, 16), none, none, some (.aload_n 0, 0, 0, 0), some (.iconst 0, 0, 0, 0), some (.putfield 169, 7, 10, 1), none, none, some (.aload_n 0, 0, 0, 0), some (.iconst 0, 0, 0, 0), some (.putfield 69, 7, 9, 1), none, none, some (.return_, 0, 0, 0)]
abbrev kX7_refresh : Nat := 69
def eX7_refresh : zE := (yX7_refresh, cX7_refresh, 1, none, 0, false, 7, tX7_refresh)
def tX7_isKind : List (Option zR) := [some (.iload_n 0, 0, 0, 0), some (.ifCond .lt 13, 0, 0, 0), none, none, some (.iload_n 0, 0, 0, 0), some (.bipush 7, 0, 0, 0), none, some (.if_icmp .ge 7, 0, 0, 0), none, none, some (.iconst 1, 0, 0, 0), some (.goto 4, 0, 0, 0), none, none, some (.iconst 0, 0, 0, 0), some (.ireturn, 0, 0, 1)]
abbrev kX7_isKind : Nat := 70
def eX7_isKind : zE := (yX7_isKind, cX7_isKind, 1, some .boolean, 1, true, 7, tX7_isKind)
def tX7_isRegister : List (Option zR) := [some (.iload_n 0, 0, 0, 0), some (.ifCond .lt 13, 0, 0, 0), none, none, some (.iload_n 0, 0, 0, 0), some (.bipush 16, 0, 0, 0), none, some (.if_icmp .ge 7, 0, 0, 0), none, none, some (.iconst 1, 0, 0, 0), some (.goto 4, 0, 0, 0), none, none, some (.iconst 0, 0, 0, 0), some (.ireturn, 0, 0, 1)]
abbrev kX7_isRegister : Nat := 71
def eX7_isRegister : zE := (yX7_isRegister, cX7_isRegister, 1, some .boolean, 1, true, 7, tX7_isRegister)
def tX7_namesTarget : List (Option zR) := [some (.iload_n 0, 0, 0, 0), some (.bipush 6, 0, 0, 0), none, some (.if_icmp .eq 7, 0, 0, 0), none, none, some (.iconst 1, 0, 0, 0), some (.goto 4, 0, 0, 0), none, none, some (.iconst 0, 0, 0, 0), some (.ireturn, 0, 0, 1)]
abbrev kX7_namesTarget : Nat := 72
def eX7_namesTarget : zE := (yX7_namesTarget, cX7_namesTarget, 1, some .boolean, 1, true, 7, tX7_namesTarget)
def tX7_namesFirst : List (Option zR) := [some (.iload_n 0, 0, 0, 0), some (.ifCond .eq 7, 0, 0, 0), none, none, some (.iconst 1, 0, 0, 0), some (.goto 4, 0, 0, 0), none, none, some (.iconst 0, 0, 0, 0), some (.ireturn, 0, 0, 1)]
abbrev kX7_namesFirst : Nat := 73
def eX7_namesFirst : zE := (yX7_namesFirst, cX7_namesFirst, 1, some .boolean, 1, true, 7, tX7_namesFirst)
def tX7_namesSecond : List (Option zR) := [some (.iload_n 0, 0, 0, 0), some (.ifCond .eq 12, 0, 0, 0), none, none, some (.iload_n 0, 0, 0, 0), some (.iconst 5, 0, 0, 0), some (.if_icmp .eq 7, 0, 0, 0), none, none, some (.iconst 1, 0, 0, 0), some (.goto 4, 0, 0, 0), none, none, some (.iconst 0, 0, 0, 0), some (.ireturn, 0, 0, 1)]
abbrev kX7_namesSecond : Nat := 74
def eX7_namesSecond : zE := (yX7_namesSecond, cX7_namesSecond, 1, some .boolean, 1, true, 7, tX7_namesSecond)
def tX7_namesRegistersOnly : List (Option zR) := [some (.iload_n 0, 0, 0, 0), some (.invokestatic 187, 72, 1, 0), none, none, some (.ifCond .eq 10, 0, 0, 0), none, none, some (.iload_n 1, 0, 0, 0), some (.invokestatic 190, 71, 1, 0), none, none, some (.ifCond .eq 35, 0, 0, 0), none, none, some (.iload_n 0, 0, 0, 0), some (.invokestatic 193, 73, 1, 0), none, none, some (.ifCond .eq 10, 0, 0, 0), none, none, some (.iload_n 2, 0, 0, 0), some (.invokestatic 190, 71, 1, 0), none, none, some (.ifCond .eq 21, 0, 0, 0), none, none, some (.iload_n 0, 0, 0, 0), some (.invokestatic 196, 74, 1, 0), none, none, some (.ifCond .eq 10, 0, 0, 0), none, none, some (.iload_n 3, 0, 0, 0), some (.invokestatic 190, 71, 1, 0), none, none, some (.ifCond .eq 7, 0, 0, 0), none, none, some (.iconst 1, 0, 0, 0), some (.goto 4, 0, 0, 0), none, none, some (.iconst 0, 0, 0, 0), some (.ireturn, 0, 0, 1)]
abbrev kX7_namesRegistersOnly : Nat := 75
def eX7_namesRegistersOnly : zE := (yX7_namesRegistersOnly, cX7_namesRegistersOnly, 4, some .boolean, 4, true, 7, tX7_namesRegistersOnly)
def tX8_init : List (Option zR) := [some (.aload_n 0, 0, 0, 0), some (.invokespecial 1, 0, 0, 1), none, none, some (.aload_n 0, 0, 0, 0), some (.bipush 60, 0, 0, 0), none, some (.newarray .int, 0, 0, 0), none, some (.putfield 7, 8, 0, 2), none, none, some (.aload_n 0, 0, 0, 0), some (.bipush 60, 0, 0, 0), none, some (.newarray .int, 0, 0, 0), none, some (.putfield 13, 8, 1, 2), none, none, some (.aload_n 0, 0, 0, 0), some (.bipush 60, 0, 0, 0), none, some (.newarray .int, 0, 0, 0), none, some (.putfield 16, 8, 2, 2), none, none, some (.aload_n 0, 0, 0, 0), some (.bipush 60, 0, 0, 0), none, some (.newarray .int, 0, 0, 0), none, some (.putfield 19, 8, 3, 2), none, none, some (.aload_n 0, 0, 0, 0), some (.bipush 60, 0, 0, 0), none, some (.newarray .int, 0, 0, 0), none, some (.putfield 22, 8, 4, 2), none, none, some (.aload_n 0, 0, 0, 0), some (.bipush 7, 0, 0, 0), none, some (.newarray .int, 0, 0, 0), none, some (.dup, 0, 0, 0), some (.iconst 0, 0, 0, 0), some (.iconst 1, 0, 0, 0), some (.iastore, 0, 0, 0), some (.dup, 0, 0, 0), some (.iconst 1, 0, 0, 0), some (.iconst 1, 0, 0, 0), some (.iastore, 0, 0, 0), some (.dup, 0, 0, 0), some (.iconst 2, 0, 0, 0), some (.iconst 1, 0, 0, 0), some (.iastore, 0, 0, 0), some (.dup, 0, 0, 0), some (.iconst 3, 0, 0, 0), some (.iconst 1, 0, 0, 0), some (.iastore, 0, 0, 0), some (.dup, 0, 0, 0), some (.iconst 4, 0, 0, 0), some (.iconst 1, 0, 0, 0), some (.iastore, 0, 0, 0), some (.dup, 0, 0, 0), some (.iconst 5, 0, 0, 0), some (.iconst 1, 0, 0, 0), some (.iastore, 0, 0, 0), some (.dup, 0, 0, 0), some (.bipush 6, 0, 0, 0), none, some (.iconst 1, 0, 0, 0), some (.iastore, 0, 0, 0), some (.putfield 25, 8, 6, 2), none, none, some (.aload_n 0, 0, 0, 0), some (.iconst 1, 0, 0, 0), some (.putfield 28, 8, 7, 0), none, none, some (.aload_n 0, 0, 0, 0), some (.sipush 3600, 0, 0, 0), none, none, some (.newarray .int, 0, 0, 0), none, some (.putfield 32, 8, 8, 2), none, none, some (.aload_n 0, 0, 0, 0), some (.bipush 60, 0, 0, 0), none, some (.newarray .int, 0, 0, 0), none, some (.putfield 35, 8, 10, 2), none, none, some (.aload_n 0, 0, 0, 0), some (.bipush 60, 0, 0, 0), none, some (.newarray .int, 0, 0, 0), none, some (.putfield 38, 8, 11, 2), none, none, some (.aload_n 0, 0, 0, 0), some (.bipush 60, 0, 0, 0), none, some (.newarray .int, 0, 0, 0), none, some (.putfield 41, 8, 12, 2), none, none, some (.aload_n 0, 0, 0, 0), some (.bipush 60, 0, 0, 0), none, some (.newarray .int, 0, 0, 0), none, some (.putfield 44, 8, 13, 2), none, none, some (.aload_n 0, 0, 0, 0), some (.bipush 60, 0, 0, 0), none, some (.newarray .int, 0, 0, 0), none, some (.putfield 47, 8, 14, 2), none, none, some (.aload_n 0, 0, 0, 0), some (.bipush 60, 0, 0, 0), none, some (.newarray .int, 0, 0, 0), none, some (.putfield 50, 8, 15, 2), none, none, some (.aload_n 0, 0, 0, 0), some (.bipush 60, 0, 0, 0), none, some (.newarray .int, 0, 0, 0), none, some (.putfield 53, 8, 16, 2), none, none, some (.aload_n 0, 0, 0, 0), some (.bipush 60, 0, 0, 0), none, some (.newarray .int, 0, 0, 0), none, some (.putfield 56, 8, 18, 2), none, none, some (.aload_n 0, 0, 0, 0), some (.bipush 60, 0, 0, 0), none, some (.newarray .int, 0, 0, 0), none, some (.putfield 59, 8, 19, 2), none, none, some (.aload_n 0, 0, 0, 0), some (.bipush (-3), 0, 0, 0), none, some (.putfield 62, 8, 20, 0), none, none, some (.aload_n 0, 0, 0, 0), some (.bipush (-3), 0, 0, 0), none, some (.putfield 65, 8, 21, 0), none, none, some (.aload_n 0, 0, 0, 0), some (.bipush 16, 0, 0, 0), none, some (.newarray .int, 0, 0, 0), none, some (.putfield 68, 8, 22, 2), none, none, some (.aload_n 0, 0, 0, 0), some (.bipush 64, 0, 0, 0), none, some (.newarray .int, 0, 0, 0), none, some (.putfield 71, 8, 23, 2), none, none, some (.aload_n 0, 0, 0, 0), some (.bipush 16, 0, 0, 0), none, some (.newarray .int, 0, 0, 0), none, some (.putfield 74, 8, 24, 2), none, none, some (.aload_n 0, 0, 0, 0), some (.bipush 64, 0, 0, 0), none, some (.newarray .int, 0, 0, 0), none, some (.putfield 77, 8, 25, 2), none, none, some (.aload_n 0, 0, 0, 0), some (.bipush 60, 0, 0, 0), none, some (.newarray .int, 0, 0, 0), none, some (.putfield 80, 8, 26, 2), none, none, some (.aload_n 0, 0, 0, 0), some (.bipush 60, 0, 0, 0), none, some (.newarray .int, 0, 0, 0), none, some (.putfield 83, 8, 27, 2), none, none, some (.return_, 0, 0, 0)]
abbrev kX8_init : Nat := 76
def eX8_init : zE := (yX8_init, cX8_init, 1, none, 0, false, 8, tX8_init)
def tX8_reads : List (Option zR) := [some (.aload_n 0, 0, 0, 0), some (.getfield 7, 8, 0, 2), none, none, some (.iload_n 1, 0, 0, 0), some (.iaload, 0, 0, 0), some (.istore_n 3, 0, 0, 0), some (.iload_n 3, 0, 0, 0), some (.ifCond .eq 13, 0, 0, 0), none, none, some (.aload_n 0, 0, 0, 0), some (.getfield 16, 8, 2, 2), none, none, some (.iload_n 1, 0, 0, 0), some (.iaload, 0, 0, 0), some (.iload_n 2, 0, 0, 0), some (.if_icmp .eq 29, 0, 0, 0), none, none, some (.iload_n 3, 0, 0, 0), some (.iconst 1, 0, 0, 0), some (.if_icmp .lt 8, 0, 0, 0), none, none, some (.iload_n 3, 0, 0, 0), some (.iconst 4, 0, 0, 0), some (.if_icmp .le 9, 0, 0, 0), none, none, some (.iload_n 3, 0, 0, 0), some (.bipush 6, 0, 0, 0), none, some (.if_icmp .ne 17, 0, 0, 0), none, none, some (.aload_n 0, 0, 0, 0), some (.getfield 19, 8, 3, 2), none, none, some (.iload_n 1, 0, 0, 0), some (.iaload, 0, 0, 0), some (.iload_n 2, 0, 0, 0), some (.if_icmp .ne 7, 0, 0, 0), none, none, some (.iconst 1, 0, 0, 0), some (.goto 4, 0, 0, 0), none, none, some (.iconst 0, 0, 0, 0), some (.ireturn, 0, 0, 1)]
abbrev kX8_reads : Nat := 77
def eX8_reads : zE := (yX8_reads, cX8_reads, 4, some .boolean, 2, false, 8, tX8_reads)
def tX8_writes : List (Option zR) := [some (.aload_n 0, 0, 0, 0), some (.getfield 7, 8, 0, 2), none, none, some (.iload_n 1, 0, 0, 0), some (.iaload, 0, 0, 0), some (.bipush 6, 0, 0, 0), none, some (.if_icmp .eq 17, 0, 0, 0), none, none, some (.aload_n 0, 0, 0, 0), some (.getfield 13, 8, 1, 2), none, none, some (.iload_n 1, 0, 0, 0), some (.iaload, 0, 0, 0), some (.iload_n 2, 0, 0, 0), some (.if_icmp .ne 7, 0, 0, 0), none, none, some (.iconst 1, 0, 0, 0), some (.goto 4, 0, 0, 0), none, none, some (.iconst 0, 0, 0, 0), some (.ireturn, 0, 0, 1)]
abbrev kX8_writes : Nat := 78
def eX8_writes : zE := (yX8_writes, cX8_writes, 3, some .boolean, 2, false, 8, tX8_writes)
def tX8_isWritten : List (Option zR) := [some (.iload_n 1, 0, 0, 0), some (.istore 4, 0, 0, 0), none, some (.iload 4, 0, 0, 0), none, some (.iload_n 2, 0, 0, 0), some (.if_icmp .ge 21, 0, 0, 0), none, none, some (.aload_n 0, 0, 0, 0), some (.iload 4, 0, 0, 0), none, some (.iload_n 3, 0, 0, 0), some (.invokevirtual 86, 78, 2, 32), none, none, some (.ifCond .eq 5, 0, 0, 0), none, none, some (.iconst 1, 0, 0, 0), some (.ireturn, 0, 0, 1), some (.iinc 4 1, 0, 0, 0), none, none, some (.goto (-21), 0, 0, 0), none, none, some (.iconst 0, 0, 0, 0), some (.ireturn, 0, 0, 1)]
abbrev kX8_isWritten : Nat := 79
def eX8_isWritten : zE := (yX8_isWritten, cX8_isWritten, 5, some .boolean, 3, false, 8, tX8_isWritten)
def tX8_latencyOf : List (Option zR) := [some (.aload_n 0, 0, 0, 0), some (.getfield 25, 8, 6, 2), none, none, some (.aload_n 0, 0, 0, 0), some (.getfield 7, 8, 0, 2), none, none, some (.iload_n 1, 0, 0, 0), some (.iaload, 0, 0, 0), some (.iaload, 0, 0, 0), some (.ireturn, 0, 0, 0)]
abbrev kX8_latencyOf : Nat := 80
def eX8_latencyOf : zE := (yX8_latencyOf, cX8_latencyOf, 2, some .int, 1, false, 8, tX8_latencyOf)
def tX8_mayMeet : List (Option zR) := [some (.aload_n 0, 0, 0, 0), some (.getfield 16, 8, 2, 2), none, none, some (.iload_n 1, 0, 0, 0), some (.iaload, 0, 0, 0), some (.aload_n 0, 0, 0, 0), some (.getfield 16, 8, 2, 2), none, none, some (.iload_n 2, 0, 0, 0), some (.iaload, 0, 0, 0), some (.if_icmp .ne 39, 0, 0, 0), none, none, some (.aload_n 0, 0, 0, 0), some (.iload_n 1, 0, 0, 0), some (.iload_n 2, 0, 0, 0), some (.aload_n 0, 0, 0, 0), some (.getfield 16, 8, 2, 2), none, none, some (.iload_n 1, 0, 0, 0), some (.iaload, 0, 0, 0), some (.invokevirtual 90, 79, 3, 32), none, none, some (.ifCond .ne 24, 0, 0, 0), none, none, some (.aload_n 0, 0, 0, 0), some (.getfield 22, 8, 4, 2), none, none, some (.iload_n 1, 0, 0, 0), some (.iaload, 0, 0, 0), some (.bipush 63, 0, 0, 0), none, some (.iand, 0, 0, 0), some (.aload_n 0, 0, 0, 0), some (.getfield 22, 8, 4, 2), none, none, some (.iload_n 2, 0, 0, 0), some (.iaload, 0, 0, 0), some (.bipush 63, 0, 0, 0), none, some (.iand, 0, 0, 0), some (.if_icmp .ne 7, 0, 0, 0), none, none, some (.iconst 1, 0, 0, 0), some (.goto 4, 0, 0, 0), none, none, some (.iconst 0, 0, 0, 0), some (.ireturn, 0, 0, 1)]
abbrev kX8_mayMeet : Nat := 81
def eX8_mayMeet : zE := (yX8_mayMeet, cX8_mayMeet, 3, some .boolean, 2, false, 8, tX8_mayMeet)
def tX8_memoryDelay : List (Option zR) := [some (.aload_n 0, 0, 0, 0), some (.getfield 7, 8, 0, 2), none, none, some (.iload_n 1, 0, 0, 0), some (.iaload, 0, 0, 0), some (.iconst 5, 0, 0, 0), some (.if_icmp .lt 39, 0, 0, 0), none, none, some (.aload_n 0, 0, 0, 0), some (.getfield 7, 8, 0, 2), none, none, some (.iload_n 2, 0, 0, 0), some (.iaload, 0, 0, 0), some (.iconst 5, 0, 0, 0), some (.if_icmp .lt 29, 0, 0, 0), none, none, some (.aload_n 0, 0, 0, 0), some (.getfield 7, 8, 0, 2), none, none, some (.iload_n 1, 0, 0, 0), some (.iaload, 0, 0, 0), some (.bipush 6, 0, 0, 0), none, some (.if_icmp .eq 14, 0, 0, 0), none, none, some (.aload_n 0, 0, 0, 0), some (.getfield 7, 8, 0, 2), none, none, some (.iload_n 2, 0, 0, 0), some (.iaload, 0, 0, 0), some (.bipush 6, 0, 0, 0), none, some (.if_icmp .ne 7, 0, 0, 0), none, none, some (.iconst 1, 0, 0, 0), some (.goto 4, 0, 0, 0), none, none, some (.iconst 0, 0, 0, 0), some (.istore_n 3, 0, 0, 0), some (.iload_n 3, 0, 0, 0), some (.ifCond .eq 12, 0, 0, 0), none, none, some (.aload_n 0, 0, 0, 0), some (.iload_n 1, 0, 0, 0), some (.iload_n 2, 0, 0, 0), some (.invokevirtual 94, 81, 2, 32), none, none, some (.ifCond .ne 5, 0, 0, 0), none, none, some (.iconst (-1), 0, 0, 0), some (.ireturn, 0, 0, 0), some (.aload_n 0, 0, 0, 0), some (.getfield 7, 8, 0, 2), none, none, some (.iload_n 1, 0, 0, 0), some (.iaload, 0, 0, 0), some (.iconst 5, 0, 0, 0), some (.if_icmp .ne 7, 0, 0, 0), none, none, some (.iconst 0, 0, 0, 0), some (.goto 22, 0, 0, 0), none, none, some (.aload_n 0, 0, 0, 0), some (.getfield 7, 8, 0, 2), none, none, some (.iload_n 2, 0, 0, 0), some (.iaload, 0, 0, 0), some (.iconst 5, 0, 0, 0), some (.if_icmp .ne 11, 0, 0, 0), none, none, some (.aload_n 0, 0, 0, 0), some (.iload_n 1, 0, 0, 0), some (.invokevirtual 97, 80, 1, 32), none, none, some (.goto 4, 0, 0, 0), none, none, some (.iconst 1, 0, 0, 0), some (.ireturn, 0, 0, 0)]
abbrev kX8_memoryDelay : Nat := 82
def eX8_memoryDelay : zE := (yX8_memoryDelay, cX8_memoryDelay, 4, some .int, 2, false, 8, tX8_memoryDelay)
def tX8_delayOf : List (Option zR) := [some (.aload_n 0, 0, 0, 0), some (.iload_n 1, 0, 0, 0), some (.iload_n 2, 0, 0, 0), some (.invokevirtual 101, 82, 2, 32), none, none, some (.istore_n 3, 0, 0, 0), some (.iconst 0, 0, 0, 0), some (.istore 4, 0, 0, 0), none, some (.iload 4, 0, 0, 0), none, some (.bipush 16, 0, 0, 0), none, some (.if_icmp .ge 145, 0, 0, 0), none, none, some (.aload_n 0, 0, 0, 0), some (.iload_n 1, 0, 0, 0), some (.iconst 1, 0, 0, 0), some (.iadd, 0, 0, 0), some (.iload_n 2, 0, 0, 0), some (.iload 4, 0, 0, 0), none, some (.invokevirtual 90, 79, 3, 32), none, none, some (.ifCond .ne 126, 0, 0, 0), none, none, some (.aload_n 0, 0, 0, 0), some (.iload_n 1, 0, 0, 0), some (.iload 4, 0, 0, 0), none, some (.invokevirtual 86, 78, 2, 32), none, none, some (.ifCond .eq 28, 0, 0, 0), none, none, some (.aload_n 0, 0, 0, 0), some (.iload_n 2, 0, 0, 0), some (.iload 4, 0, 0, 0), none, some (.invokevirtual 105, 77, 2, 32), none, none, some (.ifCond .eq 18, 0, 0, 0), none, none, some (.aload_n 0, 0, 0, 0), some (.iload_n 1, 0, 0, 0), some (.invokevirtual 97, 80, 1, 32), none, none, some (.iload_n 3, 0, 0, 0), some (.if_icmp .le 9, 0, 0, 0), none, none, some (.aload_n 0, 0, 0, 0), some (.iload_n 1, 0, 0, 0), some (.invokevirtual 97, 80, 1, 32), none, none, some (.istore_n 3, 0, 0, 0), some (.aload_n 0, 0, 0, 0), some (.iload_n 1, 0, 0, 0), some (.iload 4, 0, 0, 0), none, some (.invokevirtual 105, 77, 2, 32), none, none, some (.ifCond .eq 19, 0, 0, 0), none, none, some (.aload_n 0, 0, 0, 0), some (.iload_n 2, 0, 0, 0), some (.iload 4, 0, 0, 0), none, some (.invokevirtual 86, 78, 2, 32), none, none, some (.ifCond .eq 9, 0, 0, 0), none, none, some (.iload_n 3, 0, 0, 0), some (.ifCond .ge 5, 0, 0, 0), none, none, some (.iconst 0, 0, 0, 0), some (.istore_n 3, 0, 0, 0), some (.aload_n 0, 0, 0, 0), some (.iload_n 1, 0, 0, 0), some (.iload 4, 0, 0, 0), none, some (.invokevirtual 86, 78, 2, 32), none, none, some (.ifCond .eq 55, 0, 0, 0), none, none, some (.aload_n 0, 0, 0, 0), some (.iload_n 2, 0, 0, 0), some (.iload 4, 0, 0, 0), none, some (.invokevirtual 86, 78, 2, 32), none, none, some (.ifCond .eq 45, 0, 0, 0), none, none, some (.aload_n 0, 0, 0, 0), some (.iload_n 1, 0, 0, 0), some (.invokevirtual 97, 80, 1, 32), none, none, some (.aload_n 0, 0, 0, 0), some (.iload_n 2, 0, 0, 0), some (.invokevirtual 97, 80, 1, 32), none, none, some (.isub, 0, 0, 0), some (.iconst 1, 0, 0, 0), some (.iadd, 0, 0, 0), some (.istore 5, 0, 0, 0), none, some (.iload 5, 0, 0, 0), none, some (.iconst 1, 0, 0, 0), some (.if_icmp .ge 7, 0, 0, 0), none, none, some (.iconst 1, 0, 0, 0), some (.goto 5, 0, 0, 0), none, none, some (.iload 5, 0, 0, 0), none, some (.istore 5, 0, 0, 0), none, some (.iload 5, 0, 0, 0), none, some (.iload_n 3, 0, 0, 0), some (.if_icmp .le 8, 0, 0, 0), none, none, some (.iload 5, 0, 0, 0), none, some (.goto 4, 0, 0, 0), none, none, some (.iload_n 3, 0, 0, 0), some (.istore_n 3, 0, 0, 0), some (.iinc 4 1, 0, 0, 0), none, none, some (.goto (-146), 0, 0, 0), none, none, some (.iload_n 3, 0, 0, 0), some (.ireturn, 0, 0, 0)]
abbrev kX8_delayOf : Nat := 83
def eX8_delayOf : zE := (yX8_delayOf, cX8_delayOf, 6, some .int, 2, false, 8, tX8_delayOf)
def tX8_delayAt : List (Option zR) := [some (.aload_n 0, 0, 0, 0), some (.getfield 32, 8, 8, 2), none, none, some (.bipush 60, 0, 0, 0), none, some (.iload_n 1, 0, 0, 0), some (.imul, 0, 0, 0), some (.iload_n 2, 0, 0, 0), some (.iadd, 0, 0, 0), some (.iaload, 0, 0, 0), some (.ireturn, 0, 0, 0)]
abbrev kX8_delayAt : Nat := 84
def eX8_delayAt : zE := (yX8_delayAt, cX8_delayAt, 3, some .int, 2, false, 8, tX8_delayAt)
def tX8_work : List (Option zR) := [some (.aload_n 0, 0, 0, 0), some (.getfield 108, 8, 9, 1), none, none, some (.ifCond .eq 4, 0, 0, 0), none, none, some (.return_, 0, 0, 0), some (.aload_n 0, 0, 0, 0), some (.iconst 1, 0, 0, 0), some (.putfield 108, 8, 9, 1), none, none, some (.iconst 0, 0, 0, 0), some (.istore_n 1, 0, 0, 0), some (.iload_n 1, 0, 0, 0), some (.aload_n 0, 0, 0, 0), some (.getfield 112, 8, 5, 0), none, none, some (.if_icmp .ge 51, 0, 0, 0), none, none, some (.iconst 0, 0, 0, 0), some (.istore_n 2, 0, 0, 0), some (.iload_n 2, 0, 0, 0), some (.aload_n 0, 0, 0, 0), some (.getfield 112, 8, 5, 0), none, none, some (.if_icmp .ge 35, 0, 0, 0), none, none, some (.aload_n 0, 0, 0, 0), some (.getfield 32, 8, 8, 2), none, none, some (.bipush 60, 0, 0, 0), none, some (.iload_n 1, 0, 0, 0), some (.imul, 0, 0, 0), some (.iload_n 2, 0, 0, 0), some (.iadd, 0, 0, 0), some (.iload_n 1, 0, 0, 0), some (.iload_n 2, 0, 0, 0), some (.if_icmp .ge 12, 0, 0, 0), none, none, some (.aload_n 0, 0, 0, 0), some (.iload_n 1, 0, 0, 0), some (.iload_n 2, 0, 0, 0), some (.invokevirtual 115, 83, 2, 32), none, none, some (.goto 4, 0, 0, 0), none, none, some (.iconst (-1), 0, 0, 0), some (.iastore, 0, 0, 0), some (.iinc 2 1, 0, 0, 0), none, none, some (.goto (-37), 0, 0, 0), none, none, some (.iinc 1 1, 0, 0, 0), none, none, some (.goto (-53), 0, 0, 0), none, none, some (.aload_n 0, 0, 0, 0), some (.getfield 112, 8, 5, 0), none, none, some (.iconst 1, 0, 0, 0), some (.isub, 0, 0, 0), some (.istore_n 1, 0, 0, 0), some (.iload_n 1, 0, 0, 0), some (.ifCond .lt 88, 0, 0, 0), none, none, some (.aload_n 0, 0, 0, 0), some (.getfield 35, 8, 10, 2), none, none, some (.iload_n 1, 0, 0, 0), some (.aload_n 0, 0, 0, 0), some (.iload_n 1, 0, 0, 0), some (.invokevirtual 97, 80, 1, 32), none, none, some (.iastore, 0, 0, 0), some (.iload_n 1, 0, 0, 0), some (.iconst 1, 0, 0, 0), some (.iadd, 0, 0, 0), some (.istore_n 2, 0, 0, 0), some (.iload_n 2, 0, 0, 0), some (.aload_n 0, 0, 0, 0), some (.getfield 112, 8, 5, 0), none, none, some (.if_icmp .ge 59, 0, 0, 0), none, none, some (.aload_n 0, 0, 0, 0), some (.iload_n 1, 0, 0, 0), some (.iload_n 2, 0, 0, 0), some (.invokevirtual 118, 84, 2, 32), none, none, some (.ifCond .lt 44, 0, 0, 0), none, none, some (.aload_n 0, 0, 0, 0), some (.iload_n 1, 0, 0, 0), some (.iload_n 2, 0, 0, 0), some (.invokevirtual 118, 84, 2, 32), none, none, some (.aload_n 0, 0, 0, 0), some (.getfield 35, 8, 10, 2), none, none, some (.iload_n 2, 0, 0, 0), some (.iaload, 0, 0, 0), some (.iadd, 0, 0, 0), some (.aload_n 0, 0, 0, 0), some (.getfield 35, 8, 10, 2), none, none, some (.iload_n 1, 0, 0, 0), some (.iaload, 0, 0, 0), some (.if_icmp .le 22, 0, 0, 0), none, none, some (.aload_n 0, 0, 0, 0), some (.getfield 35, 8, 10, 2), none, none, some (.iload_n 1, 0, 0, 0), some (.aload_n 0, 0, 0, 0), some (.iload_n 1, 0, 0, 0), some (.iload_n 2, 0, 0, 0), some (.invokevirtual 118, 84, 2, 32), none, none, some (.aload_n 0, 0, 0, 0), some (.getfield 35, 8, 10, 2), none, none, some (.iload_n 2, 0, 0, 0), some (.iaload, 0, 0, 0), some (.iadd, 0, 0, 0), some (.iastore, 0, 0, 0), some (.iinc 2 1, 0, 0, 0), none, none, some (.goto (-61), 0, 0, 0), none, none, some (.iinc 1 (-1), 0, 0, 0), none, none, some (.goto (-86), 0, 0, 0), none, none, some (.iconst 0, 0, 0, 0), some (.istore_n 1, 0, 0, 0), some (.iload_n 1, 0, 0, 0), some (.aload_n 0, 0, 0, 0), some (.getfield 112, 8, 5, 0), none, none, some (.if_icmp .ge 79, 0, 0, 0), none, none, some (.aload_n 0, 0, 0, 0), some (.getfield 38, 8, 11, 2), none, none, some (.iload_n 1, 0, 0, 0), some (.iconst 0, 0, 0, 0), some (.iastore, 0, 0, 0), some (.iconst 0, 0, 0, 0), some (.istore_n 2, 0, 0, 0), some (.iload_n 2, 0, 0, 0), some (.iload_n 1, 0, 0, 0), some (.if_icmp .ge 59, 0, 0, 0), none, none, some (.aload_n 0, 0, 0, 0), some (.iload_n 2, 0, 0, 0), some (.iload_n 1, 0, 0, 0), some (.invokevirtual 118, 84, 2, 32), none, none, some (.ifCond .lt 44, 0, 0, 0), none, none, some (.aload_n 0, 0, 0, 0), some (.getfield 38, 8, 11, 2), none, none, some (.iload_n 2, 0, 0, 0), some (.iaload, 0, 0, 0), some (.aload_n 0, 0, 0, 0), some (.iload_n 2, 0, 0, 0), some (.iload_n 1, 0, 0, 0), some (.invokevirtual 118, 84, 2, 32), none, none, some (.iadd, 0, 0, 0), some (.aload_n 0, 0, 0, 0), some (.getfield 38, 8, 11, 2), none, none, some (.iload_n 1, 0, 0, 0), some (.iaload, 0, 0, 0), some (.if_icmp .le 22, 0, 0, 0), none, none, some (.aload_n 0, 0, 0, 0), some (.getfield 38, 8, 11, 2), none, none, some (.iload_n 1, 0, 0, 0), some (.aload_n 0, 0, 0, 0), some (.getfield 38, 8, 11, 2), none, none, some (.iload_n 2, 0, 0, 0), some (.iaload, 0, 0, 0), some (.aload_n 0, 0, 0, 0), some (.iload_n 2, 0, 0, 0), some (.iload_n 1, 0, 0, 0), some (.invokevirtual 118, 84, 2, 32), none, none, some (.iadd, 0, 0, 0), some (.iastore, 0, 0, 0), some (.iinc 2 1, 0, 0, 0), none, none, some (.goto (-58), 0, 0, 0), none, none, some (.iinc 1 1, 0, 0, 0), none, none, some (.goto (-81), 0, 0, 0), none, none, some (.aload_n 0, 0, 0, 0), some (.invokevirtual 121, 87, 0, 32), none, none, some (.iconst 0, 0, 0, 0), some (.istore_n 1, 0, 0, 0), some (.iload_n 1, 0, 0, 0), some (.aload_n 0, 0, 0, 0), some (.getfield 112, 8, 5, 0), none, none, some (.if_icmp .ge 16, 0, 0, 0), none, none, some (.aload_n 0, 0, 0, 0), some (.getfield 56, 8, 18, 2), none, none, some (.iload_n 1, 0, 0, 0), some (.iload_n 1, 0, 0, 0), some (.iastore, 0, 0, 0), some (.iinc 1 1, 0, 0, 0), none, none, some (.goto (-18), 0, 0, 0), none, none, some (.aload_n 0, 0, 0, 0), some (.aload_n 0, 0, 0, 0), some (.getfield 47, 8, 14, 2), none, none, some (.invokevirtual 124, 90, 1, 32), none, none, some (.iconst 0, 0, 0, 0), some (.istore_n 1, 0, 0, 0), some (.iload_n 1, 0, 0, 0), some (.aload_n 0, 0, 0, 0), some (.getfield 112, 8, 5, 0), none, none, some (.if_icmp .ge 21, 0, 0, 0), none, none, some (.aload_n 0, 0, 0, 0), some (.getfield 56, 8, 18, 2), none, none, some (.iload_n 1, 0, 0, 0), some (.aload_n 0, 0, 0, 0), some (.getfield 44, 8, 13, 2), none, none, some (.iload_n 1, 0, 0, 0), some (.iaload, 0, 0, 0), some (.iastore, 0, 0, 0), some (.iinc 1 1, 0, 0, 0), none, none, some (.goto (-23), 0, 0, 0), none, none, some (.aload_n 0, 0, 0, 0), some (.aload_n 0, 0, 0, 0), some (.getfield 50, 8, 15, 2), none, none, some (.invokevirtual 124, 90, 1, 32), none, none, some (.aload_n 0, 0, 0, 0), some (.aload_n 0, 0, 0, 0), some (.getfield 112, 8, 5, 0), none, none, some (.bipush 7, 0, 0, 0), none, some (.if_icmp .le 8, 0, 0, 0), none, none, some (.bipush (-3), 0, 0, 0), none, some (.goto 7, 0, 0, 0), none, none, some (.aload_n 0, 0, 0, 0), some (.invokevirtual 128, 95, 0, 32), none, none, some (.putfield 132, 8, 17, 0), none, none, some (.return_, 0, 0, 0)]
abbrev kX8_work : Nat := 85
def eX8_work : zE := (yX8_work, cX8_work, 3, none, 0, false, 8, tX8_work)
def tX8_mayBegin : List (Option zR) := [some (.iconst 1, 0, 0, 0), some (.istore_n 3, 0, 0, 0), some (.iconst 0, 0, 0, 0), some (.istore 4, 0, 0, 0), none, some (.iload 4, 0, 0, 0), none, some (.iload_n 1, 0, 0, 0), some (.if_icmp .ge 58, 0, 0, 0), none, none, some (.iload_n 3, 0, 0, 0), some (.ifCond .eq 54, 0, 0, 0), none, none, some (.aload_n 0, 0, 0, 0), some (.iload 4, 0, 0, 0), none, some (.iload_n 1, 0, 0, 0), some (.invokevirtual 118, 84, 2, 32), none, none, some (.ifCond .lt 32, 0, 0, 0), none, none, some (.aload_n 0, 0, 0, 0), some (.getfield 41, 8, 12, 2), none, none, some (.iload 4, 0, 0, 0), none, some (.iaload, 0, 0, 0), some (.ifCond .lt 26, 0, 0, 0), none, none, some (.aload_n 0, 0, 0, 0), some (.getfield 41, 8, 12, 2), none, none, some (.iload 4, 0, 0, 0), none, some (.iaload, 0, 0, 0), some (.aload_n 0, 0, 0, 0), some (.iload 4, 0, 0, 0), none, some (.iload_n 1, 0, 0, 0), some (.invokevirtual 118, 84, 2, 32), none, none, some (.iadd, 0, 0, 0), some (.iload_n 2, 0, 0, 0), some (.if_icmp .gt 7, 0, 0, 0), none, none, some (.iconst 1, 0, 0, 0), some (.goto 4, 0, 0, 0), none, none, some (.iconst 0, 0, 0, 0), some (.istore_n 3, 0, 0, 0), some (.iinc 4 1, 0, 0, 0), none, none, some (.goto (-58), 0, 0, 0), none, none, some (.iload_n 3, 0, 0, 0), some (.ireturn, 0, 0, 1)]
abbrev kX8_mayBegin : Nat := 86
def eX8_mayBegin : zE := (yX8_mayBegin, cX8_mayBegin, 5, some .boolean, 2, false, 8, tX8_mayBegin)
def tX8_makeList : List (Option zR) := [some (.iconst 0, 0, 0, 0), some (.istore_n 1, 0, 0, 0), some (.iload_n 1, 0, 0, 0), some (.aload_n 0, 0, 0, 0), some (.getfield 112, 8, 5, 0), none, none, some (.if_icmp .ge 16, 0, 0, 0), none, none, some (.aload_n 0, 0, 0, 0), some (.getfield 41, 8, 12, 2), none, none, some (.iload_n 1, 0, 0, 0), some (.iconst (-1), 0, 0, 0), some (.iastore, 0, 0, 0), some (.iinc 1 1, 0, 0, 0), none, none, some (.goto (-18), 0, 0, 0), none, none, some (.iconst 0, 0, 0, 0), some (.istore_n 1, 0, 0, 0), some (.iconst 0, 0, 0, 0), some (.istore_n 2, 0, 0, 0), some (.iload_n 1, 0, 0, 0), some (.aload_n 0, 0, 0, 0), some (.getfield 112, 8, 5, 0), none, none, some (.if_icmp .ge 135, 0, 0, 0), none, none, some (.aload_n 0, 0, 0, 0), some (.getfield 28, 8, 7, 0), none, none, some (.istore_n 3, 0, 0, 0), some (.iconst 1, 0, 0, 0), some (.istore 4, 0, 0, 0), none, some (.iload_n 3, 0, 0, 0), some (.ifCond .le 117, 0, 0, 0), none, none, some (.iload 4, 0, 0, 0), none, some (.ifCond .eq 112, 0, 0, 0), none, none, some (.iconst (-1), 0, 0, 0), some (.istore 5, 0, 0, 0), none, some (.iconst 0, 0, 0, 0), some (.istore 6, 0, 0, 0), none, some (.iload 6, 0, 0, 0), none, some (.aload_n 0, 0, 0, 0), some (.getfield 112, 8, 5, 0), none, none, some (.if_icmp .ge 55, 0, 0, 0), none, none, some (.aload_n 0, 0, 0, 0), some (.getfield 41, 8, 12, 2), none, none, some (.iload 6, 0, 0, 0), none, some (.iaload, 0, 0, 0), some (.ifCond .ge 39, 0, 0, 0), none, none, some (.iload 5, 0, 0, 0), none, some (.ifCond .lt 20, 0, 0, 0), none, none, some (.aload_n 0, 0, 0, 0), some (.getfield 35, 8, 10, 2), none, none, some (.iload 6, 0, 0, 0), none, some (.iaload, 0, 0, 0), some (.aload_n 0, 0, 0, 0), some (.getfield 35, 8, 10, 2), none, none, some (.iload 5, 0, 0, 0), none, some (.iaload, 0, 0, 0), some (.if_icmp .le 17, 0, 0, 0), none, none, some (.aload_n 0, 0, 0, 0), some (.iload 6, 0, 0, 0), none, some (.iload_n 2, 0, 0, 0), some (.invokevirtual 135, 86, 2, 32), none, none, some (.ifCond .eq 7, 0, 0, 0), none, none, some (.iload 6, 0, 0, 0), none, some (.istore 5, 0, 0, 0), none, some (.iinc 6 1, 0, 0, 0), none, none, some (.goto (-58), 0, 0, 0), none, none, some (.iload 5, 0, 0, 0), none, some (.ifCond .lt 7, 0, 0, 0), none, none, some (.iconst 1, 0, 0, 0), some (.goto 4, 0, 0, 0), none, none, some (.iconst 0, 0, 0, 0), some (.istore 4, 0, 0, 0), none, some (.iload 4, 0, 0, 0), none, some (.ifCond .eq 25, 0, 0, 0), none, none, some (.aload_n 0, 0, 0, 0), some (.getfield 41, 8, 12, 2), none, none, some (.iload 5, 0, 0, 0), none, some (.iload_n 2, 0, 0, 0), some (.iastore, 0, 0, 0), some (.aload_n 0, 0, 0, 0), some (.getfield 44, 8, 13, 2), none, none, some (.iload_n 1, 0, 0, 0), some (.iload 5, 0, 0, 0), none, some (.iastore, 0, 0, 0), some (.iinc 1 1, 0, 0, 0), none, none, some (.iinc 3 (-1), 0, 0, 0), none, none, some (.goto (-115), 0, 0, 0), none, none, some (.iinc 2 1, 0, 0, 0), none, none, some (.goto (-137), 0, 0, 0), none, none, some (.return_, 0, 0, 0)]
abbrev kX8_makeList : Nat := 87
def eX8_makeList : zE := (yX8_makeList, cX8_makeList, 7, none, 0, false, 8, tX8_makeList)
def tX8_inCycle : List (Option zR) := [some (.iconst 0, 0, 0, 0), some (.istore 4, 0, 0, 0), none, some (.iconst 0, 0, 0, 0), some (.istore 5, 0, 0, 0), none, some (.iload 5, 0, 0, 0), none, some (.iload_n 2, 0, 0, 0), some (.if_icmp .ge 33, 0, 0, 0), none, none, some (.aload_n 1, 0, 0, 0), some (.aload_n 0, 0, 0, 0), some (.getfield 56, 8, 18, 2), none, none, some (.iload 5, 0, 0, 0), none, some (.iaload, 0, 0, 0), some (.iaload, 0, 0, 0), some (.iload_n 3, 0, 0, 0), some (.if_icmp .ne 10, 0, 0, 0), none, none, some (.iload 4, 0, 0, 0), none, some (.iconst 1, 0, 0, 0), some (.iadd, 0, 0, 0), some (.goto 5, 0, 0, 0), none, none, some (.iload 4, 0, 0, 0), none, some (.istore 4, 0, 0, 0), none, some (.iinc 5 1, 0, 0, 0), none, none, some (.goto (-33), 0, 0, 0), none, none, some (.iload 4, 0, 0, 0), none, some (.ireturn, 0, 0, 0)]
abbrev kX8_inCycle : Nat := 88
def eX8_inCycle : zE := (yX8_inCycle, cX8_inCycle, 6, some .int, 3, false, 8, tX8_inCycle)
def tX8_leastCycle : List (Option zR) := [some (.aload_n 0, 0, 0, 0), some (.getfield 56, 8, 18, 2), none, none, some (.iload_n 2, 0, 0, 0), some (.iaload, 0, 0, 0), some (.istore 4, 0, 0, 0), none, some (.iload_n 3, 0, 0, 0), some (.istore 5, 0, 0, 0), none, some (.iconst 0, 0, 0, 0), some (.istore 6, 0, 0, 0), none, some (.iload 6, 0, 0, 0), none, some (.iload_n 2, 0, 0, 0), some (.if_icmp .ge 60, 0, 0, 0), none, none, some (.aload_n 0, 0, 0, 0), some (.aload_n 0, 0, 0, 0), some (.getfield 56, 8, 18, 2), none, none, some (.iload 6, 0, 0, 0), none, some (.iaload, 0, 0, 0), some (.iload 4, 0, 0, 0), none, some (.invokevirtual 118, 84, 2, 32), none, none, some (.istore 7, 0, 0, 0), none, some (.iload 7, 0, 0, 0), none, some (.ifCond .lt 34, 0, 0, 0), none, none, some (.aload_n 1, 0, 0, 0), some (.aload_n 0, 0, 0, 0), some (.getfield 56, 8, 18, 2), none, none, some (.iload 6, 0, 0, 0), none, some (.iaload, 0, 0, 0), some (.iaload, 0, 0, 0), some (.iload 7, 0, 0, 0), none, some (.iadd, 0, 0, 0), some (.iload 5, 0, 0, 0), none, some (.if_icmp .le 17, 0, 0, 0), none, none, some (.aload_n 1, 0, 0, 0), some (.aload_n 0, 0, 0, 0), some (.getfield 56, 8, 18, 2), none, none, some (.iload 6, 0, 0, 0), none, some (.iaload, 0, 0, 0), some (.iaload, 0, 0, 0), some (.iload 7, 0, 0, 0), none, some (.iadd, 0, 0, 0), some (.istore 5, 0, 0, 0), none, some (.iinc 6 1, 0, 0, 0), none, none, some (.goto (-60), 0, 0, 0), none, none, some (.aload_n 0, 0, 0, 0), some (.aload_n 1, 0, 0, 0), some (.iload_n 2, 0, 0, 0), some (.iload 5, 0, 0, 0), none, some (.invokevirtual 138, 88, 3, 32), none, none, some (.aload_n 0, 0, 0, 0), some (.getfield 28, 8, 7, 0), none, none, some (.if_icmp .lt 9, 0, 0, 0), none, none, some (.iinc 5 1, 0, 0, 0), none, none, some (.goto (-18), 0, 0, 0), none, none, some (.iload 5, 0, 0, 0), none, some (.ireturn, 0, 0, 0)]
abbrev kX8_leastCycle : Nat := 89
def eX8_leastCycle : zE := (yX8_leastCycle, cX8_leastCycle, 8, some .int, 3, false, 8, tX8_leastCycle)
def tX8_inOrder : List (Option zR) := [some (.iconst 0, 0, 0, 0), some (.istore_n 2, 0, 0, 0), some (.iconst 0, 0, 0, 0), some (.istore_n 3, 0, 0, 0), some (.iload_n 3, 0, 0, 0), some (.aload_n 0, 0, 0, 0), some (.getfield 112, 8, 5, 0), none, none, some (.if_icmp .ge 26, 0, 0, 0), none, none, some (.aload_n 0, 0, 0, 0), some (.aload_n 1, 0, 0, 0), some (.iload_n 3, 0, 0, 0), some (.iload_n 2, 0, 0, 0), some (.invokevirtual 142, 89, 3, 32), none, none, some (.istore_n 2, 0, 0, 0), some (.aload_n 1, 0, 0, 0), some (.aload_n 0, 0, 0, 0), some (.getfield 56, 8, 18, 2), none, none, some (.iload_n 3, 0, 0, 0), some (.iaload, 0, 0, 0), some (.iload_n 2, 0, 0, 0), some (.iastore, 0, 0, 0), some (.iinc 3 1, 0, 0, 0), none, none, some (.goto (-28), 0, 0, 0), none, none, some (.return_, 0, 0, 0)]
abbrev kX8_inOrder : Nat := 90
def eX8_inOrder : zE := (yX8_inOrder, cX8_inOrder, 4, none, 1, false, 8, tX8_inOrder)
def tX8_lengthOf : List (Option zR) := [some (.iconst 0, 0, 0, 0), some (.istore_n 2, 0, 0, 0), some (.iconst 0, 0, 0, 0), some (.istore_n 3, 0, 0, 0), some (.iload_n 3, 0, 0, 0), some (.aload_n 0, 0, 0, 0), some (.getfield 112, 8, 5, 0), none, none, some (.if_icmp .ge 36, 0, 0, 0), none, none, some (.aload_n 1, 0, 0, 0), some (.iload_n 3, 0, 0, 0), some (.iaload, 0, 0, 0), some (.aload_n 0, 0, 0, 0), some (.iload_n 3, 0, 0, 0), some (.invokevirtual 97, 80, 1, 32), none, none, some (.iadd, 0, 0, 0), some (.iload_n 2, 0, 0, 0), some (.if_icmp .le 15, 0, 0, 0), none, none, some (.aload_n 1, 0, 0, 0), some (.iload_n 3, 0, 0, 0), some (.iaload, 0, 0, 0), some (.aload_n 0, 0, 0, 0), some (.iload_n 3, 0, 0, 0), some (.invokevirtual 97, 80, 1, 32), none, none, some (.iadd, 0, 0, 0), some (.goto 4, 0, 0, 0), none, none, some (.iload_n 2, 0, 0, 0), some (.istore_n 2, 0, 0, 0), some (.iinc 3 1, 0, 0, 0), none, none, some (.goto (-38), 0, 0, 0), none, none, some (.iload_n 2, 0, 0, 0), some (.ireturn, 0, 0, 0)]
abbrev kX8_lengthOf : Nat := 91
def eX8_lengthOf : zE := (yX8_lengthOf, cX8_lengthOf, 4, some .int, 1, false, 8, tX8_lengthOf)
def tX8_nextRow : List (Option zR) := [some (.aload_n 0, 0, 0, 0), some (.getfield 112, 8, 5, 0), none, none, some (.iconst 2, 0, 0, 0), some (.isub, 0, 0, 0), some (.istore_n 1, 0, 0, 0), some (.iload_n 1, 0, 0, 0), some (.ifCond .lt 26, 0, 0, 0), none, none, some (.aload_n 0, 0, 0, 0), some (.getfield 56, 8, 18, 2), none, none, some (.iload_n 1, 0, 0, 0), some (.iaload, 0, 0, 0), some (.aload_n 0, 0, 0, 0), some (.getfield 56, 8, 18, 2), none, none, some (.iload_n 1, 0, 0, 0), some (.iconst 1, 0, 0, 0), some (.iadd, 0, 0, 0), some (.iaload, 0, 0, 0), some (.if_icmp .le 9, 0, 0, 0), none, none, some (.iinc 1 (-1), 0, 0, 0), none, none, some (.goto (-24), 0, 0, 0), none, none, some (.iload_n 1, 0, 0, 0), some (.ifCond .ge 5, 0, 0, 0), none, none, some (.iconst 0, 0, 0, 0), some (.ireturn, 0, 0, 1), some (.aload_n 0, 0, 0, 0), some (.getfield 112, 8, 5, 0), none, none, some (.iconst 1, 0, 0, 0), some (.isub, 0, 0, 0), some (.istore_n 2, 0, 0, 0), some (.aload_n 0, 0, 0, 0), some (.getfield 56, 8, 18, 2), none, none, some (.iload_n 2, 0, 0, 0), some (.iaload, 0, 0, 0), some (.aload_n 0, 0, 0, 0), some (.getfield 56, 8, 18, 2), none, none, some (.iload_n 1, 0, 0, 0), some (.iaload, 0, 0, 0), some (.if_icmp .ge 9, 0, 0, 0), none, none, some (.iinc 2 (-1), 0, 0, 0), none, none, some (.goto (-18), 0, 0, 0), none, none, some (.aload_n 0, 0, 0, 0), some (.iload_n 1, 0, 0, 0), some (.iload_n 2, 0, 0, 0), some (.invokevirtual 145, 93, 2, 32), none, none, some (.iload_n 1, 0, 0, 0), some (.iconst 1, 0, 0, 0), some (.iadd, 0, 0, 0), some (.istore_n 3, 0, 0, 0), some (.aload_n 0, 0, 0, 0), some (.getfield 112, 8, 5, 0), none, none, some (.iconst 1, 0, 0, 0), some (.isub, 0, 0, 0), some (.istore 4, 0, 0, 0), none, some (.iload_n 3, 0, 0, 0), some (.iload 4, 0, 0, 0), none, some (.if_icmp .ge 19, 0, 0, 0), none, none, some (.aload_n 0, 0, 0, 0), some (.iload_n 3, 0, 0, 0), some (.iload 4, 0, 0, 0), none, some (.invokevirtual 145, 93, 2, 32), none, none, some (.iinc 3 1, 0, 0, 0), none, none, some (.iinc 4 (-1), 0, 0, 0), none, none, some (.goto (-19), 0, 0, 0), none, none, some (.iconst 1, 0, 0, 0), some (.ireturn, 0, 0, 1)]
abbrev kX8_nextRow : Nat := 92
def eX8_nextRow : zE := (yX8_nextRow, cX8_nextRow, 5, some .boolean, 0, false, 8, tX8_nextRow)
def tX8_exchange : List (Option zR) := [some (.aload_n 0, 0, 0, 0), some (.getfield 56, 8, 18, 2), none, none, some (.iload_n 1, 0, 0, 0), some (.iaload, 0, 0, 0), some (.istore_n 3, 0, 0, 0), some (.aload_n 0, 0, 0, 0), some (.getfield 56, 8, 18, 2), none, none, some (.iload_n 1, 0, 0, 0), some (.aload_n 0, 0, 0, 0), some (.getfield 56, 8, 18, 2), none, none, some (.iload_n 2, 0, 0, 0), some (.iaload, 0, 0, 0), some (.iastore, 0, 0, 0), some (.aload_n 0, 0, 0, 0), some (.getfield 56, 8, 18, 2), none, none, some (.iload_n 2, 0, 0, 0), some (.iload_n 3, 0, 0, 0), some (.iastore, 0, 0, 0), some (.return_, 0, 0, 0)]
abbrev kX8_exchange : Nat := 93
def eX8_exchange : zE := (yX8_exchange, cX8_exchange, 4, none, 2, false, 8, tX8_exchange)
def tX8_isKept : List (Option zR) := [some (.iconst 0, 0, 0, 0), some (.istore_n 1, 0, 0, 0), some (.iload_n 1, 0, 0, 0), some (.aload_n 0, 0, 0, 0), some (.getfield 112, 8, 5, 0), none, none, some (.if_icmp .ge 63, 0, 0, 0), none, none, some (.iload_n 1, 0, 0, 0), some (.iconst 1, 0, 0, 0), some (.iadd, 0, 0, 0), some (.istore_n 2, 0, 0, 0), some (.iload_n 2, 0, 0, 0), some (.aload_n 0, 0, 0, 0), some (.getfield 112, 8, 5, 0), none, none, some (.if_icmp .ge 45, 0, 0, 0), none, none, some (.aload_n 0, 0, 0, 0), some (.getfield 56, 8, 18, 2), none, none, some (.iload_n 2, 0, 0, 0), some (.iaload, 0, 0, 0), some (.aload_n 0, 0, 0, 0), some (.getfield 56, 8, 18, 2), none, none, some (.iload_n 1, 0, 0, 0), some (.iaload, 0, 0, 0), some (.if_icmp .ge 24, 0, 0, 0), none, none, some (.aload_n 0, 0, 0, 0), some (.aload_n 0, 0, 0, 0), some (.getfield 56, 8, 18, 2), none, none, some (.iload_n 2, 0, 0, 0), some (.iaload, 0, 0, 0), some (.aload_n 0, 0, 0, 0), some (.getfield 56, 8, 18, 2), none, none, some (.iload_n 1, 0, 0, 0), some (.iaload, 0, 0, 0), some (.invokevirtual 118, 84, 2, 32), none, none, some (.ifCond .lt 5, 0, 0, 0), none, none, some (.iconst 0, 0, 0, 0), some (.ireturn, 0, 0, 1), some (.iinc 2 1, 0, 0, 0), none, none, some (.goto (-47), 0, 0, 0), none, none, some (.iinc 1 1, 0, 0, 0), none, none, some (.goto (-65), 0, 0, 0), none, none, some (.iconst 1, 0, 0, 0), some (.ireturn, 0, 0, 1)]
abbrev kX8_isKept : Nat := 94
def eX8_isKept : zE := (yX8_isKept, cX8_isKept, 3, some .boolean, 0, false, 8, tX8_isKept)
def tX8_findShortest : List (Option zR) := [some (.iconst 0, 0, 0, 0), some (.istore_n 1, 0, 0, 0), some (.iload_n 1, 0, 0, 0), some (.aload_n 0, 0, 0, 0), some (.getfield 112, 8, 5, 0), none, none, some (.if_icmp .ge 16, 0, 0, 0), none, none, some (.aload_n 0, 0, 0, 0), some (.getfield 56, 8, 18, 2), none, none, some (.iload_n 1, 0, 0, 0), some (.iload_n 1, 0, 0, 0), some (.iastore, 0, 0, 0), some (.iinc 1 1, 0, 0, 0), none, none, some (.goto (-18), 0, 0, 0), none, none, some (.iconst (-1), 0, 0, 0), some (.istore_n 1, 0, 0, 0), some (.iconst 1, 0, 0, 0), some (.istore_n 2, 0, 0, 0), some (.iload_n 2, 0, 0, 0), some (.ifCond .eq 79, 0, 0, 0), none, none, some (.aload_n 0, 0, 0, 0), some (.invokevirtual 149, 94, 0, 32), none, none, some (.ifCond .eq 64, 0, 0, 0), none, none, some (.iconst 0, 0, 0, 0), some (.istore_n 3, 0, 0, 0), some (.iload_n 3, 0, 0, 0), some (.aload_n 0, 0, 0, 0), some (.getfield 112, 8, 5, 0), none, none, some (.if_icmp .ge 30, 0, 0, 0), none, none, some (.aload_n 0, 0, 0, 0), some (.getfield 59, 8, 19, 2), none, none, some (.aload_n 0, 0, 0, 0), some (.getfield 56, 8, 18, 2), none, none, some (.iload_n 3, 0, 0, 0), some (.iaload, 0, 0, 0), some (.aload_n 0, 0, 0, 0), some (.aload_n 0, 0, 0, 0), some (.getfield 59, 8, 19, 2), none, none, some (.iload_n 3, 0, 0, 0), some (.iconst 0, 0, 0, 0), some (.invokevirtual 142, 89, 3, 32), none, none, some (.iastore, 0, 0, 0), some (.iinc 3 1, 0, 0, 0), none, none, some (.goto (-32), 0, 0, 0), none, none, some (.aload_n 0, 0, 0, 0), some (.aload_n 0, 0, 0, 0), some (.getfield 59, 8, 19, 2), none, none, some (.invokevirtual 153, 91, 1, 32), none, none, some (.istore_n 3, 0, 0, 0), some (.iload_n 1, 0, 0, 0), some (.ifCond .lt 8, 0, 0, 0), none, none, some (.iload_n 3, 0, 0, 0), some (.iload_n 1, 0, 0, 0), some (.if_icmp .ge 7, 0, 0, 0), none, none, some (.iload_n 3, 0, 0, 0), some (.goto 4, 0, 0, 0), none, none, some (.iload_n 1, 0, 0, 0), some (.istore_n 1, 0, 0, 0), some (.aload_n 0, 0, 0, 0), some (.invokevirtual 157, 92, 0, 32), none, none, some (.istore_n 2, 0, 0, 0), some (.goto (-77), 0, 0, 0), none, none, some (.iload_n 1, 0, 0, 0), some (.ireturn, 0, 0, 0)]
abbrev kX8_findShortest : Nat := 95
def eX8_findShortest : zE := (yX8_findShortest, cX8_findShortest, 4, some .int, 0, false, 8, tX8_findShortest)
def tX8_isRegister : List (Option zR) := [some (.iload_n 0, 0, 0, 0), some (.ifCond .lt 13, 0, 0, 0), none, none, some (.iload_n 0, 0, 0, 0), some (.bipush 16, 0, 0, 0), none, some (.if_icmp .ge 7, 0, 0, 0), none, none, some (.iconst 1, 0, 0, 0), some (.goto 4, 0, 0, 0), none, none, some (.iconst 0, 0, 0, 0), some (.ireturn, 0, 0, 1)]
abbrev kX8_isRegister : Nat := 96
def eX8_isRegister : zE := (yX8_isRegister, cX8_isRegister, 1, some .boolean, 1, true, 8, tX8_isRegister)
def tX8_add : List (Option zR) := [some (.iload_n 1, 0, 0, 0), some (.ifCond .lt 13, 0, 0, 0), none, none, some (.iload_n 1, 0, 0, 0), some (.bipush 6, 0, 0, 0), none, some (.if_icmp .gt 7, 0, 0, 0), none, none, some (.iconst 1, 0, 0, 0), some (.goto 4, 0, 0, 0), none, none, some (.iconst 0, 0, 0, 0), some (.istore 6, 0, 0, 0), none, some (.iload 6, 0, 0, 0), none, some (.ifCond .eq 31, 0, 0, 0), none, none, some (.iload_n 1, 0, 0, 0), some (.bipush 6, 0, 0, 0), none, some (.if_icmp .eq 10, 0, 0, 0), none, none, some (.iload_n 2, 0, 0, 0), some (.invokestatic 160, 96, 1, 0), none, none, some (.ifCond .eq 18, 0, 0, 0), none, none, some (.iload_n 1, 0, 0, 0), some (.ifCond .eq 10, 0, 0, 0), none, none, some (.iload_n 3, 0, 0, 0), some (.invokestatic 160, 96, 1, 0), none, none, some (.ifCond .eq 7, 0, 0, 0), none, none, some (.iconst 1, 0, 0, 0), some (.goto 4, 0, 0, 0), none, none, some (.iconst 0, 0, 0, 0), some (.istore 6, 0, 0, 0), none, some (.iload 6, 0, 0, 0), none, some (.ifCond .eq 24, 0, 0, 0), none, none, some (.iload_n 1, 0, 0, 0), some (.ifCond .eq 16, 0, 0, 0), none, none, some (.iload_n 1, 0, 0, 0), some (.iconst 5, 0, 0, 0), some (.if_icmp .eq 11, 0, 0, 0), none, none, some (.iload 4, 0, 0, 0), none, some (.invokestatic 160, 96, 1, 0), none, none, some (.ifCond .eq 7, 0, 0, 0), none, none, some (.iconst 1, 0, 0, 0), some (.goto 4, 0, 0, 0), none, none, some (.iconst 0, 0, 0, 0), some (.istore 6, 0, 0, 0), none, some (.iload 6, 0, 0, 0), none, some (.ifCond .ne 5, 0, 0, 0), none, none, some (.iconst (-1), 0, 0, 0), some (.ireturn, 0, 0, 0), some (.aload_n 0, 0, 0, 0), some (.getfield 112, 8, 5, 0), none, none, some (.bipush 60, 0, 0, 0), none, some (.if_icmp .ne 6, 0, 0, 0), none, none, some (.bipush (-2), 0, 0, 0), none, some (.ireturn, 0, 0, 0), some (.aload_n 0, 0, 0, 0), some (.getfield 7, 8, 0, 2), none, none, some (.aload_n 0, 0, 0, 0), some (.getfield 112, 8, 5, 0), none, none, some (.iload_n 1, 0, 0, 0), some (.iastore, 0, 0, 0), some (.aload_n 0, 0, 0, 0), some (.getfield 13, 8, 1, 2), none, none, some (.aload_n 0, 0, 0, 0), some (.getfield 112, 8, 5, 0), none, none, some (.iload_n 2, 0, 0, 0), some (.iastore, 0, 0, 0), some (.aload_n 0, 0, 0, 0), some (.getfield 16, 8, 2, 2), none, none, some (.aload_n 0, 0, 0, 0), some (.getfield 112, 8, 5, 0), none, none, some (.iload_n 3, 0, 0, 0), some (.iastore, 0, 0, 0), some (.aload_n 0, 0, 0, 0), some (.getfield 19, 8, 3, 2), none, none, some (.aload_n 0, 0, 0, 0), some (.getfield 112, 8, 5, 0), none, none, some (.iload 4, 0, 0, 0), none, some (.iastore, 0, 0, 0), some (.aload_n 0, 0, 0, 0), some (.getfield 22, 8, 4, 2), none, none, some (.aload_n 0, 0, 0, 0), some (.getfield 112, 8, 5, 0), none, none, some (.iload 5, 0, 0, 0), none, some (.iastore, 0, 0, 0), some (.aload_n 0, 0, 0, 0), some (.getfield 53, 8, 16, 2), none, none, some (.aload_n 0, 0, 0, 0), some (.getfield 112, 8, 5, 0), none, none, some (.bipush (-3), 0, 0, 0), none, some (.iastore, 0, 0, 0), some (.aload_n 0, 0, 0, 0), some (.dup, 0, 0, 0), some (.getfield 112, 8, 5, 0), none, none, some (.iconst 1, 0, 0, 0), some (.iadd, 0, 0, 0), some (.putfield 112, 8, 5, 0), none, none, some (.aload_n 0, 0, 0, 0), some (.iconst 0, 0, 0, 0), some (.putfield 108, 8, 9, 1), none, none, some (.aload_n 0, 0, 0, 0), some (.getfield 112, 8, 5, 0), none, none, some (.iconst 1, 0, 0, 0), some (.isub, 0, 0, 0), some (.ireturn, 0, 0, 0)]
abbrev kX8_add : Nat := 97
def eX8_add : zE := (yX8_add, cX8_add, 7, some .int, 5, false, 8, tX8_add)
def tX8_cut : List (Option zR) := [some (.iload_n 1, 0, 0, 0), some (.ifCond .lt 11, 0, 0, 0), none, none, some (.iload_n 1, 0, 0, 0), some (.aload_n 0, 0, 0, 0), some (.getfield 112, 8, 5, 0), none, none, some (.if_icmp .le 5, 0, 0, 0), none, none, some (.iconst (-1), 0, 0, 0), some (.ireturn, 0, 0, 0), some (.aload_n 0, 0, 0, 0), some (.aload_n 0, 0, 0, 0), some (.getfield 112, 8, 5, 0), none, none, some (.iload_n 1, 0, 0, 0), some (.isub, 0, 0, 0), some (.putfield 112, 8, 5, 0), none, none, some (.aload_n 0, 0, 0, 0), some (.aload_n 0, 0, 0, 0), some (.getfield 108, 8, 9, 1), none, none, some (.ifCond .eq 11, 0, 0, 0), none, none, some (.iload_n 1, 0, 0, 0), some (.ifCond .ne 7, 0, 0, 0), none, none, some (.iconst 1, 0, 0, 0), some (.goto 4, 0, 0, 0), none, none, some (.iconst 0, 0, 0, 0), some (.putfield 108, 8, 9, 1), none, none, some (.aload_n 0, 0, 0, 0), some (.getfield 112, 8, 5, 0), none, none, some (.ireturn, 0, 0, 0)]
abbrev kX8_cut : Nat := 98
def eX8_cut : zE := (yX8_cut, cX8_cut, 2, some .int, 1, false, 8, tX8_cut)
def tX8_latency : List (Option zR) := [some (.iload_n 1, 0, 0, 0), some (.ifCond .lt 20, 0, 0, 0), none, none, some (.iload_n 1, 0, 0, 0), some (.bipush 6, 0, 0, 0), none, some (.if_icmp .gt 14, 0, 0, 0), none, none, some (.iload_n 2, 0, 0, 0), some (.iconst 1, 0, 0, 0), some (.if_icmp .lt 9, 0, 0, 0), none, none, some (.iload_n 2, 0, 0, 0), some (.bipush 12, 0, 0, 0), none, some (.if_icmp .le 5, 0, 0, 0), none, none, some (.iconst (-1), 0, 0, 0), some (.ireturn, 0, 0, 0), some (.aload_n 0, 0, 0, 0), some (.getfield 25, 8, 6, 2), none, none, some (.iload_n 1, 0, 0, 0), some (.iaload, 0, 0, 0), some (.istore_n 3, 0, 0, 0), some (.aload_n 0, 0, 0, 0), some (.getfield 25, 8, 6, 2), none, none, some (.iload_n 1, 0, 0, 0), some (.iload_n 2, 0, 0, 0), some (.iastore, 0, 0, 0), some (.aload_n 0, 0, 0, 0), some (.iconst 0, 0, 0, 0), some (.putfield 108, 8, 9, 1), none, none, some (.iload_n 3, 0, 0, 0), some (.ireturn, 0, 0, 0)]
abbrev kX8_latency : Nat := 99
def eX8_latency : zE := (yX8_latency, cX8_latency, 4, some .int, 2, false, 8, tX8_latency)
def tX8_units : List (Option zR) := [some (.iload_n 1, 0, 0, 0), some (.iconst 1, 0, 0, 0), some (.if_icmp .lt 9, 0, 0, 0), none, none, some (.iload_n 1, 0, 0, 0), some (.bipush 8, 0, 0, 0), none, some (.if_icmp .le 5, 0, 0, 0), none, none, some (.iconst (-1), 0, 0, 0), some (.ireturn, 0, 0, 0), some (.aload_n 0, 0, 0, 0), some (.getfield 28, 8, 7, 0), none, none, some (.istore_n 2, 0, 0, 0), some (.aload_n 0, 0, 0, 0), some (.iload_n 1, 0, 0, 0), some (.putfield 28, 8, 7, 0), none, none, some (.aload_n 0, 0, 0, 0), some (.iconst 0, 0, 0, 0), some (.putfield 108, 8, 9, 1), none, none, some (.iload_n 2, 0, 0, 0), some (.ireturn, 0, 0, 0)]
abbrev kX8_units : Nat := 100
def eX8_units : zE := (yX8_units, cX8_units, 3, some .int, 1, false, 8, tX8_units)
def tX8_isThere : List (Option zR) := [some (.iload_n 1, 0, 0, 0), some (.ifCond .lt 15, 0, 0, 0), none, none, some (.iload_n 1, 0, 0, 0), some (.aload_n 0, 0, 0, 0), some (.getfield 112, 8, 5, 0), none, none, some (.if_icmp .ge 7, 0, 0, 0), none, none, some (.iconst 1, 0, 0, 0), some (.goto 4, 0, 0, 0), none, none, some (.iconst 0, 0, 0, 0), some (.ireturn, 0, 0, 1)]
abbrev kX8_isThere : Nat := 101
def eX8_isThere : zE := (yX8_isThere, cX8_isThere, 2, some .boolean, 1, false, 8, tX8_isThere)
def tX8_delay : List (Option zR) := [some (.aload_n 0, 0, 0, 0), some (.iload_n 1, 0, 0, 0), some (.invokevirtual 164, 101, 1, 32), none, none, some (.ifCond .eq 11, 0, 0, 0), none, none, some (.aload_n 0, 0, 0, 0), some (.iload_n 2, 0, 0, 0), some (.invokevirtual 164, 101, 1, 32), none, none, some (.ifCond .ne 5, 0, 0, 0), none, none, some (.iconst (-1), 0, 0, 0), some (.ireturn, 0, 0, 0), some (.aload_n 0, 0, 0, 0), some (.invokevirtual 167, 85, 0, 32), none, none, some (.aload_n 0, 0, 0, 0), some (.iload_n 1, 0, 0, 0), some (.iload_n 2, 0, 0, 0), some (.invokevirtual 118, 84, 2, 32), none, none, some (.ifCond .ge 8, 0, 0, 0), none, none, some (.bipush (-3), 0, 0, 0), none, some (.goto 9, 0, 0, 0), none, none, some (.aload_n 0, 0, 0, 0), some (.iload_n 1, 0, 0, 0), some (.iload_n 2, 0, 0, 0), some (.invokevirtual 118, 84, 2, 32), none, none, some (.ireturn, 0, 0, 0)]
abbrev kX8_delay : Nat := 102
def eX8_delay : zE := (yX8_delay, cX8_delay, 3, some .int, 2, false, 8, tX8_delay)
def tX8_greatestWay : List (Option zR) := [some (.iconst 0, 0, 0, 0), some (.istore_n 1, 0, 0, 0), some (.iconst 0, 0, 0, 0), some (.istore_n 2, 0, 0, 0), some (.iload_n 2, 0, 0, 0), some (.aload_n 0, 0, 0, 0), some (.getfield 112, 8, 5, 0), none, none, some (.if_icmp .ge 30, 0, 0, 0), none, none, some (.aload_n 0, 0, 0, 0), some (.getfield 35, 8, 10, 2), none, none, some (.iload_n 2, 0, 0, 0), some (.iaload, 0, 0, 0), some (.iload_n 1, 0, 0, 0), some (.if_icmp .le 12, 0, 0, 0), none, none, some (.aload_n 0, 0, 0, 0), some (.getfield 35, 8, 10, 2), none, none, some (.iload_n 2, 0, 0, 0), some (.iaload, 0, 0, 0), some (.goto 4, 0, 0, 0), none, none, some (.iload_n 1, 0, 0, 0), some (.istore_n 1, 0, 0, 0), some (.iinc 2 1, 0, 0, 0), none, none, some (.goto (-32), 0, 0, 0), none, none, some (.iload_n 1, 0, 0, 0), some (.ireturn, 0, 0, 0)]
abbrev kX8_greatestWay : Nat := 103
def eX8_greatestWay : zE := (yX8_greatestWay, cX8_greatestWay, 3, some .int, 0, false, 8, tX8_greatestWay)
def tX8_about : List (Option zR) := [some (.aload_n 0, 0, 0, 0), some (.iload_n 1, 0, 0, 0), some (.invokevirtual 164, 101, 1, 32), none, none, some (.ifCond .eq 13, 0, 0, 0), none, none, some (.iload_n 2, 0, 0, 0), some (.ifCond .lt 9, 0, 0, 0), none, none, some (.iload_n 2, 0, 0, 0), some (.bipush 6, 0, 0, 0), none, some (.if_icmp .le 5, 0, 0, 0), none, none, some (.iconst (-1), 0, 0, 0), some (.ireturn, 0, 0, 0), some (.aload_n 0, 0, 0, 0), some (.invokevirtual 167, 85, 0, 32), none, none, some (.iload_n 2, 0, 0, 0), some (.tableswitch 93 0 5 #[39, 46, 53, 72, 79, 86], 0, 0, 0), none, none, none, none, none, none, none, none, none, none, none, none, none, none, none, none, none, none, none, none, none, none, none, none, none, none, none, none, none, none, none, none, none, none, none, none, none, none, some (.aload_n 0, 0, 0, 0), some (.getfield 35, 8, 10, 2), none, none, some (.iload_n 1, 0, 0, 0), some (.iaload, 0, 0, 0), some (.ireturn, 0, 0, 0), some (.aload_n 0, 0, 0, 0), some (.getfield 38, 8, 11, 2), none, none, some (.iload_n 1, 0, 0, 0), some (.iaload, 0, 0, 0), some (.ireturn, 0, 0, 0), some (.aload_n 0, 0, 0, 0), some (.invokevirtual 170, 103, 0, 32), none, none, some (.aload_n 0, 0, 0, 0), some (.getfield 35, 8, 10, 2), none, none, some (.iload_n 1, 0, 0, 0), some (.iaload, 0, 0, 0), some (.isub, 0, 0, 0), some (.aload_n 0, 0, 0, 0), some (.getfield 38, 8, 11, 2), none, none, some (.iload_n 1, 0, 0, 0), some (.iaload, 0, 0, 0), some (.isub, 0, 0, 0), some (.ireturn, 0, 0, 0), some (.aload_n 0, 0, 0, 0), some (.getfield 41, 8, 12, 2), none, none, some (.iload_n 1, 0, 0, 0), some (.iaload, 0, 0, 0), some (.ireturn, 0, 0, 0), some (.aload_n 0, 0, 0, 0), some (.getfield 47, 8, 14, 2), none, none, some (.iload_n 1, 0, 0, 0), some (.iaload, 0, 0, 0), some (.ireturn, 0, 0, 0), some (.aload_n 0, 0, 0, 0), some (.getfield 50, 8, 15, 2), none, none, some (.iload_n 1, 0, 0, 0), some (.iaload, 0, 0, 0), some (.ireturn, 0, 0, 0), some (.aload_n 0, 0, 0, 0), some (.getfield 53, 8, 16, 2), none, none, some (.iload_n 1, 0, 0, 0), some (.iaload, 0, 0, 0), some (.ireturn, 0, 0, 0)]
abbrev kX8_about : Nat := 104
def eX8_about : zE := (yX8_about, cX8_about, 3, some .int, 2, false, 8, tX8_about)
def tX8_listed : List (Option zR) := [some (.aload_n 0, 0, 0, 0), some (.iload_n 1, 0, 0, 0), some (.invokevirtual 164, 101, 1, 32), none, none, some (.ifCond .ne 5, 0, 0, 0), none, none, some (.iconst (-1), 0, 0, 0), some (.ireturn, 0, 0, 0), some (.aload_n 0, 0, 0, 0), some (.invokevirtual 167, 85, 0, 32), none, none, some (.aload_n 0, 0, 0, 0), some (.getfield 44, 8, 13, 2), none, none, some (.iload_n 1, 0, 0, 0), some (.iaload, 0, 0, 0), some (.ireturn, 0, 0, 0)]
abbrev kX8_listed : Nat := 105
def eX8_listed : zE := (yX8_listed, cX8_listed, 2, some .int, 1, false, 8, tX8_listed)
def tX8_dependences : List (Option zR) := [some (.iconst 0, 0, 0, 0), some (.istore_n 1, 0, 0, 0), some (.iconst 0, 0, 0, 0), some (.istore_n 2, 0, 0, 0), some (.iload_n 2, 0, 0, 0), some (.aload_n 0, 0, 0, 0), some (.getfield 112, 8, 5, 0), none, none, some (.if_icmp .ge 44, 0, 0, 0), none, none, some (.iload_n 2, 0, 0, 0), some (.iconst 1, 0, 0, 0), some (.iadd, 0, 0, 0), some (.istore_n 3, 0, 0, 0), some (.iload_n 3, 0, 0, 0), some (.aload_n 0, 0, 0, 0), some (.getfield 112, 8, 5, 0), none, none, some (.if_icmp .ge 26, 0, 0, 0), none, none, some (.aload_n 0, 0, 0, 0), some (.iload_n 2, 0, 0, 0), some (.iload_n 3, 0, 0, 0), some (.invokevirtual 118, 84, 2, 32), none, none, some (.ifCond .lt 9, 0, 0, 0), none, none, some (.iload_n 1, 0, 0, 0), some (.iconst 1, 0, 0, 0), some (.iadd, 0, 0, 0), some (.goto 4, 0, 0, 0), none, none, some (.iload_n 1, 0, 0, 0), some (.istore_n 1, 0, 0, 0), some (.iinc 3 1, 0, 0, 0), none, none, some (.goto (-28), 0, 0, 0), none, none, some (.iinc 2 1, 0, 0, 0), none, none, some (.goto (-46), 0, 0, 0), none, none, some (.iload_n 1, 0, 0, 0), some (.ireturn, 0, 0, 0)]
abbrev kX8_dependences : Nat := 106
def eX8_dependences : zE := (yX8_dependences, cX8_dependences, 4, some .int, 0, false, 8, tX8_dependences)
def tX8_length : List (Option zR) := [some (.aload_n 0, 0, 0, 0), some (.invokevirtual 167, 85, 0, 32), none, none, some (.iload_n 1, 0, 0, 0), some (.tableswitch 116 0 7 #[47, 52, 61, 70, 79, 84, 106, 111], 0, 0, 0), none, none, none, none, none, none, none, none, none, none, none, none, none, none, none, none, none, none, none, none, none, none, none, none, none, none, none, none, none, none, none, none, none, none, none, none, none, none, none, none, none, none, none, none, none, none, some (.aload_n 0, 0, 0, 0), some (.invokevirtual 170, 103, 0, 32), none, none, some (.ireturn, 0, 0, 0), some (.aload_n 0, 0, 0, 0), some (.aload_n 0, 0, 0, 0), some (.getfield 41, 8, 12, 2), none, none, some (.invokevirtual 153, 91, 1, 32), none, none, some (.ireturn, 0, 0, 0), some (.aload_n 0, 0, 0, 0), some (.aload_n 0, 0, 0, 0), some (.getfield 47, 8, 14, 2), none, none, some (.invokevirtual 153, 91, 1, 32), none, none, some (.ireturn, 0, 0, 0), some (.aload_n 0, 0, 0, 0), some (.aload_n 0, 0, 0, 0), some (.getfield 50, 8, 15, 2), none, none, some (.invokevirtual 153, 91, 1, 32), none, none, some (.ireturn, 0, 0, 0), some (.aload_n 0, 0, 0, 0), some (.getfield 132, 8, 17, 0), none, none, some (.ireturn, 0, 0, 0), some (.aload_n 0, 0, 0, 0), some (.iconst 0, 0, 0, 0), some (.invokevirtual 173, 110, 1, 32), none, none, some (.ifCond .le 8, 0, 0, 0), none, none, some (.bipush (-3), 0, 0, 0), none, some (.goto 11, 0, 0, 0), none, none, some (.aload_n 0, 0, 0, 0), some (.aload_n 0, 0, 0, 0), some (.getfield 53, 8, 16, 2), none, none, some (.invokevirtual 153, 91, 1, 32), none, none, some (.ireturn, 0, 0, 0), some (.aload_n 0, 0, 0, 0), some (.getfield 112, 8, 5, 0), none, none, some (.ireturn, 0, 0, 0), some (.aload_n 0, 0, 0, 0), some (.invokevirtual 177, 106, 0, 32), none, none, some (.ireturn, 0, 0, 0), some (.iconst (-1), 0, 0, 0), some (.ireturn, 0, 0, 0)]
abbrev kX8_length : Nat := 107
def eX8_length : zE := (yX8_length, cX8_length, 2, some .int, 1, false, 8, tX8_length)
def tX8_place : List (Option zR) := [some (.aload_n 0, 0, 0, 0), some (.iload_n 1, 0, 0, 0), some (.invokevirtual 164, 101, 1, 32), none, none, some (.ifCond .eq 14, 0, 0, 0), none, none, some (.iload_n 2, 0, 0, 0), some (.ifCond .lt 10, 0, 0, 0), none, none, some (.iload_n 2, 0, 0, 0), some (.sipush 1000, 0, 0, 0), none, none, some (.if_icmp .le 5, 0, 0, 0), none, none, some (.iconst (-1), 0, 0, 0), some (.ireturn, 0, 0, 0), some (.aload_n 0, 0, 0, 0), some (.getfield 53, 8, 16, 2), none, none, some (.iload_n 1, 0, 0, 0), some (.iaload, 0, 0, 0), some (.istore_n 3, 0, 0, 0), some (.aload_n 0, 0, 0, 0), some (.getfield 53, 8, 16, 2), none, none, some (.iload_n 1, 0, 0, 0), some (.iload_n 2, 0, 0, 0), some (.iastore, 0, 0, 0), some (.iload_n 3, 0, 0, 0), some (.ireturn, 0, 0, 0)]
abbrev kX8_place : Nat := 108
def eX8_place : zE := (yX8_place, cX8_place, 4, some .int, 2, false, 8, tX8_place)
def tX8_tell : List (Option zR) := [some (.aload_n 0, 0, 0, 0), some (.iload_n 1, 0, 0, 0), some (.ifCond .eq 7, 0, 0, 0), none, none, some (.iload_n 2, 0, 0, 0), some (.goto 7, 0, 0, 0), none, none, some (.aload_n 0, 0, 0, 0), some (.getfield 62, 8, 20, 0), none, none, some (.putfield 62, 8, 20, 0), none, none, some (.aload_n 0, 0, 0, 0), some (.iload_n 1, 0, 0, 0), some (.ifCond .eq 7, 0, 0, 0), none, none, some (.iload_n 3, 0, 0, 0), some (.goto 7, 0, 0, 0), none, none, some (.aload_n 0, 0, 0, 0), some (.getfield 65, 8, 21, 0), none, none, some (.putfield 65, 8, 21, 0), none, none, some (.return_, 0, 0, 0)]
abbrev kX8_tell : Nat := 109
def eX8_tell : zE := (yX8_tell, cX8_tell, 4, none, 3, false, 8, tX8_tell)
def tX8_look : List (Option zR) := [some (.aload_n 0, 0, 0, 0), some (.iload_n 1, 0, 0, 0), some (.bipush (-3), 0, 0, 0), none, some (.bipush (-3), 0, 0, 0), none, some (.invokevirtual 180, 109, 3, 32), none, none, some (.iconst 0, 0, 0, 0), some (.istore_n 2, 0, 0, 0), some (.iload_n 2, 0, 0, 0), some (.aload_n 0, 0, 0, 0), some (.getfield 112, 8, 5, 0), none, none, some (.if_icmp .ge 28, 0, 0, 0), none, none, some (.aload_n 0, 0, 0, 0), some (.getfield 53, 8, 16, 2), none, none, some (.iload_n 2, 0, 0, 0), some (.iaload, 0, 0, 0), some (.ifCond .ge 13, 0, 0, 0), none, none, some (.aload_n 0, 0, 0, 0), some (.iload_n 1, 0, 0, 0), some (.iload_n 2, 0, 0, 0), some (.bipush (-3), 0, 0, 0), none, some (.invokevirtual 180, 109, 3, 32), none, none, some (.iconst 1, 0, 0, 0), some (.ireturn, 0, 0, 0), some (.iinc 2 1, 0, 0, 0), none, none, some (.goto (-30), 0, 0, 0), none, none, some (.iconst 0, 0, 0, 0), some (.istore_n 2, 0, 0, 0), some (.iload_n 2, 0, 0, 0), some (.aload_n 0, 0, 0, 0), some (.getfield 112, 8, 5, 0), none, none, some (.if_icmp .ge 62, 0, 0, 0), none, none, some (.iconst 0, 0, 0, 0), some (.istore_n 3, 0, 0, 0), some (.iload_n 3, 0, 0, 0), some (.iload_n 2, 0, 0, 0), some (.if_icmp .ge 49, 0, 0, 0), none, none, some (.aload_n 0, 0, 0, 0), some (.iload_n 3, 0, 0, 0), some (.iload_n 2, 0, 0, 0), some (.invokevirtual 118, 84, 2, 32), none, none, some (.ifCond .lt 34, 0, 0, 0), none, none, some (.aload_n 0, 0, 0, 0), some (.getfield 53, 8, 16, 2), none, none, some (.iload_n 2, 0, 0, 0), some (.iaload, 0, 0, 0), some (.aload_n 0, 0, 0, 0), some (.getfield 53, 8, 16, 2), none, none, some (.iload_n 3, 0, 0, 0), some (.iaload, 0, 0, 0), some (.aload_n 0, 0, 0, 0), some (.iload_n 3, 0, 0, 0), some (.iload_n 2, 0, 0, 0), some (.invokevirtual 118, 84, 2, 32), none, none, some (.iadd, 0, 0, 0), some (.if_icmp .ge 12, 0, 0, 0), none, none, some (.aload_n 0, 0, 0, 0), some (.iload_n 1, 0, 0, 0), some (.iload_n 3, 0, 0, 0), some (.iload_n 2, 0, 0, 0), some (.invokevirtual 180, 109, 3, 32), none, none, some (.iconst 2, 0, 0, 0), some (.ireturn, 0, 0, 0), some (.iinc 3 1, 0, 0, 0), none, none, some (.goto (-48), 0, 0, 0), none, none, some (.iinc 2 1, 0, 0, 0), none, none, some (.goto (-64), 0, 0, 0), none, none, some (.iconst 0, 0, 0, 0), some (.istore_n 2, 0, 0, 0), some (.iload_n 2, 0, 0, 0), some (.sipush 1000, 0, 0, 0), none, none, some (.if_icmp .gt 66, 0, 0, 0), none, none, some (.iconst 0, 0, 0, 0), some (.istore_n 3, 0, 0, 0), some (.iconst 0, 0, 0, 0), some (.istore 4, 0, 0, 0), none, some (.iload 4, 0, 0, 0), none, some (.aload_n 0, 0, 0, 0), some (.getfield 112, 8, 5, 0), none, none, some (.if_icmp .ge 28, 0, 0, 0), none, none, some (.aload_n 0, 0, 0, 0), some (.getfield 53, 8, 16, 2), none, none, some (.iload 4, 0, 0, 0), none, some (.iaload, 0, 0, 0), some (.iload_n 2, 0, 0, 0), some (.if_icmp .ne 9, 0, 0, 0), none, none, some (.iload_n 3, 0, 0, 0), some (.iconst 1, 0, 0, 0), some (.iadd, 0, 0, 0), some (.goto 4, 0, 0, 0), none, none, some (.iload_n 3, 0, 0, 0), some (.istore_n 3, 0, 0, 0), some (.iinc 4 1, 0, 0, 0), none, none, some (.goto (-31), 0, 0, 0), none, none, some (.iload_n 3, 0, 0, 0), some (.aload_n 0, 0, 0, 0), some (.getfield 28, 8, 7, 0), none, none, some (.if_icmp .le 13, 0, 0, 0), none, none, some (.aload_n 0, 0, 0, 0), some (.iload_n 1, 0, 0, 0), some (.iload_n 2, 0, 0, 0), some (.bipush (-3), 0, 0, 0), none, some (.invokevirtual 180, 109, 3, 32), none, none, some (.iconst 3, 0, 0, 0), some (.ireturn, 0, 0, 0), some (.iinc 2 1, 0, 0, 0), none, none, some (.goto (-67), 0, 0, 0), none, none, some (.iconst 0, 0, 0, 0), some (.ireturn, 0, 0, 0)]
abbrev kX8_look : Nat := 110
def eX8_look : zE := (yX8_look, cX8_look, 5, some .int, 1, false, 8, tX8_look)
def tX8_check : List (Option zR) := [some (.aload_n 0, 0, 0, 0), some (.invokevirtual 167, 85, 0, 32), none, none, some (.aload_n 0, 0, 0, 0), some (.iconst 1, 0, 0, 0), some (.invokevirtual 173, 110, 1, 32), none, none, some (.ireturn, 0, 0, 0)]
abbrev kX8_check : Nat := 111
def eX8_check : zE := (yX8_check, cX8_check, 1, some .int, 0, false, 8, tX8_check)
def tX8_wrong : List (Option zR) := [some (.iload_n 1, 0, 0, 0), some (.ifCond .ne 10, 0, 0, 0), none, none, some (.aload_n 0, 0, 0, 0), some (.getfield 62, 8, 20, 0), none, none, some (.goto 16, 0, 0, 0), none, none, some (.iload_n 1, 0, 0, 0), some (.iconst 1, 0, 0, 0), some (.if_icmp .ne 10, 0, 0, 0), none, none, some (.aload_n 0, 0, 0, 0), some (.getfield 65, 8, 21, 0), none, none, some (.goto 4, 0, 0, 0), none, none, some (.iconst (-1), 0, 0, 0), some (.ireturn, 0, 0, 0)]
abbrev kX8_wrong : Nat := 112
def eX8_wrong : zE := (yX8_wrong, cX8_wrong, 2, some .int, 1, false, 8, tX8_wrong)
def tX8_given : List (Option zR) := [some (.iload_n 1, 0, 0, 0), some (.ifCond .ne 31, 0, 0, 0), none, none, some (.iload_n 2, 0, 0, 0), some (.ifCond .lt 27, 0, 0, 0), none, none, some (.iload_n 2, 0, 0, 0), some (.bipush 16, 0, 0, 0), none, some (.if_icmp .ge 21, 0, 0, 0), none, none, some (.aload_n 0, 0, 0, 0), some (.getfield 68, 8, 22, 2), none, none, some (.iload_n 2, 0, 0, 0), some (.iaload, 0, 0, 0), some (.istore 4, 0, 0, 0), none, some (.aload_n 0, 0, 0, 0), some (.getfield 68, 8, 22, 2), none, none, some (.iload_n 2, 0, 0, 0), some (.iload_n 3, 0, 0, 0), some (.iastore, 0, 0, 0), some (.iload 4, 0, 0, 0), none, some (.ireturn, 0, 0, 0), some (.iload_n 1, 0, 0, 0), some (.iconst 1, 0, 0, 0), some (.if_icmp .ne 31, 0, 0, 0), none, none, some (.iload_n 2, 0, 0, 0), some (.ifCond .lt 27, 0, 0, 0), none, none, some (.iload_n 2, 0, 0, 0), some (.bipush 64, 0, 0, 0), none, some (.if_icmp .ge 21, 0, 0, 0), none, none, some (.aload_n 0, 0, 0, 0), some (.getfield 71, 8, 23, 2), none, none, some (.iload_n 2, 0, 0, 0), some (.iaload, 0, 0, 0), some (.istore 4, 0, 0, 0), none, some (.aload_n 0, 0, 0, 0), some (.getfield 71, 8, 23, 2), none, none, some (.iload_n 2, 0, 0, 0), some (.iload_n 3, 0, 0, 0), some (.iastore, 0, 0, 0), some (.iload 4, 0, 0, 0), none, some (.ireturn, 0, 0, 0), some (.iconst 0, 0, 0, 0), some (.ireturn, 0, 0, 0)]
abbrev kX8_given : Nat := 113
def eX8_given : zE := (yX8_given, cX8_given, 5, some .int, 3, false, 8, tX8_given)
def tX8_begin : List (Option zR) := [some (.aload_n 0, 0, 0, 0), some (.getfield 7, 8, 0, 2), none, none, some (.iload_n 1, 0, 0, 0), some (.iaload, 0, 0, 0), some (.ifCond .ne 7, 0, 0, 0), none, none, some (.iconst 0, 0, 0, 0), some (.goto 14, 0, 0, 0), none, none, some (.aload_n 0, 0, 0, 0), some (.getfield 74, 8, 24, 2), none, none, some (.aload_n 0, 0, 0, 0), some (.getfield 16, 8, 2, 2), none, none, some (.iload_n 1, 0, 0, 0), some (.iaload, 0, 0, 0), some (.iaload, 0, 0, 0), some (.istore_n 2, 0, 0, 0), some (.aload_n 0, 0, 0, 0), some (.getfield 7, 8, 0, 2), none, none, some (.iload_n 1, 0, 0, 0), some (.iaload, 0, 0, 0), some (.iconst 1, 0, 0, 0), some (.if_icmp .lt 13, 0, 0, 0), none, none, some (.aload_n 0, 0, 0, 0), some (.getfield 7, 8, 0, 2), none, none, some (.iload_n 1, 0, 0, 0), some (.iaload, 0, 0, 0), some (.iconst 4, 0, 0, 0), some (.if_icmp .le 14, 0, 0, 0), none, none, some (.aload_n 0, 0, 0, 0), some (.getfield 7, 8, 0, 2), none, none, some (.iload_n 1, 0, 0, 0), some (.iaload, 0, 0, 0), some (.bipush 6, 0, 0, 0), none, some (.if_icmp .ne 17, 0, 0, 0), none, none, some (.aload_n 0, 0, 0, 0), some (.getfield 74, 8, 24, 2), none, none, some (.aload_n 0, 0, 0, 0), some (.getfield 19, 8, 3, 2), none, none, some (.iload_n 1, 0, 0, 0), some (.iaload, 0, 0, 0), some (.iaload, 0, 0, 0), some (.goto 4, 0, 0, 0), none, none, some (.iconst 0, 0, 0, 0), some (.istore_n 3, 0, 0, 0), some (.aload_n 0, 0, 0, 0), some (.getfield 80, 8, 26, 2), none, none, some (.iload_n 1, 0, 0, 0), some (.aload_n 0, 0, 0, 0), some (.getfield 7, 8, 0, 2), none, none, some (.iload_n 1, 0, 0, 0), some (.iaload, 0, 0, 0), some (.bipush 6, 0, 0, 0), none, some (.if_icmp .ne 20, 0, 0, 0), none, none, some (.bipush 16, 0, 0, 0), none, some (.iload_n 2, 0, 0, 0), some (.aload_n 0, 0, 0, 0), some (.getfield 22, 8, 4, 2), none, none, some (.iload_n 1, 0, 0, 0), some (.iaload, 0, 0, 0), some (.iadd, 0, 0, 0), some (.bipush 63, 0, 0, 0), none, some (.iand, 0, 0, 0), some (.iadd, 0, 0, 0), some (.goto 9, 0, 0, 0), none, none, some (.aload_n 0, 0, 0, 0), some (.getfield 13, 8, 1, 2), none, none, some (.iload_n 1, 0, 0, 0), some (.iaload, 0, 0, 0), some (.iastore, 0, 0, 0), some (.aload_n 0, 0, 0, 0), some (.getfield 7, 8, 0, 2), none, none, some (.iload_n 1, 0, 0, 0), some (.iaload, 0, 0, 0), some (.tableswitch 133 0 5 #[38, 53, 65, 77, 89, 108], 0, 0, 0), none, none, none, none, none, none, none, none, none, none, none, none, none, none, none, none, none, none, none, none, none, none, none, none, none, none, none, none, none, none, none, none, none, none, none, none, none, some (.aload_n 0, 0, 0, 0), some (.getfield 83, 8, 27, 2), none, none, some (.iload_n 1, 0, 0, 0), some (.aload_n 0, 0, 0, 0), some (.getfield 22, 8, 4, 2), none, none, some (.iload_n 1, 0, 0, 0), some (.iaload, 0, 0, 0), some (.iastore, 0, 0, 0), some (.goto 90, 0, 0, 0), none, none, some (.aload_n 0, 0, 0, 0), some (.getfield 83, 8, 27, 2), none, none, some (.iload_n 1, 0, 0, 0), some (.iload_n 2, 0, 0, 0), some (.iload_n 3, 0, 0, 0), some (.iadd, 0, 0, 0), some (.iastore, 0, 0, 0), some (.goto 78, 0, 0, 0), none, none, some (.aload_n 0, 0, 0, 0), some (.getfield 83, 8, 27, 2), none, none, some (.iload_n 1, 0, 0, 0), some (.iload_n 2, 0, 0, 0), some (.iload_n 3, 0, 0, 0), some (.isub, 0, 0, 0), some (.iastore, 0, 0, 0), some (.goto 66, 0, 0, 0), none, none, some (.aload_n 0, 0, 0, 0), some (.getfield 83, 8, 27, 2), none, none, some (.iload_n 1, 0, 0, 0), some (.iload_n 2, 0, 0, 0), some (.iload_n 3, 0, 0, 0), some (.imul, 0, 0, 0), some (.iastore, 0, 0, 0), some (.goto 54, 0, 0, 0), none, none, some (.aload_n 0, 0, 0, 0), some (.getfield 83, 8, 27, 2), none, none, some (.iload_n 1, 0, 0, 0), some (.iload_n 2, 0, 0, 0), some (.iload_n 3, 0, 0, 0), some (.if_icmp .ge 7, 0, 0, 0), none, none, some (.iconst 1, 0, 0, 0), some (.goto 4, 0, 0, 0), none, none, some (.iconst 0, 0, 0, 0), some (.iastore, 0, 0, 0), some (.goto 35, 0, 0, 0), none, none, some (.aload_n 0, 0, 0, 0), some (.getfield 83, 8, 27, 2), none, none, some (.iload_n 1, 0, 0, 0), some (.aload_n 0, 0, 0, 0), some (.getfield 77, 8, 25, 2), none, none, some (.iload_n 2, 0, 0, 0), some (.aload_n 0, 0, 0, 0), some (.getfield 22, 8, 4, 2), none, none, some (.iload_n 1, 0, 0, 0), some (.iaload, 0, 0, 0), some (.iadd, 0, 0, 0), some (.bipush 63, 0, 0, 0), none, some (.iand, 0, 0, 0), some (.iaload, 0, 0, 0), some (.iastore, 0, 0, 0), some (.goto 10, 0, 0, 0), none, none, some (.aload_n 0, 0, 0, 0), some (.getfield 83, 8, 27, 2), none, none, some (.iload_n 1, 0, 0, 0), some (.iload_n 3, 0, 0, 0), some (.iastore, 0, 0, 0), some (.return_, 0, 0, 0)]
abbrev kX8_begin : Nat := 114
def eX8_begin : zE := (yX8_begin, cX8_begin, 4, none, 1, false, 8, tX8_begin)
def tX8_come : List (Option zR) := [some (.aload_n 0, 0, 0, 0), some (.getfield 80, 8, 26, 2), none, none, some (.iload_n 1, 0, 0, 0), some (.iaload, 0, 0, 0), some (.bipush 16, 0, 0, 0), none, some (.if_icmp .ge 23, 0, 0, 0), none, none, some (.aload_n 0, 0, 0, 0), some (.getfield 74, 8, 24, 2), none, none, some (.aload_n 0, 0, 0, 0), some (.getfield 80, 8, 26, 2), none, none, some (.iload_n 1, 0, 0, 0), some (.iaload, 0, 0, 0), some (.aload_n 0, 0, 0, 0), some (.getfield 83, 8, 27, 2), none, none, some (.iload_n 1, 0, 0, 0), some (.iaload, 0, 0, 0), some (.iastore, 0, 0, 0), some (.goto 23, 0, 0, 0), none, none, some (.aload_n 0, 0, 0, 0), some (.getfield 77, 8, 25, 2), none, none, some (.aload_n 0, 0, 0, 0), some (.getfield 80, 8, 26, 2), none, none, some (.iload_n 1, 0, 0, 0), some (.iaload, 0, 0, 0), some (.bipush 16, 0, 0, 0), none, some (.isub, 0, 0, 0), some (.aload_n 0, 0, 0, 0), some (.getfield 83, 8, 27, 2), none, none, some (.iload_n 1, 0, 0, 0), some (.iaload, 0, 0, 0), some (.iastore, 0, 0, 0), some (.return_, 0, 0, 0)]
abbrev kX8_come : Nat := 115
def eX8_come : zE := (yX8_come, cX8_come, 2, none, 1, false, 8, tX8_come)
def tX8_runBy : List (Option zR) := [some (.iconst 0, 0, 0, 0), some (.istore_n 3, 0, 0, 0), some (.iload_n 3, 0, 0, 0), some (.iload_n 2, 0, 0, 0), some (.if_icmp .gt 80, 0, 0, 0), none, none, some (.iconst 0, 0, 0, 0), some (.istore 4, 0, 0, 0), none, some (.iload 4, 0, 0, 0), none, some (.aload_n 0, 0, 0, 0), some (.getfield 112, 8, 5, 0), none, none, some (.if_icmp .ge 30, 0, 0, 0), none, none, some (.aload_n 1, 0, 0, 0), some (.iload 4, 0, 0, 0), none, some (.iaload, 0, 0, 0), some (.aload_n 0, 0, 0, 0), some (.iload 4, 0, 0, 0), none, some (.invokevirtual 97, 80, 1, 32), none, none, some (.iadd, 0, 0, 0), some (.iload_n 3, 0, 0, 0), some (.if_icmp .ne 9, 0, 0, 0), none, none, some (.aload_n 0, 0, 0, 0), some (.iload 4, 0, 0, 0), none, some (.invokevirtual 184, 115, 1, 32), none, none, some (.iinc 4 1, 0, 0, 0), none, none, some (.goto (-33), 0, 0, 0), none, none, some (.iconst 0, 0, 0, 0), some (.istore 4, 0, 0, 0), none, some (.iload 4, 0, 0, 0), none, some (.aload_n 0, 0, 0, 0), some (.getfield 112, 8, 5, 0), none, none, some (.if_icmp .ge 23, 0, 0, 0), none, none, some (.aload_n 1, 0, 0, 0), some (.iload 4, 0, 0, 0), none, some (.iaload, 0, 0, 0), some (.iload_n 3, 0, 0, 0), some (.if_icmp .ne 9, 0, 0, 0), none, none, some (.aload_n 0, 0, 0, 0), some (.iload 4, 0, 0, 0), none, some (.invokevirtual 188, 114, 1, 32), none, none, some (.iinc 4 1, 0, 0, 0), none, none, some (.goto (-26), 0, 0, 0), none, none, some (.iinc 3 1, 0, 0, 0), none, none, some (.goto (-79), 0, 0, 0), none, none, some (.return_, 0, 0, 0)]
abbrev kX8_runBy : Nat := 116
def eX8_runBy : zE := (yX8_runBy, cX8_runBy, 5, none, 2, false, 8, tX8_runBy)
def tX8_run : List (Option zR) := [some (.iload_n 1, 0, 0, 0), some (.ifCond .lt 8, 0, 0, 0), none, none, some (.iload_n 1, 0, 0, 0), some (.iconst 2, 0, 0, 0), some (.if_icmp .le 5, 0, 0, 0), none, none, some (.iconst (-1), 0, 0, 0), some (.ireturn, 0, 0, 0), some (.aload_n 0, 0, 0, 0), some (.invokevirtual 167, 85, 0, 32), none, none, some (.iload_n 1, 0, 0, 0), some (.iconst 2, 0, 0, 0), some (.if_icmp .ne 14, 0, 0, 0), none, none, some (.aload_n 0, 0, 0, 0), some (.iconst 0, 0, 0, 0), some (.invokevirtual 173, 110, 1, 32), none, none, some (.ifCond .le 6, 0, 0, 0), none, none, some (.bipush (-3), 0, 0, 0), none, some (.ireturn, 0, 0, 0), some (.iconst 0, 0, 0, 0), some (.istore_n 2, 0, 0, 0), some (.iload_n 2, 0, 0, 0), some (.bipush 16, 0, 0, 0), none, some (.if_icmp .ge 21, 0, 0, 0), none, none, some (.aload_n 0, 0, 0, 0), some (.getfield 74, 8, 24, 2), none, none, some (.iload_n 2, 0, 0, 0), some (.aload_n 0, 0, 0, 0), some (.getfield 68, 8, 22, 2), none, none, some (.iload_n 2, 0, 0, 0), some (.iaload, 0, 0, 0), some (.iastore, 0, 0, 0), some (.iinc 2 1, 0, 0, 0), none, none, some (.goto (-21), 0, 0, 0), none, none, some (.iconst 0, 0, 0, 0), some (.istore_n 2, 0, 0, 0), some (.iload_n 2, 0, 0, 0), some (.bipush 64, 0, 0, 0), none, some (.if_icmp .ge 21, 0, 0, 0), none, none, some (.aload_n 0, 0, 0, 0), some (.getfield 77, 8, 25, 2), none, none, some (.iload_n 2, 0, 0, 0), some (.aload_n 0, 0, 0, 0), some (.getfield 71, 8, 23, 2), none, none, some (.iload_n 2, 0, 0, 0), some (.iaload, 0, 0, 0), some (.iastore, 0, 0, 0), some (.iinc 2 1, 0, 0, 0), none, none, some (.goto (-21), 0, 0, 0), none, none, some (.iload_n 1, 0, 0, 0), some (.ifCond .ne 38, 0, 0, 0), none, none, some (.iconst 0, 0, 0, 0), some (.istore_n 2, 0, 0, 0), some (.iload_n 2, 0, 0, 0), some (.aload_n 0, 0, 0, 0), some (.getfield 112, 8, 5, 0), none, none, some (.if_icmp .ge 19, 0, 0, 0), none, none, some (.aload_n 0, 0, 0, 0), some (.iload_n 2, 0, 0, 0), some (.invokevirtual 188, 114, 1, 32), none, none, some (.aload_n 0, 0, 0, 0), some (.iload_n 2, 0, 0, 0), some (.invokevirtual 184, 115, 1, 32), none, none, some (.iinc 2 1, 0, 0, 0), none, none, some (.goto (-21), 0, 0, 0), none, none, some (.aload_n 0, 0, 0, 0), some (.aload_n 0, 0, 0, 0), some (.getfield 47, 8, 14, 2), none, none, some (.invokevirtual 153, 91, 1, 32), none, none, some (.ireturn, 0, 0, 0), some (.iload_n 1, 0, 0, 0), some (.iconst 1, 0, 0, 0), some (.if_icmp .ne 10, 0, 0, 0), none, none, some (.aload_n 0, 0, 0, 0), some (.getfield 41, 8, 12, 2), none, none, some (.goto 7, 0, 0, 0), none, none, some (.aload_n 0, 0, 0, 0), some (.getfield 53, 8, 16, 2), none, none, some (.astore_n 2, 0, 0, 0), some (.aload_n 0, 0, 0, 0), some (.aload_n 2, 0, 0, 0), some (.invokevirtual 153, 91, 1, 32), none, none, some (.istore_n 3, 0, 0, 0), some (.aload_n 0, 0, 0, 0), some (.aload_n 2, 0, 0, 0), some (.iload_n 3, 0, 0, 0), some (.invokevirtual 191, 116, 2, 32), none, none, some (.iload_n 3, 0, 0, 0), some (.ireturn, 0, 0, 0)]
abbrev kX8_run : Nat := 117
def eX8_run : zE := (yX8_run, cX8_run, 4, some .int, 1, false, 8, tX8_run)
def tX8_value : List (Option zR) := [some (.iload_n 1, 0, 0, 0), some (.ifCond .ne 20, 0, 0, 0), none, none, some (.iload_n 2, 0, 0, 0), some (.ifCond .lt 16, 0, 0, 0), none, none, some (.iload_n 2, 0, 0, 0), some (.bipush 16, 0, 0, 0), none, some (.if_icmp .ge 10, 0, 0, 0), none, none, some (.aload_n 0, 0, 0, 0), some (.getfield 74, 8, 24, 2), none, none, some (.iload_n 2, 0, 0, 0), some (.iaload, 0, 0, 0), some (.ireturn, 0, 0, 0), some (.iload_n 1, 0, 0, 0), some (.iconst 1, 0, 0, 0), some (.if_icmp .ne 22, 0, 0, 0), none, none, some (.iload_n 2, 0, 0, 0), some (.ifCond .lt 18, 0, 0, 0), none, none, some (.iload_n 2, 0, 0, 0), some (.bipush 64, 0, 0, 0), none, some (.if_icmp .ge 12, 0, 0, 0), none, none, some (.aload_n 0, 0, 0, 0), some (.getfield 77, 8, 25, 2), none, none, some (.iload_n 2, 0, 0, 0), some (.iaload, 0, 0, 0), some (.goto 4, 0, 0, 0), none, none, some (.iconst 0, 0, 0, 0), some (.ireturn, 0, 0, 0)]
abbrev kX8_value : Nat := 118
def eX8_value : zE := (yX8_value, cX8_value, 3, some .int, 2, false, 8, tX8_value)
def tJ9_floorMod_7cf53 : List (Option zR) := [some (.iload_n 0, 0, 0, 0), some (.iload_n 1, 0, 0, 0), some (.irem, 0, 0, 0), some (.istore_n 2, 0, 0, 0), some (.iload_n 0, 0, 0, 0), some (.iload_n 1, 0, 0, 0), some (.ixor, 0, 0, 0), some (.ifCond .ge 11, 0, 0, 0), none, none, some (.iload_n 2, 0, 0, 0), some (.ifCond .eq 7, 0, 0, 0), none, none, some (.iload_n 2, 0, 0, 0), some (.iload_n 1, 0, 0, 0), some (.iadd, 0, 0, 0), some (.ireturn, 0, 0, 0), some (.iload_n 2, 0, 0, 0), some (.ireturn, 0, 0, 0)]
abbrev kJ9_floorMod_7cf53 : Nat := 119
def eJ9_floorMod_7cf53 : zE := (yJ9_floorMod_7cf53, cJ9_floorMod_7cf53, 3, some .int, 2, true, 20, tJ9_floorMod_7cf53)
def tJ9_max_7cf53 : List (Option zR) := [some (.iload_n 0, 0, 0, 0), some (.iload_n 1, 0, 0, 0), some (.if_icmp .lt 7, 0, 0, 0), none, none, some (.iload_n 0, 0, 0, 0), some (.goto 4, 0, 0, 0), none, none, some (.iload_n 1, 0, 0, 0), some (.ireturn, 0, 0, 0)]
abbrev kJ9_max_7cf53 : Nat := 120
def eJ9_max_7cf53 : zE := (yJ9_max_7cf53, cJ9_max_7cf53, 2, some .int, 2, true, 20, tJ9_max_7cf53)
def tJ9_min_7cf53 : List (Option zR) := [some (.iload_n 0, 0, 0, 0), some (.iload_n 1, 0, 0, 0), some (.if_icmp .gt 7, 0, 0, 0), none, none, some (.iload_n 0, 0, 0, 0), some (.goto 4, 0, 0, 0), none, none, some (.iload_n 1, 0, 0, 0), some (.ireturn, 0, 0, 0)]
abbrev kJ9_min_7cf53 : Nat := 121
def eJ9_min_7cf53 : zE := (yJ9_min_7cf53, cJ9_min_7cf53, 2, some .int, 2, true, 20, tJ9_min_7cf53)
def tJ7_fill_53178 : List (Option zR) := [some (.iconst 0, 0, 0, 0), some (.istore_n 2, 0, 0, 0), some (.aload_n 0, 0, 0, 0), some (.arraylength, 0, 0, 0), some (.istore_n 3, 0, 0, 0), some (.iload_n 2, 0, 0, 0), some (.iload_n 3, 0, 0, 0), some (.if_icmp .ge 13, 0, 0, 0), none, none, some (.aload_n 0, 0, 0, 0), some (.iload_n 2, 0, 0, 0), some (.iload_n 1, 0, 0, 0), some (.iastore, 0, 0, 0), some (.iinc 2 1, 0, 0, 0), none, none, some (.goto (-12), 0, 0, 0), none, none, some (.return_, 0, 0, 0)]
abbrev kJ7_fill_53178 : Nat := 122
def eJ7_fill_53178 : zE := (yJ7_fill_53178, cJ7_fill_53178, 4, none, 2, true, 20, tJ7_fill_53178)
def tL_law : List (Option zR) := [some (.new 7, 7, 0, 0), none, none, some (.dup, 0, 0, 0), some (.invokespecial 9, 52, 0, 0), none, none, some (.astore_n 1, 0, 0, 0), some (.new 10, 8, 0, 0), none, none, some (.dup, 0, 0, 0), some (.invokespecial 12, 76, 0, 0), none, none, some (.astore_n 2, 0, 0, 0), some (.iconst 0, 0, 0, 0), some (.istore_n 3, 0, 0, 0), some (.iload_n 3, 0, 0, 0), some (.aload_n 0, 0, 0, 0), some (.arraylength, 0, 0, 0), some (.bipush 6, 0, 0, 0), none, some (.isub, 0, 0, 0), some (.if_icmp .gt 508, 0, 0, 0), none, none, some (.aload_n 0, 0, 0, 0), some (.iload_n 3, 0, 0, 0), some (.iaload, 0, 0, 0), some (.bipush 15, 0, 0, 0), none, some (.iand, 0, 0, 0), some (.tableswitch 493 0 13 #[71, 134, 157, 190, 213, 246, 279, 302, 325, 358, 371, 394, 437, 460], 0, 0, 0), none, none, none, none, none, none, none, none, none, none, none, none, none, none, none, none, none, none, none, none, none, none, none, none, none, none, none, none, none, none, none, none, none, none, none, none, none, none, none, none, none, none, none, none, none, none, none, none, none, none, none, none, none, none, none, none, none, none, none, none, none, none, none, none, none, none, none, none, none, none, some (.aload_n 1, 0, 0, 0), some (.aload_n 0, 0, 0, 0), some (.iload_n 3, 0, 0, 0), some (.iconst 1, 0, 0, 0), some (.iadd, 0, 0, 0), some (.iaload, 0, 0, 0), some (.aload_n 0, 0, 0, 0), some (.iload_n 3, 0, 0, 0), some (.iconst 2, 0, 0, 0), some (.iadd, 0, 0, 0), some (.iaload, 0, 0, 0), some (.aload_n 0, 0, 0, 0), some (.iload_n 3, 0, 0, 0), some (.iconst 3, 0, 0, 0), some (.iadd, 0, 0, 0), some (.iaload, 0, 0, 0), some (.aload_n 0, 0, 0, 0), some (.iload_n 3, 0, 0, 0), some (.iconst 4, 0, 0, 0), some (.iadd, 0, 0, 0), some (.iaload, 0, 0, 0), some (.aload_n 0, 0, 0, 0), some (.iload_n 3, 0, 0, 0), some (.iconst 5, 0, 0, 0), some (.iadd, 0, 0, 0), some (.iaload, 0, 0, 0), some (.invokevirtual 13, 53, 5, 28), none, none, some (.aload_n 2, 0, 0, 0), some (.aload_n 0, 0, 0, 0), some (.iload_n 3, 0, 0, 0), some (.iconst 1, 0, 0, 0), some (.iadd, 0, 0, 0), some (.iaload, 0, 0, 0), some (.aload_n 0, 0, 0, 0), some (.iload_n 3, 0, 0, 0), some (.iconst 2, 0, 0, 0), some (.iadd, 0, 0, 0), some (.iaload, 0, 0, 0), some (.aload_n 0, 0, 0, 0), some (.iload_n 3, 0, 0, 0), some (.iconst 3, 0, 0, 0), some (.iadd, 0, 0, 0), some (.iaload, 0, 0, 0), some (.aload_n 0, 0, 0, 0), some (.iload_n 3, 0, 0, 0), some (.iconst 4, 0, 0, 0), some (.iadd, 0, 0, 0), some (.iaload, 0, 0, 0), some (.aload_n 0, 0, 0, 0), some (.iload_n 3, 0, 0, 0), some (.iconst 5, 0, 0, 0), some (.iadd, 0, 0, 0), some (.iaload, 0, 0, 0), some (.invokevirtual 17, 97, 5, 32), none, none, some (.if_icmp .eq 364, 0, 0, 0), none, none, some (.iconst 0, 0, 0, 0), some (.ireturn, 0, 0, 1), some (.aload_n 1, 0, 0, 0), some (.aload_n 0, 0, 0, 0), some (.iload_n 3, 0, 0, 0), some (.iconst 1, 0, 0, 0), some (.iadd, 0, 0, 0), some (.iaload, 0, 0, 0), some (.invokevirtual 18, 54, 1, 28), none, none, some (.aload_n 2, 0, 0, 0), some (.aload_n 0, 0, 0, 0), some (.iload_n 3, 0, 0, 0), some (.iconst 1, 0, 0, 0), some (.iadd, 0, 0, 0), some (.iaload, 0, 0, 0), some (.invokevirtual 22, 98, 1, 32), none, none, some (.if_icmp .eq 341, 0, 0, 0), none, none, some (.iconst 0, 0, 0, 0), some (.ireturn, 0, 0, 1), some (.aload_n 1, 0, 0, 0), some (.aload_n 0, 0, 0, 0), some (.iload_n 3, 0, 0, 0), some (.iconst 1, 0, 0, 0), some (.iadd, 0, 0, 0), some (.iaload, 0, 0, 0), some (.aload_n 0, 0, 0, 0), some (.iload_n 3, 0, 0, 0), some (.iconst 2, 0, 0, 0), some (.iadd, 0, 0, 0), some (.iaload, 0, 0, 0), some (.invokevirtual 23, 55, 2, 28), none, none, some (.aload_n 2, 0, 0, 0), some (.aload_n 0, 0, 0, 0), some (.iload_n 3, 0, 0, 0), some (.iconst 1, 0, 0, 0), some (.iadd, 0, 0, 0), some (.iaload, 0, 0, 0), some (.aload_n 0, 0, 0, 0), some (.iload_n 3, 0, 0, 0), some (.iconst 2, 0, 0, 0), some (.iadd, 0, 0, 0), some (.iaload, 0, 0, 0), some (.invokevirtual 27, 99, 2, 32), none, none, some (.if_icmp .eq 308, 0, 0, 0), none, none, some (.iconst 0, 0, 0, 0), some (.ireturn, 0, 0, 1), some (.aload_n 1, 0, 0, 0), some (.aload_n 0, 0, 0, 0), some (.iload_n 3, 0, 0, 0), some (.iconst 1, 0, 0, 0), some (.iadd, 0, 0, 0), some (.iaload, 0, 0, 0), some (.invokevirtual 28, 56, 1, 28), none, none, some (.aload_n 2, 0, 0, 0), some (.aload_n 0, 0, 0, 0), some (.iload_n 3, 0, 0, 0), some (.iconst 1, 0, 0, 0), some (.iadd, 0, 0, 0), some (.iaload, 0, 0, 0), some (.invokevirtual 31, 100, 1, 32), none, none, some (.if_icmp .eq 285, 0, 0, 0), none, none, some (.iconst 0, 0, 0, 0), some (.ireturn, 0, 0, 1), some (.aload_n 1, 0, 0, 0), some (.aload_n 0, 0, 0, 0), some (.iload_n 3, 0, 0, 0), some (.iconst 1, 0, 0, 0), some (.iadd, 0, 0, 0), some (.iaload, 0, 0, 0), some (.aload_n 0, 0, 0, 0), some (.iload_n 3, 0, 0, 0), some (.iconst 2, 0, 0, 0), some (.iadd, 0, 0, 0), some (.iaload, 0, 0, 0), some (.invokevirtual 32, 57, 2, 28), none, none, some (.aload_n 2, 0, 0, 0), some (.aload_n 0, 0, 0, 0), some (.iload_n 3, 0, 0, 0), some (.iconst 1, 0, 0, 0), some (.iadd, 0, 0, 0), some (.iaload, 0, 0, 0), some (.aload_n 0, 0, 0, 0), some (.iload_n 3, 0, 0, 0), some (.iconst 2, 0, 0, 0), some (.iadd, 0, 0, 0), some (.iaload, 0, 0, 0), some (.invokevirtual 35, 102, 2, 32), none, none, some (.if_icmp .eq 252, 0, 0, 0), none, none, some (.iconst 0, 0, 0, 0), some (.ireturn, 0, 0, 1), some (.aload_n 1, 0, 0, 0), some (.aload_n 0, 0, 0, 0), some (.iload_n 3, 0, 0, 0), some (.iconst 1, 0, 0, 0), some (.iadd, 0, 0, 0), some (.iaload, 0, 0, 0), some (.aload_n 0, 0, 0, 0), some (.iload_n 3, 0, 0, 0), some (.iconst 2, 0, 0, 0), some (.iadd, 0, 0, 0), some (.iaload, 0, 0, 0), some (.invokevirtual 36, 58, 2, 28), none, none, some (.aload_n 2, 0, 0, 0), some (.aload_n 0, 0, 0, 0), some (.iload_n 3, 0, 0, 0), some (.iconst 1, 0, 0, 0), some (.iadd, 0, 0, 0), some (.iaload, 0, 0, 0), some (.aload_n 0, 0, 0, 0), some (.iload_n 3, 0, 0, 0), some (.iconst 2, 0, 0, 0), some (.iadd, 0, 0, 0), some (.iaload, 0, 0, 0), some (.invokevirtual 39, 104, 2, 32), none, none, some (.if_icmp .eq 219, 0, 0, 0), none, none, some (.iconst 0, 0, 0, 0), some (.ireturn, 0, 0, 1), some (.aload_n 1, 0, 0, 0), some (.aload_n 0, 0, 0, 0), some (.iload_n 3, 0, 0, 0), some (.iconst 1, 0, 0, 0), some (.iadd, 0, 0, 0), some (.iaload, 0, 0, 0), some (.invokevirtual 40, 59, 1, 28), none, none, some (.aload_n 2, 0, 0, 0), some (.aload_n 0, 0, 0, 0), some (.iload_n 3, 0, 0, 0), some (.iconst 1, 0, 0, 0), some (.iadd, 0, 0, 0), some (.iaload, 0, 0, 0), some (.invokevirtual 43, 105, 1, 32), none, none, some (.if_icmp .eq 196, 0, 0, 0), none, none, some (.iconst 0, 0, 0, 0), some (.ireturn, 0, 0, 1), some (.aload_n 1, 0, 0, 0), some (.aload_n 0, 0, 0, 0), some (.iload_n 3, 0, 0, 0), some (.iconst 1, 0, 0, 0), some (.iadd, 0, 0, 0), some (.iaload, 0, 0, 0), some (.invokevirtual 44, 60, 1, 28), none, none, some (.aload_n 2, 0, 0, 0), some (.aload_n 0, 0, 0, 0), some (.iload_n 3, 0, 0, 0), some (.iconst 1, 0, 0, 0), some (.iadd, 0, 0, 0), some (.iaload, 0, 0, 0), some (.invokevirtual 47, 107, 1, 32), none, none, some (.if_icmp .eq 173, 0, 0, 0), none, none, some (.iconst 0, 0, 0, 0), some (.ireturn, 0, 0, 1), some (.aload_n 1, 0, 0, 0), some (.aload_n 0, 0, 0, 0), some (.iload_n 3, 0, 0, 0), some (.iconst 1, 0, 0, 0), some (.iadd, 0, 0, 0), some (.iaload, 0, 0, 0), some (.aload_n 0, 0, 0, 0), some (.iload_n 3, 0, 0, 0), some (.iconst 2, 0, 0, 0), some (.iadd, 0, 0, 0), some (.iaload, 0, 0, 0), some (.invokevirtual 48, 61, 2, 28), none, none, some (.aload_n 2, 0, 0, 0), some (.aload_n 0, 0, 0, 0), some (.iload_n 3, 0, 0, 0), some (.iconst 1, 0, 0, 0), some (.iadd, 0, 0, 0), some (.iaload, 0, 0, 0), some (.aload_n 0, 0, 0, 0), some (.iload_n 3, 0, 0, 0), some (.iconst 2, 0, 0, 0), some (.iadd, 0, 0, 0), some (.iaload, 0, 0, 0), some (.invokevirtual 51, 108, 2, 32), none, none, some (.if_icmp .eq 140, 0, 0, 0), none, none, some (.iconst 0, 0, 0, 0), some (.ireturn, 0, 0, 1), some (.aload_n 1, 0, 0, 0), some (.invokevirtual 52, 62, 0, 28), none, none, some (.aload_n 2, 0, 0, 0), some (.invokevirtual 56, 111, 0, 32), none, none, some (.if_icmp .eq 127, 0, 0, 0), none, none, some (.iconst 0, 0, 0, 0), some (.ireturn, 0, 0, 1), some (.aload_n 1, 0, 0, 0), some (.aload_n 0, 0, 0, 0), some (.iload_n 3, 0, 0, 0), some (.iconst 1, 0, 0, 0), some (.iadd, 0, 0, 0), some (.iaload, 0, 0, 0), some (.invokevirtual 57, 63, 1, 28), none, none, some (.aload_n 2, 0, 0, 0), some (.aload_n 0, 0, 0, 0), some (.iload_n 3, 0, 0, 0), some (.iconst 1, 0, 0, 0), some (.iadd, 0, 0, 0), some (.iaload, 0, 0, 0), some (.invokevirtual 60, 112, 1, 32), none, none, some (.if_icmp .eq 104, 0, 0, 0), none, none, some (.iconst 0, 0, 0, 0), some (.ireturn, 0, 0, 1), some (.aload_n 1, 0, 0, 0), some (.aload_n 0, 0, 0, 0), some (.iload_n 3, 0, 0, 0), some (.iconst 1, 0, 0, 0), some (.iadd, 0, 0, 0), some (.iaload, 0, 0, 0), some (.aload_n 0, 0, 0, 0), some (.iload_n 3, 0, 0, 0), some (.iconst 2, 0, 0, 0), some (.iadd, 0, 0, 0), some (.iaload, 0, 0, 0), some (.aload_n 0, 0, 0, 0), some (.iload_n 3, 0, 0, 0), some (.iconst 3, 0, 0, 0), some (.iadd, 0, 0, 0), some (.iaload, 0, 0, 0), some (.invokevirtual 61, 64, 3, 28), none, none, some (.aload_n 2, 0, 0, 0), some (.aload_n 0, 0, 0, 0), some (.iload_n 3, 0, 0, 0), some (.iconst 1, 0, 0, 0), some (.iadd, 0, 0, 0), some (.iaload, 0, 0, 0), some (.aload_n 0, 0, 0, 0), some (.iload_n 3, 0, 0, 0), some (.iconst 2, 0, 0, 0), some (.iadd, 0, 0, 0), some (.iaload, 0, 0, 0), some (.aload_n 0, 0, 0, 0), some (.iload_n 3, 0, 0, 0), some (.iconst 3, 0, 0, 0), some (.iadd, 0, 0, 0), some (.iaload, 0, 0, 0), some (.invokevirtual 65, 113, 3, 32), none, none, some (.if_icmp .eq 61, 0, 0, 0), none, none, some (.iconst 0, 0, 0, 0), some (.ireturn, 0, 0, 1), some (.aload_n 1, 0, 0, 0), some (.aload_n 0, 0, 0, 0), some (.iload_n 3, 0, 0, 0), some (.iconst 1, 0, 0, 0), some (.iadd, 0, 0, 0), some (.iaload, 0, 0, 0), some (.invokevirtual 66, 65, 1, 28), none, none, some (.aload_n 2, 0, 0, 0), some (.aload_n 0, 0, 0, 0), some (.iload_n 3, 0, 0, 0), some (.iconst 1, 0, 0, 0), some (.iadd, 0, 0, 0), some (.iaload, 0, 0, 0), some (.invokevirtual 69, 117, 1, 32), none, none, some (.if_icmp .eq 38, 0, 0, 0), none, none, some (.iconst 0, 0, 0, 0), some (.ireturn, 0, 0, 1), some (.aload_n 1, 0, 0, 0), some (.aload_n 0, 0, 0, 0), some (.iload_n 3, 0, 0, 0), some (.iconst 1, 0, 0, 0), some (.iadd, 0, 0, 0), some (.iaload, 0, 0, 0), some (.aload_n 0, 0, 0, 0), some (.iload_n 3, 0, 0, 0), some (.iconst 2, 0, 0, 0), some (.iadd, 0, 0, 0), some (.iaload, 0, 0, 0), some (.invokevirtual 70, 66, 2, 28), none, none, some (.aload_n 2, 0, 0, 0), some (.aload_n 0, 0, 0, 0), some (.iload_n 3, 0, 0, 0), some (.iconst 1, 0, 0, 0), some (.iadd, 0, 0, 0), some (.iaload, 0, 0, 0), some (.aload_n 0, 0, 0, 0), some (.iload_n 3, 0, 0, 0), some (.iconst 2, 0, 0, 0), some (.iadd, 0, 0, 0), some (.iaload, 0, 0, 0), some (.invokevirtual 73, 118, 2, 32), none, none, some (.if_icmp .eq 5, 0, 0, 0), none, none, some (.iconst 0, 0, 0, 0), some (.ireturn, 0, 0, 1), some (.iinc 3 6, 0, 0, 0), none, none, some (.goto (-511), 0, 0, 0), none, none, some (.iconst 1, 0, 0, 0), some (.ireturn, 0, 0, 1)]
def eL_law : zE := (yL_law, code, 4, some .boolean, 1, true, 9, tL_law)
def zmt_0 : List zE := [eX0_init, eX0_holds, eX0_append, eX0_latencyOf, eX0_written, eX0_read, eX0_usesMemory, eX0_lengthOf, eX1_init, eX1_find, eX1_between, eX1_leastCycle, eX1_rowOf, eX1_findDelaysOf, eX1_registerDelay, eX1_memoryDelay, eX1_areApart, eX1_findWays, eX2_init, eX2_make, eX2_forgetCycles, eX2_isFree, eX2_bestFor, eX2_firstPossibleBehind, eX2_giveCycle, eX3_init, eX3_tell, eX3_look, eX3_runAsItStands, eX3_runByCycles]
def zmt_1 : List zE := [eX3_isPlace, eX3_startAnew, eX3_nextMoment, eX3_comeIn, eX3_beginIn, eX3_begin, eX3_come, eX4_init, eX4_make, eX5_init, eX5_forgetFrom, eX5_inspect, eX5_findWithoutCycle, eX5_findDelayNotKept, eX5_findTooMany, eX5_howManyIn, eX6_init, eX6_leastLength, eX6_tryAll, eX6_isFree, eX6_isHopeless, eX6_howManyWithWay, eX7_init, eX7_add, eX7_cut, eX7_latency, eX7_units, eX7_delay, eX7_about, eX7_listed]
def zmt_2 : List zE := [eX7_length, eX7_place, eX7_check, eX7_wrong, eX7_given, eX7_run, eX7_value, eX7_runByPlan, eX7_shortest, eX7_refresh, eX7_isKind, eX7_isRegister, eX7_namesTarget, eX7_namesFirst, eX7_namesSecond, eX7_namesRegistersOnly, eX8_init, eX8_reads, eX8_writes, eX8_isWritten, eX8_latencyOf, eX8_mayMeet, eX8_memoryDelay, eX8_delayOf, eX8_delayAt, eX8_work, eX8_mayBegin, eX8_makeList, eX8_inCycle, eX8_leastCycle]
def zmt_3 : List zE := [eX8_inOrder, eX8_lengthOf, eX8_nextRow, eX8_exchange, eX8_isKept, eX8_findShortest, eX8_isRegister, eX8_add, eX8_cut, eX8_latency, eX8_units, eX8_isThere, eX8_delay, eX8_greatestWay, eX8_about, eX8_listed, eX8_dependences, eX8_length, eX8_place, eX8_tell, eX8_look, eX8_check, eX8_wrong, eX8_given, eX8_begin, eX8_come, eX8_runBy, eX8_run, eX8_value, eJ9_floorMod_7cf53]
def zmt_4 : List zE := [eJ9_max_7cf53, eJ9_min_7cf53, eJ7_fill_53178]
def zmt : List zE := zmt_0 ++ zmt_1 ++ zmt_2 ++ zmt_3 ++ zmt_4
def zmp : List (Nat × Nat × Nat × Nat) := [(79, 78, 0, 56), (374, 372, 373, 56), (347, 345, 346, 56), (405, 403, 404, 56), (401, 399, 400, 56), (397, 395, 396, 56), (416, 414, 415, 56), (484, 482, 483, 56), (135, 134, 0, 58), (382, 380, 381, 58), (435, 433, 434, 58), (427, 425, 426, 58), (389, 388, 0, 58), (386, 385, 1, 58), (393, 392, 2, 58), (412, 411, 3, 58), (420, 419, 4, 58), (431, 430, 5, 58), (166, 165, 0, 59), (439, 437, 438, 59), (443, 442, 6, 59), (452, 451, 8, 59), (448, 447, 7, 59), (456, 455, 9, 59), (461, 460, 10, 59), (255, 254, 0, 63), (559, 557, 558, 63), (616, 614, 615, 63), (571, 569, 570, 63), (595, 593, 594, 63), (562, 561, 0, 63), (575, 574, 20, 63), (599, 598, 24, 63), (604, 603, 25, 63), (608, 607, 26, 63), (582, 581, 21, 63), (587, 586, 22, 63), (193, 192, 0, 60), (465, 463, 464, 60), (229, 228, 0, 62), (358, 356, 357, 62), (522, 520, 521, 62), (526, 525, 16, 62), (530, 529, 17, 62), (535, 534, 18, 62), (539, 538, 19, 62), (210, 209, 0, 61), (494, 492, 493, 61), (499, 498, 12, 61), (517, 516, 15, 61), (507, 506, 13, 61), (511, 510, 14, 61), (71, 70, 0, 55), (325, 323, 324, 55), (354, 352, 353, 55), (362, 360, 361, 55), (366, 364, 365, 55), (370, 368, 369, 55), (472, 470, 471, 55), (476, 474, 475, 55), (480, 478, 479, 55), (543, 541, 542, 55), (547, 545, 546, 55), (551, 549, 550, 55), (555, 553, 554, 55), (567, 565, 566, 55), (612, 610, 611, 55), (591, 590, 23, 55), (490, 489, 11, 55), (378, 377, 0, 55), (328, 327, 0, 55), (337, 336, 0, 55), (334, 333, 0, 55), (340, 339, 0, 55), (343, 342, 0, 55), (331, 330, 0, 55), (621, 620, 0, 64), (766, 765, 35, 64), (758, 757, 33, 64), (754, 753, 32, 64), (762, 761, 34, 64), (750, 749, 31, 64), (746, 745, 30, 64), (742, 741, 29, 64), (770, 769, 36, 64), (738, 737, 28, 64), (778, 777, 38, 64), (774, 773, 37, 64), (790, 789, 41, 64), (786, 785, 40, 64), (782, 781, 39, 64), (802, 801, 44, 64), (806, 805, 45, 64), (810, 809, 46, 64), (798, 797, 43, 64), (794, 793, 42, 64), (714, 713, 0, 64), (711, 709, 710, 64), (718, 716, 717, 64), (722, 720, 721, 64), (726, 724, 725, 64), (734, 733, 27, 64), (730, 728, 729, 64), (818, 817, 47, 64), (814, 812, 813, 64), (822, 820, 821, 64), (838, 837, 50, 64), (826, 824, 825, 64), (842, 840, 841, 64), (834, 833, 49, 64), (830, 829, 48, 64), (846, 844, 845, 64), (850, 848, 849, 64), (854, 852, 853, 64), (862, 861, 51, 64), (866, 865, 52, 64), (870, 869, 53, 64), (858, 856, 857, 64), (874, 872, 873, 64), (423, 422, 0, 65), (408, 407, 0, 65), (503, 502, 0, 65), (83, 82, 0, 57)]
def zhints : List (List Nat) := [[0, 0, 0, 80, 0, 0, 0, 0, 0, 84, 0, 0, 0, 0, 0, 87, 0, 0, 89, 0, 0, 92, 0, 0, 94, 0, 0, 97, 0, 0, 81, 0, 0, 0, 0, 0, 107, 0, 0, 0, 99, 0, 0, 0, 0, 0, 0, 0, 0, 0, 0, 0, 0, 485, 0, 0, 0, 486],
  [0, 0, 0, 136, 0, 0, 0, 0, 0, 147, 0, 0, 0, 0, 0, 148, 0, 0, 0, 137, 0, 0, 141, 0, 0, 143, 0, 0, 0, 100, 0, 0, 0, 0, 383, 0, 0, 0, 424, 0, 0, 0, 428, 0, 0, 387, 0, 0, 0, 406, 0, 0, 0, 0, 0, 390, 0, 0, 0, 409, 0, 0, 398, 0, 0, 394, 0, 0, 402, 0, 0, 413, 0, 0, 0, 85, 0, 0, 417, 0, 0, 0, 90, 0, 0, 95, 0, 0, 421, 0, 0, 146, 0, 0, 432],
  [0, 0, 0, 167, 0, 0, 0, 0, 0, 172, 0, 0, 0, 0, 0, 173, 0, 0, 0, 168, 0, 0, 0, 170, 0, 0, 174, 0, 0, 175, 0, 0, 440, 0, 0, 102, 0, 0, 0, 0, 0, 108, 0, 0, 445, 0, 0, 0, 453, 0, 0, 458, 0, 0, 0, 444, 0, 0, 0, 0, 0, 449, 0, 0, 0, 139, 0, 0, 457],
  [0, 0, 0, 256, 0, 0, 0, 0, 0, 257, 0, 0, 0, 0, 0, 258, 0, 0, 0, 259, 0, 0, 260, 0, 0, 261, 0, 0, 262, 0, 0, 263, 0, 0, 560, 0, 0, 0, 572, 0, 0, 106, 0, 0, 0, 0, 0, 579, 0, 0, 0, 584, 0, 0, 596, 0, 0, 0, 601, 0, 0, 0, 605, 0, 0, 0, 0, 0, 0, 576, 0, 0, 0, 0, 0, 600, 0, 0, 0, 91, 0, 0, 93, 0, 0, 96, 0, 0, 583, 0, 0, 0, 0, 0, 86, 0, 0, 88],
  [0, 0, 0, 194, 0, 0, 0, 0, 0, 197, 0, 0, 0, 0, 0, 198, 0, 0, 0, 195, 0, 0, 0, 101, 0, 0, 0, 0, 0, 466, 0, 0, 0, 0, 0, 109, 0, 0, 467],
  [0, 0, 0, 230, 0, 0, 0, 0, 0, 238, 0, 0, 0, 0, 0, 239, 0, 0, 0, 232, 0, 0, 0, 231, 0, 0, 0, 0, 0, 234, 0, 0, 0, 236, 0, 0, 523, 0, 0, 0, 527, 0, 0, 532, 0, 0, 105, 0, 0, 0, 0, 531, 0, 0, 0, 0, 0, 536, 0, 0, 0, 112],
  [0, 0, 0, 211, 0, 0, 0, 0, 0, 212, 0, 0, 0, 0, 0, 213, 0, 0, 0, 214, 0, 0, 0, 215, 0, 0, 0, 495, 0, 0, 0, 0, 0, 496, 0, 0, 0, 104, 0, 0, 0, 0, 500, 0, 0, 0, 501, 0, 0, 0, 0, 0, 504, 0, 0, 0, 110, 0, 0, 514, 0, 0, 0, 512, 0, 0, 0, 0, 0, 513, 0, 0, 518, 0, 0, 138, 0, 0, 508],
  [0, 0, 0, 72, 0, 0, 0, 0, 0, 75, 0, 77, 279, 0, 0, 0, 131, 0, 133, 0, 0, 280, 0, 0, 0, 162, 0, 164, 0, 0, 281, 0, 0, 0, 189, 0, 191, 282, 0, 0, 0, 283, 0, 0, 206, 0, 208, 284, 0, 0, 0, 225, 0, 227, 285, 0, 0, 0, 251, 0, 253, 286, 0, 0, 0, 287, 0, 0, 0, 288, 0, 0, 0, 291, 0, 0, 0, 292, 0, 0, 326, 0, 0, 0, 329, 0, 0, 0, 103, 0, 0, 344, 0, 0, 0, 355, 0, 0, 0, 98, 0, 0, 111, 0, 0, 371, 0, 0, 375, 0, 0, 468, 0, 0, 0, 140, 0, 0, 142, 0, 0, 145, 0, 0, 169, 0, 0, 196, 233, 171, 0, 0, 481, 0, 0, 0, 487, 0, 0, 0, 519, 0, 0, 144, 0, 0, 235, 0, 0, 237, 0, 0, 556, 0, 0, 0, 568, 0, 0, 588, 0, 0, 613, 0, 0, 592, 0, 0, 0, 289, 0, 0, 491, 0, 0, 0, 290, 0, 0, 379, 0, 0, 436, 0, 0, 462, 0, 332, 0, 0, 335, 0, 0, 338, 0, 0, 341],
  [0, 622, 0, 0, 0, 0, 0, 623, 0, 0, 0, 0, 0, 624, 0, 0, 625, 0, 0, 626, 0, 0, 627, 0, 0, 629, 0, 0, 630, 0, 0, 0, 631, 0, 0, 633, 0, 0, 634, 0, 0, 635, 0, 0, 636, 0, 0, 637, 0, 0, 638, 0, 0, 639, 0, 0, 641, 0, 0, 642, 0, 0, 643, 0, 0, 644, 0, 0, 645, 0, 0, 646, 0, 0, 647, 0, 0, 648, 0, 0, 649, 0, 0, 650, 0, 0, 755, 0, 0, 0, 751, 0, 0, 0, 747, 0, 0, 759, 0, 0, 0, 743, 0, 0, 0, 763, 0, 0, 632, 0, 0, 0, 628, 0, 0, 739, 0, 0, 767, 0, 0, 771, 0, 0, 779, 0, 0, 0, 791, 0, 0, 0, 640, 0, 0, 775, 0, 0, 787, 0, 0, 0, 783, 0, 0, 807, 0, 0, 0, 795, 0, 0, 0, 799, 0, 0, 0, 803, 0, 0, 712, 0, 0, 0, 731, 0, 0, 735, 0, 0, 815, 0, 0, 827, 0, 0, 0, 835, 0, 0, 831, 0, 0, 0, 863, 0, 0, 0, 859, 0, 0, 867],
  [0, 0, 0, 0, 0, 0, 0, 67, 0, 69, 617, 0, 619, 322, 0, 0, 0, 708, 351, 0, 0, 0, 715, 359, 0, 0, 0, 719, 363, 0, 0, 723, 367, 0, 0, 727, 469, 0, 0, 811, 473, 0, 0, 819, 477, 0, 0, 823, 540, 0, 0, 839, 544, 0, 0, 0, 843, 548, 0, 0, 847, 552, 0, 0, 0, 851, 564, 0, 0, 855, 609, 0, 0, 871]]
def znest : List (String × Nat × MethodName × String) := [("BlockBench$Block", 43, yX7_namesTarget, "BlockBench"), ("BlockBench$Block", 47, yX7_namesFirst, "BlockBench"), ("BlockBench$Block", 50, yX7_namesSecond, "BlockBench"), ("BlockBench$Machine", 65, yX7_isRegister, "BlockBench")]
def znestp : List Nat := [348, 349, 350, 563]
def zdefs : List (List Bool) := [[true, true, true, true, true, true, false, false], [true, true, false, false, true, true], [true, true, true, true, true, true], [true, true, true, true, true, true, true], [true, true, true], [true, false, false, true, true], [true, true, true, false], [true, true, true, true, true, true, true, true, true, false, false, false, false, false], [true, true, true, true, true, false, true, false, true, false, true, true, true, true, true, true, true, false, true, true, false, false, true, true, true, true, true, true]]
def zdef (c : Nat) : List Bool := zdefs.getD c []
def ztyp (c : Nat) : Nat → FieldType := match c with
  | 0 => tyX0
  | 1 => tyX1
  | 2 => tyX2
  | 3 => tyX3
  | 4 => tyX4
  | 5 => tyX5
  | 6 => tyX6
  | 7 => tyX7
  | _ => tyX8
def zci : List (Nat × Nat) := [(76, 56), (132, 58), (163, 59), (252, 63), (190, 60), (226, 62), (207, 61), (68, 55), (618, 64)]
abbrev zarr : Nat := 130
abbrev zobj : Nat × Nat := (73, 74)
abbrev zacp : Nat × Nat × Nat := (578, 577, 66)
end
section
/-! WHAT A STATE OF OUR MACHINE IS IN THE HEAP: cell 0 is the script (at b, never written), cell i + 1 lies at base + i. -/
def zad (b base : Nat) : Nat → Nat
  | 0 => b
  | i + 1 => base + i
def zcv (b base : Nat) : zV → Value
  | .inl x => .int (Int32.ofInt x)
  | .inr none => .null
  | .inr (some j) => .ref (zad b base j)
def zfv (b base : Nat) (x : Int) : Option (Option Nat) → Value
  | none => .int (Int32.ofInt x)
  | some r => zcv b base (.inr r)
def zcell (cI : ClassId) (b base : Nat) (M : zM) (i : Nat) : zC → va_E
  | .inl n => .inl (cI, n, .inl (fun k => Int32.ofInt (M i k)))
  | .inr q => .inr (q.1, q.2.mapIdx (fun k t => zfv b base (M i k) t))
def zws (cI : ClassId) (b base : Nat) (S : List zC) (M : zM) : va_W := S.tail.mapIdx (fun i c => (base + i, zcell cI b base M (i + 1) c))
def zsz : zC → Nat
  | .inl n => n
  | .inr q => q.2.length
def zsl (S : List zC) : Nat := (S.map zsz).sum
theorem zcv_cat (b base : Nat) (v : zV) : (zcv b base v).category = 1 := by rcases v with x | _ | j <;> rfl
theorem zcat_sum (b base : Nat) (st : List zV) : ((st.map (zcv b base)).map fun v => v.category).sum = st.length := by
  induction st with
  | nil => rfl
  | cons v st ih => simp only [List.map_cons, List.sum_cons, ih, zcv_cat, List.length_cons]; omega
theorem zws_at (cI : ClassId) (b base : Nat) (S : List zC) (M : zM) (i : Nat) : (zws cI b base S M)[i]? = (S[i + 1]?).map (fun c => (base + i, zcell cI b base M (i + 1) c)) := by
  unfold zws
  rw [List.getElem?_mapIdx, List.getElem?_tail]
theorem zws_get {cI : ClassId} {b base : Nat} {S : List zC} {M : zM} {i : Nat} {c : zC} (h : S[i + 1]? = some c) : (zws cI b base S M)[i]? = some (base + i, zcell cI b base M (i + 1) c) := by
  rw [zws_at, h]; rfl
theorem zws_D (cI : ClassId) (b base : Nat) (S : List zC) (M : zM) : va_D (fun q => base ≤ q) (zws cI b base S M) := by
  refine ⟨fun i j p q hi hj hpq => ?_, fun k q hk => ?_⟩
  · rw [zws_at] at hi hj
    obtain ⟨c1, -, rfl⟩ := Option.map_eq_some_iff.mp hi
    obtain ⟨c2, -, rfl⟩ := Option.map_eq_some_iff.mp hj
    have hpq : base + i = base + j := hpq
    omega
  · rw [zws_at] at hk
    obtain ⟨c1, -, rfl⟩ := Option.map_eq_some_iff.mp hk
    exact Nat.le_add_right _ _
theorem zmem_lt {α : Type} {l : List α} {i : Nat} {c : α} (h : l[i]? = some c) : i < l.length := (List.getElem?_eq_some_iff.mp h).1
theorem zws_len (cI : ClassId) (b base : Nat) (S : List zC) (M : zM) : (zws cI b base S M).length = S.length - 1 := by
  unfold zws
  rw [List.length_mapIdx, List.length_tail]
theorem zcell_congr {cI : ClassId} {b base : Nat} {M1 M2 : zM} {i j : Nat} (c : zC) (h : ∀ k, M1 i k = M2 j k) : zcell cI b base M1 i c = zcell cI b base M2 j c := by
  rcases c with n | ⟨c, fs⟩
  · simp only [zcell, h]
  · simp only [zcell, h]
theorem zws_else {cI : ClassId} {b base : Nat} {S : List zC} {M1 M2 : zM} {j : Nat} (h : ∀ k, M1 (j + 1) k = M2 (j + 1) k) : (S[j + 1]?).map (fun c => (base + j, zcell cI b base M1 (j + 1) c)) = (S[j + 1]?).map (fun c => (base + j, zcell cI b base M2 (j + 1) c)) := by
  congr 1
  funext c
  rw [zcell_congr c h]
theorem zup_ne {M : zM} {i k a : Nat} {x : Int} (h : a ≠ i) (q : Nat) : zup M i k x a q = M a q := by
  unfold zup
  rw [if_neg (fun z => h z.1)]
/-- an int of an array is written -/
theorem zws_up {cI : ClassId} {b base : Nat} {S : List zC} {M : zM} {i n k : Nat} (x : Int) (h : S[i + 1]? = some (.inl n)) : zws cI b base S (zup M (i + 1) k x) = (zws cI b base S M).set i (base + i, .inl (cI, n, .inl (upd (fun k => Int32.ofInt (M (i + 1) k)) k (Int32.ofInt x)))) := by
  have hl := zmem_lt h
  refine List.ext_getElem? fun j => ?_
  rw [zws_at, List.getElem?_set, zws_len]
  by_cases hj : i = j
  · subst hj
    rw [if_pos rfl, if_pos (by omega), h]
    have e : (fun k' => Int32.ofInt (zup M (i + 1) k x (i + 1) k')) = upd (fun k => Int32.ofInt (M (i + 1) k)) k (Int32.ofInt x) := by
      funext k'
      unfold zup upd
      by_cases hk : k' = k <;> simp [hk]
    simp only [Option.map_some, zcell, e]
  · rw [if_neg hj, zws_at]
    exact zws_else (fun q => zup_ne (by omega) q)
/-- an int field is written -/
theorem zws_upf {cI : ClassId} {b base : Nat} {S : List zC} {M : zM} {i c k : Nat} {fs : List (Option (Option Nat))} (x : Int) (h : S[i + 1]? = some (.inr (c, fs))) (hk : fs[k]? = some none) : zws cI b base S (zup M (i + 1) k x) = (zws cI b base S M).set i (base + i, .inr (c, (fs.mapIdx (fun k t => zfv b base (M (i + 1) k) t)).set k (.int (Int32.ofInt x)))) := by
  have hl := zmem_lt h
  refine List.ext_getElem? fun j => ?_
  rw [zws_at, List.getElem?_set, zws_len]
  by_cases hj : i = j
  · subst hj
    rw [if_pos rfl, if_pos (by omega), h]
    have e : fs.mapIdx (fun k' t => zfv b base (zup M (i + 1) k x (i + 1) k') t) = (fs.mapIdx (fun k t => zfv b base (M (i + 1) k) t)).set k (.int (Int32.ofInt x)) := by
      refine List.ext_getElem? fun k' => ?_
      rw [List.getElem?_mapIdx, List.getElem?_set, List.length_mapIdx, List.getElem?_mapIdx]
      by_cases hkk : k = k'
      · subst hkk
        rw [if_pos rfl, if_pos (zmem_lt hk), hk]
        simp [zfv, zup]
      · rw [if_neg hkk]
        have h3 : ¬ k' = k := fun z => hkk z.symm
        simp [zup, h3]
    simp only [Option.map_some, zcell, e]
  · rw [if_neg hj, zws_at]
    exact zws_else (fun q => zup_ne (by omega) q)
/-- a reference field is written -/
theorem zws_upr {cI : ClassId} {b base : Nat} {S : List zC} {M : zM} {i c k : Nat} {fs : List (Option (Option Nat))} (r : Option Nat) (h : S[i + 1]? = some (.inr (c, fs))) (hk : k < fs.length) : zws cI b base (S.set (i + 1) (.inr (c, fs.set k (some r)))) M = (zws cI b base S M).set i (base + i, .inr (c, (fs.mapIdx (fun k t => zfv b base (M (i + 1) k) t)).set k (zcv b base (.inr r)))) := by
  have hl := zmem_lt h
  refine List.ext_getElem? fun j => ?_
  rw [zws_at, List.getElem?_set, List.getElem?_set, zws_len]
  by_cases hj : i = j
  · subst hj
    rw [if_pos rfl, if_pos rfl, if_pos hl, if_pos (by omega)]
    have e : (fs.set k (some r)).mapIdx (fun k t => zfv b base (M (i + 1) k) t) = (fs.mapIdx (fun k t => zfv b base (M (i + 1) k) t)).set k (zcv b base (.inr r)) := by
      refine List.ext_getElem? fun k' => ?_
      rw [List.getElem?_mapIdx, List.getElem?_set, List.getElem?_set, List.length_mapIdx, List.getElem?_mapIdx]
      by_cases hkk : k = k'
      · subst hkk
        rw [if_pos rfl, if_pos rfl, if_pos hk, if_pos hk]
        rfl
      · rw [if_neg hkk, if_neg hkk]
    simp only [Option.map_some, zcell, e]
  · rw [if_neg hj, if_neg (by omega), zws_at]
/-- a stretch of an array is copied -/
theorem zws_cp {cI : ClassId} {b base : Nat} {S : List zC} {M : zM} {i j n1 sp dp n : Nat} (h : S[j + 1]? = some (.inl n1)) : zws cI b base S (zcopy M (i + 1) (j + 1) sp dp n) = (zws cI b base S M).set j (base + j, .inl (cI, n1, .inl (va_cpy (fun k => Int32.ofInt (M (i + 1) k)) (fun k => Int32.ofInt (M (j + 1) k)) sp dp n))) := by
  have hl := zmem_lt h
  refine List.ext_getElem? fun q => ?_
  rw [zws_at, List.getElem?_set, zws_len]
  by_cases hj : j = q
  · subst hj
    rw [if_pos rfl, if_pos (by omega), h]
    have e : (fun k' => Int32.ofInt (zcopy M (i + 1) (j + 1) sp dp n (j + 1) k')) = va_cpy (fun k => Int32.ofInt (M (i + 1) k)) (fun k => Int32.ofInt (M (j + 1) k)) sp dp n := by
      funext k'
      unfold zcopy va_cpy
      by_cases hk : dp ≤ k' ∧ k' < dp + n
      · rw [if_pos ⟨rfl, hk⟩, if_pos hk]
      · rw [if_neg (fun z => hk z.2), if_neg hk]
    simp only [Option.map_some, zcell, e]
  · rw [if_neg hj, zws_at]
    refine zws_else (fun k => ?_)
    unfold zcopy
    rw [if_neg (fun z => hj (by omega))]
/-- a cell more -/
theorem zws_new {cI : ClassId} {b base : Nat} {S : List zC} {M : zM} (c : zC) (hS : 0 < S.length) : zws cI b base (S ++ [c]) (znew M S.length) = zws cI b base S M ++ [(base + (S.length - 1), zcell cI b base (fun _ _ => 0) 0 c)] := by
  refine List.ext_getElem? fun q => ?_
  rw [zws_at]
  by_cases hq : q + 1 < S.length
  · rw [List.getElem?_append_left hq, List.getElem?_append_left (by rw [zws_len]; omega), zws_at]
    refine zws_else (fun k => ?_)
    unfold znew
    rw [if_neg (by omega)]
  · rw [List.getElem?_append_right (by omega), List.getElem?_append_right (by rw [zws_len]; omega), zws_len]
    by_cases hq1 : q + 1 = S.length
    · rw [show q + 1 - S.length = 0 by omega, show q - (S.length - 1) = 0 by omega]
      have hq2 : q = S.length - 1 := by omega
      have e : zcell cI b base (znew M S.length) (q + 1) c = zcell cI b base (fun _ _ => 0) 0 c := zcell_congr c (fun k => by unfold znew; rw [if_pos hq1])
      simp only [List.getElem?_cons_zero, Option.map_some]
      rw [e, ← hq2]
    · have h1 : ([c] : List zC)[q + 1 - S.length]? = none := List.getElem?_eq_none (by simp; omega)
      have h2 : ([(base + (S.length - 1), zcell cI b base (fun _ _ => 0) 0 c)] : va_W)[q - (S.length - 1)]? = none := List.getElem?_eq_none (by simp; omega)
      rw [h1, h2]
      rfl
/-- the locals: what our machine knows of them is so -/
def zlr (b base : Nat) (lsA : Array Slot) (ls : List (Option zV)) : Prop := ∃ lv : List (Nat × Value), lv_has lsA ls.length lv ∧ ∀ (i : Nat) (v : zV), ls[i]? = some (some v) → (i, zcv b base v) ∈ lv
theorem zlr_at {b base : Nat} {lsA : Array Slot} {ls : List (Option zV)} (h : zlr b base lsA ls) {i : Nat} {v : zV} (hi : ls[i]? = some (some v)) : lsA[i]? = some (.val (zcv b base v)) := by
  obtain ⟨lv, h1, h2⟩ := h
  exact h1.2.2 _ (h2 i v hi)
theorem zlr_set {b base : Nat} {lsA lsB : Array Slot} {ls : List (Option zV)} {lv : List (Nat × Value)} {i : Nat} {v : zV} (h2 : ∀ (i : Nat) (v : zV), ls[i]? = some (some v) → (i, zcv b base v) ∈ lv) (h : lv_has lsB ls.length ((i, zcv b base v) :: lv.filter (fun q => !(q.1 == i) && !(q.1 + 1 == i && q.2.category == 2)))) : zlr b base lsB (ls.set i (some v)) := by
  refine ⟨_, by rw [List.length_set]; exact h, fun j u hj => ?_⟩
  rw [List.getElem?_set] at hj
  by_cases hij : i = j
  · rw [if_pos hij] at hj
    by_cases hl : i < ls.length
    · rw [if_pos hl] at hj
      have hu : v = u := Option.some.inj (Option.some.inj hj)
      subst hij; subst hu
      exact List.mem_cons_self
    · rw [if_neg hl] at hj
      cases hj
  · rw [if_neg hij] at hj
    refine List.mem_cons_of_mem _ (List.mem_filter.mpr ⟨h2 j u hj, ?_⟩)
    have h3 : ¬ j = i := fun z => hij z.symm
    simp [h3, zcv_cat]
theorem zld_spec {ls : List (Option zV)} {i : Nat} {x : Int} (h : zld ls i = some x) : ls[i]? = some (some (.inl x)) := by
  unfold zld at h
  split at h
  · rename_i y hy
    cases h
    exact hy
  · cases h
theorem zldr_spec {ls : List (Option zV)} {i x : Nat} (h : zldr ls i = some x) : ls[i]? = some (some (.inr (some x))) := by
  unfold zldr at h
  split at h
  · rename_i y hy
    cases h
    exact hy
  · cases h
theorem ztgt_ok {pc : Nat} {off : Int} (h : 0 ≤ (pc : Int) + off) : (pc : Int) + off = ((ztgt pc off : Nat) : Int) := by
  unfold ztgt
  omega
theorem zof_eq (x y : Int) : Int32.ofInt x = Int32.ofInt y ↔ zw x = zw y := Int32.toInt_inj.symm
theorem zof_eq0 (x : Int) : Int32.ofInt x = 0 ↔ zw x = 0 := by
  rw [← Int32.toInt_inj]
  rfl
theorem zof_lt (x y : Int) : Int32.ofInt x < Int32.ofInt y ↔ zw x < zw y := Int32.lt_iff_toInt_lt
theorem zof_le (x y : Int) : Int32.ofInt x ≤ Int32.ofInt y ↔ zw x ≤ zw y := Int32.le_iff_toInt_le
theorem zof_lt0 (x : Int) : Int32.ofInt x < 0 ↔ zw x < 0 := Int32.lt_iff_toInt_lt
theorem zof_gt0 (x : Int) : 0 < Int32.ofInt x ↔ 0 < zw x := Int32.lt_iff_toInt_lt
theorem zof_le0 (x : Int) : Int32.ofInt x ≤ 0 ↔ zw x ≤ 0 := Int32.le_iff_toInt_le
theorem zof_ge0 (x : Int) : 0 ≤ Int32.ofInt x ↔ 0 ≤ zw x := Int32.le_iff_toInt_le
theorem zvp_in {i : Int} {n : Nat} (h : 0 ≤ zw i ∧ zw i < n) : vp_in (Int32.ofInt i) n := vp_in_iff.mpr h
end
section
/-! WHAT A ROW OF A TABLE MUST BE: decided by program, row by row -/
def zT : List Cond := lw_tbl.filter goodWord
def zin (i : Nat) (w : Cond) : Bool := decide (lw_tbl[i]? = some w) && goodWord w
theorem zin_spec {i : Nat} {w : Cond} (h : zin i w = true) : w ∈ zT := by
  unfold zin at h
  simp only [Bool.and_eq_true, decide_eq_true_eq] at h
  exact List.mem_filter.mpr ⟨List.mem_of_getElem? h.1, h.2⟩
def zdec (E : zE) (pc : Nat) (i : Instr) (n : Nat) : Bool := decide (decode E.2.1 pc = .ok (i, n))
def zhint (E : zE) (idx : Nat) : Nat := (zhints.getD E.2.2.2.2.2.2.1 []).getD idx 0
def zrefty (o : Option FieldType) : Bool := match o with
  | some (.object _) => true
  | some (.array _) => true
  | _ => false
def zfok (E : zE) (idx ra rb : Nat) : Bool := match vwCl[ra]? with
  | some q => decide (rb < q.2.2) && zin (zhint E idx) (.fieldLink E.1.cls idx (q.2.1 rb).1 (q.2.1 rb).2.1 (q.2.1 rb).2.2.1)
  | none => false
def zpok (E : zE) (ra rb rt : Nat) : Bool := match vwCl[ra]? with
  | some q => match rt with
    | 0 => (!(q.2.1 rb).2.2.2) && decide (parseFieldDescriptor (q.2.1 rb).2.2.1 = some .int)
    | 1 => (!(q.2.1 rb).2.2.2) && decide (parseFieldDescriptor (q.2.1 rb).2.2.1 = some .boolean)
    | 2 => (q.2.1 rb).2.2.2 && decide (E.1.name = "<init>") && decide ((q.2.1 rb).1 = E.1.cls) && zrefty (parseFieldDescriptor (q.2.1 rb).2.2.1)
    | _ => false
  | none => false
/-- a callee: its number, how many parameters, whether it is static -/
def zkok (ra rb : Nat) (st : Bool) : Bool := match zmt[ra]? with
  | some E' => decide (E'.2.2.2.2.1 = rb) && (E'.2.2.2.2.2.1 == st)
  | none => false
def zlok (E : zE) (idx ra : Nat) : Bool := match zmt[ra]? with
  | some E' => zin (zhint E idx) (.methodLink E.1.cls idx E'.1)
  | none => false
def znok (E : zE) (idx ra : Nat) : Bool := match zmt[ra]? with
  | some E' => znest.any (fun q => decide (q.1 = E.1.cls) && decide (q.2.1 = idx) && decide (q.2.2.1 = E'.1))
  | none => false
def zvok (ra rt : Nat) : Bool := match zmt[ra]?, zmp[ra]?, vwCl[rt / 4]? with
  | some E', some p, some q => decide (q.1 = E'.1.cls) && zin p.2.2.1 (.selects E'.1.cls E'.1 E'.1)
  | _, _, _ => false
def zspok (ra : Nat) : Bool := match zmt[ra]? with
  | some E' => decide (E'.1.name = "<init>") && (E'.2.2.2.1 == none)
  | none => false
def zok (E : zE) (pc : Nat) (w : zR) : Bool := match w with
  | (ins, ra, rb, rt) => match ins with
    | .iconst _ | .iload_n _ | .aload_n _ | .istore_n _ | .astore_n _ | .iadd | .isub | .imul | .iand | .ior | .ixor | .ishl | .idiv | .irem | .dup | .dup2 | .iaload | .iastore | .arraylength => zdec E pc ins 1
    | .iload _ | .aload _ | .istore _ | .astore _ => zdec E pc ins 2
    | .bipush n => zdec E pc ins 2 && decide ((Int8.ofInt n).toInt32 = Int32.ofInt n)
    | .sipush n => zdec E pc ins 3 && decide ((Int16.ofInt n).toInt32 = Int32.ofInt n)
    | .iinc _ _ => zdec E pc ins 3
    | .goto off | .ifCond _ off | .if_icmp _ off => zdec E pc ins 3 && decide (0 ≤ (pc : Int) + off)
    | .tableswitch dflt lo hi offs => zdec E pc ins (offs.size * 4 + 16 - (pc % 4)) && decide (0 ≤ (pc : Int) + dflt) && offs.toList.all (fun off => decide (0 ≤ (pc : Int) + off))
    | .lookupswitch dflt ps => zdec E pc ins (ps.size * 8 + 12 - (pc % 4)) && (ps.toList.zip (ps.toList.drop 1)).all (fun (a, next) => a.1 < next.1) && decide (0 ≤ (pc : Int) + dflt) && ps.toList.all (fun q => decide (0 ≤ (pc : Int) + q.2))
    | .getfield idx => zdec E pc ins 3 && zfok E idx ra rb
    | .putfield idx => zdec E pc ins 3 && zfok E idx ra rb && zpok E ra rb rt
    | .new idx => zdec E pc ins 3 && (match vwCl[ra]? with
      | some q => zin (zhint E idx) (.classLink E.1.cls idx q.1)
      | none => false)
    | .newarray t => zdec E pc ins 2 && decide (t = .int)
    | .invokestatic idx => zdec E pc ins 3 && (match rt with
      | 0 => zkok ra rb true && zlok E idx ra
      | 2 => zkok ra rb true && znok E idx ra
      | 3 => zin (zhint E idx) (.methodLink E.1.cls idx arraycopyName)
      | _ => false)
    | .invokevirtual idx => zdec E pc ins 3 && zkok ra rb false && zlok E idx ra && zvok ra rt
    | .invokespecial idx => zdec E pc ins 3 && (match rt with
      | 0 => zkok ra rb false && zlok E idx ra && zspok ra
      | 1 => zin (zhint E idx) (.methodLink E.1.cls idx objectInit)
      | _ => false)
    | .ireturn => zdec E pc ins 1 && (match rt with
      | 0 => decide (E.2.2.2.1 = some .int)
      | 1 => decide (E.2.2.2.1 = some .boolean)
      | _ => false)
    | .return_ => zdec E pc ins 1 && decide (E.2.2.2.1 = none)
    | _ => false
def zall (E : zE) : Bool := (List.range E.2.2.2.2.2.2.2.length).all fun pc => match E.2.2.2.2.2.2.2[pc]? with
  | some (some w) => zok E pc w
  | _ => true
theorem zall_at {E : zE} (h : zall E = true) {pc : Nat} {w : zR} (hw : E.2.2.2.2.2.2.2[pc]? = some (some w)) : zok E pc w = true := by
  have h1 := List.all_eq_true.mp h pc (List.mem_range.mpr (zmem_lt hw))
  simpa only [hw] using h1
/-- a method's own words -/
def zmok (E : zE) (p : Nat × Nat × Nat × Nat) : Bool := zin p.2.1 (if E.2.2.2.2.2.1 then .static E.1 else .instanceMethod E.1) && zin p.2.2.2 (.initialized E.1.cls) && decide (E.1.cls ≠ "java/lang/invoke/MethodHandle") && decide (E.1.cls ≠ "java/lang/invoke/VarHandle") && decide ((parseMethodDescriptor E.1.desc).map (fun d => d.parameters.length) = some E.2.2.2.2.1) && decide (E.2.2.1 ≤ 20) && decide (E.2.2.2.2.1 + 1 ≤ E.2.2.1 + if E.2.2.2.2.2.1 then 1 else 0) && plainFor E.1
end
section
/-! PRINTED by wip/whole/gen.py: every row of every table is as it must be -/
set_option maxRecDepth 100000 in
set_option maxHeartbeats 4000000 in
theorem za_X0_init : zall eX0_init = true := by decide +kernel
set_option maxRecDepth 100000 in
set_option maxHeartbeats 4000000 in
theorem za_X0_holds : zall eX0_holds = true := by decide +kernel
set_option maxRecDepth 100000 in
set_option maxHeartbeats 4000000 in
theorem za_X0_append : zall eX0_append = true := by decide +kernel
set_option maxRecDepth 100000 in
set_option maxHeartbeats 4000000 in
theorem za_X0_latencyOf : zall eX0_latencyOf = true := by decide +kernel
set_option maxRecDepth 100000 in
set_option maxHeartbeats 4000000 in
theorem za_X0_written : zall eX0_written = true := by decide +kernel
set_option maxRecDepth 100000 in
set_option maxHeartbeats 4000000 in
theorem za_X0_read : zall eX0_read = true := by decide +kernel
set_option maxRecDepth 100000 in
set_option maxHeartbeats 4000000 in
theorem za_X0_usesMemory : zall eX0_usesMemory = true := by decide +kernel
set_option maxRecDepth 100000 in
set_option maxHeartbeats 4000000 in
theorem za_X0_lengthOf : zall eX0_lengthOf = true := by decide +kernel
set_option maxRecDepth 100000 in
set_option maxHeartbeats 4000000 in
theorem za_X1_init : zall eX1_init = true := by decide +kernel
set_option maxRecDepth 100000 in
set_option maxHeartbeats 4000000 in
theorem za_X1_find : zall eX1_find = true := by decide +kernel
set_option maxRecDepth 100000 in
set_option maxHeartbeats 4000000 in
theorem za_X1_between : zall eX1_between = true := by decide +kernel
set_option maxRecDepth 100000 in
set_option maxHeartbeats 4000000 in
theorem za_X1_leastCycle : zall eX1_leastCycle = true := by decide +kernel
set_option maxRecDepth 100000 in
set_option maxHeartbeats 4000000 in
theorem za_X1_rowOf : zall eX1_rowOf = true := by decide +kernel
set_option maxRecDepth 100000 in
set_option maxHeartbeats 4000000 in
theorem za_X1_findDelaysOf : zall eX1_findDelaysOf = true := by decide +kernel
set_option maxRecDepth 100000 in
set_option maxHeartbeats 4000000 in
theorem za_X1_registerDelay : zall eX1_registerDelay = true := by decide +kernel
set_option maxRecDepth 100000 in
set_option maxHeartbeats 4000000 in
theorem za_X1_memoryDelay : zall eX1_memoryDelay = true := by decide +kernel
set_option maxRecDepth 100000 in
set_option maxHeartbeats 4000000 in
theorem za_X1_areApart : zall eX1_areApart = true := by decide +kernel
set_option maxRecDepth 100000 in
set_option maxHeartbeats 4000000 in
theorem za_X1_findWays : zall eX1_findWays = true := by decide +kernel
set_option maxRecDepth 100000 in
set_option maxHeartbeats 4000000 in
theorem za_X2_init : zall eX2_init = true := by decide +kernel
set_option maxRecDepth 100000 in
set_option maxHeartbeats 4000000 in
theorem za_X2_make : zall eX2_make = true := by decide +kernel
set_option maxRecDepth 100000 in
set_option maxHeartbeats 4000000 in
theorem za_X2_forgetCycles : zall eX2_forgetCycles = true := by decide +kernel
set_option maxRecDepth 100000 in
set_option maxHeartbeats 4000000 in
theorem za_X2_isFree : zall eX2_isFree = true := by decide +kernel
set_option maxRecDepth 100000 in
set_option maxHeartbeats 4000000 in
theorem za_X2_bestFor : zall eX2_bestFor = true := by decide +kernel
set_option maxRecDepth 100000 in
set_option maxHeartbeats 4000000 in
theorem za_X2_firstPossibleBehind : zall eX2_firstPossibleBehind = true := by decide +kernel
set_option maxRecDepth 100000 in
set_option maxHeartbeats 4000000 in
theorem za_X2_giveCycle : zall eX2_giveCycle = true := by decide +kernel
set_option maxRecDepth 100000 in
set_option maxHeartbeats 4000000 in
theorem za_X3_init : zall eX3_init = true := by decide +kernel
set_option maxRecDepth 100000 in
set_option maxHeartbeats 4000000 in
theorem za_X3_tell : zall eX3_tell = true := by decide +kernel
set_option maxRecDepth 100000 in
set_option maxHeartbeats 4000000 in
theorem za_X3_look : zall eX3_look = true := by decide +kernel
set_option maxRecDepth 100000 in
set_option maxHeartbeats 4000000 in
theorem za_X3_runAsItStands : zall eX3_runAsItStands = true := by decide +kernel
set_option maxRecDepth 100000 in
set_option maxHeartbeats 4000000 in
theorem za_X3_runByCycles : zall eX3_runByCycles = true := by decide +kernel
set_option maxRecDepth 100000 in
set_option maxHeartbeats 4000000 in
theorem za_X3_isPlace : zall eX3_isPlace = true := by decide +kernel
set_option maxRecDepth 100000 in
set_option maxHeartbeats 4000000 in
theorem za_X3_startAnew : zall eX3_startAnew = true := by decide +kernel
set_option maxRecDepth 100000 in
set_option maxHeartbeats 4000000 in
theorem za_X3_nextMoment : zall eX3_nextMoment = true := by decide +kernel
set_option maxRecDepth 100000 in
set_option maxHeartbeats 4000000 in
theorem za_X3_comeIn : zall eX3_comeIn = true := by decide +kernel
set_option maxRecDepth 100000 in
set_option maxHeartbeats 4000000 in
theorem za_X3_beginIn : zall eX3_beginIn = true := by decide +kernel
set_option maxRecDepth 100000 in
set_option maxHeartbeats 4000000 in
theorem za_X3_begin : zall eX3_begin = true := by decide +kernel
set_option maxRecDepth 100000 in
set_option maxHeartbeats 4000000 in
theorem za_X3_come : zall eX3_come = true := by decide +kernel
set_option maxRecDepth 100000 in
set_option maxHeartbeats 4000000 in
theorem za_X4_init : zall eX4_init = true := by decide +kernel
set_option maxRecDepth 100000 in
set_option maxHeartbeats 4000000 in
theorem za_X4_make : zall eX4_make = true := by decide +kernel
set_option maxRecDepth 100000 in
set_option maxHeartbeats 4000000 in
theorem za_X5_init : zall eX5_init = true := by decide +kernel
set_option maxRecDepth 100000 in
set_option maxHeartbeats 4000000 in
theorem za_X5_forgetFrom : zall eX5_forgetFrom = true := by decide +kernel
set_option maxRecDepth 100000 in
set_option maxHeartbeats 4000000 in
theorem za_X5_inspect : zall eX5_inspect = true := by decide +kernel
set_option maxRecDepth 100000 in
set_option maxHeartbeats 4000000 in
theorem za_X5_findWithoutCycle : zall eX5_findWithoutCycle = true := by decide +kernel
set_option maxRecDepth 100000 in
set_option maxHeartbeats 4000000 in
theorem za_X5_findDelayNotKept : zall eX5_findDelayNotKept = true := by decide +kernel
set_option maxRecDepth 100000 in
set_option maxHeartbeats 4000000 in
theorem za_X5_findTooMany : zall eX5_findTooMany = true := by decide +kernel
set_option maxRecDepth 100000 in
set_option maxHeartbeats 4000000 in
theorem za_X5_howManyIn : zall eX5_howManyIn = true := by decide +kernel
set_option maxRecDepth 100000 in
set_option maxHeartbeats 4000000 in
theorem za_X6_init : zall eX6_init = true := by decide +kernel
set_option maxRecDepth 100000 in
set_option maxHeartbeats 4000000 in
theorem za_X6_leastLength : zall eX6_leastLength = true := by decide +kernel
set_option maxRecDepth 100000 in
set_option maxHeartbeats 4000000 in
theorem za_X6_tryAll : zall eX6_tryAll = true := by decide +kernel
set_option maxRecDepth 100000 in
set_option maxHeartbeats 4000000 in
theorem za_X6_isFree : zall eX6_isFree = true := by decide +kernel
set_option maxRecDepth 100000 in
set_option maxHeartbeats 4000000 in
theorem za_X6_isHopeless : zall eX6_isHopeless = true := by decide +kernel
set_option maxRecDepth 100000 in
set_option maxHeartbeats 4000000 in
theorem za_X6_howManyWithWay : zall eX6_howManyWithWay = true := by decide +kernel
set_option maxRecDepth 100000 in
set_option maxHeartbeats 4000000 in
theorem za_X7_init : zall eX7_init = true := by decide +kernel
set_option maxRecDepth 100000 in
set_option maxHeartbeats 4000000 in
theorem za_X7_add : zall eX7_add = true := by decide +kernel
set_option maxRecDepth 100000 in
set_option maxHeartbeats 4000000 in
theorem za_X7_cut : zall eX7_cut = true := by decide +kernel
set_option maxRecDepth 100000 in
set_option maxHeartbeats 4000000 in
theorem za_X7_latency : zall eX7_latency = true := by decide +kernel
set_option maxRecDepth 100000 in
set_option maxHeartbeats 4000000 in
theorem za_X7_units : zall eX7_units = true := by decide +kernel
set_option maxRecDepth 100000 in
set_option maxHeartbeats 4000000 in
theorem za_X7_delay : zall eX7_delay = true := by decide +kernel
set_option maxRecDepth 100000 in
set_option maxHeartbeats 4000000 in
theorem za_X7_about : zall eX7_about = true := by decide +kernel
set_option maxRecDepth 100000 in
set_option maxHeartbeats 4000000 in
theorem za_X7_listed : zall eX7_listed = true := by decide +kernel
set_option maxRecDepth 100000 in
set_option maxHeartbeats 4000000 in
theorem za_X7_length : zall eX7_length = true := by decide +kernel
set_option maxRecDepth 100000 in
set_option maxHeartbeats 4000000 in
theorem za_X7_place : zall eX7_place = true := by decide +kernel
set_option maxRecDepth 100000 in
set_option maxHeartbeats 4000000 in
theorem za_X7_check : zall eX7_check = true := by decide +kernel
set_option maxRecDepth 100000 in
set_option maxHeartbeats 4000000 in
theorem za_X7_wrong : zall eX7_wrong = true := by decide +kernel
set_option maxRecDepth 100000 in
set_option maxHeartbeats 4000000 in
theorem za_X7_given : zall eX7_given = true := by decide +kernel
set_option maxRecDepth 100000 in
set_option maxHeartbeats 4000000 in
theorem za_X7_run : zall eX7_run = true := by decide +kernel
set_option maxRecDepth 100000 in
set_option maxHeartbeats 4000000 in
theorem za_X7_value : zall eX7_value = true := by decide +kernel
set_option maxRecDepth 100000 in
set_option maxHeartbeats 4000000 in
theorem za_X7_runByPlan : zall eX7_runByPlan = true := by decide +kernel
set_option maxRecDepth 100000 in
set_option maxHeartbeats 4000000 in
theorem za_X7_shortest : zall eX7_shortest = true := by decide +kernel
set_option maxRecDepth 100000 in
set_option maxHeartbeats 4000000 in
theorem za_X7_refresh : zall eX7_refresh = true := by decide +kernel
set_option maxRecDepth 100000 in
set_option maxHeartbeats 4000000 in
theorem za_X7_isKind : zall eX7_isKind = true := by decide +kernel
set_option maxRecDepth 100000 in
set_option maxHeartbeats 4000000 in
theorem za_X7_isRegister : zall eX7_isRegister = true := by decide +kernel
set_option maxRecDepth 100000 in
set_option maxHeartbeats 4000000 in
theorem za_X7_namesTarget : zall eX7_namesTarget = true := by decide +kernel
set_option maxRecDepth 100000 in
set_option maxHeartbeats 4000000 in
theorem za_X7_namesFirst : zall eX7_namesFirst = true := by decide +kernel
set_option maxRecDepth 100000 in
set_option maxHeartbeats 4000000 in
theorem za_X7_namesSecond : zall eX7_namesSecond = true := by decide +kernel
set_option maxRecDepth 100000 in
set_option maxHeartbeats 4000000 in
theorem za_X7_namesRegistersOnly : zall eX7_namesRegistersOnly = true := by decide +kernel
set_option maxRecDepth 100000 in
set_option maxHeartbeats 4000000 in
theorem za_X8_init : zall eX8_init = true := by decide +kernel
set_option maxRecDepth 100000 in
set_option maxHeartbeats 4000000 in
theorem za_X8_reads : zall eX8_reads = true := by decide +kernel
set_option maxRecDepth 100000 in
set_option maxHeartbeats 4000000 in
theorem za_X8_writes : zall eX8_writes = true := by decide +kernel
set_option maxRecDepth 100000 in
set_option maxHeartbeats 4000000 in
theorem za_X8_isWritten : zall eX8_isWritten = true := by decide +kernel
set_option maxRecDepth 100000 in
set_option maxHeartbeats 4000000 in
theorem za_X8_latencyOf : zall eX8_latencyOf = true := by decide +kernel
set_option maxRecDepth 100000 in
set_option maxHeartbeats 4000000 in
theorem za_X8_mayMeet : zall eX8_mayMeet = true := by decide +kernel
set_option maxRecDepth 100000 in
set_option maxHeartbeats 4000000 in
theorem za_X8_memoryDelay : zall eX8_memoryDelay = true := by decide +kernel
set_option maxRecDepth 100000 in
set_option maxHeartbeats 4000000 in
theorem za_X8_delayOf : zall eX8_delayOf = true := by decide +kernel
set_option maxRecDepth 100000 in
set_option maxHeartbeats 4000000 in
theorem za_X8_delayAt : zall eX8_delayAt = true := by decide +kernel
set_option maxRecDepth 100000 in
set_option maxHeartbeats 4000000 in
theorem za_X8_work : zall eX8_work = true := by decide +kernel
set_option maxRecDepth 100000 in
set_option maxHeartbeats 4000000 in
theorem za_X8_mayBegin : zall eX8_mayBegin = true := by decide +kernel
set_option maxRecDepth 100000 in
set_option maxHeartbeats 4000000 in
theorem za_X8_makeList : zall eX8_makeList = true := by decide +kernel
set_option maxRecDepth 100000 in
set_option maxHeartbeats 4000000 in
theorem za_X8_inCycle : zall eX8_inCycle = true := by decide +kernel
set_option maxRecDepth 100000 in
set_option maxHeartbeats 4000000 in
theorem za_X8_leastCycle : zall eX8_leastCycle = true := by decide +kernel
set_option maxRecDepth 100000 in
set_option maxHeartbeats 4000000 in
theorem za_X8_inOrder : zall eX8_inOrder = true := by decide +kernel
set_option maxRecDepth 100000 in
set_option maxHeartbeats 4000000 in
theorem za_X8_lengthOf : zall eX8_lengthOf = true := by decide +kernel
set_option maxRecDepth 100000 in
set_option maxHeartbeats 4000000 in
theorem za_X8_nextRow : zall eX8_nextRow = true := by decide +kernel
set_option maxRecDepth 100000 in
set_option maxHeartbeats 4000000 in
theorem za_X8_exchange : zall eX8_exchange = true := by decide +kernel
set_option maxRecDepth 100000 in
set_option maxHeartbeats 4000000 in
theorem za_X8_isKept : zall eX8_isKept = true := by decide +kernel
set_option maxRecDepth 100000 in
set_option maxHeartbeats 4000000 in
theorem za_X8_findShortest : zall eX8_findShortest = true := by decide +kernel
set_option maxRecDepth 100000 in
set_option maxHeartbeats 4000000 in
theorem za_X8_isRegister : zall eX8_isRegister = true := by decide +kernel
set_option maxRecDepth 100000 in
set_option maxHeartbeats 4000000 in
theorem za_X8_add : zall eX8_add = true := by decide +kernel
set_option maxRecDepth 100000 in
set_option maxHeartbeats 4000000 in
theorem za_X8_cut : zall eX8_cut = true := by decide +kernel
set_option maxRecDepth 100000 in
set_option maxHeartbeats 4000000 in
theorem za_X8_latency : zall eX8_latency = true := by decide +kernel
set_option maxRecDepth 100000 in
set_option maxHeartbeats 4000000 in
theorem za_X8_units : zall eX8_units = true := by decide +kernel
set_option maxRecDepth 100000 in
set_option maxHeartbeats 4000000 in
theorem za_X8_isThere : zall eX8_isThere = true := by decide +kernel
set_option maxRecDepth 100000 in
set_option maxHeartbeats 4000000 in
theorem za_X8_delay : zall eX8_delay = true := by decide +kernel
set_option maxRecDepth 100000 in
set_option maxHeartbeats 4000000 in
theorem za_X8_greatestWay : zall eX8_greatestWay = true := by decide +kernel
set_option maxRecDepth 100000 in
set_option maxHeartbeats 4000000 in
theorem za_X8_about : zall eX8_about = true := by decide +kernel
set_option maxRecDepth 100000 in
set_option maxHeartbeats 4000000 in
theorem za_X8_listed : zall eX8_listed = true := by decide +kernel
set_option maxRecDepth 100000 in
set_option maxHeartbeats 4000000 in
theorem za_X8_dependences : zall eX8_dependences = true := by decide +kernel
set_option maxRecDepth 100000 in
set_option maxHeartbeats 4000000 in
theorem za_X8_length : zall eX8_length = true := by decide +kernel
set_option maxRecDepth 100000 in
set_option maxHeartbeats 4000000 in
theorem za_X8_place : zall eX8_place = true := by decide +kernel
set_option maxRecDepth 100000 in
set_option maxHeartbeats 4000000 in
theorem za_X8_tell : zall eX8_tell = true := by decide +kernel
set_option maxRecDepth 100000 in
set_option maxHeartbeats 4000000 in
theorem za_X8_look : zall eX8_look = true := by decide +kernel
set_option maxRecDepth 100000 in
set_option maxHeartbeats 4000000 in
theorem za_X8_check : zall eX8_check = true := by decide +kernel
set_option maxRecDepth 100000 in
set_option maxHeartbeats 4000000 in
theorem za_X8_wrong : zall eX8_wrong = true := by decide +kernel
set_option maxRecDepth 100000 in
set_option maxHeartbeats 4000000 in
theorem za_X8_given : zall eX8_given = true := by decide +kernel
set_option maxRecDepth 100000 in
set_option maxHeartbeats 4000000 in
theorem za_X8_begin : zall eX8_begin = true := by decide +kernel
set_option maxRecDepth 100000 in
set_option maxHeartbeats 4000000 in
theorem za_X8_come : zall eX8_come = true := by decide +kernel
set_option maxRecDepth 100000 in
set_option maxHeartbeats 4000000 in
theorem za_X8_runBy : zall eX8_runBy = true := by decide +kernel
set_option maxRecDepth 100000 in
set_option maxHeartbeats 4000000 in
theorem za_X8_run : zall eX8_run = true := by decide +kernel
set_option maxRecDepth 100000 in
set_option maxHeartbeats 4000000 in
theorem za_X8_value : zall eX8_value = true := by decide +kernel
set_option maxRecDepth 100000 in
set_option maxHeartbeats 4000000 in
theorem za_J9_floorMod_7cf53 : zall eJ9_floorMod_7cf53 = true := by decide +kernel
set_option maxRecDepth 100000 in
set_option maxHeartbeats 4000000 in
theorem za_J9_max_7cf53 : zall eJ9_max_7cf53 = true := by decide +kernel
set_option maxRecDepth 100000 in
set_option maxHeartbeats 4000000 in
theorem za_J9_min_7cf53 : zall eJ9_min_7cf53 = true := by decide +kernel
set_option maxRecDepth 100000 in
set_option maxHeartbeats 4000000 in
theorem za_J7_fill_53178 : zall eJ7_fill_53178 = true := by decide +kernel
theorem za_all_0 : ∀ E ∈ zmt_0, zall E = true := List.forall_mem_cons.mpr ⟨za_X0_init, List.forall_mem_cons.mpr ⟨za_X0_holds, List.forall_mem_cons.mpr ⟨za_X0_append, List.forall_mem_cons.mpr ⟨za_X0_latencyOf, List.forall_mem_cons.mpr ⟨za_X0_written, List.forall_mem_cons.mpr ⟨za_X0_read, List.forall_mem_cons.mpr ⟨za_X0_usesMemory, List.forall_mem_cons.mpr ⟨za_X0_lengthOf, List.forall_mem_cons.mpr ⟨za_X1_init, List.forall_mem_cons.mpr ⟨za_X1_find, List.forall_mem_cons.mpr ⟨za_X1_between, List.forall_mem_cons.mpr ⟨za_X1_leastCycle, List.forall_mem_cons.mpr ⟨za_X1_rowOf, List.forall_mem_cons.mpr ⟨za_X1_findDelaysOf, List.forall_mem_cons.mpr ⟨za_X1_registerDelay, List.forall_mem_cons.mpr ⟨za_X1_memoryDelay, List.forall_mem_cons.mpr ⟨za_X1_areApart, List.forall_mem_cons.mpr ⟨za_X1_findWays, List.forall_mem_cons.mpr ⟨za_X2_init, List.forall_mem_cons.mpr ⟨za_X2_make, List.forall_mem_cons.mpr ⟨za_X2_forgetCycles, List.forall_mem_cons.mpr ⟨za_X2_isFree, List.forall_mem_cons.mpr ⟨za_X2_bestFor, List.forall_mem_cons.mpr ⟨za_X2_firstPossibleBehind, List.forall_mem_cons.mpr ⟨za_X2_giveCycle, List.forall_mem_cons.mpr ⟨za_X3_init, List.forall_mem_cons.mpr ⟨za_X3_tell, List.forall_mem_cons.mpr ⟨za_X3_look, List.forall_mem_cons.mpr ⟨za_X3_runAsItStands, List.forall_mem_cons.mpr ⟨za_X3_runByCycles, fun _ h => absurd h List.not_mem_nil⟩⟩⟩⟩⟩⟩⟩⟩⟩⟩⟩⟩⟩⟩⟩⟩⟩⟩⟩⟩⟩⟩⟩⟩⟩⟩⟩⟩⟩⟩
theorem za_all_1 : ∀ E ∈ zmt_1, zall E = true := List.forall_mem_cons.mpr ⟨za_X3_isPlace, List.forall_mem_cons.mpr ⟨za_X3_startAnew, List.forall_mem_cons.mpr ⟨za_X3_nextMoment, List.forall_mem_cons.mpr ⟨za_X3_comeIn, List.forall_mem_cons.mpr ⟨za_X3_beginIn, List.forall_mem_cons.mpr ⟨za_X3_begin, List.forall_mem_cons.mpr ⟨za_X3_come, List.forall_mem_cons.mpr ⟨za_X4_init, List.forall_mem_cons.mpr ⟨za_X4_make, List.forall_mem_cons.mpr ⟨za_X5_init, List.forall_mem_cons.mpr ⟨za_X5_forgetFrom, List.forall_mem_cons.mpr ⟨za_X5_inspect, List.forall_mem_cons.mpr ⟨za_X5_findWithoutCycle, List.forall_mem_cons.mpr ⟨za_X5_findDelayNotKept, List.forall_mem_cons.mpr ⟨za_X5_findTooMany, List.forall_mem_cons.mpr ⟨za_X5_howManyIn, List.forall_mem_cons.mpr ⟨za_X6_init, List.forall_mem_cons.mpr ⟨za_X6_leastLength, List.forall_mem_cons.mpr ⟨za_X6_tryAll, List.forall_mem_cons.mpr ⟨za_X6_isFree, List.forall_mem_cons.mpr ⟨za_X6_isHopeless, List.forall_mem_cons.mpr ⟨za_X6_howManyWithWay, List.forall_mem_cons.mpr ⟨za_X7_init, List.forall_mem_cons.mpr ⟨za_X7_add, List.forall_mem_cons.mpr ⟨za_X7_cut, List.forall_mem_cons.mpr ⟨za_X7_latency, List.forall_mem_cons.mpr ⟨za_X7_units, List.forall_mem_cons.mpr ⟨za_X7_delay, List.forall_mem_cons.mpr ⟨za_X7_about, List.forall_mem_cons.mpr ⟨za_X7_listed, fun _ h => absurd h List.not_mem_nil⟩⟩⟩⟩⟩⟩⟩⟩⟩⟩⟩⟩⟩⟩⟩⟩⟩⟩⟩⟩⟩⟩⟩⟩⟩⟩⟩⟩⟩⟩
theorem za_all_2 : ∀ E ∈ zmt_2, zall E = true := List.forall_mem_cons.mpr ⟨za_X7_length, List.forall_mem_cons.mpr ⟨za_X7_place, List.forall_mem_cons.mpr ⟨za_X7_check, List.forall_mem_cons.mpr ⟨za_X7_wrong, List.forall_mem_cons.mpr ⟨za_X7_given, List.forall_mem_cons.mpr ⟨za_X7_run, List.forall_mem_cons.mpr ⟨za_X7_value, List.forall_mem_cons.mpr ⟨za_X7_runByPlan, List.forall_mem_cons.mpr ⟨za_X7_shortest, List.forall_mem_cons.mpr ⟨za_X7_refresh, List.forall_mem_cons.mpr ⟨za_X7_isKind, List.forall_mem_cons.mpr ⟨za_X7_isRegister, List.forall_mem_cons.mpr ⟨za_X7_namesTarget, List.forall_mem_cons.mpr ⟨za_X7_namesFirst, List.forall_mem_cons.mpr ⟨za_X7_namesSecond, List.forall_mem_cons.mpr ⟨za_X7_namesRegistersOnly, List.forall_mem_cons.mpr ⟨za_X8_init, List.forall_mem_cons.mpr ⟨za_X8_reads, List.forall_mem_cons.mpr ⟨za_X8_writes, List.forall_mem_cons.mpr ⟨za_X8_isWritten, List.forall_mem_cons.mpr ⟨za_X8_latencyOf, List.forall_mem_cons.mpr ⟨za_X8_mayMeet, List.forall_mem_cons.mpr ⟨za_X8_memoryDelay, List.forall_mem_cons.mpr ⟨za_X8_delayOf, List.forall_mem_cons.mpr ⟨za_X8_delayAt, List.forall_mem_cons.mpr ⟨za_X8_work, List.forall_mem_cons.mpr ⟨za_X8_mayBegin, List.forall_mem_cons.mpr ⟨za_X8_makeList, List.forall_mem_cons.mpr ⟨za_X8_inCycle, List.forall_mem_cons.mpr ⟨za_X8_leastCycle, fun _ h => absurd h List.not_mem_nil⟩⟩⟩⟩⟩⟩⟩⟩⟩⟩⟩⟩⟩⟩⟩⟩⟩⟩⟩⟩⟩⟩⟩⟩⟩⟩⟩⟩⟩⟩
theorem za_all_3 : ∀ E ∈ zmt_3, zall E = true := List.forall_mem_cons.mpr ⟨za_X8_inOrder, List.forall_mem_cons.mpr ⟨za_X8_lengthOf, List.forall_mem_cons.mpr ⟨za_X8_nextRow, List.forall_mem_cons.mpr ⟨za_X8_exchange, List.forall_mem_cons.mpr ⟨za_X8_isKept, List.forall_mem_cons.mpr ⟨za_X8_findShortest, List.forall_mem_cons.mpr ⟨za_X8_isRegister, List.forall_mem_cons.mpr ⟨za_X8_add, List.forall_mem_cons.mpr ⟨za_X8_cut, List.forall_mem_cons.mpr ⟨za_X8_latency, List.forall_mem_cons.mpr ⟨za_X8_units, List.forall_mem_cons.mpr ⟨za_X8_isThere, List.forall_mem_cons.mpr ⟨za_X8_delay, List.forall_mem_cons.mpr ⟨za_X8_greatestWay, List.forall_mem_cons.mpr ⟨za_X8_about, List.forall_mem_cons.mpr ⟨za_X8_listed, List.forall_mem_cons.mpr ⟨za_X8_dependences, List.forall_mem_cons.mpr ⟨za_X8_length, List.forall_mem_cons.mpr ⟨za_X8_place, List.forall_mem_cons.mpr ⟨za_X8_tell, List.forall_mem_cons.mpr ⟨za_X8_look, List.forall_mem_cons.mpr ⟨za_X8_check, List.forall_mem_cons.mpr ⟨za_X8_wrong, List.forall_mem_cons.mpr ⟨za_X8_given, List.forall_mem_cons.mpr ⟨za_X8_begin, List.forall_mem_cons.mpr ⟨za_X8_come, List.forall_mem_cons.mpr ⟨za_X8_runBy, List.forall_mem_cons.mpr ⟨za_X8_run, List.forall_mem_cons.mpr ⟨za_X8_value, List.forall_mem_cons.mpr ⟨za_J9_floorMod_7cf53, fun _ h => absurd h List.not_mem_nil⟩⟩⟩⟩⟩⟩⟩⟩⟩⟩⟩⟩⟩⟩⟩⟩⟩⟩⟩⟩⟩⟩⟩⟩⟩⟩⟩⟩⟩⟩
theorem za_all_4 : ∀ E ∈ zmt_4, zall E = true := List.forall_mem_cons.mpr ⟨za_J9_max_7cf53, List.forall_mem_cons.mpr ⟨za_J9_min_7cf53, List.forall_mem_cons.mpr ⟨za_J7_fill_53178, fun _ h => absurd h List.not_mem_nil⟩⟩⟩
theorem za_all : ∀ E ∈ zmt, zall E = true := List.forall_mem_append.mpr ⟨List.forall_mem_append.mpr ⟨List.forall_mem_append.mpr ⟨List.forall_mem_append.mpr ⟨za_all_0, za_all_1⟩, za_all_2⟩, za_all_3⟩, za_all_4⟩
set_option maxRecDepth 100000 in
set_option maxHeartbeats 4000000 in
theorem za_law : zall eL_law = true := by decide +kernel
set_option maxRecDepth 100000 in
set_option maxHeartbeats 4000000 in
theorem zm_all : (zmt.zip zmp).all (fun q => zmok q.1 q.2) = true := by decide +kernel
set_option maxRecDepth 100000 in
set_option maxHeartbeats 4000000 in
theorem zm_len : zmt.length = zmp.length := by decide +kernel
set_option maxRecDepth 100000 in
set_option maxHeartbeats 4000000 in
theorem zcodes : zmt.map (fun E => some (Cond.code E.1 E.2.1 E.2.2.1 E.2.2.2.1)) = zmp.map (fun p => lw_tbl[p.1]?) := rfl
set_option maxRecDepth 100000 in
set_option maxHeartbeats 4000000 in
theorem zu_X0 : (u_ws RX0 TX0 8).all (fun w => decide (w ∈ lw_tbl) && goodWord w) = true := by decide +kernel
set_option maxRecDepth 100000 in
set_option maxHeartbeats 4000000 in
theorem zu_X1 : (u_ws RX1 TX1 6).all (fun w => decide (w ∈ lw_tbl) && goodWord w) = true := by decide +kernel
set_option maxRecDepth 100000 in
set_option maxHeartbeats 4000000 in
theorem zu_X2 : (u_ws RX2 TX2 6).all (fun w => decide (w ∈ lw_tbl) && goodWord w) = true := by decide +kernel
set_option maxRecDepth 100000 in
set_option maxHeartbeats 4000000 in
theorem zu_X3 : (u_ws RX3 TX3 7).all (fun w => decide (w ∈ lw_tbl) && goodWord w) = true := by decide +kernel
set_option maxRecDepth 100000 in
set_option maxHeartbeats 4000000 in
theorem zu_X4 : (u_ws RX4 TX4 3).all (fun w => decide (w ∈ lw_tbl) && goodWord w) = true := by decide +kernel
set_option maxRecDepth 100000 in
set_option maxHeartbeats 4000000 in
theorem zu_X5 : (u_ws RX5 TX5 5).all (fun w => decide (w ∈ lw_tbl) && goodWord w) = true := by decide +kernel
set_option maxRecDepth 100000 in
set_option maxHeartbeats 4000000 in
theorem zu_X6 : (u_ws RX6 TX6 4).all (fun w => decide (w ∈ lw_tbl) && goodWord w) = true := by decide +kernel
set_option maxRecDepth 100000 in
set_option maxHeartbeats 4000000 in
theorem zu_X7 : (u_ws RX7 TX7 14).all (fun w => decide (w ∈ lw_tbl) && goodWord w) = true := by decide +kernel
set_option maxRecDepth 100000 in
set_option maxHeartbeats 4000000 in
theorem zu_X8 : (u_ws RX8 TX8 28).all (fun w => decide (w ∈ lw_tbl) && goodWord w) = true := by decide +kernel
set_option maxRecDepth 100000 in
set_option maxHeartbeats 4000000 in
theorem zci_ok : (vwCl.zip zci).all (fun q => zin q.2.1 (.instantiable q.1.1 q.1.2.2) && zin q.2.2 (.initialized q.1.1)) = true := by decide +kernel
set_option maxRecDepth 100000 in
set_option maxHeartbeats 4000000 in
theorem zn_ok : (znest.zip znestp).all (fun q => decide (lw_tbl[q.2]? = some (.methodLinkNest q.1.1 q.1.2.1 q.1.2.2.1 q.1.2.2.2))) = true := by decide +kernel
set_option maxRecDepth 100000 in
set_option maxHeartbeats 4000000 in
theorem zx_ok : (zin zarr (.arrayClass .int) && zin zobj.1 (.instanceMethod objectInit) && zin zacp.1 (.native arraycopyName) && zin zacp.2.1 (.static arraycopyName) && zin zacp.2.2 (.initialized "java/lang/System")) = true := by decide +kernel
set_option maxRecDepth 100000 in
set_option maxHeartbeats 4000000 in
theorem zobj_ok : lw_tbl[zobj.2]? = some (.code objectInit ⟨#[0xb1]⟩ 1 none) := rfl
theorem zu_all : ∀ (c : Nat) (q : vw_C), vwCl[c]? = some q → ∀ w ∈ u_ws q.1 q.2.1 q.2.2, w ∈ zT := by
  intro c q h w hw
  have key : ∀ {C : String} {T : u_T} {N : Nat}, (u_ws C T N).all (fun w => decide (w ∈ lw_tbl) && goodWord w) = true → ∀ w ∈ u_ws C T N, w ∈ zT := by
    intro C T N h w hw
    have h1 := List.all_eq_true.mp h w hw
    simp only [Bool.and_eq_true, decide_eq_true_eq] at h1
    exact List.mem_filter.mpr h1
  match c, h with
  | 0, h => cases h; exact key zu_X0 w hw
  | 1, h => cases h; exact key zu_X1 w hw
  | 2, h => cases h; exact key zu_X2 w hw
  | 3, h => cases h; exact key zu_X3 w hw
  | 4, h => cases h; exact key zu_X4 w hw
  | 5, h => cases h; exact key zu_X5 w hw
  | 6, h => cases h; exact key zu_X6 w hw
  | 7, h => cases h; exact key zu_X7 w hw
  | 8, h => cases h; exact key zu_X8 w hw
  | _ + 9, h => simp at h
theorem zty_all : ∀ (c : Nat) (q : vw_C), vwCl[c]? = some q → ∀ k, k < q.2.2 → parseFieldDescriptor (q.2.1 k).2.2.1 = some (ztyp c k) := by
  intro c q h
  match c, h with
  | 0, h => cases h; exact tyX0_ok
  | 1, h => cases h; exact tyX1_ok
  | 2, h => cases h; exact tyX2_ok
  | 3, h => cases h; exact tyX3_ok
  | 4, h => cases h; exact tyX4_ok
  | 5, h => cases h; exact tyX5_ok
  | 6, h => cases h; exact tyX6_ok
  | 7, h => cases h; exact tyX7_ok
  | 8, h => cases h; exact tyX8_ok
  | _ + 9, h => simp at h
theorem znm_all : ∀ (c : Nat) (q : vw_C), vwCl[c]? = some q → ∀ a, a < q.2.2 → ∀ b, b < q.2.2 → a ≠ b → (q.2.1 a).2.1 ≠ (q.2.1 b).2.1 := by
  intro c q h
  match c, h with
  | 0, h => cases h; exact nmX0
  | 1, h => cases h; exact nmX1
  | 2, h => cases h; exact nmX2
  | 3, h => cases h; exact nmX3
  | 4, h => cases h; exact nmX4
  | 5, h => cases h; exact nmX5
  | 6, h => cases h; exact nmX6
  | 7, h => cases h; exact nmX7
  | 8, h => cases h; exact nmX8
  | _ + 9, h => simp at h
set_option maxRecDepth 100000 in
set_option maxHeartbeats 4000000 in
theorem zdf_ok : (List.range vwCl.length).all (fun c => decide ((zdef c).length = (vwCl.getD c ("", fun _ => ("", "", "", false), 0)).2.2) && (List.range (zdef c).length).all (fun j => decide (defaultValue (ztyp c j) = if (zdef c).getD j false then Value.null else Value.int 0))) = true := by decide +kernel
end
section
/-! ONE STEP OF OUR MACHINE IS STEPS OF THE JVM -/
theorem zMet_ofW {l : Launch} {y : MethodName} {ws ws' : List Cond} {rm : Room} {Pc : Array Value → State → Prop} {Qc : Array Value → State → Outcome → State → Prop} {mc ms : Nat} {free : Addr → Prop} {cc : ByteArray} {maxL : Nat} {ret : Option FieldType}
    (hy : plainFor y = true) (hw : ws = Cond.code y cc maxL ret :: ws')
    (body : ∀ p e s m args below meth c s₁, BodyLoose p l y (headSpec ws rm) cc maxL ret e s m args below meth c s₁ → c.maxLocals = maxL → Pc args s →
      W p l e (headSpec ws rm).room s m args below meth c s.heap [] 0 0 (MQ below Qc args s mc ms free) (entryFrame m args maxL)) : Met l y ws rm Pc Qc mc ms free := by
  refine MetFree.of_bodySF (code := cc) (maxLocals := maxL) (ret := ret) hy ?_ ?_
  · intro args s m h hn
    obtain ⟨meth, c, h1, h2, h3, h4, h5, h6, -, -⟩ := Cond.code_spec hn (atoms_spec (ws := ws) h _ (by rw [hw]; exact List.mem_cons_self))
    exact ⟨meth, c, h1, h2, h3, h4, h5, h6⟩
  · intro p e s m args below meth c s₁ B hml hP _
    have hh0 : s₁.heap = s.heap := by rw [B.state]; rfl
    obtain ⟨t, a1, o, b1, b2, b3⟩ := body p e s m args below meth c s₁ B hml hP s₁ hh0 (Stand.of_body B)
    exact ⟨t, o, a1, b1, b2, ⟨b3.1, b3.2⟩⟩
def zNw (U : State) : Prop := ∀ q ∈ znest, va_Nw (.methodLinkNest q.1 q.2.1 q.2.2.1 q.2.2.2) U
/-- what stands through a method's run (n0: how many cells there were at its start) -/
def zCx (p : Program) (s : State) (m : MethodId) (args : Array Value) (meth : Method) (c : Code) (E : zE) (D : va_G) (cI : ClassId) (b base L : Nat) (xs : Nat → Int32) (n0 : Nat) : Prop :=
  p.tables.exec = Jvm.exec ∧ c.code = E.2.1 ∧ c.maxLocals = E.2.2.1 ∧ s.vm.findClass E.1.cls = some m.cls ∧ (∀ w ∈ zT, w.before args s = true) ∧ (E.1.name = "<init>" → meth.name = "<init>") ∧ va_K D vwCl [(cI, .int)] s ∧ va_X b L xs s s.heap ∧ b < base ∧ s.heap.size + 1 = base + n0 ∧ 0 < n0 ∧ zNw s
/-- what a state of the run is -/
def zFt (D : va_G) (cI : ClassId) (b base L : Nat) (xs : Nat → Int32) (s : State) (ls : List (Option zV)) (S : List zC) (M : zM) (H : Heap) (locs : List Loc) (lsA : Array Slot) : Prop :=
  zlr b base lsA ls ∧ va_P D vwCl (zws cI b base S M) H ∧ va_S (fun q => base ≤ q) s.heap H locs ∧ S.head? = some (.inl L) ∧ ∀ k, k < L → Int32.ofInt (M 0 k) = xs k
section ZS
variable {p : Program} {l : Launch} {e : Env} {R : Room} {s : State} {m : MethodId} {args : Array Value} {below : List Frame} {meth : Method} {c : Code} {Q : State → Prop} {H : Heap} {locs : List Loc} {cells slots : Nat}
/-- how many cells the heap has, as the room tells -/
theorem zW_size {g : JFrame} (k : s.heap.size ≤ H.size → H.size ≤ s.heap.size + cells → W p l e R s m args below meth c H locs cells slots Q g) : W p l e R s m args below meth c H locs cells slots Q g := by
  intro T hT X
  have h := X.same
  have h1 : s.heap.size ≤ T.heap.size := h.2.1
  have h2 : T.heap.size ≤ s.heap.size + cells := h.2.2.1
  rw [hT] at h1 h2
  exact k h1 h2 T hT X
/-- .. exactly -/
theorem zsize {D : va_G} {cI : ClassId} {b base n0 : Nat} {S : List zC} {M : zM} (hP : va_P D vwCl (zws cI b base S M) H) (hs : s.heap.size + 1 = base + n0) (hn : 0 < n0) (hc : cells + n0 = S.length) (h1 : s.heap.size ≤ H.size) (h2 : H.size ≤ s.heap.size + cells) : H.size + 1 = base + S.length := by
  by_cases h3 : S.length = 1
  · omega
  · have hlt : (S.length - 2) + 1 < S.length := by omega
    have h4 : S[(S.length - 2) + 1]? = some S[(S.length - 2) + 1] := List.getElem?_eq_getElem hlt
    have h5 := (hP (S.length - 2) _ (zws_get h4)).lt
    have h5 : base + (S.length - 2) < H.size := h5
    omega
theorem zdefault (c : Nat) (q : vw_C) (hq : vwCl[c]? = some q) (hdf : (List.range vwCl.length).all (fun c => decide ((zdef c).length = (vwCl.getD c ("", fun _ => ("", "", "", false), 0)).2.2) && (List.range (zdef c).length).all (fun j => decide (defaultValue (ztyp c j) = if (zdef c).getD j false then Value.null else Value.int 0))) = true) : (zdef c).length = q.2.2 ∧ ∀ j, j < q.2.2 → defaultValue (ztyp c j) = if (zdef c).getD j false then Value.null else Value.int 0 := by
  have h1 := List.all_eq_true.mp hdf c (List.mem_range.mpr (zmem_lt hq))
  simp only [Bool.and_eq_true, decide_eq_true_eq, List.getD_eq_getElem?_getD, hq, Option.getD_some] at h1
  refine ⟨h1.1, fun j hj => ?_⟩
  have h2 := List.all_eq_true.mp h1.2 j (List.mem_range.mpr (by rw [h1.1]; exact hj))
  simpa only [decide_eq_true_eq, List.getD_eq_getElem?_getD] using h2
end ZS
end
section
/-! ONE STEP: an instruction a theorem -/
section ZT
variable {p : Program} {l : Launch} {e : Env} {R : Room} {s : State} {m : MethodId} {args : Array Value} {below : List Frame} {meth : Method} {c : Code} {Q : State → Prop} {H : Heap} {locs : List Loc} {cells slots : Nat}
variable {E : zE} {D : va_G} {cI : ClassId} {b base L : Nat} {xs : Nat → Int32} {n0 z0 pc ra rb rt : Nat} {ls : List (Option zV)} {st : List zV} {S : List zC} {M : zM} {s2 : zS} {lsA : Array Slot}
/-- the goal behind a step -/
abbrev zKK (p : Program) (l : Launch) (e : Env) (R : Room) (s : State) (m : MethodId) (args : Array Value) (below : List Frame) (meth : Method) (c : Code) (Q : State → Prop) (D : va_G) (cI : ClassId) (b base L : Nat) (xs : Nat → Int32) (n0 z0 : Nat) (s2 : zS) : Prop := ∀ (H2 : Heap) (locs2 : List Loc) (lsB : Array Slot) (cells2 slots2 : Nat), zFt D cI b base L xs s s2.2.1 s2.2.2.2.1 s2.2.2.2.2 H2 locs2 lsB → cells2 + n0 = s2.2.2.2.1.length → slots2 + z0 = zsl s2.2.2.2.1 → W p l e R s m args below meth c H2 locs2 cells2 slots2 Q (F0 m s2.1 lsB (s2.2.2.1.map (zcv b base)))
theorem zs_iconst {n : Int} (X : zCx p s m args meth c E D cI b base L xs n0) (hw : zok E pc (.iconst n, ra, rb, rt) = true) (hs : zstep zdef (.iconst n, ra, rb, rt) (pc, ls, st, S, M) = some s2) (F : zFt D cI b base L xs s ls S M H locs lsA) (hc : cells + n0 = S.length) (hz : slots + z0 = zsl S) (kk : zKK p l e R s m args below meth c Q D cI b base L xs n0 z0 s2) : W p l e R s m args below meth c H locs cells slots Q (F0 m pc lsA (st.map (zcv b base))) := by
  obtain ⟨hx, hb, hml, hown, hts, hname, hK, hX, hbb, hsz, hn0, hN⟩ := X
  obtain ⟨hl, hP, hS, hS0, hM0⟩ := F
  have hd : decode E.2.1 pc = .ok (.iconst n, 1) := of_decide_eq_true hw
  cases hs
  exact lv_iconst hx hb hd rfl (kk H locs lsA cells slots ⟨hl, hP, hS, hS0, hM0⟩ hc hz)
theorem zs_bipush {n : Int} (X : zCx p s m args meth c E D cI b base L xs n0) (hw : zok E pc (.bipush n, ra, rb, rt) = true) (hs : zstep zdef (.bipush n, ra, rb, rt) (pc, ls, st, S, M) = some s2) (F : zFt D cI b base L xs s ls S M H locs lsA) (hc : cells + n0 = S.length) (hz : slots + z0 = zsl S) (kk : zKK p l e R s m args below meth c Q D cI b base L xs n0 z0 s2) : W p l e R s m args below meth c H locs cells slots Q (F0 m pc lsA (st.map (zcv b base))) := by
  obtain ⟨hx, hb, hml, hown, hts, hname, hK, hX, hbb, hsz, hn0, hN⟩ := X
  obtain ⟨hl, hP, hS, hS0, hM0⟩ := F
  have hw := hw
  obtain ⟨hd, hw⟩ := (Bool.and_eq_true _ _).mp hw
  have hd : decode E.2.1 pc = .ok (.bipush n, 2) := of_decide_eq_true hd
  cases hs
  exact lv_bipush hx hb hd (of_decide_eq_true hw) (kk H locs lsA cells slots ⟨hl, hP, hS, hS0, hM0⟩ hc hz)
theorem zs_sipush {n : Int} (X : zCx p s m args meth c E D cI b base L xs n0) (hw : zok E pc (.sipush n, ra, rb, rt) = true) (hs : zstep zdef (.sipush n, ra, rb, rt) (pc, ls, st, S, M) = some s2) (F : zFt D cI b base L xs s ls S M H locs lsA) (hc : cells + n0 = S.length) (hz : slots + z0 = zsl S) (kk : zKK p l e R s m args below meth c Q D cI b base L xs n0 z0 s2) : W p l e R s m args below meth c H locs cells slots Q (F0 m pc lsA (st.map (zcv b base))) := by
  obtain ⟨hx, hb, hml, hown, hts, hname, hK, hX, hbb, hsz, hn0, hN⟩ := X
  obtain ⟨hl, hP, hS, hS0, hM0⟩ := F
  have hw := hw
  obtain ⟨hd, hw⟩ := (Bool.and_eq_true _ _).mp hw
  have hd : decode E.2.1 pc = .ok (.sipush n, 3) := of_decide_eq_true hd
  cases hs
  exact lv_sipush hx hb hd (of_decide_eq_true hw) (kk H locs lsA cells slots ⟨hl, hP, hS, hS0, hM0⟩ hc hz)
theorem zs_iload_n {k : Fin 4} (X : zCx p s m args meth c E D cI b base L xs n0) (hw : zok E pc (.iload_n k, ra, rb, rt) = true) (hs : zstep zdef (.iload_n k, ra, rb, rt) (pc, ls, st, S, M) = some s2) (F : zFt D cI b base L xs s ls S M H locs lsA) (hc : cells + n0 = S.length) (hz : slots + z0 = zsl S) (kk : zKK p l e R s m args below meth c Q D cI b base L xs n0 z0 s2) : W p l e R s m args below meth c H locs cells slots Q (F0 m pc lsA (st.map (zcv b base))) := by
  obtain ⟨hx, hb, hml, hown, hts, hname, hK, hX, hbb, hsz, hn0, hN⟩ := X
  obtain ⟨hl, hP, hS, hS0, hM0⟩ := F
  have hd : decode E.2.1 pc = .ok (.iload_n k, 1) := of_decide_eq_true hw
  have hs : (match zld ls k.val with | some x => some (pc + 1, ls, .inl x :: st, S, M) | none => none) = some s2 := hs
  cases hq : zld ls k.val with
  | none => rw [hq] at hs; cases hs
  | some x =>
    rw [hq] at hs
    cases hs
    exact lv_iload_n hx hb hd rfl (zlr_at hl (zld_spec hq)) (kk H locs lsA cells slots ⟨hl, hP, hS, hS0, hM0⟩ hc hz)
theorem zs_iload {k : Nat} (X : zCx p s m args meth c E D cI b base L xs n0) (hw : zok E pc (.iload k, ra, rb, rt) = true) (hs : zstep zdef (.iload k, ra, rb, rt) (pc, ls, st, S, M) = some s2) (F : zFt D cI b base L xs s ls S M H locs lsA) (hc : cells + n0 = S.length) (hz : slots + z0 = zsl S) (kk : zKK p l e R s m args below meth c Q D cI b base L xs n0 z0 s2) : W p l e R s m args below meth c H locs cells slots Q (F0 m pc lsA (st.map (zcv b base))) := by
  obtain ⟨hx, hb, hml, hown, hts, hname, hK, hX, hbb, hsz, hn0, hN⟩ := X
  obtain ⟨hl, hP, hS, hS0, hM0⟩ := F
  have hd : decode E.2.1 pc = .ok (.iload k, 2) := of_decide_eq_true hw
  have hs : (match zld ls k with | some x => some (pc + 2, ls, .inl x :: st, S, M) | none => none) = some s2 := hs
  cases hq : zld ls k with
  | none => rw [hq] at hs; cases hs
  | some x =>
    rw [hq] at hs
    cases hs
    exact lv_iload hx hb hd (zlr_at hl (zld_spec hq)) (kk H locs lsA cells slots ⟨hl, hP, hS, hS0, hM0⟩ hc hz)
theorem zs_aload_n {k : Fin 4} (X : zCx p s m args meth c E D cI b base L xs n0) (hw : zok E pc (.aload_n k, ra, rb, rt) = true) (hs : zstep zdef (.aload_n k, ra, rb, rt) (pc, ls, st, S, M) = some s2) (F : zFt D cI b base L xs s ls S M H locs lsA) (hc : cells + n0 = S.length) (hz : slots + z0 = zsl S) (kk : zKK p l e R s m args below meth c Q D cI b base L xs n0 z0 s2) : W p l e R s m args below meth c H locs cells slots Q (F0 m pc lsA (st.map (zcv b base))) := by
  obtain ⟨hx, hb, hml, hown, hts, hname, hK, hX, hbb, hsz, hn0, hN⟩ := X
  obtain ⟨hl, hP, hS, hS0, hM0⟩ := F
  have hd : decode E.2.1 pc = .ok (.aload_n k, 1) := of_decide_eq_true hw
  have hs : (match zldr ls k.val with | some x => some (pc + 1, ls, .inr (some x) :: st, S, M) | none => none) = some s2 := hs
  cases hq : zldr ls k.val with
  | none => rw [hq] at hs; cases hs
  | some x =>
    rw [hq] at hs
    cases hs
    exact lv_aload_n hx hb hd rfl (zlr_at hl (zldr_spec hq)) (kk H locs lsA cells slots ⟨hl, hP, hS, hS0, hM0⟩ hc hz)
theorem zs_aload {k : Nat} (X : zCx p s m args meth c E D cI b base L xs n0) (hw : zok E pc (.aload k, ra, rb, rt) = true) (hs : zstep zdef (.aload k, ra, rb, rt) (pc, ls, st, S, M) = some s2) (F : zFt D cI b base L xs s ls S M H locs lsA) (hc : cells + n0 = S.length) (hz : slots + z0 = zsl S) (kk : zKK p l e R s m args below meth c Q D cI b base L xs n0 z0 s2) : W p l e R s m args below meth c H locs cells slots Q (F0 m pc lsA (st.map (zcv b base))) := by
  obtain ⟨hx, hb, hml, hown, hts, hname, hK, hX, hbb, hsz, hn0, hN⟩ := X
  obtain ⟨hl, hP, hS, hS0, hM0⟩ := F
  have hd : decode E.2.1 pc = .ok (.aload k, 2) := of_decide_eq_true hw
  have hs : (match zldr ls k with | some x => some (pc + 2, ls, .inr (some x) :: st, S, M) | none => none) = some s2 := hs
  cases hq : zldr ls k with
  | none => rw [hq] at hs; cases hs
  | some x =>
    rw [hq] at hs
    cases hs
    exact lv_aload hx hb hd (zlr_at hl (zldr_spec hq)) (kk H locs lsA cells slots ⟨hl, hP, hS, hS0, hM0⟩ hc hz)
theorem zs_istore_n {k : Fin 4} (X : zCx p s m args meth c E D cI b base L xs n0) (hw : zok E pc (.istore_n k, ra, rb, rt) = true) (hs : zstep zdef (.istore_n k, ra, rb, rt) (pc, ls, st, S, M) = some s2) (F : zFt D cI b base L xs s ls S M H locs lsA) (hc : cells + n0 = S.length) (hz : slots + z0 = zsl S) (kk : zKK p l e R s m args below meth c Q D cI b base L xs n0 z0 s2) : W p l e R s m args below meth c H locs cells slots Q (F0 m pc lsA (st.map (zcv b base))) := by
  obtain ⟨hx, hb, hml, hown, hts, hname, hK, hX, hbb, hsz, hn0, hN⟩ := X
  obtain ⟨hl, hP, hS, hS0, hM0⟩ := F
  have hd : decode E.2.1 pc = .ok (.istore_n k, 1) := of_decide_eq_true hw
  rcases st with _ | ⟨x | x, st⟩
  · cases hs
  rotate_left
  · cases hs
  have hs : (if k.val < ls.length then some (pc + 1, ls.set k.val (some (.inl x)), st, S, M) else none) = some s2 := hs
  by_cases hlt : k.val < ls.length
  · rw [if_pos hlt] at hs
    cases hs
    obtain ⟨lv, hl1, hl2⟩ := hl
    exact lv_istore_n hx hb hd rfl hl1 hlt rfl (fun lsB hB => kk H locs lsB cells slots ⟨zlr_set (lsA := lsA) (v := .inl x) hl2 hB, hP, hS, hS0, hM0⟩ hc hz)
  · rw [if_neg hlt] at hs
    cases hs
theorem zs_istore {k : Nat} (X : zCx p s m args meth c E D cI b base L xs n0) (hw : zok E pc (.istore k, ra, rb, rt) = true) (hs : zstep zdef (.istore k, ra, rb, rt) (pc, ls, st, S, M) = some s2) (F : zFt D cI b base L xs s ls S M H locs lsA) (hc : cells + n0 = S.length) (hz : slots + z0 = zsl S) (kk : zKK p l e R s m args below meth c Q D cI b base L xs n0 z0 s2) : W p l e R s m args below meth c H locs cells slots Q (F0 m pc lsA (st.map (zcv b base))) := by
  obtain ⟨hx, hb, hml, hown, hts, hname, hK, hX, hbb, hsz, hn0, hN⟩ := X
  obtain ⟨hl, hP, hS, hS0, hM0⟩ := F
  have hd : decode E.2.1 pc = .ok (.istore k, 2) := of_decide_eq_true hw
  rcases st with _ | ⟨x | x, st⟩
  · cases hs
  rotate_left
  · cases hs
  have hs : (if k < ls.length then some (pc + 2, ls.set k (some (.inl x)), st, S, M) else none) = some s2 := hs
  by_cases hlt : k < ls.length
  · rw [if_pos hlt] at hs
    cases hs
    obtain ⟨lv, hl1, hl2⟩ := hl
    exact lv_istore hx hb hd hl1 hlt rfl (fun lsB hB => kk H locs lsB cells slots ⟨zlr_set (lsA := lsA) (v := .inl x) hl2 hB, hP, hS, hS0, hM0⟩ hc hz)
  · rw [if_neg hlt] at hs
    cases hs
theorem zs_astore_n {k : Fin 4} (X : zCx p s m args meth c E D cI b base L xs n0) (hw : zok E pc (.astore_n k, ra, rb, rt) = true) (hs : zstep zdef (.astore_n k, ra, rb, rt) (pc, ls, st, S, M) = some s2) (F : zFt D cI b base L xs s ls S M H locs lsA) (hc : cells + n0 = S.length) (hz : slots + z0 = zsl S) (kk : zKK p l e R s m args below meth c Q D cI b base L xs n0 z0 s2) : W p l e R s m args below meth c H locs cells slots Q (F0 m pc lsA (st.map (zcv b base))) := by
  obtain ⟨hx, hb, hml, hown, hts, hname, hK, hX, hbb, hsz, hn0, hN⟩ := X
  obtain ⟨hl, hP, hS, hS0, hM0⟩ := F
  have hd : decode E.2.1 pc = .ok (.astore_n k, 1) := of_decide_eq_true hw
  rcases st with _ | ⟨x | _ | x, st⟩
  · cases hs
  · cases hs
  · cases hs
  have hs : (if k.val < ls.length then some (pc + 1, ls.set k.val (some (.inr (some x))), st, S, M) else none) = some s2 := hs
  by_cases hlt : k.val < ls.length
  · rw [if_pos hlt] at hs
    cases hs
    obtain ⟨lv, hl1, hl2⟩ := hl
    exact lv_astore_n hx hb hd rfl hl1 hlt rfl (fun lsB hB => kk H locs lsB cells slots ⟨zlr_set (lsA := lsA) (v := .inr (some x)) hl2 hB, hP, hS, hS0, hM0⟩ hc hz)
  · rw [if_neg hlt] at hs
    cases hs
theorem zs_astore {k : Nat} (X : zCx p s m args meth c E D cI b base L xs n0) (hw : zok E pc (.astore k, ra, rb, rt) = true) (hs : zstep zdef (.astore k, ra, rb, rt) (pc, ls, st, S, M) = some s2) (F : zFt D cI b base L xs s ls S M H locs lsA) (hc : cells + n0 = S.length) (hz : slots + z0 = zsl S) (kk : zKK p l e R s m args below meth c Q D cI b base L xs n0 z0 s2) : W p l e R s m args below meth c H locs cells slots Q (F0 m pc lsA (st.map (zcv b base))) := by
  obtain ⟨hx, hb, hml, hown, hts, hname, hK, hX, hbb, hsz, hn0, hN⟩ := X
  obtain ⟨hl, hP, hS, hS0, hM0⟩ := F
  have hd : decode E.2.1 pc = .ok (.astore k, 2) := of_decide_eq_true hw
  rcases st with _ | ⟨x | _ | x, st⟩
  · cases hs
  · cases hs
  · cases hs
  have hs : (if k < ls.length then some (pc + 2, ls.set k (some (.inr (some x))), st, S, M) else none) = some s2 := hs
  by_cases hlt : k < ls.length
  · rw [if_pos hlt] at hs
    cases hs
    obtain ⟨lv, hl1, hl2⟩ := hl
    exact lv_astore hx hb hd hl1 hlt rfl (fun lsB hB => kk H locs lsB cells slots ⟨zlr_set (lsA := lsA) (v := .inr (some x)) hl2 hB, hP, hS, hS0, hM0⟩ hc hz)
  · rw [if_neg hlt] at hs
    cases hs
theorem zs_iinc {k : Nat} {n : Int} (X : zCx p s m args meth c E D cI b base L xs n0) (hw : zok E pc (.iinc k n, ra, rb, rt) = true) (hs : zstep zdef (.iinc k n, ra, rb, rt) (pc, ls, st, S, M) = some s2) (F : zFt D cI b base L xs s ls S M H locs lsA) (hc : cells + n0 = S.length) (hz : slots + z0 = zsl S) (kk : zKK p l e R s m args below meth c Q D cI b base L xs n0 z0 s2) : W p l e R s m args below meth c H locs cells slots Q (F0 m pc lsA (st.map (zcv b base))) := by
  obtain ⟨hx, hb, hml, hown, hts, hname, hK, hX, hbb, hsz, hn0, hN⟩ := X
  obtain ⟨hl, hP, hS, hS0, hM0⟩ := F
  have hd : decode E.2.1 pc = .ok (.iinc k n, 3) := of_decide_eq_true hw
  have hs : (match zld ls k with | some x => some (pc + 3, ls.set k (some (.inl (x + n))), st, S, M) | none => none) = some s2 := hs
  cases hq : zld ls k with
  | none => rw [hq] at hs; cases hs
  | some x =>
    rw [hq] at hs
    cases hs
    obtain ⟨lv, hl1, hl2⟩ := hl
    obtain ⟨i, hi⟩ := List.getElem?_of_mem (hl2 k _ (zld_spec hq))
    exact lv_iinc hx hb hd hl1 hi (v := Int32.ofInt (x + n)) (Int32.ofInt_add x n).symm (zmem_lt (zld_spec hq)) rfl (fun lsB hB => kk H locs lsB cells slots ⟨zlr_set (lsA := lsA) (v := .inl (x + n)) hl2 hB, hP, hS, hS0, hM0⟩ hc hz)
theorem zs_iadd  (X : zCx p s m args meth c E D cI b base L xs n0) (hw : zok E pc (.iadd, ra, rb, rt) = true) (hs : zstep zdef (.iadd, ra, rb, rt) (pc, ls, st, S, M) = some s2) (F : zFt D cI b base L xs s ls S M H locs lsA) (hc : cells + n0 = S.length) (hz : slots + z0 = zsl S) (kk : zKK p l e R s m args below meth c Q D cI b base L xs n0 z0 s2) : W p l e R s m args below meth c H locs cells slots Q (F0 m pc lsA (st.map (zcv b base))) := by
  obtain ⟨hx, hb, hml, hown, hts, hname, hK, hX, hbb, hsz, hn0, hN⟩ := X
  obtain ⟨hl, hP, hS, hS0, hM0⟩ := F
  have hd : decode E.2.1 pc = .ok (.iadd, 1) := of_decide_eq_true hw
  rcases st with _ | ⟨y | y, _ | ⟨x | x, st⟩⟩
  · cases hs
  · cases hs
  rotate_left
  · cases hs
  · cases hs
  · cases hs
  · cases hs
  cases hs
  refine lv_iadd hx hb hd ?_
  have hq := kk H locs lsA cells slots ⟨hl, hP, hS, hS0, hM0⟩ hc hz
  have he : Int32.ofInt (x + y) = Int32.ofInt x + Int32.ofInt y := (Int32.ofInt_add x y)
  rw [← he]
  exact hq
theorem zs_isub  (X : zCx p s m args meth c E D cI b base L xs n0) (hw : zok E pc (.isub, ra, rb, rt) = true) (hs : zstep zdef (.isub, ra, rb, rt) (pc, ls, st, S, M) = some s2) (F : zFt D cI b base L xs s ls S M H locs lsA) (hc : cells + n0 = S.length) (hz : slots + z0 = zsl S) (kk : zKK p l e R s m args below meth c Q D cI b base L xs n0 z0 s2) : W p l e R s m args below meth c H locs cells slots Q (F0 m pc lsA (st.map (zcv b base))) := by
  obtain ⟨hx, hb, hml, hown, hts, hname, hK, hX, hbb, hsz, hn0, hN⟩ := X
  obtain ⟨hl, hP, hS, hS0, hM0⟩ := F
  have hd : decode E.2.1 pc = .ok (.isub, 1) := of_decide_eq_true hw
  rcases st with _ | ⟨y | y, _ | ⟨x | x, st⟩⟩
  · cases hs
  · cases hs
  rotate_left
  · cases hs
  · cases hs
  · cases hs
  · cases hs
  cases hs
  refine lv_isub hx hb hd ?_
  have hq := kk H locs lsA cells slots ⟨hl, hP, hS, hS0, hM0⟩ hc hz
  have he : Int32.ofInt (x - y) = Int32.ofInt x - Int32.ofInt y := (Int32.ofInt_sub x y)
  rw [← he]
  exact hq
theorem zs_imul  (X : zCx p s m args meth c E D cI b base L xs n0) (hw : zok E pc (.imul, ra, rb, rt) = true) (hs : zstep zdef (.imul, ra, rb, rt) (pc, ls, st, S, M) = some s2) (F : zFt D cI b base L xs s ls S M H locs lsA) (hc : cells + n0 = S.length) (hz : slots + z0 = zsl S) (kk : zKK p l e R s m args below meth c Q D cI b base L xs n0 z0 s2) : W p l e R s m args below meth c H locs cells slots Q (F0 m pc lsA (st.map (zcv b base))) := by
  obtain ⟨hx, hb, hml, hown, hts, hname, hK, hX, hbb, hsz, hn0, hN⟩ := X
  obtain ⟨hl, hP, hS, hS0, hM0⟩ := F
  have hd : decode E.2.1 pc = .ok (.imul, 1) := of_decide_eq_true hw
  rcases st with _ | ⟨y | y, _ | ⟨x | x, st⟩⟩
  · cases hs
  · cases hs
  rotate_left
  · cases hs
  · cases hs
  · cases hs
  · cases hs
  cases hs
  refine lv_imul hx hb hd ?_
  have hq := kk H locs lsA cells slots ⟨hl, hP, hS, hS0, hM0⟩ hc hz
  have he : Int32.ofInt (x * y) = Int32.ofInt x * Int32.ofInt y := (Int32.ofInt_mul x y)
  rw [← he]
  exact hq
theorem zs_iand  (X : zCx p s m args meth c E D cI b base L xs n0) (hw : zok E pc (.iand, ra, rb, rt) = true) (hs : zstep zdef (.iand, ra, rb, rt) (pc, ls, st, S, M) = some s2) (F : zFt D cI b base L xs s ls S M H locs lsA) (hc : cells + n0 = S.length) (hz : slots + z0 = zsl S) (kk : zKK p l e R s m args below meth c Q D cI b base L xs n0 z0 s2) : W p l e R s m args below meth c H locs cells slots Q (F0 m pc lsA (st.map (zcv b base))) := by
  obtain ⟨hx, hb, hml, hown, hts, hname, hK, hX, hbb, hsz, hn0, hN⟩ := X
  obtain ⟨hl, hP, hS, hS0, hM0⟩ := F
  have hd : decode E.2.1 pc = .ok (.iand, 1) := of_decide_eq_true hw
  rcases st with _ | ⟨y | y, _ | ⟨x | x, st⟩⟩
  · cases hs
  · cases hs
  rotate_left
  · cases hs
  · cases hs
  · cases hs
  · cases hs
  cases hs
  refine lv_iand hx hb hd ?_
  have hq := kk H locs lsA cells slots ⟨hl, hP, hS, hS0, hM0⟩ hc hz
  have he : Int32.ofInt (zand x y) = Int32.ofInt x &&& Int32.ofInt y := (Int32.ofInt_toInt _)
  rw [← he]
  exact hq
theorem zs_ior  (X : zCx p s m args meth c E D cI b base L xs n0) (hw : zok E pc (.ior, ra, rb, rt) = true) (hs : zstep zdef (.ior, ra, rb, rt) (pc, ls, st, S, M) = some s2) (F : zFt D cI b base L xs s ls S M H locs lsA) (hc : cells + n0 = S.length) (hz : slots + z0 = zsl S) (kk : zKK p l e R s m args below meth c Q D cI b base L xs n0 z0 s2) : W p l e R s m args below meth c H locs cells slots Q (F0 m pc lsA (st.map (zcv b base))) := by
  obtain ⟨hx, hb, hml, hown, hts, hname, hK, hX, hbb, hsz, hn0, hN⟩ := X
  obtain ⟨hl, hP, hS, hS0, hM0⟩ := F
  have hd : decode E.2.1 pc = .ok (.ior, 1) := of_decide_eq_true hw
  rcases st with _ | ⟨y | y, _ | ⟨x | x, st⟩⟩
  · cases hs
  · cases hs
  rotate_left
  · cases hs
  · cases hs
  · cases hs
  · cases hs
  cases hs
  refine lv_ior hx hb hd ?_
  have hq := kk H locs lsA cells slots ⟨hl, hP, hS, hS0, hM0⟩ hc hz
  have he : Int32.ofInt (zor x y) = Int32.ofInt x ||| Int32.ofInt y := (Int32.ofInt_toInt _)
  rw [← he]
  exact hq
theorem zs_ixor  (X : zCx p s m args meth c E D cI b base L xs n0) (hw : zok E pc (.ixor, ra, rb, rt) = true) (hs : zstep zdef (.ixor, ra, rb, rt) (pc, ls, st, S, M) = some s2) (F : zFt D cI b base L xs s ls S M H locs lsA) (hc : cells + n0 = S.length) (hz : slots + z0 = zsl S) (kk : zKK p l e R s m args below meth c Q D cI b base L xs n0 z0 s2) : W p l e R s m args below meth c H locs cells slots Q (F0 m pc lsA (st.map (zcv b base))) := by
  obtain ⟨hx, hb, hml, hown, hts, hname, hK, hX, hbb, hsz, hn0, hN⟩ := X
  obtain ⟨hl, hP, hS, hS0, hM0⟩ := F
  have hd : decode E.2.1 pc = .ok (.ixor, 1) := of_decide_eq_true hw
  rcases st with _ | ⟨y | y, _ | ⟨x | x, st⟩⟩
  · cases hs
  · cases hs
  rotate_left
  · cases hs
  · cases hs
  · cases hs
  · cases hs
  cases hs
  refine lv_ixor hx hb hd ?_
  have hq := kk H locs lsA cells slots ⟨hl, hP, hS, hS0, hM0⟩ hc hz
  have he : Int32.ofInt (zxor x y) = Int32.ofInt x ^^^ Int32.ofInt y := (Int32.ofInt_toInt _)
  rw [← he]
  exact hq
theorem zs_ishl  (X : zCx p s m args meth c E D cI b base L xs n0) (hw : zok E pc (.ishl, ra, rb, rt) = true) (hs : zstep zdef (.ishl, ra, rb, rt) (pc, ls, st, S, M) = some s2) (F : zFt D cI b base L xs s ls S M H locs lsA) (hc : cells + n0 = S.length) (hz : slots + z0 = zsl S) (kk : zKK p l e R s m args below meth c Q D cI b base L xs n0 z0 s2) : W p l e R s m args below meth c H locs cells slots Q (F0 m pc lsA (st.map (zcv b base))) := by
  obtain ⟨hx, hb, hml, hown, hts, hname, hK, hX, hbb, hsz, hn0, hN⟩ := X
  obtain ⟨hl, hP, hS, hS0, hM0⟩ := F
  have hd : decode E.2.1 pc = .ok (.ishl, 1) := of_decide_eq_true hw
  rcases st with _ | ⟨y | y, _ | ⟨x | x, st⟩⟩
  · cases hs
  · cases hs
  rotate_left
  · cases hs
  · cases hs
  · cases hs
  · cases hs
  cases hs
  refine lv_ishl hx hb hd ?_
  have hq := kk H locs lsA cells slots ⟨hl, hP, hS, hS0, hM0⟩ hc hz
  have he : Int32.ofInt (zshl x y) = Int32.ofInt x <<< (Int32.ofInt y &&& 31) := (Int32.ofInt_toInt _)
  rw [← he]
  exact hq
theorem zs_idiv  (X : zCx p s m args meth c E D cI b base L xs n0) (hw : zok E pc (.idiv, ra, rb, rt) = true) (hs : zstep zdef (.idiv, ra, rb, rt) (pc, ls, st, S, M) = some s2) (F : zFt D cI b base L xs s ls S M H locs lsA) (hc : cells + n0 = S.length) (hz : slots + z0 = zsl S) (kk : zKK p l e R s m args below meth c Q D cI b base L xs n0 z0 s2) : W p l e R s m args below meth c H locs cells slots Q (F0 m pc lsA (st.map (zcv b base))) := by
  obtain ⟨hx, hb, hml, hown, hts, hname, hK, hX, hbb, hsz, hn0, hN⟩ := X
  obtain ⟨hl, hP, hS, hS0, hM0⟩ := F
  have hd : decode E.2.1 pc = .ok (.idiv, 1) := of_decide_eq_true hw
  rcases st with _ | ⟨y | y, _ | ⟨x | x, st⟩⟩
  · cases hs
  · cases hs
  rotate_left
  · cases hs
  · cases hs
  · cases hs
  · cases hs
  have hs : (if zw y ≠ 0 then some (pc + 1, ls, .inl (zdiv x y) :: st, S, M) else none) = some s2 := hs
  by_cases hy : zw y ≠ 0
  · rw [if_pos hy] at hs
    cases hs
    refine lv_idiv hx hb hd (fun z => hy ((zof_eq0 y).mp z)) ?_
    have hq := kk H locs lsA cells slots ⟨hl, hP, hS, hS0, hM0⟩ hc hz
    have he : Int32.ofInt (zdiv x y) = Int32.ofInt x / Int32.ofInt y := Int32.ofInt_toInt _
    rw [← he]
    exact hq
  · rw [if_neg hy] at hs
    cases hs
theorem zs_irem  (X : zCx p s m args meth c E D cI b base L xs n0) (hw : zok E pc (.irem, ra, rb, rt) = true) (hs : zstep zdef (.irem, ra, rb, rt) (pc, ls, st, S, M) = some s2) (F : zFt D cI b base L xs s ls S M H locs lsA) (hc : cells + n0 = S.length) (hz : slots + z0 = zsl S) (kk : zKK p l e R s m args below meth c Q D cI b base L xs n0 z0 s2) : W p l e R s m args below meth c H locs cells slots Q (F0 m pc lsA (st.map (zcv b base))) := by
  obtain ⟨hx, hb, hml, hown, hts, hname, hK, hX, hbb, hsz, hn0, hN⟩ := X
  obtain ⟨hl, hP, hS, hS0, hM0⟩ := F
  have hd : decode E.2.1 pc = .ok (.irem, 1) := of_decide_eq_true hw
  rcases st with _ | ⟨y | y, _ | ⟨x | x, st⟩⟩
  · cases hs
  · cases hs
  rotate_left
  · cases hs
  · cases hs
  · cases hs
  · cases hs
  have hs : (if zw y ≠ 0 then some (pc + 1, ls, .inl (zrem x y) :: st, S, M) else none) = some s2 := hs
  by_cases hy : zw y ≠ 0
  · rw [if_pos hy] at hs
    cases hs
    refine lv_irem hx hb hd (fun z => hy ((zof_eq0 y).mp z)) ?_
    have hq := kk H locs lsA cells slots ⟨hl, hP, hS, hS0, hM0⟩ hc hz
    have he : Int32.ofInt (zrem x y) = Int32.ofInt x - Int32.ofInt x / Int32.ofInt y * Int32.ofInt y := Int32.ofInt_toInt _
    rw [← he]
    exact hq
  · rw [if_neg hy] at hs
    cases hs
theorem zs_dup  (X : zCx p s m args meth c E D cI b base L xs n0) (hw : zok E pc (.dup, ra, rb, rt) = true) (hs : zstep zdef (.dup, ra, rb, rt) (pc, ls, st, S, M) = some s2) (F : zFt D cI b base L xs s ls S M H locs lsA) (hc : cells + n0 = S.length) (hz : slots + z0 = zsl S) (kk : zKK p l e R s m args below meth c Q D cI b base L xs n0 z0 s2) : W p l e R s m args below meth c H locs cells slots Q (F0 m pc lsA (st.map (zcv b base))) := by
  obtain ⟨hx, hb, hml, hown, hts, hname, hK, hX, hbb, hsz, hn0, hN⟩ := X
  obtain ⟨hl, hP, hS, hS0, hM0⟩ := F
  have hd : decode E.2.1 pc = .ok (.dup, 1) := of_decide_eq_true hw
  rcases st with _ | ⟨v, st⟩
  · cases hs
  cases hs
  exact lv_dup hx hb hd (zcv_cat b base v) (kk H locs lsA cells slots ⟨hl, hP, hS, hS0, hM0⟩ hc hz)
theorem zs_dup2  (X : zCx p s m args meth c E D cI b base L xs n0) (hw : zok E pc (.dup2, ra, rb, rt) = true) (hs : zstep zdef (.dup2, ra, rb, rt) (pc, ls, st, S, M) = some s2) (F : zFt D cI b base L xs s ls S M H locs lsA) (hc : cells + n0 = S.length) (hz : slots + z0 = zsl S) (kk : zKK p l e R s m args below meth c Q D cI b base L xs n0 z0 s2) : W p l e R s m args below meth c H locs cells slots Q (F0 m pc lsA (st.map (zcv b base))) := by
  obtain ⟨hx, hb, hml, hown, hts, hname, hK, hX, hbb, hsz, hn0, hN⟩ := X
  obtain ⟨hl, hP, hS, hS0, hM0⟩ := F
  have hd : decode E.2.1 pc = .ok (.dup2, 1) := of_decide_eq_true hw
  rcases st with _ | ⟨v, _ | ⟨u, st⟩⟩
  · cases hs
  · cases hs
  cases hs
  exact lv_dup2_11 hx hb hd (zcv_cat b base v) (zcv_cat b base u) (kk H locs lsA cells slots ⟨hl, hP, hS, hS0, hM0⟩ hc hz)
theorem zs_goto {off : Int} (X : zCx p s m args meth c E D cI b base L xs n0) (hw : zok E pc (.goto off, ra, rb, rt) = true) (hs : zstep zdef (.goto off, ra, rb, rt) (pc, ls, st, S, M) = some s2) (F : zFt D cI b base L xs s ls S M H locs lsA) (hc : cells + n0 = S.length) (hz : slots + z0 = zsl S) (kk : zKK p l e R s m args below meth c Q D cI b base L xs n0 z0 s2) : W p l e R s m args below meth c H locs cells slots Q (F0 m pc lsA (st.map (zcv b base))) := by
  obtain ⟨hx, hb, hml, hown, hts, hname, hK, hX, hbb, hsz, hn0, hN⟩ := X
  obtain ⟨hl, hP, hS, hS0, hM0⟩ := F
  have hw := hw
  obtain ⟨hd, hw⟩ := (Bool.and_eq_true _ _).mp hw
  have hd : decode E.2.1 pc = .ok (.goto off, 3) := of_decide_eq_true hd
  cases hs
  exact lv_goto hx hb hd (ztgt_ok (of_decide_eq_true hw)) (kk H locs lsA cells slots ⟨hl, hP, hS, hS0, hM0⟩ hc hz)
theorem zs_if_eq {off : Int} (X : zCx p s m args meth c E D cI b base L xs n0) (hw : zok E pc (.ifCond .eq off, ra, rb, rt) = true) (hs : zstep zdef (.ifCond .eq off, ra, rb, rt) (pc, ls, st, S, M) = some s2) (F : zFt D cI b base L xs s ls S M H locs lsA) (hc : cells + n0 = S.length) (hz : slots + z0 = zsl S) (kk : zKK p l e R s m args below meth c Q D cI b base L xs n0 z0 s2) : W p l e R s m args below meth c H locs cells slots Q (F0 m pc lsA (st.map (zcv b base))) := by
  obtain ⟨hx, hb, hml, hown, hts, hname, hK, hX, hbb, hsz, hn0, hN⟩ := X
  obtain ⟨hl, hP, hS, hS0, hM0⟩ := F
  have hw := hw
  obtain ⟨hd, hw⟩ := (Bool.and_eq_true _ _).mp hw
  have hd : decode E.2.1 pc = .ok (.ifCond .eq off, 3) := of_decide_eq_true hd
  rcases st with _ | ⟨x | x, st⟩
  · cases hs
  rotate_left
  · cases hs
  have hs : some (if zw x = 0 then ztgt pc off else pc + 3, ls, st, S, M) = some s2 := hs
  cases hs
  have hq := kk H locs lsA cells slots ⟨hl, hP, hS, hS0, hM0⟩ hc hz
  refine lv_if_eq hx hb hd (ztgt_ok (of_decide_eq_true hw)) (fun hh => ?_) (fun hh => ?_)
  · have h1 : zw x = 0 := (zof_eq0 x).mp hh
    have hq : W p l e R s m args below meth c H locs cells slots Q (F0 m (if zw x = 0 then ztgt pc off else pc + 3) lsA (st.map (zcv b base))) := hq
    rw [if_pos h1] at hq
    exact hq
  · have h1 : ¬ (zw x = 0) := fun z => hh ((zof_eq0 x).mpr z)
    have hq : W p l e R s m args below meth c H locs cells slots Q (F0 m (if zw x = 0 then ztgt pc off else pc + 3) lsA (st.map (zcv b base))) := hq
    rw [if_neg h1] at hq
    exact hq
theorem zs_if_ne {off : Int} (X : zCx p s m args meth c E D cI b base L xs n0) (hw : zok E pc (.ifCond .ne off, ra, rb, rt) = true) (hs : zstep zdef (.ifCond .ne off, ra, rb, rt) (pc, ls, st, S, M) = some s2) (F : zFt D cI b base L xs s ls S M H locs lsA) (hc : cells + n0 = S.length) (hz : slots + z0 = zsl S) (kk : zKK p l e R s m args below meth c Q D cI b base L xs n0 z0 s2) : W p l e R s m args below meth c H locs cells slots Q (F0 m pc lsA (st.map (zcv b base))) := by
  obtain ⟨hx, hb, hml, hown, hts, hname, hK, hX, hbb, hsz, hn0, hN⟩ := X
  obtain ⟨hl, hP, hS, hS0, hM0⟩ := F
  have hw := hw
  obtain ⟨hd, hw⟩ := (Bool.and_eq_true _ _).mp hw
  have hd : decode E.2.1 pc = .ok (.ifCond .ne off, 3) := of_decide_eq_true hd
  rcases st with _ | ⟨x | x, st⟩
  · cases hs
  rotate_left
  · cases hs
  have hs : some (if zw x ≠ 0 then ztgt pc off else pc + 3, ls, st, S, M) = some s2 := hs
  cases hs
  have hq := kk H locs lsA cells slots ⟨hl, hP, hS, hS0, hM0⟩ hc hz
  refine lv_if_ne hx hb hd (ztgt_ok (of_decide_eq_true hw)) (fun hh => ?_) (fun hh => ?_)
  · have h1 : zw x ≠ 0 := fun z => hh ((zof_eq0 x).mpr z)
    have hq : W p l e R s m args below meth c H locs cells slots Q (F0 m (if zw x ≠ 0 then ztgt pc off else pc + 3) lsA (st.map (zcv b base))) := hq
    rw [if_pos h1] at hq
    exact hq
  · have h1 : ¬ (zw x ≠ 0) := fun z => z ((zof_eq0 x).mp hh)
    have hq : W p l e R s m args below meth c H locs cells slots Q (F0 m (if zw x ≠ 0 then ztgt pc off else pc + 3) lsA (st.map (zcv b base))) := hq
    rw [if_neg h1] at hq
    exact hq
theorem zs_if_lt {off : Int} (X : zCx p s m args meth c E D cI b base L xs n0) (hw : zok E pc (.ifCond .lt off, ra, rb, rt) = true) (hs : zstep zdef (.ifCond .lt off, ra, rb, rt) (pc, ls, st, S, M) = some s2) (F : zFt D cI b base L xs s ls S M H locs lsA) (hc : cells + n0 = S.length) (hz : slots + z0 = zsl S) (kk : zKK p l e R s m args below meth c Q D cI b base L xs n0 z0 s2) : W p l e R s m args below meth c H locs cells slots Q (F0 m pc lsA (st.map (zcv b base))) := by
  obtain ⟨hx, hb, hml, hown, hts, hname, hK, hX, hbb, hsz, hn0, hN⟩ := X
  obtain ⟨hl, hP, hS, hS0, hM0⟩ := F
  have hw := hw
  obtain ⟨hd, hw⟩ := (Bool.and_eq_true _ _).mp hw
  have hd : decode E.2.1 pc = .ok (.ifCond .lt off, 3) := of_decide_eq_true hd
  rcases st with _ | ⟨x | x, st⟩
  · cases hs
  rotate_left
  · cases hs
  have hs : some (if zw x < 0 then ztgt pc off else pc + 3, ls, st, S, M) = some s2 := hs
  cases hs
  have hq := kk H locs lsA cells slots ⟨hl, hP, hS, hS0, hM0⟩ hc hz
  refine lv_if_lt hx hb hd (ztgt_ok (of_decide_eq_true hw)) (fun hh => ?_) (fun hh => ?_)
  · have h1 : zw x < 0 := (zof_lt0 x).mp hh
    have hq : W p l e R s m args below meth c H locs cells slots Q (F0 m (if zw x < 0 then ztgt pc off else pc + 3) lsA (st.map (zcv b base))) := hq
    rw [if_pos h1] at hq
    exact hq
  · have h1 : ¬ (zw x < 0) := fun z => hh ((zof_lt0 x).mpr z)
    have hq : W p l e R s m args below meth c H locs cells slots Q (F0 m (if zw x < 0 then ztgt pc off else pc + 3) lsA (st.map (zcv b base))) := hq
    rw [if_neg h1] at hq
    exact hq
theorem zs_if_ge {off : Int} (X : zCx p s m args meth c E D cI b base L xs n0) (hw : zok E pc (.ifCond .ge off, ra, rb, rt) = true) (hs : zstep zdef (.ifCond .ge off, ra, rb, rt) (pc, ls, st, S, M) = some s2) (F : zFt D cI b base L xs s ls S M H locs lsA) (hc : cells + n0 = S.length) (hz : slots + z0 = zsl S) (kk : zKK p l e R s m args below meth c Q D cI b base L xs n0 z0 s2) : W p l e R s m args below meth c H locs cells slots Q (F0 m pc lsA (st.map (zcv b base))) := by
  obtain ⟨hx, hb, hml, hown, hts, hname, hK, hX, hbb, hsz, hn0, hN⟩ := X
  obtain ⟨hl, hP, hS, hS0, hM0⟩ := F
  have hw := hw
  obtain ⟨hd, hw⟩ := (Bool.and_eq_true _ _).mp hw
  have hd : decode E.2.1 pc = .ok (.ifCond .ge off, 3) := of_decide_eq_true hd
  rcases st with _ | ⟨x | x, st⟩
  · cases hs
  rotate_left
  · cases hs
  have hs : some (if zw x ≥ 0 then ztgt pc off else pc + 3, ls, st, S, M) = some s2 := hs
  cases hs
  have hq := kk H locs lsA cells slots ⟨hl, hP, hS, hS0, hM0⟩ hc hz
  refine lv_if_ge hx hb hd (ztgt_ok (of_decide_eq_true hw)) (fun hh => ?_) (fun hh => ?_)
  · have h1 : zw x ≥ 0 := (zof_ge0 x).mp hh
    have hq : W p l e R s m args below meth c H locs cells slots Q (F0 m (if zw x ≥ 0 then ztgt pc off else pc + 3) lsA (st.map (zcv b base))) := hq
    rw [if_pos h1] at hq
    exact hq
  · have h1 : ¬ (zw x ≥ 0) := fun z => hh ((zof_ge0 x).mpr z)
    have hq : W p l e R s m args below meth c H locs cells slots Q (F0 m (if zw x ≥ 0 then ztgt pc off else pc + 3) lsA (st.map (zcv b base))) := hq
    rw [if_neg h1] at hq
    exact hq
theorem zs_if_gt {off : Int} (X : zCx p s m args meth c E D cI b base L xs n0) (hw : zok E pc (.ifCond .gt off, ra, rb, rt) = true) (hs : zstep zdef (.ifCond .gt off, ra, rb, rt) (pc, ls, st, S, M) = some s2) (F : zFt D cI b base L xs s ls S M H locs lsA) (hc : cells + n0 = S.length) (hz : slots + z0 = zsl S) (kk : zKK p l e R s m args below meth c Q D cI b base L xs n0 z0 s2) : W p l e R s m args below meth c H locs cells slots Q (F0 m pc lsA (st.map (zcv b base))) := by
  obtain ⟨hx, hb, hml, hown, hts, hname, hK, hX, hbb, hsz, hn0, hN⟩ := X
  obtain ⟨hl, hP, hS, hS0, hM0⟩ := F
  have hw := hw
  obtain ⟨hd, hw⟩ := (Bool.and_eq_true _ _).mp hw
  have hd : decode E.2.1 pc = .ok (.ifCond .gt off, 3) := of_decide_eq_true hd
  rcases st with _ | ⟨x | x, st⟩
  · cases hs
  rotate_left
  · cases hs
  have hs : some (if zw x > 0 then ztgt pc off else pc + 3, ls, st, S, M) = some s2 := hs
  cases hs
  have hq := kk H locs lsA cells slots ⟨hl, hP, hS, hS0, hM0⟩ hc hz
  refine lv_if_gt hx hb hd (ztgt_ok (of_decide_eq_true hw)) (fun hh => ?_) (fun hh => ?_)
  · have h1 : zw x > 0 := (zof_gt0 x).mp hh
    have hq : W p l e R s m args below meth c H locs cells slots Q (F0 m (if zw x > 0 then ztgt pc off else pc + 3) lsA (st.map (zcv b base))) := hq
    rw [if_pos h1] at hq
    exact hq
  · have h1 : ¬ (zw x > 0) := fun z => hh ((zof_gt0 x).mpr z)
    have hq : W p l e R s m args below meth c H locs cells slots Q (F0 m (if zw x > 0 then ztgt pc off else pc + 3) lsA (st.map (zcv b base))) := hq
    rw [if_neg h1] at hq
    exact hq
theorem zs_if_le {off : Int} (X : zCx p s m args meth c E D cI b base L xs n0) (hw : zok E pc (.ifCond .le off, ra, rb, rt) = true) (hs : zstep zdef (.ifCond .le off, ra, rb, rt) (pc, ls, st, S, M) = some s2) (F : zFt D cI b base L xs s ls S M H locs lsA) (hc : cells + n0 = S.length) (hz : slots + z0 = zsl S) (kk : zKK p l e R s m args below meth c Q D cI b base L xs n0 z0 s2) : W p l e R s m args below meth c H locs cells slots Q (F0 m pc lsA (st.map (zcv b base))) := by
  obtain ⟨hx, hb, hml, hown, hts, hname, hK, hX, hbb, hsz, hn0, hN⟩ := X
  obtain ⟨hl, hP, hS, hS0, hM0⟩ := F
  have hw := hw
  obtain ⟨hd, hw⟩ := (Bool.and_eq_true _ _).mp hw
  have hd : decode E.2.1 pc = .ok (.ifCond .le off, 3) := of_decide_eq_true hd
  rcases st with _ | ⟨x | x, st⟩
  · cases hs
  rotate_left
  · cases hs
  have hs : some (if zw x ≤ 0 then ztgt pc off else pc + 3, ls, st, S, M) = some s2 := hs
  cases hs
  have hq := kk H locs lsA cells slots ⟨hl, hP, hS, hS0, hM0⟩ hc hz
  refine lv_if_le hx hb hd (ztgt_ok (of_decide_eq_true hw)) (fun hh => ?_) (fun hh => ?_)
  · have h1 : zw x ≤ 0 := (zof_le0 x).mp hh
    have hq : W p l e R s m args below meth c H locs cells slots Q (F0 m (if zw x ≤ 0 then ztgt pc off else pc + 3) lsA (st.map (zcv b base))) := hq
    rw [if_pos h1] at hq
    exact hq
  · have h1 : ¬ (zw x ≤ 0) := fun z => hh ((zof_le0 x).mpr z)
    have hq : W p l e R s m args below meth c H locs cells slots Q (F0 m (if zw x ≤ 0 then ztgt pc off else pc + 3) lsA (st.map (zcv b base))) := hq
    rw [if_neg h1] at hq
    exact hq
theorem zs_icmp_eq {off : Int} (X : zCx p s m args meth c E D cI b base L xs n0) (hw : zok E pc (.if_icmp .eq off, ra, rb, rt) = true) (hs : zstep zdef (.if_icmp .eq off, ra, rb, rt) (pc, ls, st, S, M) = some s2) (F : zFt D cI b base L xs s ls S M H locs lsA) (hc : cells + n0 = S.length) (hz : slots + z0 = zsl S) (kk : zKK p l e R s m args below meth c Q D cI b base L xs n0 z0 s2) : W p l e R s m args below meth c H locs cells slots Q (F0 m pc lsA (st.map (zcv b base))) := by
  obtain ⟨hx, hb, hml, hown, hts, hname, hK, hX, hbb, hsz, hn0, hN⟩ := X
  obtain ⟨hl, hP, hS, hS0, hM0⟩ := F
  have hw := hw
  obtain ⟨hd, hw⟩ := (Bool.and_eq_true _ _).mp hw
  have hd : decode E.2.1 pc = .ok (.if_icmp .eq off, 3) := of_decide_eq_true hd
  rcases st with _ | ⟨y | y, _ | ⟨x | x, st⟩⟩
  · cases hs
  · cases hs
  rotate_left
  · cases hs
  · cases hs
  · cases hs
  · cases hs
  have hs : some (if zw x = zw y then ztgt pc off else pc + 3, ls, st, S, M) = some s2 := hs
  cases hs
  have hq := kk H locs lsA cells slots ⟨hl, hP, hS, hS0, hM0⟩ hc hz
  refine lv_icmp_eq hx hb hd (ztgt_ok (of_decide_eq_true hw)) (fun hh => ?_) (fun hh => ?_)
  · have h1 : zw x = zw y := (zof_eq x y).mp hh
    have hq : W p l e R s m args below meth c H locs cells slots Q (F0 m (if zw x = zw y then ztgt pc off else pc + 3) lsA (st.map (zcv b base))) := hq
    rw [if_pos h1] at hq
    exact hq
  · have h1 : ¬ (zw x = zw y) := fun z => hh ((zof_eq x y).mpr z)
    have hq : W p l e R s m args below meth c H locs cells slots Q (F0 m (if zw x = zw y then ztgt pc off else pc + 3) lsA (st.map (zcv b base))) := hq
    rw [if_neg h1] at hq
    exact hq
theorem zs_icmp_ne {off : Int} (X : zCx p s m args meth c E D cI b base L xs n0) (hw : zok E pc (.if_icmp .ne off, ra, rb, rt) = true) (hs : zstep zdef (.if_icmp .ne off, ra, rb, rt) (pc, ls, st, S, M) = some s2) (F : zFt D cI b base L xs s ls S M H locs lsA) (hc : cells + n0 = S.length) (hz : slots + z0 = zsl S) (kk : zKK p l e R s m args below meth c Q D cI b base L xs n0 z0 s2) : W p l e R s m args below meth c H locs cells slots Q (F0 m pc lsA (st.map (zcv b base))) := by
  obtain ⟨hx, hb, hml, hown, hts, hname, hK, hX, hbb, hsz, hn0, hN⟩ := X
  obtain ⟨hl, hP, hS, hS0, hM0⟩ := F
  have hw := hw
  obtain ⟨hd, hw⟩ := (Bool.and_eq_true _ _).mp hw
  have hd : decode E.2.1 pc = .ok (.if_icmp .ne off, 3) := of_decide_eq_true hd
  rcases st with _ | ⟨y | y, _ | ⟨x | x, st⟩⟩
  · cases hs
  · cases hs
  rotate_left
  · cases hs
  · cases hs
  · cases hs
  · cases hs
  have hs : some (if zw x ≠ zw y then ztgt pc off else pc + 3, ls, st, S, M) = some s2 := hs
  cases hs
  have hq := kk H locs lsA cells slots ⟨hl, hP, hS, hS0, hM0⟩ hc hz
  refine lv_icmp_ne hx hb hd (ztgt_ok (of_decide_eq_true hw)) (fun hh => ?_) (fun hh => ?_)
  · have h1 : zw x ≠ zw y := fun z => hh ((zof_eq x y).mpr z)
    have hq : W p l e R s m args below meth c H locs cells slots Q (F0 m (if zw x ≠ zw y then ztgt pc off else pc + 3) lsA (st.map (zcv b base))) := hq
    rw [if_pos h1] at hq
    exact hq
  · have h1 : ¬ (zw x ≠ zw y) := fun z => z ((zof_eq x y).mp hh)
    have hq : W p l e R s m args below meth c H locs cells slots Q (F0 m (if zw x ≠ zw y then ztgt pc off else pc + 3) lsA (st.map (zcv b base))) := hq
    rw [if_neg h1] at hq
    exact hq
theorem zs_icmp_lt {off : Int} (X : zCx p s m args meth c E D cI b base L xs n0) (hw : zok E pc (.if_icmp .lt off, ra, rb, rt) = true) (hs : zstep zdef (.if_icmp .lt off, ra, rb, rt) (pc, ls, st, S, M) = some s2) (F : zFt D cI b base L xs s ls S M H locs lsA) (hc : cells + n0 = S.length) (hz : slots + z0 = zsl S) (kk : zKK p l e R s m args below meth c Q D cI b base L xs n0 z0 s2) : W p l e R s m args below meth c H locs cells slots Q (F0 m pc lsA (st.map (zcv b base))) := by
  obtain ⟨hx, hb, hml, hown, hts, hname, hK, hX, hbb, hsz, hn0, hN⟩ := X
  obtain ⟨hl, hP, hS, hS0, hM0⟩ := F
  have hw := hw
  obtain ⟨hd, hw⟩ := (Bool.and_eq_true _ _).mp hw
  have hd : decode E.2.1 pc = .ok (.if_icmp .lt off, 3) := of_decide_eq_true hd
  rcases st with _ | ⟨y | y, _ | ⟨x | x, st⟩⟩
  · cases hs
  · cases hs
  rotate_left
  · cases hs
  · cases hs
  · cases hs
  · cases hs
  have hs : some (if zw x < zw y then ztgt pc off else pc + 3, ls, st, S, M) = some s2 := hs
  cases hs
  have hq := kk H locs lsA cells slots ⟨hl, hP, hS, hS0, hM0⟩ hc hz
  refine lv_icmp_lt hx hb hd (ztgt_ok (of_decide_eq_true hw)) (fun hh => ?_) (fun hh => ?_)
  · have h1 : zw x < zw y := (zof_lt x y).mp hh
    have hq : W p l e R s m args below meth c H locs cells slots Q (F0 m (if zw x < zw y then ztgt pc off else pc + 3) lsA (st.map (zcv b base))) := hq
    rw [if_pos h1] at hq
    exact hq
  · have h1 : ¬ (zw x < zw y) := fun z => hh ((zof_lt x y).mpr z)
    have hq : W p l e R s m args below meth c H locs cells slots Q (F0 m (if zw x < zw y then ztgt pc off else pc + 3) lsA (st.map (zcv b base))) := hq
    rw [if_neg h1] at hq
    exact hq
theorem zs_icmp_ge {off : Int} (X : zCx p s m args meth c E D cI b base L xs n0) (hw : zok E pc (.if_icmp .ge off, ra, rb, rt) = true) (hs : zstep zdef (.if_icmp .ge off, ra, rb, rt) (pc, ls, st, S, M) = some s2) (F : zFt D cI b base L xs s ls S M H locs lsA) (hc : cells + n0 = S.length) (hz : slots + z0 = zsl S) (kk : zKK p l e R s m args below meth c Q D cI b base L xs n0 z0 s2) : W p l e R s m args below meth c H locs cells slots Q (F0 m pc lsA (st.map (zcv b base))) := by
  obtain ⟨hx, hb, hml, hown, hts, hname, hK, hX, hbb, hsz, hn0, hN⟩ := X
  obtain ⟨hl, hP, hS, hS0, hM0⟩ := F
  have hw := hw
  obtain ⟨hd, hw⟩ := (Bool.and_eq_true _ _).mp hw
  have hd : decode E.2.1 pc = .ok (.if_icmp .ge off, 3) := of_decide_eq_true hd
  rcases st with _ | ⟨y | y, _ | ⟨x | x, st⟩⟩
  · cases hs
  · cases hs
  rotate_left
  · cases hs
  · cases hs
  · cases hs
  · cases hs
  have hs : some (if zw x ≥ zw y then ztgt pc off else pc + 3, ls, st, S, M) = some s2 := hs
  cases hs
  have hq := kk H locs lsA cells slots ⟨hl, hP, hS, hS0, hM0⟩ hc hz
  refine lv_icmp_ge hx hb hd (ztgt_ok (of_decide_eq_true hw)) (fun hh => ?_) (fun hh => ?_)
  · have h1 : zw x ≥ zw y := (zof_le y x).mp hh
    have hq : W p l e R s m args below meth c H locs cells slots Q (F0 m (if zw x ≥ zw y then ztgt pc off else pc + 3) lsA (st.map (zcv b base))) := hq
    rw [if_pos h1] at hq
    exact hq
  · have h1 : ¬ (zw x ≥ zw y) := fun z => hh ((zof_le y x).mpr z)
    have hq : W p l e R s m args below meth c H locs cells slots Q (F0 m (if zw x ≥ zw y then ztgt pc off else pc + 3) lsA (st.map (zcv b base))) := hq
    rw [if_neg h1] at hq
    exact hq
theorem zs_icmp_gt {off : Int} (X : zCx p s m args meth c E D cI b base L xs n0) (hw : zok E pc (.if_icmp .gt off, ra, rb, rt) = true) (hs : zstep zdef (.if_icmp .gt off, ra, rb, rt) (pc, ls, st, S, M) = some s2) (F : zFt D cI b base L xs s ls S M H locs lsA) (hc : cells + n0 = S.length) (hz : slots + z0 = zsl S) (kk : zKK p l e R s m args below meth c Q D cI b base L xs n0 z0 s2) : W p l e R s m args below meth c H locs cells slots Q (F0 m pc lsA (st.map (zcv b base))) := by
  obtain ⟨hx, hb, hml, hown, hts, hname, hK, hX, hbb, hsz, hn0, hN⟩ := X
  obtain ⟨hl, hP, hS, hS0, hM0⟩ := F
  have hw := hw
  obtain ⟨hd, hw⟩ := (Bool.and_eq_true _ _).mp hw
  have hd : decode E.2.1 pc = .ok (.if_icmp .gt off, 3) := of_decide_eq_true hd
  rcases st with _ | ⟨y | y, _ | ⟨x | x, st⟩⟩
  · cases hs
  · cases hs
  rotate_left
  · cases hs
  · cases hs
  · cases hs
  · cases hs
  have hs : some (if zw x > zw y then ztgt pc off else pc + 3, ls, st, S, M) = some s2 := hs
  cases hs
  have hq := kk H locs lsA cells slots ⟨hl, hP, hS, hS0, hM0⟩ hc hz
  refine lv_icmp_gt hx hb hd (ztgt_ok (of_decide_eq_true hw)) (fun hh => ?_) (fun hh => ?_)
  · have h1 : zw x > zw y := (zof_lt y x).mp hh
    have hq : W p l e R s m args below meth c H locs cells slots Q (F0 m (if zw x > zw y then ztgt pc off else pc + 3) lsA (st.map (zcv b base))) := hq
    rw [if_pos h1] at hq
    exact hq
  · have h1 : ¬ (zw x > zw y) := fun z => hh ((zof_lt y x).mpr z)
    have hq : W p l e R s m args below meth c H locs cells slots Q (F0 m (if zw x > zw y then ztgt pc off else pc + 3) lsA (st.map (zcv b base))) := hq
    rw [if_neg h1] at hq
    exact hq
theorem zs_icmp_le {off : Int} (X : zCx p s m args meth c E D cI b base L xs n0) (hw : zok E pc (.if_icmp .le off, ra, rb, rt) = true) (hs : zstep zdef (.if_icmp .le off, ra, rb, rt) (pc, ls, st, S, M) = some s2) (F : zFt D cI b base L xs s ls S M H locs lsA) (hc : cells + n0 = S.length) (hz : slots + z0 = zsl S) (kk : zKK p l e R s m args below meth c Q D cI b base L xs n0 z0 s2) : W p l e R s m args below meth c H locs cells slots Q (F0 m pc lsA (st.map (zcv b base))) := by
  obtain ⟨hx, hb, hml, hown, hts, hname, hK, hX, hbb, hsz, hn0, hN⟩ := X
  obtain ⟨hl, hP, hS, hS0, hM0⟩ := F
  have hw := hw
  obtain ⟨hd, hw⟩ := (Bool.and_eq_true _ _).mp hw
  have hd : decode E.2.1 pc = .ok (.if_icmp .le off, 3) := of_decide_eq_true hd
  rcases st with _ | ⟨y | y, _ | ⟨x | x, st⟩⟩
  · cases hs
  · cases hs
  rotate_left
  · cases hs
  · cases hs
  · cases hs
  · cases hs
  have hs : some (if zw x ≤ zw y then ztgt pc off else pc + 3, ls, st, S, M) = some s2 := hs
  cases hs
  have hq := kk H locs lsA cells slots ⟨hl, hP, hS, hS0, hM0⟩ hc hz
  refine lv_icmp_le hx hb hd (ztgt_ok (of_decide_eq_true hw)) (fun hh => ?_) (fun hh => ?_)
  · have h1 : zw x ≤ zw y := (zof_le x y).mp hh
    have hq : W p l e R s m args below meth c H locs cells slots Q (F0 m (if zw x ≤ zw y then ztgt pc off else pc + 3) lsA (st.map (zcv b base))) := hq
    rw [if_pos h1] at hq
    exact hq
  · have h1 : ¬ (zw x ≤ zw y) := fun z => hh ((zof_le x y).mpr z)
    have hq : W p l e R s m args below meth c H locs cells slots Q (F0 m (if zw x ≤ zw y then ztgt pc off else pc + 3) lsA (st.map (zcv b base))) := hq
    rw [if_neg h1] at hq
    exact hq
end ZT
end
section
/-! ONE STEP, of the instructions that touch the heap, and of switches -/
section ZU
variable {p : Program} {l : Launch} {e : Env} {R : Room} {s : State} {m : MethodId} {args : Array Value} {below : List Frame} {meth : Method} {c : Code} {Q : State → Prop} {H : Heap} {locs : List Loc} {cells slots : Nat}
variable {E : zE} {D : va_G} {cI : ClassId} {b base L : Nat} {xs : Nat → Int32} {n0 z0 pc ra rb rt : Nat} {ls : List (Option zV)} {st : List zV} {S : List zC} {M : zM} {s2 : zS} {lsA : Array Slot}
theorem zs_tableswitch {dflt lo hi : Int} {offs : Array Int} (X : zCx p s m args meth c E D cI b base L xs n0) (hw : zok E pc (.tableswitch dflt lo hi offs, ra, rb, rt) = true) (hs : zstep zdef (.tableswitch dflt lo hi offs, ra, rb, rt) (pc, ls, st, S, M) = some s2) (F : zFt D cI b base L xs s ls S M H locs lsA) (hc : cells + n0 = S.length) (hz : slots + z0 = zsl S) (kk : zKK p l e R s m args below meth c Q D cI b base L xs n0 z0 s2) : W p l e R s m args below meth c H locs cells slots Q (F0 m pc lsA (st.map (zcv b base))) := by
  obtain ⟨hx, hb, hml, hown, hts, hname, hK, hX, hbb, hsz, hn0, hN⟩ := X
  obtain ⟨hl, hP, hS, hS0, hM0⟩ := F
  have hw : (zdec E pc (.tableswitch dflt lo hi offs) (offs.size * 4 + 16 - pc % 4) && decide (0 ≤ (pc : Int) + dflt) && offs.toList.all (fun off => decide (0 ≤ (pc : Int) + off))) = true := hw
  simp only [Bool.and_eq_true] at hw
  obtain ⟨⟨hd, h0⟩, h1⟩ := hw
  have hd : decode E.2.1 pc = .ok (.tableswitch dflt lo hi offs, offs.size * 4 + 16 - pc % 4) := of_decide_eq_true hd
  rcases st with _ | ⟨x | x, st⟩
  · cases hs
  rotate_left
  · cases hs
  have hs : (if zw x < lo ∨ hi < zw x then some (ztgt pc dflt, ls, st, S, M) else match offs.toList[(zw x - lo).toNat]? with
    | some off => some (ztgt pc off, ls, st, S, M)
    | none => none) = some s2 := hs
  by_cases hh : zw x < lo ∨ hi < zw x
  · rw [if_pos hh] at hs
    cases hs
    exact lv_tableOut hx hb hd hh (ztgt_ok (of_decide_eq_true h0)) (kk H locs lsA cells slots ⟨hl, hP, hS, hS0, hM0⟩ hc hz)
  · rw [if_neg hh] at hs
    cases hq : offs.toList[(zw x - lo).toNat]? with
    | none => rw [hq] at hs; cases hs
    | some off =>
      rw [hq] at hs
      cases hs
      have h2 := of_decide_eq_true (List.all_eq_true.mp h1 off (List.mem_of_getElem? hq))
      exact lv_tableIn hx hb hd (fun z => hh (Or.inl z)) (fun z => hh (Or.inr z)) (by rw [← Array.getElem?_toList]; exact hq) (ztgt_ok h2) (kk H locs lsA cells slots ⟨hl, hP, hS, hS0, hM0⟩ hc hz)
theorem zlook {P : Int → Prop} {d x : Int} (h0 : P d) : ∀ (ps : List (Int × Int)), (∀ q ∈ ps, P q.2) → P (Op.lookupswitch.offset ps d x)
  | [], _ => h0
  | (a, o) :: r, h => by
    rw [Op.lookupswitch.offset_cons]
    split
    · exact h (a, o) List.mem_cons_self
    · exact zlook h0 r (fun q hq => h q (List.mem_cons_of_mem _ hq))
theorem zs_lookupswitch {dflt : Int} {ps : Array (Int × Int)} (X : zCx p s m args meth c E D cI b base L xs n0) (hw : zok E pc (.lookupswitch dflt ps, ra, rb, rt) = true) (hs : zstep zdef (.lookupswitch dflt ps, ra, rb, rt) (pc, ls, st, S, M) = some s2) (F : zFt D cI b base L xs s ls S M H locs lsA) (hc : cells + n0 = S.length) (hz : slots + z0 = zsl S) (kk : zKK p l e R s m args below meth c Q D cI b base L xs n0 z0 s2) : W p l e R s m args below meth c H locs cells slots Q (F0 m pc lsA (st.map (zcv b base))) := by
  obtain ⟨hx, hb, hml, hown, hts, hname, hK, hX, hbb, hsz, hn0, hN⟩ := X
  obtain ⟨hl, hP, hS, hS0, hM0⟩ := F
  have hw : (zdec E pc (.lookupswitch dflt ps) (ps.size * 8 + 12 - pc % 4) && (ps.toList.zip (ps.toList.drop 1)).all (fun (a, next) => a.1 < next.1) && decide (0 ≤ (pc : Int) + dflt) && ps.toList.all (fun q => decide (0 ≤ (pc : Int) + q.2))) = true := hw
  rw [Bool.and_eq_true, Bool.and_eq_true, Bool.and_eq_true] at hw
  obtain ⟨⟨⟨hd, h3⟩, h0⟩, h1⟩ := hw
  have hd : decode E.2.1 pc = .ok (.lookupswitch dflt ps, ps.size * 8 + 12 - pc % 4) := of_decide_eq_true hd
  rcases st with _ | ⟨x | x, st⟩
  · cases hs
  rotate_left
  · cases hs
  cases hs
  have h2 : 0 ≤ (pc : Int) + Op.lookupswitch.offset ps.toList dflt (zw x) := zlook (P := fun o => 0 ≤ (pc : Int) + o) (of_decide_eq_true h0) ps.toList (fun q hq => of_decide_eq_true (List.all_eq_true.mp h1 q hq))
  exact lv_lookup hx hb hd h3 rfl (ztgt_ok h2) (kk H locs lsA cells slots ⟨hl, hP, hS, hS0, hM0⟩ hc hz)
theorem zs_getfield {idx : Nat} (X : zCx p s m args meth c E D cI b base L xs n0) (hw : zok E pc (.getfield idx, ra, rb, rt) = true) (hs : zstep zdef (.getfield idx, ra, rb, rt) (pc, ls, st, S, M) = some s2) (F : zFt D cI b base L xs s ls S M H locs lsA) (hc : cells + n0 = S.length) (hz : slots + z0 = zsl S) (kk : zKK p l e R s m args below meth c Q D cI b base L xs n0 z0 s2) : W p l e R s m args below meth c H locs cells slots Q (F0 m pc lsA (st.map (zcv b base))) := by
  obtain ⟨hx, hb, hml, hown, hts, hname, hK, hX, hbb, hsz, hn0, hN⟩ := X
  obtain ⟨hl, hP, hS, hS0, hM0⟩ := F
  obtain ⟨hd, hw⟩ := (Bool.and_eq_true _ _).mp hw
  have hd : decode E.2.1 pc = .ok (.getfield idx, 3) := of_decide_eq_true hd
  unfold zfok at hw
  cases hq : vwCl[ra]? with
  | none => rw [hq] at hw; cases hw
  | some q =>
    rw [hq] at hw
    obtain ⟨hrb, hlk⟩ := (Bool.and_eq_true _ _).mp hw
    have hrb : rb < q.2.2 := of_decide_eq_true hrb
    rcases st with _ | ⟨x | _ | j, st⟩
    · cases hs
    · cases hs
    · cases hs
    rcases j with _ | j
    · simp [zstep] at hs
    cases hS1 : S[j + 1]? with
    | none => simp [zstep, hS1] at hs
    | some cc =>
      rcases cc with n | ⟨ci, fs⟩
      · simp [zstep, hS1] at hs
      by_cases hci : ci = ra
      · subst hci
        have he := zws_get (cI := cI) (b := b) (base := base) (M := M) hS1
        cases hf : fs[rb]? with
        | none => simp [zstep, hS1, hf] at hs
        | some t =>
          have hv : (fs.mapIdx (fun k t => zfv b base (M (j + 1) k) t))[rb]? = some (zfv b base (M (j + 1) rb) t) := by rw [List.getElem?_mapIdx, hf]; rfl
          rcases t with _ | r
          · simp [zstep, hS1, hf] at hs
            subst hs
            exact va_get (D := D) (ci := ci) (C := q.1) (T := q.2.1) (N := q.2.2) hx hb hts (zu_all ci q hq) hown hK hP j he hq rb hrb (hts _ (zin_spec hlk)) (fun _ h9 => h9) hv hd (kk H locs lsA cells slots ⟨hl, hP, hS, hS0, hM0⟩ hc hz)
          · simp [zstep, hS1, hf] at hs
            subst hs
            exact va_get (D := D) (ci := ci) (C := q.1) (T := q.2.1) (N := q.2.2) hx hb hts (zu_all ci q hq) hown hK hP j he hq rb hrb (hts _ (zin_spec hlk)) (fun _ h9 => h9) hv hd (kk H locs lsA cells slots ⟨hl, hP, hS, hS0, hM0⟩ hc hz)
      · simp [zstep, hS1, hci] at hs
theorem zM0_up {M : zM} {j k : Nat} {x : Int} (h : ∀ k, k < L → Int32.ofInt (M 0 k) = xs k) : ∀ q, q < L → Int32.ofInt (zup M (j + 1) k x 0 q) = xs q := by
  intro q hq
  rw [zup_ne (by omega)]
  exact h q hq
theorem zs_putfield {idx : Nat} (X : zCx p s m args meth c E D cI b base L xs n0) (hw : zok E pc (.putfield idx, ra, rb, rt) = true) (hs : zstep zdef (.putfield idx, ra, rb, rt) (pc, ls, st, S, M) = some s2) (F : zFt D cI b base L xs s ls S M H locs lsA) (hc : cells + n0 = S.length) (hz : slots + z0 = zsl S) (kk : zKK p l e R s m args below meth c Q D cI b base L xs n0 z0 s2) : W p l e R s m args below meth c H locs cells slots Q (F0 m pc lsA (st.map (zcv b base))) := by
  obtain ⟨hx, hb, hml, hown, hts, hname, hK, hX, hbb, hsz, hn0, hN⟩ := X
  obtain ⟨hl, hP, hS, hS0, hM0⟩ := F
  obtain ⟨hw1, hpk⟩ := (Bool.and_eq_true _ _).mp hw
  obtain ⟨hd, hw⟩ := (Bool.and_eq_true _ _).mp hw1
  have hd : decode E.2.1 pc = .ok (.putfield idx, 3) := of_decide_eq_true hd
  have hD := zws_D cI b base S M
  unfold zfok at hw
  unfold zpok at hpk
  cases hq : vwCl[ra]? with
  | none => rw [hq] at hw; cases hw
  | some q =>
    rw [hq] at hw hpk
    obtain ⟨hrb, hlk⟩ := (Bool.and_eq_true _ _).mp hw
    have hrb : rb < q.2.2 := of_decide_eq_true hrb
    rcases st with _ | ⟨x | r, _ | ⟨y | _ | j, st⟩⟩
    · cases hs
    · cases hs
    · cases hs
    · cases hs
    · rcases j with _ | j
      · simp [zstep] at hs
      cases hS1 : S[j + 1]? with
      | none => simp [zstep, hS1] at hs
      | some cc =>
        rcases cc with n | ⟨ci, fs⟩
        · simp [zstep, hS1] at hs
        by_cases hci : ci = ra ∧ rt < 2 ∧ (rt = 1 → x = 0 ∨ x = 1)
        · cases hf : fs[rb]? with
          | none => simp [zstep, hS1, hf] at hs
          | some t =>
            rcases t with _ | t
            · simp only [zstep, hS1, hf, if_pos hci, Option.some.injEq] at hs
              subst hs
              obtain ⟨rfl, hrt, hx1⟩ := hci
              have he := zws_get (cI := cI) (b := b) (base := base) (M := M) hS1
              have hlen : rb < (fs.mapIdx (fun k t => zfv b base (M (j + 1) k) t)).length := by rw [List.length_mapIdx]; exact zmem_lt hf
              have fin : ∀ (H1 : Heap) (locs1 : List Loc), va_P D vwCl ((zws cI b base S M).set j (base + j, .inr (ci, (fs.mapIdx (fun k t => zfv b base (M (j + 1) k) t)).set rb (.int (Int32.ofInt x))))) H1 → va_D (fun q => base ≤ q) ((zws cI b base S M).set j (base + j, .inr (ci, (fs.mapIdx (fun k t => zfv b base (M (j + 1) k) t)).set rb (.int (Int32.ofInt x))))) → va_S (fun q => base ≤ q) s.heap H1 locs1 → W p l e R s m args below meth c H1 locs1 cells slots Q (F0 m (pc + 3) lsA (st.map (zcv b base))) := by
                intro H1 locs1 h1 _ h3
                rw [← zws_upf x hS1 hf] at h1
                exact kk H1 locs1 lsA cells slots ⟨hl, h1, h3, hS0, zM0_up (M := M) (j := j) (k := rb) (x := x) hM0⟩ hc hz
              rcases rt with _ | rt
              · obtain ⟨hf1, hf2⟩ := (Bool.and_eq_true _ _).mp hpk
                exact va_put (D := D) (ci := ci) (v := .int (Int32.ofInt x)) (ty := .int) (C := q.1) (T := q.2.1) (N := q.2.2) hx hb hts (zu_all ci q hq) (ztyp ci) (zty_all ci q hq) (znm_all ci q hq) hown hK hP hD hS j he hq rb hrb (hts _ (zin_spec hlk)) (fun _ h9 => h9) (by simpa using hf1) (of_decide_eq_true hf2) rfl rfl hlen hd fin
              · rcases rt with _ | rt
                · obtain ⟨hf1, hf2⟩ := (Bool.and_eq_true _ _).mp hpk
                  have h01 : narrow .boolean (.int (Int32.ofInt x)) = .int (Int32.ofInt x) ∧ fits .boolean (.int (Int32.ofInt x)) = true := by
                    rcases hx1 rfl with rfl | rfl
                    · decide
                    · decide
                  exact va_put (D := D) (ci := ci) (v := .int (Int32.ofInt x)) (ty := .boolean) (C := q.1) (T := q.2.1) (N := q.2.2) hx hb hts (zu_all ci q hq) (ztyp ci) (zty_all ci q hq) (znm_all ci q hq) hown hK hP hD hS j he hq rb hrb (hts _ (zin_spec hlk)) (fun _ h9 => h9) (by simpa using hf1) (of_decide_eq_true hf2) h01.1 h01.2 hlen hd fin
                · omega
            · simp [zstep, hS1, hf] at hs
        · simp only [zstep, hS1, if_neg hci] at hs
          cases hs
    · rcases r with _ | r <;> cases hs
    · rcases r with _ | r <;> cases hs
    · rcases r with _ | r <;> cases hs
    · rcases j with _ | j
      · rcases r with _ | r <;> simp [zstep] at hs
      cases hS1 : S[j + 1]? with
      | none => rcases r with _ | r <;> simp [zstep, hS1] at hs
      | some cc =>
        rcases cc with n | ⟨ci, fs⟩
        · rcases r with _ | r <;> simp [zstep, hS1] at hs
        by_cases hci : ci = ra ∧ rt = 2
        · cases hf : fs[rb]? with
          | none => rcases r with _ | r <;> simp [zstep, hS1, hf] at hs
          | some t =>
            rcases t with _ | t
            · rcases r with _ | r <;> simp [zstep, hS1, hf] at hs
            · have hs : some (pc + 3, ls, st, S.set (j + 1) (.inr (ci, fs.set rb (some r))), M) = some s2 := by
                simpa only [zstep, hS1, hf, if_pos hci] using hs
              cases hs
              obtain ⟨rfl, rfl⟩ := hci
              have he := zws_get (cI := cI) (b := b) (base := base) (M := M) hS1
              have hlen : rb < (fs.mapIdx (fun k t => zfv b base (M (j + 1) k) t)).length := by rw [List.length_mapIdx]; exact zmem_lt hf
              have hpk : ((q.2.1 rb).2.2.2 && decide (E.1.name = "<init>") && decide ((q.2.1 rb).1 = E.1.cls) && zrefty (parseFieldDescriptor (q.2.1 rb).2.2.1)) = true := hpk
              simp only [Bool.and_eq_true, decide_eq_true_eq] at hpk
              obtain ⟨⟨⟨hf1, hf2⟩, hf3⟩, hf4⟩ := hpk
              have hty : ∃ ty, parseFieldDescriptor (q.2.1 rb).2.2.1 = some ty ∧ narrow ty (zcv b base (.inr r)) = zcv b base (.inr r) ∧ fits ty (zcv b base (.inr r)) = true := by
                unfold zrefty at hf4
                cases hp : parseFieldDescriptor (q.2.1 rb).2.2.1 with
                | none => rw [hp] at hf4; cases hf4
                | some ty =>
                  rw [hp] at hf4
                  cases ty with
                  | object n => exact ⟨_, rfl, by rcases r with _ | r <;> rfl, by rcases r with _ | r <;> rfl⟩
                  | array n => exact ⟨_, rfl, by rcases r with _ | r <;> rfl, by rcases r with _ | r <;> rfl⟩
                  | _ => cases hf4
              obtain ⟨ty, ht1, ht2, ht3⟩ := hty
              refine va_putF (D := D) (ci := ci) (v := zcv b base (.inr r)) (ty := ty) (C := q.1) (T := q.2.1) (N := q.2.2) hx hb hts (zu_all ci q hq) (ztyp ci) (zty_all ci q hq) (znm_all ci q hq) hown hK hP hD hS j he hq rb hrb (hts _ (zin_spec hlk)) (fun _ h9 => h9) hf1 (hname hf2) hf3 ht1 ht2 ht3 hlen hd (fun H1 locs1 h1 h2 h3 => ?_)
              rw [← zws_upr r hS1 (zmem_lt hf)] at h1
              have hz2 : zsl (S.set (j + 1) (.inr (ci, fs.set rb (some r)))) = zsl S := by
                unfold zsl
                rw [List.map_set]
                congr 1
                refine List.ext_getElem? fun i => ?_
                rw [List.getElem?_set]
                by_cases hi : j + 1 = i
                · subst hi
                  rw [if_pos rfl, List.length_map, if_pos (zmem_lt hS1), List.getElem?_map, hS1]
                  show some _ = some _
                  simp [zsz]
                · rw [if_neg hi]
              refine kk H1 locs1 lsA cells slots ⟨hl, h1, h3, ?_, hM0⟩ (by rw [List.length_set]; exact hc) (by rw [hz2]; exact hz)
              rcases S with _ | ⟨s0, S⟩
              · cases hS0
              · exact hS0
        · have hs : (none : Option zS) = some s2 := by
            rcases r with _ | r <;> simpa only [zstep, hS1, if_neg hci] using hs
          cases hs
end ZU
end
section
/-! ONE STEP: arrays, new cells, Object's constructor, arraycopy -/
section ZV
variable {p : Program} {l : Launch} {e : Env} {R : Room} {s : State} {m : MethodId} {args : Array Value} {below : List Frame} {meth : Method} {c : Code} {Q : State → Prop} {H : Heap} {locs : List Loc} {cells slots : Nat}
variable {E : zE} {D : va_G} {cI : ClassId} {b base L : Nat} {xs : Nat → Int32} {n0 z0 pc ra rb rt : Nat} {ls : List (Option zV)} {st : List zV} {S : List zC} {M : zM} {s2 : zS} {lsA : Array Slot}
theorem zS0_at {n : Nat} (h : S.head? = some (.inl L)) (h1 : S[0]? = some (.inl n)) : n = L := by
  rcases S with _ | ⟨s0, S⟩
  · cases h
  · cases h
    cases h1
    rfl
theorem zs_iaload (X : zCx p s m args meth c E D cI b base L xs n0) (hw : zok E pc (.iaload, ra, rb, rt) = true) (hs : zstep zdef (.iaload, ra, rb, rt) (pc, ls, st, S, M) = some s2) (F : zFt D cI b base L xs s ls S M H locs lsA) (hc : cells + n0 = S.length) (hz : slots + z0 = zsl S) (kk : zKK p l e R s m args below meth c Q D cI b base L xs n0 z0 s2) : W p l e R s m args below meth c H locs cells slots Q (F0 m pc lsA (st.map (zcv b base))) := by
  obtain ⟨hx, hb, hml, hown, hts, hname, hK, hX, hbb, hsz, hn0, hN⟩ := X
  obtain ⟨hl, hP, hS, hS0, hM0⟩ := F
  have hd : decode E.2.1 pc = .ok (.iaload, 1) := of_decide_eq_true hw
  rcases st with _ | ⟨i | i, _ | ⟨y | _ | j, st⟩⟩
  · cases hs
  · cases hs
  · cases hs
  · cases hs
  rotate_left
  · cases hs
  · cases hs
  · cases hs
  · cases hs
  cases hS1 : S[j]? with
  | none => simp [zstep, hS1] at hs
  | some cc =>
    rcases cc with n | ⟨ci, fs⟩
    · by_cases hi : 0 ≤ zw i ∧ zw i < n
      · simp only [zstep, hS1, if_pos hi, Option.some.injEq] at hs
        subst hs
        rcases j with _ | j
        · have hn := zS0_at hS0 hS1
          subst hn
          refine va_sld (A := fun q => base ≤ q) hx hb hX (by omega) (by omega) hS (zvp_in hi) hd ?_
          have hk : (Int32.ofInt i).toNatClampNeg < n := by
            show (zw i).toNat < n
            omega
          rw [← hM0 _ hk]
          exact kk H locs lsA cells slots ⟨hl, hP, hS, hS0, hM0⟩ hc hz
        · have he := zws_get (cI := cI) (b := b) (base := base) (M := M) hS1
          exact va_iald hx hb hK hP j 0 he rfl (zvp_in hi) hd (kk H locs lsA cells slots ⟨hl, hP, hS, hS0, hM0⟩ hc hz)
      · simp only [zstep, hS1, if_neg hi] at hs
        cases hs
    · simp [zstep, hS1] at hs
theorem zs_iastore (X : zCx p s m args meth c E D cI b base L xs n0) (hw : zok E pc (.iastore, ra, rb, rt) = true) (hs : zstep zdef (.iastore, ra, rb, rt) (pc, ls, st, S, M) = some s2) (F : zFt D cI b base L xs s ls S M H locs lsA) (hc : cells + n0 = S.length) (hz : slots + z0 = zsl S) (kk : zKK p l e R s m args below meth c Q D cI b base L xs n0 z0 s2) : W p l e R s m args below meth c H locs cells slots Q (F0 m pc lsA (st.map (zcv b base))) := by
  obtain ⟨hx, hb, hml, hown, hts, hname, hK, hX, hbb, hsz, hn0, hN⟩ := X
  obtain ⟨hl, hP, hS, hS0, hM0⟩ := F
  have hd : decode E.2.1 pc = .ok (.iastore, 1) := of_decide_eq_true hw
  have hD := zws_D cI b base S M
  rcases st with _ | ⟨x | x, st⟩
  · cases hs
  rotate_left
  · cases hs
  rcases st with _ | ⟨i | i, _ | ⟨y | _ | j, st⟩⟩
  · cases hs
  · cases hs
  · cases hs
  · cases hs
  rotate_left
  · cases hs
  · cases hs
  · cases hs
  · cases hs
  rcases j with _ | j
  · simp [zstep] at hs
  cases hS1 : S[j + 1]? with
  | none => simp [zstep, hS1] at hs
  | some cc =>
    rcases cc with n | ⟨ci, fs⟩
    · by_cases hi : 0 ≤ zw i ∧ zw i < n
      · simp only [zstep, hS1, if_pos hi, Option.some.injEq] at hs
        subst hs
        have he := zws_get (cI := cI) (b := b) (base := base) (M := M) hS1
        refine va_iast hx hb hK hP hD hS j 0 he rfl (zvp_in hi) hd (fun H1 locs1 h1 h2 h3 => ?_)
        have e := zws_up (cI := cI) (b := b) (base := base) (M := M) (k := (zw i).toNat) x hS1
        have h1 : va_P D vwCl (zws cI b base S (zup M (j + 1) (zw i).toNat x)) H1 := by rw [e]; exact h1
        exact kk H1 locs1 lsA cells slots ⟨hl, h1, h3, hS0, zM0_up (M := M) (j := j) (k := (zw i).toNat) (x := x) hM0⟩ hc hz
      · simp only [zstep, hS1, if_neg hi] at hs
        cases hs
    · simp [zstep, hS1] at hs
theorem zs_arraylength (X : zCx p s m args meth c E D cI b base L xs n0) (hw : zok E pc (.arraylength, ra, rb, rt) = true) (hs : zstep zdef (.arraylength, ra, rb, rt) (pc, ls, st, S, M) = some s2) (F : zFt D cI b base L xs s ls S M H locs lsA) (hc : cells + n0 = S.length) (hz : slots + z0 = zsl S) (kk : zKK p l e R s m args below meth c Q D cI b base L xs n0 z0 s2) : W p l e R s m args below meth c H locs cells slots Q (F0 m pc lsA (st.map (zcv b base))) := by
  obtain ⟨hx, hb, hml, hown, hts, hname, hK, hX, hbb, hsz, hn0, hN⟩ := X
  obtain ⟨hl, hP, hS, hS0, hM0⟩ := F
  have hd : decode E.2.1 pc = .ok (.arraylength, 1) := of_decide_eq_true hw
  rcases st with _ | ⟨y | _ | j, st⟩
  · cases hs
  · cases hs
  · cases hs
  cases hS1 : S[j]? with
  | none => simp [zstep, hS1] at hs
  | some cc =>
    rcases cc with n | ⟨ci, fs⟩
    · simp only [zstep, hS1, Option.some.injEq] at hs
      subst hs
      have hq := kk H locs lsA cells slots ⟨hl, hP, hS, hS0, hM0⟩ hc hz
      rcases j with _ | j
      · have hn := zS0_at hS0 hS1
        subst hn
        refine va_slen (b := b) (A := fun q => base ≤ q) hx hb hX (by omega) (by omega) hS hd ?_
        rw [← Int32.ofInt_eq_ofNat]
        exact hq
      · have he := zws_get (cI := cI) (b := b) (base := base) (M := M) hS1
        exact va_alen hx hb hK hP j 0 he rfl (Int32.ofInt_eq_ofNat).symm hd hq
    · simp [zstep, hS1] at hs
theorem zhead_app {c0 : zC} (h : S.head? = some (.inl L)) : (S ++ [c0]).head? = some (.inl L) := by
  rcases S with _ | ⟨s0, S⟩
  · cases h
  · exact h
theorem zlen_pos (h : S.head? = some (.inl L)) : 0 < S.length := by
  rcases S with _ | ⟨s0, S⟩
  · cases h
  · simp
theorem zsl_app (S : List zC) (c0 : zC) : zsl (S ++ [c0]) = zsl S + zsz c0 := by
  simp [zsl]
theorem zM0_new {M : zM} {n : Nat} (hn : 0 < n) (h : ∀ k, k < L → Int32.ofInt (M 0 k) = xs k) : ∀ q, q < L → Int32.ofInt (znew M n 0 q) = xs q := by
  intro q hq
  unfold znew
  rw [if_neg (by omega)]
  exact h q hq
theorem zsof_len (c : Nat) : (zsof zdef c).length = (zdef c).length := by simp [zsof]
theorem zs_new {idx : Nat} (X : zCx p s m args meth c E D cI b base L xs n0) (hw : zok E pc (.new idx, ra, rb, rt) = true) (hs : zstep zdef (.new idx, ra, rb, rt) (pc, ls, st, S, M) = some s2) (F : zFt D cI b base L xs s ls S M H locs lsA) (hc : cells + n0 = S.length) (hz : slots + z0 = zsl S) (hRc : s2.2.2.2.1.length ≤ R.cells + n0) (hRz : zsl s2.2.2.2.1 ≤ R.slots + z0) (kk : zKK p l e R s m args below meth c Q D cI b base L xs n0 z0 s2) : W p l e R s m args below meth c H locs cells slots Q (F0 m pc lsA (st.map (zcv b base))) := by
  obtain ⟨hx, hb, hml, hown, hts, hname, hK, hX, hbb, hsz, hn0, hN⟩ := X
  obtain ⟨hl, hP, hS, hS0, hM0⟩ := F
  obtain ⟨hd, hw⟩ := (Bool.and_eq_true _ _).mp hw
  have hd : decode E.2.1 pc = .ok (.new idx, 3) := of_decide_eq_true hd
  cases hs
  have hpos := zlen_pos hS0
  refine zW_size (fun h1 h2 => ?_)
  have hH := zsize hP hsz hn0 hc h1 h2
  cases hq : vwCl[ra]? with
  | none => rw [hq] at hw; cases hw
  | some q =>
    rw [hq] at hw
    have hcl := hts _ (zin_spec hw)
    obtain ⟨hdl, hdv⟩ := zdefault ra q hq zdf_ok
    have hza : ra < zci.length := by
      have h3 := zmem_lt hq
      exact h3
    have hzi := List.all_eq_true.mp zci_ok (q, zci[ra]) (List.mem_of_getElem? (i := ra) (by rw [List.getElem?_zip_eq_some]; exact ⟨hq, List.getElem?_eq_getElem hza⟩))
    obtain ⟨hi1, hi2⟩ := (Bool.and_eq_true _ _).mp hzi
    have hi1 : zin zci[ra].1 (.instantiable q.1 q.2.2) = true := hi1
    have hi2 : zin zci[ra].2 (.initialized q.1) = true := hi2
    have hKn := hK.1 ra q hq
    have hsl : zsz (.inr (ra, zsof zdef ra)) = q.2.2 := by
      show (zsof zdef ra).length = q.2.2
      rw [zsof_len, hdl]
    have hRc : (S ++ [(.inr (ra, zsof zdef ra) : zC)]).length ≤ R.cells + n0 := hRc
    have hRz : zsl (S ++ [(.inr (ra, zsof zdef ra) : zC)]) ≤ R.slots + z0 := hRz
    rw [List.length_append, List.length_singleton] at hRc
    rw [zsl_app, hsl] at hRz
    refine W.newcK (g := F0 m pc lsA (st.map (zcv b base))) hx hb hown hcl (hts _ (zin_spec hi1)) (hts _ (zin_spec hi2)) rfl hd (by omega) (by omega) hKn.2.1 rfl fun H1 kC hkC e1 z1 o1 => ?_
    have hk : ∀ (k : Nat) (x : Nat × va_E), (zws cI b base S M)[k]? = some x → H1[x.1]? = H[x.1]? := fun k x hx => o1 x.1 ((hP k x hx).lt)
    have hP1 : va_P D vwCl (zws cI b base S M ++ [(base + (S.length - 1), zcell cI b base (fun _ _ => 0) 0 (.inr (ra, zsof zdef ra)))]) H1 := by
      refine (hP.kept hk).app (fun k x hx => ?_)
      have hz : k < 1 := (List.getElem?_eq_some_iff.mp hx).1
      rw [show k = 0 by omega] at hx
      cases hx
      refine ⟨q, hq, ?_⟩
      show t_OB (base + (S.length - 1)) (D.1 ra) q.2.2 (D.2 ra) H1 _
      rw [show base + (S.length - 1) = H.size by omega]
      refine (u_born (ztyp ra) hts (zu_all ra q hq) hKn hkC e1 (zty_all ra q hq)).to (fun j hj => ?_)
      rw [hdv j hj]
      show _ = (List.mapIdx (fun k t => zfv b base 0 t) (zsof zdef ra)).getD j Value.null
      rw [List.getD_eq_getElem?_getD, List.getD_eq_getElem?_getD, List.getElem?_mapIdx]
      unfold zsof
      rw [List.getElem?_map]
      try rw [List.getD_eq_getElem?_getD]
      have hj2 : j < (zdef ra).length := by omega
      rw [List.getElem?_eq_getElem hj2]
      cases (zdef ra)[j] <;> rfl
    rw [← zws_new (.inr (ra, zsof zdef ra)) hpos] at hP1
    have hS2 : va_S (fun q => base ≤ q) s.heap H1 locs := ⟨Nat.le_trans hS.1 (by omega), fun x h1 h2 => (o1 x (Nat.lt_of_lt_of_le h1 hS.1)).trans (hS.2.1 x h1 h2), hS.2.2⟩
    have hq2 := kk H1 locs lsA (cells + 1) (slots + q.2.2) ⟨hl, hP1, hS2, zhead_app hS0, zM0_new hpos hM0⟩ (by show cells + 1 + n0 = (S ++ [_]).length; rw [List.length_append, List.length_singleton]; omega) (by show slots + q.2.2 + z0 = zsl (S ++ [_]); rw [zsl_app, hsl]; omega)
    have ea : zcv b base (.inr (some S.length)) = .ref H.size := by
      show Value.ref (zad b base S.length) = _
      obtain ⟨n, hn⟩ : ∃ n, S.length = n + 1 := ⟨S.length - 1, by omega⟩
      rw [hn]
      show Value.ref (base + n) = _
      rw [show base + n = H.size by omega]
    have hq2 : W p l e R s m args below meth c H1 locs (cells + 1) (slots + q.2.2) Q (F0 m (pc + 3) lsA (zcv b base (.inr (some S.length)) :: st.map (zcv b base))) := hq2
    rw [ea] at hq2
    exact hq2
theorem zcl_eq (x : Int) : (Int32.ofInt x).toNatClampNeg = (zw x).toNat := rfl
theorem zarr_int : newarray.typeOf ArrayType.int = FieldType.int := rfl
theorem zcb_int : componentBytes FieldType.int = 4 := rfl
theorem zdv_int : defaultValue FieldType.int = Value.int 0 := rfl
theorem zs_newarray {t : ArrayType} (X : zCx p s m args meth c E D cI b base L xs n0) (hw : zok E pc (.newarray t, ra, rb, rt) = true) (hs : zstep zdef (.newarray t, ra, rb, rt) (pc, ls, st, S, M) = some s2) (F : zFt D cI b base L xs s ls S M H locs lsA) (hc : cells + n0 = S.length) (hz : slots + z0 = zsl S) (hRc : s2.2.2.2.1.length ≤ R.cells + n0) (hRz : zsl s2.2.2.2.1 ≤ R.slots + z0) (kk : zKK p l e R s m args below meth c Q D cI b base L xs n0 z0 s2) : W p l e R s m args below meth c H locs cells slots Q (F0 m pc lsA (st.map (zcv b base))) := by
  obtain ⟨hx, hb, hml, hown, hts, hname, hK, hX, hbb, hsz, hn0, hN⟩ := X
  obtain ⟨hl, hP, hS, hS0, hM0⟩ := F
  obtain ⟨hd, hw⟩ := (Bool.and_eq_true _ _).mp hw
  have hd : decode E.2.1 pc = .ok (.newarray t, 2) := of_decide_eq_true hd
  have ht : t = .int := of_decide_eq_true hw
  subst ht
  have hpos := zlen_pos hS0
  rcases st with _ | ⟨x | x, st⟩
  · cases hs
  rotate_left
  · cases hs
  have hs : (if 0 ≤ zw x ∧ zw x ≤ 65536 then some (pc + 2, ls, .inr (some S.length) :: st, S ++ [.inl (zw x).toNat], znew M S.length) else none) = some s2 := hs
  by_cases hxx : 0 ≤ zw x ∧ zw x ≤ 65536
  · rw [if_pos hxx] at hs
    cases hs
    refine zW_size (fun h1 h2 => ?_)
    have hH := zsize hP hsz hn0 hc h1 h2
    have hz0 := zx_ok
    simp only [Bool.and_eq_true] at hz0
    have hRc : (S ++ [(.inl (zw x).toNat : zC)]).length ≤ R.cells + n0 := hRc
    have hRz : zsl (S ++ [(.inl (zw x).toNat : zC)]) ≤ R.slots + z0 := hRz
    rw [List.length_append, List.length_singleton] at hRc
    rw [zsl_app] at hRz
    have harr : (Cond.arrayClass (newarray.typeOf ArrayType.int)).before args s = true := by rw [zarr_int]; exact hts _ (zin_spec hz0.1.1.1.1)
    have hby : (zw x).toNat * componentBytes (newarray.typeOf ArrayType.int) ≤ 536870912 := by rw [zarr_int, zcb_int]; omega
    have hng : ¬ Int32.ofInt x < 0 := fun z => by have := (zof_lt0 x).mp z; omega
    have hcl := zcl_eq x
    have hR1 : cells + 1 ≤ R.cells := by omega
    have hR2 : slots + (zw x).toNat ≤ R.slots := by
      have h3 : zsz (.inl (zw x).toNat) = (zw x).toNat := rfl
      rw [h3] at hRz
      omega
    show W p l e R s m args below meth c H locs cells slots Q (F0 m pc lsA (.int (Int32.ofInt x) :: st.map (zcv b base)))
    refine va_newaK (g := F0 m pc lsA (.int (Int32.ofInt x) :: st.map (zcv b base))) hx hb harr rfl hd rfl hng hcl hby hR1 hR2 rfl fun H1 cA e1 z1 o1 hAr hNm => ?_
    rw [zarr_int] at e1 hNm
    have hcA : cA = cI := by
      have h3 := (hK.2 0 _ rfl).2
      have h3 : s.vm.findClass ("[" ++ FieldType.int.toString) = some cI := h3
      exact Option.some.inj (hNm.symm.trans h3)
    subst hcA
    have hk : ∀ (k : Nat) (x : Nat × va_E), (zws cA b base S M)[k]? = some x → H1[x.1]? = H[x.1]? := fun k x hx => o1 x.1 ((hP k x hx).lt)
    have hP1 : va_P D vwCl (zws cA b base S M ++ [(base + (S.length - 1), zcell cA b base (fun _ _ => 0) 0 (.inl (zw x).toNat))]) H1 := by
      refine (hP.kept hk).app (fun k y hy => ?_)
      have hz : k < 1 := (List.getElem?_eq_some_iff.mp hy).1
      rw [show k = 0 by omega] at hy
      cases hy
      show H1[base + (S.length - 1)]? = some (vp_cell cA ((zw x).toNat, .inl (fun _ => Int32.ofInt 0)))
      rw [show base + (S.length - 1) = H.size by omega, e1, vp_cell_i, zdv_int]
      rfl
    rw [← zws_new (.inl (zw x).toNat) hpos] at hP1
    have hS2 : va_S (fun q => base ≤ q) s.heap H1 locs := ⟨Nat.le_trans hS.1 (by omega), fun x h1 h2 => (o1 x (Nat.lt_of_lt_of_le h1 hS.1)).trans (hS.2.1 x h1 h2), hS.2.2⟩
    have hq2 := kk H1 locs lsA (cells + 1) (slots + (zw x).toNat) ⟨hl, hP1, hS2, zhead_app hS0, zM0_new hpos hM0⟩ (by show cells + 1 + n0 = (S ++ [_]).length; rw [List.length_append, List.length_singleton]; omega) (by show slots + (zw x).toNat + z0 = zsl (S ++ [_]); rw [zsl_app]; show _ = zsl S + (zw x).toNat; omega)
    have ea : zcv b base (.inr (some S.length)) = .ref H.size := by
      show Value.ref (zad b base S.length) = _
      obtain ⟨n, hn⟩ : ∃ n, S.length = n + 1 := ⟨S.length - 1, by omega⟩
      rw [hn]
      show Value.ref (base + n) = _
      rw [show base + n = H.size by omega]
    have hq2 : W p l e R s m args below meth c H1 locs (cells + 1) (slots + (zw x).toNat) Q (F0 m (pc + 2) lsA (zcv b base (.inr (some S.length)) :: st.map (zcv b base))) := hq2
    rw [ea] at hq2
    exact hq2
  · rw [if_neg hxx] at hs
    cases hs
theorem zs_objInit {idx : Nat} (X : zCx p s m args meth c E D cI b base L xs n0) (hw : zok E pc (.invokespecial idx, ra, rb, 1) = true) (hs : zstep zdef (.invokespecial idx, ra, rb, 1) (pc, ls, st, S, M) = some s2) (F : zFt D cI b base L xs s ls S M H locs lsA) (hc : cells + n0 = S.length) (hz : slots + z0 = zsl S) (hll : ls.length = E.2.2.1) (hRf : 1 ≤ R.frames) (hRl : 80 ≤ R.locals) (kk : zKK p l e R s m args below meth c Q D cI b base L xs n0 z0 s2) : W p l e R s m args below meth c H locs cells slots Q (F0 m pc lsA (st.map (zcv b base))) := by
  obtain ⟨hx, hb, hml, hown, hts, hname, hK, hX, hbb, hsz, hn0, hN⟩ := X
  obtain ⟨hl, hP, hS, hS0, hM0⟩ := F
  obtain ⟨hd, hw⟩ := (Bool.and_eq_true _ _).mp hw
  have hd : decode E.2.1 pc = .ok (.invokespecial idx, 3) := of_decide_eq_true hd
  have hlk := hts _ (zin_spec hw)
  rcases st with _ | ⟨x | _ | j, st⟩
  · cases hs
  · cases hs
  · cases hs
  have hs : (if st.length ≤ 8 then some (pc + 3, ls, st, S, M) else none) = some s2 := hs
  by_cases h8 : st.length ≤ 8
  · rw [if_pos h8] at hs
    cases hs
    have hz0 := zx_ok
    simp only [Bool.and_eq_true] at hz0
    have hin := hts _ (zin_spec hz0.1.1.1.2)
    have hco : (Cond.code objectInit ⟨#[0xb1]⟩ 1 none) ∈ zT := List.mem_filter.mpr ⟨List.mem_of_getElem? zobj_ok, rfl⟩
    have hlen : lsA.size = c.maxLocals := by
      obtain ⟨lv, h1, -⟩ := hl
      rw [h1.1, hml, hll]
    refine W.objInit (g := F0 m pc lsA ((Sum.inr (some j) :: st).map (zcv b base))) hx hb hown hlk hin (hts _ hco) rfl hlen rfl hd hRf ?_ (kk H locs lsA cells slots ⟨hl, hP, hS, hS0, hM0⟩ hc hz)
    show 2 * 0 + _ + 12 ≤ _
    rw [zcat_sum]
    omega
  · rw [if_neg h8] at hs
    cases hs
theorem zs_copy {idx : Nat} (X : zCx p s m args meth c E D cI b base L xs n0) (hw : zok E pc (.invokestatic idx, ra, rb, 3) = true) (hs : zstep zdef (.invokestatic idx, ra, rb, 3) (pc, ls, st, S, M) = some s2) (F : zFt D cI b base L xs s ls S M H locs lsA) (hc : cells + n0 = S.length) (hz : slots + z0 = zsl S) (hll : ls.length = E.2.2.1) (hRf : 1 ≤ R.frames) (hRl : 80 ≤ R.locals) (kk : zKK p l e R s m args below meth c Q D cI b base L xs n0 z0 s2) : W p l e R s m args below meth c H locs cells slots Q (F0 m pc lsA (st.map (zcv b base))) := by
  obtain ⟨hx, hb, hml, hown, hts, hname, hK, hX, hbb, hsz, hn0, hN⟩ := X
  obtain ⟨hl, hP, hS, hS0, hM0⟩ := F
  obtain ⟨hd, hw⟩ := (Bool.and_eq_true _ _).mp hw
  have hd : decode E.2.1 pc = .ok (.invokestatic idx, 3) := of_decide_eq_true hd
  have hlk := hts _ (zin_spec hw)
  have hD := zws_D cI b base S M
  rcases st with _ | ⟨n | n, st⟩
  · cases hs
  rotate_left
  · cases hs
  rcases st with _ | ⟨dp | dp, st⟩
  · cases hs
  rotate_left
  · cases hs
  rcases st with _ | ⟨y | _ | j, st⟩
  · cases hs
  · cases hs
  · cases hs
  rcases st with _ | ⟨sp | sp, st⟩
  · cases hs
  rotate_left
  · cases hs
  rcases st with _ | ⟨y | _ | i, st⟩
  · cases hs
  · cases hs
  · cases hs
  rcases i with _ | i
  · simp [zstep] at hs
  rcases j with _ | j
  · simp [zstep] at hs
  cases hS1 : S[i + 1]? with
  | none => simp [zstep, hS1] at hs
  | some c1 =>
    rcases c1 with n0' | ⟨ci, fs⟩
    rotate_left
    · simp [zstep, hS1] at hs
    cases hS2 : S[j + 1]? with
    | none => simp [zstep, hS1, hS2] at hs
    | some c2 =>
      rcases c2 with n1 | ⟨ci, fs⟩
      rotate_left
      · simp [zstep, hS1, hS2] at hs
      by_cases hh : st.length ≤ 8 ∧ 0 ≤ zw sp ∧ 0 ≤ zw dp ∧ 0 ≤ zw n ∧ zw sp + zw n ≤ n0' ∧ zw dp + zw n ≤ n1
      · simp only [zstep, hS1, hS2, if_pos hh, Option.some.injEq] at hs
        subst hs
        obtain ⟨h8, h1, h2, h3, h4, h5⟩ := hh
        have hz0 := zx_ok
        simp only [Bool.and_eq_true] at hz0
        have he1 := zws_get (cI := cI) (b := b) (base := base) (M := M) hS1
        have he2 := zws_get (cI := cI) (b := b) (base := base) (M := M) hS2
        have hlen : c.maxLocals = lsA.size := by
          obtain ⟨lv, h1, -⟩ := hl
          rw [h1.1, hml, hll]
        refine va_copyi (ty := .int) hx hb hlen hown hlk (hts _ (zin_spec hz0.1.1.2)) (hts _ (zin_spec hz0.1.2)) (hts _ (zin_spec hz0.2)) hK hP hD hS i j 0 0 he1 he2 rfl rfl rfl (fun z => by have := (zof_lt0 sp).mp z; omega) (fun z => by have := (zof_lt0 dp).mp z; omega) (fun z => by have := (zof_lt0 n).mp z; omega) (by show (zw sp).toNat + (zw n).toNat ≤ n0'; omega) (by show (zw dp).toNat + (zw n).toNat ≤ n1; omega) (fun _ _ => rfl) hRf ?_ hd (fun H1 locs1 q1 q2 q3 => ?_)
        · rw [zcat_sum]
          have : nativeFrameWords "java/lang/System" "arraycopy" 5 = 7 := by decide
          omega
        · have e := zws_cp (cI := cI) (b := b) (base := base) (M := M) (i := i) (sp := (zw sp).toNat) (dp := (zw dp).toNat) (n := (zw n).toNat) hS2
          have q1 : va_P D vwCl (zws cI b base S (zcopy M (i + 1) (j + 1) (zw sp).toNat (zw dp).toNat (zw n).toNat)) H1 := by rw [e]; exact q1
          refine kk H1 locs1 lsA cells slots ⟨hl, q1, q3, hS0, fun k hk => ?_⟩ hc hz
          show Int32.ofInt (zcopy M (i + 1) (j + 1) (zw sp).toNat (zw dp).toNat (zw n).toNat 0 k) = xs k
          unfold zcopy
          rw [if_neg (fun z => by omega)]
          exact hM0 k hk
      · simp only [zstep, hS1, hS2, if_neg hh] at hs
        cases hs
end ZV
end
section
/-! CALLS; the contract of every method at once -/
/-- method k, called with 'as', nests at most d - 1 calls, answers r and leaves S', M' -/
def zCR : Nat → Nat → List zV → List zC → zM → Option zV → List zC → zM → Prop
  | 0, _, _, _, _, _, _, _ => False
  | d + 1, k, as, S, M, r, S', M' => ∃ (E : zE) (n : Nat), zmt[k]? = some E ∧ as.length ≤ E.2.2.1 ∧ zGo zdef (zCR d) E.2.2.2.2.2.2.2 n (0, zent E.2.2.1 as, [], S, M) r S' M'
theorem zsl_set {S : List zC} {i : Nat} {c0 c1 : zC} (h : S[i]? = some c0) (hz : zsz c1 = zsz c0) : zsl (S.set i c1) = zsl S := by
  unfold zsl
  rw [List.map_set]
  congr 1
  refine List.ext_getElem? fun j => ?_
  rw [List.getElem?_set]
  by_cases hj : i = j
  · subst hj
    rw [if_pos rfl, List.length_map, if_pos (zmem_lt h), List.getElem?_map, h]
    show some _ = some _
    rw [hz]
  · rw [if_neg hj]
set_option maxHeartbeats 4000000 in
theorem zstep_mono {w : zR} {pc : Nat} {ls : List (Option zV)} {st : List zV} {S : List zC} {M : zM} {s2 : zS} (h : zstep zdef w (pc, ls, st, S, M) = some s2) : s2.2.1.length = ls.length ∧ S.length ≤ s2.2.2.2.1.length ∧ zsl S ≤ zsl s2.2.2.2.1 := by
  obtain ⟨ins, ra, rb, rt⟩ := w
  cases ins
  case putfield =>
    simp only [zstep] at h
    split at h
    · split at h
      · split at h
        · split at h
          · cases h
            exact ⟨rfl, Nat.le_refl _, Nat.le_refl _⟩
          · cases h
        · cases h
      · cases h
    · split at h
      · rename_i hj
        split at h
        · split at h
          · cases h
            refine ⟨rfl, ?_, ?_⟩
            · show _ ≤ (List.set _ _ _).length
              rw [List.length_set]
              exact Nat.le_refl _
            · show _ ≤ zsl (List.set _ _ _)
              rw [zsl_set (by assumption) (by simp [zsz])]
              exact Nat.le_refl _
          · cases h
        · cases h
      · cases h
    · cases h
  case new =>
    cases h
    exact ⟨rfl, by simp, by show _ ≤ zsl (_ ++ [_]); rw [zsl_app]; omega⟩
  case newarray =>
    simp only [zstep] at h
    split at h
    · split at h
      · cases h
        exact ⟨rfl, by simp, by show _ ≤ zsl (_ ++ [_]); rw [zsl_app]; omega⟩
      · cases h
    · cases h
  all_goals simp only [zstep] at h
  all_goals repeat' split at h
  all_goals first
    | (cases h; done)
    | (cases h; exact ⟨rfl, Nat.le_refl _, Nat.le_refl _⟩)
    | (cases h; exact ⟨List.length_set .., Nat.le_refl _, Nat.le_refl _⟩)
theorem zgo_mono {C : Nat → List zV → List zC → zM → Option zV → List zC → zM → Prop} (hC : ∀ k as S M r S' M', C k as S M r S' M' → S.length ≤ S'.length ∧ zsl S ≤ zsl S') {cd : List (Option zR)} : ∀ (n : Nat) (s : zS) (r : Option zV) (S' : List zC) (M' : zM), zGo zdef C cd n s r S' M' → s.2.2.2.1.length ≤ S'.length ∧ zsl s.2.2.2.1 ≤ zsl S'
  | 0, _, _, _, _, h => h.elim
  | n + 1, (pc, ls, st, S, M), r, S', M', h => by
    obtain ⟨w, hcd, h | h | h⟩ := h
    · obtain ⟨-, s2, hs, hg⟩ := h
      have h1 := zgo_mono hC n s2 r S' M' hg
      have h2 := zstep_mono hs
      exact ⟨Nat.le_trans h2.2.1 h1.1, Nat.le_trans h2.2.2 h1.2⟩
    · obtain ⟨-, k, as, rest, v, S1, M1, -, h3, hg⟩ := h
      have h1 := zgo_mono hC n _ r S' M' hg
      have h2 := hC _ _ _ _ _ _ _ h3
      exact ⟨Nat.le_trans h2.1 h1.1, Nat.le_trans h2.2 h1.2⟩
    · obtain ⟨-, -, h1, -⟩ := h
      rw [h1]
      exact ⟨Nat.le_refl _, Nat.le_refl _⟩
theorem zcr_mono : ∀ (d k : Nat) (as : List zV) (S : List zC) (M : zM) (r : Option zV) (S' : List zC) (M' : zM), zCR d k as S M r S' M' → S.length ≤ S'.length ∧ zsl S ≤ zsl S'
  | 0, _, _, _, _, _, _, _, h => h.elim
  | d + 1, k, as, S, M, r, S', M', h => by
    obtain ⟨E, n, -, -, hg⟩ := h
    exact zgo_mono (zcr_mono d) n _ r S' M' hg
def zPc (D : va_G) (cI : ClassId) (b base L : Nat) (xs : Nat → Int32) (as : List zV) (S : List zC) (M : zM) : Array Value → State → Prop := fun v U => v = (as.map (zcv b base)).toArray ∧ U.heap.size + 1 = base + S.length ∧ va_P D vwCl (zws cI b base S M) U.heap ∧ va_K D vwCl [(cI, .int)] U ∧ va_X b L xs U U.heap ∧ zNw U
def zQc (D : va_G) (cI : ClassId) (b base L : Nat) (xs : Nat → Int32) (r : Option zV) (S' : List zC) (M' : zM) : Array Value → State → Outcome → State → Prop := fun _ u oc t => oc = .returned (r.map (zcv b base)) ∧ va_P D vwCl (zws cI b base S' M') t.heap ∧ u.heap.size ≤ t.heap.size ∧ (∀ q : Nat, q < base → t.heap[q]? = u.heap[q]?) ∧ S'.head? = some (.inl L) ∧ ∀ k, k < L → Int32.ofInt (M' 0 k) = xs k
def zrm (d mc ms : Nat) : Room := { frames := d, cells := mc, slots := ms, locals := 80 + 40 * d }
def zwd (E : zE) : List Cond := Cond.code E.1 E.2.1 E.2.2.1 E.2.2.2.1 :: zT
/-- the contract of all methods, calls nested d deep -/
def zCon (l : Launch) (D : va_G) (cI : ClassId) (b base L : Nat) (xs : Nat → Int32) (d : Nat) : Prop := ∀ (k : Nat) (E : zE) (as : List zV) (S : List zC) (M : zM) (r : Option zV) (S' : List zC) (M' : zM), zmt[k]? = some E → zCR d k as S M r S' M' → S.head? = some (.inl L) → (∀ k, k < L → Int32.ofInt (M 0 k) = xs k) → Met l E.1 (zwd E) (zrm d (S'.length - S.length) (zsl S' - zsl S)) (zPc D cI b base L xs as S M) (zQc D cI b base L xs r S' M') (S'.length - S.length) (zsl S' - zsl S) (fun q => base ≤ q)
theorem zgood {w : Cond} (h : w ∈ zT) : (w.onTables && w.keeps) = true ∨ ∃ ty, w = .arrayClass ty := good_of_word (List.mem_filter.mp h).2
theorem zmeth {k : Nat} {E : zE} (h : zmt[k]? = some E) : zall E = true ∧ ∃ q, zmp[k]? = some q ∧ zmok E q = true ∧ Cond.code E.1 E.2.1 E.2.2.1 E.2.2.2.1 ∈ zT := by
  have hk : k < zmp.length := by
    rw [← zm_len]
    exact zmem_lt h
  have hq : zmp[k]? = some zmp[k] := List.getElem?_eq_getElem hk
  refine ⟨za_all E (List.mem_of_getElem? h), zmp[k], hq, ?_, ?_⟩
  · exact List.all_eq_true.mp zm_all (E, zmp[k]) (List.mem_of_getElem? (i := k) (by rw [List.getElem?_zip_eq_some]; exact ⟨h, hq⟩))
  · have h1 := congrArg (fun l => l[k]?) zcodes
    simp only [List.getElem?_map, h, hq, Option.map_some, Option.some.injEq] at h1
    exact List.mem_filter.mpr ⟨List.mem_of_getElem? h1.symm, rfl⟩
theorem zGoodIn {k : Nat} {E : zE} (h : zmt[k]? = some E) : GoodIn zT (zwd E) := by
  intro w hw
  have hm : w ∈ zT := by
    rcases List.mem_cons.mp hw with rfl | hw
    · exact (zmeth h).2.choose_spec.2.2
    · exact hw
  exact ⟨hm, zgood hm⟩
theorem zblind (D : va_G) (cI : ClassId) (b base L : Nat) (xs : Nat → Int32) (as : List zV) (S : List zC) (M : zM) : FrameBlind (zPc D cI b base L xs as S M) := by
  intro a U g mk h
  obtain ⟨h0, h1, h2, h3, h4, h5⟩ := h
  exact ⟨h0, h1, h2, va_K.moved (u := U) (U := U.calling g mk a) (Vm.Alike.refl U.vm) h3, va_X.moved (u := U) (U := U.calling g mk a) (Vm.Alike.refl U.vm) h4, fun q hq => va_Nw.same rfl (rfl : U.vm = (U.calling g mk a).vm) (h5 q hq)⟩
theorem zlist_ret (b base : Nat) (r : Option zV) (rest : List zV) : (r.map (zcv b base)).toList ++ rest.map (zcv b base) = (r.toList ++ rest).map (zcv b base) := by
  cases r <;> rfl
section ZC
variable {p : Program} {l : Launch} {e : Env} {R : Room} {s : State} {m : MethodId} {args : Array Value} {below : List Frame} {meth : Method} {c : Code} {Q : State → Prop} {H : Heap} {locs : List Loc} {cells slots : Nat}
variable {E : zE} {D : va_G} {cI : ClassId} {b base L : Nat} {xs : Nat → Int32} {n0 z0 pc ra rb rt : Nat} {ls : List (Option zV)} {st rest : List zV} {S S1 : List zC} {M M1 : zM} {lsA : Array Slot} {v : Option zV}
theorem zrun_W {mc ms : Nat} {a : Array Value} (hr : va_Run p l e R s m args below meth c H locs cells slots mc ms (F0 m pc lsA (st.map (zcv b base))) (rest.map (zcv b base)) (zQc D cI b base L xs v S1 M1 a) (fun q => base ≤ q)) (hl : zlr b base lsA ls) (hS : va_S (fun q => base ≤ q) s.heap H locs)
    (kk : ∀ (H1 : Heap) (locs1 : List Loc), zFt D cI b base L xs s ls S1 M1 H1 locs1 lsA → W p l e R s m args below meth c H1 locs1 (cells + mc) (slots + ms) Q (F0 m (pc + 3) lsA ((v.toList ++ rest).map (zcv b base)))) : W p l e R s m args below meth c H locs cells slots Q (F0 m pc lsA (st.map (zcv b base))) := by
  intro T hT X
  obtain ⟨v', st₀, t, T', Lc, h0, X', hL, e1, e2, ⟨hv, hP1, hz1, hlow, hh, hm⟩, stp⟩ := hr T hT X
  cases hv
  rw [h0] at hz1 hlow
  rw [← e1] at hP1 hz1 hlow
  have hS1 : va_S (fun q => base ≤ q) s.heap T'.heap (locs ++ Lc) := by
    refine ⟨Nat.le_trans hS.1 hz1, fun q h1 h2 => (hlow q (Nat.not_le.mp h2)).trans (hS.2.1 q h1 h2), fun q hq => ?_⟩
    rcases List.mem_append.mp hq with h | h
    · exact hS.2.2 q h
    · exact hL q h
  have hq := kk T'.heap (locs ++ Lc) ⟨hl, hP1, hS1, hh, hm⟩
  rw [← zlist_ret] at hq
  obtain ⟨t2, a1, b1⟩ := hq T' rfl X'
  exact ⟨t2, stp t2 a1, b1⟩
theorem zpre (X : zCx p s m args meth c E D cI b base L xs n0) (F : zFt D cI b base L xs s ls S M H locs lsA) (hH : H.size + 1 = base + S.length) (as : List zV) : FrameBlind (zPc D cI b base L xs as S M) ∧ ∀ U : State, U.heap = H → s.WarmedH U.vm → zPc D cI b base L xs as S M (as.map (zcv b base)).toArray U := by
  obtain ⟨hx, hb, hml, hown, hts, hname, hK, hX, hbb, hsz, hn0, hN⟩ := X
  obtain ⟨hl, hP, hS, hS0, hM0⟩ := F
  refine ⟨zblind D cI b base L xs as S M, fun U hU hW => ⟨rfl, by rw [hU]; exact hH, by rw [hU]; exact hP, va_K.moved hW.alike hK, ?_, fun q hq => va_Nw.warmM hW (hN q hq)⟩⟩
  rw [hU]
  exact (hX.moved hW.alike).kept (hS.2.1 b (by omega) (Nat.not_le.mpr hbb))
theorem ztake {st : List zV} {n : Nat} (b base : Nat) : st.map (zcv b base) = (((st.take n).reverse).map (zcv b base)).reverse ++ (st.drop n).map (zcv b base) := by
  rw [List.map_reverse, List.reverse_reverse, ← List.map_append, List.take_append_drop]
theorem ztake1 {st : List zV} {n : Nat} {u : zV} (h : st[n]? = some u) : (st.take (n + 1)).reverse = u :: (st.take n).reverse := by
  have h1 : n < st.length := zmem_lt h
  have h2 : st[n] = u := by
    have h3 := List.getElem?_eq_getElem h1
    rw [h] at h3
    exact (Option.some.inj h3).symm
  rw [List.take_succ_eq_append_getElem h1, List.reverse_append, h2]
  rfl
end ZC
end
section
/-! A CALL OF OUR MACHINE IS A CALL OF THE JVM; every method meets its contract -/
section ZD
variable {p : Program} {l : Launch} {e : Env} {R : Room} {s : State} {m : MethodId} {args : Array Value} {below : List Frame} {meth : Method} {c : Code} {Q : State → Prop} {H : Heap} {locs : List Loc} {cells slots : Nat}
variable {E : zE} {D : va_G} {cI : ClassId} {b base L : Nat} {xs : Nat → Int32} {n0 z0 pc d k ra rb rt : Nat} {ls : List (Option zV)} {st as rest : List zV} {S S1 : List zC} {M M1 : zM} {lsA : Array Slot} {v : Option zV} {w : zR}
set_option maxHeartbeats 4000000 in
theorem zcall_sound (IH : zCon l D cI b base L xs d) (X : zCx p s m args meth c E D cI b base L xs n0) (hw : zok E pc w = true) (hk : zkind w = 1) (hcall : zcall w (pc, ls, st, S, M) = some (k, as, rest)) (hC : zCR d k as S M v S1 M1) (F : zFt D cI b base L xs s ls S M H locs lsA) (hc : cells + n0 = S.length) (hz : slots + z0 = zsl S) (hll : ls.length = E.2.2.1) (hRf : d + 1 ≤ R.frames) (hRl : 80 + 40 * (d + 1) ≤ R.locals) (hRc : S1.length ≤ R.cells + n0) (hRz : zsl S1 ≤ R.slots + z0)
    (kk : ∀ (H1 : Heap) (locs1 : List Loc), zFt D cI b base L xs s ls S1 M1 H1 locs1 lsA → W p l e R s m args below meth c H1 locs1 (cells + (S1.length - S.length)) (slots + (zsl S1 - zsl S)) Q (F0 m (pc + 3) lsA ((v.toList ++ rest).map (zcv b base)))) : W p l e R s m args below meth c H locs cells slots Q (F0 m pc lsA (st.map (zcv b base))) := by
  have X0 := X
  have F0' := F
  obtain ⟨hx, hb, hml, hown, hts, hname, hK, hX, hbb, hsz, hn0, hN⟩ := X
  obtain ⟨hl, hP, hS, hS0, hM0⟩ := F
  refine zW_size (fun h1 h2 => ?_)
  have hH := zsize hP hsz hn0 hc h1 h2
  have hmono := zcr_mono d k as S M v S1 M1 hC
  have hf : cells + (S1.length - S.length) ≤ R.cells ∧ slots + (zsl S1 - zsl S) ≤ R.slots := ⟨by omega, by omega⟩
  have hsize : lsA.size = E.2.2.1 := by
    obtain ⟨lv, h3, -⟩ := hl
    rw [h3.1, hll]
  have fact : ∀ {k : Nat} {E' : zE} {rb : Nat} {stt : Bool}, zmt[k]? = some E' → E'.2.2.2.2.1 = rb → E'.2.2.2.2.2.1 = stt → (if stt then Cond.static E'.1 else Cond.instanceMethod E'.1) ∈ zT ∧ (Cond.initialized E'.1.cls) ∈ zT ∧ (E'.1.cls ≠ "java/lang/invoke/MethodHandle" ∧ E'.1.cls ≠ "java/lang/invoke/VarHandle" ∧ (parseMethodDescriptor E'.1.desc).map (fun d => d.parameters.length) = some rb) ∧ E'.2.2.1 ≤ 20 := by
    intro k E' rb stt hE h3 h4
    obtain ⟨-, q, -, hq, -⟩ := zmeth hE
    unfold zmok at hq
    simp only [Bool.and_eq_true, decide_eq_true_eq] at hq
    obtain ⟨⟨⟨⟨⟨⟨⟨q1, q2⟩, q3⟩, q4⟩, q5⟩, q6⟩, -⟩, -⟩ := hq
    subst h3; subst h4
    exact ⟨zin_spec q1, zin_spec q2, ⟨q3, q4, q5⟩, q6⟩
  obtain ⟨ins, ra, rb, rt⟩ := w
  cases ins
  case invokestatic idx =>
    obtain ⟨hd, hw⟩ := (Bool.and_eq_true _ _).mp hw
    have hd : decode E.2.1 pc = .ok (.invokestatic idx, 3) := of_decide_eq_true hd
    have hcall : (if rb ≤ st.length ∧ st.length ≤ rb + 8 then some (ra, (st.take rb).reverse, st.drop rb) else none) = some (k, as, rest) := hcall
    by_cases hh : rb ≤ st.length ∧ st.length ≤ rb + 8
    · rw [if_pos hh] at hcall
      simp only [Option.some.injEq, Prod.mk.injEq] at hcall
      obtain ⟨rfl, rfl, rfl⟩ := hcall
      have hlen : (((st.take rb).reverse).map (zcv b base)).length = rb := by simp; omega
      have hroom : 2 * (F0 m pc lsA (st.map (zcv b base))).monitorRoom + (((st.drop rb).map (zcv b base)).map fun v => v.category).sum ≤ 8 := lv_room (by rw [zcat_sum, List.length_drop]; omega)
      rcases rt with _ | _ | _ | rt
      · obtain ⟨hw1, hw2⟩ := (Bool.and_eq_true _ _).mp hw
        unfold zkok at hw1
        unfold zlok at hw2
        cases hE : zmt[ra]? with
        | none => rw [hE] at hw1; cases hw1
        | some E' =>
          rw [hE] at hw1 hw2
          obtain ⟨g1, g2⟩ := (Bool.and_eq_true _ _).mp hw1
          obtain ⟨f1, f2, f3, f4⟩ := fact hE (of_decide_eq_true g1) (by simpa using g2)
          have hM := IH ra E' _ S M v S1 M1 hE hC hS0 hM0
          have cb : CallB R s args E.1.cls idx E'.1 E'.2.1 E'.2.2.1 E'.2.2.2.1 (zwd E') (zrm d (S1.length - S.length) (zsl S1 - zsl S)) (S1.length - S.length) (zsl S1 - zsl S) rb := callB_of rb hts (zGoodIn hE) rfl rfl rfl (hts _ f2) (hts _ (zin_spec hw2)) f3 ⟨hRf, by show 8 + (E'.2.2.1 + 11) + (80 + 40 * d) ≤ R.locals; omega⟩
          exact zrun_W (va_runS (g := F0 m pc lsA (st.map (zcv b base))) ⟨hx, hb, hml, hown, hts⟩ hM ⟨cb, hts _ f1⟩ (zpre X0 F0' hH _) rfl hlen hsize (ztake b base) hroom hd hf) hl hS kk
      · cases hw
      · obtain ⟨hw1, hw2⟩ := (Bool.and_eq_true _ _).mp hw
        unfold zkok at hw1
        unfold znok at hw2
        cases hE : zmt[ra]? with
        | none => rw [hE] at hw1; cases hw1
        | some E' =>
          rw [hE] at hw1 hw2
          obtain ⟨g1, g2⟩ := (Bool.and_eq_true _ _).mp hw1
          obtain ⟨f1, f2, f3, f4⟩ := fact hE (of_decide_eq_true g1) (by simpa using g2)
          obtain ⟨q, hq, hq2⟩ := List.any_eq_true.mp hw2
          simp only [Bool.and_eq_true, decide_eq_true_eq] at hq2
          obtain ⟨⟨q1, q2⟩, q3⟩ := hq2
          have hNq := hN q hq
          rw [q1, q2, q3] at hNq
          have hM := IH ra E' _ S M v S1 M1 hE hC hS0 hM0
          have cb : va_CN R s args E.1.cls idx E'.1 q.2.2.2 E'.2.1 E'.2.2.1 E'.2.2.2.1 (zwd E') (zrm d (S1.length - S.length) (zsl S1 - zsl S)) (S1.length - S.length) (zsl S1 - zsl S) rb := va_cnB rb hts (zGoodIn hE) rfl rfl rfl hNq (hts _ f2) f3 ⟨hRf, by show 8 + (E'.2.2.1 + 11) + (80 + 40 * d) ≤ R.locals; omega⟩
          exact zrun_W (va_runSN (g := F0 m pc lsA (st.map (zcv b base))) ⟨hx, hb, hml, hown, hts⟩ hM ⟨cb, hts _ f1, trivial⟩ (zpre X0 F0' hH _) rfl hlen hsize (ztake b base) hroom hd hf) hl hS kk
      · rcases rt with _ | rt
        · cases hk
        · cases hw
    · rw [if_neg hh] at hcall
      cases hcall
  case invokespecial idx =>
    obtain ⟨hd, hw⟩ := (Bool.and_eq_true _ _).mp hw
    have hd : decode E.2.1 pc = .ok (.invokespecial idx, 3) := of_decide_eq_true hd
    cases hu : st[rb]? with
    | none => simp [zcall, hu] at hcall
    | some u =>
      rcases u with x | _ | j
      · simp [zcall, hu] at hcall
      · simp [zcall, hu] at hcall
      have hcall : (if st.length ≤ rb + 9 then some (ra, (st.take (rb + 1)).reverse, st.drop (rb + 1)) else none) = some (k, as, rest) := by simpa only [zcall, hu] using hcall
      by_cases hh : st.length ≤ rb + 9
      · rw [if_pos hh] at hcall
        simp only [Option.some.injEq, Prod.mk.injEq] at hcall
        obtain ⟨rfl, rfl, rfl⟩ := hcall
        have hrb := zmem_lt hu
        have hlen : (((st.take rb).reverse).map (zcv b base)).length = rb := by simp; omega
        have hroom : 2 * (F0 m pc lsA (st.map (zcv b base))).monitorRoom + (((st.drop (rb + 1)).map (zcv b base)).map fun v => v.category).sum ≤ 8 := lv_room (by rw [zcat_sum, List.length_drop]; omega)
        have hst : st.map (zcv b base) = (((st.take rb).reverse).map (zcv b base)).reverse ++ .ref (zad b base j) :: (st.drop (rb + 1)).map (zcv b base) := by
          rw [ztake (n := rb + 1) b base, ztake1 hu]
          simp [zcv]
        rcases rt with _ | _ | rt
        · have hw : (zkok ra rb false && zlok E idx ra && zspok ra) = true := hw
          simp only [Bool.and_eq_true] at hw
          obtain ⟨⟨hw1, hw2⟩, hw3⟩ := hw
          unfold zkok at hw1
          unfold zlok at hw2
          unfold zspok at hw3
          cases hE : zmt[ra]? with
          | none => rw [hE] at hw1; cases hw1
          | some E' =>
            rw [hE] at hw1 hw2 hw3
            obtain ⟨g1, g2⟩ := (Bool.and_eq_true _ _).mp hw1
            obtain ⟨f1, f2, f3, f4⟩ := fact hE (of_decide_eq_true g1) (by simpa using g2)
            obtain ⟨i1, i2⟩ := (Bool.and_eq_true _ _).mp hw3
            have i2 : E'.2.2.2.1 = none := by simpa using i2
            have hM := IH ra E' _ S M v S1 M1 hE hC hS0 hM0
            have hwd : zwd E' = Cond.code E'.1 E'.2.1 E'.2.2.1 none :: zT := by unfold zwd; rw [i2]
            have cb : CallB R s args E.1.cls idx E'.1 E'.2.1 E'.2.2.1 none (zwd E') (zrm d (S1.length - S.length) (zsl S1 - zsl S)) (S1.length - S.length) (zsl S1 - zsl S) rb := callB_of rb hts (zGoodIn hE) hwd rfl rfl (hts _ f2) (hts _ (zin_spec hw2)) f3 ⟨hRf, by show 8 + (E'.2.2.1 + 11) + (80 + 40 * d) ≤ R.locals; omega⟩
            have hp := zpre X0 F0' hH (st.take (rb + 1)).reverse
            rw [ztake1 hu] at hp hM
            exact zrun_W (va_runI (g := F0 m pc lsA (st.map (zcv b base))) (b := zad b base j) (As := ((st.take rb).reverse).map (zcv b base)) ⟨hx, hb, hml, hown, hts⟩ hM ⟨cb, of_decide_eq_true i1, hts _ f1⟩ hp rfl hlen hsize hst hroom hd hf) hl hS kk
        · cases hk
        · cases hw
      · rw [if_neg hh] at hcall
        cases hcall
  case invokevirtual idx =>
    have hw : (zdec E pc (.invokevirtual idx) 3 && zkok ra rb false && zlok E idx ra && zvok ra rt) = true := hw
    simp only [Bool.and_eq_true] at hw
    obtain ⟨⟨⟨hd, hw1⟩, hw2⟩, hw3⟩ := hw
    have hd : decode E.2.1 pc = .ok (.invokevirtual idx, 3) := of_decide_eq_true hd
    cases hu : st[rb]? with
    | none => simp [zcall, hu] at hcall
    | some u =>
      rcases u with x | _ | j
      · simp [zcall, hu] at hcall
      · simp [zcall, hu] at hcall
      rcases j with _ | j
      · simp [zcall, hu] at hcall
      cases hS1 : S[j + 1]? with
      | none => simp [zcall, hu, hS1] at hcall
      | some cc =>
        rcases cc with n | ⟨ci, fs⟩
        · simp [zcall, hu, hS1] at hcall
        by_cases hh : ci = rt / 4 ∧ st.length ≤ rb + 9
        · simp only [zcall, hu, hS1, if_pos hh] at hcall
          simp only [Option.some.injEq, Prod.mk.injEq] at hcall
          obtain ⟨rfl, rfl, rfl⟩ := hcall
          obtain ⟨rfl, hh⟩ := hh
          have hrb := zmem_lt hu
          have hlen : (((st.take rb).reverse).map (zcv b base)).length = rb := by simp; omega
          have hroom : 2 * (F0 m pc lsA (st.map (zcv b base))).monitorRoom + (((st.drop (rb + 1)).map (zcv b base)).map fun v => v.category).sum ≤ 8 := lv_room (by rw [zcat_sum, List.length_drop]; omega)
          have hst : st.map (zcv b base) = (((st.take rb).reverse).map (zcv b base)).reverse ++ .ref (base + j) :: (st.drop (rb + 1)).map (zcv b base) := by
            rw [ztake (n := rb + 1) b base, ztake1 hu]
            simp [zcv, zad]
          unfold zkok at hw1
          unfold zlok at hw2
          unfold zvok at hw3
          cases hE : zmt[ra]? with
          | none => rw [hE] at hw1; cases hw1
          | some E' =>
            rw [hE] at hw1 hw2 hw3
            cases hp1 : zmp[ra]? with
            | none => rw [hp1] at hw3; cases hw3
            | some pp =>
              rw [hp1] at hw3
              cases hq1 : vwCl[rt / 4]? with
              | none => rw [hq1] at hw3; cases hw3
              | some q =>
                rw [hq1] at hw3
                obtain ⟨v1, v2⟩ := (Bool.and_eq_true _ _).mp hw3
                have v1 : q.1 = E'.1.cls := of_decide_eq_true v1
                obtain ⟨g1, g2⟩ := (Bool.and_eq_true _ _).mp hw1
                obtain ⟨f1, f2, f3, f4⟩ := fact hE (of_decide_eq_true g1) (by simpa using g2)
                have hM := IH ra E' _ S M v S1 M1 hE hC hS0 hM0
                have cb : CallB R s args E.1.cls idx E'.1 E'.2.1 E'.2.2.1 E'.2.2.2.1 (zwd E') (zrm d (S1.length - S.length) (zsl S1 - zsl S)) (S1.length - S.length) (zsl S1 - zsl S) rb := callB_of rb hts (zGoodIn hE) rfl rfl rfl (hts _ f2) (hts _ (zin_spec hw2)) f3 ⟨hRf, by show 8 + (E'.2.2.1 + 11) + (80 + 40 * d) ≤ R.locals; omega⟩
                have hp := zpre X0 F0' hH (st.take (rb + 1)).reverse
                rw [ztake1 hu] at hp hM
                have hrc := va_recv hK hP hq1 (zws_get (cI := cI) (b := b) (base := base) (M := M) hS1)
                rw [v1] at hrc
                exact zrun_W (va_runV (C := E'.1.cls) (g := F0 m pc lsA (st.map (zcv b base))) (b := base + j) (As := ((st.take rb).reverse).map (zcv b base)) ⟨hx, hb, hml, hown, hts⟩ hM ⟨cb, hts _ f1, hts _ (zin_spec v2)⟩ ⟨hp.1, hrc, hp.2⟩ rfl hlen hsize hst hroom hd hf) hl hS kk
        · simp only [zcall, hu, hS1, if_neg hh] at hcall
          cases hcall
  all_goals cases hk
end ZD
end
section
/-! A RUN OF OUR MACHINE IS A RUN OF THE JVM -/
section ZG
variable {p : Program} {l : Launch} {e : Env} {R : Room} {s : State} {m : MethodId} {args : Array Value} {below : List Frame} {meth : Method} {c : Code} {Q : State → Prop} {H : Heap} {locs : List Loc} {cells slots : Nat}
variable {E : zE} {D : va_G} {cI : ClassId} {b base L : Nat} {xs : Nat → Int32} {n0 z0 pc d : Nat} {ls : List (Option zV)} {st : List zV} {S : List zC} {M : zM} {lsA : Array Slot} {w : zR} {s2 : zS}
theorem zstep_sound (X : zCx p s m args meth c E D cI b base L xs n0) (hw : zok E pc w = true) (hk : zkind w = 0) (hs : zstep zdef w (pc, ls, st, S, M) = some s2) (F : zFt D cI b base L xs s ls S M H locs lsA) (hc : cells + n0 = S.length) (hz : slots + z0 = zsl S) (hll : ls.length = E.2.2.1) (hRf : 1 ≤ R.frames) (hRl : 80 ≤ R.locals) (hRc : s2.2.2.2.1.length ≤ R.cells + n0) (hRz : zsl s2.2.2.2.1 ≤ R.slots + z0) (kk : zKK p l e R s m args below meth c Q D cI b base L xs n0 z0 s2) : W p l e R s m args below meth c H locs cells slots Q (F0 m pc lsA (st.map (zcv b base))) := by
  obtain ⟨ins, ra, rb, rt⟩ := w
  cases ins
  case iconst => exact zs_iconst X hw hs F hc hz kk
  case bipush => exact zs_bipush X hw hs F hc hz kk
  case sipush => exact zs_sipush X hw hs F hc hz kk
  case iload_n => exact zs_iload_n X hw hs F hc hz kk
  case iload => exact zs_iload X hw hs F hc hz kk
  case aload_n => exact zs_aload_n X hw hs F hc hz kk
  case aload => exact zs_aload X hw hs F hc hz kk
  case istore_n => exact zs_istore_n X hw hs F hc hz kk
  case istore => exact zs_istore X hw hs F hc hz kk
  case astore_n => exact zs_astore_n X hw hs F hc hz kk
  case astore => exact zs_astore X hw hs F hc hz kk
  case iinc => exact zs_iinc X hw hs F hc hz kk
  case iadd => exact zs_iadd X hw hs F hc hz kk
  case isub => exact zs_isub X hw hs F hc hz kk
  case imul => exact zs_imul X hw hs F hc hz kk
  case iand => exact zs_iand X hw hs F hc hz kk
  case ior => exact zs_ior X hw hs F hc hz kk
  case ixor => exact zs_ixor X hw hs F hc hz kk
  case ishl => exact zs_ishl X hw hs F hc hz kk
  case idiv => exact zs_idiv X hw hs F hc hz kk
  case irem => exact zs_irem X hw hs F hc hz kk
  case dup => exact zs_dup X hw hs F hc hz kk
  case dup2 => exact zs_dup2 X hw hs F hc hz kk
  case goto => exact zs_goto X hw hs F hc hz kk
  case ifCond cnd off =>
    cases cnd
    · exact zs_if_eq X hw hs F hc hz kk
    · exact zs_if_ne X hw hs F hc hz kk
    · exact zs_if_lt X hw hs F hc hz kk
    · exact zs_if_ge X hw hs F hc hz kk
    · exact zs_if_gt X hw hs F hc hz kk
    · exact zs_if_le X hw hs F hc hz kk
  case if_icmp cnd off =>
    cases cnd
    · exact zs_icmp_eq X hw hs F hc hz kk
    · exact zs_icmp_ne X hw hs F hc hz kk
    · exact zs_icmp_lt X hw hs F hc hz kk
    · exact zs_icmp_ge X hw hs F hc hz kk
    · exact zs_icmp_gt X hw hs F hc hz kk
    · exact zs_icmp_le X hw hs F hc hz kk
  case tableswitch => exact zs_tableswitch X hw hs F hc hz kk
  case lookupswitch => exact zs_lookupswitch X hw hs F hc hz kk
  case getfield => exact zs_getfield X hw hs F hc hz kk
  case putfield => exact zs_putfield X hw hs F hc hz kk
  case iaload => exact zs_iaload X hw hs F hc hz kk
  case iastore => exact zs_iastore X hw hs F hc hz kk
  case arraylength => exact zs_arraylength X hw hs F hc hz kk
  case new => exact zs_new X hw hs F hc hz hRc hRz kk
  case newarray => exact zs_newarray X hw hs F hc hz hRc hRz kk
  case invokespecial idx =>
    by_cases h1 : rt = 1
    · subst h1
      exact zs_objInit X hw hs F hc hz hll hRf hRl kk
    · simp [zkind, h1] at hk
  case invokestatic idx =>
    by_cases h1 : rt = 3
    · subst h1
      exact zs_copy X hw hs F hc hz hll hRf hRl kk
    · simp [zkind, h1] at hk
  all_goals cases hs
theorem zgo_sound (IH : zCon l D cI b base L xs d) (hall : zall E = true) (X : zCx p s m args meth c E D cI b base L xs n0) (hRf : d + 1 ≤ R.frames) (hRl : 80 + 40 * (d + 1) ≤ R.locals) {r : Option zV} {S' : List zC} {M' : zM} (hRc : S'.length ≤ R.cells + n0) (hRz : zsl S' ≤ R.slots + z0)
    (hret : ∀ (pc : Nat) (w : zR) (ls : List (Option zV)) (st : List zV) (H : Heap) (locs : List Loc) (lsA : Array Slot) (cells slots : Nat), E.2.2.2.2.2.2.2[pc]? = some (some w) → zkind w = 2 → zret w (pc, ls, st, S', M') = some r → zFt D cI b base L xs s ls S' M' H locs lsA → cells + n0 = S'.length → slots + z0 = zsl S' → W p l e R s m args below meth c H locs cells slots Q (F0 m pc lsA (st.map (zcv b base)))) :
    ∀ (n pc : Nat) (ls : List (Option zV)) (st : List zV) (S : List zC) (M : zM) (H : Heap) (locs : List Loc) (lsA : Array Slot) (cells slots : Nat), zGo zdef (zCR d) E.2.2.2.2.2.2.2 n (pc, ls, st, S, M) r S' M' → zFt D cI b base L xs s ls S M H locs lsA → cells + n0 = S.length → slots + z0 = zsl S → ls.length = E.2.2.1 → W p l e R s m args below meth c H locs cells slots Q (F0 m pc lsA (st.map (zcv b base)))
  | 0, _, _, _, _, _, _, _, _, _, _, h, _, _, _, _ => h.elim
  | n + 1, pc, ls, st, S, M, H, locs, lsA, cells, slots, h, F, hc, hz, hll => by
    obtain ⟨w, hcd, h | h | h⟩ := h
    · obtain ⟨hk, s2, hs, hg⟩ := h
      have hm := zgo_mono (zcr_mono d) n s2 r S' M' hg
      have hm2 := zstep_mono hs
      obtain ⟨pc2, ls2, st2, S2, M2⟩ := s2
      exact zstep_sound X (zall_at hall hcd) hk hs F hc hz hll (by omega) (by omega) (Nat.le_trans hm.1 hRc) (Nat.le_trans hm.2 hRz) (fun H2 locs2 lsB cells2 slots2 F2 hc2 hz2 => zgo_sound IH hall X hRf hRl hRc hRz hret n pc2 ls2 st2 S2 M2 H2 locs2 lsB cells2 slots2 hg F2 hc2 hz2 (hm2.1.trans hll))
    · obtain ⟨hk, k, as, rest, v, S1, M1, hca, hC, hg⟩ := h
      have hm := zgo_mono (zcr_mono d) n _ r S' M' hg
      have hm2 := zcr_mono d k as S M v S1 M1 hC
      have hm : S1.length ≤ S'.length ∧ zsl S1 ≤ zsl S' := hm
      exact zcall_sound IH X (zall_at hall hcd) hk hca hC F hc hz hll hRf hRl (Nat.le_trans hm.1 hRc) (Nat.le_trans hm.2 hRz) (fun H1 locs1 F1 => zgo_sound IH hall X hRf hRl hRc hRz hret n (pc + 3) ls (v.toList ++ rest) S1 M1 H1 locs1 lsA _ _ hg F1 (by omega) (by omega) hll)
    · obtain ⟨hk, hr, hS1, hM1⟩ := h
      subst hS1
      subst hM1
      exact hret pc w ls st H locs lsA cells slots hcd hk hr F hc hz
end ZG
theorem zret_dec {E : zE} {pc ra rb rt : Nat} (h : zok E pc (.ireturn, ra, rb, rt) = true) : decode E.2.1 pc = .ok (.ireturn, 1) := by
  obtain ⟨hd, -⟩ := (Bool.and_eq_true _ _).mp h
  exact of_decide_eq_true hd
theorem zlg_sl (b base : Nat) : ∀ as : List zV, lg_sl (as.map (zcv b base)) = as.map (fun v => Slot.val (zcv b base v))
  | [] => rfl
  | v :: as => by
    have h := zlg_sl b base as
    unfold lg_sl at h ⊢
    rw [List.map_cons, List.flatMap_cons, h, zcv_cat]
    rfl
theorem zargs (b base : Nat) : ∀ (as : List zV) (n i : Nat) (v : zV), as[i]? = some v → (n + i, zcv b base v) ∈ lv_args n (as.map (zcv b base))
  | [], _, _, _, h => by simp at h
  | u :: as, n, i, v, h => by
    show _ ∈ lv_args n (zcv b base u :: as.map (zcv b base))
    unfold lv_args
    rcases i with _ | i
    · rw [List.getElem?_cons_zero] at h
      cases h
      exact List.mem_cons_self
    · rw [List.getElem?_cons_succ] at h
      have h1 := zargs b base as (n + 1) i v h
      refine List.mem_cons_of_mem _ ?_
      rw [show n + (i + 1) = n + 1 + i by omega]
      rw [zcv_cat]
      exact h1
theorem zent_len {n : Nat} {as : List zV} (h : as.length ≤ n) : (zent n as).length = n := by
  unfold zent
  rw [List.length_append, List.length_map, List.length_replicate]
  omega
theorem zent_at {n i : Nat} {as : List zV} {v : zV} (h : (zent n as)[i]? = some (some v)) : as[i]? = some v := by
  unfold zent at h
  by_cases hi : i < as.length
  · rw [List.getElem?_append_left (by rw [List.length_map]; exact hi), List.getElem?_map] at h
    cases ha : as[i]? with
    | none => rw [ha] at h; cases h
    | some u => rw [ha] at h; cases h; rfl
  · rw [List.getElem?_append_right (by rw [List.length_map]; omega), List.getElem?_replicate] at h
    split at h <;> cases h
theorem zentry (b base : Nat) {n : Nat} {as : List zV} (h : as.length ≤ n) : zlr b base ((lg_sl (as.map (zcv b base)) ++ List.replicate (n - (lg_sl (as.map (zcv b base))).length) Slot.unset).toArray) (zent n as) := by
  have hl : (lg_sl (as.map (zcv b base))).length ≤ n := by
    rw [zlg_sl, List.length_map]
    exact h
  refine ⟨lv_args 0 (as.map (zcv b base)), ?_, fun i v hi => ?_⟩
  · rw [zent_len h]
    exact lv_entry (as.map (zcv b base)) hl
  · have h1 := zargs b base as 0 i v (zent_at hi)
    rwa [Nat.zero_add] at h1
set_option maxHeartbeats 4000000 in
/-- every method meets the contract that our machine tells of it -/
theorem zcon (l : Launch) (D : va_G) (cI : ClassId) {b base : Nat} (hbb : b < base) (L : Nat) (xs : Nat → Int32) : ∀ d, zCon l D cI b base L xs d
  | 0 => fun k E as S M r S' M' _ hC _ _ => hC.elim
  | d + 1 => by
    intro k E as S M r S' M' hE hC hS0 hM0
    have hmono := zcr_mono (d + 1) k as S M r S' M' hC
    obtain ⟨E', n, hE', hlen, hgo⟩ := hC
    cases hE.symm.trans hE'
    obtain ⟨hall, q, -, hq, hcd⟩ := zmeth hE
    have hpl : plainFor E.1 = true := by
      unfold zmok at hq
      simp only [Bool.and_eq_true] at hq
      exact hq.2
    refine zMet_ofW (cc := E.2.1) (maxL := E.2.2.1) (ret := E.2.2.2.1) hpl rfl ?_
    intro p e s m args below meth c s₁ B hml hv
    obtain ⟨rfl, hsz, hP, hK, hX, hN⟩ := hv
    have hr := B.returns
    have hlocks := B.notSynchronized
    have hpos := zlen_pos hS0
    have X : zCx p s m (as.map (zcv b base)).toArray meth c E D cI b base L xs S.length := ⟨B.exec, B.bytes, hml, findClass_of_methodNamed B.named, fun w hw => atoms_spec (ws := zwd E) B.pre w (List.mem_cons_of_mem _ hw), fun h => (name_of_methodNamed B.named B.method).1.trans h, hK, hX, hbb, hsz, hpos, hN⟩
    rw [lg_entry_eq]
    refine zgo_sound (R := (headSpec (zwd E) (zrm (d + 1) (S'.length - S.length) (zsl S' - zsl S))).room) (z0 := zsl S) (zcon l D cI hbb L xs d) hall X (Nat.le_refl _) (Nat.le_refl _) (by show S'.length ≤ (S'.length - S.length) + S.length; omega) (by show zsl S' ≤ (zsl S' - zsl S) + zsl S; omega) ?_ n 0 (zent E.2.2.1 as) [] S M s.heap [] _ 0 0 hgo ⟨zentry b base hlen, hP, va_S.rf, hS0, hM0⟩ (by omega) (by omega) (zent_len hlen)
    intro pc w ls st H locs lsA cells slots hcd2 hk hr2 F hc hz
    obtain ⟨hl, hP2, hS2, hS02, hM02⟩ := F
    have hc1 : cells = S'.length - S.length := by omega
    have hz1 : slots = zsl S' - zsl S := by omega
    subst hc1
    subst hz1
    have hwk := zall_at hall hcd2
    obtain ⟨ins, ra, rb, rt⟩ := w
    cases ins
    case return_ =>
      obtain ⟨hd, h1⟩ := (Bool.and_eq_true _ _).mp hwk
      have hd : decode E.2.1 pc = .ok (.return_, 1) := of_decide_eq_true hd
      have h1 : E.2.2.2.1 = none := of_decide_eq_true h1
      rcases st with _ | ⟨u, st⟩
      · cases hr2
        exact W.vret B.exec B.bytes (hr.trans h1) (fun t ht hW => ⟨rfl, by rw [ht]; exact hP2, by rw [ht]; exact hS2.1, fun q hq => by rw [ht]; exact hS2.2.1 q (by omega) (by omega), hS02, hM02⟩) hS2.2.2 hd
      · cases hr2
    case ireturn =>
      obtain ⟨hd, h1⟩ := (Bool.and_eq_true _ _).mp hwk
      have hd : decode E.2.1 pc = .ok (.ireturn, 1) := of_decide_eq_true hd
      rcases st with _ | ⟨x | u, _ | ⟨u2, st⟩⟩
      · cases hr2
      rotate_left
      · cases hr2
      · cases hr2
      · cases hr2
      have hr2 : (if rt = 1 → x = 0 ∨ x = 1 then some (some (Sum.inl x)) else none) = some r := hr2
      by_cases hx01 : rt = 1 → x = 0 ∨ x = 1
      · rw [if_pos hx01] at hr2
        cases hr2
        rcases rt with _ | _ | rt
        · have h1 : E.2.2.2.1 = some .int := of_decide_eq_true h1
          exact W.iret B.exec B.bytes (hr.trans h1) (fun t ht hW => ⟨rfl, by rw [ht]; exact hP2, by rw [ht]; exact hS2.1, fun q hq => by rw [ht]; exact hS2.2.1 q (by omega) (by omega), hS02, hM02⟩) hS2.2.2 hd
        · have h1 : E.2.2.2.1 = some .boolean := of_decide_eq_true h1
          have h01 : narrow .boolean (.int (Int32.ofInt x)) = .int (Int32.ofInt x) := by
            rcases hx01 rfl with rfl | rfl
            · decide
            · decide
          exact W.zret B.exec B.bytes (hr.trans h1) h01 (fun t ht hW => ⟨rfl, by rw [ht]; exact hP2, by rw [ht]; exact hS2.1, fun q hq => by rw [ht]; exact hS2.2.1 q (by omega) (by omega), hS02, hM02⟩) hS2.2.2 hd
        · cases h1
      · rw [if_neg hx01] at hr2
        cases hr2
    all_goals cases hr2
end
section
/-! THE CLAIM OUT OF ONE WALK OF THE LAW'S BODY. Your part is whole_start (and what it stands on); all else here is the same for every law, but numbers. -/
def R_law : String := "BlockBenchLaw"
def lw_P (b : Addr) (xs : List Int32) (args : Array Value) (s : State) : Prop := args = #[.ref b] ∧ s.IntsAt b xs ∧ xs.length ≤ 3072 ∧ (Jvm.Cond.and given_1 narrow_1).before args s = true
def lw_Q (_ : Array Value) (s : State) (o : Outcome) (t : State) : Prop := o = .returned (some (.int 1)) ∧ Framed s o t [] 600000 7302250
def lw_Z (below : List Frame) (a : Array Value) (s : State) : State → Prop := fun t => ∃ o, t.status = .running ∧ Ended t below o ∧ lw_Q a s o t
/-- the law's own end, with 1 on the stack, nothing written that was there before, its room as the claim has it -/
theorem lw_ret {p : Program} {l : Launch} {e : Env} {s : State} {m : MethodId} {below : List Frame} {meth : Method} {c : Code} {b : Nat} (hx : p.tables.exec = Jvm.exec) (hb : c.code = code) (hr : meth.sig.returnType = ret) (hlocks : meth.locks = false) {pc : Nat} {H : Heap} {ls : Array Slot} (hdg : decode code pc = .ok (.ireturn, 1)) : W p l e room_1 s m #[Value.ref b] below meth c H [] 600000 7302250 (lw_Z below #[Value.ref b] s) (F0 m pc ls [.int 1]) := by
  intro T hT X
  obtain ⟨fs, hret, hrun, hended, hW, hframe⟩ := X.leave (v := some (.int 1)) (hlocks := hlocks) (fun h => by rw [hr] at h; cases h)
  have hmeth' : T.vm.method? m = some meth := X.method'
  refine ⟨T.setFrames fs, ?_, .returned (some (.int 1)), hrun, hended, rfl, ⟨_, rfl⟩, hW, hframe⟩
  jvm_step X.here [X.here.top, hx, hb, hdg, hmeth', hr, ret, narrow_b1]
  (try refine ⟨rfl, ?_⟩); (try refine ⟨rfl, ?_⟩)
  first | (intro acts; rw [hret _ acts rfl rfl rfl]) | rw [hret _ _ rfl rfl rfl]
  exact Steps.refl _
/-- what holds at the law's entry: the machine, the code, the tables' words (any of lw_tbl by 'hts w (by decide +kernel)'), the script of L ints xs at the cell b, what the Statement gives of the start (any of its parts by flat_of_before) -/
def lw_At (p : Program) (s : State) (m : MethodId) (meth : Method) (c : Code) (b L : Nat) (xs : Nat → Int32) : Prop :=
  p.tables.exec = Jvm.exec ∧ c.code = code ∧ meth.sig.returnType = ret ∧ c.maxLocals = 4 ∧ s.vm.findClass R_law = some m.cls ∧ (∀ w ∈ lw_tbl, w.before #[Value.ref b] s = true) ∧ va_X b L xs s s.heap ∧ b < s.heap.size ∧ meth.locks = false ∧ (Jvm.Cond.and given_1 narrow_1).before #[Value.ref b] s = true
end
section
/-! THE CLAIM OUT OF A CLAIM OF OUR MACHINE ALONE -/
/-- on every script of at most 3072 ints our machine's run of the law's body answers 1, within the room -/
def zPure : Prop := ∀ (L : Nat) (f : Nat → Int), L ≤ 3072 → (∀ k, -2147483648 ≤ f k ∧ f k < 2147483648) → ∃ (n : Nat) (S' : List zC) (M' : zM), zGo zdef (zCR 40) tL_law n (0, [some (.inr (some 0)), none, none, none], [], [.inl L], fun a k => if a = 0 then f k else 0) (some (.inl 1)) S' M' ∧ S'.length ≤ 600001 ∧ zsl S' ≤ 7302250 + L
theorem zlaw_code : eL_law.2.1 = code := rfl
set_option maxRecDepth 100000 in
theorem zwhole (hpure : zPure) {p : Program} {e : Env} {s : State} {m : MethodId} {below : List Frame} {meth : Method} {c : Code} (l : Launch) {b L : Nat} {xs : Nat → Int32} (hL : L ≤ 3072) (C0 : lw_At p s m meth c b L xs) : W p l e room_1 s m #[Value.ref b] below meth c s.heap [] 0 0 (lw_Z below #[Value.ref b] s) (entryFrame m ([Value.ref b] : List Value).toArray 4) := by
  obtain ⟨hx, hb, hr, hml, hown, hts0, hX, hbl, hlocks, hgv⟩ := C0
  have hts : ∀ w ∈ zT, w.before #[Value.ref b] s = true := fun w hw => hts0 w (List.mem_filter.mp hw).1
  obtain ⟨n, S', M', hgo, hS', hZ'⟩ := hpure L (fun k => (xs k).toInt) hL (fun k => ⟨Int32.le_toInt _, Int32.toInt_lt _⟩)
  -- the classes' numbers and slots
  have hkn : ∀ c0 : Nat, ∃ x : ClassId × (Nat → Nat), ∀ q : vw_C, vwCl[c0]? = some q → u_Kn s q.1 q.2.1 q.2.2 x.1 x.2 := by
    intro c0
    cases hq : vwCl[c0]? with
    | none => exact ⟨(0, fun _ => 0), fun q h => by cases h⟩
    | some q =>
      have hza : c0 < zci.length := by
        have h3 := zmem_lt hq
        exact h3
      have hzi := List.all_eq_true.mp zci_ok (q, zci[c0]) (List.mem_of_getElem? (i := c0) (by rw [List.getElem?_zip_eq_some]; exact ⟨hq, List.getElem?_eq_getElem hza⟩))
      obtain ⟨hi1, hi2⟩ := (Bool.and_eq_true _ _).mp hzi
      have hi1 : zin zci[c0].1 (.instantiable q.1 q.2.2) = true := hi1
      obtain ⟨cC, iS, h⟩ := u_known hts (zu_all c0 q hq) (hts _ (zin_spec hi1))
      exact ⟨(cC, iS), fun q' h' => by cases h'; exact h⟩
  let D : va_G := (fun c0 => (Classical.choose (hkn c0)).1, fun c0 => (Classical.choose (hkn c0)).2)
  have hz0 := zx_ok
  simp only [Bool.and_eq_true] at hz0
  obtain ⟨cI, kI, comp, ha1, ha2, ha3⟩ := Cond.arrayClass_spec (hts _ (zin_spec hz0.1.1.1.1))
  have hK : va_K D vwCl [(cI, .int)] s := by
    refine ⟨fun c0 q hq => Classical.choose_spec (hkn c0) q hq, fun k q hk => ?_⟩
    have hz : k < 1 := (List.getElem?_eq_some_iff.mp hk).1
    rw [show k = 0 by omega] at hk
    cases hk
    exact ⟨fun n z => ⟨fun k h => (by cases h), kI, ha2, comp, ha3⟩, ha1⟩
  have hN : zNw s := by
    intro q hq
    obtain ⟨i, hi⟩ := List.getElem?_of_mem hq
    have hil : i < znestp.length := by
      have h3 := zmem_lt hi
      exact h3
    have h1 := List.all_eq_true.mp zn_ok (q, znestp[i]) (List.mem_of_getElem? (i := i) (by rw [List.getElem?_zip_eq_some]; exact ⟨hi, List.getElem?_eq_getElem hil⟩))
    have h1 : lw_tbl[znestp[i]]? = some (.methodLinkNest q.1 q.2.1 q.2.2.1 q.2.2.2) := of_decide_eq_true h1
    exact va_Nw.of rfl (hts0 _ (List.mem_of_getElem? h1))
  rw [lg_entry_eq]
  refine zgo_sound (E := eL_law) (D := D) (cI := cI) (base := s.heap.size) (xs := xs) (n0 := 1) (z0 := zsl [.inl L]) (zcon l D cI hbl L xs 40) za_law ⟨hx, hb, hml, hown, hts, ?_, hK, hX, hbl, rfl, Nat.one_pos, hN⟩ (by decide) (by decide) (r := some (.inl 1)) (S' := S') (M' := M') ?_ ?_ ?_ n 0 [some (.inr (some 0)), none, none, none] [] [.inl L] (fun a k => if a = 0 then (xs k).toInt else 0) s.heap [] _ 0 0 hgo ⟨zentry (as := [.inr (some 0)]) b s.heap.size (by decide), fun k q h => by simp [zws] at h, va_S.rf, rfl, fun k _ => by show Int32.ofInt (if 0 = 0 then (xs k).toInt else 0) = xs k; rw [if_pos rfl, Int32.ofInt_toInt]⟩ rfl (Nat.zero_add _) rfl
  · intro h
    exact absurd h (by decide)
  · show S'.length ≤ 600000 + 1
    exact hS'
  · show zsl S' ≤ 7302250 + zsl [.inl L]
    have : zsl [(.inl L : zC)] = L := by simp [zsl, zsz]
    omega
  · intro pc w ls st H locs lsA cells slots hcd hk hr2 F hc hz
    obtain ⟨hl, hP2, hS2, hS02, hM02⟩ := F
    have hwk := zall_at za_law hcd
    obtain ⟨ins, ra, rb, rt⟩ := w
    cases ins
    case ireturn =>
      have hd := zret_dec (E := eL_law) hwk
      rw [zlaw_code] at hd
      rcases st with _ | ⟨x | u, _ | ⟨u2, st⟩⟩
      · cases hr2
      rotate_left
      · cases hr2
      · cases hr2
      · cases hr2
      have hr2 : (if rt = 1 → x = 0 ∨ x = 1 then some (some (Sum.inl x)) else none) = some (some (.inl 1)) := hr2
      have hx1 : x = 1 := by
        split at hr2
        · cases hr2
          rfl
        · cases hr2
      subst hx1
      have hzl : zsl [(.inl L : zC)] = L := by simp [zsl, zsz]
      exact va_forget hS2.2.2 (W.widen (k := 600000) (n := 7302250) (by omega) (by omega) (lw_ret hx hb hr hlocks hd))
    case return_ =>
      rcases st with _ | ⟨u, st⟩
      · cases hr2
      · cases hr2
    all_goals cases hr2
end
section
/-! HOW A METHOD IS LOOKED AT on our machine -/
def zWp (d : Nat) (cd : List (Option zR)) (s : zS) (Q : Option zV → List zC → zM → Prop) : Prop := ∃ (n : Nat) (r : Option zV) (S' : List zC) (M' : zM), zGo zdef (zCR d) cd n s r S' M' ∧ Q r S' M'
def zSp (d k : Nat) (as : List zV) (S : List zC) (M : zM) (Q : Option zV → List zC → zM → Prop) : Prop := ∃ (r : Option zV) (S' : List zC) (M' : zM), zCR d k as S M r S' M' ∧ Q r S' M'
theorem zWp_step {d : Nat} {cd : List (Option zR)} {s s2 : zS} {Q : Option zV → List zC → zM → Prop} {w : zR} (hc : cd[s.1]? = some (some w)) (hk : zkind w = 0) (hs : zstep zdef w s = some s2) (h : zWp d cd s2 Q) : zWp d cd s Q := by
  obtain ⟨n, r, S', M', hg, hq⟩ := h
  exact ⟨n + 1, r, S', M', ⟨w, hc, Or.inl ⟨hk, s2, hs, hg⟩⟩, hq⟩
theorem zWp_call {d : Nat} {cd : List (Option zR)} {s : zS} {Q Q1 : Option zV → List zC → zM → Prop} {w : zR} {k : Nat} {as rest : List zV} (hc : cd[s.1]? = some (some w)) (hk : zkind w = 1) (hs : zcall w s = some (k, as, rest)) (hp : zSp d k as s.2.2.2.1 s.2.2.2.2 Q1) (h : ∀ v S1 M1, Q1 v S1 M1 → zWp d cd (s.1 + 3, s.2.1, v.toList ++ rest, S1, M1) Q) : zWp d cd s Q := by
  obtain ⟨v, S1, M1, hC, hq1⟩ := hp
  obtain ⟨n, r, S', M', hg, hq⟩ := h v S1 M1 hq1
  exact ⟨n + 1, r, S', M', ⟨w, hc, Or.inr (Or.inl ⟨hk, k, as, rest, v, S1, M1, hs, hC, hg⟩)⟩, hq⟩
theorem zWp_ret {d : Nat} {cd : List (Option zR)} {s : zS} {Q : Option zV → List zC → zM → Prop} {w : zR} {r : Option zV} (hc : cd[s.1]? = some (some w)) (hk : zkind w = 2) (hs : zret w s = some r) (h : Q r s.2.2.2.1 s.2.2.2.2) : zWp d cd s Q :=
  ⟨1, r, _, _, ⟨w, hc, Or.inr (Or.inr ⟨hk, hs, rfl, rfl⟩)⟩, h⟩
theorem zWp_post {d : Nat} {cd : List (Option zR)} {s : zS} {Q Q1 : Option zV → List zC → zM → Prop} (h : zWp d cd s Q1) (hq : ∀ r S M, Q1 r S M → Q r S M) : zWp d cd s Q := by
  obtain ⟨n, r, S', M', hg, h1⟩ := h
  exact ⟨n, r, S', M', hg, hq _ _ _ h1⟩
theorem zSp_of {d k : Nat} {E : zE} {as : List zV} {S : List zC} {M : zM} {Q : Option zV → List zC → zM → Prop} (hE : zmt[k]? = some E) (hl : as.length ≤ E.2.2.1) (h : zWp d E.2.2.2.2.2.2.2 (0, zent E.2.2.1 as, [], S, M) Q) : zSp (d + 1) k as S M Q := by
  obtain ⟨n, r, S', M', hg, hq⟩ := h
  exact ⟨r, S', M', ⟨E, n, hE, hl, hg⟩, hq⟩
theorem zGo_sub {C C2 : Nat → List zV → List zC → zM → Option zV → List zC → zM → Prop} (hC : ∀ k as S M r S' M', C k as S M r S' M' → C2 k as S M r S' M') {cd : List (Option zR)} : ∀ (n : Nat) (s : zS) (r : Option zV) (S' : List zC) (M' : zM), zGo zdef C cd n s r S' M' → zGo zdef C2 cd n s r S' M'
  | 0, _, _, _, _, h => h.elim
  | n + 1, s, r, S', M', h => by
    obtain ⟨w, hcd, h | h | h⟩ := h
    · obtain ⟨hk, s2, hs, hg⟩ := h
      exact ⟨w, hcd, Or.inl ⟨hk, s2, hs, zGo_sub hC n _ _ _ _ hg⟩⟩
    · obtain ⟨hk, k, as, rest, v, S1, M1, h2, h3, hg⟩ := h
      exact ⟨w, hcd, Or.inr (Or.inl ⟨hk, k, as, rest, v, S1, M1, h2, hC _ _ _ _ _ _ _ h3, zGo_sub hC n _ _ _ _ hg⟩)⟩
    · exact ⟨w, hcd, Or.inr (Or.inr h)⟩
theorem zCR_succ : ∀ (d k : Nat) (as : List zV) (S : List zC) (M : zM) (r : Option zV) (S' : List zC) (M' : zM), zCR d k as S M r S' M' → zCR (d + 1) k as S M r S' M'
  | 0, _, _, _, _, _, _, _, h => h.elim
  | d + 1, k, as, S, M, r, S', M', h => by
    obtain ⟨E, n, h1, h2, hg⟩ := h
    exact ⟨E, n, h1, h2, zGo_sub (zCR_succ d) n _ _ _ _ hg⟩
theorem zSp_mono {d d2 k : Nat} {as : List zV} {S : List zC} {M : zM} {Q : Option zV → List zC → zM → Prop} (hd : d ≤ d2) (h : zSp d k as S M Q) : zSp d2 k as S M Q := by
  obtain ⟨j, rfl⟩ := Nat.exists_eq_add_of_le hd
  clear hd
  induction j with
  | zero => exact h
  | succ j ih =>
    obtain ⟨r, S', M', hc, hq⟩ := ih
    exact ⟨r, S', M', zCR_succ _ _ _ _ _ _ _ _ hc, hq⟩
theorem zwid {x : Int} (h1 : -2147483648 ≤ x) (h2 : x < 2147483648) : zw x = x := Int32.toInt_ofInt_of_le h1 h2
end
section
/-! THE CELLS BEHIND THE TWO CONSTRUCTORS (printed by wip/whole/shape.py), and rows for runs over them -/
def zSh (L : Nat) : List zC := [.inl L,
  .inr (7, [some (some 2), some (some 9), some (some 13), some (some 18), some (some 20), some (some 22), some (some 24), some (some 26), some (some 33), none, none, none, none, none]),
  .inr (0, [some (some 3), some (some 4), some (some 5), some (some 6), some (some 7), some (some 8), none, none]),
  .inl 60,
  .inl 60,
  .inl 60,
  .inl 60,
  .inl 60,
  .inl 7,
  .inr (1, [some (some 11), some (some 12), none, none, some (some 2), some (some 10)]),
  .inl 1770,
  .inl 60,
  .inl 60,
  .inr (2, [some (some 14), some (some 15), some (some 2), some (some 9), some (some 16), some (some 17)]),
  .inl 60,
  .inl 60,
  .inl 60,
  .inl 60,
  .inr (4, [some (some 19), some (some 2), some (some 9)]),
  .inl 60,
  .inr (4, [some (some 21), some (some 2), some (some 9)]),
  .inl 60,
  .inr (6, [some (some 2), some (some 9), some (some 23), none]),
  .inl 60,
  .inr (5, [some (some 25), none, none, some (some 2), some (some 9)]),
  .inl 60,
  .inr (3, [some (some 2), some (some 27), some (some 28), some (some 29), some (some 30), some (some 31), some (some 32)]),
  .inl 16,
  .inl 64,
  .inl 16,
  .inl 64,
  .inl 60,
  .inl 60,
  .inl 60,
  .inr (8, [some (some 35), some (some 36), some (some 37), some (some 38), some (some 39), none, some (some 40), none, some (some 41), none, some (some 42), some (some 43), some (some 44), some (some 45), some (some 46), some (some 47), some (some 48), none, some (some 49), some (some 50), none, none, some (some 51), some (some 52), some (some 53), some (some 54), some (some 55), some (some 56)]),
  .inl 60,
  .inl 60,
  .inl 60,
  .inl 60,
  .inl 60,
  .inl 7,
  .inl 3600,
  .inl 60,
  .inl 60,
  .inl 60,
  .inl 60,
  .inl 60,
  .inl 60,
  .inl 60,
  .inl 60,
  .inl 60,
  .inl 16,
  .inl 64,
  .inl 16,
  .inl 64,
  .inl 60,
  .inl 60]
def zr (S : List zC) (d : Nat) (cd : List (Option zR)) (pc : Nat) (ls : List (Option zV)) (st : List zV) (M : zM) (Q : Option zV → zM → Prop) : Prop := zWp d cd (pc, ls, st, S, M) (fun r S' M' => S' = S ∧ Q r M')
def zf (S : List zC) (d k : Nat) (as : List zV) (M : zM) (Q : Option zV → zM → Prop) : Prop := zSp d k as (S) M (fun r S' M' => S' = S ∧ Q r M')
/-- steps that are taken without a look: no branch, no way back -/
def zfw (w : zR) : Bool := match w with
  | (.goto off, _, _, _) => decide (0 ≤ off)
  | (.ifCond _ _, _, _, _) => false
  | (.if_icmp _ _, _, _, _) => false
  | (.tableswitch _ _ _ _, _, _, _) => false
  | (.lookupswitch _ _, _, _, _) => false
  | w => zkind w == 0
theorem zfw_kind {w : zR} (h : zfw w = true) : zkind w = 0 := by
  obtain ⟨ins, ra, rb, rt⟩ := w
  cases ins <;> first | rfl | (simp [zfw] at h; done) | simpa [zfw] using h
section ZR
variable {S : List zC} {d : Nat} {cd : List (Option zR)} {pc : Nat} {ls : List (Option zV)} {st : List zV} {M : zM} {Q : Option zV → zM → Prop} {w : zR}
theorem zr_s {pc2 : Nat} {ls2 : List (Option zV)} {st2 : List zV} {M2 : zM} (hc : cd[pc]? = some (some w)) (hf : zfw w = true) (hs : zstep zdef w (pc, ls, st, S, M) = some (pc2, ls2, st2, S, M2)) (k : zr S d cd pc2 ls2 st2 M2 Q) : zr S d cd pc ls st M Q := zWp_step hc (zfw_kind hf) hs k
/-- the same, but not from 'stop' on -/
theorem zr_t (stop : Nat) {pc2 : Nat} {ls2 : List (Option zV)} {st2 : List zV} {M2 : zM} (hp : (pc == stop) = false) (hc : cd[pc]? = some (some w)) (hf : zfw w = true) (hs : zstep zdef w (pc, ls, st, S, M) = some (pc2, ls2, st2, S, M2)) (k : zr S d cd pc2 ls2 st2 M2 Q) : zr S d cd pc ls st M Q := zWp_step hc (zfw_kind hf) hs k
/-- a way back -/
theorem zr_b {off : Int} {ra rb rt pc2 : Nat} (hc : cd[pc]? = some (some (.goto off, ra, rb, rt))) (hp : ztgt pc off = pc2) (k : zr S d cd pc2 ls st M Q) : zr S d cd pc ls st M Q := zWp_step hc rfl (by subst hp; rfl) k
theorem zr_post {Q1 : Option zV → zM → Prop} (h : zr S d cd pc ls st M Q1) (hq : ∀ r M, Q1 r M → Q r M) : zr S d cd pc ls st M Q := zWp_post h (fun r S M hh => ⟨hh.1, hq r M hh.2⟩)
theorem zr_ret {x : Int} {ra rb : Nat} (hc : cd[pc]? = some (some (.ireturn, ra, rb, 0))) (h : Q (some (.inl x)) M) : zr S d cd pc ls [.inl x] M Q := zWp_ret hc rfl rfl ⟨rfl, h⟩
theorem zr_retz {x : Int} {ra rb : Nat} (hc : cd[pc]? = some (some (.ireturn, ra, rb, 1))) (hx : x = 0 ∨ x = 1) (h : Q (some (.inl x)) M) : zr S d cd pc ls [.inl x] M Q := zWp_ret hc rfl (if_pos (fun _ => hx)) ⟨rfl, h⟩
theorem zr_retv {ra rb rt : Nat} (hc : cd[pc]? = some (some (.return_, ra, rb, rt))) (h : Q none M) : zr S d cd pc ls [] M Q := zWp_ret hc rfl rfl ⟨rfl, h⟩
theorem zr_c {k : Nat} {as rest : List zV} {Q1 : Option zV → zM → Prop} (hc : cd[pc]? = some (some w)) (hk : zkind w = 1) (hs : zcall w (pc, ls, st, S, M) = some (k, as, rest)) (hp : zf S d k as M Q1) (h : ∀ v M1, Q1 v M1 → zr S d cd (pc + 3) ls (v.toList ++ rest) M1 Q) : zr S d cd pc ls st M Q := zWp_call hc hk hs hp (fun v S1 M1 hh => by obtain ⟨rfl, hh⟩ := hh; exact h v M1 hh)
/-- a call that changes nothing and answers a number -/
theorem zr_cr {k : Nat} {as rest : List zV} {x : Int} (hc : cd[pc]? = some (some w)) (hk : zkind w = 1) (hs : zcall w (pc, ls, st, S, M) = some (k, as, rest)) (hp : zf S d k as M (fun v M1 => v = some (.inl x) ∧ M1 = M)) (h : zr S d cd (pc + 3) ls (.inl x :: rest) M Q) : zr S d cd pc ls st M Q := zr_c hc hk hs hp (fun v M1 hh => by obtain ⟨rfl, rfl⟩ := hh; exact h)
theorem zf_of {k : Nat} {E : zE} {as : List zV} (hE : zmt[k]? = some E) (hl : as.length ≤ E.2.2.1) (h : zr S d E.2.2.2.2.2.2.2 0 (zent E.2.2.1 as) [] M Q) : zf S (d + 1) k as M Q := zSp_of hE hl h
theorem zf_mono {d2 k : Nat} {as : List zV} (hd : d ≤ d2) (h : zf S d k as M Q) : zf S d2 k as M Q := zSp_mono hd h
theorem zf_post {k : Nat} {as : List zV} {Q1 : Option zV → zM → Prop} (h : zf S d k as M Q1) (hq : ∀ r M, Q1 r M → Q r M) : zf S d k as M Q := by
  obtain ⟨r, S', M', hc, h1, h2⟩ := h
  exact ⟨r, S', M', hc, h1, hq _ _ h2⟩
theorem zr_ald {i : Int} {j n : Nat} {ra rb rt : Nat} (k : Nat) (hc : cd[pc]? = some (some (.iaload, ra, rb, rt))) (hS : (S)[j]? = some (.inl n)) (hi : i = (k : Int)) (hk : k < n) (hn : (n : Int) ≤ 2147483647) (h : zr S d cd (pc + 1) ls (.inl (M j k) :: st) M Q) : zr S d cd pc ls (.inl i :: .inr (some j) :: st) M Q := by
  subst hi
  have hw : zw (k : Int) = (k : Int) := zwid (by omega) (by omega)
  refine zWp_step hc rfl ?_ h
  simp only [zstep, hS]
  rw [hw, if_pos ⟨by omega, by omega⟩]
  rfl
theorem zr_ast {i x : Int} {j n : Nat} {ra rb rt : Nat} (k : Nat) (hc : cd[pc]? = some (some (.iastore, ra, rb, rt))) (hS : (S)[j + 1]? = some (.inl n)) (hi : i = (k : Int)) (hk : k < n) (hn : (n : Int) ≤ 2147483647) (h : zr S d cd (pc + 1) ls st (zup M (j + 1) k x) Q) : zr S d cd pc ls (.inl x :: .inl i :: .inr (some (j + 1)) :: st) M Q := by
  subst hi
  have hw : zw (k : Int) = (k : Int) := zwid (by omega) (by omega)
  refine zWp_step hc rfl ?_ h
  simp only [zstep, hS]
  rw [hw, if_pos ⟨by omega, by omega⟩]
  rfl
theorem zr_ieq {x y : Int} {off : Int} {ra rb rt : Nat} (hc : cd[pc]? = some (some (.if_icmp .eq off, ra, rb, rt))) (hx : -2147483648 ≤ x ∧ x < 2147483648) (hy : -2147483648 ≤ y ∧ y < 2147483648) (kt : x = y → zr S d cd (ztgt pc off) ls st M Q) (kf : ¬ x = y → zr S d cd (pc + 3) ls st M Q) : zr S d cd pc ls (.inl y :: .inl x :: st) M Q := by
  have hwx := zwid hx.1 hx.2
  have hwy := zwid hy.1 hy.2
  by_cases hh : x = y
  · refine zWp_step hc rfl (s2 := (ztgt pc off, ls, st, S, M)) ?_ (kt hh)
    show some (if zw x = zw y then ztgt pc off else pc + 3, ls, st, S, M) = _
    rw [hwx, hwy, if_pos (by omega)]
  · refine zWp_step hc rfl (s2 := (pc + 3, ls, st, S, M)) ?_ (kf (by omega))
    show some (if zw x = zw y then ztgt pc off else pc + 3, ls, st, S, M) = _
    rw [hwx, hwy, if_neg (by omega)]
theorem zr_zeq {x : Int} {off : Int} {ra rb rt : Nat} (hc : cd[pc]? = some (some (.ifCond .eq off, ra, rb, rt))) (hx : -2147483648 ≤ x ∧ x < 2147483648) (kt : x = 0 → zr S d cd (ztgt pc off) ls st M Q) (kf : ¬ x = 0 → zr S d cd (pc + 3) ls st M Q) : zr S d cd pc ls (.inl x :: st) M Q := by
  have hwx := zwid hx.1 hx.2
  by_cases hh : x = 0
  · refine zWp_step hc rfl (s2 := (ztgt pc off, ls, st, S, M)) ?_ (kt hh)
    show some (if zw x = 0 then ztgt pc off else pc + 3, ls, st, S, M) = _
    rw [hwx, if_pos (by omega)]
  · refine zWp_step hc rfl (s2 := (pc + 3, ls, st, S, M)) ?_ (kf (by omega))
    show some (if zw x = 0 then ztgt pc off else pc + 3, ls, st, S, M) = _
    rw [hwx, if_neg (by omega)]
theorem zr_ine {x y : Int} {off : Int} {ra rb rt : Nat} (hc : cd[pc]? = some (some (.if_icmp .ne off, ra, rb, rt))) (hx : -2147483648 ≤ x ∧ x < 2147483648) (hy : -2147483648 ≤ y ∧ y < 2147483648) (kt : x ≠ y → zr S d cd (ztgt pc off) ls st M Q) (kf : x = y → zr S d cd (pc + 3) ls st M Q) : zr S d cd pc ls (.inl y :: .inl x :: st) M Q := by
  have hwx := zwid hx.1 hx.2
  have hwy := zwid hy.1 hy.2
  by_cases hh : x ≠ y
  · refine zWp_step hc rfl (s2 := (ztgt pc off, ls, st, S, M)) ?_ (kt hh)
    show some (if zw x ≠ zw y then ztgt pc off else pc + 3, ls, st, S, M) = _
    rw [hwx, hwy, if_pos (by omega)]
  · refine zWp_step hc rfl (s2 := (pc + 3, ls, st, S, M)) ?_ (kf (by omega))
    show some (if zw x ≠ zw y then ztgt pc off else pc + 3, ls, st, S, M) = _
    rw [hwx, hwy, if_neg (by omega)]
theorem zr_zne {x : Int} {off : Int} {ra rb rt : Nat} (hc : cd[pc]? = some (some (.ifCond .ne off, ra, rb, rt))) (hx : -2147483648 ≤ x ∧ x < 2147483648) (kt : x ≠ 0 → zr S d cd (ztgt pc off) ls st M Q) (kf : x = 0 → zr S d cd (pc + 3) ls st M Q) : zr S d cd pc ls (.inl x :: st) M Q := by
  have hwx := zwid hx.1 hx.2
  by_cases hh : x ≠ 0
  · refine zWp_step hc rfl (s2 := (ztgt pc off, ls, st, S, M)) ?_ (kt hh)
    show some (if zw x ≠ 0 then ztgt pc off else pc + 3, ls, st, S, M) = _
    rw [hwx, if_pos (by omega)]
  · refine zWp_step hc rfl (s2 := (pc + 3, ls, st, S, M)) ?_ (kf (by omega))
    show some (if zw x ≠ 0 then ztgt pc off else pc + 3, ls, st, S, M) = _
    rw [hwx, if_neg (by omega)]
theorem zr_ilt {x y : Int} {off : Int} {ra rb rt : Nat} (hc : cd[pc]? = some (some (.if_icmp .lt off, ra, rb, rt))) (hx : -2147483648 ≤ x ∧ x < 2147483648) (hy : -2147483648 ≤ y ∧ y < 2147483648) (kt : x < y → zr S d cd (ztgt pc off) ls st M Q) (kf : y ≤ x → zr S d cd (pc + 3) ls st M Q) : zr S d cd pc ls (.inl y :: .inl x :: st) M Q := by
  have hwx := zwid hx.1 hx.2
  have hwy := zwid hy.1 hy.2
  by_cases hh : x < y
  · refine zWp_step hc rfl (s2 := (ztgt pc off, ls, st, S, M)) ?_ (kt hh)
    show some (if zw x < zw y then ztgt pc off else pc + 3, ls, st, S, M) = _
    rw [hwx, hwy, if_pos (by omega)]
  · refine zWp_step hc rfl (s2 := (pc + 3, ls, st, S, M)) ?_ (kf (by omega))
    show some (if zw x < zw y then ztgt pc off else pc + 3, ls, st, S, M) = _
    rw [hwx, hwy, if_neg (by omega)]
theorem zr_zlt {x : Int} {off : Int} {ra rb rt : Nat} (hc : cd[pc]? = some (some (.ifCond .lt off, ra, rb, rt))) (hx : -2147483648 ≤ x ∧ x < 2147483648) (kt : x < 0 → zr S d cd (ztgt pc off) ls st M Q) (kf : 0 ≤ x → zr S d cd (pc + 3) ls st M Q) : zr S d cd pc ls (.inl x :: st) M Q := by
  have hwx := zwid hx.1 hx.2
  by_cases hh : x < 0
  · refine zWp_step hc rfl (s2 := (ztgt pc off, ls, st, S, M)) ?_ (kt hh)
    show some (if zw x < 0 then ztgt pc off else pc + 3, ls, st, S, M) = _
    rw [hwx, if_pos (by omega)]
  · refine zWp_step hc rfl (s2 := (pc + 3, ls, st, S, M)) ?_ (kf (by omega))
    show some (if zw x < 0 then ztgt pc off else pc + 3, ls, st, S, M) = _
    rw [hwx, if_neg (by omega)]
theorem zr_ige {x y : Int} {off : Int} {ra rb rt : Nat} (hc : cd[pc]? = some (some (.if_icmp .ge off, ra, rb, rt))) (hx : -2147483648 ≤ x ∧ x < 2147483648) (hy : -2147483648 ≤ y ∧ y < 2147483648) (kt : y ≤ x → zr S d cd (ztgt pc off) ls st M Q) (kf : x < y → zr S d cd (pc + 3) ls st M Q) : zr S d cd pc ls (.inl y :: .inl x :: st) M Q := by
  have hwx := zwid hx.1 hx.2
  have hwy := zwid hy.1 hy.2
  by_cases hh : y ≤ x
  · refine zWp_step hc rfl (s2 := (ztgt pc off, ls, st, S, M)) ?_ (kt hh)
    show some (if zw x ≥ zw y then ztgt pc off else pc + 3, ls, st, S, M) = _
    rw [hwx, hwy, if_pos (by omega)]
  · refine zWp_step hc rfl (s2 := (pc + 3, ls, st, S, M)) ?_ (kf (by omega))
    show some (if zw x ≥ zw y then ztgt pc off else pc + 3, ls, st, S, M) = _
    rw [hwx, hwy, if_neg (by omega)]
theorem zr_zge {x : Int} {off : Int} {ra rb rt : Nat} (hc : cd[pc]? = some (some (.ifCond .ge off, ra, rb, rt))) (hx : -2147483648 ≤ x ∧ x < 2147483648) (kt : 0 ≤ x → zr S d cd (ztgt pc off) ls st M Q) (kf : x < 0 → zr S d cd (pc + 3) ls st M Q) : zr S d cd pc ls (.inl x :: st) M Q := by
  have hwx := zwid hx.1 hx.2
  by_cases hh : 0 ≤ x
  · refine zWp_step hc rfl (s2 := (ztgt pc off, ls, st, S, M)) ?_ (kt hh)
    show some (if zw x ≥ 0 then ztgt pc off else pc + 3, ls, st, S, M) = _
    rw [hwx, if_pos (by omega)]
  · refine zWp_step hc rfl (s2 := (pc + 3, ls, st, S, M)) ?_ (kf (by omega))
    show some (if zw x ≥ 0 then ztgt pc off else pc + 3, ls, st, S, M) = _
    rw [hwx, if_neg (by omega)]
theorem zr_igt {x y : Int} {off : Int} {ra rb rt : Nat} (hc : cd[pc]? = some (some (.if_icmp .gt off, ra, rb, rt))) (hx : -2147483648 ≤ x ∧ x < 2147483648) (hy : -2147483648 ≤ y ∧ y < 2147483648) (kt : y < x → zr S d cd (ztgt pc off) ls st M Q) (kf : x ≤ y → zr S d cd (pc + 3) ls st M Q) : zr S d cd pc ls (.inl y :: .inl x :: st) M Q := by
  have hwx := zwid hx.1 hx.2
  have hwy := zwid hy.1 hy.2
  by_cases hh : y < x
  · refine zWp_step hc rfl (s2 := (ztgt pc off, ls, st, S, M)) ?_ (kt hh)
    show some (if zw x > zw y then ztgt pc off else pc + 3, ls, st, S, M) = _
    rw [hwx, hwy, if_pos (by omega)]
  · refine zWp_step hc rfl (s2 := (pc + 3, ls, st, S, M)) ?_ (kf (by omega))
    show some (if zw x > zw y then ztgt pc off else pc + 3, ls, st, S, M) = _
    rw [hwx, hwy, if_neg (by omega)]
theorem zr_zgt {x : Int} {off : Int} {ra rb rt : Nat} (hc : cd[pc]? = some (some (.ifCond .gt off, ra, rb, rt))) (hx : -2147483648 ≤ x ∧ x < 2147483648) (kt : 0 < x → zr S d cd (ztgt pc off) ls st M Q) (kf : x ≤ 0 → zr S d cd (pc + 3) ls st M Q) : zr S d cd pc ls (.inl x :: st) M Q := by
  have hwx := zwid hx.1 hx.2
  by_cases hh : 0 < x
  · refine zWp_step hc rfl (s2 := (ztgt pc off, ls, st, S, M)) ?_ (kt hh)
    show some (if zw x > 0 then ztgt pc off else pc + 3, ls, st, S, M) = _
    rw [hwx, if_pos (by omega)]
  · refine zWp_step hc rfl (s2 := (pc + 3, ls, st, S, M)) ?_ (kf (by omega))
    show some (if zw x > 0 then ztgt pc off else pc + 3, ls, st, S, M) = _
    rw [hwx, if_neg (by omega)]
theorem zr_ile {x y : Int} {off : Int} {ra rb rt : Nat} (hc : cd[pc]? = some (some (.if_icmp .le off, ra, rb, rt))) (hx : -2147483648 ≤ x ∧ x < 2147483648) (hy : -2147483648 ≤ y ∧ y < 2147483648) (kt : x ≤ y → zr S d cd (ztgt pc off) ls st M Q) (kf : y < x → zr S d cd (pc + 3) ls st M Q) : zr S d cd pc ls (.inl y :: .inl x :: st) M Q := by
  have hwx := zwid hx.1 hx.2
  have hwy := zwid hy.1 hy.2
  by_cases hh : x ≤ y
  · refine zWp_step hc rfl (s2 := (ztgt pc off, ls, st, S, M)) ?_ (kt hh)
    show some (if zw x ≤ zw y then ztgt pc off else pc + 3, ls, st, S, M) = _
    rw [hwx, hwy, if_pos (by omega)]
  · refine zWp_step hc rfl (s2 := (pc + 3, ls, st, S, M)) ?_ (kf (by omega))
    show some (if zw x ≤ zw y then ztgt pc off else pc + 3, ls, st, S, M) = _
    rw [hwx, hwy, if_neg (by omega)]
theorem zr_zle {x : Int} {off : Int} {ra rb rt : Nat} (hc : cd[pc]? = some (some (.ifCond .le off, ra, rb, rt))) (hx : -2147483648 ≤ x ∧ x < 2147483648) (kt : x ≤ 0 → zr S d cd (ztgt pc off) ls st M Q) (kf : 0 < x → zr S d cd (pc + 3) ls st M Q) : zr S d cd pc ls (.inl x :: st) M Q := by
  have hwx := zwid hx.1 hx.2
  by_cases hh : x ≤ 0
  · refine zWp_step hc rfl (s2 := (ztgt pc off, ls, st, S, M)) ?_ (kt hh)
    show some (if zw x ≤ 0 then ztgt pc off else pc + 3, ls, st, S, M) = _
    rw [hwx, if_pos (by omega)]
  · refine zWp_step hc rfl (s2 := (pc + 3, ls, st, S, M)) ?_ (kf (by omega))
    show some (if zw x ≤ 0 then ztgt pc off else pc + 3, ls, st, S, M) = _
    rw [hwx, if_neg (by omega)]
end ZR
end
section
/-! SMALL METHODS: Math, Arrays, and the tests of kinds and registers -/
abbrev zvi (x : Int) : zV := .inl x
abbrev zvr (j : Nat) : zV := .inr (some j)
abbrev zI (x : Int) : Prop := -2147483648 ≤ x ∧ x < 2147483648
/-- a truth value as a number -/
def zb (p : Bool) : Int := if p then 1 else 0
theorem zb_01 (p : Bool) : zb p = 0 ∨ zb p = 1 := by cases p <;> simp [zb]
theorem zb_t {p : Bool} (h : p = true) : zb p = 1 := by rw [h]; rfl
theorem zb_f {p : Bool} (h : p = false) : zb p = 0 := by rw [h]; rfl
theorem zb_I (p : Bool) : zI (zb p) := by cases p <;> decide
section ZX
variable {S : List zC} {M : zM}
theorem sp_max {x y : Int} (hx : zI x) (hy : zI y) : zf S 1 kJ9_max_7cf53 [zvi x, zvi y] M (fun v M1 => v = some (.inl (max x y)) ∧ M1 = M) := by
  refine zf_of rfl (Nat.le_of_ble_eq_true rfl) ?_
  repeat refine zr_s rfl rfl rfl ?_
  refine zr_ilt rfl hx hy (fun h => ?_) (fun h => ?_)
  · repeat refine zr_s rfl rfl rfl ?_
    exact zr_ret rfl (⟨by rw [show max x y = y by omega], rfl⟩)
  · repeat refine zr_s rfl rfl rfl ?_
    exact zr_ret rfl (⟨by rw [show max x y = x by omega], rfl⟩)
theorem sp_min {x y : Int} (hx : zI x) (hy : zI y) : zf S 1 kJ9_min_7cf53 [zvi x, zvi y] M (fun v M1 => v = some (.inl (min x y)) ∧ M1 = M) := by
  refine zf_of rfl (Nat.le_of_ble_eq_true rfl) ?_
  repeat refine zr_s rfl rfl rfl ?_
  refine zr_igt rfl hx hy (fun h => ?_) (fun h => ?_)
  · repeat refine zr_s rfl rfl rfl ?_
    exact zr_ret rfl (⟨by rw [show min x y = y by omega], rfl⟩)
  · repeat refine zr_s rfl rfl rfl ?_
    exact zr_ret rfl (⟨by rw [show min x y = x by omega], rfl⟩)
theorem sp_isKind {x : Int} (hx : zI x) : zf S 1 kX7_isKind [zvi x] M (fun v M1 => v = some (.inl (zb (decide (0 ≤ x ∧ x < 7)))) ∧ M1 = M) := by
  refine zf_of rfl (Nat.le_of_ble_eq_true rfl) ?_
  repeat refine zr_s rfl rfl rfl ?_
  refine zr_zlt rfl hx (fun h => ?_) (fun h => ?_)
  · repeat refine zr_s rfl rfl rfl ?_
    exact zr_retz rfl (by omega) (⟨by rw [zb_f (by simp; omega)], rfl⟩)
  · repeat refine zr_s rfl rfl rfl ?_
    refine zr_ige rfl hx (by decide) (fun h => ?_) (fun h => ?_)
    · repeat refine zr_s rfl rfl rfl ?_
      exact zr_retz rfl (by omega) (⟨by rw [zb_f (by simp; omega)], rfl⟩)
    · repeat refine zr_s rfl rfl rfl ?_
      exact zr_retz rfl (by omega) (⟨by rw [zb_t (by simp; omega)], rfl⟩)
theorem sp_isRegister {x : Int} (hx : zI x) : zf S 1 kX7_isRegister [zvi x] M (fun v M1 => v = some (.inl (zb (decide (0 ≤ x ∧ x < 16)))) ∧ M1 = M) := by
  refine zf_of rfl (Nat.le_of_ble_eq_true rfl) ?_
  repeat refine zr_s rfl rfl rfl ?_
  refine zr_zlt rfl hx (fun h => ?_) (fun h => ?_)
  · repeat refine zr_s rfl rfl rfl ?_
    exact zr_retz rfl (by omega) (⟨by rw [zb_f (by simp; omega)], rfl⟩)
  · repeat refine zr_s rfl rfl rfl ?_
    refine zr_ige rfl hx (by decide) (fun h => ?_) (fun h => ?_)
    · repeat refine zr_s rfl rfl rfl ?_
      exact zr_retz rfl (by omega) (⟨by rw [zb_f (by simp; omega)], rfl⟩)
    · repeat refine zr_s rfl rfl rfl ?_
      exact zr_retz rfl (by omega) (⟨by rw [zb_t (by simp; omega)], rfl⟩)
theorem sp_isRegisterM {x : Int} (hx : zI x) : zf S 1 kX8_isRegister [zvi x] M (fun v M1 => v = some (.inl (zb (decide (0 ≤ x ∧ x < 16)))) ∧ M1 = M) := by
  refine zf_of rfl (Nat.le_of_ble_eq_true rfl) ?_
  repeat refine zr_s rfl rfl rfl ?_
  refine zr_zlt rfl hx (fun h => ?_) (fun h => ?_)
  · repeat refine zr_s rfl rfl rfl ?_
    exact zr_retz rfl (by omega) (⟨by rw [zb_f (by simp; omega)], rfl⟩)
  · repeat refine zr_s rfl rfl rfl ?_
    refine zr_ige rfl hx (by decide) (fun h => ?_) (fun h => ?_)
    · repeat refine zr_s rfl rfl rfl ?_
      exact zr_retz rfl (by omega) (⟨by rw [zb_f (by simp; omega)], rfl⟩)
    · repeat refine zr_s rfl rfl rfl ?_
      exact zr_retz rfl (by omega) (⟨by rw [zb_t (by simp; omega)], rfl⟩)
theorem sp_namesTarget {x : Int} (hx : zI x) : zf S 1 kX7_namesTarget [zvi x] M (fun v M1 => v = some (.inl (zb (decide (x ≠ 6)))) ∧ M1 = M) := by
  refine zf_of rfl (Nat.le_of_ble_eq_true rfl) ?_
  repeat refine zr_s rfl rfl rfl ?_
  refine zr_ieq rfl hx (by decide) (fun h => ?_) (fun h => ?_)
  · repeat refine zr_s rfl rfl rfl ?_
    exact zr_retz rfl (by omega) (⟨by rw [zb_f (by simp; omega)], rfl⟩)
  · repeat refine zr_s rfl rfl rfl ?_
    exact zr_retz rfl (by omega) (⟨by rw [zb_t (by simp; omega)], rfl⟩)
theorem sp_namesFirst {x : Int} (hx : zI x) : zf S 1 kX7_namesFirst [zvi x] M (fun v M1 => v = some (.inl (zb (decide (x ≠ 0)))) ∧ M1 = M) := by
  refine zf_of rfl (Nat.le_of_ble_eq_true rfl) ?_
  repeat refine zr_s rfl rfl rfl ?_
  refine zr_zeq rfl hx (fun h => ?_) (fun h => ?_)
  · repeat refine zr_s rfl rfl rfl ?_
    exact zr_retz rfl (by omega) (⟨by rw [zb_f (by simp; omega)], rfl⟩)
  · repeat refine zr_s rfl rfl rfl ?_
    exact zr_retz rfl (by omega) (⟨by rw [zb_t (by simp; omega)], rfl⟩)
theorem sp_namesSecond {x : Int} (hx : zI x) : zf S 1 kX7_namesSecond [zvi x] M (fun v M1 => v = some (.inl (zb (decide (x ≠ 0 ∧ x ≠ 5)))) ∧ M1 = M) := by
  refine zf_of rfl (Nat.le_of_ble_eq_true rfl) ?_
  repeat refine zr_s rfl rfl rfl ?_
  refine zr_zeq rfl hx (fun h => ?_) (fun h => ?_)
  · repeat refine zr_s rfl rfl rfl ?_
    exact zr_retz rfl (by omega) (⟨by rw [zb_f (by simp; omega)], rfl⟩)
  · repeat refine zr_s rfl rfl rfl ?_
    refine zr_ieq rfl hx (by decide) (fun h => ?_) (fun h => ?_)
    · repeat refine zr_s rfl rfl rfl ?_
      exact zr_retz rfl (by omega) (⟨by rw [zb_f (by simp; omega)], rfl⟩)
    · repeat refine zr_s rfl rfl rfl ?_
      exact zr_retz rfl (by omega) (⟨by rw [zb_t (by simp; omega)], rfl⟩)
end ZX
end
section
/-! Arrays.fill, Math.floorMod -/
def zfl (M : zM) (j i : Nat) (v : Int) : zM := fun a b => if a = j ∧ b < i then v else M a b
theorem zfl_0 (M : zM) (j : Nat) (v : Int) : zfl M j 0 v = M := by
  funext a b
  unfold zfl
  rw [if_neg (by omega)]
theorem zfl_s (M : zM) (j i : Nat) (v : Int) : zup (zfl M j i v) j i v = zfl M j (i + 1) v := by
  funext a b
  unfold zup zfl
  by_cases h1 : a = j ∧ b = i
  · rw [if_pos h1, if_pos ⟨h1.1, by omega⟩]
  · rw [if_neg h1]
    by_cases h2 : a = j ∧ b < i
    · rw [if_pos h2, if_pos ⟨h2.1, by omega⟩]
    · rw [if_neg h2, if_neg (by omega)]
section ZX
variable {S : List zC} {M : zM}
theorem sp_fill {j n : Nat} {x : Int} (hS : S[j + 1]? = some (.inl n)) (hn : n ≤ 65536) : zf S 1 kJ7_fill_53178 [zvr (j + 1), zvi x] M (fun v M1 => v = none ∧ M1 = zfl M (j + 1) n x) := by
  refine zf_of rfl (Nat.le_of_ble_eq_true rfl) ?_
  have hlen : zr S 0 tJ7_fill_53178 3 [some (zvr (j + 1)), some (zvi x), some (zvi 0), none] [zvr (j + 1)] M (fun v M1 => v = none ∧ M1 = zfl M (j + 1) n x) := by
    refine zr_s (M2 := M) (pc2 := 4) (ls2 := [some (zvr (j + 1)), some (zvi x), some (zvi 0), none]) (st2 := [zvi (n : Int)]) rfl rfl ?_ ?_
    · simp only [zstep, hS]
    repeat refine zr_t 5 rfl rfl rfl rfl ?_
    have loop : ∀ (k i : Nat), i + k = n → zr S 0 tJ7_fill_53178 5 [some (zvr (j + 1)), some (zvi x), some (zvi (i : Int)), some (zvi (n : Int))] [] (zfl M (j + 1) i x) (fun v M1 => v = none ∧ M1 = zfl M (j + 1) n x) := by
      intro k
      induction k with
      | zero =>
        intro i hi
        repeat refine zr_s rfl rfl rfl ?_
        refine zr_ige rfl (by omega) (by omega) (fun h => ?_) (fun h => by omega)
        repeat refine zr_s rfl rfl rfl ?_
        exact zr_retv rfl (⟨rfl, by rw [show i = n by omega]⟩)
      | succ k ih =>
        intro i hi
        repeat refine zr_s rfl rfl rfl ?_
        refine zr_ige rfl (by omega) (by omega) (fun h => by omega) (fun h => ?_)
        repeat refine zr_s rfl rfl rfl ?_
        refine zr_ast i rfl hS rfl (by omega) (by omega) ?_
        rw [zfl_s]
        repeat refine zr_s rfl rfl rfl ?_
        refine zr_b rfl rfl ?_
        exact ih (i + 1) (by omega)
    have h0 := loop n 0 (by omega)
    rw [zfl_0] at h0
    exact h0
  repeat refine zr_t 3 rfl rfl rfl rfl ?_
  exact hlen
theorem zto_I (z : Int32) : zI z.toInt := ⟨Int32.le_toInt z, Int32.toInt_lt z⟩
theorem zw_I (x : Int) : zI (zw x) := zto_I _
theorem zx64 (x : Int) : zxor x 64 < 0 ↔ zw x < 0 := by
  have h1 : ∀ z : Int32, (z.toInt < 0) ↔ z.toBitVec.msb = true := by
    intro z
    rw [BitVec.msb_eq_toInt, decide_eq_true_eq]
    rfl
  unfold zxor zw
  rw [h1, h1, Int32.toBitVec_xor, BitVec.msb_xor]
  have h2 : (Int32.ofInt 64).toBitVec.msb = false := by decide
  rw [h2, Bool.xor_false]
theorem zrem64 (x : Int) : zrem x 64 = (zw x).tmod 64 := rem_toInt (Int32.ofInt x) (Int32.ofInt 64)
theorem sp_floorMod {x : Int} : zf S 1 kJ9_floorMod_7cf53 [zvi x, zvi 64] M (fun v M1 => v = some (.inl (zw x % 64)) ∧ M1 = M) := by
  refine zf_of rfl (Nat.le_of_ble_eq_true rfl) ?_
  iterate 2 refine zr_s rfl rfl rfl ?_
  refine zr_s (M2 := M) (pc2 := 3) (ls2 := [some (zvi x), some (zvi 64), none]) (st2 := [zvi (zrem x 64)]) rfl rfl rfl ?_
  rw [zrem64]
  have hb := tmod_bounds (a := zw x) (M := 64) (by decide)
  have h1 := Int.tmod_eq_emod (a := zw x) (b := 64)
  have h2 := Int.emod_nonneg (zw x) (b := 64) (by decide)
  have h3 := Int.emod_lt_of_pos (zw x) (b := 64) (by decide)
  have hr : 0 ≤ zw x → 0 ≤ (zw x).tmod 64 := fun h => Int.tmod_nonneg _ h
  have hr2 : (zw x).tmod 64 = if 0 ≤ zw x ∨ 64 ∣ zw x then zw x % 64 else zw x % 64 - 64 := by
    rw [h1]
    split <;> simp
  have hdv : 64 ∣ zw x ↔ zw x % 64 = 0 := Int.dvd_iff_emod_eq_zero
  generalize (zw x).tmod 64 = r at hb hr hr2 ⊢
  have hx1 := zx64 x
  repeat refine zr_s rfl rfl rfl ?_
  refine zr_zge rfl (zto_I _) (fun h => ?_) (fun h => ?_)
  · repeat refine zr_s rfl rfl rfl ?_
    refine zr_ret rfl ⟨?_, rfl⟩
    rw [if_pos (Or.inl (by omega))] at hr2
    rw [hr2]
  · repeat refine zr_s rfl rfl rfl ?_
    refine zr_zeq rfl (by omega) (fun h4 => ?_) (fun h4 => ?_)
    · repeat refine zr_s rfl rfl rfl ?_
      refine zr_ret rfl ⟨?_, rfl⟩
      have : r = zw x % 64 := by
        split at hr2
        · exact hr2
        · omega
      rw [this]
    · repeat refine zr_s rfl rfl rfl ?_
      refine zr_ret rfl ⟨?_, rfl⟩
      have : r + 64 = zw x % 64 := by
        split at hr2
        · rename_i h5
          rw [hdv] at h5
          omega
        · omega
      rw [this]
end ZX
end
section
/-! A BLOCK, and the class Block's methods that only look -/
/-- n, units, kinds, targets, firsts, seconds, numbers, latencies by kind -/
abbrev zP : Type := Nat × Nat × (Nat → Nat) × (Nat → Nat) × (Nat → Nat) × (Nat → Nat) × (Nat → Int) × (Nat → Nat)
def pn (P : zP) : Nat := P.1
def pu (P : zP) : Nat := P.2.1
def pK (P : zP) : Nat → Nat := P.2.2.1
def pT (P : zP) : Nat → Nat := P.2.2.2.1
def pA (P : zP) : Nat → Nat := P.2.2.2.2.1
def pB (P : zP) : Nat → Nat := P.2.2.2.2.2.1
def pC (P : zP) : Nat → Int := P.2.2.2.2.2.2.1
def pq (P : zP) : Nat → Nat := P.2.2.2.2.2.2.2
/-- an instruction's latency -/
def pl (P : zP) (i : Nat) : Nat := pq P (pK P i)
def zWf (P : zP) : Prop := pn P ≤ 60 ∧ 1 ≤ pu P ∧ pu P ≤ 8 ∧ (∀ k, k < 7 → 1 ≤ pq P k ∧ pq P k ≤ 12) ∧ ∀ i, i < pn P → pK P i < 7 ∧ pT P i < 16 ∧ pA P i < 16 ∧ pB P i < 16 ∧ zI (pC P i)
/-- the class's cells hold the block -/
def zBk (M : zM) (P : zP) : Prop := M 2 6 = pn P ∧ M 2 7 = pu P ∧ (∀ k, k < 7 → M 8 k = pq P k) ∧ ∀ i, i < pn P → M 3 i = pK P i ∧ M 4 i = pT P i ∧ M 5 i = pA P i ∧ M 6 i = pB P i ∧ M 7 i = pC P i
theorem zBk_of {M M1 : zM} {P : zP} (h : zBk M P) (e : ∀ a, 2 ≤ a → a ≤ 8 → M1 a = M a) : zBk M1 P := by
  unfold zBk
  rw [e 2 (by omega) (by omega), e 3 (by omega) (by omega), e 4 (by omega) (by omega), e 5 (by omega) (by omega), e 6 (by omega) (by omega), e 7 (by omega) (by omega), e 8 (by omega) (by omega)]
  exact h
theorem zpl_le {P : zP} (hw : zWf P) {i : Nat} (hi : i < pn P) : 1 ≤ pl P i ∧ pl P i ≤ 12 := hw.2.2.2.1 _ (hw.2.2.2.2 i hi).1
def zone (t : Nat) : Int32 := Int32.ofInt 1 <<< (Int32.ofInt (t : Int) &&& 31)
/-- masks of the registers written and read -/
def zWm (P : zP) (i : Nat) : Int32 := if pK P i ≠ 6 then zone (pT P i) else 0
def zRm (P : zP) (i : Nat) : Int32 := if pK P i ≠ 0 then (if pK P i ≠ 5 then (0 ||| zone (pA P i)) ||| zone (pB P i) else 0 ||| zone (pA P i)) else 0
theorem zor_to (x y : Int32) : zor x.toInt y.toInt = (x ||| y).toInt := by simp [zor]
theorem zand_to (x y : Int32) : zand x.toInt y.toInt = (x &&& y).toInt := by simp [zand]
theorem zxor_to (x y : Int32) : zxor x.toInt y.toInt = (x ^^^ y).toInt := by simp [zxor]
/-- how long a plan is -/
def zlen (P : zP) (f : Nat → Int) : Nat → Int
  | 0 => 0
  | i + 1 => max (zlen P f i) (f i + pl P i)
section ZX
variable {L : Nat} {M : zM} {P : zP}
theorem sp_holds {x : Int} (hB : zBk M P) (hw : zWf P) (hx : zI x) : zf (zSh L) 1 kX0_holds [zvr 2, zvi x] M (fun v M1 => v = some (.inl (zb (decide (0 ≤ x ∧ x < pn P)))) ∧ M1 = M) := by
  have hn := hB.1
  have h60 := hw.1
  refine zf_of rfl (Nat.le_of_ble_eq_true rfl) ?_
  repeat refine zr_s rfl rfl rfl ?_
  refine zr_zlt rfl hx (fun h => ?_) (fun h => ?_)
  · repeat refine zr_s rfl rfl rfl ?_
    exact zr_retz rfl (by omega) (⟨by rw [zb_f (by simp; omega)], rfl⟩)
  · repeat refine zr_s rfl rfl rfl ?_
    refine zr_ige rfl hx (by omega) (fun h => ?_) (fun h => ?_)
    · repeat refine zr_s rfl rfl rfl ?_
      exact zr_retz rfl (by omega) (⟨by rw [zb_f (by simp; omega)], rfl⟩)
    · repeat refine zr_s rfl rfl rfl ?_
      exact zr_retz rfl (by omega) (⟨by rw [zb_t (by simp; omega)], rfl⟩)
theorem sp_latencyOf {i : Nat} (hB : zBk M P) (hw : zWf P) (hi : i < pn P) : zf (zSh L) 1 kX0_latencyOf [zvr 2, zvi i] M (fun v M1 => v = some (.inl (pl P i)) ∧ M1 = M) := by
  have h60 := hw.1
  have hk := (hB.2.2.2 i hi).1
  have hk7 := (hw.2.2.2.2 i hi).1
  refine zf_of rfl (Nat.le_of_ble_eq_true rfl) ?_
  repeat refine zr_s rfl rfl rfl ?_
  refine zr_ald (i) rfl rfl rfl (by omega) (by decide) ?_
  refine zr_ald (pK P i) rfl rfl (by omega) (by omega) (by decide) ?_
  exact zr_ret rfl (⟨by rw [hB.2.2.1 _ hk7]; rfl, rfl⟩)
theorem sp_written {i : Nat} (hB : zBk M P) (hw : zWf P) (hi : i < pn P) : zf (zSh L) 2 kX0_written [zvr 2, zvi i] M (fun v M1 => v = some (.inl (zWm P i).toInt) ∧ M1 = M) := by
  have h60 := hw.1
  obtain ⟨hk, ht, -⟩ := hB.2.2.2 i hi
  obtain ⟨hk7, ht16, -⟩ := hw.2.2.2.2 i hi
  refine zf_of rfl (Nat.le_of_ble_eq_true rfl) ?_
  repeat refine zr_s rfl rfl rfl ?_
  refine zr_ald (i) rfl rfl rfl (by omega) (by decide) ?_
  refine zr_cr rfl rfl rfl (zf_mono (Nat.le_of_ble_eq_true rfl) (sp_namesTarget (by omega))) ?_
  refine zr_zeq rfl (zb_I _) (fun h => ?_) (fun h => ?_)
  · repeat refine zr_s rfl rfl rfl ?_
    refine zr_ret rfl ⟨?_, rfl⟩
    have : pK P i = 6 := by
      by_cases h6 : pK P i = 6
      · exact h6
      · rw [zb_t (by simp; omega)] at h
        cases h
    simp [zWm, this]
  · repeat refine zr_s rfl rfl rfl ?_
    refine zr_ald (i) rfl rfl rfl (by omega) (by decide) ?_
    repeat refine zr_s rfl rfl rfl ?_
    refine zr_ret rfl ⟨?_, rfl⟩
    have : pK P i ≠ 6 := by
      intro h6
      rw [zb_f (by simp; omega)] at h
      exact h rfl
    rw [ht]
    simp [zWm, this, zone, zshl]
theorem sp_usesMemory {i : Nat} (hB : zBk M P) (hw : zWf P) (hi : i < pn P) : zf (zSh L) 1 kX0_usesMemory [zvr 2, zvi i] M (fun v M1 => v = some (.inl (zb (decide (5 ≤ pK P i)))) ∧ M1 = M) := by
  have h60 := hw.1
  obtain ⟨hk, ht, -⟩ := hB.2.2.2 i hi
  obtain ⟨hk7, ht16, -⟩ := hw.2.2.2.2 i hi
  refine zf_of rfl (Nat.le_of_ble_eq_true rfl) ?_
  repeat refine zr_s rfl rfl rfl ?_
  refine zr_ald (i) rfl rfl rfl (by omega) (by decide) ?_
  repeat refine zr_s rfl rfl rfl ?_
  refine zr_ieq rfl (by omega) (by omega) (fun h => ?_) (fun h => ?_)
  · repeat refine zr_s rfl rfl rfl ?_
    exact zr_retz rfl (by omega) (⟨by rw [zb_t (by simp; omega)], rfl⟩)
  · repeat refine zr_s rfl rfl rfl ?_
    refine zr_ald (i) rfl rfl rfl (by omega) (by decide) ?_
    repeat refine zr_s rfl rfl rfl ?_
    refine zr_ine rfl (by omega) (by omega) (fun h => ?_) (fun h => ?_)
    · repeat refine zr_s rfl rfl rfl ?_
      exact zr_retz rfl (by omega) (⟨by rw [zb_f (by simp; omega)], rfl⟩)
    · repeat refine zr_s rfl rfl rfl ?_
      exact zr_retz rfl (by omega) (⟨by rw [zb_t (by simp; omega)], rfl⟩)
theorem sp_read {i : Nat} (hB : zBk M P) (hw : zWf P) (hi : i < pn P) : zf (zSh L) 2 kX0_read [zvr 2, zvi i] M (fun v M1 => v = some (.inl (zRm P i).toInt) ∧ M1 = M) := by
  have h60 := hw.1
  obtain ⟨hk, ht, ha, hb, -⟩ := hB.2.2.2 i hi
  obtain ⟨hk7, ht16, ha16, hb16, -⟩ := hw.2.2.2.2 i hi
  refine zf_of rfl (Nat.le_of_ble_eq_true rfl) ?_
  repeat refine zr_s rfl rfl rfl ?_
  refine zr_ald (i) rfl rfl rfl (by omega) (by decide) ?_
  refine zr_cr rfl rfl rfl (zf_mono (Nat.le_of_ble_eq_true rfl) (sp_namesFirst (by omega))) ?_
  by_cases h0 : pK P i = 0
  · rw [zb_f (by simp; omega)]
    refine zr_zeq rfl (by decide) (fun h => ?_) (fun h => absurd rfl h)
    repeat refine zr_s rfl rfl rfl ?_
    refine zr_ald (i) rfl rfl rfl (by omega) (by decide) ?_
    refine zr_cr rfl rfl rfl (zf_mono (Nat.le_of_ble_eq_true rfl) (sp_namesSecond (by omega))) ?_
    rw [zb_f (by simp; omega)]
    refine zr_zeq rfl (by decide) (fun h => ?_) (fun h => absurd rfl h)
    repeat refine zr_s rfl rfl rfl ?_
    exact zr_ret rfl (⟨by simp [zRm, h0], rfl⟩)
  · rw [zb_t (by simp; omega)]
    refine zr_zeq rfl (by decide) (fun h => by cases h) (fun _ => ?_)
    repeat refine zr_s rfl rfl rfl ?_
    refine zr_ald (i) rfl rfl rfl (by omega) (by decide) ?_
    repeat refine zr_s rfl rfl rfl ?_
    refine zr_ald (i) rfl rfl rfl (by omega) (by decide) ?_
    rw [ha]
    refine zr_cr rfl rfl rfl (zf_mono (Nat.le_of_ble_eq_true rfl) (sp_namesSecond (by omega))) ?_
    by_cases h5 : pK P i = 5
    · rw [zb_f (by simp; omega)]
      refine zr_zeq rfl (by decide) (fun h => ?_) (fun h => absurd rfl h)
      repeat refine zr_s rfl rfl rfl ?_
      refine zr_ret rfl ⟨?_, rfl⟩
      simp [zRm, h0, h5, zor, zshl, zone]
    · rw [zb_t (by simp; omega)]
      refine zr_zeq rfl (by decide) (fun h => by cases h) (fun _ => ?_)
      repeat refine zr_s rfl rfl rfl ?_
      refine zr_ald (i) rfl rfl rfl (by omega) (by decide) ?_
      rw [hb]
      repeat refine zr_s rfl rfl rfl ?_
      refine zr_ret rfl ⟨?_, rfl⟩
      simp [zRm, h0, h5, zor, zshl, zone]
theorem zlen_I {P : zP} (hw : zWf P) {f : Nat → Int} (hf : ∀ i, i < pn P → -3 ≤ f i ∧ f i ≤ 1000000) : ∀ i, i ≤ pn P → 0 ≤ zlen P f i ∧ zlen P f i ≤ 1000012
  | 0, _ => by simp [zlen]
  | i + 1, h => by
    have h1 := zlen_I hw hf i (by omega)
    have h2 := hf i (by omega)
    have h3 := zpl_le hw (i := i) (by omega)
    simp only [zlen]
    omega
theorem sp_lengthOf {j : Nat} (hB : zBk M P) (hw : zWf P) (hj : (zSh L)[j]? = some (.inl 60)) (hf : ∀ i, i < pn P → -3 ≤ M j i ∧ M j i ≤ 1000000) : zf (zSh L) 2 kX0_lengthOf [zvr 2, zvr j] M (fun v M1 => v = some (.inl (zlen P (M j) (pn P))) ∧ M1 = M) := by
  have h60 := hw.1
  have hn := hB.1
  refine zf_of rfl (Nat.le_of_ble_eq_true rfl) ?_
  repeat refine zr_t 4 rfl rfl rfl rfl ?_
  have loop : ∀ (k i : Nat), i + k = pn P → zr (zSh L) 1 tX0_lengthOf 4 [some (zvr 2), some (zvr j), some (zvi (zlen P (M j) i)), some (zvi i)] [] M (fun v M1 => v = some (.inl (zlen P (M j) (pn P))) ∧ M1 = M) := by
    intro k
    induction k with
    | zero =>
      intro i hi
      repeat refine zr_s rfl rfl rfl ?_
      refine zr_ige rfl (by omega) (by omega) (fun h => ?_) (fun h => by omega)
      repeat refine zr_s rfl rfl rfl ?_
      exact zr_ret rfl (⟨by rw [show i = pn P by omega], rfl⟩)
    | succ k ih =>
      intro i hi
      have hl := zlen_I hw hf i (by omega)
      have hfi := hf i (by omega)
      have hp := zpl_le hw (i := i) (by omega)
      repeat refine zr_s rfl rfl rfl ?_
      refine zr_ige rfl (by omega) (by omega) (fun h => by omega) (fun h => ?_)
      repeat refine zr_s rfl rfl rfl ?_
      refine zr_ald i rfl hj rfl (by omega) (by decide) ?_
      repeat refine zr_s rfl rfl rfl ?_
      refine zr_cr rfl rfl rfl (zf_mono (Nat.le_of_ble_eq_true rfl) (sp_latencyOf hB hw (by omega))) ?_
      repeat refine zr_s rfl rfl rfl ?_
      refine zr_cr rfl rfl rfl (zf_mono (Nat.le_of_ble_eq_true rfl) (sp_max (by omega) (by omega))) ?_
      repeat refine zr_s rfl rfl rfl ?_
      refine zr_b rfl rfl ?_
      exact ih (i + 1) (by omega)
  exact loop (pn P) 0 (by omega)
end ZX
end
section
/-! DEPENDENCES: rows of delays, one delay -/
/-- where the row of j begins -/
def ztr : Nat → Nat
  | 0 => 0
  | j + 1 => ztr j + j
theorem ztr_eq (j : Nat) : (j : Int) * ((j : Int) - 1) = 2 * (ztr j : Int) := by
  induction j with
  | zero => rfl
  | succ j ih =>
    show ((j + 1 : Nat) : Int) * (((j + 1 : Nat) : Int) - 1) = 2 * ((ztr j + j : Nat) : Int)
    push_cast
    rw [show ((j : Int) + 1) * ((j : Int) + 1 - 1) = (j : Int) * ((j : Int) - 1) + 2 * (j : Int) by
      rw [show (j : Int) + 1 - 1 = j by omega, Int.add_mul, Int.mul_sub]
      omega, ih]
    omega
theorem ztr_mono {i j : Nat} (h : i ≤ j) : ztr i ≤ ztr j := by
  induction j with
  | zero => rw [show i = 0 by omega]; exact Nat.le_refl _
  | succ j ih =>
    by_cases h1 : i = j + 1
    · rw [h1]; exact Nat.le_refl _
    · exact Nat.le_trans (ih (by omega)) (Nat.le_add_right _ _)
theorem ztr_lt {j : Nat} (h : j < 60) : ztr j + j ≤ 1770 := by
  have h1 := ztr_mono (i := j + 1) (j := 60) (by omega)
  have h2 : ztr 60 = 1770 := by decide
  have h3 : ztr (j + 1) = ztr j + j := rfl
  omega
theorem ztr_inj {i j a b : Nat} (hi : a < i) (hj : b < j) (h : ztr i + a = ztr j + b) : i = j ∧ a = b := by
  rcases Nat.lt_trichotomy i j with h1 | h1 | h1
  · have h2 := ztr_mono (i := i + 1) (j := j) (by omega)
    have h3 : ztr (i + 1) = ztr i + i := rfl
    omega
  · subst h1
    omega
  · have h2 := ztr_mono (i := j + 1) (j := i) (by omega)
    have h3 : ztr (j + 1) = ztr j + j := rfl
    omega
theorem zdiv2 {x : Int} (h0 : 0 ≤ x) (h1 : x < 2147483648) : zdiv x 2 = x / 2 := by
  unfold zdiv
  rw [Int32.toInt_div_of_ne_right _ _ (by decide)]
  show (zw x).tdiv (zw 2) = _
  rw [zwid (by omega) h1, show zw 2 = 2 by decide, Int.tdiv_eq_ediv_of_nonneg h0]
/-- what a register asks of j behind i, 'o' the registers not written between -/
def zrg (P : zP) (i j : Nat) (o : Int32) : Int :=
  let d1 : Int := if zRm P j &&& zWm P i &&& o ≠ 0 then pl P i else -3
  let d2 : Int := if zWm P j &&& zRm P i &&& o ≠ 0 then max d1 0 else d1
  if zWm P j &&& zWm P i &&& o ≠ 0 then max d2 (max 1 ((pl P i : Int) - pl P j + 1)) else d2
def zap (P : zP) (i j : Nat) (ch : Int32) : Bool := decide (pA P i = pA P j) && decide (ch &&& zone (pA P i) = 0) && decide (pC P i % 64 ≠ pC P j % 64)
/-- what memory asks, 'wb' the registers written between -/
def zmm (P : zP) (i j : Nat) (wb : Int32) : Int :=
  if 5 ≤ pK P i ∧ 5 ≤ pK P j ∧ (pK P i = 6 ∨ pK P j = 6) ∧ zap P i j (wb ||| zWm P i) = false then (if pK P i = 6 then (if pK P j = 6 then 1 else pl P i) else 0) else -3
/-- the registers written by the m instructions before j -/
def zWb (P : zP) (j : Nat) : Nat → Int32
  | 0 => 0
  | m + 1 => zWb P j m ||| zWm P (j - 1 - m)
/-- the delay of j behind i as the class holds it -/
def zdc (P : zP) (i j : Nat) : Int := max (zrg P i j (zWb P j (j - 1 - i) ^^^ (-1))) (zmm P i j (zWb P j (j - 1 - i)))
theorem zrg_I {P : zP} (hw : zWf P) {i j : Nat} (hi : i < pn P) (hj : j < pn P) (o : Int32) : -3 ≤ zrg P i j o ∧ zrg P i j o ≤ 12 := by
  have h1 := zpl_le hw hi
  have h2 := zpl_le hw hj
  unfold zrg
  simp only
  split <;> split <;> split <;> omega
theorem zmm_I {P : zP} (hw : zWf P) {i j : Nat} (hi : i < pn P) (o : Int32) : -3 ≤ zmm P i j o ∧ zmm P i j o ≤ 12 := by
  have h1 := zpl_le hw hi
  unfold zmm
  split
  · split
    · split <;> omega
    · omega
  · omega
theorem zdc_I {P : zP} (hw : zWf P) {i j : Nat} (hi : i < pn P) (hj : j < pn P) : -3 ≤ zdc P i j ∧ zdc P i j ≤ 12 := by
  have h1 := zrg_I hw hi hj (zWb P j (j - 1 - i) ^^^ (-1))
  have h2 := zmm_I hw (j := j) hi (zWb P j (j - 1 - i))
  unfold zdc
  omega
section ZX
variable {L : Nat} {M : zM} {P : zP} {S : List zC}
theorem sp_rowOf {j : Nat} (hj : j < 60) : zf S 1 kX1_rowOf [zvi j] M (fun v M1 => v = some (.inl (ztr j)) ∧ M1 = M) := by
  refine zf_of rfl (Nat.le_of_ble_eq_true rfl) ?_
  repeat refine zr_s rfl rfl rfl ?_
  refine zr_ret rfl ⟨?_, rfl⟩
  have h1 := ztr_eq j
  have h2 := ztr_lt hj
  rw [h1, zdiv2 (by omega) (by omega)]
  congr 2
  omega
theorem sp_areApart {i j : Nat} {ch : Int32} (hB : zBk M P) (hw : zWf P) (hi : i < pn P) (hj : j < pn P) : zf (zSh L) 2 kX1_areApart [zvr 9, zvi i, zvi j, zvi ch.toInt] M (fun v M1 => v = some (.inl (zb (zap P i j ch))) ∧ M1 = M) := by
  have h60 := hw.1
  obtain ⟨-, -, hai, -, hci⟩ := hB.2.2.2 i hi
  obtain ⟨-, -, haj, -, hcj⟩ := hB.2.2.2 j hj
  obtain ⟨-, -, hai16, -, hcI⟩ := hw.2.2.2.2 i hi
  obtain ⟨-, -, haj16, -, hcJ⟩ := hw.2.2.2.2 j hj
  have hwi := zwid hcI.1 hcI.2
  have hwj := zwid hcJ.1 hcJ.2
  refine zf_of rfl (Nat.le_of_ble_eq_true rfl) ?_
  repeat refine zr_s rfl rfl rfl ?_
  refine zr_ald (i) rfl rfl rfl (by omega) (by decide) ?_
  rw [hai]
  repeat refine zr_s rfl rfl rfl ?_
  refine zr_ald (j) rfl rfl rfl (by omega) (by decide) ?_
  rw [haj]
  refine zr_ine rfl (by omega) (by omega) (fun h => ?_) (fun h => ?_)
  · repeat refine zr_s rfl rfl rfl ?_
    exact zr_retz rfl (by omega) (⟨by rw [zb_f (by simp [zap]; omega)], rfl⟩)
  · have h : pA P i = pA P j := by omega
    repeat refine zr_s rfl rfl rfl ?_
    have e1 : zand ch.toInt (zshl 1 (pA P i : Int)) = (ch &&& zone (pA P i)).toInt := zand_to ch (zone (pA P i))
    rw [e1]
    refine zr_zne rfl (zto_I _) (fun h2 => ?_) (fun h2 => ?_)
    · repeat refine zr_s rfl rfl rfl ?_
      have h3 : ¬ (ch &&& zone (pA P i) = 0) := fun z => h2 (by rw [z]; rfl)
      exact zr_retz rfl (by omega) (⟨by rw [zb_f (by simp [zap, h3])], rfl⟩)
    · have h3 : ch &&& zone (pA P i) = 0 := Int32.toInt_inj.mp h2
      repeat refine zr_s rfl rfl rfl ?_
      refine zr_ald (i) rfl rfl rfl (by omega) (by decide) ?_
      rw [hci]
      repeat refine zr_s rfl rfl rfl ?_
      refine zr_cr rfl rfl rfl (zf_mono (Nat.le_of_ble_eq_true rfl) (sp_floorMod)) ?_
      rw [hwi]
      repeat refine zr_s rfl rfl rfl ?_
      refine zr_ald (j) rfl rfl rfl (by omega) (by decide) ?_
      rw [hcj]
      repeat refine zr_s rfl rfl rfl ?_
      refine zr_cr rfl rfl rfl (zf_mono (Nat.le_of_ble_eq_true rfl) (sp_floorMod)) ?_
      rw [hwj]
      have m1 := Int.emod_nonneg (pC P i) (b := 64) (by decide)
      have m2 := Int.emod_lt_of_pos (pC P i) (b := 64) (by decide)
      have m3 := Int.emod_nonneg (pC P j) (b := 64) (by decide)
      have m4 := Int.emod_lt_of_pos (pC P j) (b := 64) (by decide)
      refine zr_ieq rfl (by omega) (by omega) (fun h4 => ?_) (fun h4 => ?_)
      · repeat refine zr_s rfl rfl rfl ?_
        exact zr_retz rfl (by omega) (⟨by rw [zb_f (by simp [zap, h4])], rfl⟩)
      · repeat refine zr_s rfl rfl rfl ?_
        exact zr_retz rfl (by omega) (⟨by rw [zb_t (by simp [zap, h, h3, h4]; rw [← h]; exact h3)], rfl⟩)
theorem sp_memoryDelay {i j : Nat} {wb : Int32} (hB : zBk M P) (hw : zWf P) (hi : i < pn P) (hj : j < pn P) : zf (zSh L) 3 kX1_memoryDelay [zvr 9, zvi i, zvi j, zvi wb.toInt] M (fun v M1 => v = some (.inl (zmm P i j wb)) ∧ M1 = M) := by
  have h60 := hw.1
  obtain ⟨hki, -⟩ := hB.2.2.2 i hi
  obtain ⟨hkj, -⟩ := hB.2.2.2 j hj
  obtain ⟨hki7, -⟩ := hw.2.2.2.2 i hi
  obtain ⟨hkj7, -⟩ := hw.2.2.2.2 j hj
  refine zf_of rfl (Nat.le_of_ble_eq_true rfl) ?_
  repeat refine zr_s rfl rfl rfl ?_
  refine zr_cr rfl rfl rfl (zf_mono (Nat.le_of_ble_eq_true rfl) (sp_usesMemory hB hw hi)) ?_
  by_cases h5i : 5 ≤ pK P i
  rotate_left
  · rw [zb_f (by simp; omega)]
    refine zr_zeq rfl (by decide) (fun h => ?_) (fun h => absurd rfl h)
    repeat refine zr_s rfl rfl rfl ?_
    exact zr_ret rfl (⟨by unfold zmm; rw [if_neg (by omega)], rfl⟩)
  rw [zb_t (by simp; omega)]
  refine zr_zeq rfl (by decide) (fun h => by cases h) (fun _ => ?_)
  repeat refine zr_s rfl rfl rfl ?_
  refine zr_cr rfl rfl rfl (zf_mono (Nat.le_of_ble_eq_true rfl) (sp_usesMemory hB hw hj)) ?_
  by_cases h5j : 5 ≤ pK P j
  rotate_left
  · rw [zb_f (by simp; omega)]
    refine zr_zne rfl (by decide) (fun h => absurd rfl h) (fun h => ?_)
    repeat refine zr_s rfl rfl rfl ?_
    exact zr_ret rfl (⟨by unfold zmm; rw [if_neg (by omega)], rfl⟩)
  rw [zb_t (by simp; omega)]
  refine zr_zne rfl (by decide) (fun h => ?_) (fun h => by cases h)
  repeat refine zr_s rfl rfl rfl ?_
  refine zr_ald (i) rfl rfl rfl (by omega) (by decide) ?_
  rw [hki]
  repeat refine zr_s rfl rfl rfl ?_
  by_cases h6i : pK P i = 6 <;> by_cases h6j : pK P j = 6
  · refine zr_ine rfl (by omega) (by omega) (fun h => by omega) (fun h => ?_)
    repeat refine zr_s rfl rfl rfl ?_
    refine zr_ald (j) rfl rfl rfl (by omega) (by decide) ?_
    rw [hkj]
    repeat refine zr_s rfl rfl rfl ?_
    refine zr_ine rfl (by omega) (by omega) (fun h => by omega) (fun h => ?_)
    repeat refine zr_s rfl rfl rfl ?_
    refine zr_zne rfl (by decide) (fun h => ?_) (fun h => by cases h)
    repeat refine zr_s rfl rfl rfl ?_
    refine zr_cr rfl rfl rfl (zf_mono (Nat.le_of_ble_eq_true rfl) (sp_written hB hw hi)) ?_
    repeat refine zr_s rfl rfl rfl ?_
    rw [zor_to]
    refine zr_cr rfl rfl rfl (zf_mono (Nat.le_of_ble_eq_true rfl) (sp_areApart hB hw hi hj)) ?_
    cases hz : zap P i j (wb ||| zWm P i) with
    | true =>
      refine zr_zeq rfl (by decide) (fun h => by cases h) (fun h => ?_)
      repeat refine zr_s rfl rfl rfl ?_
      exact zr_ret rfl (⟨by unfold zmm; rw [if_neg (by rw [hz]; simp)], rfl⟩)
    | false =>
      refine zr_zeq rfl (by decide) (fun h => ?_) (fun h => absurd rfl h)
      repeat refine zr_s rfl rfl rfl ?_
      refine zr_zeq rfl (by decide) (fun h => by cases h) (fun h => ?_)
      repeat refine zr_s rfl rfl rfl ?_
      refine zr_zeq rfl (by decide) (fun h => by cases h) (fun h => ?_)
      repeat refine zr_s rfl rfl rfl ?_
      exact zr_ret rfl (⟨by unfold zmm; rw [if_pos ⟨h5i, h5j, by omega, hz⟩, if_pos h6i, if_pos h6j], rfl⟩)
  · refine zr_ine rfl (by omega) (by omega) (fun h => by omega) (fun h => ?_)
    repeat refine zr_s rfl rfl rfl ?_
    refine zr_ald (j) rfl rfl rfl (by omega) (by decide) ?_
    rw [hkj]
    repeat refine zr_s rfl rfl rfl ?_
    refine zr_ine rfl (by omega) (by omega) (fun h => ?_) (fun h => by omega)
    repeat refine zr_s rfl rfl rfl ?_
    refine zr_zne rfl (by decide) (fun h => ?_) (fun h => by cases h)
    repeat refine zr_s rfl rfl rfl ?_
    refine zr_cr rfl rfl rfl (zf_mono (Nat.le_of_ble_eq_true rfl) (sp_written hB hw hi)) ?_
    repeat refine zr_s rfl rfl rfl ?_
    rw [zor_to]
    refine zr_cr rfl rfl rfl (zf_mono (Nat.le_of_ble_eq_true rfl) (sp_areApart hB hw hi hj)) ?_
    cases hz : zap P i j (wb ||| zWm P i) with
    | true =>
      refine zr_zeq rfl (by decide) (fun h => by cases h) (fun h => ?_)
      repeat refine zr_s rfl rfl rfl ?_
      exact zr_ret rfl (⟨by unfold zmm; rw [if_neg (by rw [hz]; simp)], rfl⟩)
    | false =>
      refine zr_zeq rfl (by decide) (fun h => ?_) (fun h => absurd rfl h)
      repeat refine zr_s rfl rfl rfl ?_
      refine zr_zeq rfl (by decide) (fun h => by cases h) (fun h => ?_)
      repeat refine zr_s rfl rfl rfl ?_
      refine zr_zeq rfl (by decide) (fun h => ?_) (fun h => absurd rfl h)
      repeat refine zr_s rfl rfl rfl ?_
      refine zr_zeq rfl (by decide) (fun h => by cases h) (fun h => ?_)
      repeat refine zr_s rfl rfl rfl ?_
      refine zr_cr rfl rfl rfl (zf_mono (Nat.le_of_ble_eq_true rfl) (sp_latencyOf hB hw hi)) ?_
      repeat refine zr_s rfl rfl rfl ?_
      exact zr_ret rfl (⟨by unfold zmm; rw [if_pos ⟨h5i, h5j, by omega, hz⟩, if_pos h6i, if_neg h6j], rfl⟩)
  · refine zr_ine rfl (by omega) (by omega) (fun h => ?_) (fun h => by omega)
    repeat refine zr_s rfl rfl rfl ?_
    refine zr_ald (j) rfl rfl rfl (by omega) (by decide) ?_
    rw [hkj]
    repeat refine zr_s rfl rfl rfl ?_
    refine zr_ine rfl (by omega) (by omega) (fun h => by omega) (fun h => ?_)
    repeat refine zr_s rfl rfl rfl ?_
    refine zr_zne rfl (by decide) (fun h => absurd rfl h) (fun h => ?_)
    repeat refine zr_s rfl rfl rfl ?_
    refine zr_zne rfl (by decide) (fun h => ?_) (fun h => by cases h)
    repeat refine zr_s rfl rfl rfl ?_
    refine zr_cr rfl rfl rfl (zf_mono (Nat.le_of_ble_eq_true rfl) (sp_written hB hw hi)) ?_
    repeat refine zr_s rfl rfl rfl ?_
    rw [zor_to]
    refine zr_cr rfl rfl rfl (zf_mono (Nat.le_of_ble_eq_true rfl) (sp_areApart hB hw hi hj)) ?_
    cases hz : zap P i j (wb ||| zWm P i) with
    | true =>
      refine zr_zeq rfl (by decide) (fun h => by cases h) (fun h => ?_)
      repeat refine zr_s rfl rfl rfl ?_
      exact zr_ret rfl (⟨by unfold zmm; rw [if_neg (by rw [hz]; simp)], rfl⟩)
    | false =>
      refine zr_zeq rfl (by decide) (fun h => ?_) (fun h => absurd rfl h)
      repeat refine zr_s rfl rfl rfl ?_
      refine zr_zeq rfl (by decide) (fun h => ?_) (fun h => absurd rfl h)
      repeat refine zr_s rfl rfl rfl ?_
      refine zr_zeq rfl (by decide) (fun h => ?_) (fun h => absurd rfl h)
      repeat refine zr_s rfl rfl rfl ?_
      exact zr_ret rfl (⟨by unfold zmm; rw [if_pos ⟨h5i, h5j, by omega, hz⟩, if_neg h6i], rfl⟩)
  · refine zr_ine rfl (by omega) (by omega) (fun h => ?_) (fun h => by omega)
    repeat refine zr_s rfl rfl rfl ?_
    refine zr_ald (j) rfl rfl rfl (by omega) (by decide) ?_
    rw [hkj]
    repeat refine zr_s rfl rfl rfl ?_
    refine zr_ine rfl (by omega) (by omega) (fun h => ?_) (fun h => by omega)
    repeat refine zr_s rfl rfl rfl ?_
    refine zr_zne rfl (by decide) (fun h => absurd rfl h) (fun h => ?_)
    repeat refine zr_s rfl rfl rfl ?_
    refine zr_zne rfl (by decide) (fun h => absurd rfl h) (fun h => ?_)
    repeat refine zr_s rfl rfl rfl ?_
    exact zr_ret rfl (⟨by unfold zmm; rw [if_neg (by omega)], rfl⟩)
theorem zone_ne {a b o : Int32} : zand (zand a.toInt b.toInt) o.toInt = (a &&& b &&& o).toInt := by rw [zand_to, zand_to]
theorem sp_registerDelay {i j : Nat} {o : Int32} (hB : zBk M P) (hw : zWf P) (hi : i < pn P) (hj : j < pn P) : zf (zSh L) 3 kX1_registerDelay [zvr 9, zvi i, zvi j, zvi o.toInt] M (fun v M1 => v = some (.inl (zrg P i j o)) ∧ M1 = M) := by
  have h60 := hw.1
  have hli := zpl_le hw hi
  have hlj := zpl_le hw hj
  have tz : ∀ z : Int32, z.toInt = 0 ↔ z = 0 := fun z => ⟨fun h => Int32.toInt_inj.mp h, fun h => by rw [h]; rfl⟩
  refine zf_of rfl (Nat.le_of_ble_eq_true rfl) ?_
  repeat refine zr_s rfl rfl rfl ?_
  refine zr_cr rfl rfl rfl (zf_mono (Nat.le_of_ble_eq_true rfl) (sp_read hB hw hj)) ?_
  repeat refine zr_s rfl rfl rfl ?_
  refine zr_cr rfl rfl rfl (zf_mono (Nat.le_of_ble_eq_true rfl) (sp_written hB hw hi)) ?_
  repeat refine zr_s rfl rfl rfl ?_
  rw [zone_ne]
  have r3 : ∀ d2 : Int, -3 ≤ d2 → d2 ≤ 12 → (d2 = if zWm P j &&& zRm P i &&& o ≠ 0 then max (if zRm P j &&& zWm P i &&& o ≠ 0 then (pl P i : Int) else -3) 0 else (if zRm P j &&& zWm P i &&& o ≠ 0 then (pl P i : Int) else -3)) → zr (zSh L) 2 tX1_registerDelay 66 [some (zvr 9), some (zvi i), some (zvi j), some (zvi o.toInt), some (zvi d2), none] [] M (fun v M1 => v = some (.inl (zrg P i j o)) ∧ M1 = M) := by
    intro d2 hd1 hd2 he
    repeat refine zr_s rfl rfl rfl ?_
    refine zr_cr rfl rfl rfl (zf_mono (Nat.le_of_ble_eq_true rfl) (sp_written hB hw hj)) ?_
    repeat refine zr_s rfl rfl rfl ?_
    refine zr_cr rfl rfl rfl (zf_mono (Nat.le_of_ble_eq_true rfl) (sp_written hB hw hi)) ?_
    repeat refine zr_s rfl rfl rfl ?_
    rw [zone_ne]
    refine zr_zeq rfl (zto_I _) (fun h => ?_) (fun h => ?_)
    · rw [tz] at h
      repeat refine zr_s rfl rfl rfl ?_
      refine zr_ret rfl ⟨?_, rfl⟩
      unfold zrg
      simp only [← he, h, ne_eq, not_true, if_false]
    · rw [tz] at h
      repeat refine zr_s rfl rfl rfl ?_
      refine zr_cr rfl rfl rfl (zf_mono (Nat.le_of_ble_eq_true rfl) (sp_latencyOf hB hw hi)) ?_
      repeat refine zr_s rfl rfl rfl ?_
      refine zr_cr rfl rfl rfl (zf_mono (Nat.le_of_ble_eq_true rfl) (sp_latencyOf hB hw hj)) ?_
      repeat refine zr_s rfl rfl rfl ?_
      refine zr_cr rfl rfl rfl (zf_mono (Nat.le_of_ble_eq_true rfl) (sp_max (by omega) (by omega))) ?_
      refine zr_cr rfl rfl rfl (zf_mono (Nat.le_of_ble_eq_true rfl) (sp_max (by omega) (by omega))) ?_
      repeat refine zr_s rfl rfl rfl ?_
      refine zr_ret rfl ⟨?_, rfl⟩
      unfold zrg
      simp only [← he, ne_eq, h, not_false_eq_true, if_true]
  have r2 : ∀ d1 : Int, -3 ≤ d1 → d1 ≤ 12 → (d1 = if zRm P j &&& zWm P i &&& o ≠ 0 then (pl P i : Int) else -3) → zr (zSh L) 2 tX1_registerDelay 36 [some (zvr 9), some (zvi i), some (zvi j), some (zvi o.toInt), some (zvi d1), none] [] M (fun v M1 => v = some (.inl (zrg P i j o)) ∧ M1 = M) := by
    intro d1 hd1 hd2 he
    repeat refine zr_s rfl rfl rfl ?_
    refine zr_cr rfl rfl rfl (zf_mono (Nat.le_of_ble_eq_true rfl) (sp_written hB hw hj)) ?_
    repeat refine zr_s rfl rfl rfl ?_
    refine zr_cr rfl rfl rfl (zf_mono (Nat.le_of_ble_eq_true rfl) (sp_read hB hw hi)) ?_
    repeat refine zr_s rfl rfl rfl ?_
    rw [zone_ne]
    refine zr_zeq rfl (zto_I _) (fun h => ?_) (fun h => ?_)
    · rw [tz] at h
      exact r3 d1 hd1 hd2 (by rw [if_neg (by simp [h]), ← he])
    · rw [tz] at h
      repeat refine zr_s rfl rfl rfl ?_
      refine zr_cr rfl rfl rfl (zf_mono (Nat.le_of_ble_eq_true rfl) (sp_max (by omega) (by decide))) ?_
      repeat refine zr_t 66 rfl rfl rfl rfl ?_
      exact r3 (max d1 0) (by omega) (by omega) (by rw [if_pos h, ← he])
  refine zr_zeq rfl (zto_I _) (fun h => ?_) (fun h => ?_)
  · rw [tz] at h
    exact r2 (-3) (by omega) (by omega) (by rw [if_neg (by simp [h])])
  · rw [tz] at h
    repeat refine zr_s rfl rfl rfl ?_
    refine zr_cr rfl rfl rfl (zf_mono (Nat.le_of_ble_eq_true rfl) (sp_latencyOf hB hw hi)) ?_
    repeat refine zr_t 36 rfl rfl rfl rfl ?_
    exact r2 (pl P i) (by omega) (by omega) (by rw [if_pos h])
end ZX
end
section
/-! DEPENDENCES: all delays, early cycles, ways -/
def zDl (M : zM) (P : zP) (m : Nat) : Prop := ∀ j, j < m → ∀ i, i < j → M 10 (ztr j + i) = zdc P i j
def zpc (P : zP) (j : Nat) : Nat → Nat
  | 0 => 0
  | m + 1 => zpc P j m + if zdc P (j - 1 - m) j ≠ -3 then 1 else 0
def zpairs (P : zP) : Nat → Nat
  | 0 => 0
  | j + 1 => zpairs P j + zpc P j j
def zlc (g f : Nat → Int) : Nat → Int
  | 0 => 0
  | i + 1 => if g i ≠ -3 ∧ 0 ≤ f i then max (zlc g f i) (f i + g i) else zlc g f i
def zIsE (P : zP) (f : Nat → Int) (m : Nat) : Prop := ∀ j, j < m → f j = zlc (fun i => zdc P i j) f j
def zwf (P : zP) (i : Nat) (f : Nat → Int) : Nat → Int
  | 0 => pl P i
  | t + 1 => if zdc P i (i + 1 + t) ≠ -3 then max (zwf P i f t) (zdc P i (i + 1 + t) + f (i + 1 + t)) else zwf P i f t
def zIsW (P : zP) (f : Nat → Int) (a : Nat) : Prop := ∀ i, a ≤ i → i < pn P → f i = zwf P i f (pn P - 1 - i)
def zmxr (f : Nat → Int) (a : Nat) : Nat → Int
  | 0 => 0
  | m + 1 => max (zmxr f (a + 1) m) (f a)
theorem zup_row {M : zM} {i k a : Nat} {x : Int} (h : a ≠ i) : zup M i k x a = M a := funext (fun q => zup_ne h q)
theorem zup_at {M : zM} {i k : Nat} {x : Int} : zup M i k x i k = x := by
  unfold zup
  rw [if_pos ⟨rfl, rfl⟩]
theorem zup_off {M : zM} {i k b : Nat} {x : Int} (h : b ≠ k) : zup M i k x i b = M i b := by
  unfold zup
  rw [if_neg (fun z => h z.2)]
theorem zpc_le (P : zP) (j : Nat) : ∀ m, zpc P j m ≤ m
  | 0 => Nat.le_refl _
  | m + 1 => by
    have := zpc_le P j m
    unfold zpc
    split <;> omega
theorem zpairs_le (P : zP) : ∀ j, zpairs P j ≤ ztr j
  | 0 => Nat.le_refl _
  | j + 1 => by
    have := zpairs_le P j
    have := zpc_le P j j
    show zpairs P j + zpc P j j ≤ ztr j + j
    omega
theorem zlc_I {g f : Nat → Int} : ∀ (m : Nat) {c : Int}, 0 ≤ c → (∀ i, i < m → -3 ≤ g i ∧ g i ≤ 12 ∧ f i ≤ c) → 0 ≤ zlc g f m ∧ zlc g f m ≤ c + 12
  | 0, c, hc, _ => by
    show (0 : Int) ≤ 0 ∧ (0 : Int) ≤ c + 12
    omega
  | m + 1, c, hc, h => by
    have h1 := zlc_I m hc (fun i hi => h i (by omega))
    have h2 := h m (by omega)
    unfold zlc
    split <;> omega
theorem zwf_I {P : zP} (hw : zWf P) {i : Nat} {f : Nat → Int} (hi : i < pn P) : ∀ (t : Nat), i + t < pn P → (∀ j, i < j → j < pn P → 1 ≤ f j ∧ f j ≤ 12 * ((pn P : Int) - j)) → 1 ≤ zwf P i f t ∧ zwf P i f t ≤ 12 * ((pn P : Int) - i)
  | 0, _, _ => by
    have := zpl_le hw hi
    show (1 : Int) ≤ pl P i ∧ (pl P i : Int) ≤ _
    omega
  | t + 1, ht, hf => by
    have h1 := zwf_I hw hi t (by omega) hf
    have h2 := zdc_I hw hi (j := i + 1 + t) (by omega)
    have h3 := hf (i + 1 + t) (by omega) (by omega)
    unfold zwf
    split
    · push_cast at *
      omega
    · exact h1
section ZX
variable {L : Nat} {M : zM} {P : zP}
theorem sp_between {i j : Nat} (hw : zWf P) (hD : zDl M P (pn P)) (hi : i < pn P) (hj : j < pn P) : zf (zSh L) 2 kX1_between [zvr 9, zvi i, zvi j] M (fun v M1 => v = some (.inl (if i < j then zdc P i j else -3)) ∧ M1 = M) := by
  have h60 := hw.1
  refine zf_of rfl (Nat.le_of_ble_eq_true rfl) ?_
  repeat refine zr_s rfl rfl rfl ?_
  refine zr_ige rfl (by omega) (by omega) (fun h => ?_) (fun h => ?_)
  · repeat refine zr_s rfl rfl rfl ?_
    exact zr_ret rfl (⟨by rw [if_neg (by omega)], rfl⟩)
  · have ht := ztr_lt (j := j) (by omega)
    repeat refine zr_s rfl rfl rfl ?_
    refine zr_cr rfl rfl rfl (zf_mono (Nat.le_of_ble_eq_true rfl) (sp_rowOf (by omega))) ?_
    repeat refine zr_s rfl rfl rfl ?_
    refine zr_ald (ztr j + i) rfl rfl (by omega) (by omega) (by decide) ?_
    repeat refine zr_s rfl rfl rfl ?_
    exact zr_ret rfl (⟨by rw [if_pos (by omega), hD j hj i (by omega)], rfl⟩)
theorem sp_leastCycle {j c m : Nat} (hw : zWf P) (hD : zDl M P m) (hjm : j < m) (hj : j < pn P) (hc : (zSh L)[c]? = some (.inl 60)) (hf : ∀ i, i < j → M c i ≤ 1000000) (hf2 : ∀ i, i < j → -2147483648 ≤ M c i) : zf (zSh L) 2 kX1_leastCycle [zvr 9, zvi j, zvr c] M (fun v M1 => v = some (.inl (zlc (fun i => zdc P i j) (M c) j)) ∧ M1 = M) := by
  have h60 := hw.1
  have ht := ztr_lt (j := j) (by omega)
  refine zf_of rfl (Nat.le_of_ble_eq_true rfl) ?_
  repeat refine zr_s rfl rfl rfl ?_
  refine zr_cr rfl rfl rfl (zf_mono (Nat.le_of_ble_eq_true rfl) (sp_rowOf (by omega))) ?_
  repeat refine zr_t 11 rfl rfl rfl rfl ?_
  have loop : ∀ (k i : Nat) (o : Option zV), i + k = j → zr (zSh L) 1 tX1_leastCycle 11 [some (zvr 9), some (zvi j), some (zvr c), some (zvi (zlc (fun i => zdc P i j) (M c) i)), some (zvi (ztr j)), some (zvi i), o] [] M (fun v M1 => v = some (.inl (zlc (fun i => zdc P i j) (M c) j)) ∧ M1 = M) := by
    intro k
    induction k with
    | zero =>
      intro i o hi
      repeat refine zr_s rfl rfl rfl ?_
      refine zr_ige rfl (by omega) (by omega) (fun h => ?_) (fun h => by omega)
      repeat refine zr_s rfl rfl rfl ?_
      exact zr_ret rfl (⟨by rw [show i = j by omega], rfl⟩)
    | succ k ih =>
      intro i o hi
      have hl := zlc_I (g := fun i => zdc P i j) (f := M c) i (c := 1000000) (by omega) (fun q hq => ⟨(zdc_I hw (by omega) hj).1, (zdc_I hw (by omega) hj).2, hf q (by omega)⟩)
      have hfi := hf i (by omega)
      have hfi2 := hf2 i (by omega)
      have hz := zdc_I hw (i := i) (j := j) (by omega) hj
      repeat refine zr_s rfl rfl rfl ?_
      refine zr_ige rfl (by omega) (by omega) (fun h => by omega) (fun h => ?_)
      repeat refine zr_s rfl rfl rfl ?_
      refine zr_ald (ztr j + i) rfl rfl (by omega) (by omega) (by decide) ?_
      rw [hD j hjm i (by omega)]
      repeat refine zr_s rfl rfl rfl ?_
      refine zr_ieq rfl (by omega) (by decide) (fun h3 => ?_) (fun h3 => ?_)
      · repeat refine zr_s rfl rfl rfl ?_
        refine zr_b rfl rfl ?_
        have e : zlc (fun i => zdc P i j) (M c) (i + 1) = zlc (fun i => zdc P i j) (M c) i := by
          show (if zdc P i j ≠ -3 ∧ 0 ≤ M c i then _ else _) = _
          rw [if_neg (fun z => z.1 h3)]
        rw [← e]
        exact ih (i + 1) _ (by omega)
      · repeat refine zr_s rfl rfl rfl ?_
        refine zr_ald i rfl hc rfl (by omega) (by decide) ?_
        refine zr_zlt rfl (by omega) (fun h4 => ?_) (fun h4 => ?_)
        · repeat refine zr_s rfl rfl rfl ?_
          refine zr_b rfl rfl ?_
          have e : zlc (fun i => zdc P i j) (M c) (i + 1) = zlc (fun i => zdc P i j) (M c) i := by
            show (if zdc P i j ≠ -3 ∧ 0 ≤ M c i then _ else _) = _
            rw [if_neg (fun z => by omega)]
          rw [← e]
          exact ih (i + 1) _ (by omega)
        · repeat refine zr_s rfl rfl rfl ?_
          refine zr_ald i rfl hc rfl (by omega) (by decide) ?_
          repeat refine zr_s rfl rfl rfl ?_
          refine zr_cr rfl rfl rfl (zf_mono (Nat.le_of_ble_eq_true rfl) (sp_max (by omega) (by omega))) ?_
          repeat refine zr_s rfl rfl rfl ?_
          refine zr_b rfl rfl ?_
          have e : zlc (fun i => zdc P i j) (M c) (i + 1) = max (zlc (fun i => zdc P i j) (M c) i) (M c i + zdc P i j) := by
            show (if zdc P i j ≠ -3 ∧ 0 ≤ M c i then _ else _) = _
            rw [if_pos ⟨h3, h4⟩]
          rw [← e]
          exact ih (i + 1) _ (by omega)
  exact loop j 0 _ (by omega)
theorem sp_findDelaysOf {j : Nat} (hB : zBk M P) (hw : zWf P) (hj : j < pn P) (hp : 0 ≤ M 9 2 ∧ M 9 2 ≤ 100000) : zf (zSh L) 4 kX1_findDelaysOf [zvr 9, zvi j] M (fun v M1 => v = none ∧ (∀ a, a ≠ 9 → a ≠ 10 → M1 a = M a) ∧ M1 9 2 = M 9 2 + zpc P j j ∧ (∀ b, b ≠ 2 → M1 9 b = M 9 b) ∧ (∀ i, i < j → M1 10 (ztr j + i) = zdc P i j) ∧ ∀ b, b < ztr j ∨ ztr j + j ≤ b → M1 10 b = M 10 b) := by
  have h60 := hw.1
  have ht := ztr_lt (j := j) (by omega)
  refine zf_of rfl (Nat.le_of_ble_eq_true rfl) ?_
  repeat refine zr_s rfl rfl rfl ?_
  refine zr_cr rfl rfl rfl (zf_mono (Nat.le_of_ble_eq_true rfl) (sp_rowOf (by omega))) ?_
  repeat refine zr_t 12 rfl rfl rfl rfl ?_
  have loop : ∀ (k m : Nat) (o : Option zV) (x : Int) (M1 : zM), m + k = j → x = (j : Int) - 1 - m → (∀ a, a ≠ 9 → a ≠ 10 → M1 a = M a) → M1 9 2 = M 9 2 + zpc P j m → (∀ b, b ≠ 2 → M1 9 b = M 9 b) → (∀ i, i < j → j - m ≤ i → M1 10 (ztr j + i) = zdc P i j) → (∀ b, b < ztr j ∨ ztr j + j ≤ b → M1 10 b = M 10 b) → zr (zSh L) 3 tX1_findDelaysOf 12 [some (zvr 9), some (zvi j), some (zvi (ztr j)), some (zvi (zWb P j m).toInt), some (zvi x), o] [] M1 (fun v M1 => v = none ∧ (∀ a, a ≠ 9 → a ≠ 10 → M1 a = M a) ∧ M1 9 2 = M 9 2 + zpc P j j ∧ (∀ b, b ≠ 2 → M1 9 b = M 9 b) ∧ (∀ i, i < j → M1 10 (ztr j + i) = zdc P i j) ∧ ∀ b, b < ztr j ∨ ztr j + j ≤ b → M1 10 b = M 10 b) := by
    intro k
    induction k with
    | zero =>
      intro m o x M1 hm hx f1 f2 f3 f4 f5
      repeat refine zr_s rfl rfl rfl ?_
      refine zr_zlt rfl (by omega) (fun h => ?_) (fun h => by omega)
      repeat refine zr_s rfl rfl rfl ?_
      exact zr_retv rfl (⟨rfl, f1, by rw [f2, show m = j by omega], f3, fun i hi => f4 i hi (by omega), f5⟩)
    | succ k ih =>
      intro m o x M1 hm hx f1 f2 f3 f4 f5
      have hB1 : zBk M1 P := zBk_of hB (fun a h1 h2 => f1 a (by omega) (by omega))
      have hpc := zpc_le P j m
      have hi : j - 1 - m < pn P := by omega
      have hx2 : x = ((j - 1 - m : Nat) : Int) := by omega
      have hr := zrg_I hw (i := j - 1 - m) (j := j) hi hj (zWb P j m ^^^ (-1))
      have hmm := zmm_I hw (i := j - 1 - m) (j := j) hi (zWb P j m)
      have hdc : zdc P (j - 1 - m) j = max (zrg P (j - 1 - m) j (zWb P j m ^^^ (-1))) (zmm P (j - 1 - m) j (zWb P j m)) := by
        unfold zdc
        rw [show j - 1 - (j - 1 - m) = m by omega]
      subst hx2
      repeat refine zr_s rfl rfl rfl ?_
      refine zr_zlt rfl (by omega) (fun h => by omega) (fun h => ?_)
      repeat refine zr_s rfl rfl rfl ?_
      have e1 : zxor (zWb P j m).toInt (-1) = (zWb P j m ^^^ (-1)).toInt := zxor_to _ (-1)
      rw [e1]
      refine zr_cr rfl rfl rfl (zf_mono (Nat.le_of_ble_eq_true rfl) (sp_registerDelay hB1 hw hi hj)) ?_
      repeat refine zr_s rfl rfl rfl ?_
      refine zr_cr rfl rfl rfl (zf_mono (Nat.le_of_ble_eq_true rfl) (sp_memoryDelay hB1 hw hi hj)) ?_
      refine zr_cr rfl rfl rfl (zf_mono (Nat.le_of_ble_eq_true rfl) (sp_max (by omega) (by omega))) ?_
      rw [← hdc]
      have hz := zdc_I hw hi hj
      repeat refine zr_s rfl rfl rfl ?_
      refine zr_ast (ztr j + (j - 1 - m)) rfl rfl (by omega) (by omega) (by decide) ?_
      have rest : ∀ M2 : zM, (∀ a, a ≠ 9 → a ≠ 10 → M2 a = M a) → M2 9 2 = M 9 2 + zpc P j (m + 1) → (∀ b, b ≠ 2 → M2 9 b = M 9 b) → (∀ i, i < j → j - (m + 1) ≤ i → M2 10 (ztr j + i) = zdc P i j) → (∀ b, b < ztr j ∨ ztr j + j ≤ b → M2 10 b = M 10 b) → zr (zSh L) 3 tX1_findDelaysOf 68 [some (zvr 9), some (zvi j), some (zvi (ztr j)), some (zvi (zWb P j m).toInt), some (zvi ((j - 1 - m : Nat) : Int)), some (zvi (zdc P (j - 1 - m) j))] [] M2 (fun v M1 => v = none ∧ (∀ a, a ≠ 9 → a ≠ 10 → M1 a = M a) ∧ M1 9 2 = M 9 2 + zpc P j j ∧ (∀ b, b ≠ 2 → M1 9 b = M 9 b) ∧ (∀ i, i < j → M1 10 (ztr j + i) = zdc P i j) ∧ ∀ b, b < ztr j ∨ ztr j + j ≤ b → M1 10 b = M 10 b) := by
        intro M2 g1 g2 g3 g4 g5
        have hB2 : zBk M2 P := zBk_of hB (fun a h1 h2 => g1 a (by omega) (by omega))
        repeat refine zr_s rfl rfl rfl ?_
        refine zr_cr rfl rfl rfl (zf_mono (Nat.le_of_ble_eq_true rfl) (sp_written hB2 hw hi)) ?_
        repeat refine zr_s rfl rfl rfl ?_
        refine zr_b rfl rfl ?_
        rw [zor_to]
        exact ih (m + 1) _ _ M2 (by omega) (by omega) g1 g2 g3 g4 g5
      have q1 : ∀ a, a ≠ 9 → a ≠ 10 → zup M1 10 (ztr j + (j - 1 - m)) (zdc P (j - 1 - m) j) a = M a := fun a h1 h2 => by rw [zup_row h2]; exact f1 a h1 h2
      have q4 : ∀ i, i < j → j - (m + 1) ≤ i → zup M1 10 (ztr j + (j - 1 - m)) (zdc P (j - 1 - m) j) 10 (ztr j + i) = zdc P i j := by
        intro i h1 h2
        by_cases h3 : i = j - 1 - m
        · subst h3
          exact zup_at
        · rw [zup_off (by omega)]
          exact f4 i h1 (by omega)
      have q5 : ∀ b, b < ztr j ∨ ztr j + j ≤ b → zup M1 10 (ztr j + (j - 1 - m)) (zdc P (j - 1 - m) j) 10 b = M 10 b := by
        intro b hb
        rw [zup_off (by omega)]
        exact f5 b hb
      have q9 : zup M1 10 (ztr j + (j - 1 - m)) (zdc P (j - 1 - m) j) 9 = M1 9 := zup_row (by decide)
      repeat refine zr_s rfl rfl rfl ?_
      refine zr_ieq rfl (by omega) (by decide) (fun h3 => ?_) (fun h3 => ?_)
      · refine rest _ q1 ?_ (fun b hb => by rw [q9]; exact f3 b hb) q4 q5
        rw [q9, f2]
        show _ = M 9 2 + ((zpc P j m + if zdc P (j - 1 - m) j ≠ -3 then 1 else 0 : Nat) : Int)
        rw [if_neg (fun z => z h3)]
        omega
      · repeat refine zr_t 68 rfl rfl rfl rfl ?_
        refine rest _ (fun a h1 h2 => by rw [zup_row h1]; exact q1 a h1 h2) ?_ (fun b hb => by rw [zup_off hb, q9]; exact f3 b hb) (fun i h1 h2 => by rw [zup_row (by decide)]; exact q4 i h1 h2) (fun b hb => by rw [zup_row (by decide)]; exact q5 b hb)
        rw [zup_at, q9, f2]
        show _ = M 9 2 + ((zpc P j m + if zdc P (j - 1 - m) j ≠ -3 then 1 else 0 : Nat) : Int)
        rw [if_pos h3]
        omega
  exact loop j 0 _ _ M (by omega) (by omega) (fun _ _ _ => rfl) (by simp [zpc]) (fun _ _ => rfl) (fun i h1 h2 => by omega) (fun _ _ => rfl)
theorem zwf_congr {P : zP} {i : Nat} {f g : Nat → Int} : ∀ t, (∀ j, i < j → j ≤ i + t → f j = g j) → zwf P i f t = zwf P i g t
  | 0, _ => rfl
  | t + 1, h => by
    have h1 := zwf_congr (P := P) t (fun j h1 h2 => h j h1 (by omega))
    unfold zwf
    rw [h1, h (i + 1 + t) (by omega) (by omega)]
theorem zmxr_congr {f g : Nat → Int} : ∀ (m a : Nat), (∀ j, a ≤ j → j < a + m → f j = g j) → zmxr f a m = zmxr g a m
  | 0, _, _ => rfl
  | m + 1, a, h => by
    unfold zmxr
    rw [zmxr_congr m (a + 1) (fun j h1 h2 => h j (by omega) (by omega)), h a (by omega) (by omega)]
theorem zmxr_I {f : Nat → Int} {c : Int} (hc : 0 ≤ c) : ∀ (m a : Nat), (∀ j, a ≤ j → j < a + m → f j ≤ c) → 0 ≤ zmxr f a m ∧ zmxr f a m ≤ c
  | 0, _, _ => ⟨Int.le_refl _, hc⟩
  | m + 1, a, h => by
    have h1 := zmxr_I hc m (a + 1) (fun j h1 h2 => h j (by omega) (by omega))
    have h2 := h a (by omega) (by omega)
    unfold zmxr
    omega
theorem zIsW_I {P : zP} (hw : zWf P) {f : Nat → Int} {a : Nat} (h : zIsW P f a) : ∀ (k i : Nat), i + k = pn P → a ≤ i → i < pn P → 1 ≤ f i ∧ f i ≤ 12 * ((pn P : Int) - i)
  | 0, i, hk, _, hi => by omega
  | k + 1, i, hk, ha, hi => by
    rw [h i ha hi]
    refine zwf_I hw hi _ (by omega) (fun j h1 h2 => ?_)
    have h3 := zIsW_I hw h (pn P - j) j (by omega) (by omega) h2
    exact h3
  termination_by k => k
theorem sp_findWays (hB : zBk M P) (hw : zWf P) (hD : zDl M P (pn P)) : zf (zSh L) 4 kX1_findWays [zvr 9] M (fun v M1 => v = none ∧ (∀ a, a ≠ 9 → a ≠ 11 → M1 a = M a) ∧ (∀ b, b ≠ 3 → M1 9 b = M 9 b) ∧ zIsW P (M1 11) 0 ∧ M1 9 3 = zmxr (M1 11) 0 (pn P)) := by
  have h60 := hw.1
  have hn := hB.1
  refine zf_of rfl (Nat.le_of_ble_eq_true rfl) ?_
  repeat refine zr_t 15 rfl rfl rfl rfl ?_
  have loop : ∀ (k m : Nat) (o2 o3 o4 : Option zV) (x : Int) (M1 : zM), m + k = pn P → x = (pn P : Int) - 1 - m → (∀ a, a ≠ 9 → a ≠ 11 → M1 a = M a) → (∀ b, b ≠ 3 → M1 9 b = M 9 b) → zIsW P (M1 11) (pn P - m) → M1 9 3 = zmxr (M1 11) (pn P - m) m → zr (zSh L) 3 tX1_findWays 15 [some (zvr 9), some (zvi x), o2, o3, o4] [] M1 (fun v M1 => v = none ∧ (∀ a, a ≠ 9 → a ≠ 11 → M1 a = M a) ∧ (∀ b, b ≠ 3 → M1 9 b = M 9 b) ∧ zIsW P (M1 11) 0 ∧ M1 9 3 = zmxr (M1 11) 0 (pn P)) := by
    intro k
    induction k with
    | zero =>
      intro m o2 o3 o4 x M1 hm hx f1 f2 f3 f4
      have hm2 : m = pn P := by omega
      subst hm2
      rw [Nat.sub_self] at f3 f4
      repeat refine zr_s rfl rfl rfl ?_
      refine zr_zlt rfl (by omega) (fun h => ?_) (fun h => by omega)
      repeat refine zr_s rfl rfl rfl ?_
      exact zr_retv rfl (⟨rfl, f1, f2, f3, f4⟩)
    | succ k ih =>
      intro m o2 o3 o4 x M1 hm hx f1 f2 f3 f4
      have hB1 : zBk M1 P := zBk_of hB (fun a h1 h2 => f1 a (by omega) (by omega))
      have hD1 : zDl M1 P (pn P) := fun j hj i hi => by rw [f1 10 (by decide) (by decide)]; exact hD j hj i hi
      have hn1 := hB1.1
      obtain ⟨i, hi⟩ : ∃ i, i = pn P - 1 - m := ⟨_, rfl⟩
      have hx2 : x = (i : Int) := by omega
      have hin : i < pn P := by omega
      have hWI : ∀ j, i < j → j < pn P → 1 ≤ M1 11 j ∧ M1 11 j ≤ 12 * ((pn P : Int) - j) := fun j h1 h2 => zIsW_I hw f3 (pn P - j) j (by omega) (by omega) h2
      have hpl := zpl_le hw hin
      subst hx2
      repeat refine zr_s rfl rfl rfl ?_
      refine zr_zlt rfl (by omega) (fun h => by omega) (fun h => ?_)
      repeat refine zr_s rfl rfl rfl ?_
      refine zr_cr rfl rfl rfl (zf_mono (Nat.le_of_ble_eq_true rfl) (sp_latencyOf hB1 hw hin)) ?_
      repeat refine zr_t 32 rfl rfl rfl rfl ?_
      have inner : ∀ (r t : Nat) (o4 : Option zV), t + r = pn P - 1 - i → zr (zSh L) 3 tX1_findWays 32 [some (zvr 9), some (zvi i), some (zvi (zwf P i (M1 11) t)), some (zvi ((i + 1 + t : Nat) : Int)), o4] [] M1 (fun v M1 => v = none ∧ (∀ a, a ≠ 9 → a ≠ 11 → M1 a = M a) ∧ (∀ b, b ≠ 3 → M1 9 b = M 9 b) ∧ zIsW P (M1 11) 0 ∧ M1 9 3 = zmxr (M1 11) 0 (pn P)) := by
        intro r
        induction r with
        | zero =>
          intro t o4 ht
          have ht2 : t = pn P - 1 - i := by omega
          have hwI := zwf_I hw hin t (by omega) hWI
          have hmI := zmxr_I (f := M1 11) (c := 720) (by omega) m (pn P - m) (fun j h1 h2 => by have := hWI j (by omega) (by omega); omega)
          repeat refine zr_s rfl rfl rfl ?_
          refine zr_ige rfl (by omega) (by omega) (fun h => ?_) (fun h => by omega)
          repeat refine zr_s rfl rfl rfl ?_
          refine zr_ast (i) rfl rfl rfl (by omega) (by decide) ?_
          have q9 : zup M1 11 i (zwf P i (M1 11) t) 9 = M1 9 := zup_row (by decide)
          repeat refine zr_s rfl rfl rfl ?_
          rw [q9, f4]
          refine zr_cr rfl rfl rfl (zf_mono (Nat.le_of_ble_eq_true rfl) (sp_max (by omega) (by omega))) ?_
          repeat refine zr_s rfl rfl rfl ?_
          refine zr_b rfl rfl ?_
          refine ih (m + 1) _ _ _ _ _ (by omega) (by omega) (fun a h1 h2 => by rw [zup_row h1, zup_row h2]; exact f1 a h1 h2) (fun b hb => by rw [zup_off hb, q9]; exact f2 b hb) ?_ ?_
          · intro q h1 h2
            rw [zup_row (a := 11) (by decide)]
            have hc : ∀ j, q < j → j < pn P → zup M1 11 i (zwf P i (M1 11) t) 11 j = M1 11 j := fun j g1 g2 => zup_off (by omega)
            rw [zwf_congr (g := M1 11) _ (fun j g1 g2 => hc j g1 (by omega))]
            by_cases hq : q = i
            · subst hq
              rw [zup_at, ht2]
            · rw [zup_off hq]
              exact f3 q (by omega) h2
          · rw [zup_at, zup_row (a := 11) (by decide)]
            have e : pn P - (m + 1) = i := by omega
            rw [e]
            show _ = max (zmxr _ (i + 1) m) (zup M1 11 i (zwf P i (M1 11) t) 11 i)
            rw [zup_at, zmxr_congr (g := M1 11) m (i + 1) (fun j g1 g2 => zup_off (by omega)), show i + 1 = pn P - m by omega]
        | succ r ihr =>
          intro t o4 ht
          have hwI := zwf_I hw hin t (by omega) hWI
          have hz := zdc_I hw hin (j := i + 1 + t) (by omega)
          have hWj := hWI (i + 1 + t) (by omega) (by omega)
          repeat refine zr_s rfl rfl rfl ?_
          refine zr_ige rfl (by omega) (by omega) (fun h => by omega) (fun h => ?_)
          repeat refine zr_s rfl rfl rfl ?_
          refine zr_cr rfl rfl rfl (zf_mono (Nat.le_of_ble_eq_true rfl) (sp_between hw hD1 hin (j := i + 1 + t) (by omega))) ?_
          rw [if_pos (by omega)]
          repeat refine zr_s rfl rfl rfl ?_
          refine zr_ieq rfl (by omega) (by decide) (fun h3 => ?_) (fun h3 => ?_)
          · repeat refine zr_s rfl rfl rfl ?_
            refine zr_b rfl rfl ?_
            have e : zwf P i (M1 11) (t + 1) = zwf P i (M1 11) t := by
              show (if zdc P i (i + 1 + t) ≠ -3 then _ else _) = _
              rw [if_neg (fun z => z h3)]
            rw [← e]
            exact ihr (t + 1) _ (by omega)
          · repeat refine zr_s rfl rfl rfl ?_
            refine zr_ald (i + 1 + t) rfl rfl rfl (by omega) (by decide) ?_
            repeat refine zr_s rfl rfl rfl ?_
            refine zr_cr rfl rfl rfl (zf_mono (Nat.le_of_ble_eq_true rfl) (sp_max (by omega) (by omega))) ?_
            repeat refine zr_s rfl rfl rfl ?_
            refine zr_b rfl rfl ?_
            have e : zwf P i (M1 11) (t + 1) = max (zwf P i (M1 11) t) (zdc P i (i + 1 + t) + M1 11 (i + 1 + t)) := by
              show (if zdc P i (i + 1 + t) ≠ -3 then _ else _) = _
              rw [if_pos h3]
            rw [← e]
            exact ihr (t + 1) _ (by omega)
      exact inner (pn P - 1 - i) 0 _ (by omega)
  have e9 : ∀ a, a ≠ 9 → zup M 9 3 0 a = M a := fun a h => zup_row h
  refine loop (pn P) 0 _ _ _ _ (zup M 9 3 0) (by omega) ?_ (fun a h1 _ => e9 a h1) (fun b hb => zup_off hb) (fun i h1 h2 => by omega) zup_at
  rw [e9 2 (by decide), hn]
  omega
theorem sp_find (hB : zBk M P) (hw : zWf P) : zf (zSh L) 5 kX1_find [zvr 9] M (fun v M1 => v = none ∧ (∀ a, a < 9 ∨ 12 < a → M1 a = M a) ∧ zDl M1 P (pn P) ∧ zIsE P (M1 12) (pn P) ∧ zIsW P (M1 11) 0 ∧ M1 9 3 = zmxr (M1 11) 0 (pn P) ∧ M1 9 2 = zpairs P (pn P)) := by
  have h60 := hw.1
  have hn := hB.1
  refine zf_of rfl (Nat.le_of_ble_eq_true rfl) ?_
  repeat refine zr_t 7 rfl rfl rfl rfl ?_
  have loop : ∀ (k j : Nat) (N : zM), j + k = pn P → (∀ a, a < 9 ∨ 12 < a → N a = M a) → zDl N P j → zIsE P (N 12) j → (∀ i, i < j → 0 ≤ N 12 i ∧ N 12 i ≤ 12 * i) → N 9 2 = zpairs P j → zr (zSh L) 4 tX1_find 7 [some (zvr 9), some (zvi j)] [] N (fun v M1 => v = none ∧ (∀ a, a < 9 ∨ 12 < a → M1 a = M a) ∧ zDl M1 P (pn P) ∧ zIsE P (M1 12) (pn P) ∧ zIsW P (M1 11) 0 ∧ M1 9 3 = zmxr (M1 11) 0 (pn P) ∧ M1 9 2 = zpairs P (pn P)) := by
    intro k
    induction k with
    | zero =>
      intro j N hj f1 f2 f3 f4 f5
      have hj2 : j = pn P := by omega
      subst hj2
      have hB1 : zBk N P := zBk_of hB (fun a h1 h2 => f1 a (by omega))
      have hn1 := hB1.1
      repeat refine zr_s rfl rfl rfl ?_
      refine zr_ige rfl (by omega) (by omega) (fun h => ?_) (fun h => by omega)
      repeat refine zr_s rfl rfl rfl ?_
      refine zr_c rfl rfl rfl (zf_mono (Nat.le_of_ble_eq_true rfl) (sp_findWays hB1 hw f2)) (fun v M1 hv => ?_)
      obtain ⟨rfl, g1, g2, g3, g4⟩ := hv
      repeat refine zr_s rfl rfl rfl ?_
      have e10 := g1 10 (by decide) (by decide)
      have e12 := g1 12 (by decide) (by decide)
      exact zr_retv rfl (⟨rfl, fun a ha => by rw [g1 a (by omega) (by omega)]; exact f1 a ha, fun j hj i hi => by rw [e10]; exact f2 j hj i hi, by rw [e12]; exact f3, g3, g4, by rw [g2 2 (by decide)]; exact f5⟩)
    | succ k ih =>
      intro j N hj f1 f2 f3 f4 f5
      have hB1 : zBk N P := zBk_of hB (fun a h1 h2 => f1 a (by omega))
      have hn1 := hB1.1
      have hpr := zpairs_le P j
      have htr := ztr_lt (j := j) (by omega)
      repeat refine zr_s rfl rfl rfl ?_
      refine zr_ige rfl (by omega) (by omega) (fun h => by omega) (fun h => ?_)
      repeat refine zr_s rfl rfl rfl ?_
      refine zr_c rfl rfl rfl (zf_mono (Nat.le_of_ble_eq_true rfl) (sp_findDelaysOf hB1 hw (j := j) (by omega) (by omega))) (fun v M1 hv => ?_)
      obtain ⟨rfl, g1, g2, g3, g4, g5⟩ := hv
      have e12 := g1 12 (by decide) (by decide)
      have hD1 : zDl M1 P (j + 1) := by
        intro q hq i hi
        by_cases hqj : q = j
        · subst hqj
          exact g4 i hi
        · have := ztr_mono (i := q + 1) (j := j) (by omega)
          have h3 : ztr (q + 1) = ztr q + q := rfl
          rw [g5 (ztr q + i) (by omega)]
          exact f2 q (by omega) i hi
      have hle : 0 ≤ zlc (fun i => zdc P i j) (N 12) j ∧ zlc (fun i => zdc P i j) (N 12) j ≤ 12 * j := by
        by_cases hj0 : j = 0
        · subst hj0
          exact ⟨Int.le_refl _, Int.le_refl _⟩
        · have h3 := zlc_I (g := fun i => zdc P i j) (f := N 12) j (c := 12 * ((j : Int) - 1)) (by omega) (fun i hi => by
            have h4 := zdc_I hw (i := i) (j := j) (by omega) (by omega)
            have h5 := f4 i hi
            exact ⟨h4.1, h4.2, by omega⟩)
          omega
      repeat refine zr_s rfl rfl rfl ?_
      refine zr_cr rfl rfl rfl (zf_mono (Nat.le_of_ble_eq_true rfl) (sp_leastCycle hw hD1 (j := j) (by omega) (by omega) rfl (fun i hi => by rw [e12]; have := f4 i hi; omega) (fun i hi => by rw [e12]; have := f4 i hi; omega))) ?_
      rw [e12]
      refine zr_ast (j) rfl rfl rfl (by omega) (by decide) ?_
      repeat refine zr_s rfl rfl rfl ?_
      refine zr_b rfl rfl ?_
      refine ih (j + 1) _ (by omega) (fun a ha => by rw [zup_row (by omega), g1 a (by omega) (by omega)]; exact f1 a ha) (fun q hq i hi => by rw [zup_row (by decide)]; exact hD1 q hq i hi) ?_ ?_ ?_
      · intro q hq
        have hc : ∀ m, m ≤ j → zlc (fun i => zdc P i q) (zup M1 12 j (zlc (fun i => zdc P i j) (N 12) j) 12) m = zlc (fun i => zdc P i q) (N 12) m := by
          intro m
          induction m with
          | zero => intro _; rfl
          | succ m ihm =>
            intro hm
            unfold zlc
            rw [ihm (by omega), zup_off (by omega), e12]
        rw [hc q (by omega)]
        by_cases hqj : q = j
        · subst hqj
          exact zup_at
        · rw [zup_off hqj, e12]
          exact f3 q (by omega)
      · intro i hi
        by_cases hij : i = j
        · subst hij
          rw [zup_at]
          exact hle
        · rw [zup_off hij, e12]
          exact f4 i (by omega)
      · rw [zup_row (by decide), g2, f5]
        show _ = ((zpairs P j + zpc P j j : Nat) : Int)
        omega
  exact loop (pn P) 0 (zup M 9 2 0) (by omega) (fun a ha => zup_row (by omega)) (fun j hj => by omega) (fun j hj => by omega) (fun i hi => by omega) zup_at
end ZX
end
section
/-! THE LIST PLAN, as the class makes it -/
def zfu (f : Nat → Int) (i : Nat) (x : Int) : Nat → Int := fun j => if j = i then x else f j
theorem zfu_at (f : Nat → Int) (i : Nat) (x : Int) : zfu f i x i = x := if_pos rfl
theorem zfu_off {f : Nat → Int} {i j : Nat} {x : Int} (h : j ≠ i) : zfu f i x j = f j := if_neg h
/-- how many of those on which j depends have no cycle -/
def zwt (P : zP) (f : Nat → Int) (j : Nat) : Nat → Nat
  | 0 => 0
  | i + 1 => zwt P f j i + if zdc P i j ≠ -3 ∧ f i = -3 then 1 else 0
/-- from which cycle on j may be -/
def zpf (P : zP) (f : Nat → Int) (j : Nat) : Int := zlc (fun i => zdc P i j) f j
def zfree (P : zP) (f : Nat → Int) (j : Nat) : Bool := decide (f j = -3) && decide (zwt P f j j = 0)
def zbst (P : zP) (W f : Nat → Int) (c : Int) : Nat → Int
  | 0 => -3
  | i + 1 => if zfree P f i = true ∧ zpf P f i ≤ c ∧ (zbst P W f c i = -3 ∨ W (zbst P W f c i).toNat < W i) then (i : Int) else zbst P W f c i
def zfst (P : zP) (f : Nat → Int) : Nat → Int
  | 0 => -3
  | i + 1 => if zfree P f i = true ∧ (zfst P f i = -3 ∨ zpf P f i < zfst P f i) then zpf P f i else zfst P f i
/-- cycles, order, cycle, how many in it -/
abbrev zLS : Type := (Nat → Int) × (Nat → Int) × Int × Int
def zlnext (P : zP) (W : Nat → Int) (k : Nat) (s : zLS) : zLS :=
  let b : Int := if s.2.2.2 < pu P then zbst P W s.1 s.2.2.1 (pn P) else -3
  let c : Int := if b = -3 then max (zfst P s.1 (pn P)) (s.2.2.1 + 1) else s.2.2.1
  let q : Int := if b = -3 then 0 else s.2.2.2
  let b2 : Int := if b = -3 then zbst P W s.1 c (pn P) else b
  if b2 = -3 then s else (zfu s.1 b2.toNat c, zfu s.2.1 k b2, c, q + 1)
def zls (P : zP) (W : Nat → Int) : Nat → zLS
  | 0 => (fun _ => -3, fun _ => 0, 0, 0)
  | k + 1 => zlnext P W k (zls P W k)
def zLI (M : zM) (P : zP) (f : Nat → Int) : Prop := (∀ i, i < pn P → M 14 i = f i) ∧ (∀ j, j < pn P → M 16 j = zwt P f j j) ∧ ∀ j, j < pn P → M 17 j = zpf P f j
theorem zwt_le (P : zP) (f : Nat → Int) (j : Nat) : ∀ m, zwt P f j m ≤ m
  | 0 => Nat.le_refl _
  | m + 1 => by
    have := zwt_le P f j m
    show zwt P f j m + (if zdc P m j ≠ -3 ∧ f m = -3 then 1 else 0) ≤ m + 1
    split <;> omega
theorem zbst_I (P : zP) (W f : Nat → Int) (c : Int) : ∀ m, zbst P W f c m = -3 ∨ ∃ b : Nat, zbst P W f c m = b ∧ b < m ∧ zfree P f b = true ∧ zpf P f b ≤ c
  | 0 => Or.inl rfl
  | m + 1 => by
    unfold zbst
    split
    · rename_i h
      exact Or.inr ⟨m, rfl, Nat.lt_succ_self m, h.1, h.2.1⟩
    · rcases zbst_I P W f c m with h | ⟨b, h1, h2, h3⟩
      · exact Or.inl h
      · exact Or.inr ⟨b, h1, by omega, h3⟩
theorem zpf_I {P : zP} (hw : zWf P) {f : Nat → Int} {c : Int} (hc : 0 ≤ c) {j : Nat} (hj : j < pn P) (hf : ∀ i, i < pn P → f i ≤ c) : 0 ≤ zpf P f j ∧ zpf P f j ≤ c + 12 :=
  zlc_I j hc (fun i hi => ⟨(zdc_I hw (by omega) hj).1, (zdc_I hw (by omega) hj).2, hf i (by omega)⟩)
theorem zfst_I {P : zP} (hw : zWf P) {f : Nat → Int} {c : Int} (hc : 0 ≤ c) (hf : ∀ i, i < pn P → f i ≤ c) : ∀ m, m ≤ pn P → -3 ≤ zfst P f m ∧ zfst P f m ≤ c + 12
  | 0, _ => by
    show (-3 : Int) ≤ -3 ∧ (-3 : Int) ≤ c + 12
    omega
  | m + 1, hm => by
    have h1 := zfst_I hw hc hf m (by omega)
    have h2 := zpf_I hw hc (j := m) (by omega) hf
    unfold zfst
    split <;> omega
/-- what stands through the making -/
def zlok2 (P : zP) (k : Nat) (s : zLS) : Prop := 0 ≤ s.2.2.1 ∧ s.2.2.1 ≤ 13 * k ∧ 0 ≤ s.2.2.2 ∧ s.2.2.2 ≤ pu P ∧ (∀ i, i < pn P → s.1 i = -3 ∨ (0 ≤ s.1 i ∧ s.1 i ≤ s.2.2.1)) ∧ ∀ i, 0 ≤ s.2.1 i ∧ s.2.1 i < pn P ∨ s.2.1 i = 0
theorem zlnext_ok {P : zP} (hw : zWf P) {W : Nat → Int} {k : Nat} {s : zLS} (h : zlok2 P k s) : zlok2 P (k + 1) (zlnext P W k s) := by
  obtain ⟨h1, h2, h3, h4, h5, h6⟩ := h
  have hu := hw.2.1
  have hf : ∀ i, i < pn P → s.1 i ≤ s.2.2.1 := fun i hi => by rcases h5 i hi with h | h <;> omega
  have hst := zfst_I hw h1 hf (pn P) (Nat.le_refl _)
  unfold zlnext
  simp only
  generalize hb : (if s.2.2.2 < pu P then zbst P W s.1 s.2.2.1 (pn P) else -3 : Int) = b
  have hbI : b = -3 ∨ ∃ q : Nat, b = q ∧ q < pn P := by
    rw [← hb]
    split
    · rcases zbst_I P W s.1 s.2.2.1 (pn P) with h | ⟨q, g1, g2, -⟩
      · exact Or.inl h
      · exact Or.inr ⟨q, g1, g2⟩
    · exact Or.inl rfl
  have hq : b ≠ -3 → s.2.2.2 < pu P := by
    intro hne
    rw [← hb] at hne
    by_cases hlt : s.2.2.2 < pu P
    · exact hlt
    · rw [if_neg hlt] at hne
      exact absurd rfl hne
  have fin : ∀ (c q b2 : Int), s.2.2.1 ≤ c → c ≤ 13 * ((k : Int) + 1) → 0 ≤ q → q < pu P → (b2 = -3 ∨ ∃ x : Nat, b2 = x ∧ x < pn P) → zlok2 P (k + 1) (if b2 = -3 then s else (zfu s.1 b2.toNat c, zfu s.2.1 k b2, c, q + 1)) := by
    intro c q b2 g1 g2 g3 g4 g5
    split
    · exact ⟨h1, by push_cast; omega, h3, h4, h5, h6⟩
    · rename_i hne
      rcases g5 with g5 | ⟨x, rfl, hx⟩
      · exact absurd g5 hne
      refine ⟨by show 0 ≤ c; omega, by push_cast; exact g2, by show 0 ≤ q + 1; omega, by show q + 1 ≤ pu P; omega, fun i hi => ?_, fun i => ?_⟩
      · by_cases hix : i = x
        · subst hix
          refine Or.inr ?_
          show 0 ≤ zfu s.1 (i : Int).toNat c i ∧ zfu s.1 (i : Int).toNat c i ≤ c
          rw [Int.toNat_natCast, zfu_at]
          omega
        · show zfu s.1 (x : Int).toNat c i = -3 ∨ 0 ≤ zfu s.1 (x : Int).toNat c i ∧ zfu s.1 (x : Int).toNat c i ≤ c
          rw [Int.toNat_natCast, zfu_off hix]
          rcases h5 i hi with h | h
          · exact Or.inl h
          · exact Or.inr (by omega)
      · by_cases hik : i = k
        · subst hik
          refine Or.inl ?_
          show 0 ≤ zfu s.2.1 i x i ∧ zfu s.2.1 i x i < pn P
          rw [zfu_at]
          omega
        · show 0 ≤ zfu s.2.1 k x i ∧ zfu s.2.1 k x i < pn P ∨ zfu s.2.1 k x i = 0
          rw [zfu_off hik]
          exact h6 i
  by_cases hb3 : b = -3
  · rw [if_pos hb3, if_pos hb3, if_pos hb3]
    refine fin _ _ _ (by omega) (by omega) (by omega) (by omega) ?_
    rcases zbst_I P W s.1 (max (zfst P s.1 (pn P)) (s.2.2.1 + 1)) (pn P) with h | ⟨q, g1, g2, -⟩
    · exact Or.inl h
    · exact Or.inr ⟨q, g1, g2⟩
  · have h7 := fin s.2.2.1 s.2.2.2 b (Int.le_refl _) (by omega) h3 (hq hb3) hbI
    simp only [if_neg hb3] at h7 ⊢
    exact h7
theorem zls_ok {P : zP} (hw : zWf P) (W : Nat → Int) : ∀ k, zlok2 P k (zls P W k)
  | 0 => by
    refine ⟨Int.le_refl _, Int.le_refl _, Int.le_refl _, ?_, fun i _ => Or.inl rfl, fun i => Or.inr rfl⟩
    show (0 : Int) ≤ pu P
    omega
  | k + 1 => zlnext_ok hw (zls_ok hw W k)
section ZX
variable {L : Nat} {M : zM} {P : zP} {f : Nat → Int}
theorem sp_isFreeL {i : Nat} (hw : zWf P) (hL : zLI M P f) (hf : ∀ i, i < pn P → -3 ≤ f i ∧ f i ≤ 1000) (hi : i < pn P) : zf (zSh L) 1 kX2_isFree [zvr 13, zvi i] M (fun v M1 => v = some (.inl (zb (zfree P f i))) ∧ M1 = M) := by
  have h60 := hw.1
  have h14 := hL.1 i hi
  have h16 := hL.2.1 i hi
  have hfi := hf i hi
  have hwt := zwt_le P f i i
  refine zf_of rfl (Nat.le_of_ble_eq_true rfl) ?_
  repeat refine zr_s rfl rfl rfl ?_
  refine zr_ald (i) rfl rfl rfl (by omega) (by decide) ?_
  rw [h14]
  repeat refine zr_s rfl rfl rfl ?_
  refine zr_ine rfl (by omega) (by decide) (fun h => ?_) (fun h => ?_)
  · repeat refine zr_s rfl rfl rfl ?_
    exact zr_retz rfl (by omega) (⟨by rw [zb_f (by simp [zfree, h])], rfl⟩)
  · repeat refine zr_s rfl rfl rfl ?_
    refine zr_ald (i) rfl rfl rfl (by omega) (by decide) ?_
    rw [h16]
    refine zr_zne rfl (by omega) (fun h2 => ?_) (fun h2 => ?_)
    · repeat refine zr_s rfl rfl rfl ?_
      exact zr_retz rfl (by omega) (⟨by rw [zb_f (by simp [zfree]; omega)], rfl⟩)
    · repeat refine zr_s rfl rfl rfl ?_
      exact zr_retz rfl (by omega) (⟨by rw [zb_t (by simp [zfree]; omega)], rfl⟩)
theorem sp_bestFor {c : Int} (hB : zBk M P) (hw : zWf P) (hL : zLI M P f) (hf : ∀ i, i < pn P → -3 ≤ f i ∧ f i ≤ 1000) (hc : 0 ≤ c ∧ c ≤ 2000) (hW : ∀ i, i < pn P → zI (M 11 i)) : zf (zSh L) 2 kX2_bestFor [zvr 13, zvi c] M (fun v M1 => v = some (.inl (zbst P (M 11) f c (pn P))) ∧ M1 = M) := by
  have h60 := hw.1
  have hn := hB.1
  refine zf_of rfl (Nat.le_of_ble_eq_true rfl) ?_
  repeat refine zr_t 5 rfl rfl rfl rfl ?_
  have loop : ∀ (k i : Nat), i + k = pn P → zr (zSh L) 1 tX2_bestFor 5 [some (zvr 13), some (zvi c), some (zvi (zbst P (M 11) f c i)), some (zvi i)] [] M (fun v M1 => v = some (.inl (zbst P (M 11) f c (pn P))) ∧ M1 = M) := by
    intro k
    induction k with
    | zero =>
      intro i hi
      repeat refine zr_s rfl rfl rfl ?_
      refine zr_ige rfl (by omega) (by omega) (fun h => ?_) (fun h => by omega)
      repeat refine zr_s rfl rfl rfl ?_
      exact zr_ret rfl (⟨by rw [show i = pn P by omega], rfl⟩)
    | succ k ih =>
      intro i hi
      have hbI : zbst P (M 11) f c i = -3 ∨ ∃ b : Nat, zbst P (M 11) f c i = b ∧ b < i := by
        rcases zbst_I P (M 11) f c i with h | ⟨b, h1, h2, -⟩
        · exact Or.inl h
        · exact Or.inr ⟨b, h1, h2⟩
      have hpf := zpf_I hw (f := f) (c := 1000) (by omega) (j := i) (by omega) (fun q hq => (hf q hq).2)
      have keep : ¬ (zfree P f i = true ∧ zpf P f i ≤ c ∧ (zbst P (M 11) f c i = -3 ∨ M 11 (zbst P (M 11) f c i).toNat < M 11 i)) → zr (zSh L) 1 tX2_bestFor 63 [some (zvr 13), some (zvi c), some (zvi (zbst P (M 11) f c i)), some (zvi i)] [] M (fun v M1 => v = some (.inl (zbst P (M 11) f c (pn P))) ∧ M1 = M) := by
        intro hne
        repeat refine zr_s rfl rfl rfl ?_
        refine zr_b rfl rfl ?_
        have e : zbst P (M 11) f c (i + 1) = zbst P (M 11) f c i := by
          show (if zfree P f i = true ∧ zpf P f i ≤ c ∧ (zbst P (M 11) f c i = -3 ∨ M 11 (zbst P (M 11) f c i).toNat < M 11 i) then _ else _) = _
          rw [if_neg hne]
        rw [← e]
        exact ih (i + 1) (by omega)
      have take : (zfree P f i = true ∧ zpf P f i ≤ c ∧ (zbst P (M 11) f c i = -3 ∨ M 11 (zbst P (M 11) f c i).toNat < M 11 i)) → zr (zSh L) 1 tX2_bestFor 61 [some (zvr 13), some (zvi c), some (zvi (zbst P (M 11) f c i)), some (zvi i)] [] M (fun v M1 => v = some (.inl (zbst P (M 11) f c (pn P))) ∧ M1 = M) := by
        intro hpo
        repeat refine zr_s rfl rfl rfl ?_
        refine zr_b rfl rfl ?_
        have e : zbst P (M 11) f c (i + 1) = i := by
          show (if zfree P f i = true ∧ zpf P f i ≤ c ∧ (zbst P (M 11) f c i = -3 ∨ M 11 (zbst P (M 11) f c i).toNat < M 11 i) then _ else _) = _
          rw [if_pos hpo]
        have h := ih (i + 1) (by omega)
        rw [e] at h
        exact h
      generalize zbst P (M 11) f c i = b at hbI keep take ⊢
      repeat refine zr_s rfl rfl rfl ?_
      refine zr_ige rfl (by omega) (by omega) (fun h => by omega) (fun h => ?_)
      repeat refine zr_s rfl rfl rfl ?_
      refine zr_cr rfl rfl rfl (zf_mono (Nat.le_of_ble_eq_true rfl) (sp_isFreeL hw hL hf (i := i) (by omega))) ?_
      cases hfr : zfree P f i with
      | false =>
        refine zr_zeq rfl (by decide) (fun h => ?_) (fun h => absurd rfl h)
        exact keep (fun z => by rw [hfr] at z; cases z.1)
      | true =>
        refine zr_zeq rfl (by decide) (fun h => by cases h) (fun h => ?_)
        repeat refine zr_s rfl rfl rfl ?_
        refine zr_ald (i) rfl rfl rfl (by omega) (by decide) ?_
        rw [hL.2.2 i (by omega)]
        repeat refine zr_s rfl rfl rfl ?_
        refine zr_igt rfl (by omega) (by omega) (fun h2 => ?_) (fun h2 => ?_)
        · exact keep (fun z => by omega)
        · rcases hbI with rfl | ⟨q, rfl, hq⟩
          · repeat refine zr_s rfl rfl rfl ?_
            refine zr_ieq rfl (by decide) (by decide) (fun _ => ?_) (fun h3 => absurd rfl h3)
            exact take ⟨hfr, h2, Or.inl rfl⟩
          · repeat refine zr_s rfl rfl rfl ?_
            refine zr_ieq rfl (by omega) (by decide) (fun h3 => by omega) (fun _ => ?_)
            repeat refine zr_s rfl rfl rfl ?_
            refine zr_ald (i) rfl rfl rfl (by omega) (by decide) ?_
            repeat refine zr_s rfl rfl rfl ?_
            refine zr_ald (q) rfl rfl rfl (by omega) (by decide) ?_
            refine zr_ile rfl (hW i (by omega)) (hW q (by omega)) (fun h3 => ?_) (fun h3 => ?_)
            · refine keep (fun z => ?_)
              have h4 := z.2.2
              rw [Int.toNat_natCast] at h4
              omega
            · exact take ⟨hfr, h2, Or.inr (by rw [Int.toNat_natCast]; exact h3)⟩
  exact loop (pn P) 0 (by omega)
theorem sp_firstPossibleBehind {c : Int} (hB : zBk M P) (hw : zWf P) (hL : zLI M P f) (hf : ∀ i, i < pn P → -3 ≤ f i ∧ f i ≤ 1000) (hc : 0 ≤ c ∧ c ≤ 2000) : zf (zSh L) 2 kX2_firstPossibleBehind [zvr 13, zvi c] M (fun v M1 => v = some (.inl (max (zfst P f (pn P)) (c + 1))) ∧ M1 = M) := by
  have h60 := hw.1
  have hn := hB.1
  refine zf_of rfl (Nat.le_of_ble_eq_true rfl) ?_
  repeat refine zr_t 5 rfl rfl rfl rfl ?_
  have loop : ∀ (k i : Nat), i + k = pn P → zr (zSh L) 1 tX2_firstPossibleBehind 5 [some (zvr 13), some (zvi c), some (zvi (zfst P f i)), some (zvi i)] [] M (fun v M1 => v = some (.inl (max (zfst P f (pn P)) (c + 1))) ∧ M1 = M) := by
    intro k
    induction k with
    | zero =>
      intro i hi
      have hst := zfst_I hw (f := f) (c := 1000) (by omega) (fun q hq => (hf q hq).2) i (by omega)
      repeat refine zr_s rfl rfl rfl ?_
      refine zr_ige rfl (by omega) (by omega) (fun h => ?_) (fun h => by omega)
      repeat refine zr_s rfl rfl rfl ?_
      refine zr_cr rfl rfl rfl (zf_mono (Nat.le_of_ble_eq_true rfl) (sp_max (by omega) (by omega))) ?_
      exact zr_ret rfl (⟨by rw [show i = pn P by omega], rfl⟩)
    | succ k ih =>
      intro i hi
      have hst := zfst_I hw (f := f) (c := 1000) (by omega) (fun q hq => (hf q hq).2) i (by omega)
      have hpf := zpf_I hw (f := f) (c := 1000) (by omega) (j := i) (by omega) (fun q hq => (hf q hq).2)
      have keep : ¬ (zfree P f i = true ∧ (zfst P f i = -3 ∨ zpf P f i < zfst P f i)) → zr (zSh L) 1 tX2_firstPossibleBehind 47 [some (zvr 13), some (zvi c), some (zvi (zfst P f i)), some (zvi i)] [] M (fun v M1 => v = some (.inl (max (zfst P f (pn P)) (c + 1))) ∧ M1 = M) := by
        intro hne
        repeat refine zr_s rfl rfl rfl ?_
        refine zr_b rfl rfl ?_
        have e : zfst P f (i + 1) = zfst P f i := by
          show (if zfree P f i = true ∧ (zfst P f i = -3 ∨ zpf P f i < zfst P f i) then _ else _) = _
          rw [if_neg hne]
        rw [← e]
        exact ih (i + 1) (by omega)
      have take : (zfree P f i = true ∧ (zfst P f i = -3 ∨ zpf P f i < zfst P f i)) → zr (zSh L) 1 tX2_firstPossibleBehind 40 [some (zvr 13), some (zvi c), some (zvi (zfst P f i)), some (zvi i)] [] M (fun v M1 => v = some (.inl (max (zfst P f (pn P)) (c + 1))) ∧ M1 = M) := by
        intro hpo
        repeat refine zr_s rfl rfl rfl ?_
        refine zr_ald (i) rfl rfl rfl (by omega) (by decide) ?_
        rw [hL.2.2 i (by omega)]
        repeat refine zr_s rfl rfl rfl ?_
        refine zr_b rfl rfl ?_
        have e : zfst P f (i + 1) = zpf P f i := by
          show (if zfree P f i = true ∧ (zfst P f i = -3 ∨ zpf P f i < zfst P f i) then _ else _) = _
          rw [if_pos hpo]
        have h := ih (i + 1) (by omega)
        rw [e] at h
        exact h
      repeat refine zr_s rfl rfl rfl ?_
      refine zr_ige rfl (by omega) (by omega) (fun h => by omega) (fun h => ?_)
      repeat refine zr_s rfl rfl rfl ?_
      refine zr_cr rfl rfl rfl (zf_mono (Nat.le_of_ble_eq_true rfl) (sp_isFreeL hw hL hf (i := i) (by omega))) ?_
      cases hfr : zfree P f i with
      | false =>
        refine zr_zeq rfl (by decide) (fun h => ?_) (fun h => absurd rfl h)
        exact keep (fun z => by rw [hfr] at z; cases z.1)
      | true =>
        refine zr_zeq rfl (by decide) (fun h => by cases h) (fun h => ?_)
        repeat refine zr_s rfl rfl rfl ?_
        refine zr_ieq rfl (by omega) (by decide) (fun h2 => ?_) (fun h2 => ?_)
        · exact take ⟨hfr, Or.inl h2⟩
        · repeat refine zr_s rfl rfl rfl ?_
          refine zr_ald (i) rfl rfl rfl (by omega) (by decide) ?_
          rw [hL.2.2 i (by omega)]
          repeat refine zr_s rfl rfl rfl ?_
          refine zr_ige rfl (by omega) (by omega) (fun h3 => ?_) (fun h3 => ?_)
          · exact keep (fun z => by omega)
          · exact take ⟨hfr, Or.inr h3⟩
  exact loop (pn P) 0 (by omega)
end ZX
end
section
/-! THE LIST PLAN, made -/
def zlb1 (P : zP) (W : Nat → Int) (s : zLS) : Int := if s.2.2.2 < pu P then zbst P W s.1 s.2.2.1 (pn P) else -3
def zlcc (P : zP) (W : Nat → Int) (s : zLS) : Int := if zlb1 P W s = -3 then max (zfst P s.1 (pn P)) (s.2.2.1 + 1) else s.2.2.1
def zlqq (P : zP) (W : Nat → Int) (s : zLS) : Int := if zlb1 P W s = -3 then 0 else s.2.2.2
def zlb2 (P : zP) (W : Nat → Int) (s : zLS) : Int := if zlb1 P W s = -3 then zbst P W s.1 (zlcc P W s) (pn P) else zlb1 P W s
theorem zlnext_eq (P : zP) (W : Nat → Int) (k : Nat) (s : zLS) : zlnext P W k s = if zlb2 P W s = -3 then s else (zfu s.1 (zlb2 P W s).toNat (zlcc P W s), zfu s.2.1 k (zlb2 P W s), zlcc P W s, zlqq P W s + 1) := rfl
theorem zwt_fu {P : zP} {f : Nat → Int} {i j : Nat} {x : Int} (hf : f i = -3) (hx : 0 ≤ x) : ∀ m, zwt P (zfu f i x) j m + (if i < m ∧ zdc P i j ≠ -3 then 1 else 0) = zwt P f j m
  | 0 => by rw [if_neg (by omega)]; rfl
  | m + 1 => by
    have h := zwt_fu (P := P) (j := j) hf hx m
    show zwt P (zfu f i x) j m + (if zdc P m j ≠ -3 ∧ zfu f i x m = -3 then 1 else 0) + _ = zwt P f j m + (if zdc P m j ≠ -3 ∧ f m = -3 then 1 else 0)
    by_cases hm : m = i
    · subst hm
      rw [zfu_at, if_neg (fun z : zdc P m j ≠ -3 ∧ x = -3 => by omega)]
      rw [if_neg (by omega)] at h
      by_cases hd : zdc P m j ≠ -3
      · rw [if_pos ⟨by omega, hd⟩, if_pos ⟨hd, hf⟩]
        omega
      · rw [if_neg (fun z => hd z.2), if_neg (fun z => hd z.1)]
        omega
    · rw [zfu_off hm]
      by_cases hi : i < m ∧ zdc P i j ≠ -3
      · rw [if_pos hi] at h
        rw [if_pos (⟨by omega, hi.2⟩ : i < m + 1 ∧ zdc P i j ≠ -3)]
        omega
      · rw [if_neg hi] at h
        rw [if_neg (show ¬ (i < m + 1 ∧ zdc P i j ≠ -3) from fun z => hi ⟨by omega, z.2⟩)]
        omega
theorem zlc_fu {g f : Nat → Int} {i : Nat} {x : Int} (hf : f i = -3) (hx : 0 ≤ x) : ∀ m, zlc g (zfu f i x) m = if i < m ∧ g i ≠ -3 then max (zlc g f m) (x + g i) else zlc g f m
  | 0 => by rw [if_neg (by omega)]; rfl
  | m + 1 => by
    have h := zlc_fu (g := g) hf hx m
    show (if g m ≠ -3 ∧ 0 ≤ zfu f i x m then max (zlc g (zfu f i x) m) (zfu f i x m + g m) else zlc g (zfu f i x) m) = if i < m + 1 ∧ g i ≠ -3 then max (if g m ≠ -3 ∧ 0 ≤ f m then max (zlc g f m) (f m + g m) else zlc g f m) (x + g i) else (if g m ≠ -3 ∧ 0 ≤ f m then max (zlc g f m) (f m + g m) else zlc g f m)
    by_cases hm : m = i
    · subst hm
      rw [if_neg (by omega)] at h
      rw [zfu_at, h, if_neg (show ¬ (g m ≠ -3 ∧ 0 ≤ f m) by omega)]
      by_cases hd : g m ≠ -3
      · rw [if_pos ⟨hd, hx⟩, if_pos ⟨by omega, hd⟩]
      · rw [if_neg (fun z => hd z.1), if_neg (fun z => hd z.2)]
    · rw [zfu_off hm, h]
      by_cases hi : i < m ∧ g i ≠ -3
      · rw [if_pos hi, if_pos (⟨by omega, hi.2⟩ : i < m + 1 ∧ g i ≠ -3)]
        split <;> omega
      · rw [if_neg hi, if_neg (show ¬ (i < m + 1 ∧ g i ≠ -3) from fun z => hi ⟨by omega, z.2⟩)]
section ZX
variable {L : Nat} {M : zM} {P : zP} {f : Nat → Int}
theorem sp_giveCycle {i : Nat} {x : Int} (hB : zBk M P) (hw : zWf P) (hD : zDl M P (pn P)) (hL : zLI M P f) (hf : ∀ i, i < pn P → -3 ≤ f i ∧ f i ≤ 1000) (hi : i < pn P) (hfi : f i = -3) (hx : 0 ≤ x ∧ x ≤ 1000) : zf (zSh L) 3 kX2_giveCycle [zvr 13, zvi i, zvi x] M (fun v M1 => v = none ∧ (∀ a, a < 14 ∨ a = 15 ∨ 17 < a → M1 a = M a) ∧ zLI M1 P (zfu f i x)) := by
  have h60 := hw.1
  have hn := hB.1
  refine zf_of rfl (Nat.le_of_ble_eq_true rfl) ?_
  repeat refine zr_s rfl rfl rfl ?_
  refine zr_ast (i) rfl rfl rfl (by omega) (by decide) ?_
  repeat refine zr_t 11 rfl rfl rfl rfl ?_
  have loop : ∀ (k j : Nat) (o : Option zV) (N : zM), j + k = pn P → i < j → (∀ a, a < 14 ∨ a = 15 ∨ 17 < a → N a = M a) → (∀ q, q < pn P → N 14 q = zfu f i x q) → (∀ q, q < pn P → q < j → N 16 q = zwt P (zfu f i x) q q ∧ N 17 q = zpf P (zfu f i x) q) → (∀ q, q < pn P → j ≤ q → N 16 q = zwt P f q q ∧ N 17 q = zpf P f q) → zr (zSh L) 2 tX2_giveCycle 11 [some (zvr 13), some (zvi i), some (zvi x), some (zvi j), o] [] N (fun v M1 => v = none ∧ (∀ a, a < 14 ∨ a = 15 ∨ 17 < a → M1 a = M a) ∧ zLI M1 P (zfu f i x)) := by
    intro k
    induction k with
    | zero =>
      intro j o N hj hij f1 f2 f3 f4
      have hB1 : zBk N P := zBk_of hB (fun a h1 h2 => f1 a (by omega))
      have hn1 := hB1.1
      repeat refine zr_s rfl rfl rfl ?_
      refine zr_ige rfl (by omega) (by omega) (fun h => ?_) (fun h => by omega)
      repeat refine zr_s rfl rfl rfl ?_
      exact zr_retv rfl (⟨rfl, f1, f2, fun q hq => (f3 q hq (by omega)).1, fun q hq => (f3 q hq (by omega)).2⟩)
    | succ k ih =>
      intro j o N hj hij f1 f2 f3 f4
      have hB1 : zBk N P := zBk_of hB (fun a h1 h2 => f1 a (by omega))
      have hn1 := hB1.1
      have hD1 : zDl N P (pn P) := fun q hq a ha => by rw [f1 10 (by omega)]; exact hD q hq a ha
      have hz := zdc_I hw hi (j := j) (by omega)
      have hjn : j < pn P := by omega
      obtain ⟨e16, e17⟩ := f4 j (by omega) (Nat.le_refl _)
      have hwj := zwt_le P f j j
      have hpf := zpf_I hw (f := f) (c := 1000) (by omega) hjn (fun q hq => (hf q hq).2)
      have u1 := zwt_fu (P := P) (j := j) hfi hx.1 j
      have u2 := zlc_fu (g := fun a => zdc P a j) hfi hx.1 j
      have u2 : zpf P (zfu f i x) j = if i < j ∧ zdc P i j ≠ -3 then max (zpf P f j) (x + zdc P i j) else zpf P f j := u2
      repeat refine zr_s rfl rfl rfl ?_
      refine zr_ige rfl (by omega) (by omega) (fun h => by omega) (fun h => ?_)
      repeat refine zr_s rfl rfl rfl ?_
      refine zr_cr rfl rfl rfl (zf_mono (Nat.le_of_ble_eq_true rfl) (sp_between hw hD1 hi hjn)) ?_
      rw [if_pos hij]
      repeat refine zr_s rfl rfl rfl ?_
      refine zr_ieq rfl (by omega) (by decide) (fun h3 => ?_) (fun h3 => ?_)
      · repeat refine zr_s rfl rfl rfl ?_
        refine zr_b rfl rfl ?_
        rw [if_neg (fun z => z.2 h3)] at u1 u2
        refine ih (j + 1) _ N (by omega) (by omega) f1 f2 (fun q h1 h2 => ?_) (fun q h1 h2 => f4 q h1 (by omega))
        by_cases hq : q = j
        · subst hq
          exact ⟨by rw [e16]; omega, by rw [e17, u2]⟩
        · exact f3 q h1 (by omega)
      · rw [if_pos ⟨hij, h3⟩] at u1 u2
        repeat refine zr_s rfl rfl rfl ?_
        refine zr_ald (j) rfl rfl rfl (by omega) (by decide) ?_
        rw [e16]
        repeat refine zr_s rfl rfl rfl ?_
        refine zr_ast (j) rfl rfl rfl (by omega) (by decide) ?_
        repeat refine zr_s rfl rfl rfl ?_
        have e17b : zup N 16 j ((zwt P f j j : Int) - 1) 17 = N 17 := zup_row (by decide)
        refine zr_ald (j) rfl rfl rfl (by omega) (by decide) ?_
        rw [e17b, e17]
        repeat refine zr_s rfl rfl rfl ?_
        refine zr_cr rfl rfl rfl (zf_mono (Nat.le_of_ble_eq_true rfl) (sp_max (by omega) (by omega))) ?_
        refine zr_ast (j) rfl rfl rfl (by omega) (by decide) ?_
        repeat refine zr_s rfl rfl rfl ?_
        refine zr_b rfl rfl ?_
        refine ih (j + 1) _ _ (by omega) (by omega) (fun a ha => by rw [zup_row (by omega), zup_row (by omega)]; exact f1 a ha) (fun q hq => by rw [zup_row (by decide), zup_row (by decide)]; exact f2 q hq) (fun q h1 h2 => ?_) (fun q h1 h2 => ?_)
        · by_cases hq : q = j
          · subst hq
            rw [zup_row (a := 16) (by decide), zup_at, zup_at]
            exact ⟨by omega, u2.symm⟩
          · rw [zup_row (a := 16) (by decide), zup_off hq, zup_off hq, e17b]
            exact f3 q h1 (by omega)
        · rw [zup_row (a := 16) (by decide), zup_off (by omega), zup_off (by omega), e17b]
          exact f4 q h1 (by omega)
  refine loop (pn P - (i + 1)) (i + 1) _ (zup M 14 i x) (by omega) (by omega) (fun a ha => zup_row (by omega)) (fun q hq => ?_) (fun q h1 h2 => ?_) (fun q h1 h2 => ?_)
  · by_cases hqi : q = i
    · subst hqi
      rw [zup_at, zfu_at]
    · rw [zup_off hqi, zfu_off hqi]
      exact hL.1 q hq
  · have u1 := zwt_fu (P := P) (j := q) hfi hx.1 q
    have u2 := zlc_fu (g := fun a => zdc P a q) hfi hx.1 q
    rw [if_neg (by omega)] at u1 u2
    rw [zup_row (a := 16) (by decide), zup_row (a := 17) (by decide), hL.2.1 q h1, hL.2.2 q h1]
    exact ⟨by omega, u2.symm⟩
  · rw [zup_row (a := 16) (by decide), zup_row (a := 17) (by decide)]
    exact ⟨hL.2.1 q h1, hL.2.2 q h1⟩
theorem zpf_none {P : zP} {f : Nat → Int} (h : ∀ i, f i < 0) (g : Nat → Int) : ∀ m, zlc g f m = 0
  | 0 => rfl
  | m + 1 => by
    have h1 := h m
    show (if g m ≠ -3 ∧ 0 ≤ f m then _ else zlc g f m) = 0
    rw [if_neg (by omega)]
    exact zpf_none (P := P) h g m
theorem sp_forgetCycles (hB : zBk M P) (hw : zWf P) (hD : zDl M P (pn P)) : zf (zSh L) 3 kX2_forgetCycles [zvr 13] M (fun v M1 => v = none ∧ (∀ a, a < 14 ∨ a = 15 ∨ 17 < a → M1 a = M a) ∧ zLI M1 P (fun _ => -3)) := by
  have h60 := hw.1
  have hn := hB.1
  refine zf_of rfl (Nat.le_of_ble_eq_true rfl) ?_
  repeat refine zr_t 2 rfl rfl rfl rfl ?_
  have loop : ∀ (k j : Nat) (o : Option zV) (N : zM), j + k = pn P → (∀ a, a < 14 ∨ a = 15 ∨ 17 < a → N a = M a) → (∀ q, q < j → N 14 q = -3 ∧ N 16 q = zwt P (fun _ => -3) q q ∧ N 17 q = 0) → zr (zSh L) 2 tX2_forgetCycles 2 [some (zvr 13), some (zvi j), o] [] N (fun v M1 => v = none ∧ (∀ a, a < 14 ∨ a = 15 ∨ 17 < a → M1 a = M a) ∧ zLI M1 P (fun _ => -3)) := by
    intro k
    induction k with
    | zero =>
      intro j o N hj f1 f2
      have hB1 : zBk N P := zBk_of hB (fun a h1 h2 => f1 a (by omega))
      have hn1 := hB1.1
      repeat refine zr_s rfl rfl rfl ?_
      refine zr_ige rfl (by omega) (by omega) (fun h => ?_) (fun h => by omega)
      repeat refine zr_s rfl rfl rfl ?_
      exact zr_retv rfl (⟨rfl, f1, fun q hq => (f2 q (by omega)).1, fun q hq => (f2 q (by omega)).2.1, fun q hq => by rw [(f2 q (by omega)).2.2]; exact (zpf_none (P := P) (fun _ => by decide) _ q).symm⟩)
    | succ k ih =>
      intro j o N hj f1 f2
      have hB1 : zBk N P := zBk_of hB (fun a h1 h2 => f1 a (by omega))
      have hn1 := hB1.1
      have hjn : j < pn P := by omega
      repeat refine zr_s rfl rfl rfl ?_
      refine zr_ige rfl (by omega) (by omega) (fun h => by omega) (fun h => ?_)
      repeat refine zr_s rfl rfl rfl ?_
      refine zr_ast (j) rfl rfl rfl (by omega) (by decide) ?_
      repeat refine zr_s rfl rfl rfl ?_
      refine zr_ast (j) rfl rfl rfl (by omega) (by decide) ?_
      repeat refine zr_s rfl rfl rfl ?_
      refine zr_ast (j) rfl rfl rfl (by omega) (by decide) ?_
      repeat refine zr_t 37 rfl rfl rfl rfl ?_
      have inner : ∀ (r i : Nat) (N2 : zM), i + r = j → (∀ a, a < 14 ∨ a = 15 ∨ 17 < a → N2 a = M a) → (∀ q, q < j → N2 14 q = -3 ∧ N2 16 q = zwt P (fun _ => -3) q q ∧ N2 17 q = 0) → N2 14 j = -3 → N2 16 j = zwt P (fun _ => -3) j i → N2 17 j = 0 → zr (zSh L) 2 tX2_forgetCycles 37 [some (zvr 13), some (zvi j), some (zvi i)] [] N2 (fun v M1 => v = none ∧ (∀ a, a < 14 ∨ a = 15 ∨ 17 < a → M1 a = M a) ∧ zLI M1 P (fun _ => -3)) := by
        intro r
        induction r with
        | zero =>
          intro i N2 hi g1 g2 g3 g4 g5
          repeat refine zr_s rfl rfl rfl ?_
          refine zr_ige rfl (by omega) (by omega) (fun h => ?_) (fun h => by omega)
          repeat refine zr_s rfl rfl rfl ?_
          refine zr_b rfl rfl ?_
          refine ih (j + 1) _ N2 (by omega) g1 (fun q hq => ?_)
          by_cases hqj : q = j
          · subst hqj
            rw [show i = q by omega] at g4
            exact ⟨g3, g4, g5⟩
          · exact g2 q (by omega)
        | succ r ihr =>
          intro i N2 hi g1 g2 g3 g4 g5
          have hD2 : zDl N2 P (pn P) := fun q hq a ha => by rw [g1 10 (by omega)]; exact hD q hq a ha
          have hz := zdc_I hw (i := i) (j := j) (by omega) hjn
          have hwt := zwt_le P (fun _ => -3) j i
          repeat refine zr_s rfl rfl rfl ?_
          refine zr_ige rfl (by omega) (by omega) (fun h => by omega) (fun h => ?_)
          repeat refine zr_s rfl rfl rfl ?_
          refine zr_cr rfl rfl rfl (zf_mono (Nat.le_of_ble_eq_true rfl) (sp_between hw hD2 (i := i) (by omega) hjn)) ?_
          rw [if_pos (by omega)]
          repeat refine zr_s rfl rfl rfl ?_
          have e : ((zwt P (fun _ => -3) j (i + 1) : Nat) : Int) = zwt P (fun _ => -3) j i + if zdc P i j ≠ -3 then 1 else 0 := by
            show ((zwt P (fun _ => -3) j i + (if zdc P i j ≠ -3 ∧ (-3 : Int) = -3 then 1 else 0) : Nat) : Int) = _
            by_cases hd : zdc P i j ≠ -3
            · rw [if_pos ⟨hd, rfl⟩, if_pos hd]; omega
            · rw [if_neg (fun z => hd z.1), if_neg hd]; omega
          refine zr_ieq rfl (by omega) (by decide) (fun h3 => ?_) (fun h3 => ?_)
          · repeat refine zr_s rfl rfl rfl ?_
            refine zr_b rfl rfl ?_
            rw [if_neg (fun z => z h3)] at e
            exact ihr (i + 1) N2 (by omega) g1 g2 g3 (by omega) g5
          · rw [if_pos h3] at e
            repeat refine zr_s rfl rfl rfl ?_
            refine zr_ald (j) rfl rfl rfl (by omega) (by decide) ?_
            rw [g4]
            repeat refine zr_s rfl rfl rfl ?_
            refine zr_ast (j) rfl rfl rfl (by omega) (by decide) ?_
            repeat refine zr_s rfl rfl rfl ?_
            refine zr_b rfl rfl ?_
            refine ihr (i + 1) _ (by omega) (fun a ha => by rw [zup_row (by omega)]; exact g1 a ha) (fun q hq => ?_) (by rw [zup_row (by decide)]; exact g3) (by rw [zup_at]; omega) (by rw [zup_row (by decide)]; exact g5)
            rw [zup_row (a := 14) (by decide), zup_row (a := 17) (by decide), zup_off (by omega)]
            exact g2 q hq
      refine inner j 0 _ (by omega) (fun a ha => by rw [zup_row (by omega), zup_row (by omega), zup_row (by omega)]; exact f1 a ha) (fun q hq => ?_) ?_ ?_ ?_
      · rw [zup_row (a := 14) (by decide), zup_row (a := 14) (by decide), zup_off (by omega), zup_off (by omega), zup_row (a := 16) (by decide), zup_row (a := 16) (by decide), zup_row (a := 17) (by decide), zup_off (by omega), zup_row (a := 17) (by decide)]
        exact f2 q hq
      · rw [zup_row (a := 14) (by decide), zup_row (a := 14) (by decide), zup_at]
      · rw [zup_at]; rfl
      · rw [zup_row (a := 17) (by decide), zup_at]
  exact loop (pn P) 0 _ M (by omega) (fun _ _ => rfl) (fun q hq => by omega)
end ZX
end
section
/-! THE LIST PLAN, the whole making; IN ORDER as the class makes it -/
section ZX
variable {L : Nat} {M : zM} {P : zP}
theorem sp_makeL (hB : zBk M P) (hw : zWf P) (hD : zDl M P (pn P)) (hW : ∀ i, i < pn P → zI (M 11 i)) (hgo : ∀ k, k < pn P → zlb2 P (M 11) (zls P (M 11) k) ≠ -3) : zf (zSh L) 4 kX2_make [zvr 13] M (fun v M1 => v = none ∧ (∀ a, a < 14 ∨ 17 < a → M1 a = M a) ∧ (∀ i, i < pn P → M1 14 i = (zls P (M 11) (pn P)).1 i) ∧ ∀ i, i < pn P → M1 15 i = (zls P (M 11) (pn P)).2.1 i) := by
  have h60 := hw.1
  have hn := hB.1
  have hu := hB.2.1
  have hu8 := hw.2.2.1
  refine zf_of rfl (Nat.le_of_ble_eq_true rfl) ?_
  repeat refine zr_s rfl rfl rfl ?_
  refine zr_c rfl rfl rfl (zf_mono (Nat.le_of_ble_eq_true rfl) (sp_forgetCycles hB hw hD)) (fun v M1 hv => ?_)
  obtain ⟨rfl, g1, g2⟩ := hv
  repeat refine zr_t 10 rfl rfl rfl rfl ?_
  have loop : ∀ (k i : Nat) (o : Option zV) (N : zM), i + k = pn P → (∀ a, a < 14 ∨ 17 < a → N a = M a) → zLI N P (zls P (M 11) i).1 → (∀ q, q < i → N 15 q = (zls P (M 11) i).2.1 q) → zr (zSh L) 3 tX2_make 10 [some (zvr 13), some (zvi (zls P (M 11) i).2.2.1), some (zvi (zls P (M 11) i).2.2.2), some (zvi i), o] [] N (fun v M1 => v = none ∧ (∀ a, a < 14 ∨ 17 < a → M1 a = M a) ∧ (∀ i, i < pn P → M1 14 i = (zls P (M 11) (pn P)).1 i) ∧ ∀ i, i < pn P → M1 15 i = (zls P (M 11) (pn P)).2.1 i) := by
    intro k
    induction k with
    | zero =>
      intro i o N hi f1 f2 f3
      have hi2 : i = pn P := by omega
      subst hi2
      have hB1 : zBk N P := zBk_of hB (fun a h1 h2 => f1 a (by omega))
      have hn1 := hB1.1
      repeat refine zr_s rfl rfl rfl ?_
      refine zr_ige rfl (by omega) (by omega) (fun h => ?_) (fun h => by omega)
      repeat refine zr_s rfl rfl rfl ?_
      exact zr_retv rfl (⟨rfl, f1, f2.1, f3⟩)
    | succ k ih =>
      intro i o N hi f1 f2 f3
      have hB1 : zBk N P := zBk_of hB (fun a h1 h2 => f1 a (by omega))
      have hn1 := hB1.1
      have hu1 := hB1.2.1
      have hD1 : zDl N P (pn P) := fun q hq a ha => by rw [f1 10 (by omega)]; exact hD q hq a ha
      have e11 := f1 11 (by omega)
      have hok := zls_ok hw (M 11) i
      have hne := hgo i (by omega)
      have hstep := zlnext_eq P (M 11) i (zls P (M 11) i)
      rw [if_neg hne] at hstep
      have hstep : zls P (M 11) (i + 1) = _ := hstep
      generalize hs : zls P (M 11) i = s at hok hne hstep f2 f3 ⊢
      obtain ⟨o1, o2, o3, o4, o5, o6⟩ := hok
      have hf : ∀ q, q < pn P → -3 ≤ s.1 q ∧ s.1 q ≤ 1000 := fun q hq => by rcases o5 q hq with h | h <;> omega
      have hst := zfst_I hw (f := s.1) o1 (fun q hq => by rcases o5 q hq with h | h <;> omega) (pn P) (Nat.le_refl _)
      have hcc : 0 ≤ zlcc P (M 11) s ∧ zlcc P (M 11) s ≤ 1000 := by
        unfold zlcc
        split <;> omega
      have hqq : 0 ≤ zlqq P (M 11) s ∧ zlqq P (M 11) s ≤ 8 := by
        unfold zlqq
        split <;> omega
      have hWN : ∀ q, q < pn P → zI (N 11 q) := fun q hq => by rw [e11]; exact hW q hq
      have hb2 : ∃ x : Nat, zlb2 P (M 11) s = x ∧ x < pn P ∧ s.1 x = -3 := by
        have key : ∀ c, zbst P (M 11) s.1 c (pn P) ≠ -3 → ∃ x : Nat, zbst P (M 11) s.1 c (pn P) = x ∧ x < pn P ∧ s.1 x = -3 := by
          intro c hc
          rcases zbst_I P (M 11) s.1 c (pn P) with h | ⟨x, h1, h2, h3, -⟩
          · exact absurd h hc
          · unfold zfree at h3
            simp only [Bool.and_eq_true, decide_eq_true_eq] at h3
            exact ⟨x, h1, h2, h3.1⟩
        unfold zlb2 at hne ⊢
        split
        · rename_i h
          rw [if_pos h] at hne
          exact key _ hne
        · rename_i h
          unfold zlb1 at h ⊢
          split
          · rename_i h2
            rw [if_pos h2] at h
            exact key _ h
          · rename_i h2
            rw [if_neg h2] at h
            exact absurd rfl h
      -- behind the choice
      have fin : zr (zSh L) 3 tX2_make 66 [some (zvr 13), some (zvi (zlcc P (M 11) s)), some (zvi (zlqq P (M 11) s)), some (zvi i), some (zvi (zlb2 P (M 11) s))] [] N (fun v M1 => v = none ∧ (∀ a, a < 14 ∨ 17 < a → M1 a = M a) ∧ (∀ i, i < pn P → M1 14 i = (zls P (M 11) (pn P)).1 i) ∧ ∀ i, i < pn P → M1 15 i = (zls P (M 11) (pn P)).2.1 i) := by
        obtain ⟨x, hx1, hx2, hx3⟩ := hb2
        rw [hx1]
        repeat refine zr_s rfl rfl rfl ?_
        refine zr_ine rfl (by omega) (by decide) (fun h => ?_) (fun h => by omega)
        repeat refine zr_s rfl rfl rfl ?_
        refine zr_ast (i) rfl rfl rfl (by omega) (by decide) ?_
        have hB2 : zBk (zup N 15 i x) P := zBk_of hB1 (fun a h1 h2 => zup_row (by omega))
        have hD2 : zDl (zup N 15 i x) P (pn P) := fun q hq a ha => by rw [zup_row (by decide)]; exact hD1 q hq a ha
        have hL2 : zLI (zup N 15 i x) P s.1 := by
          unfold zLI
          rw [zup_row (a := 14) (by decide), zup_row (a := 16) (by decide), zup_row (a := 17) (by decide)]
          exact f2
        repeat refine zr_s rfl rfl rfl ?_
        refine zr_c rfl rfl rfl (zf_mono (Nat.le_of_ble_eq_true rfl) (sp_giveCycle hB2 hw hD2 hL2 hf hx2 hx3 (x := zlcc P (M 11) s) hcc)) (fun v M1 hv => ?_)
        obtain ⟨rfl, q1, q2⟩ := hv
        repeat refine zr_s rfl rfl rfl ?_
        refine zr_b rfl rfl ?_
        have h7 := ih (i + 1) (some (zvi x)) M1 (by omega) (fun a ha => by rw [q1 a (by omega), zup_row (by omega)]; exact f1 a ha)
        rw [hstep, hx1, Int.toNat_natCast] at h7
        refine h7 q2 (fun q hq => ?_)
        rw [q1 15 (by omega)]
        show zup N 15 i x 15 q = zfu s.2.1 i x q
        by_cases hqi : q = i
        · subst hqi
          rw [zup_at, zfu_at]
        · rw [zup_off hqi, zfu_off hqi]
          exact f3 q (by omega)
      have mid : ∀ b : Int, b = zlb1 P (M 11) s → zr (zSh L) 3 tX2_make 44 [some (zvr 13), some (zvi s.2.2.1), some (zvi s.2.2.2), some (zvi i), some (zvi b)] [] N (fun v M1 => v = none ∧ (∀ a, a < 14 ∨ 17 < a → M1 a = M a) ∧ (∀ i, i < pn P → M1 14 i = (zls P (M 11) (pn P)).1 i) ∧ ∀ i, i < pn P → M1 15 i = (zls P (M 11) (pn P)).2.1 i) := by
        intro b hb
        have hbI : zI b := by
          rw [hb]
          unfold zlb1
          split
          · rcases zbst_I P (M 11) s.1 s.2.2.1 (pn P) with h | ⟨x, h1, h2, -⟩
            · rw [h]; decide
            · rw [h1]
              exact ⟨by omega, by omega⟩
          · decide
        repeat refine zr_s rfl rfl rfl ?_
        refine zr_ine rfl hbI (by decide) (fun h => ?_) (fun h => ?_)
        · have e1 : zlcc P (M 11) s = s.2.2.1 := by unfold zlcc; rw [if_neg (by rw [← hb]; exact h)]
          have e2 : zlqq P (M 11) s = s.2.2.2 := by unfold zlqq; rw [if_neg (by rw [← hb]; exact h)]
          have e3 : zlb2 P (M 11) s = b := by unfold zlb2; rw [if_neg (by rw [← hb]; exact h), hb]
          rw [e1, e2, e3] at fin
          exact fin
        · have e1 : zlcc P (M 11) s = max (zfst P s.1 (pn P)) (s.2.2.1 + 1) := by unfold zlcc; rw [if_pos (by rw [← hb]; exact h)]
          have e2 : zlqq P (M 11) s = 0 := by unfold zlqq; rw [if_pos (by rw [← hb]; exact h)]
          have e3 : zlb2 P (M 11) s = zbst P (M 11) s.1 (zlcc P (M 11) s) (pn P) := by unfold zlb2; rw [if_pos (by rw [← hb]; exact h)]
          repeat refine zr_s rfl rfl rfl ?_
          refine zr_cr rfl rfl rfl (zf_mono (Nat.le_of_ble_eq_true rfl) (sp_firstPossibleBehind hB1 hw f2 hf (c := s.2.2.1) (by omega))) ?_
          rw [← e1]
          repeat refine zr_s rfl rfl rfl ?_
          refine zr_cr rfl rfl rfl (zf_mono (Nat.le_of_ble_eq_true rfl) (sp_bestFor hB1 hw f2 hf (c := zlcc P (M 11) s) (by omega) hWN)) ?_
          rw [e11, ← e3]
          repeat refine zr_t 66 rfl rfl rfl rfl ?_
          rw [e2] at fin
          exact fin
      repeat refine zr_s rfl rfl rfl ?_
      refine zr_ige rfl (by omega) (by omega) (fun h => by omega) (fun h => ?_)
      repeat refine zr_s rfl rfl rfl ?_
      refine zr_ige rfl (by omega) (by omega) (fun h2 => ?_) (fun h2 => ?_)
      · repeat refine zr_t 44 rfl rfl rfl rfl ?_
        exact mid (-3) (by unfold zlb1; rw [if_neg (by omega)])
      · repeat refine zr_s rfl rfl rfl ?_
        refine zr_cr rfl rfl rfl (zf_mono (Nat.le_of_ble_eq_true rfl) (sp_bestFor hB1 hw f2 hf (c := s.2.2.1) (by omega) hWN)) ?_
        rw [e11]
        repeat refine zr_t 44 rfl rfl rfl rfl ?_
        exact mid _ (by unfold zlb1; rw [if_pos (by omega)])
  refine loop (pn P) 0 _ M1 (by omega) (fun a ha => g1 a (by omega)) g2 (fun q hq => by omega)
end ZX
end
section
/-! IN ORDER, as the class makes it -/
def zionext (P : zP) (s : (Nat → Int) × Int × Int) (i : Nat) : (Nat → Int) × Int × Int :=
  let l : Int := if s.2.2 = pu P then max (zlc (fun a => zdc P a i) s.1 i) (s.2.1 + 1) else zlc (fun a => zdc P a i) s.1 i
  if s.2.1 < l then (zfu s.1 i l, l, 1) else (zfu s.1 i s.2.1, s.2.1, s.2.2 + 1)
/-- cycles, cycle, how many in it, when k of the order have theirs -/
def zio (P : zP) (ord : Nat → Nat) : Nat → (Nat → Int) × Int × Int
  | 0 => (fun _ => -3, 0, 0)
  | k + 1 => zionext P (zio P ord k) (ord k)
/-- in the order each one stands behind all on which it depends -/
def zTop (P : zP) (ord : Nat → Nat) : Prop := ∀ k, k < pn P → ∀ a, a < ord k → zdc P a (ord k) ≠ -3 → ∃ k', k' < k ∧ ord k' = a
theorem zlc_congr {g f f2 : Nat → Int} : ∀ m, (∀ a, a < m → g a ≠ -3 → f a = f2 a) → zlc g f m = zlc g f2 m
  | 0, _ => rfl
  | m + 1, h => by
    have h1 := zlc_congr (g := g) m (fun a ha => h a (by omega))
    unfold zlc
    rw [h1]
    by_cases hd : g m ≠ -3
    · rw [h m (by omega) hd]
    · rw [if_neg (fun z => hd z.1), if_neg (fun z => hd z.1)]
theorem zionext_ok {P : zP} (hw : zWf P) {s : (Nat → Int) × Int × Int} {i k : Nat} (hi : i < pn P) (h : 0 ≤ s.2.1 ∧ s.2.1 ≤ 13 * k ∧ 0 ≤ s.2.2 ∧ s.2.2 ≤ pu P ∧ ∀ a, a < pn P → s.1 a = -3 ∨ (0 ≤ s.1 a ∧ s.1 a ≤ s.2.1)) : 0 ≤ (zionext P s i).2.1 ∧ (zionext P s i).2.1 ≤ 13 * ((k + 1 : Nat) : Int) ∧ 0 ≤ (zionext P s i).2.2 ∧ (zionext P s i).2.2 ≤ pu P ∧ ∀ a, a < pn P → (zionext P s i).1 a = -3 ∨ (0 ≤ (zionext P s i).1 a ∧ (zionext P s i).1 a ≤ (zionext P s i).2.1) := by
  obtain ⟨p1, p2, p3, p4, p5⟩ := h
  have hu := hw.2.1
  have hlI : 0 ≤ zlc (fun a => zdc P a i) s.1 i ∧ zlc (fun a => zdc P a i) s.1 i ≤ s.2.1 + 12 := zlc_I i p1 (fun a ha => ⟨(zdc_I hw (by omega) hi).1, (zdc_I hw (by omega) hi).2, by rcases p5 a (by omega) with h | h <;> omega⟩)
  have cell : ∀ (c : Int), s.2.1 ≤ c → ∀ a, a < pn P → zfu s.1 i c a = -3 ∨ (0 ≤ zfu s.1 i c a ∧ zfu s.1 i c a ≤ c) := by
    intro c hc a ha
    by_cases hai : a = i
    · rw [hai, zfu_at]
      exact Or.inr (by omega)
    · rw [zfu_off hai]
      rcases p5 a ha with h | h
      · exact Or.inl h
      · exact Or.inr (by omega)
  unfold zionext
  simp only
  by_cases hq : s.2.2 = pu P
  · rw [if_pos hq, if_pos (by omega)]
    refine ⟨?_, ?_, ?_, ?_, cell _ ?_⟩ <;> (try simp only) <;> (try push_cast) <;> omega
  · rw [if_neg hq]
    split
    · refine ⟨?_, ?_, ?_, ?_, cell _ ?_⟩ <;> (try simp only) <;> (try push_cast) <;> omega
    · refine ⟨?_, ?_, ?_, ?_, cell _ ?_⟩ <;> (try simp only) <;> (try push_cast) <;> omega
theorem zio_ok {P : zP} (hw : zWf P) {ord : Nat → Nat} (ho : ∀ k, k < pn P → ord k < pn P) : ∀ k, k ≤ pn P → 0 ≤ (zio P ord k).2.1 ∧ (zio P ord k).2.1 ≤ 13 * k ∧ 0 ≤ (zio P ord k).2.2 ∧ (zio P ord k).2.2 ≤ pu P ∧ ∀ a, a < pn P → (zio P ord k).1 a = -3 ∨ (0 ≤ (zio P ord k).1 a ∧ (zio P ord k).1 a ≤ (zio P ord k).2.1)
  | 0, _ => ⟨Int.le_refl _, Int.le_refl _, Int.le_refl _, by show (0 : Int) ≤ pu P; omega, fun a _ => Or.inl rfl⟩
  | k + 1, h => zionext_ok hw (ho k (by omega)) (zio_ok hw ho k (by omega))
section ZX
variable {L : Nat} {M : zM} {P : zP}
theorem sp_make_standing {ord : Nat → Nat} (hB : zBk M P) (hw : zWf P) (hD : zDl M P (pn P)) (hord : ∀ k, k < pn P → M 33 k = ord k ∧ ord k < pn P) (htop : zTop P ord) (hr : ∀ i, i < 60 → -3 ≤ M 19 i ∧ M 19 i ≤ 1000) : zf (zSh L) 3 kX4_make [zvr 18, zvr 33] M (fun v M1 => v = none ∧ (∀ a, a ≠ 19 → M1 a = M a) ∧ (∀ k, k < pn P → M1 19 (ord k) = (zio P ord (pn P)).1 (ord k)) ∧ ∀ i, i < 60 → -3 ≤ M1 19 i ∧ M1 19 i ≤ 1000) := by
  have h60 := hw.1
  have hn := hB.1
  have hu := hB.2.1
  have hu8 := hw.2.2.1
  refine zf_of rfl (Nat.le_of_ble_eq_true rfl) ?_
  repeat refine zr_t 7 rfl rfl rfl rfl ?_
  have loop : ∀ (k i : Nat) (o5 o6 : Option zV) (N : zM), i + k = pn P → (∀ a, a ≠ 19 → N a = M a) → (∀ q, q < i → N 19 (ord q) = (zio P ord i).1 (ord q)) → (∀ i, i < 60 → -3 ≤ N 19 i ∧ N 19 i ≤ 1000) → zr (zSh L) 2 tX4_make 7 [some (zvr 18), some (zvr 33), some (zvi (zio P ord i).2.1), some (zvi (zio P ord i).2.2), some (zvi i), o5, o6] [] N (fun v M1 => v = none ∧ (∀ a, a ≠ 19 → M1 a = M a) ∧ (∀ k, k < pn P → M1 19 (ord k) = (zio P ord (pn P)).1 (ord k)) ∧ ∀ i, i < 60 → -3 ≤ M1 19 i ∧ M1 19 i ≤ 1000) := by
    intro k
    induction k with
    | zero =>
      intro i o5 o6 N hi f1 f2 f3
      have hi2 : i = pn P := by omega
      subst hi2
      have hB1 : zBk N P := zBk_of hB (fun a h1 h2 => f1 a (by omega))
      have hn1 := hB1.1
      repeat refine zr_s rfl rfl rfl ?_
      refine zr_ige rfl (by omega) (by omega) (fun h => ?_) (fun h => by omega)
      repeat refine zr_s rfl rfl rfl ?_
      exact zr_retv rfl (⟨rfl, f1, f2, f3⟩)
    | succ k ih =>
      intro i o5 o6 N hi f1 f2 f3
      have hB1 : zBk N P := zBk_of hB (fun a h1 h2 => f1 a (by omega))
      have hn1 := hB1.1
      have hu1 := hB1.2.1
      have hD1 : zDl N P (pn P) := fun q hq a ha => by rw [f1 10 (by omega)]; exact hD q hq a ha
      obtain ⟨ho1, ho2⟩ := hord i (by omega)
      have hok := zio_ok hw (ord := ord) (fun q hq => (hord q hq).2) i (by omega)
      have elc : zlc (fun a => zdc P a (ord i)) (N 19) (ord i) = zlc (fun a => zdc P a (ord i)) (zio P ord i).1 (ord i) := by
        refine zlc_congr _ (fun a ha hd => ?_)
        obtain ⟨k', hk1, hk2⟩ := htop i (by omega) a ha hd
        rw [← hk2]
        exact f2 k' hk1
      have hnx : zio P ord (i + 1) = zionext P (zio P ord i) (ord i) := rfl
      generalize zio P ord i = s at hok elc hnx f2 ⊢
      obtain ⟨p1, p2, p3, p4, p5⟩ := hok
      have hlI : 0 ≤ zlc (fun a => zdc P a (ord i)) s.1 (ord i) ∧ zlc (fun a => zdc P a (ord i)) s.1 (ord i) ≤ s.2.1 + 12 := zlc_I (ord i) p1 (fun a ha => ⟨(zdc_I hw (by omega) ho2).1, (zdc_I hw (by omega) ho2).2, by rcases p5 a (by omega) with h | h <;> omega⟩)
      repeat refine zr_s rfl rfl rfl ?_
      refine zr_ige rfl (by omega) (by omega) (fun h => by omega) (fun h => ?_)
      repeat refine zr_s rfl rfl rfl ?_
      refine zr_ald (i) rfl rfl rfl (by omega) (by decide) ?_
      rw [f1 33 (by decide), ho1]
      repeat refine zr_s rfl rfl rfl ?_
      refine zr_cr rfl rfl rfl (zf_mono (Nat.le_of_ble_eq_true rfl) (sp_leastCycle hw hD1 ho2 ho2 rfl (fun a ha => by have := f3 a (by omega); omega) (fun a ha => by have := f3 a (by omega); omega))) ?_
      rw [elc]
      have fin : ∀ (c q l : Int), 0 ≤ c → c ≤ 1000 → 0 ≤ q → q ≤ 8 → zio P ord (i + 1) = (zfu s.1 (ord i) c, c, q + 1) → zr (zSh L) 2 tX4_make 72 [some (zvr 18), some (zvr 33), some (zvi c), some (zvi q), some (zvi i), some (zvi (ord i)), some (zvi l)] [] N (fun v M1 => v = none ∧ (∀ a, a ≠ 19 → M1 a = M a) ∧ (∀ k, k < pn P → M1 19 (ord k) = (zio P ord (pn P)).1 (ord k)) ∧ ∀ i, i < 60 → -3 ≤ M1 19 i ∧ M1 19 i ≤ 1000) := by
        intro c q l g1 g2 g3 g4 g5
        repeat refine zr_s rfl rfl rfl ?_
        refine zr_ast (ord i) rfl rfl rfl (by omega) (by decide) ?_
        repeat refine zr_s rfl rfl rfl ?_
        refine zr_b rfl rfl ?_
        have h7 := ih (i + 1) (some (zvi (ord i))) (some (zvi l)) (zup N 19 (ord i) c) (by omega) (fun a ha => by rw [zup_row ha]; exact f1 a ha)
        rw [g5] at h7
        refine h7 (fun q hq => ?_) (fun a ha => ?_)
        · show zup N 19 (ord i) c 19 (ord q) = zfu s.1 (ord i) c (ord q)
          by_cases hqi : ord q = ord i
          · rw [hqi, zup_at, zfu_at]
          · rw [zup_off hqi, zfu_off hqi]
            refine f2 q ?_
            have : q ≠ i := fun z => hqi (by rw [z])
            omega
        · by_cases hqi : a = ord i
          · rw [hqi, zup_at]
            omega
          · rw [zup_off hqi]
            exact f3 a ha
      have mid : ∀ l : Int, l = (if s.2.2 = pu P then max (zlc (fun a => zdc P a (ord i)) s.1 (ord i)) (s.2.1 + 1) else zlc (fun a => zdc P a (ord i)) s.1 (ord i)) → zr (zSh L) 2 tX4_make 61 [some (zvr 18), some (zvr 33), some (zvi s.2.1), some (zvi s.2.2), some (zvi i), some (zvi (ord i)), some (zvi l)] [] N (fun v M1 => v = none ∧ (∀ a, a ≠ 19 → M1 a = M a) ∧ (∀ k, k < pn P → M1 19 (ord k) = (zio P ord (pn P)).1 (ord k)) ∧ ∀ i, i < 60 → -3 ≤ M1 19 i ∧ M1 19 i ≤ 1000) := by
        intro l hl
        have hlb : 0 ≤ l ∧ l ≤ 1000 := by
          rw [hl]
          split <;> omega
        repeat refine zr_s rfl rfl rfl ?_
        refine zr_ile rfl (by omega) (by omega) (fun h2 => ?_) (fun h2 => ?_)
        · refine fin s.2.1 s.2.2 l (by omega) (by omega) (by omega) (by omega) ?_
          rw [hnx]
          unfold zionext
          simp only [← hl]
          rw [if_neg (by omega)]
        · repeat refine zr_t 72 rfl rfl rfl rfl ?_
          refine fin l 0 l (by omega) (by omega) (by omega) (by omega) ?_
          rw [hnx]
          unfold zionext
          simp only [← hl]
          rw [if_pos (by omega)]
          rfl
      repeat refine zr_s rfl rfl rfl ?_
      refine zr_ine rfl (by omega) (by omega) (fun h2 => ?_) (fun h2 => ?_)
      · exact mid _ (by rw [if_neg (by omega)])
      · repeat refine zr_s rfl rfl rfl ?_
        refine zr_cr rfl rfl rfl (zf_mono (Nat.le_of_ble_eq_true rfl) (sp_max (by omega) (by omega))) ?_
        repeat refine zr_t 61 rfl rfl rfl rfl ?_
        exact mid _ (by rw [if_pos (by omega)])
  exact loop (pn P) 0 _ _ M (by omega) (fun _ _ => rfl) (fun q hq => by omega) hr
theorem sp_make_relisted {ord : Nat → Nat} (hB : zBk M P) (hw : zWf P) (hD : zDl M P (pn P)) (hord : ∀ k, k < pn P → M 15 k = ord k ∧ ord k < pn P) (htop : zTop P ord) (hr : ∀ i, i < 60 → -3 ≤ M 21 i ∧ M 21 i ≤ 1000) : zf (zSh L) 3 kX4_make [zvr 20, zvr 15] M (fun v M1 => v = none ∧ (∀ a, a ≠ 21 → M1 a = M a) ∧ (∀ k, k < pn P → M1 21 (ord k) = (zio P ord (pn P)).1 (ord k)) ∧ ∀ i, i < 60 → -3 ≤ M1 21 i ∧ M1 21 i ≤ 1000) := by
  have h60 := hw.1
  have hn := hB.1
  have hu := hB.2.1
  have hu8 := hw.2.2.1
  refine zf_of rfl (Nat.le_of_ble_eq_true rfl) ?_
  repeat refine zr_t 7 rfl rfl rfl rfl ?_
  have loop : ∀ (k i : Nat) (o5 o6 : Option zV) (N : zM), i + k = pn P → (∀ a, a ≠ 21 → N a = M a) → (∀ q, q < i → N 21 (ord q) = (zio P ord i).1 (ord q)) → (∀ i, i < 60 → -3 ≤ N 21 i ∧ N 21 i ≤ 1000) → zr (zSh L) 2 tX4_make 7 [some (zvr 20), some (zvr 15), some (zvi (zio P ord i).2.1), some (zvi (zio P ord i).2.2), some (zvi i), o5, o6] [] N (fun v M1 => v = none ∧ (∀ a, a ≠ 21 → M1 a = M a) ∧ (∀ k, k < pn P → M1 21 (ord k) = (zio P ord (pn P)).1 (ord k)) ∧ ∀ i, i < 60 → -3 ≤ M1 21 i ∧ M1 21 i ≤ 1000) := by
    intro k
    induction k with
    | zero =>
      intro i o5 o6 N hi f1 f2 f3
      have hi2 : i = pn P := by omega
      subst hi2
      have hB1 : zBk N P := zBk_of hB (fun a h1 h2 => f1 a (by omega))
      have hn1 := hB1.1
      repeat refine zr_s rfl rfl rfl ?_
      refine zr_ige rfl (by omega) (by omega) (fun h => ?_) (fun h => by omega)
      repeat refine zr_s rfl rfl rfl ?_
      exact zr_retv rfl (⟨rfl, f1, f2, f3⟩)
    | succ k ih =>
      intro i o5 o6 N hi f1 f2 f3
      have hB1 : zBk N P := zBk_of hB (fun a h1 h2 => f1 a (by omega))
      have hn1 := hB1.1
      have hu1 := hB1.2.1
      have hD1 : zDl N P (pn P) := fun q hq a ha => by rw [f1 10 (by omega)]; exact hD q hq a ha
      obtain ⟨ho1, ho2⟩ := hord i (by omega)
      have hok := zio_ok hw (ord := ord) (fun q hq => (hord q hq).2) i (by omega)
      have elc : zlc (fun a => zdc P a (ord i)) (N 21) (ord i) = zlc (fun a => zdc P a (ord i)) (zio P ord i).1 (ord i) := by
        refine zlc_congr _ (fun a ha hd => ?_)
        obtain ⟨k', hk1, hk2⟩ := htop i (by omega) a ha hd
        rw [← hk2]
        exact f2 k' hk1
      have hnx : zio P ord (i + 1) = zionext P (zio P ord i) (ord i) := rfl
      generalize zio P ord i = s at hok elc hnx f2 ⊢
      obtain ⟨p1, p2, p3, p4, p5⟩ := hok
      have hlI : 0 ≤ zlc (fun a => zdc P a (ord i)) s.1 (ord i) ∧ zlc (fun a => zdc P a (ord i)) s.1 (ord i) ≤ s.2.1 + 12 := zlc_I (ord i) p1 (fun a ha => ⟨(zdc_I hw (by omega) ho2).1, (zdc_I hw (by omega) ho2).2, by rcases p5 a (by omega) with h | h <;> omega⟩)
      repeat refine zr_s rfl rfl rfl ?_
      refine zr_ige rfl (by omega) (by omega) (fun h => by omega) (fun h => ?_)
      repeat refine zr_s rfl rfl rfl ?_
      refine zr_ald (i) rfl rfl rfl (by omega) (by decide) ?_
      rw [f1 15 (by decide), ho1]
      repeat refine zr_s rfl rfl rfl ?_
      refine zr_cr rfl rfl rfl (zf_mono (Nat.le_of_ble_eq_true rfl) (sp_leastCycle hw hD1 ho2 ho2 rfl (fun a ha => by have := f3 a (by omega); omega) (fun a ha => by have := f3 a (by omega); omega))) ?_
      rw [elc]
      have fin : ∀ (c q l : Int), 0 ≤ c → c ≤ 1000 → 0 ≤ q → q ≤ 8 → zio P ord (i + 1) = (zfu s.1 (ord i) c, c, q + 1) → zr (zSh L) 2 tX4_make 72 [some (zvr 20), some (zvr 15), some (zvi c), some (zvi q), some (zvi i), some (zvi (ord i)), some (zvi l)] [] N (fun v M1 => v = none ∧ (∀ a, a ≠ 21 → M1 a = M a) ∧ (∀ k, k < pn P → M1 21 (ord k) = (zio P ord (pn P)).1 (ord k)) ∧ ∀ i, i < 60 → -3 ≤ M1 21 i ∧ M1 21 i ≤ 1000) := by
        intro c q l g1 g2 g3 g4 g5
        repeat refine zr_s rfl rfl rfl ?_
        refine zr_ast (ord i) rfl rfl rfl (by omega) (by decide) ?_
        repeat refine zr_s rfl rfl rfl ?_
        refine zr_b rfl rfl ?_
        have h7 := ih (i + 1) (some (zvi (ord i))) (some (zvi l)) (zup N 21 (ord i) c) (by omega) (fun a ha => by rw [zup_row ha]; exact f1 a ha)
        rw [g5] at h7
        refine h7 (fun q hq => ?_) (fun a ha => ?_)
        · show zup N 21 (ord i) c 21 (ord q) = zfu s.1 (ord i) c (ord q)
          by_cases hqi : ord q = ord i
          · rw [hqi, zup_at, zfu_at]
          · rw [zup_off hqi, zfu_off hqi]
            refine f2 q ?_
            have : q ≠ i := fun z => hqi (by rw [z])
            omega
        · by_cases hqi : a = ord i
          · rw [hqi, zup_at]
            omega
          · rw [zup_off hqi]
            exact f3 a ha
      have mid : ∀ l : Int, l = (if s.2.2 = pu P then max (zlc (fun a => zdc P a (ord i)) s.1 (ord i)) (s.2.1 + 1) else zlc (fun a => zdc P a (ord i)) s.1 (ord i)) → zr (zSh L) 2 tX4_make 61 [some (zvr 20), some (zvr 15), some (zvi s.2.1), some (zvi s.2.2), some (zvi i), some (zvi (ord i)), some (zvi l)] [] N (fun v M1 => v = none ∧ (∀ a, a ≠ 21 → M1 a = M a) ∧ (∀ k, k < pn P → M1 21 (ord k) = (zio P ord (pn P)).1 (ord k)) ∧ ∀ i, i < 60 → -3 ≤ M1 21 i ∧ M1 21 i ≤ 1000) := by
        intro l hl
        have hlb : 0 ≤ l ∧ l ≤ 1000 := by
          rw [hl]
          split <;> omega
        repeat refine zr_s rfl rfl rfl ?_
        refine zr_ile rfl (by omega) (by omega) (fun h2 => ?_) (fun h2 => ?_)
        · refine fin s.2.1 s.2.2 l (by omega) (by omega) (by omega) (by omega) ?_
          rw [hnx]
          unfold zionext
          simp only [← hl]
          rw [if_neg (by omega)]
        · repeat refine zr_t 72 rfl rfl rfl rfl ?_
          refine fin l 0 l (by omega) (by omega) (by omega) (by omega) ?_
          rw [hnx]
          unfold zionext
          simp only [← hl]
          rw [if_pos (by omega)]
          rfl
      repeat refine zr_s rfl rfl rfl ?_
      refine zr_ine rfl (by omega) (by omega) (fun h2 => ?_) (fun h2 => ?_)
      · exact mid _ (by rw [if_neg (by omega)])
      · repeat refine zr_s rfl rfl rfl ?_
        refine zr_cr rfl rfl rfl (zf_mono (Nat.le_of_ble_eq_true rfl) (sp_max (by omega) (by omega))) ?_
        repeat refine zr_t 61 rfl rfl rfl rfl ?_
        exact mid _ (by rw [if_pos (by omega)])
  exact loop (pn P) 0 _ _ M (by omega) (fun _ _ => rfl) (fun q hq => by omega) hr
end ZX
end
section
/-! THE SEARCH FOR THE SHORTEST PLAN, as the class does it -/
theorem zdivn {x y : Int} (h0 : 0 ≤ x) (h1 : x < 2147483648) (hy : 1 ≤ y) (hy2 : y < 2147483648) : zdiv x y = x / y := by
  unfold zdiv
  have hne : Int32.ofInt y ≠ -1 := by
    intro h
    have h2 := congrArg Int32.toInt h
    have h3 : (Int32.ofInt y).toInt = y := zwid (by omega) hy2
    rw [h3] at h2
    have h4 : (-1 : Int32).toInt = -1 := by decide
    omega
  rw [Int32.toInt_div_of_ne_right _ _ hne]
  show (zw x).tdiv (zw y) = _
  rw [zwid (by omega) h1, zwid (by omega) hy2, Int.tdiv_eq_ediv_of_nonneg h0]
theorem zr_div {S : List zC} {d : Nat} {cd : List (Option zR)} {pc : Nat} {ls : List (Option zV)} {st : List zV} {M : zM} {Q : Option zV → zM → Prop} {x y : Int} {ra rb rt : Nat} (hc : cd[pc]? = some (some (.idiv, ra, rb, rt))) (h0 : 0 ≤ x ∧ x < 2147483648) (hy : 1 ≤ y ∧ y < 2147483648) (h : zr S d cd (pc + 1) ls (.inl (x / y) :: st) M Q) : zr S d cd pc ls (.inl y :: .inl x :: st) M Q := by
  rw [← zdivn h0.1 h0.2 hy.1 hy.2] at h
  refine zWp_step hc rfl ?_ h
  show (if zw y ≠ 0 then some (pc + 1, ls, .inl (zdiv x y) :: st, S, M) else none) = _
  rw [zwid (by omega) hy.2, if_pos (by omega)]
/-- how many without a cycle have at least this way -/
def zhm (f W : Nat → Int) (l : Int) : Nat → Nat
  | 0 => 0
  | i + 1 => zhm f W l i + if f i = -3 ∧ l ≤ W i then 1 else 0
/-- the least cycle that the last of them can have, and its way -/
def zhb (P : zP) (f W : Nat → Int) (c q : Int) (i : Nat) : Int := max (c + (q + zhm f W (W i) (pn P) - 1) / pu P) (zpf P f i) + W i
def zhl (P : zP) (f W : Nat → Int) (c q b : Int) (m : Nat) : Bool := (List.range m).any (fun i => decide (f i = -3) && decide (b ≤ zhb P f W c q i))
/-- the best length behind a search with d instructions more to place, p placed, from cycle c, q in it -/
def zta (P : zP) (W : Nat → Int) : Nat → (Nat → Int) → Nat → Int → Int → Int → Int
  | 0, f, _, _, _, b => min b (zlen P f (pn P))
  | d + 1, f, p, c, q, b => if pn P ≤ p then min b (zlen P f (pn P)) else if zhl P f W c q b (pn P) = true then b else
      (List.range (pn P)).foldl (fun b i => if f i = -3 ∧ zwt P f i i = 0 then
        let a : Int := max (if q < pu P then c else c + 1) (zpf P f i)
        zta P W d (zfu f i a) (p + 1) a (if a = c then q + 1 else 1) b else b) b
section ZX
variable {L : Nat} {M : zM} {P : zP} {f : Nat → Int}
theorem zhm_le (f W : Nat → Int) (l : Int) : ∀ m, zhm f W l m ≤ m
  | 0 => Nat.le_refl _
  | m + 1 => by
    have := zhm_le f W l m
    show zhm f W l m + (if f m = -3 ∧ l ≤ W m then 1 else 0) ≤ m + 1
    split <;> omega
theorem sp_howMany {l : Int} (hB : zBk M P) (hw : zWf P) (hf : ∀ i, i < pn P → M 23 i = f i ∧ -3 ≤ f i ∧ f i ≤ 100000) (hW : ∀ i, i < pn P → zI (M 11 i)) (hl : zI l) : zf (zSh L) 1 kX6_howManyWithWay [zvr 22, zvi l] M (fun v M1 => v = some (.inl (zhm f (M 11) l (pn P))) ∧ M1 = M) := by
  have h60 := hw.1
  have hn := hB.1
  refine zf_of rfl (Nat.le_of_ble_eq_true rfl) ?_
  repeat refine zr_t 4 rfl rfl rfl rfl ?_
  have loop : ∀ (k i : Nat), i + k = pn P → zr (zSh L) 0 tX6_howManyWithWay 4 [some (zvr 22), some (zvi l), some (zvi (zhm f (M 11) l i)), some (zvi i)] [] M (fun v M1 => v = some (.inl (zhm f (M 11) l (pn P))) ∧ M1 = M) := by
    intro k
    induction k with
    | zero =>
      intro i hi
      repeat refine zr_s rfl rfl rfl ?_
      refine zr_ige rfl (by omega) (by omega) (fun h => ?_) (fun h => by omega)
      repeat refine zr_s rfl rfl rfl ?_
      exact zr_ret rfl (⟨by rw [show i = pn P by omega], rfl⟩)
    | succ k ih =>
      intro i hi
      obtain ⟨e1, e2, e3⟩ := hf i (by omega)
      have e : ((zhm f (M 11) l (i + 1) : Nat) : Int) = zhm f (M 11) l i + if f i = -3 ∧ l ≤ M 11 i then 1 else 0 := by
        show ((zhm f (M 11) l i + (if f i = -3 ∧ l ≤ M 11 i then 1 else 0) : Nat) : Int) = _
        split <;> omega
      have h7 := ih (i + 1) (by omega)
      rw [e] at h7
      repeat refine zr_s rfl rfl rfl ?_
      refine zr_ige rfl (by omega) (by omega) (fun h => by omega) (fun h => ?_)
      repeat refine zr_s rfl rfl rfl ?_
      refine zr_ald (i) rfl rfl rfl (by omega) (by decide) ?_
      rw [e1]
      repeat refine zr_s rfl rfl rfl ?_
      refine zr_ine rfl (by omega) (by decide) (fun h => ?_) (fun h => ?_)
      · rw [if_neg (fun z => h z.1), Int.add_zero] at h7
        repeat refine zr_s rfl rfl rfl ?_
        refine zr_b rfl rfl ?_
        exact h7
      · repeat refine zr_s rfl rfl rfl ?_
        refine zr_ald (i) rfl rfl rfl (by omega) (by decide) ?_
        repeat refine zr_s rfl rfl rfl ?_
        refine zr_ilt rfl (hW i (by omega)) hl (fun h2 => ?_) (fun h2 => ?_)
        · rw [if_neg (fun z => by omega), Int.add_zero] at h7
          repeat refine zr_s rfl rfl rfl ?_
          refine zr_b rfl rfl ?_
          exact h7
        · rw [if_pos ⟨h, h2⟩] at h7
          repeat refine zr_s rfl rfl rfl ?_
          refine zr_b rfl rfl ?_
          exact h7
  exact loop (pn P) 0 (by omega)
theorem sp_isFreeS {j : Nat} (hw : zWf P) (hD : zDl M P (pn P)) (hf : ∀ i, i < pn P → M 23 i = f i ∧ -3 ≤ f i ∧ f i ≤ 100000) (hj : j < pn P) : zf (zSh L) 3 kX6_isFree [zvr 22, zvi j] M (fun v M1 => v = some (.inl (zb (decide (zwt P f j j = 0)))) ∧ M1 = M) := by
  have h60 := hw.1
  refine zf_of rfl (Nat.le_of_ble_eq_true rfl) ?_
  repeat refine zr_t 2 rfl rfl rfl rfl ?_
  have loop : ∀ (k i : Nat), i + k = j → zwt P f j i = 0 → zr (zSh L) 2 tX6_isFree 2 [some (zvr 22), some (zvi j), some (zvi i)] [] M (fun v M1 => v = some (.inl (zb (decide (zwt P f j j = 0)))) ∧ M1 = M) := by
    intro k
    induction k with
    | zero =>
      intro i hi h0
      repeat refine zr_s rfl rfl rfl ?_
      refine zr_ige rfl (by omega) (by omega) (fun h => ?_) (fun h => by omega)
      repeat refine zr_s rfl rfl rfl ?_
      rw [show i = j by omega] at h0
      exact zr_retz rfl (by omega) (⟨by rw [zb_t (by simp [h0])], rfl⟩)
    | succ k ih =>
      intro i hi h0
      obtain ⟨e1, e2, e3⟩ := hf i (by omega)
      have hz := zdc_I hw (i := i) (j := j) (by omega) hj
      have hmono : ∀ m, i + 1 ≤ m → zwt P f j (i + 1) ≤ zwt P f j m := by
        intro m hm
        induction m with
        | zero => omega
        | succ m ihm =>
          by_cases h1 : i = m
          · rw [h1]; exact Nat.le_refl _
          · exact Nat.le_trans (ihm (by omega)) (Nat.le_add_right _ _)
      have e : zwt P f j (i + 1) = zwt P f j i + if zdc P i j ≠ -3 ∧ f i = -3 then 1 else 0 := rfl
      repeat refine zr_s rfl rfl rfl ?_
      refine zr_ige rfl (by omega) (by omega) (fun h => by omega) (fun h => ?_)
      repeat refine zr_s rfl rfl rfl ?_
      refine zr_ald (i) rfl rfl rfl (by omega) (by decide) ?_
      rw [e1]
      repeat refine zr_s rfl rfl rfl ?_
      refine zr_ine rfl (by omega) (by decide) (fun h2 => ?_) (fun h2 => ?_)
      · repeat refine zr_s rfl rfl rfl ?_
        refine zr_b rfl rfl ?_
        exact ih (i + 1) (by omega) (by rw [e, if_neg (fun z => h2 z.2), h0])
      · repeat refine zr_s rfl rfl rfl ?_
        refine zr_cr rfl rfl rfl (zf_mono (Nat.le_of_ble_eq_true rfl) (sp_between hw hD (i := i) (by omega) hj)) ?_
        rw [if_pos (by omega)]
        repeat refine zr_s rfl rfl rfl ?_
        refine zr_ieq rfl (by omega) (by decide) (fun h3 => ?_) (fun h3 => ?_)
        · repeat refine zr_s rfl rfl rfl ?_
          refine zr_b rfl rfl ?_
          exact ih (i + 1) (by omega) (by rw [e, if_neg (fun z => z.1 h3), h0])
        · repeat refine zr_s rfl rfl rfl ?_
          have h5 := hmono j (by omega)
          rw [e, if_pos ⟨h3, h2⟩] at h5
          exact zr_retz rfl (by omega) (⟨by rw [zb_f (by simp; omega)], rfl⟩)
  exact loop j 0 (by omega) rfl
theorem zhm_self {f W : Nat → Int} {i : Nat} (hi : f i = -3) : ∀ m, i < m → 1 ≤ zhm f W (W i) m
  | 0, h => by omega
  | m + 1, h => by
    show 1 ≤ zhm f W (W i) m + (if f m = -3 ∧ W i ≤ W m then 1 else 0)
    by_cases hm : i = m
    · subst hm
      rw [if_pos ⟨hi, Int.le_refl _⟩]
      omega
    · have := zhm_self (W := W) hi m (by omega)
      omega
theorem zhl_f {P : zP} {f W : Nat → Int} {c q b : Int} {m : Nat} (h : zhl P f W c q b m = false) (h2 : ¬ (f m = -3 ∧ b ≤ zhb P f W c q m)) : zhl P f W c q b (m + 1) = false := by
  unfold zhl at h ⊢
  rw [List.range_succ, List.any_append, h]
  simp only [List.any_cons, List.any_nil, Bool.or_false, Bool.false_or, Bool.and_eq_false_iff, decide_eq_false_iff_not]
  by_cases h3 : f m = -3
  · exact Or.inr (fun z => h2 ⟨h3, z⟩)
  · exact Or.inl h3
theorem zhl_t {P : zP} {f W : Nat → Int} {c q b : Int} {m i : Nat} (hi : i < m) (h1 : f i = -3) (h2 : b ≤ zhb P f W c q i) : zhl P f W c q b m = true := by
  unfold zhl
  rw [List.any_eq_true]
  exact ⟨i, List.mem_range.mpr hi, by simp [h1, h2]⟩
theorem sp_isHopeless {c q b : Int} (hB : zBk M P) (hw : zWf P) (hD : zDl M P (pn P)) (hf : ∀ i, i < pn P → M 23 i = f i ∧ -3 ≤ f i ∧ f i ≤ 100000) (hW : ∀ i, i < pn P → 0 ≤ M 11 i ∧ M 11 i ≤ 1000) (hc : 0 ≤ c ∧ c ≤ 100000) (hq : 0 ≤ q ∧ q ≤ 100) (hb : M 22 3 = b ∧ zI b) : zf (zSh L) 3 kX6_isHopeless [zvr 22, zvi c, zvi q] M (fun v M1 => v = some (.inl (zb (zhl P f (M 11) c q b (pn P)))) ∧ M1 = M) := by
  have h60 := hw.1
  have hn := hB.1
  have hu := hB.2.1
  have hu1 := hw.2.1
  have hu8 := hw.2.2.1
  refine zf_of rfl (Nat.le_of_ble_eq_true rfl) ?_
  repeat refine zr_t 2 rfl rfl rfl rfl ?_
  have loop : ∀ (k i : Nat) (o4 o5 : Option zV), i + k = pn P → zhl P f (M 11) c q b i = false → zr (zSh L) 2 tX6_isHopeless 2 [some (zvr 22), some (zvi c), some (zvi q), some (zvi i), o4, o5] [] M (fun v M1 => v = some (.inl (zb (zhl P f (M 11) c q b (pn P)))) ∧ M1 = M) := by
    intro k
    induction k with
    | zero =>
      intro i o4 o5 hi h0
      repeat refine zr_s rfl rfl rfl ?_
      refine zr_ige rfl (by omega) (by omega) (fun h => ?_) (fun h => by omega)
      repeat refine zr_s rfl rfl rfl ?_
      rw [show i = pn P by omega] at h0
      exact zr_retz rfl (by omega) (⟨by rw [zb_f h0], rfl⟩)
    | succ k ih =>
      intro i o4 o5 hi h0
      obtain ⟨e1, e2, e3⟩ := hf i (by omega)
      have hWi := hW i (by omega)
      have hpf := zpf_I hw (f := f) (c := 100000) (by omega) (j := i) (by omega) (fun a ha => (hf a ha).2.2)
      have hm := zhm_le f (M 11) (M 11 i) (pn P)
      repeat refine zr_s rfl rfl rfl ?_
      refine zr_ige rfl (by omega) (by omega) (fun h => by omega) (fun h => ?_)
      repeat refine zr_s rfl rfl rfl ?_
      refine zr_ald (i) rfl rfl rfl (by omega) (by decide) ?_
      rw [e1]
      repeat refine zr_s rfl rfl rfl ?_
      refine zr_ine rfl (by omega) (by decide) (fun h2 => ?_) (fun h2 => ?_)
      · repeat refine zr_s rfl rfl rfl ?_
        refine zr_b rfl rfl ?_
        exact ih (i + 1) _ _ (by omega) (zhl_f h0 (fun z => h2 z.1))
      · have hm1 := zhm_self (W := M 11) h2 (pn P) (by omega)
        repeat refine zr_s rfl rfl rfl ?_
        refine zr_ald (i) rfl rfl rfl (by omega) (by decide) ?_
        refine zr_cr rfl rfl rfl (zf_mono (Nat.le_of_ble_eq_true rfl) (sp_howMany hB hw hf (fun a ha => by have := hW a ha; exact ⟨by omega, by omega⟩) (by omega))) ?_
        repeat refine zr_s rfl rfl rfl ?_
        rw [hu]
        refine zr_div rfl (by omega) (by omega) ?_
        have hdv : 0 ≤ (q + (zhm f (M 11) (M 11 i) (pn P) : Int) - 1) / (pu P : Int) ∧ (q + (zhm f (M 11) (M 11 i) (pn P) : Int) - 1) / (pu P : Int) ≤ 200 := by
          refine ⟨Int.ediv_nonneg (by omega) (by omega), ?_⟩
          have := Int.ediv_le_self (a := q + (zhm f (M 11) (M 11 i) (pn P) : Int) - 1) (pu P : Int) (by omega)
          omega
        have elc : zlc (fun a => zdc P a i) (M 23) i = zpf P f i := zlc_congr i (fun a ha _ => (hf a (by omega)).1)
        generalize hgen : (q + (zhm f (M 11) (M 11 i) (pn P) : Int) - 1) / (pu P : Int) = dv at hdv
        repeat refine zr_s rfl rfl rfl ?_
        refine zr_cr rfl rfl rfl (zf_mono (Nat.le_of_ble_eq_true rfl) (sp_leastCycle hw hD (j := i) (by omega) (by omega) rfl (fun a ha => by have := hf a (by omega); omega) (fun a ha => by have := hf a (by omega); omega))) ?_
        rw [elc]
        refine zr_cr rfl rfl rfl (zf_mono (Nat.le_of_ble_eq_true rfl) (sp_max (by omega) (by omega))) ?_
        repeat refine zr_s rfl rfl rfl ?_
        refine zr_ald (i) rfl rfl rfl (by omega) (by decide) ?_
        repeat refine zr_s rfl rfl rfl ?_
        rw [hb.1]
        have ehb : zhb P f (M 11) c q i = max (c + dv) (zpf P f i) + M 11 i := by
          unfold zhb
          rw [hgen]
        refine zr_ilt rfl (by omega) hb.2 (fun h3 => ?_) (fun h3 => ?_)
        · repeat refine zr_s rfl rfl rfl ?_
          refine zr_b rfl rfl ?_
          exact ih (i + 1) _ _ (by omega) (zhl_f h0 (fun z => by omega))
        · repeat refine zr_s rfl rfl rfl ?_
          exact zr_retz rfl (by omega) (⟨by rw [zb_t (zhl_t (i := i) (by omega) h2 (by omega))], rfl⟩)
  exact loop (pn P) 0 _ _ (by omega) rfl
end ZX
end
section
/-! THE SEARCH: tryAll, leastLength -/
theorem zlen_nn (P : zP) (f : Nat → Int) : ∀ i, 0 ≤ zlen P f i
  | 0 => Int.le_refl _
  | i + 1 => by
    have := zlen_nn P f i
    show 0 ≤ max _ _
    omega
theorem zfold_I {g : Int → Nat → Int} (h : ∀ b i, 0 ≤ b → 0 ≤ g b i ∧ g b i ≤ b) : ∀ (l : List Nat) (b : Int), 0 ≤ b → 0 ≤ l.foldl g b ∧ l.foldl g b ≤ b
  | [], b, hb => ⟨hb, Int.le_refl _⟩
  | i :: l, b, hb => by
    have h1 := h b i hb
    have h2 := zfold_I h l (g b i) h1.1
    exact ⟨h2.1, Int.le_trans h2.2 h1.2⟩
theorem zta_I (P : zP) (W : Nat → Int) : ∀ (d : Nat) (f : Nat → Int) (p : Nat) (c q b : Int), 0 ≤ b → 0 ≤ zta P W d f p c q b ∧ zta P W d f p c q b ≤ b
  | 0, f, p, c, q, b, hb => by
    have := zlen_nn P f (pn P)
    show 0 ≤ min b (zlen P f (pn P)) ∧ min b (zlen P f (pn P)) ≤ b
    omega
  | d + 1, f, p, c, q, b, hb => by
    have := zlen_nn P f (pn P)
    unfold zta
    split
    · omega
    · split
      · omega
      · refine zfold_I (fun b i hb => ?_) _ b hb
        split
        · exact zta_I P W d _ _ _ _ _ hb
        · exact ⟨hb, Int.le_refl _⟩
/-- what the loop does to the best with instruction i -/
def ztg (P : zP) (W : Nat → Int) (d : Nat) (f : Nat → Int) (p : Nat) (c q : Int) (b : Int) (i : Nat) : Int := if f i = -3 ∧ zwt P f i i = 0 then zta P W d (zfu f i (max (if q < pu P then c else c + 1) (zpf P f i))) (p + 1) (max (if q < pu P then c else c + 1) (zpf P f i)) (if max (if q < pu P then c else c + 1) (zpf P f i) = c then q + 1 else 1) b else b
theorem zta_s (P : zP) (W : Nat → Int) (d : Nat) (f : Nat → Int) (p : Nat) (c q b : Int) : zta P W (d + 1) f p c q b = if pn P ≤ p then min b (zlen P f (pn P)) else if zhl P f W c q b (pn P) = true then b else (List.range (pn P)).foldl (ztg P W d f p c q) b := rfl
theorem ztg_I (P : zP) (W : Nat → Int) (d : Nat) (f : Nat → Int) (p : Nat) (c q : Int) (b : Int) (i : Nat) (hb : 0 ≤ b) : 0 ≤ ztg P W d f p c q b i ∧ ztg P W d f p c q b i ≤ b := by
  unfold ztg
  split
  · exact zta_I P W d _ _ _ _ _ hb
  · exact ⟨hb, Int.le_refl _⟩
theorem zrestore {M : zM} {i : Nat} {b a b2 : Int} (h : M 23 i = -3) : zup (zup (zup (zup M 22 3 b) 23 i a) 22 3 b2) 23 i (-3) = zup M 22 3 b2 := by
  funext x y
  unfold zup
  by_cases h1 : x = 23 ∧ y = i
  · rw [if_pos h1, if_neg (by omega), h1.1, h1.2, h]
  · rw [if_neg h1]
    by_cases h2 : x = 22 ∧ y = 3
    · rw [if_pos h2, if_pos h2]
    · rw [if_neg h2, if_neg h1, if_neg h2, if_neg h2]
section ZX
variable {L : Nat} {P : zP}
theorem sp_tryAll (hw : zWf P) : ∀ (d p : Nat) (M : zM) (f : Nat → Int) (c q b : Int), p + d = 7 → zBk M P → zDl M P (pn P) → (∀ i, i < pn P → M 23 i = f i ∧ -3 ≤ f i ∧ f i ≤ c) → (∀ i, i < pn P → 0 ≤ M 11 i ∧ M 11 i ≤ 1000) → 0 ≤ c → c ≤ 13 * p → 0 ≤ q → q ≤ pu P → M 22 3 = b → 0 ≤ b → b ≤ 1000000 → zf (zSh L) (4 + d) kX6_tryAll [zvr 22, zvi p, zvi c, zvi q] M (fun v M1 => v = none ∧ M1 = zup M 22 3 (zta P (M 11) d f p c q b))
  | d, p, M, f, c, q, b, hpd, hB, hD, hf, hW, hc0, hc1, hq0, hq1, hb, hb0, hb1 => by
    have h60 := hw.1
    have hn := hB.1
    have hu := hB.2.1
    have hu1 := hw.2.1
    have hu8 := hw.2.2.1
    have el : zlen P (M 23) (pn P) = zlen P f (pn P) := by
      have : ∀ m, m ≤ pn P → zlen P (M 23) m = zlen P f m := by
        intro m
        induction m with
        | zero => intro _; rfl
        | succ m ihm =>
          intro hm
          show max (zlen P (M 23) m) (M 23 m + _) = max (zlen P f m) (f m + _)
          rw [ihm (by omega), (hf m (by omega)).1]
      exact this _ (Nat.le_refl _)
    have hlI := zlen_I hw (f := M 23) (fun i hi => by have := hf i hi; omega) (pn P) (Nat.le_refl _)
    have leaf : zta P (M 11) d f p c q b = min b (zlen P f (pn P)) → zr (zSh L) (3 + d) tX6_tryAll 17 [some (zvr 22), some (zvi p), some (zvi c), some (zvi q), none, none, none] [] M (fun v M1 => v = none ∧ M1 = zup M 22 3 (zta P (M 11) d f p c q b)) := by
      intro hz
      repeat refine zr_s rfl rfl rfl ?_
      refine zr_cr rfl rfl rfl (zf_mono (by omega) (sp_lengthOf hB hw rfl (fun i hi => by have := hf i hi; omega))) ?_
      rw [hb]
      refine zr_cr rfl rfl rfl (zf_mono (by omega) (sp_min (by omega) (by omega))) ?_
      repeat refine zr_s rfl rfl rfl ?_
      exact zr_retv rfl (⟨rfl, by rw [hz, el]⟩)
    rw [show 4 + d = 3 + d + 1 by omega]
    refine zf_of rfl (Nat.le_of_ble_eq_true rfl) ?_
    repeat refine zr_s rfl rfl rfl ?_
    refine zr_ige rfl (by omega) (by omega) (fun h => ?_) (fun h => ?_)
    · refine leaf ?_
      rcases d with _ | d
      · rfl
      · rw [zta_s, if_pos (by omega)]
    · repeat refine zr_s rfl rfl rfl ?_
      refine zr_ilt rfl (by omega) (by decide) (fun h2 => ?_) (fun h2 => ?_)
      rotate_left
      · refine leaf ?_
        rw [show d = 0 by omega]
        rfl
      · obtain ⟨d, rfl⟩ : ∃ e, d = e + 1 := ⟨d - 1, by omega⟩
        rw [zta_s, if_neg (by omega)]
        repeat refine zr_s rfl rfl rfl ?_
        refine zr_cr rfl rfl rfl (zf_mono (by omega) (sp_isHopeless hB hw hD (fun i hi => ⟨(hf i hi).1, (hf i hi).2.1, by have := hf i hi; omega⟩) hW ⟨hc0, by omega⟩ ⟨hq0, by omega⟩ ⟨hb, by omega⟩)) ?_
        cases hh : zhl P f (M 11) c q b (pn P) with
        | true =>
          refine zr_zeq rfl (by decide) (fun h => by cases h) (fun _ => ?_)
          repeat refine zr_s rfl rfl rfl ?_
          refine zr_retv rfl ⟨rfl, ?_⟩
          rw [if_pos rfl]
          funext x y
          unfold zup
          split
          · rename_i h5
            rw [h5.1, h5.2, hb]
          · rfl
        | false =>
          refine zr_zeq rfl (by decide) (fun _ => ?_) (fun h => absurd rfl h)
          rw [if_neg (by simp)]
          have main : ∀ fr : Int, fr = (if q < pu P then c else c + 1) → zr (zSh L) (3 + (d + 1)) tX6_tryAll 70 [some (zvr 22), some (zvi p), some (zvi c), some (zvi q), some (zvi fr), none, none] [] M (fun v M1 => v = none ∧ M1 = zup M 22 3 ((List.range (pn P)).foldl (ztg P (M 11) d f p c q) b)) := by
            intro fr hfr
            have hfrI : c ≤ fr ∧ fr ≤ c + 1 := by
              rw [hfr]
              split <;> omega
            repeat refine zr_t 73 rfl rfl rfl rfl ?_
            have loop : ∀ (k i : Nat) (o6 : Option zV) (bi : Int), i + k = pn P → bi = (List.range i).foldl (ztg P (M 11) d f p c q) b → zr (zSh L) (3 + (d + 1)) tX6_tryAll 73 [some (zvr 22), some (zvi p), some (zvi c), some (zvi q), some (zvi fr), some (zvi i), o6] [] (zup M 22 3 bi) (fun v M1 => v = none ∧ M1 = zup M 22 3 ((List.range (pn P)).foldl (ztg P (M 11) d f p c q) b)) := by
              intro k
              induction k with
              | zero =>
                intro i o6 bi hi hbi
                have hn1 : zup M 22 3 bi 2 6 = pn P := by rw [zup_row (by decide)]; exact hn
                repeat refine zr_s rfl rfl rfl ?_
                refine zr_ige rfl (by omega) (by omega) (fun h => ?_) (fun h => by omega)
                repeat refine zr_s rfl rfl rfl ?_
                exact zr_retv rfl (⟨rfl, by rw [hbi, show i = pn P by omega]⟩)
              | succ k ih =>
                intro i o6 bi hi hbi
                have hn1 : zup M 22 3 bi 2 6 = pn P := by rw [zup_row (by decide)]; exact hn
                have hBN : zBk (zup M 22 3 bi) P := zBk_of hB (fun a h1 h2 => zup_row (by omega))
                have hDN : zDl (zup M 22 3 bi) P (pn P) := fun x hx a ha => by rw [zup_row (by decide)]; exact hD x hx a ha
                have hfN : ∀ a, a < pn P → zup M 22 3 bi 23 a = f a ∧ -3 ≤ f a ∧ f a ≤ 100000 := fun a ha => by
                  rw [zup_row (by decide)]
                  exact ⟨(hf a ha).1, (hf a ha).2.1, by have := hf a ha; omega⟩
                have hbI := zfold_I (fun b i hb => ztg_I P (M 11) d f p c q b i hb) (List.range i) b hb0
                rw [← hbi] at hbI
                obtain ⟨e1, e2, e3⟩ := hf i (by omega)
                have hpf := zpf_I hw (f := f) hc0 (j := i) (by omega) (fun a ha => (hf a ha).2.2)
                have hnx : (List.range (i + 1)).foldl (ztg P (M 11) d f p c q) b = ztg P (M 11) d f p c q bi i := by
                  rw [List.range_succ, List.foldl_append, ← hbi]
                  rfl
                have skip : ¬ (f i = -3 ∧ zwt P f i i = 0) → zr (zSh L) (3 + (d + 1)) tX6_tryAll 166 [some (zvr 22), some (zvi p), some (zvi c), some (zvi q), some (zvi fr), some (zvi i), o6] [] (zup M 22 3 bi) (fun v M1 => v = none ∧ M1 = zup M 22 3 ((List.range (pn P)).foldl (ztg P (M 11) d f p c q) b)) := by
                  intro hne
                  repeat refine zr_s rfl rfl rfl ?_
                  refine zr_b rfl rfl ?_
                  refine ih (i + 1) _ bi (by omega) ?_
                  rw [hnx]
                  unfold ztg
                  rw [if_neg hne]
                repeat refine zr_s rfl rfl rfl ?_
                refine zr_ige rfl (by omega) (by omega) (fun h => by omega) (fun h => ?_)
                repeat refine zr_s rfl rfl rfl ?_
                refine zr_ald (i) rfl rfl rfl (by omega) (by decide) ?_
                rw [(hfN i (by omega)).1]
                repeat refine zr_s rfl rfl rfl ?_
                refine zr_ine rfl (by omega) (by decide) (fun h3 => ?_) (fun h3 => ?_)
                · exact skip (fun z => h3 z.1)
                · repeat refine zr_s rfl rfl rfl ?_
                  refine zr_cr rfl rfl rfl (zf_mono (by omega) (sp_isFreeS hw hDN hfN (j := i) (by omega))) ?_
                  by_cases h4 : zwt P f i i = 0
                  rotate_left
                  · rw [zb_f (by simp [h4])]
                    refine zr_zeq rfl (by decide) (fun _ => ?_) (fun h => absurd rfl h)
                    exact skip (fun z => h4 z.2)
                  · rw [zb_t (by simp [h4])]
                    refine zr_zeq rfl (by decide) (fun h => by cases h) (fun _ => ?_)
                    have elc : zlc (fun a => zdc P a i) (zup M 22 3 bi 23) i = zpf P f i := zlc_congr i (fun a ha _ => (hfN a (by omega)).1)
                    repeat refine zr_s rfl rfl rfl ?_
                    refine zr_cr rfl rfl rfl (zf_mono (by omega) (sp_leastCycle hw hDN (j := i) (by omega) (by omega) rfl (fun a ha => by have := hfN a (by omega); omega) (fun a ha => by have := hfN a (by omega); omega))) ?_
                    rw [elc]
                    refine zr_cr rfl rfl rfl (zf_mono (by omega) (sp_max (by omega) (by omega))) ?_
                    repeat refine zr_s rfl rfl rfl ?_
                    refine zr_ast (i) rfl rfl rfl (by omega) (by decide) ?_
                    have ha1 : max fr (zpf P f i) = max (if q < pu P then c else c + 1) (zpf P f i) := by rw [hfr]
                    have hqq : max fr (zpf P f i) = c → q < pu P := by
                      intro hz
                      by_cases hlt : q < pu P
                      · exact hlt
                      · rw [if_neg hlt] at hfr
                        omega
                    generalize hA : max fr (zpf P f i) = A at ha1 hqq
                    have hAI : c ≤ A ∧ A ≤ c + 13 := by omega
                    have hgi : ztg P (M 11) d f p c q bi i = zta P (M 11) d (zfu f i A) (p + 1) A (if A = c then q + 1 else 1) bi := by
                      unfold ztg
                      rw [if_pos ⟨h3, h4⟩, ← ha1]
                    have go : ∀ q2 : Int, q2 = (if A = c then q + 1 else 1) → zr (zSh L) (3 + (d + 1)) tX6_tryAll 154 [some (zvr 22), some (zvi p), some (zvi c), some (zvi q), some (zvi fr), some (zvi i), some (zvi A)] [zvi q2, zvi A, zvi ((p + 1 : Nat) : Int), zvr 22] (zup (zup M 22 3 bi) 23 i A) (fun v M1 => v = none ∧ M1 = zup M 22 3 ((List.range (pn P)).foldl (ztg P (M 11) d f p c q) b)) := by
                      intro q2 hq2
                      have hq2I : 0 ≤ q2 ∧ q2 ≤ pu P := by
                        rw [hq2]
                        split
                        · rename_i h9
                          have := hqq h9
                          omega
                        · omega
                      have h11 : zup (zup M 22 3 bi) 23 i A 11 = M 11 := by rw [zup_row (by decide), zup_row (by decide)]
                      have hr := sp_tryAll hw d (p + 1) (zup (zup M 22 3 bi) 23 i A) (zfu f i A) A q2 bi (by omega) (zBk_of hBN (fun a h1 h2 => zup_row (by omega))) (fun x hx a ha => by rw [zup_row (by decide)]; exact hDN x hx a ha) (fun a ha => by
                          by_cases hai : a = i
                          · subst hai
                            rw [zup_at, zfu_at]
                            exact ⟨rfl, by omega, Int.le_refl _⟩
                          · rw [zup_off hai, zfu_off hai]
                            exact ⟨(hfN a ha).1, (hfN a ha).2.1, by have := hf a ha; omega⟩) (by rw [h11]; exact hW) (by omega) (by push_cast; omega) hq2I.1 hq2I.2 (by rw [zup_row (by decide)]; exact zup_at) hbI.1 (by omega)
                      rw [h11] at hr
                      refine zr_c rfl rfl rfl (zf_mono (by omega) hr) (fun v M1 hv => ?_)
                      obtain ⟨rfl, rfl⟩ := hv
                      repeat refine zr_s rfl rfl rfl ?_
                      refine zr_ast (i) rfl rfl rfl (by omega) (by decide) ?_
                      rw [zrestore (e1.trans h3)]
                      repeat refine zr_s rfl rfl rfl ?_
                      refine zr_b rfl rfl ?_
                      refine ih (i + 1) _ _ (by omega) ?_
                      rw [hnx, hgi, hq2]
                    repeat refine zr_s rfl rfl rfl ?_
                    refine zr_ine rfl (by omega) (by omega) (fun h5 => ?_) (fun h5 => ?_)
                    · repeat refine zr_t 154 rfl rfl rfl rfl ?_
                      exact go 1 (by rw [if_neg h5])
                    · repeat refine zr_t 154 rfl rfl rfl rfl ?_
                      exact go (q + 1) (by rw [if_pos h5])
            have h9 := loop (pn P) 0 none b (by omega) rfl
            have e9 : zup M 22 3 b = M := by
              funext x y
              unfold zup
              split
              · rename_i h5
                rw [h5.1, h5.2, hb]
              · rfl
            rw [e9] at h9
            exact h9
          repeat refine zr_s rfl rfl rfl ?_
          refine zr_ige rfl (by omega) (by omega) (fun h3 => ?_) (fun h3 => ?_)
          · repeat refine zr_t 70 rfl rfl rfl rfl ?_
            exact main (c + 1) (by rw [if_neg (by omega)])
          · repeat refine zr_t 70 rfl rfl rfl rfl ?_
            exact main c (by rw [if_pos (by omega)])
  termination_by d => d
theorem sp_leastLength {M : zM} {b : Int} (hB : zBk M P) (hw : zWf P) (h7 : pn P ≤ 7) (hD : zDl M P (pn P)) (hW : ∀ i, i < pn P → 0 ≤ M 11 i ∧ M 11 i ≤ 1000) (hb : 0 ≤ b ∧ b ≤ 1000000) : zf (zSh L) 12 kX6_leastLength [zvr 22, zvi b] M (fun v M1 => v = some (.inl (zta P (M 11) 7 (fun _ => -3) 0 0 0 b)) ∧ (∀ a, a ≠ 22 → a ≠ 23 → M1 a = M a) ∧ (∀ q, q ≠ 3 → M1 22 q = M 22 q)) := by
  have h60 := hw.1
  refine zf_of rfl (Nat.le_of_ble_eq_true rfl) ?_
  repeat refine zr_s rfl rfl rfl ?_
  refine zr_c rfl rfl rfl (zf_mono (Nat.le_of_ble_eq_true rfl) (sp_fill (j := 22) (n := 60) rfl (by decide))) (fun v M1 hv => ?_)
  obtain ⟨rfl, rfl⟩ := hv
  have hrow : ∀ a, a ≠ 23 → zfl (zup M 22 3 b) 23 60 (-3) a = zup M 22 3 b a := by
    intro a ha
    funext q
    unfold zfl
    rw [if_neg (fun z => ha z.1)]
  have h11 : zfl (zup M 22 3 b) 23 60 (-3) 11 = M 11 := by rw [hrow 11 (by decide), zup_row (by decide)]
  have hr := sp_tryAll (L := L) hw 7 0 (zfl (zup M 22 3 b) 23 60 (-3)) (fun _ => -3) 0 0 b rfl (zBk_of hB (fun a h1 h2 => by rw [hrow a (by omega), zup_row (by omega)])) (fun x hx a ha => by rw [hrow 10 (by decide), zup_row (by decide)]; exact hD x hx a ha) (fun i hi => by
    refine ⟨?_, by decide, by decide⟩
    unfold zfl
    rw [if_pos ⟨rfl, by omega⟩]) (by rw [h11]; exact hW) (Int.le_refl _) (Int.le_refl _) (Int.le_refl _) (by omega) (by rw [hrow 22 (by decide)]; exact zup_at) hb.1 hb.2
  rw [h11] at hr
  repeat refine zr_s rfl rfl rfl ?_
  refine zr_c rfl rfl rfl hr (fun v M1 hv => ?_)
  obtain ⟨rfl, rfl⟩ := hv
  repeat refine zr_s rfl rfl rfl ?_
  refine zr_ret rfl ⟨by rw [zup_at], fun a h1 h2 => by rw [zup_row h1, hrow a h2, zup_row h1], fun q hq => by rw [zup_off hq, hrow 22 (by decide), zup_off hq]⟩
end ZX
end
section
/-! A PLAN OF ONE'S OWN, as the class looks at it -/
def zct (w : Nat → Int) (c : Int) : Nat → Nat
  | 0 => 0
  | i + 1 => zct w c i + if w i = c then 1 else 0
def zbad (P : zP) (w : Nat → Int) (i j : Nat) : Prop := zdc P i j ≠ -3 ∧ w j < w i + zdc P i j
/-- the verdict v with its two numbers -/
def zVd (P : zP) (w : Nat → Int) (v a b : Int) : Prop :=
  (v = 1 ∧ b = -3 ∧ ∃ i : Nat, i < pn P ∧ w i = -3 ∧ (∀ q, q < i → w q ≠ -3) ∧ a = i) ∨
  (v = 2 ∧ (∀ i, i < pn P → w i ≠ -3) ∧ ∃ i j : Nat, i < j ∧ j < pn P ∧ zbad P w i j ∧ (∀ j2, j2 < j → ∀ i2, i2 < j2 → ¬ zbad P w i2 j2) ∧ (∀ i2, i2 < i → ¬ zbad P w i2 j) ∧ a = i ∧ b = j) ∨
  (v = 3 ∧ (∀ i, i < pn P → w i ≠ -3) ∧ (∀ j, j < pn P → ∀ i, i < j → ¬ zbad P w i j) ∧ b = -3 ∧ 0 ≤ a ∧ pu P < zct w a (pn P) ∧ ∀ c, 0 ≤ c → c < a → zct w c (pn P) ≤ pu P) ∨
  (v = 0 ∧ (∀ i, i < pn P → w i ≠ -3) ∧ (∀ j, j < pn P → ∀ i, i < j → ¬ zbad P w i j) ∧ (∀ c, 0 ≤ c → zct w c (pn P) ≤ pu P) ∧ a = -3 ∧ b = -3)
theorem zct_le (w : Nat → Int) (c : Int) : ∀ m, zct w c m ≤ m
  | 0 => Nat.le_refl _
  | m + 1 => by
    have := zct_le w c m
    show zct w c m + (if w m = c then 1 else 0) ≤ m + 1
    split <;> omega
theorem zct_ex {w : Nat → Int} {c : Int} : ∀ m, 0 < zct w c m → ∃ i, i < m ∧ w i = c
  | 0, h => absurd h (Nat.lt_irrefl 0)
  | m + 1, h => by
    have h : 0 < zct w c m + (if w m = c then 1 else 0) := h
    by_cases hm : w m = c
    · exact ⟨m, by omega, hm⟩
    · rw [if_neg hm] at h
      obtain ⟨i, h1, h2⟩ := zct_ex m (by omega)
      exact ⟨i, by omega, h2⟩
section ZX
variable {L : Nat} {M : zM} {P : zP}
theorem sp_howManyIn {c : Int} (hB : zBk M P) (hw : zWf P) (hr : ∀ i, i < pn P → zI (M 25 i)) (hc : zI c) : zf (zSh L) 1 kX5_howManyIn [zvr 24, zvi c] M (fun v M1 => v = some (.inl (zct (M 25) c (pn P))) ∧ M1 = M) := by
  have h60 := hw.1
  have hn := hB.1
  refine zf_of rfl (Nat.le_of_ble_eq_true rfl) ?_
  repeat refine zr_t 4 rfl rfl rfl rfl ?_
  have loop : ∀ (k i : Nat), i + k = pn P → zr (zSh L) 0 tX5_howManyIn 4 [some (zvr 24), some (zvi c), some (zvi (zct (M 25) c i)), some (zvi i)] [] M (fun v M1 => v = some (.inl (zct (M 25) c (pn P))) ∧ M1 = M) := by
    intro k
    induction k with
    | zero =>
      intro i hi
      repeat refine zr_s rfl rfl rfl ?_
      refine zr_ige rfl (by omega) (by omega) (fun h => ?_) (fun h => by omega)
      repeat refine zr_s rfl rfl rfl ?_
      exact zr_ret rfl (⟨by rw [show i = pn P by omega], rfl⟩)
    | succ k ih =>
      intro i hi
      have e : ((zct (M 25) c (i + 1) : Nat) : Int) = zct (M 25) c i + if M 25 i = c then 1 else 0 := by
        show ((zct (M 25) c i + (if M 25 i = c then 1 else 0) : Nat) : Int) = _
        split <;> omega
      have h7 := ih (i + 1) (by omega)
      rw [e] at h7
      repeat refine zr_s rfl rfl rfl ?_
      refine zr_ige rfl (by omega) (by omega) (fun h => by omega) (fun h => ?_)
      repeat refine zr_s rfl rfl rfl ?_
      refine zr_ald (i) rfl rfl rfl (by omega) (by decide) ?_
      repeat refine zr_s rfl rfl rfl ?_
      refine zr_ine rfl (hr i (by omega)) hc (fun h => ?_) (fun h => ?_)
      · rw [if_neg h, Int.add_zero] at h7
        repeat refine zr_s rfl rfl rfl ?_
        refine zr_b rfl rfl ?_
        exact h7
      · rw [if_pos h] at h7
        repeat refine zr_s rfl rfl rfl ?_
        refine zr_b rfl rfl ?_
        exact h7
  exact loop (pn P) 0 (by omega)
theorem sp_forgetFrom {m : Nat} (hm : m ≤ 60) : zf (zSh L) 1 kX5_forgetFrom [zvr 24, zvi m] M (fun v M1 => v = none ∧ (∀ a, a ≠ 25 → M1 a = M a) ∧ (∀ i, i < m → M1 25 i = M 25 i) ∧ ∀ i, m ≤ i → i < 60 → M1 25 i = -3) := by
  refine zf_of rfl (Nat.le_of_ble_eq_true rfl) ?_
  repeat refine zr_t 2 rfl rfl rfl rfl ?_
  have loop : ∀ (k i : Nat) (N : zM), i + k = 60 → m ≤ i → (∀ a, a ≠ 25 → N a = M a) → (∀ q, q < m → N 25 q = M 25 q) → (∀ q, m ≤ q → q < i → N 25 q = -3) → zr (zSh L) 0 tX5_forgetFrom 2 [some (zvr 24), some (zvi m), some (zvi i)] [] N (fun v M1 => v = none ∧ (∀ a, a ≠ 25 → M1 a = M a) ∧ (∀ i, i < m → M1 25 i = M 25 i) ∧ ∀ i, m ≤ i → i < 60 → M1 25 i = -3) := by
    intro k
    induction k with
    | zero =>
      intro i N hi hmi f1 f2 f3
      repeat refine zr_s rfl rfl rfl ?_
      refine zr_ige rfl (by omega) (by decide) (fun h => ?_) (fun h => by omega)
      repeat refine zr_s rfl rfl rfl ?_
      exact zr_retv rfl (⟨rfl, f1, f2, fun q h1 h2 => f3 q h1 (by omega)⟩)
    | succ k ih =>
      intro i N hi hmi f1 f2 f3
      repeat refine zr_s rfl rfl rfl ?_
      refine zr_ige rfl (by omega) (by decide) (fun h => by omega) (fun h => ?_)
      repeat refine zr_s rfl rfl rfl ?_
      refine zr_ast (i) rfl rfl rfl (by omega) (by decide) ?_
      repeat refine zr_s rfl rfl rfl ?_
      refine zr_b rfl rfl ?_
      refine ih (i + 1) _ (by omega) (by omega) (fun a ha => by rw [zup_row ha]; exact f1 a ha) (fun q hq => by rw [zup_off (by omega)]; exact f2 q hq) (fun q h1 h2 => ?_)
      by_cases hq : q = i
      · subst hq
        exact zup_at
      · rw [zup_off hq]
        exact f3 q h1 (by omega)
  exact loop (60 - m) m M (by omega) (Nat.le_refl _) (fun _ _ => rfl) (fun _ _ => rfl) (fun q h1 h2 => by omega)
theorem sp_findWithoutCycle (hB : zBk M P) (hw : zWf P) (hr : ∀ i, i < pn P → zI (M 25 i)) : zf (zSh L) 1 kX5_findWithoutCycle [zvr 24] M (fun v M1 => (v = some (.inl 1) ∧ ∃ i : Nat, i < pn P ∧ M 25 i = -3 ∧ (∀ q, q < i → M 25 q ≠ -3) ∧ M1 = zup M 24 1 i) ∨ (v = some (.inl 0) ∧ (∀ i, i < pn P → M 25 i ≠ -3) ∧ M1 = M)) := by
  have h60 := hw.1
  have hn := hB.1
  refine zf_of rfl (Nat.le_of_ble_eq_true rfl) ?_
  repeat refine zr_t 2 rfl rfl rfl rfl ?_
  have loop : ∀ (k i : Nat), i + k = pn P → (∀ q, q < i → M 25 q ≠ -3) → zr (zSh L) 0 tX5_findWithoutCycle 2 [some (zvr 24), some (zvi i)] [] M (fun v M1 => (v = some (.inl 1) ∧ ∃ i : Nat, i < pn P ∧ M 25 i = -3 ∧ (∀ q, q < i → M 25 q ≠ -3) ∧ M1 = zup M 24 1 i) ∨ (v = some (.inl 0) ∧ (∀ i, i < pn P → M 25 i ≠ -3) ∧ M1 = M)) := by
    intro k
    induction k with
    | zero =>
      intro i hi f1
      repeat refine zr_s rfl rfl rfl ?_
      refine zr_ige rfl (by omega) (by omega) (fun h => ?_) (fun h => by omega)
      repeat refine zr_s rfl rfl rfl ?_
      exact zr_retz rfl (by omega) (Or.inr ⟨rfl, fun q hq => f1 q (by omega), rfl⟩)
    | succ k ih =>
      intro i hi f1
      repeat refine zr_s rfl rfl rfl ?_
      refine zr_ige rfl (by omega) (by omega) (fun h => by omega) (fun h => ?_)
      repeat refine zr_s rfl rfl rfl ?_
      refine zr_ald (i) rfl rfl rfl (by omega) (by decide) ?_
      repeat refine zr_s rfl rfl rfl ?_
      refine zr_ine rfl (hr i (by omega)) (by decide) (fun h => ?_) (fun h => ?_)
      · repeat refine zr_s rfl rfl rfl ?_
        refine zr_b rfl rfl ?_
        refine ih (i + 1) (by omega) (fun q hq => ?_)
        by_cases hqi : q = i
        · rw [hqi]; exact h
        · exact f1 q (by omega)
      · repeat refine zr_s rfl rfl rfl ?_
        exact zr_retz rfl (by omega) (Or.inl ⟨rfl, i, by omega, h, f1, rfl⟩)
  exact loop (pn P) 0 (by omega) (fun q hq => by omega)
theorem sp_findDelayNotKept (hB : zBk M P) (hw : zWf P) (hD : zDl M P (pn P)) (hr : ∀ i, i < pn P → -3 ≤ M 25 i ∧ M 25 i ≤ 1000) : zf (zSh L) 3 kX5_findDelayNotKept [zvr 24] M (fun v M1 => (v = some (.inl 1) ∧ ∃ i j : Nat, i < j ∧ j < pn P ∧ zbad P (M 25) i j ∧ (∀ j2, j2 < j → ∀ i2, i2 < j2 → ¬ zbad P (M 25) i2 j2) ∧ (∀ i2, i2 < i → ¬ zbad P (M 25) i2 j) ∧ M1 = zup (zup M 24 1 i) 24 2 j) ∨ (v = some (.inl 0) ∧ (∀ j, j < pn P → ∀ i, i < j → ¬ zbad P (M 25) i j) ∧ M1 = M)) := by
  have h60 := hw.1
  have hn := hB.1
  refine zf_of rfl (Nat.le_of_ble_eq_true rfl) ?_
  repeat refine zr_t 2 rfl rfl rfl rfl ?_
  have loop : ∀ (k j : Nat) (o2 o3 : Option zV), j + k = pn P → (∀ j2, j2 < j → ∀ i2, i2 < j2 → ¬ zbad P (M 25) i2 j2) → zr (zSh L) 2 tX5_findDelayNotKept 2 [some (zvr 24), some (zvi j), o2, o3] [] M (fun v M1 => (v = some (.inl 1) ∧ ∃ i j : Nat, i < j ∧ j < pn P ∧ zbad P (M 25) i j ∧ (∀ j2, j2 < j → ∀ i2, i2 < j2 → ¬ zbad P (M 25) i2 j2) ∧ (∀ i2, i2 < i → ¬ zbad P (M 25) i2 j) ∧ M1 = zup (zup M 24 1 i) 24 2 j) ∨ (v = some (.inl 0) ∧ (∀ j, j < pn P → ∀ i, i < j → ¬ zbad P (M 25) i j) ∧ M1 = M)) := by
    intro k
    induction k with
    | zero =>
      intro j o2 o3 hj f1
      repeat refine zr_s rfl rfl rfl ?_
      refine zr_ige rfl (by omega) (by omega) (fun h => ?_) (fun h => by omega)
      repeat refine zr_s rfl rfl rfl ?_
      exact zr_retz rfl (by omega) (Or.inr ⟨rfl, fun q hq => f1 q (by omega), rfl⟩)
    | succ k ih =>
      intro j o2 o3 hj f1
      have hjn : j < pn P := by omega
      repeat refine zr_s rfl rfl rfl ?_
      refine zr_ige rfl (by omega) (by omega) (fun h => by omega) (fun h => ?_)
      repeat refine zr_t 15 rfl rfl rfl rfl ?_
      have inner : ∀ (r i : Nat) (o3 : Option zV), i + r = j → (∀ i2, i2 < i → ¬ zbad P (M 25) i2 j) → zr (zSh L) 2 tX5_findDelayNotKept 15 [some (zvr 24), some (zvi j), some (zvi i), o3] [] M (fun v M1 => (v = some (.inl 1) ∧ ∃ i j : Nat, i < j ∧ j < pn P ∧ zbad P (M 25) i j ∧ (∀ j2, j2 < j → ∀ i2, i2 < j2 → ¬ zbad P (M 25) i2 j2) ∧ (∀ i2, i2 < i → ¬ zbad P (M 25) i2 j) ∧ M1 = zup (zup M 24 1 i) 24 2 j) ∨ (v = some (.inl 0) ∧ (∀ j, j < pn P → ∀ i, i < j → ¬ zbad P (M 25) i j) ∧ M1 = M)) := by
        intro r
        induction r with
        | zero =>
          intro i o3 hi g1
          repeat refine zr_s rfl rfl rfl ?_
          refine zr_ige rfl (by omega) (by omega) (fun h => ?_) (fun h => by omega)
          repeat refine zr_s rfl rfl rfl ?_
          refine zr_b rfl rfl ?_
          refine ih (j + 1) _ _ (by omega) (fun j2 h1 i2 h2 => ?_)
          by_cases hjj : j2 = j
          · rw [hjj]
            exact g1 i2 (by omega)
          · exact f1 j2 (by omega) i2 h2
        | succ r ihr =>
          intro i o3 hi g1
          have hz := zdc_I hw (i := i) (j := j) (by omega) hjn
          have hri := hr i (by omega)
          have hrj := hr j hjn
          have next : ¬ zbad P (M 25) i j → ∀ i2, i2 < i + 1 → ¬ zbad P (M 25) i2 j := by
            intro hb i2 h2
            by_cases hii : i2 = i
            · rw [hii]; exact hb
            · exact g1 i2 (by omega)
          repeat refine zr_s rfl rfl rfl ?_
          refine zr_ige rfl (by omega) (by omega) (fun h => by omega) (fun h => ?_)
          repeat refine zr_s rfl rfl rfl ?_
          refine zr_cr rfl rfl rfl (zf_mono (Nat.le_of_ble_eq_true rfl) (sp_between hw hD (i := i) (by omega) hjn)) ?_
          rw [if_pos (by omega)]
          repeat refine zr_s rfl rfl rfl ?_
          refine zr_ieq rfl (by omega) (by decide) (fun h3 => ?_) (fun h3 => ?_)
          · repeat refine zr_s rfl rfl rfl ?_
            refine zr_b rfl rfl ?_
            exact ihr (i + 1) _ (by omega) (next (fun z => z.1 h3))
          · repeat refine zr_s rfl rfl rfl ?_
            refine zr_ald (j) rfl rfl rfl (by omega) (by decide) ?_
            repeat refine zr_s rfl rfl rfl ?_
            refine zr_ald (i) rfl rfl rfl (by omega) (by decide) ?_
            repeat refine zr_s rfl rfl rfl ?_
            refine zr_ige rfl (by omega) (by omega) (fun h4 => ?_) (fun h4 => ?_)
            · repeat refine zr_s rfl rfl rfl ?_
              refine zr_b rfl rfl ?_
              exact ihr (i + 1) _ (by omega) (next (fun z => by have := z.2; omega))
            · repeat refine zr_s rfl rfl rfl ?_
              exact zr_retz rfl (by omega) (Or.inl ⟨rfl, i, j, by omega, hjn, ⟨h3, h4⟩, f1, g1, rfl⟩)
      exact inner j 0 _ (by omega) (fun i2 h2 => by omega)
  exact loop (pn P) 0 _ _ (by omega) (fun q hq => by omega)
theorem sp_findTooMany (hB : zBk M P) (hw : zWf P) (hr : ∀ i, i < pn P → 0 ≤ M 25 i ∧ M 25 i ≤ 1000) (h1 : M 24 1 = -3) : zf (zSh L) 2 kX5_findTooMany [zvr 24] M (fun v M1 => (v = some (.inl 1) ∧ ∃ a : Int, 0 ≤ a ∧ pu P < zct (M 25) a (pn P) ∧ (∀ c, 0 ≤ c → c < a → zct (M 25) c (pn P) ≤ pu P) ∧ M1 = zup M 24 1 a) ∨ (v = some (.inl 0) ∧ (∀ c, 0 ≤ c → zct (M 25) c (pn P) ≤ pu P) ∧ M1 = M)) := by
  have h60 := hw.1
  have hn := hB.1
  have hu := hB.2.1
  have hu8 := hw.2.2.1
  have hself : ∀ x : Int, M 24 1 = x → zup M 24 1 x = M := by
    intro x hx
    funext a b
    unfold zup
    split
    · rename_i h5
      rw [h5.1, h5.2, hx]
    · rfl
  refine zf_of rfl (Nat.le_of_ble_eq_true rfl) ?_
  repeat refine zr_t 2 rfl rfl rfl rfl ?_
  have loop : ∀ (k i : Nat) (o2 : Option zV) (x : Int), i + k = pn P → ((x = -3 ∧ ∀ q, q < i → zct (M 25) (M 25 q) (pn P) ≤ pu P) ∨ (0 ≤ x ∧ x ≤ 1000 ∧ pu P < zct (M 25) x (pn P) ∧ ∀ q, q < i → pu P < zct (M 25) (M 25 q) (pn P) → x ≤ M 25 q)) → zr (zSh L) 1 tX5_findTooMany 2 [some (zvr 24), some (zvi i), o2] [] (zup M 24 1 x) (fun v M1 => (v = some (.inl 1) ∧ ∃ a : Int, 0 ≤ a ∧ pu P < zct (M 25) a (pn P) ∧ (∀ c, 0 ≤ c → c < a → zct (M 25) c (pn P) ≤ pu P) ∧ M1 = zup M 24 1 a) ∨ (v = some (.inl 0) ∧ (∀ c, 0 ≤ c → zct (M 25) c (pn P) ≤ pu P) ∧ M1 = M)) := by
    intro k
    induction k with
    | zero =>
      intro i o2 x hi hx
      have e2 : zup M 24 1 x 2 6 = pn P := by rw [zup_row (by decide)]; exact hn
      repeat refine zr_s rfl rfl rfl ?_
      refine zr_ige rfl (by omega) (by omega) (fun h => ?_) (fun h => by omega)
      repeat refine zr_s rfl rfl rfl ?_
      rw [zup_at]
      rcases hx with ⟨rfl, hx⟩ | ⟨g1, g2, g3, g4⟩
      · refine zr_ieq rfl (by decide) (by decide) (fun _ => ?_) (fun h => absurd rfl h)
        repeat refine zr_s rfl rfl rfl ?_
        refine zr_retz rfl (by omega) (Or.inr ⟨rfl, fun c hc => ?_, hself _ h1⟩)
        apply Nat.le_of_not_lt
        intro hlt
        obtain ⟨q, q1, q2⟩ := zct_ex (pn P) (Nat.lt_of_le_of_lt (Nat.zero_le _) hlt)
        have := hx q (by omega)
        rw [q2] at this
        omega
      · refine zr_ieq rfl (by omega) (by decide) (fun h => by omega) (fun _ => ?_)
        repeat refine zr_s rfl rfl rfl ?_
        refine zr_retz rfl (by omega) (Or.inl ⟨rfl, x, g1, g3, fun c hc hlt => ?_, rfl⟩)
        apply Nat.le_of_not_lt
        intro hl2
        obtain ⟨q, q1, q2⟩ := zct_ex (pn P) (Nat.lt_of_le_of_lt (Nat.zero_le _) hl2)
        have := g4 q (by omega) (by rw [q2]; exact hl2)
        omega
    | succ k ih =>
      intro i o2 x hi hx
      have e2 : zup M 24 1 x 2 6 = pn P := by rw [zup_row (by decide)]; exact hn
      have e27 : zup M 24 1 x 2 7 = pu P := by rw [zup_row (by decide)]; exact hu
      have e25 : zup M 24 1 x 25 = M 25 := zup_row (by decide)
      have hBN : zBk (zup M 24 1 x) P := zBk_of hB (fun a g1 g2 => zup_row (by omega))
      have hri := hr i (by omega)
      have hctl := zct_le (M 25) (M 25 i) (pn P)
      have skip : ∀ o2, (¬ (x = -3 ∨ M 25 i < x) ∨ zct (M 25) (M 25 i) (pn P) ≤ pu P) → zr (zSh L) 1 tX5_findTooMany 75 [some (zvr 24), some (zvi i), o2] [] (zup M 24 1 x) (fun v M1 => (v = some (.inl 1) ∧ ∃ a : Int, 0 ≤ a ∧ pu P < zct (M 25) a (pn P) ∧ (∀ c, 0 ≤ c → c < a → zct (M 25) c (pn P) ≤ pu P) ∧ M1 = zup M 24 1 a) ∨ (v = some (.inl 0) ∧ (∀ c, 0 ≤ c → zct (M 25) c (pn P) ≤ pu P) ∧ M1 = M)) := by
        intro o2 hs
        repeat refine zr_s rfl rfl rfl ?_
        refine zr_b rfl rfl ?_
        refine ih (i + 1) _ x (by omega) ?_
        rcases hx with ⟨g0, g1⟩ | ⟨g1, g2, g3, g4⟩
        · refine Or.inl ⟨g0, fun q hq => ?_⟩
          by_cases hqi : q = i
          · rw [hqi]
            rcases hs with h | h
            · exact absurd (Or.inl g0) h
            · exact h
          · exact g1 q (by omega)
        · refine Or.inr ⟨g1, g2, g3, fun q hq hc => ?_⟩
          by_cases hqi : q = i
          · rw [hqi] at hc ⊢
            rcases hs with h | h <;> omega
          · exact g4 q (by omega) hc
      have try1 : (x = -3 ∨ M 25 i < x) → zr (zSh L) 1 tX5_findTooMany 45 [some (zvr 24), some (zvi i), some (zvi 1)] [] (zup M 24 1 x) (fun v M1 => (v = some (.inl 1) ∧ ∃ a : Int, 0 ≤ a ∧ pu P < zct (M 25) a (pn P) ∧ (∀ c, 0 ≤ c → c < a → zct (M 25) c (pn P) ≤ pu P) ∧ M1 = zup M 24 1 a) ∨ (v = some (.inl 0) ∧ (∀ c, 0 ≤ c → zct (M 25) c (pn P) ≤ pu P) ∧ M1 = M)) := by
        intro hs
        repeat refine zr_s rfl rfl rfl ?_
        refine zr_ald (i) rfl rfl rfl (by omega) (by decide) ?_
        rw [e25]
        refine zr_cr rfl rfl rfl (zf_mono (Nat.le_of_ble_eq_true rfl) (sp_howManyIn hBN hw (fun q hq => by rw [e25]; have := hr q hq; exact ⟨by omega, by omega⟩) (by omega))) ?_
        rw [e25]
        repeat refine zr_s rfl rfl rfl ?_
        refine zr_ile rfl (by omega) (by omega) (fun h3 => ?_) (fun h3 => ?_)
        · exact skip _ (Or.inr (by omega))
        · repeat refine zr_s rfl rfl rfl ?_
          refine zr_ald (i) rfl rfl rfl (by omega) (by decide) ?_
          rw [e25]
          repeat refine zr_s rfl rfl rfl ?_
          refine zr_b rfl rfl ?_
          have e9 : zup (zup M 24 1 x) 24 1 (M 25 i) = zup M 24 1 (M 25 i) := by
            funext a b
            unfold zup
            split <;> rfl
          rw [e9]
          refine ih (i + 1) _ (M 25 i) (by omega) (Or.inr ⟨by omega, by omega, by omega, fun q hq hc => ?_⟩)
          by_cases hqi : q = i
          · rw [hqi]; exact Int.le_refl _
          · rcases hx with ⟨g0, g1⟩ | ⟨g1, g2, g3, g4⟩
            · have := g1 q (by omega)
              omega
            · have := g4 q (by omega) hc
              omega
      repeat refine zr_s rfl rfl rfl ?_
      refine zr_ige rfl (by omega) (by omega) (fun h => by omega) (fun h => ?_)
      repeat refine zr_s rfl rfl rfl ?_
      rw [zup_at]
      refine zr_ieq rfl (by omega) (by decide) (fun h3 => ?_) (fun h3 => ?_)
      · repeat refine zr_s rfl rfl rfl ?_
        refine zr_zeq rfl (by decide) (fun h => by cases h) (fun _ => ?_)
        exact try1 (Or.inl h3)
      · repeat refine zr_s rfl rfl rfl ?_
        refine zr_ald (i) rfl rfl rfl (by omega) (by decide) ?_
        rw [e25]
        repeat refine zr_s rfl rfl rfl ?_
        rw [zup_at]
        refine zr_ige rfl (by omega) (by omega) (fun h4 => ?_) (fun h4 => ?_)
        · repeat refine zr_s rfl rfl rfl ?_
          refine zr_zeq rfl (by decide) (fun _ => ?_) (fun h => absurd rfl h)
          exact skip _ (Or.inl (by omega))
        · repeat refine zr_s rfl rfl rfl ?_
          refine zr_zeq rfl (by decide) (fun h => by cases h) (fun _ => ?_)
          exact try1 (Or.inr h4)
  have h9 := loop (pn P) 0 none (-3) (by omega) (Or.inl ⟨rfl, fun q hq => by omega⟩)
  rw [hself _ h1] at h9
  exact h9
theorem sp_inspect (hB : zBk M P) (hw : zWf P) (hD : zDl M P (pn P)) (hr : ∀ i, i < pn P → M 25 i = -3 ∨ (0 ≤ M 25 i ∧ M 25 i ≤ 1000)) : zf (zSh L) 4 kX5_inspect [zvr 24] M (fun v M1 => ∃ r a b : Int, v = some (.inl r) ∧ zVd P (M 25) r a b ∧ (∀ q, q ≠ 24 → M1 q = M q) ∧ M1 24 1 = a ∧ M1 24 2 = b) := by
  have h60 := hw.1
  refine zf_of rfl (Nat.le_of_ble_eq_true rfl) ?_
  repeat refine zr_s rfl rfl rfl ?_
  have e25 : zup (zup M 24 1 (-3)) 24 2 (-3) 25 = M 25 := by rw [zup_row (by decide), zup_row (by decide)]
  have hrow : ∀ q, q ≠ 24 → zup (zup M 24 1 (-3)) 24 2 (-3) q = M q := fun q hq => by rw [zup_row hq, zup_row hq]
  have hB0 : zBk (zup (zup M 24 1 (-3)) 24 2 (-3)) P := zBk_of hB (fun a g1 g2 => hrow a (by omega))
  have hD0 : zDl (zup (zup M 24 1 (-3)) 24 2 (-3)) P (pn P) := fun x hx a ha => by rw [hrow 10 (by decide)]; exact hD x hx a ha
  have h241 : zup (zup M 24 1 (-3)) 24 2 (-3) 24 1 = -3 := by rw [zup_off (by decide), zup_at]
  have h242 : zup (zup M 24 1 (-3)) 24 2 (-3) 24 2 = -3 := zup_at
  generalize zup (zup M 24 1 (-3)) 24 2 (-3) = N at *
  refine zr_c rfl rfl rfl (zf_mono (Nat.le_of_ble_eq_true rfl) (sp_findWithoutCycle hB0 hw (fun i hi => by rw [e25]; rcases hr i hi with h | h <;> exact ⟨by omega, by omega⟩))) (fun v M1 hv => ?_)
  rw [e25] at hv
  rcases hv with ⟨rfl, i, g1, g2, g3, rfl⟩ | ⟨rfl, g1, rfl⟩
  · refine zr_zeq rfl (by decide) (fun h => by cases h) (fun _ => ?_)
    repeat refine zr_s rfl rfl rfl ?_
    refine zr_ret rfl ⟨1, i, -3, rfl, Or.inl ⟨rfl, rfl, i, g1, g2, g3, rfl⟩, fun q hq => by rw [zup_row hq]; exact hrow q hq, zup_at, by rw [zup_off (by decide)]; exact h242⟩
  · refine zr_zeq rfl (by decide) (fun _ => ?_) (fun h => absurd rfl h)
    have hr2 : ∀ i, i < pn P → 0 ≤ M 25 i ∧ M 25 i ≤ 1000 := fun i hi => by rcases hr i hi with h | h; exact absurd h (g1 i hi); exact h
    repeat refine zr_s rfl rfl rfl ?_
    refine zr_c rfl rfl rfl (zf_mono (Nat.le_of_ble_eq_true rfl) (sp_findDelayNotKept hB0 hw hD0 (fun i hi => by rw [e25]; have := hr2 i hi; omega))) (fun v M1 hv => ?_)
    rw [e25] at hv
    rcases hv with ⟨rfl, i, j, q1, q2, q3, q4, q5, rfl⟩ | ⟨rfl, q1, rfl⟩
    · refine zr_zeq rfl (by decide) (fun h => by cases h) (fun _ => ?_)
      repeat refine zr_s rfl rfl rfl ?_
      refine zr_ret rfl ⟨2, i, j, rfl, Or.inr (Or.inl ⟨rfl, g1, i, j, q1, q2, q3, q4, q5, rfl, rfl⟩), fun q hq => by rw [zup_row hq, zup_row hq]; exact hrow q hq, by rw [zup_off (by decide), zup_at], zup_at⟩
    · refine zr_zeq rfl (by decide) (fun _ => ?_) (fun h => absurd rfl h)
      repeat refine zr_s rfl rfl rfl ?_
      refine zr_c rfl rfl rfl (zf_mono (Nat.le_of_ble_eq_true rfl) (sp_findTooMany hB0 hw (fun i hi => by rw [e25]; exact hr2 i hi) h241)) (fun v M1 hv => ?_)
      rw [e25] at hv
      rcases hv with ⟨rfl, a, p1, p2, p3, rfl⟩ | ⟨rfl, p1, rfl⟩
      · refine zr_zeq rfl (by decide) (fun h => by cases h) (fun _ => ?_)
        repeat refine zr_s rfl rfl rfl ?_
        refine zr_ret rfl ⟨3, a, -3, rfl, Or.inr (Or.inr (Or.inl ⟨rfl, g1, q1, rfl, p1, p2, p3⟩)), fun q hq => by rw [zup_row hq]; exact hrow q hq, zup_at, by rw [zup_off (by decide)]; exact h242⟩
      · refine zr_zeq rfl (by decide) (fun _ => ?_) (fun h => absurd rfl h)
        repeat refine zr_s rfl rfl rfl ?_
        refine zr_ret rfl ⟨0, -3, -3, rfl, Or.inr (Or.inr (Or.inr ⟨rfl, g1, q1, p1, rfl, rfl⟩)), fun q hq => hrow q hq, h241, h242⟩
end ZX
end
section
/-! REGISTERS AND MEMORY, as the class runs -/
section ZX
variable {S : List zC} {d : Nat} {cd : List (Option zR)} {pc : Nat} {ls : List (Option zV)} {st : List zV} {M : zM} {Q : Option zV → zM → Prop}
theorem zr_ige_w {x y : Int} {off : Int} {ra rb rt : Nat} (hc : cd[pc]? = some (some (.if_icmp .ge off, ra, rb, rt))) (kt : ¬ zw x < zw y → zr S d cd (ztgt pc off) ls st M Q) (kf : zw x < zw y → zr S d cd (pc + 3) ls st M Q) : zr S d cd pc ls (.inl y :: .inl x :: st) M Q := by
  by_cases hh : zw x < zw y
  · refine zWp_step hc rfl (s2 := (pc + 3, ls, st, S, M)) ?_ (kf hh)
    show some (if zw x ≥ zw y then ztgt pc off else pc + 3, ls, st, S, M) = _
    rw [if_neg (by omega)]
  · refine zWp_step hc rfl (s2 := (ztgt pc off, ls, st, S, M)) ?_ (kt hh)
    show some (if zw x ≥ zw y then ztgt pc off else pc + 3, ls, st, S, M) = _
    rw [if_pos (by omega)]
theorem zr_tabIn {x : Int} {dflt lo hi : Int} {offs : Array Int} {ra rb rt : Nat} (off : Int) (hc : cd[pc]? = some (some (.tableswitch dflt lo hi offs, ra, rb, rt))) (hx : zI x) (h1 : lo ≤ x) (h2 : x ≤ hi) (ho : offs.toList[(x - lo).toNat]? = some off) (k : zr S d cd (ztgt pc off) ls st M Q) : zr S d cd pc ls (.inl x :: st) M Q := by
  refine zWp_step hc rfl (s2 := (ztgt pc off, ls, st, S, M)) ?_ k
  show (if zw x < lo ∨ hi < zw x then some (ztgt pc dflt, ls, st, S, M) else match offs.toList[(zw x - lo).toNat]? with
    | some off => some (ztgt pc off, ls, st, S, M)
    | none => none) = _
  rw [zwid hx.1 hx.2, if_neg (by omega), ho]
theorem zr_tabOut {x : Int} {dflt lo hi : Int} {offs : Array Int} {ra rb rt : Nat} (hc : cd[pc]? = some (some (.tableswitch dflt lo hi offs, ra, rb, rt))) (hx : zI x) (h : x < lo ∨ hi < x) (k : zr S d cd (ztgt pc dflt) ls st M Q) : zr S d cd pc ls (.inl x :: st) M Q := by
  refine zWp_step hc rfl (s2 := (ztgt pc dflt, ls, st, S, M)) ?_ k
  show (if zw x < lo ∨ hi < zw x then some (ztgt pc dflt, ls, st, S, M) else match offs.toList[(zw x - lo).toNat]? with
    | some off => some (ztgt pc off, ls, st, S, M)
    | none => none) = _
  rw [zwid hx.1 hx.2, if_pos h]
theorem zr_copy {i j n0 n1 : Nat} {n : Nat} {idx ra rb : Nat} (hc : cd[pc]? = some (some (.invokestatic idx, ra, rb, 3))) (h0 : S[i + 1]? = some (.inl n0)) (h1 : S[j + 1]? = some (.inl n1)) (hn0 : n ≤ n0) (hn1 : n ≤ n1) (hn : n ≤ 65536) (hst : st.length ≤ 8) (k : zr S d cd (pc + 3) ls st (zcopy M (i + 1) (j + 1) 0 0 n) Q) : zr S d cd pc ls (.inl (n : Int) :: .inl 0 :: .inr (some (j + 1)) :: .inl 0 :: .inr (some (i + 1)) :: st) M Q := by
  have hz : zw 0 = 0 := by decide
  have hw : zw (n : Int) = n := zwid (by omega) (by omega)
  refine zWp_step hc rfl (s2 := (pc + 3, ls, st, S, zcopy M (i + 1) (j + 1) 0 0 n)) ?_ k
  simp only [zstep, h0, h1]
  rw [hz, hw, if_pos ⟨hst, by omega, by omega, by omega, by omega, by omega⟩]
  rfl
end ZX
abbrev zRS : Type := (Nat → Int) × (Nat → Int) × (Nat → Int) × (Nat → Int)
def zadr (P : zP) (R : Nat → Int) (i : Nat) : Int := zw (R (pA P i) + pC P i) % 64
def zres (P : zP) (R G : Nat → Int) (i : Nat) : Int := match pK P i with
  | 0 => pC P i
  | 1 => R (pA P i) + R (pB P i)
  | 2 => R (pA P i) - R (pB P i)
  | 3 => R (pA P i) * R (pB P i)
  | 4 => if zw (R (pA P i)) < zw (R (pB P i)) then 1 else 0
  | 5 => G (zadr P R i).toNat
  | _ => R (pB P i)
def zbeg (P : zP) (s : zRS) (i : Nat) : zRS := (s.1, s.2.1, zfu s.2.2.1 i (zres P s.1 s.2.1 i), zfu s.2.2.2 i (zadr P s.1 i))
def zcom (P : zP) (s : zRS) (i : Nat) : zRS := if pK P i = 6 then (s.1, zfu s.2.1 (s.2.2.2 i).toNat (s.2.2.1 i), s.2.2) else (zfu s.1 (pT P i) (s.2.2.1 i), s.2.1, s.2.2)
def zRu (M : zM) (P : zP) (s : zRS) (B : Nat → Prop) : Prop := (∀ k, k < 16 → M 29 k = s.1 k) ∧ (∀ k, k < 64 → M 30 k = s.2.1 k) ∧ ∀ i, i < pn P → B i → M 31 i = s.2.2.1 i ∧ M 32 i = s.2.2.2 i ∧ 0 ≤ s.2.2.2 i ∧ s.2.2.2 i < 64
theorem zadr_I (P : zP) (R : Nat → Int) (i : Nat) : 0 ≤ zadr P R i ∧ zadr P R i < 64 := ⟨Int.emod_nonneg _ (by decide), Int.emod_lt_of_pos _ (by decide)⟩
section ZY
variable {L : Nat} {M : zM} {P : zP} {s : zRS} {B : Nat → Prop}
theorem sp_isPlace {w k : Int} (hwI : zI w) (hk : zI k) : zf (zSh L) 2 kX3_isPlace [zvi w, zvi k] M (fun v M1 => v = some (.inl (zb (decide ((w = 0 ∧ 0 ≤ k ∧ k < 16) ∨ (w = 1 ∧ 0 ≤ k ∧ k < 64))))) ∧ M1 = M) := by
  refine zf_of rfl (Nat.le_of_ble_eq_true rfl) ?_
  repeat refine zr_s rfl rfl rfl ?_
  refine zr_zne rfl hwI (fun h => ?_) (fun h => ?_)
  · repeat refine zr_s rfl rfl rfl ?_
    refine zr_ine rfl hwI (by decide) (fun h2 => ?_) (fun h2 => ?_)
    · repeat refine zr_s rfl rfl rfl ?_
      exact zr_retz rfl (by omega) (⟨by rw [zb_f (by simp; omega)], rfl⟩)
    · repeat refine zr_s rfl rfl rfl ?_
      refine zr_zlt rfl hk (fun h3 => ?_) (fun h3 => ?_)
      · repeat refine zr_s rfl rfl rfl ?_
        exact zr_retz rfl (by omega) (⟨by rw [zb_f (by simp; omega)], rfl⟩)
      · repeat refine zr_s rfl rfl rfl ?_
        refine zr_ige rfl hk (by decide) (fun h4 => ?_) (fun h4 => ?_)
        · repeat refine zr_s rfl rfl rfl ?_
          exact zr_retz rfl (by omega) (⟨by rw [zb_f (by simp; omega)], rfl⟩)
        · repeat refine zr_s rfl rfl rfl ?_
          exact zr_retz rfl (by omega) (⟨by rw [zb_t (by simp; omega)], rfl⟩)
  · repeat refine zr_s rfl rfl rfl ?_
    refine zr_cr rfl rfl rfl (zf_mono (Nat.le_of_ble_eq_true rfl) (sp_isRegister hk)) ?_
    refine zr_retz rfl (zb_01 _) ⟨?_, rfl⟩
    by_cases hh : 0 ≤ k ∧ k < 16
    · rw [zb_t (by simp; omega), zb_t (by simp; omega)]
    · rw [zb_f (by simp; omega), zb_f (by simp; omega)]
theorem sp_tell {w k x : Int} (hwI : zI w) (hk : zI k) : zf (zSh L) 3 kX3_tell [zvr 26, zvi w, zvi k, zvi x] M (fun v M1 => (w = 0 ∧ 0 ≤ k ∧ k < 16 → v = some (.inl (M 27 k.toNat)) ∧ M1 = zup M 27 k.toNat x) ∧ (w = 1 ∧ 0 ≤ k ∧ k < 64 → v = some (.inl (M 28 k.toNat)) ∧ M1 = zup M 28 k.toNat x) ∧ (¬ ((w = 0 ∧ 0 ≤ k ∧ k < 16) ∨ (w = 1 ∧ 0 ≤ k ∧ k < 64)) → v = some (.inl 0) ∧ M1 = M)) := by
  refine zf_of rfl (Nat.le_of_ble_eq_true rfl) ?_
  repeat refine zr_s rfl rfl rfl ?_
  refine zr_cr rfl rfl rfl (zf_mono (Nat.le_of_ble_eq_true rfl) (sp_isPlace hwI hk)) ?_
  by_cases hh : (w = 0 ∧ 0 ≤ k ∧ k < 16) ∨ (w = 1 ∧ 0 ≤ k ∧ k < 64)
  · rw [zb_t (by simp; omega)]
    refine zr_zne rfl (by decide) (fun _ => ?_) (fun h => by cases h)
    repeat refine zr_s rfl rfl rfl ?_
    refine zr_zne rfl hwI (fun h => ?_) (fun h => ?_)
    · repeat refine zr_s rfl rfl rfl ?_
      refine zr_ald k.toNat rfl rfl (by omega) (by omega) (by decide) ?_
      repeat refine zr_s rfl rfl rfl ?_
      refine zr_ast k.toNat rfl rfl (by omega) (by omega) (by decide) ?_
      repeat refine zr_s rfl rfl rfl ?_
      exact zr_ret rfl (⟨fun z => by omega, fun _ => ⟨rfl, rfl⟩, fun z => by omega⟩)
    · repeat refine zr_s rfl rfl rfl ?_
      refine zr_ald k.toNat rfl rfl (by omega) (by omega) (by decide) ?_
      repeat refine zr_s rfl rfl rfl ?_
      refine zr_ast k.toNat rfl rfl (by omega) (by omega) (by decide) ?_
      repeat refine zr_s rfl rfl rfl ?_
      exact zr_ret rfl (⟨fun _ => ⟨rfl, rfl⟩, fun z => by omega, fun z => by omega⟩)
  · rw [zb_f (by simp; omega)]
    refine zr_zne rfl (by decide) (fun h => absurd rfl h) (fun _ => ?_)
    repeat refine zr_s rfl rfl rfl ?_
    exact zr_ret rfl (⟨fun z => by omega, fun z => by omega, fun _ => ⟨rfl, rfl⟩⟩)
theorem sp_look {w k : Int} (hwI : zI w) (hk : zI k) : zf (zSh L) 3 kX3_look [zvr 26, zvi w, zvi k] M (fun v M1 => M1 = M ∧ (w = 0 ∧ 0 ≤ k ∧ k < 16 → v = some (.inl (M 29 k.toNat))) ∧ (w = 1 ∧ 0 ≤ k ∧ k < 64 → v = some (.inl (M 30 k.toNat))) ∧ (¬ ((w = 0 ∧ 0 ≤ k ∧ k < 16) ∨ (w = 1 ∧ 0 ≤ k ∧ k < 64)) → v = some (.inl 0))) := by
  refine zf_of rfl (Nat.le_of_ble_eq_true rfl) ?_
  repeat refine zr_s rfl rfl rfl ?_
  refine zr_cr rfl rfl rfl (zf_mono (Nat.le_of_ble_eq_true rfl) (sp_isPlace hwI hk)) ?_
  by_cases hh : (w = 0 ∧ 0 ≤ k ∧ k < 16) ∨ (w = 1 ∧ 0 ≤ k ∧ k < 64)
  · rw [zb_t (by simp; omega)]
    refine zr_zne rfl (by decide) (fun _ => ?_) (fun h => by cases h)
    repeat refine zr_s rfl rfl rfl ?_
    refine zr_zne rfl hwI (fun h => ?_) (fun h => ?_)
    · repeat refine zr_s rfl rfl rfl ?_
      refine zr_ald k.toNat rfl rfl (by omega) (by omega) (by decide) ?_
      repeat refine zr_s rfl rfl rfl ?_
      exact zr_ret rfl (⟨rfl, fun z => by omega, fun _ => rfl, fun z => by omega⟩)
    · repeat refine zr_s rfl rfl rfl ?_
      refine zr_ald k.toNat rfl rfl (by omega) (by omega) (by decide) ?_
      repeat refine zr_s rfl rfl rfl ?_
      exact zr_ret rfl (⟨rfl, fun _ => rfl, fun z => by omega, fun z => by omega⟩)
  · rw [zb_f (by simp; omega)]
    refine zr_zne rfl (by decide) (fun h => absurd rfl h) (fun _ => ?_)
    repeat refine zr_s rfl rfl rfl ?_
    exact zr_ret rfl (⟨rfl, fun z => by omega, fun z => by omega, fun _ => rfl⟩)
theorem sp_startAnew : zf (zSh L) 1 kX3_startAnew [zvr 26] M (fun v M1 => v = none ∧ (∀ a, a ≠ 29 → a ≠ 30 → M1 a = M a) ∧ (∀ k, k < 16 → M1 29 k = M 27 k) ∧ ∀ k, k < 64 → M1 30 k = M 28 k) := by
  refine zf_of rfl (Nat.le_of_ble_eq_true rfl) ?_
  repeat refine zr_s rfl rfl rfl ?_
  have hz : (zw 0).toNat = 0 := by decide
  have h16 : (zw 16).toNat = 16 := by decide
  have h64 : (zw 64).toNat = 64 := by decide
  rw [hz, h16, h64]
  refine zr_retv rfl ⟨rfl, fun a h1 h2 => ?_, fun k hk => ?_, fun k hk => ?_⟩
  · funext q
    unfold zcopy
    rw [if_neg (fun z => h2 z.1), if_neg (fun z => h1 z.1)]
  · unfold zcopy
    rw [if_neg (fun z => by omega), if_pos ⟨rfl, by omega, by omega⟩, Nat.zero_add, Nat.sub_zero]
  · unfold zcopy
    rw [if_pos ⟨rfl, by omega, by omega⟩, if_neg (fun z => by omega), Nat.zero_add, Nat.sub_zero]
theorem sp_begin {i : Nat} (hB : zBk M P) (hw : zWf P) (hi : i < pn P) (hR : zRu M P s B) : zf (zSh L) 2 kX3_begin [zvr 26, zvi i] M (fun v M1 => v = none ∧ (∀ a, a ≠ 31 → a ≠ 32 → M1 a = M a) ∧ zRu M1 P (zbeg P s i) (fun j => B j ∨ j = i)) := by
  have h60 := hw.1
  obtain ⟨hk, ht, ha, hb, hc⟩ := hB.2.2.2 i hi
  obtain ⟨hk7, ht16, ha16, hb16, hcI⟩ := hw.2.2.2.2 i hi
  have hadr := zadr_I P s.1 i
  have fin : ∀ (x : Int), x = zres P s.1 s.2.1 i → (∀ a, a ≠ 31 → a ≠ 32 → zup (zup M 32 i (zadr P s.1 i)) 31 i x a = M a) ∧ zRu (zup (zup M 32 i (zadr P s.1 i)) 31 i x) P (zbeg P s i) (fun j => B j ∨ j = i) := by
    intro x hx
    have hrow : ∀ a, a ≠ 31 → a ≠ 32 → zup (zup M 32 i (zadr P s.1 i)) 31 i x a = M a := fun a h1 h2 => by rw [zup_row h1, zup_row h2]
    refine ⟨hrow, fun k hk => by rw [hrow 29 (by decide) (by decide)]; exact hR.1 k hk, fun k hk => by rw [hrow 30 (by decide) (by decide)]; exact hR.2.1 k hk, fun j hj hBj => ?_⟩
    rw [zup_row (a := 32) (by decide)]
    by_cases hji : j = i
    · subst hji
      rw [zup_at, zup_at]
      show x = zfu _ j _ j ∧ _ = zfu _ j _ j ∧ 0 ≤ zfu _ j _ j ∧ zfu _ j _ j < 64
      rw [zfu_at, zfu_at]
      exact ⟨hx, rfl, hadr.1, hadr.2⟩
    · rw [zup_off hji, zup_off hji, zup_row (by decide)]
      show _ = zfu _ i _ j ∧ _ = zfu _ i _ j ∧ 0 ≤ zfu _ i _ j ∧ zfu _ i _ j < 64
      rw [zfu_off hji, zfu_off hji]
      rcases hBj with h | h
      · exact hR.2.2 j hj h
      · exact absurd h hji
  refine zf_of rfl (Nat.le_of_ble_eq_true rfl) ?_
  repeat refine zr_s rfl rfl rfl ?_
  refine zr_ald (i) rfl rfl rfl (by omega) (by decide) ?_
  rw [ha]
  refine zr_ald (pA P i) rfl rfl rfl (by omega) (by decide) ?_
  rw [hR.1 _ ha16]
  repeat refine zr_s rfl rfl rfl ?_
  refine zr_ald (i) rfl rfl rfl (by omega) (by decide) ?_
  rw [hb]
  refine zr_ald (pB P i) rfl rfl rfl (by omega) (by decide) ?_
  rw [hR.1 _ hb16]
  repeat refine zr_s rfl rfl rfl ?_
  refine zr_ald (i) rfl rfl rfl (by omega) (by decide) ?_
  rw [hc]
  repeat refine zr_s rfl rfl rfl ?_
  refine zr_cr rfl rfl rfl (zf_mono (Nat.le_of_ble_eq_true rfl) (sp_floorMod)) ?_
  refine zr_ast (i) rfl rfl rfl (by omega) (by decide) ?_
  have e3 : zup M 32 i (zadr P s.1 i) 3 = M 3 := zup_row (by decide)
  repeat refine zr_s rfl rfl rfl ?_
  refine zr_ald i rfl rfl rfl (by omega) (by decide) ?_
  show zr _ _ _ _ _ (.inl (zup M 32 i (zadr P s.1 i) 3 i) :: _) (zup M 32 i (zadr P s.1 i)) _
  rw [e3, hk]
  rcases (show pK P i = 0 ∨ pK P i = 1 ∨ pK P i = 2 ∨ pK P i = 3 ∨ pK P i = 4 ∨ pK P i = 5 ∨ pK P i = 6 by omega) with h | h | h | h | h | h | h
  · rw [h]
    refine zr_tabIn 39 rfl (by decide) (by decide) (by decide) rfl ?_
    repeat refine zr_s rfl rfl rfl ?_
    refine zr_ast (i) rfl rfl rfl (by omega) (by decide) ?_
    repeat refine zr_s rfl rfl rfl ?_
    exact zr_retv rfl (⟨rfl, fin _ (by simp [zres, h])⟩)
  · rw [h]
    refine zr_tabIn 50 rfl (by decide) (by decide) (by decide) rfl ?_
    repeat refine zr_s rfl rfl rfl ?_
    refine zr_ast (i) rfl rfl rfl (by omega) (by decide) ?_
    repeat refine zr_s rfl rfl rfl ?_
    exact zr_retv rfl (⟨rfl, fin _ (by simp [zres, h])⟩)
  · rw [h]
    refine zr_tabIn 62 rfl (by decide) (by decide) (by decide) rfl ?_
    repeat refine zr_s rfl rfl rfl ?_
    refine zr_ast (i) rfl rfl rfl (by omega) (by decide) ?_
    repeat refine zr_s rfl rfl rfl ?_
    exact zr_retv rfl (⟨rfl, fin _ (by simp [zres, h])⟩)
  · rw [h]
    refine zr_tabIn 74 rfl (by decide) (by decide) (by decide) rfl ?_
    repeat refine zr_s rfl rfl rfl ?_
    refine zr_ast (i) rfl rfl rfl (by omega) (by decide) ?_
    repeat refine zr_s rfl rfl rfl ?_
    exact zr_retv rfl (⟨rfl, fin _ (by simp [zres, h])⟩)
  · rw [h]
    refine zr_tabIn 86 rfl (by decide) (by decide) (by decide) rfl ?_
    repeat refine zr_s rfl rfl rfl ?_
    refine zr_ige_w rfl (fun h2 => ?_) (fun h2 => ?_)
    · repeat refine zr_s rfl rfl rfl ?_
      refine zr_ast (i) rfl rfl rfl (by omega) (by decide) ?_
      repeat refine zr_s rfl rfl rfl ?_
      exact zr_retv rfl (⟨rfl, fin _ (by simp [zres, h, h2])⟩)
    · repeat refine zr_s rfl rfl rfl ?_
      refine zr_ast (i) rfl rfl rfl (by omega) (by decide) ?_
      repeat refine zr_s rfl rfl rfl ?_
      exact zr_retv rfl (⟨rfl, fin _ (by simp [zres, h, h2])⟩)
  · rw [h]
    refine zr_tabIn 105 rfl (by decide) (by decide) (by decide) rfl ?_
    repeat refine zr_s rfl rfl rfl ?_
    refine zr_ald i rfl rfl rfl (by omega) (by decide) ?_
    rw [zup_at]
    have e30 : zup M 32 i (zadr P s.1 i) 30 = M 30 := zup_row (by decide)
    refine zr_ald (zadr P s.1 i).toNat rfl rfl (by show zadr P s.1 i = _; omega) (by omega) (by decide) ?_
    show zr _ _ _ _ _ (.inl (zup M 32 i (zadr P s.1 i) 30 (zadr P s.1 i).toNat) :: _) (zup M 32 i (zadr P s.1 i)) _
    rw [e30, hR.2.1 _ (by omega)]
    refine zr_ast (i) rfl rfl rfl (by omega) (by decide) ?_
    repeat refine zr_s rfl rfl rfl ?_
    exact zr_retv rfl (⟨rfl, fin _ (by simp [zres, h])⟩)
  · rw [h]
    refine zr_tabOut rfl (by decide) (by decide) ?_
    repeat refine zr_s rfl rfl rfl ?_
    refine zr_ast (i) rfl rfl rfl (by omega) (by decide) ?_
    repeat refine zr_s rfl rfl rfl ?_
    exact zr_retv rfl (⟨rfl, fin _ (by simp [zres, h])⟩)
theorem sp_come {i : Nat} (hB : zBk M P) (hw : zWf P) (hi : i < pn P) (hR : zRu M P s B) (hBi : B i) : zf (zSh L) 1 kX3_come [zvr 26, zvi i] M (fun v M1 => v = none ∧ (∀ a, a ≠ 29 → a ≠ 30 → M1 a = M a) ∧ zRu M1 P (zcom P s i) B) := by
  have h60 := hw.1
  obtain ⟨hk, ht, ha, hb, hc⟩ := hB.2.2.2 i hi
  obtain ⟨hk7, ht16, ha16, hb16, hcI⟩ := hw.2.2.2.2 i hi
  obtain ⟨q1, q2, q3, q4⟩ := hR.2.2 i hi hBi
  refine zf_of rfl (Nat.le_of_ble_eq_true rfl) ?_
  repeat refine zr_s rfl rfl rfl ?_
  refine zr_ald (i) rfl rfl rfl (by omega) (by decide) ?_
  rw [hk]
  repeat refine zr_s rfl rfl rfl ?_
  refine zr_ine rfl (by omega) (by decide) (fun h => ?_) (fun h => ?_)
  · have h6 : pK P i ≠ 6 := by omega
    repeat refine zr_s rfl rfl rfl ?_
    refine zr_ald (i) rfl rfl rfl (by omega) (by decide) ?_
    rw [ht]
    repeat refine zr_s rfl rfl rfl ?_
    refine zr_ald (i) rfl rfl rfl (by omega) (by decide) ?_
    rw [q1]
    refine zr_ast (pT P i) rfl rfl rfl (by omega) (by decide) ?_
    repeat refine zr_s rfl rfl rfl ?_
    refine zr_retv rfl ⟨rfl, fun a h1 h2 => zup_row h1, ?_⟩
    have e : zcom P s i = (zfu s.1 (pT P i) (s.2.2.1 i), s.2.1, s.2.2) := if_neg h6
    rw [e]
    refine ⟨fun k hk => ?_, fun k hk => by rw [zup_row (by decide)]; exact hR.2.1 k hk, fun j hj hBj => by rw [zup_row (by decide), zup_row (by decide)]; exact hR.2.2 j hj hBj⟩
    show _ = zfu s.1 (pT P i) (s.2.2.1 i) k
    by_cases hkt : k = pT P i
    · rw [hkt, zup_at, zfu_at]
    · rw [zup_off hkt, zfu_off hkt]
      exact hR.1 k hk
  · have h6 : pK P i = 6 := by omega
    repeat refine zr_s rfl rfl rfl ?_
    refine zr_ald (i) rfl rfl rfl (by omega) (by decide) ?_
    rw [q2]
    repeat refine zr_s rfl rfl rfl ?_
    refine zr_ald (i) rfl rfl rfl (by omega) (by decide) ?_
    rw [q1]
    refine zr_ast (s.2.2.2 i).toNat rfl rfl (by omega) (by omega) (by decide) ?_
    repeat refine zr_s rfl rfl rfl ?_
    refine zr_retv rfl ⟨rfl, fun a h1 h2 => zup_row h2, ?_⟩
    have e : zcom P s i = (s.1, zfu s.2.1 (s.2.2.2 i).toNat (s.2.2.1 i), s.2.2) := if_pos h6
    rw [e]
    refine ⟨fun k hk => by rw [zup_row (by decide)]; exact hR.1 k hk, fun k hk => ?_, fun j hj hBj => by rw [zup_row (by decide), zup_row (by decide)]; exact hR.2.2 j hj hBj⟩
    show _ = zfu s.2.1 (s.2.2.2 i).toNat (s.2.2.1 i) k
    by_cases hkt : k = (s.2.2.2 i).toNat
    · rw [hkt, zup_at, zfu_at]
    · rw [zup_off hkt, zfu_off hkt]
      exact hR.2.1 k hk
end ZY
end
section
/-! RUNS, as the class does them -/
/-- as it stands -/
def zst (P : zP) (s : zRS) : Nat → zRS
  | 0 => s
  | i + 1 => zcom P (zbeg P (zst P s i) i) i
def zcm (P : zP) (w : Nat → Int) (t : Int) (s : zRS) : Nat → zRS
  | 0 => s
  | i + 1 => if w i + pl P i = t then zcom P (zcm P w t s i) i else zcm P w t s i
def zbm (P : zP) (w : Nat → Int) (t : Int) (s : zRS) : Nat → zRS
  | 0 => s
  | i + 1 => if w i = t then zbeg P (zbm P w t s i) i else zbm P w t s i
/-- by a plan w: behind the cycles before t -/
def zrn (P : zP) (w : Nat → Int) (s : zRS) : Nat → zRS
  | 0 => s
  | t + 1 => zbm P w t (zcm P w t (zrn P w s t) (pn P)) (pn P)
theorem zcm_id {P : zP} {w : Nat → Int} {t : Int} {s : zRS} : ∀ m, (∀ i, i < m → w i + pl P i ≠ t) → zcm P w t s m = s
  | 0, _ => rfl
  | m + 1, h => by
    show (if w m + pl P m = t then _ else zcm P w t s m) = s
    rw [if_neg (h m (by omega))]
    exact zcm_id m (fun i hi => h i (by omega))
theorem zbm_id {P : zP} {w : Nat → Int} {t : Int} {s : zRS} : ∀ m, (∀ i, i < m → w i ≠ t) → zbm P w t s m = s
  | 0, _ => rfl
  | m + 1, h => by
    show (if w m = t then _ else zbm P w t s m) = s
    rw [if_neg (h m (by omega))]
    exact zbm_id m (fun i hi => h i (by omega))
theorem zrn_skip {P : zP} {w : Nat → Int} {s : zRS} {a : Nat} : ∀ b, a ≤ b → (∀ t : Nat, a ≤ t → t < b → ∀ i, i < pn P → w i ≠ t ∧ w i + pl P i ≠ t) → zrn P w s b = zrn P w s a
  | 0, h, _ => by rw [show a = 0 by omega]
  | b + 1, h, hk => by
    by_cases hab : a = b + 1
    · rw [hab]
    · show zbm P w b (zcm P w b (zrn P w s b) (pn P)) (pn P) = _
      have h1 := hk b (by omega) (by omega)
      rw [zcm_id _ (fun i hi => (h1 i hi).2), zbm_id _ (fun i hi => (h1 i hi).1)]
      exact zrn_skip b (by omega) (fun t h2 h3 => hk t h2 (by omega))
def zev (P : zP) (w : Nat → Int) (t : Int) : Nat → Nat
  | 0 => 0
  | i + 1 => zev P w t i + (if w i < t then 1 else 0) + (if w i + pl P i < t then 1 else 0)
theorem zev_le (P : zP) (w : Nat → Int) (t : Int) : ∀ m, zev P w t m ≤ 2 * m
  | 0 => Nat.le_refl _
  | m + 1 => by
    have := zev_le P w t m
    show zev P w t m + (if w m < t then 1 else 0) + (if w m + pl P m < t then 1 else 0) ≤ 2 * (m + 1)
    split <;> split <;> omega
theorem zev_lt {P : zP} {w : Nat → Int} {t : Int} {j : Nat} (hj : t ≤ w j ∨ t ≤ w j + pl P j) : ∀ m, j < m → zev P w t m < 2 * m
  | 0, h => by omega
  | m + 1, h => by
    have h1 := zev_le P w t m
    show zev P w t m + (if w m < t then 1 else 0) + (if w m + pl P m < t then 1 else 0) < 2 * (m + 1)
    by_cases hjm : j = m
    · subst hjm
      rcases hj with hj | hj
      · rw [if_neg (by omega)]
        split <;> omega
      · rw [if_neg (show ¬ (w j + pl P j < t) by omega)]
        split <;> omega
    · have h2 := zev_lt hj m (by omega)
      split <;> split <;> omega
theorem zev_mono {P : zP} {w : Nat → Int} {t t2 : Int} (ht : t ≤ t2) : ∀ m, zev P w t m ≤ zev P w t2 m
  | 0 => Nat.le_refl _
  | m + 1 => by
    have h1 := zev_mono (P := P) (w := w) ht m
    show zev P w t m + (if w m < t then 1 else 0) + (if w m + pl P m < t then 1 else 0) ≤ zev P w t2 m + (if w m < t2 then 1 else 0) + (if w m + pl P m < t2 then 1 else 0)
    split <;> split <;> split <;> split <;> omega
theorem zev_strict {P : zP} {w : Nat → Int} {t t2 : Int} (ht : t < t2) {j : Nat} (hj : w j = t ∨ w j + pl P j = t) : ∀ m, j < m → zev P w t m < zev P w t2 m
  | 0, h => by omega
  | m + 1, h => by
    have h1 := zev_mono (P := P) (w := w) (Int.le_of_lt ht) m
    show zev P w t m + (if w m < t then 1 else 0) + (if w m + pl P m < t then 1 else 0) < zev P w t2 m + (if w m < t2 then 1 else 0) + (if w m + pl P m < t2 then 1 else 0)
    by_cases hjm : j = m
    · subst hjm
      split <;> split <;> split <;> split <;> omega
    · have h2 := zev_strict ht hj m (by omega)
      split <;> split <;> split <;> split <;> omega
def zNx (P : zP) (w : Nat → Int) (t x : Int) (m : Nat) : Prop := (x = -3 ∧ ∀ i, i < m → w i ≤ t ∧ w i + pl P i ≤ t) ∨ (t < x ∧ (∃ i, i < m ∧ (w i = x ∨ w i + pl P i = x)) ∧ ∀ i, i < m → (w i ≤ t ∨ x ≤ w i) ∧ (w i + pl P i ≤ t ∨ x ≤ w i + pl P i))
section ZX
variable {L : Nat} {M : zM} {P : zP} {s : zRS} {B : Nat → Prop} {c : Nat}
theorem sp_runAsItStands (hB : zBk M P) (hw : zWf P) : zf (zSh L) 3 kX3_runAsItStands [zvr 26] M (fun v M1 => v = none ∧ (∀ a, a < 29 ∨ 32 < a → M1 a = M a) ∧ (∀ k, k < 16 → M1 29 k = (zst P (M 27, M 28, fun _ => 0, fun _ => 0) (pn P)).1 k) ∧ ∀ k, k < 64 → M1 30 k = (zst P (M 27, M 28, fun _ => 0, fun _ => 0) (pn P)).2.1 k) := by
  have h60 := hw.1
  have hn := hB.1
  refine zf_of rfl (Nat.le_of_ble_eq_true rfl) ?_
  repeat refine zr_s rfl rfl rfl ?_
  refine zr_c rfl rfl rfl (zf_mono (Nat.le_of_ble_eq_true rfl) (sp_startAnew)) (fun v M1 hv => ?_)
  obtain ⟨rfl, g1, g2, g3⟩ := hv
  repeat refine zr_t 6 rfl rfl rfl rfl ?_
  have loop : ∀ (k i : Nat) (N : zM), i + k = pn P → (∀ a, a < 29 ∨ 32 < a → N a = M a) → zRu N P (zst P (M 27, M 28, fun _ => 0, fun _ => 0) i) (fun _ => False) → zr (zSh L) 2 tX3_runAsItStands 6 [some (zvr 26), some (zvi i)] [] N (fun v M1 => v = none ∧ (∀ a, a < 29 ∨ 32 < a → M1 a = M a) ∧ (∀ k, k < 16 → M1 29 k = (zst P (M 27, M 28, fun _ => 0, fun _ => 0) (pn P)).1 k) ∧ ∀ k, k < 64 → M1 30 k = (zst P (M 27, M 28, fun _ => 0, fun _ => 0) (pn P)).2.1 k) := by
    intro k
    induction k with
    | zero =>
      intro i N hi f1 f2
      have hi2 : i = pn P := by omega
      subst hi2
      have hB1 : zBk N P := zBk_of hB (fun a h1 h2 => f1 a (by omega))
      have hn1 := hB1.1
      repeat refine zr_s rfl rfl rfl ?_
      refine zr_ige rfl (by omega) (by omega) (fun h => ?_) (fun h => by omega)
      repeat refine zr_s rfl rfl rfl ?_
      exact zr_retv rfl (⟨rfl, f1, f2.1, f2.2.1⟩)
    | succ k ih =>
      intro i N hi f1 f2
      have hB1 : zBk N P := zBk_of hB (fun a h1 h2 => f1 a (by omega))
      have hn1 := hB1.1
      repeat refine zr_s rfl rfl rfl ?_
      refine zr_ige rfl (by omega) (by omega) (fun h => by omega) (fun h => ?_)
      repeat refine zr_s rfl rfl rfl ?_
      refine zr_c rfl rfl rfl (zf_mono (Nat.le_of_ble_eq_true rfl) (sp_begin hB1 hw (i := i) (by omega) f2)) (fun v M1 hv => ?_)
      obtain ⟨rfl, q1, q2⟩ := hv
      have hB2 : zBk M1 P := zBk_of hB1 (fun a h1 h2 => q1 a (by omega) (by omega))
      repeat refine zr_s rfl rfl rfl ?_
      refine zr_c rfl rfl rfl (zf_mono (Nat.le_of_ble_eq_true rfl) (sp_come hB2 hw (i := i) (by omega) q2 (Or.inr rfl))) (fun v M2 hv => ?_)
      obtain ⟨rfl, p1, p2⟩ := hv
      repeat refine zr_s rfl rfl rfl ?_
      refine zr_b rfl rfl ?_
      refine ih (i + 1) M2 (by omega) (fun a ha => by rw [p1 a (by omega) (by omega), q1 a (by omega) (by omega)]; exact f1 a ha) ⟨p2.1, p2.2.1, fun j hj hF => hF.elim⟩
  exact loop (pn P) 0 M1 (by omega) (fun a ha => g1 a (by omega) (by omega)) ⟨g2, g3, fun j hj hF => hF.elim⟩
theorem sp_comeIn {t : Int} (hB : zBk M P) (hw : zWf P) (hc : (zSh L)[c]? = some (.inl 60)) (hc2 : c < 29) (hr : ∀ i, i < pn P → 0 ≤ M c i ∧ M c i ≤ 1000) (ht : 0 ≤ t ∧ t ≤ 2000) (hR : zRu M P s B) (hBt : ∀ i, i < pn P → M c i < t → B i) : zf (zSh L) 2 kX3_comeIn [zvr 26, zvi t, zvr c] M (fun v M1 => v = none ∧ (∀ a, a ≠ 29 → a ≠ 30 → M1 a = M a) ∧ zRu M1 P (zcm P (M c) t s (pn P)) B) := by
  have h60 := hw.1
  have hn := hB.1
  refine zf_of rfl (Nat.le_of_ble_eq_true rfl) ?_
  repeat refine zr_t 2 rfl rfl rfl rfl ?_
  have loop : ∀ (k i : Nat) (N : zM), i + k = pn P → (∀ a, a ≠ 29 → a ≠ 30 → N a = M a) → zRu N P (zcm P (M c) t s i) B → zr (zSh L) 1 tX3_comeIn 2 [some (zvr 26), some (zvi t), some (zvr c), some (zvi i)] [] N (fun v M1 => v = none ∧ (∀ a, a ≠ 29 → a ≠ 30 → M1 a = M a) ∧ zRu M1 P (zcm P (M c) t s (pn P)) B) := by
    intro k
    induction k with
    | zero =>
      intro i N hi f1 f2
      have hi2 : i = pn P := by omega
      subst hi2
      have hB1 : zBk N P := zBk_of hB (fun a h1 h2 => f1 a (by omega) (by omega))
      have hn1 := hB1.1
      repeat refine zr_s rfl rfl rfl ?_
      refine zr_ige rfl (by omega) (by omega) (fun h => ?_) (fun h => by omega)
      repeat refine zr_s rfl rfl rfl ?_
      exact zr_retv rfl (⟨rfl, f1, f2⟩)
    | succ k ih =>
      intro i N hi f1 f2
      have hB1 : zBk N P := zBk_of hB (fun a h1 h2 => f1 a (by omega) (by omega))
      have hn1 := hB1.1
      have hri := hr i (by omega)
      have hp := zpl_le hw (i := i) (by omega)
      have e : zcm P (M c) t s (i + 1) = if M c i + pl P i = t then zcom P (zcm P (M c) t s i) i else zcm P (M c) t s i := rfl
      repeat refine zr_s rfl rfl rfl ?_
      refine zr_ige rfl (by omega) (by omega) (fun h => by omega) (fun h => ?_)
      repeat refine zr_s rfl rfl rfl ?_
      refine zr_ald i rfl hc rfl (by omega) (by decide) ?_
      rw [f1 c (by omega) (by omega)]
      repeat refine zr_s rfl rfl rfl ?_
      refine zr_cr rfl rfl rfl (zf_mono (Nat.le_of_ble_eq_true rfl) (sp_latencyOf hB1 hw (i := i) (by omega))) ?_
      repeat refine zr_s rfl rfl rfl ?_
      refine zr_ine rfl (by omega) (by omega) (fun h3 => ?_) (fun h3 => ?_)
      · repeat refine zr_s rfl rfl rfl ?_
        refine zr_b rfl rfl ?_
        exact ih (i + 1) N (by omega) f1 (by rw [e, if_neg h3]; exact f2)
      · repeat refine zr_s rfl rfl rfl ?_
        refine zr_c rfl rfl rfl (zf_mono (Nat.le_of_ble_eq_true rfl) (sp_come hB1 hw (i := i) (by omega) f2 (hBt i (by omega) (by omega)))) (fun v M1 hv => ?_)
        obtain ⟨rfl, p1, p2⟩ := hv
        repeat refine zr_s rfl rfl rfl ?_
        refine zr_b rfl rfl ?_
        exact ih (i + 1) M1 (by omega) (fun a h1 h2 => by rw [p1 a h1 h2]; exact f1 a h1 h2) (by rw [e, if_pos h3]; exact p2)
  exact loop (pn P) 0 M (by omega) (fun _ _ _ => rfl) hR
theorem sp_beginIn {t : Int} (hB : zBk M P) (hw : zWf P) (hc : (zSh L)[c]? = some (.inl 60)) (hc2 : c < 29) (hr : ∀ i, i < pn P → 0 ≤ M c i ∧ M c i ≤ 1000) (ht : 0 ≤ t ∧ t ≤ 2000) (hR : zRu M P s B) : zf (zSh L) 3 kX3_beginIn [zvr 26, zvi t, zvr c] M (fun v M1 => v = none ∧ (∀ a, a ≠ 31 → a ≠ 32 → M1 a = M a) ∧ zRu M1 P (zbm P (M c) t s (pn P)) (fun j => B j ∨ M c j = t)) := by
  have h60 := hw.1
  have hn := hB.1
  refine zf_of rfl (Nat.le_of_ble_eq_true rfl) ?_
  repeat refine zr_t 2 rfl rfl rfl rfl ?_
  have loop : ∀ (k i : Nat) (N : zM), i + k = pn P → (∀ a, a ≠ 31 → a ≠ 32 → N a = M a) → zRu N P (zbm P (M c) t s i) (fun j => B j ∨ (j < i ∧ M c j = t)) → zr (zSh L) 2 tX3_beginIn 2 [some (zvr 26), some (zvi t), some (zvr c), some (zvi i)] [] N (fun v M1 => v = none ∧ (∀ a, a ≠ 31 → a ≠ 32 → M1 a = M a) ∧ zRu M1 P (zbm P (M c) t s (pn P)) (fun j => B j ∨ M c j = t)) := by
    intro k
    induction k with
    | zero =>
      intro i N hi f1 f2
      have hi2 : i = pn P := by omega
      subst hi2
      have hB1 : zBk N P := zBk_of hB (fun a h1 h2 => f1 a (by omega) (by omega))
      have hn1 := hB1.1
      repeat refine zr_s rfl rfl rfl ?_
      refine zr_ige rfl (by omega) (by omega) (fun h => ?_) (fun h => by omega)
      repeat refine zr_s rfl rfl rfl ?_
      refine zr_retv rfl ⟨rfl, f1, f2.1, f2.2.1, fun j hj hb => f2.2.2 j hj ?_⟩
      rcases hb with h | h
      · exact Or.inl h
      · exact Or.inr ⟨hj, h⟩
    | succ k ih =>
      intro i N hi f1 f2
      have hB1 : zBk N P := zBk_of hB (fun a h1 h2 => f1 a (by omega) (by omega))
      have hn1 := hB1.1
      have hri := hr i (by omega)
      have e : zbm P (M c) t s (i + 1) = if M c i = t then zbeg P (zbm P (M c) t s i) i else zbm P (M c) t s i := rfl
      repeat refine zr_s rfl rfl rfl ?_
      refine zr_ige rfl (by omega) (by omega) (fun h => by omega) (fun h => ?_)
      repeat refine zr_s rfl rfl rfl ?_
      refine zr_ald i rfl hc rfl (by omega) (by decide) ?_
      rw [f1 c (by omega) (by omega)]
      repeat refine zr_s rfl rfl rfl ?_
      refine zr_ine rfl (by omega) (by omega) (fun h3 => ?_) (fun h3 => ?_)
      · repeat refine zr_s rfl rfl rfl ?_
        refine zr_b rfl rfl ?_
        refine ih (i + 1) N (by omega) f1 ?_
        rw [e, if_neg h3]
        refine ⟨f2.1, f2.2.1, fun j hj hb => f2.2.2 j hj ?_⟩
        rcases hb with h | ⟨h, h4⟩
        · exact Or.inl h
        · refine Or.inr ⟨?_, h4⟩
          have : j ≠ i := fun z => h3 (by rw [← z]; exact h4)
          omega
      · repeat refine zr_s rfl rfl rfl ?_
        refine zr_c rfl rfl rfl (zf_mono (Nat.le_of_ble_eq_true rfl) (sp_begin hB1 hw (i := i) (by omega) f2)) (fun v M1 hv => ?_)
        obtain ⟨rfl, p1, p2⟩ := hv
        repeat refine zr_s rfl rfl rfl ?_
        refine zr_b rfl rfl ?_
        refine ih (i + 1) M1 (by omega) (fun a h1 h2 => by rw [p1 a h1 h2]; exact f1 a h1 h2) ?_
        rw [e, if_pos h3]
        refine ⟨p2.1, p2.2.1, fun j hj hb => p2.2.2 j hj ?_⟩
        by_cases hji : j = i
        · exact Or.inr hji
        · rcases hb with h | ⟨h, h4⟩
          · exact Or.inl (Or.inl h)
          · exact Or.inl (Or.inr ⟨by omega, h4⟩)
  exact loop (pn P) 0 M (by omega) (fun _ _ _ => rfl) ⟨hR.1, hR.2.1, fun j hj hb => hR.2.2 j hj (by rcases hb with h | h; exact h; omega)⟩
theorem sp_nextMoment {t : Int} (hB : zBk M P) (hw : zWf P) (hc : (zSh L)[c]? = some (.inl 60)) (hr : ∀ i, i < pn P → 0 ≤ M c i ∧ M c i ≤ 1000) (ht : -3 ≤ t ∧ t ≤ 2000) : zf (zSh L) 2 kX3_nextMoment [zvr 26, zvi t, zvr c] M (fun v M1 => ∃ x : Int, v = some (.inl x) ∧ M1 = M ∧ zNx P (M c) t x (pn P) ∧ -3 ≤ x ∧ x ≤ 1012) := by
  have h60 := hw.1
  have hn := hB.1
  refine zf_of rfl (Nat.le_of_ble_eq_true rfl) ?_
  repeat refine zr_t 6 rfl rfl rfl rfl ?_
  have loop : ∀ (k i : Nat) (o5 o6 : Option zV) (x : Int), i + k = pn P → zNx P (M c) t x i → -3 ≤ x → x ≤ 1012 → zr (zSh L) 1 tX3_nextMoment 6 [some (zvr 26), some (zvi t), some (zvr c), some (zvi x), some (zvi i), o5, o6] [] M (fun v M1 => ∃ x : Int, v = some (.inl x) ∧ M1 = M ∧ zNx P (M c) t x (pn P) ∧ -3 ≤ x ∧ x ≤ 1012) := by
    intro k
    induction k with
    | zero =>
      intro i o5 o6 x hi f1 f2 f3
      have hi2 : i = pn P := by omega
      subst hi2
      repeat refine zr_s rfl rfl rfl ?_
      refine zr_ige rfl (by omega) (by omega) (fun h => ?_) (fun h => by omega)
      repeat refine zr_s rfl rfl rfl ?_
      exact zr_ret rfl (⟨x, rfl, rfl, f1, f2, f3⟩)
    | succ k ih =>
      intro i o5 o6 x hi f1 f2 f3
      have hri := hr i (by omega)
      have hp := zpl_le hw (i := i) (by omega)
      have mid : ∀ y : Int, y = (if t < M c i then M c i else M c i + pl P i) → zr (zSh L) 1 tX3_nextMoment 49 [some (zvr 26), some (zvi t), some (zvr c), some (zvi x), some (zvi i), some (zvi (M c i)), some (zvi y)] [] M (fun v M1 => ∃ x : Int, v = some (.inl x) ∧ M1 = M ∧ zNx P (M c) t x (pn P) ∧ -3 ≤ x ∧ x ≤ 1012) := by
        intro y hy
        have hyI : 0 ≤ y ∧ y ≤ 1012 := by
          rw [hy]
          split <;> omega
        have keep : (y ≤ t ∨ (x ≠ -3 ∧ x ≤ y)) → zr (zSh L) 1 tX3_nextMoment 70 [some (zvr 26), some (zvi t), some (zvr c), some (zvi x), some (zvi i), some (zvi (M c i)), some (zvi y)] [] M (fun v M1 => ∃ x : Int, v = some (.inl x) ∧ M1 = M ∧ zNx P (M c) t x (pn P) ∧ -3 ≤ x ∧ x ≤ 1012) := by
          intro hk
          repeat refine zr_s rfl rfl rfl ?_
          refine zr_b rfl rfl ?_
          refine ih (i + 1) _ _ x (by omega) ?_ f2 f3
          rcases f1 with ⟨g1, g2⟩ | ⟨g1, ⟨j, g2, g3⟩, g4⟩
          · refine Or.inl ⟨g1, fun q hq => ?_⟩
            by_cases hqi : q = i
            · subst hqi
              split at hy <;> omega
            · exact g2 q (by omega)
          · refine Or.inr ⟨g1, ⟨j, by omega, g3⟩, fun q hq => ?_⟩
            by_cases hqi : q = i
            · subst hqi
              split at hy <;> omega
            · exact g4 q (by omega)
        have take : t < y → (x = -3 ∨ y < x) → zr (zSh L) 1 tX3_nextMoment 67 [some (zvr 26), some (zvi t), some (zvr c), some (zvi x), some (zvi i), some (zvi (M c i)), some (zvi y)] [] M (fun v M1 => ∃ x : Int, v = some (.inl x) ∧ M1 = M ∧ zNx P (M c) t x (pn P) ∧ -3 ≤ x ∧ x ≤ 1012) := by
          intro h1 h2
          repeat refine zr_s rfl rfl rfl ?_
          refine zr_b rfl rfl ?_
          refine ih (i + 1) _ _ y (by omega) (Or.inr ⟨h1, ⟨i, by omega, ?_⟩, fun q hq => ?_⟩) (by omega) (by omega)
          · split at hy
            · exact Or.inl hy.symm
            · exact Or.inr hy.symm
          · by_cases hqi : q = i
            · subst hqi
              split at hy <;> omega
            · rcases f1 with ⟨g1, g2⟩ | ⟨g1, -, g4⟩
              · have := g2 q (by omega)
                omega
              · have := g4 q (by omega)
                omega
        repeat refine zr_s rfl rfl rfl ?_
        refine zr_ile rfl (by omega) (by omega) (fun h3 => ?_) (fun h3 => ?_)
        · exact keep (Or.inl h3)
        · repeat refine zr_s rfl rfl rfl ?_
          refine zr_ieq rfl (by omega) (by decide) (fun h4 => ?_) (fun h4 => ?_)
          · exact take h3 (Or.inl h4)
          · repeat refine zr_s rfl rfl rfl ?_
            refine zr_ige rfl (by omega) (by omega) (fun h5 => ?_) (fun h5 => ?_)
            · exact keep (Or.inr ⟨h4, h5⟩)
            · exact take h3 (Or.inr h5)
      repeat refine zr_s rfl rfl rfl ?_
      refine zr_ige rfl (by omega) (by omega) (fun h => by omega) (fun h => ?_)
      repeat refine zr_s rfl rfl rfl ?_
      refine zr_ald i rfl hc rfl (by omega) (by decide) ?_
      repeat refine zr_s rfl rfl rfl ?_
      refine zr_ile rfl (by omega) (by omega) (fun h3 => ?_) (fun h3 => ?_)
      · repeat refine zr_s rfl rfl rfl ?_
        refine zr_cr rfl rfl rfl (zf_mono (Nat.le_of_ble_eq_true rfl) (sp_latencyOf hB hw (i := i) (by omega))) ?_
        repeat refine zr_t 49 rfl rfl rfl rfl ?_
        exact mid _ (by rw [if_neg (by omega)])
      · repeat refine zr_t 49 rfl rfl rfl rfl ?_
        exact mid _ (by rw [if_pos h3])
  exact loop (pn P) 0 _ _ (-3) (by omega) (Or.inl ⟨rfl, fun i hi => by omega⟩) (by decide) (by decide)
theorem sp_runByCycles (hB : zBk M P) (hw : zWf P) (hc : (zSh L)[c]? = some (.inl 60)) (hc2 : c < 29) (hr : ∀ i, i < pn P → 0 ≤ M c i ∧ M c i ≤ 1000) : zf (zSh L) 4 kX3_runByCycles [zvr 26, zvr c] M (fun v M1 => v = none ∧ (∀ a, a < 29 ∨ 32 < a → M1 a = M a) ∧ (∀ k, k < 16 → M1 29 k = (zrn P (M c) (M 27, M 28, fun _ => 0, fun _ => 0) 1013).1 k) ∧ ∀ k, k < 64 → M1 30 k = (zrn P (M c) (M 27, M 28, fun _ => 0, fun _ => 0) 1013).2.1 k) := by
  have h60 := hw.1
  have hn := hB.1
  have hev : ∀ i, i < pn P → 0 ≤ M c i ∧ M c i + pl P i ≤ 1012 := fun i hi => by
    have h1 := hr i hi
    have h2 := zpl_le hw hi
    omega
  refine zf_of rfl (Nat.le_of_ble_eq_true rfl) ?_
  repeat refine zr_s rfl rfl rfl ?_
  refine zr_c rfl rfl rfl (zf_mono (Nat.le_of_ble_eq_true rfl) (sp_startAnew)) (fun v M1 hv => ?_)
  obtain ⟨rfl, g1, g2, g3⟩ := hv
  have hBa : zBk M1 P := zBk_of hB (fun a h1 h2 => g1 a (by omega) (by omega))
  have ec : M1 c = M c := g1 c (by omega) (by omega)
  repeat refine zr_s rfl rfl rfl ?_
  refine zr_c rfl rfl rfl (zf_mono (Nat.le_of_ble_eq_true rfl) (sp_nextMoment (t := -3) hBa hw hc (fun i hi => by rw [ec]; exact hr i hi) (by decide))) (fun v M2 hv => ?_)
  obtain ⟨x0, rfl, rfl, hx0, hx1, hx2⟩ := hv
  rw [ec] at hx0
  repeat refine zr_t 14 rfl rfl rfl rfl ?_
  have loop : ∀ (k m : Nat) (t : Int) (N : zM), m + k = 2 * pn P → (∀ a, a < 29 ∨ 32 < a → N a = M a) → (t = -3 ∧ (∃ B, zRu N P (zrn P (M c) (M 27, M 28, fun _ => 0, fun _ => 0) 1013) B) ∨ (0 ≤ t ∧ t ≤ 1012 ∧ (∃ j, j < pn P ∧ (M c j = t ∨ M c j + pl P j = t)) ∧ m ≤ zev P (M c) t (pn P) ∧ zRu N P (zrn P (M c) (M 27, M 28, fun _ => 0, fun _ => 0) t.toNat) (fun i => M c i < t))) → zr (zSh L) 3 tX3_runByCycles 14 [some (zvr 26), some (zvr c), some (zvi t), some (zvi m)] [] N (fun v M1 => v = none ∧ (∀ a, a < 29 ∨ 32 < a → M1 a = M a) ∧ (∀ k, k < 16 → M1 29 k = (zrn P (M c) (M 27, M 28, fun _ => 0, fun _ => 0) 1013).1 k) ∧ ∀ k, k < 64 → M1 30 k = (zrn P (M c) (M 27, M 28, fun _ => 0, fun _ => 0) 1013).2.1 k) := by
    intro k
    induction k with
    | zero =>
      intro m t N hm f1 f2
      have hB1 : zBk N P := zBk_of hB (fun a h1 h2 => f1 a (by omega))
      have hn1 := hB1.1
      rcases f2 with ⟨rfl, B, f2⟩ | ⟨q1, q2, ⟨j, q3, q4⟩, q5, -⟩
      · repeat refine zr_s rfl rfl rfl ?_
        refine zr_ige rfl (by omega) (by omega) (fun h => ?_) (fun h => by omega)
        repeat refine zr_s rfl rfl rfl ?_
        exact zr_retv rfl (⟨rfl, f1, f2.1, f2.2.1⟩)
      · have := zev_lt (P := P) (w := M c) (t := t) (j := j) (by omega) (pn P) q3
        omega
    | succ k ih =>
      intro m t N hm f1 f2
      have hB1 : zBk N P := zBk_of hB (fun a h1 h2 => f1 a (by omega))
      have hn1 := hB1.1
      have ecN : N c = M c := f1 c (by omega)
      have hrN : ∀ i, i < pn P → 0 ≤ N c i ∧ N c i ≤ 1000 := fun i hi => by rw [ecN]; exact hr i hi
      repeat refine zr_s rfl rfl rfl ?_
      refine zr_ige rfl (by omega) (by omega) (fun h => by omega) (fun h => ?_)
      rcases f2 with ⟨rfl, B, f2⟩ | ⟨q1, q2, ⟨j, q3, q4⟩, q5, q6⟩
      · repeat refine zr_s rfl rfl rfl ?_
        refine zr_ieq rfl (by decide) (by decide) (fun _ => ?_) (fun h => absurd rfl h)
        repeat refine zr_s rfl rfl rfl ?_
        exact zr_retv rfl (⟨rfl, f1, f2.1, f2.2.1⟩)
      · repeat refine zr_s rfl rfl rfl ?_
        refine zr_ieq rfl (by omega) (by decide) (fun h => by omega) (fun _ => ?_)
        repeat refine zr_s rfl rfl rfl ?_
        refine zr_c rfl rfl rfl (zf_mono (Nat.le_of_ble_eq_true rfl) (sp_comeIn (t := t) hB1 hw hc hc2 hrN (by omega) q6 (fun i hi h => by rw [ecN] at h; exact h))) (fun v M1 hv => ?_)
        obtain ⟨rfl, p1, p2⟩ := hv
        have hB2 : zBk M1 P := zBk_of hB1 (fun a h1 h2 => p1 a (by omega) (by omega))
        have ec2 : M1 c = M c := by rw [p1 c (by omega) (by omega), ecN]
        rw [ecN] at p2
        repeat refine zr_s rfl rfl rfl ?_
        refine zr_c rfl rfl rfl (zf_mono (Nat.le_of_ble_eq_true rfl) (sp_beginIn (t := t) hB2 hw hc hc2 (fun i hi => by rw [ec2]; exact hr i hi) (by omega) p2)) (fun v M3 hv => ?_)
        obtain ⟨rfl, p3, p4⟩ := hv
        have hB3 : zBk M3 P := zBk_of hB2 (fun a h1 h2 => p3 a (by omega) (by omega))
        have ec3 : M3 c = M c := by rw [p3 c (by omega) (by omega), ec2]
        rw [ec2] at p4
        repeat refine zr_s rfl rfl rfl ?_
        refine zr_c rfl rfl rfl (zf_mono (Nat.le_of_ble_eq_true rfl) (sp_nextMoment (t := t) hB3 hw hc (fun i hi => by rw [ec3]; exact hr i hi) (by omega))) (fun v M4 hv => ?_)
        obtain ⟨x, rfl, rfl, hx, hxa, hxb⟩ := hv
        rw [ec3] at hx
        repeat refine zr_s rfl rfl rfl ?_
        refine zr_b rfl rfl ?_
        have hsucc : zrn P (M c) (M 27, M 28, fun _ => 0, fun _ => 0) (t.toNat + 1) = zbm P (M c) t (zcm P (M c) t (zrn P (M c) (M 27, M 28, fun _ => 0, fun _ => 0) t.toNat) (pn P)) (pn P) := by
          show zbm P (M c) ((t.toNat : Nat) : Int) (zcm P (M c) ((t.toNat : Nat) : Int) _ (pn P)) (pn P) = _
          rw [show ((t.toNat : Nat) : Int) = t by omega]
        rw [← hsucc] at p4
        refine ih (m + 1) x M4 (by omega) (fun a ha => by rw [p3 a (by omega) (by omega), p1 a (by omega) (by omega)]; exact f1 a ha) ?_
        rcases hx with ⟨rfl, h3⟩ | ⟨h1, ⟨j2, h2, h3⟩, h4⟩
        · refine Or.inl ⟨rfl, fun j => M c j < t ∨ M c j = t, ?_⟩
          rw [zrn_skip (a := t.toNat + 1) 1013 (by omega) (fun t2 g1 g2 i hi => by have := h3 i hi; omega)]
          exact p4
        · refine Or.inr ⟨by omega, hxb, ⟨j2, h2, h3⟩, ?_, ?_⟩
          · have := zev_strict (P := P) (w := M c) h1 q4 (pn P) q3
            omega
          · rw [zrn_skip (a := t.toNat + 1) x.toNat (by omega) (fun t2 g1 g2 i hi => by have := h4 i hi; omega)]
            refine ⟨p4.1, p4.2.1, fun i hi hb => p4.2.2 i hi ?_⟩
            have := h4 i hi
            omega
  refine loop (2 * pn P) 0 x0 M2 (by omega) (fun a ha => g1 a (by omega) (by omega)) ?_
  rcases hx0 with ⟨rfl, h3⟩ | ⟨h1, ⟨j2, h2, h3⟩, h4⟩
  · refine Or.inl ⟨rfl, fun _ => False, ?_⟩
    rw [zrn_skip (a := 0) 1013 (by omega) (fun t2 g1 g2 i hi => by have := h3 i hi; have := hev i hi; omega)]
    exact ⟨g2, g3, fun j hj hF => hF.elim⟩
  · have hx00 : 0 ≤ x0 := by
      have := hev j2 h2
      omega
    refine Or.inr ⟨hx00, hx2, ⟨j2, h2, h3⟩, Nat.zero_le _, ?_⟩
    rw [zrn_skip (a := 0) x0.toNat (by omega) (fun t2 g1 g2 i hi => by have := h4 i hi; have := hev i hi; omega)]
    refine ⟨g2, g3, fun j hj hF => ?_⟩
    have := h4 j hj
    have := hev j hj
    omega
end ZX
end
section
/-! OF THE LIST PLAN: it never stands still, it places all, each one behind what it depends on -/
def zcp (f : Nat → Int) : Nat → Nat
  | 0 => 0
  | i + 1 => zcp f i + if f i ≠ -3 then 1 else 0
theorem zcp_le (f : Nat → Int) : ∀ m, zcp f m ≤ m
  | 0 => Nat.le_refl _
  | m + 1 => by
    have := zcp_le f m
    show zcp f m + (if f m ≠ -3 then 1 else 0) ≤ m + 1
    split <;> omega
theorem zcp_all {f : Nat → Int} : ∀ m, zcp f m = m → ∀ i, i < m → f i ≠ -3
  | 0, _, i, hi => by omega
  | m + 1, h, i, hi => by
    have h1 := zcp_le f m
    have h : zcp f m + (if f m ≠ -3 then 1 else 0) = m + 1 := h
    by_cases hm : f m ≠ -3
    · rw [if_pos hm] at h
      by_cases him : i = m
      · rw [him]; exact hm
      · exact zcp_all m (by omega) i (by omega)
    · rw [if_neg hm] at h
      omega
theorem zcp_some {f : Nat → Int} : ∀ m, zcp f m < m → ∃ i, i < m ∧ f i = -3 ∧ ∀ a, a < i → f a ≠ -3
  | 0, h => by omega
  | m + 1, h => by
    by_cases h1 : zcp f m < m
    · obtain ⟨i, g1, g2⟩ := zcp_some m h1
      exact ⟨i, by omega, g2⟩
    · have h2 := zcp_le f m
      have h3 := zcp_all (f := f) m (by omega)
      have h : zcp f m + (if f m ≠ -3 then 1 else 0) < m + 1 := h
      by_cases hm : f m ≠ -3
      · rw [if_pos hm] at h
        omega
      · exact ⟨m, by omega, Decidable.byContradiction hm, h3⟩
theorem zcp_fu {f : Nat → Int} {b : Nat} {x : Int} (hb : f b = -3) (hx : x ≠ -3) : ∀ m, zcp (zfu f b x) m = zcp f m + if b < m then 1 else 0
  | 0 => rfl
  | m + 1 => by
    have h := zcp_fu hb hx m
    show zcp (zfu f b x) m + (if zfu f b x m ≠ -3 then 1 else 0) = zcp f m + (if f m ≠ -3 then 1 else 0) + _
    by_cases hm : m = b
    · subst hm
      rw [zfu_at, if_pos hx, if_neg (fun z => z hb), h, if_neg (by omega), if_pos (by omega)]
    · rw [zfu_off hm, h]
      by_cases h1 : b < m
      · rw [if_pos h1, if_pos (show b < m + 1 by omega)]
        omega
      · rw [if_neg h1, if_neg (show ¬ b < m + 1 by omega)]
        omega
theorem zwt_0 {P : zP} {f : Nat → Int} {j : Nat} : ∀ m, (∀ a, a < m → f a ≠ -3) → zwt P f j m = 0
  | 0, _ => rfl
  | m + 1, h => by
    show zwt P f j m + (if zdc P m j ≠ -3 ∧ f m = -3 then 1 else 0) = 0
    rw [zwt_0 m (fun a ha => h a (by omega)), if_neg (fun z => h m (by omega) z.2)]
theorem zwt_0' {P : zP} {f : Nat → Int} {j : Nat} : ∀ m, zwt P f j m = 0 → ∀ a, a < m → zdc P a j ≠ -3 → f a ≠ -3
  | 0, _, a, ha, _ => by omega
  | m + 1, h, a, ha, hd => by
    have h : zwt P f j m + (if zdc P m j ≠ -3 ∧ f m = -3 then 1 else 0) = 0 := h
    by_cases ham : a = m
    · subst ham
      intro hf
      rw [if_pos ⟨hd, hf⟩] at h
      omega
    · exact zwt_0' m (by omega) a (by omega) hd
theorem zfree_iff {P : zP} {f : Nat → Int} {j : Nat} : zfree P f j = true ↔ f j = -3 ∧ zwt P f j j = 0 := by
  unfold zfree
  simp only [Bool.and_eq_true, decide_eq_true_eq]
theorem zlc_nn (g f : Nat → Int) : ∀ m, 0 ≤ zlc g f m
  | 0 => Int.le_refl _
  | m + 1 => by
    have := zlc_nn g f m
    unfold zlc
    split <;> omega
theorem zpf_nn (P : zP) (f : Nat → Int) (j : Nat) : 0 ≤ zpf P f j := zlc_nn _ _ _
theorem zfst_P {P : zP} {f : Nat → Int} : ∀ m, (zfst P f m = -3 ∧ ∀ i, i < m → zfree P f i = false) ∨ (0 ≤ zfst P f m ∧ (∃ i, i < m ∧ zfree P f i = true ∧ zpf P f i = zfst P f m) ∧ ∀ i, i < m → zfree P f i = true → zfst P f m ≤ zpf P f i)
  | 0 => Or.inl ⟨rfl, fun i hi => by omega⟩
  | m + 1 => by
    have hnn := zpf_nn P f m
    have ih := zfst_P (P := P) (f := f) m
    have e : zfst P f (m + 1) = if zfree P f m = true ∧ (zfst P f m = -3 ∨ zpf P f m < zfst P f m) then zpf P f m else zfst P f m := rfl
    by_cases hc : zfree P f m = true ∧ (zfst P f m = -3 ∨ zpf P f m < zfst P f m)
    · rw [e, if_pos hc]
      refine Or.inr ⟨hnn, ⟨m, by omega, hc.1, rfl⟩, fun i hi hf => ?_⟩
      by_cases him : i = m
      · rw [him]; exact Int.le_refl _
      · rcases ih with ⟨h1, h2⟩ | ⟨h1, -, h3⟩
        · rw [h2 i (by omega)] at hf
          cases hf
        · have := h3 i (by omega) hf
          rcases hc.2 with h | h <;> omega
    · rw [e, if_neg hc]
      rcases ih with ⟨h1, h2⟩ | ⟨h1, ⟨j, h2, h3, h4⟩, h5⟩
      · refine Or.inl ⟨h1, fun i hi => ?_⟩
        by_cases him : i = m
        · rw [him]
          cases hf : zfree P f m with
          | false => rfl
          | true => exact absurd ⟨hf, Or.inl h1⟩ hc
        · exact h2 i (by omega)
      · refine Or.inr ⟨h1, ⟨j, by omega, h3, h4⟩, fun i hi hf => ?_⟩
        by_cases him : i = m
        · rw [him] at hf ⊢
          apply Int.not_lt.mp
          intro hlt
          exact hc ⟨hf, Or.inr hlt⟩
        · exact h5 i (by omega) hf
/-- what the best is -/
theorem zbst_P {P : zP} {W f : Nat → Int} {c : Int} : ∀ m, (zbst P W f c m = -3 ∧ ∀ i, i < m → ¬ (zfree P f i = true ∧ zpf P f i ≤ c)) ∨ ∃ b : Nat, zbst P W f c m = b ∧ b < m ∧ zfree P f b = true ∧ zpf P f b ≤ c ∧ ∀ i, i < m → zfree P f i = true → zpf P f i ≤ c → W i < W b ∨ (W i = W b ∧ b ≤ i)
  | 0 => Or.inl ⟨rfl, fun i hi => by omega⟩
  | m + 1 => by
    have ih := zbst_P (P := P) (W := W) (f := f) (c := c) m
    have e : zbst P W f c (m + 1) = if zfree P f m = true ∧ zpf P f m ≤ c ∧ (zbst P W f c m = -3 ∨ W (zbst P W f c m).toNat < W m) then (m : Int) else zbst P W f c m := rfl
    by_cases hc : zfree P f m = true ∧ zpf P f m ≤ c ∧ (zbst P W f c m = -3 ∨ W (zbst P W f c m).toNat < W m)
    · rw [e, if_pos hc]
      refine Or.inr ⟨m, rfl, by omega, hc.1, hc.2.1, fun i hi h1 h2 => ?_⟩
      by_cases him : i = m
      · exact Or.inr ⟨by rw [him], by omega⟩
      · rcases ih with ⟨g1, g2⟩ | ⟨b, g1, g2, g3, g4, g5⟩
        · exact absurd ⟨h1, h2⟩ (g2 i (by omega))
        · have h3 := hc.2.2
          rw [g1, Int.toNat_natCast] at h3
          have h4 := g5 i (by omega) h1 h2
          rcases h3 with h3 | h3
          · omega
          · exact Or.inl (by omega)
    · rw [e, if_neg hc]
      rcases ih with ⟨g1, g2⟩ | ⟨b, g1, g2, g3, g4, g5⟩
      · refine Or.inl ⟨g1, fun i hi hh => ?_⟩
        by_cases him : i = m
        · rw [him] at hh
          exact hc ⟨hh.1, hh.2, Or.inl g1⟩
        · exact g2 i (by omega) hh
      · refine Or.inr ⟨b, g1, by omega, g3, g4, fun i hi h1 h2 => ?_⟩
        by_cases him : i = m
        · rw [him] at h1 h2 ⊢
          have h3 : ¬ W b < W m := fun z => hc ⟨h1, h2, Or.inr (by rw [g1, Int.toNat_natCast]; exact z)⟩
          by_cases h4 : W m = W b
          · exact Or.inr ⟨h4, by omega⟩
          · exact Or.inl (by omega)
        · exact g5 i (by omega) h1 h2
/-- what stands when k are placed -/
def zLk (P : zP) (k : Nat) (s : zLS) : Prop := zcp s.1 (pn P) = k ∧ (∀ q, q < k → ∃ b : Nat, s.2.1 q = b ∧ b < pn P ∧ s.1 b ≠ -3) ∧ (∀ i, i < pn P → s.1 i ≠ -3 → ∃ q, q < k ∧ s.2.1 q = i) ∧ ∀ q, q < k → ∀ a, a < (s.2.1 q).toNat → zdc P a (s.2.1 q).toNat ≠ -3 → ∃ q2, q2 < q ∧ s.2.1 q2 = a
theorem zlb2_go {P : zP} {W : Nat → Int} {s : zLS} (h : zcp s.1 (pn P) < pn P) : ∃ b : Nat, zlb2 P W s = b ∧ b < pn P ∧ zfree P s.1 b = true ∧ zpf P s.1 b ≤ zlcc P W s := by
  obtain ⟨i, g1, g2, g3⟩ := zcp_some (pn P) h
  have hfr : zfree P s.1 i = true := zfree_iff.mpr ⟨g2, zwt_0 i g3⟩
  unfold zlb2
  by_cases hb : zlb1 P W s = -3
  · rw [if_pos hb]
    have hcc : zlcc P W s = max (zfst P s.1 (pn P)) (s.2.2.1 + 1) := by unfold zlcc; rw [if_pos hb]
    rcases zbst_P (P := P) (W := W) (f := s.1) (c := zlcc P W s) (pn P) with ⟨h1, h2⟩ | ⟨b, h1, h2, h3, h4, -⟩
    · rcases zfst_P (P := P) (f := s.1) (pn P) with ⟨h3, h4⟩ | ⟨h3, ⟨j, h4, h5, h6⟩, -⟩
      · rw [h4 i g1] at hfr
        cases hfr
      · exact absurd ⟨h5, by omega⟩ (h2 j h4)
    · exact ⟨b, h1, h2, h3, h4⟩
  · rw [if_neg hb]
    have hcc : zlcc P W s = s.2.2.1 := by unfold zlcc; rw [if_neg hb]
    unfold zlb1 at hb ⊢
    by_cases hq : s.2.2.2 < pu P
    · rw [if_pos hq] at hb ⊢
      rcases zbst_I P W s.1 s.2.2.1 (pn P) with h1 | ⟨b, h1, h2, h3, h4⟩
      · exact absurd h1 hb
      · exact ⟨b, h1, h2, h3, by omega⟩
    · rw [if_neg hq] at hb
      exact absurd rfl hb
theorem zlcc_nn {P : zP} (hw : zWf P) {W : Nat → Int} {s : zLS} {k : Nat} (h : zlok2 P k s) : 0 ≤ zlcc P W s := by
  have := h.1
  unfold zlcc
  split <;> omega
theorem zls_Lk {P : zP} (hw : zWf P) (W : Nat → Int) : ∀ k, k ≤ pn P → zLk P k (zls P W k)
  | 0, _ => by
    refine ⟨?_, fun q hq => by omega, fun i hi h => absurd rfl h, fun q hq => by omega⟩
    have : ∀ m, zcp (fun _ => -3) m = 0 := by
      intro m
      induction m with
      | zero => rfl
      | succ m ih =>
        show zcp (fun _ => -3) m + (if (-3 : Int) ≠ -3 then 1 else 0) = 0
        rw [ih, if_neg (by decide)]
    exact this _
  | k + 1, hk => by
    obtain ⟨h1, h2, h3, h4⟩ := zls_Lk hw W k (by omega)
    obtain ⟨b, b1, b2, b3, b4⟩ := zlb2_go (P := P) (W := W) (s := zls P W k) (by omega)
    have hcc := zlcc_nn hw (W := W) (zls_ok hw W k)
    have hnx : zls P W (k + 1) = zlnext P W k (zls P W k) := rfl
    rw [zlnext_eq, b1, if_neg (by omega), Int.toNat_natCast] at hnx
    rw [hnx]
    obtain ⟨f1, f2⟩ := zfree_iff.mp b3
    have hord : ∀ q, q < k → zfu (zls P W k).2.1 k b q = (zls P W k).2.1 q := fun q hq => zfu_off (by omega)
    refine ⟨?_, fun q hq => ?_, fun i hi hf => ?_, fun q hq a ha hd => ?_⟩
    · show zcp (zfu (zls P W k).1 b (zlcc P W (zls P W k))) (pn P) = k + 1
      rw [zcp_fu f1 (by omega), h1, if_pos b2]
    · show ∃ x : Nat, zfu (zls P W k).2.1 k b q = x ∧ x < pn P ∧ zfu (zls P W k).1 b (zlcc P W (zls P W k)) x ≠ -3
      by_cases hqk : q = k
      · rw [hqk, zfu_at]
        exact ⟨b, rfl, b2, by rw [zfu_at]; omega⟩
      · rw [zfu_off hqk]
        obtain ⟨x, x1, x2, x3⟩ := h2 q (by omega)
        refine ⟨x, x1, x2, ?_⟩
        by_cases hxb : x = b
        · rw [hxb, zfu_at]; omega
        · rw [zfu_off hxb]; exact x3
    · have hf : zfu (zls P W k).1 b (zlcc P W (zls P W k)) i ≠ -3 := hf
      show ∃ q, q < k + 1 ∧ zfu (zls P W k).2.1 k b q = i
      by_cases hib : i = b
      · exact ⟨k, by omega, by rw [zfu_at, hib]⟩
      · rw [zfu_off hib] at hf
        obtain ⟨q, q1, q2⟩ := h3 i hi hf
        exact ⟨q, by omega, by rw [zfu_off (by omega)]; exact q2⟩
    · show ∃ q2, q2 < q ∧ zfu (zls P W k).2.1 k b q2 = a
      have ha : a < (zfu (zls P W k).2.1 k b q).toNat := ha
      have hd : zdc P a (zfu (zls P W k).2.1 k b q).toNat ≠ -3 := hd
      by_cases hqk : q = k
      · rw [hqk, zfu_at, Int.toNat_natCast] at ha hd
        obtain ⟨q2, q3, q4⟩ := h3 a (by omega) (zwt_0' b f2 a ha hd)
        exact ⟨q2, by omega, by rw [hord q2 q3]; exact q4⟩
      · rw [hord q (by omega)] at ha hd
        obtain ⟨q2, q3, q4⟩ := h4 q (by omega) a ha hd
        exact ⟨q2, q3, by rw [hord q2 (by omega)]; exact q4⟩
theorem zls_go {P : zP} (hw : zWf P) (W : Nat → Int) {k : Nat} (hk : k < pn P) : zlb2 P W (zls P W k) ≠ -3 := by
  have h := (zls_Lk hw W k (by omega)).1
  obtain ⟨b, b1, -⟩ := zlb2_go (P := P) (W := W) (s := zls P W k) (by omega)
  omega
/-- the order, as numbers -/
def zod (P : zP) (W : Nat → Int) (k : Nat) : Nat := ((zls P W (pn P)).2.1 k).toNat
theorem zod_P {P : zP} (hw : zWf P) (W : Nat → Int) : (∀ k, k < pn P → (zls P W (pn P)).2.1 k = zod P W k ∧ zod P W k < pn P) ∧ (∀ i, i < pn P → ∃ k, k < pn P ∧ zod P W k = i) ∧ zTop P (zod P W) ∧ ∀ i, i < pn P → (zls P W (pn P)).1 i ≠ -3 := by
  obtain ⟨h1, h2, h3, h4⟩ := zls_Lk hw W (pn P) (Nat.le_refl _)
  have hall := zcp_all (pn P) h1
  refine ⟨fun k hk => ?_, fun i hi => ?_, fun k hk a ha hd => ?_, hall⟩
  · obtain ⟨b, b1, b2, -⟩ := h2 k hk
    unfold zod
    rw [b1, Int.toNat_natCast]
    exact ⟨rfl, b2⟩
  · obtain ⟨q, q1, q2⟩ := h3 i hi (hall i hi)
    exact ⟨q, q1, by unfold zod; rw [q2, Int.toNat_natCast]⟩
  · obtain ⟨q, q1, q2⟩ := h4 k hk a ha hd
    exact ⟨q, q1, by unfold zod; rw [q2, Int.toNat_natCast]⟩
theorem zTop_id (P : zP) : zTop P (fun k => k) := fun _ _ a ha _ => ⟨a, ha, rfl⟩
end
section
/-! WHAT EACH CALL ANSWERS AND CHANGES, in words of a block, for the class and for the reference alike -/
theorem zIsW_uniq {P : zP} {f g : Nat → Int} (hf : zIsW P f 0) (hg : zIsW P g 0) : ∀ (k i : Nat), i + k = pn P → i < pn P → f i = g i
  | 0, i, hk, hi => by omega
  | k + 1, i, hk, hi => by
    rw [hf i (Nat.zero_le _) hi, hg i (Nat.zero_le _) hi]
    exact zwf_congr _ (fun j h1 h2 => zIsW_uniq hf hg (pn P - j) j (by omega) (by omega))
  termination_by k => k
theorem zIsE_uniq {P : zP} {f g : Nat → Int} {m : Nat} (hf : zIsE P f m) (hg : zIsE P g m) : ∀ (k i : Nat), i < k → i < m → f i = g i
  | 0, i, hk, hi => by omega
  | k + 1, i, hk, hi => by
    rw [hf i hi, hg i hi]
    exact zlc_congr _ (fun a ha _ => zIsE_uniq hf hg k a (by omega) (by omega))
noncomputable def zway (P : zP) : Nat → Int := Classical.epsilon (h := ⟨fun _ => 0⟩) (fun f => zIsW P f 0)
noncomputable def zear (P : zP) : Nat → Int := Classical.epsilon (h := ⟨fun _ => 0⟩) (fun f => zIsE P f (pn P))
theorem zway_eq {P : zP} {f : Nat → Int} (h : zIsW P f 0) {i : Nat} (hi : i < pn P) : f i = zway P i := zIsW_uniq h (Classical.epsilon_spec (p := fun f => zIsW P f 0) ⟨f, h⟩) (pn P - i) i (by omega) hi
theorem zear_eq {P : zP} {f : Nat → Int} (h : zIsE P f (pn P)) {i : Nat} (hi : i < pn P) : f i = zear P i := zIsE_uniq h (Classical.epsilon_spec (p := fun f => zIsE P f (pn P)) ⟨f, h⟩) (i + 1) i (by omega) hi
/-- what stands of a plan w -/
noncomputable def zver (P : zP) (w : Nat → Int) : Int × Int × Int := Classical.epsilon (h := ⟨(0, 0, 0)⟩) (fun t => zVd P w t.1 t.2.1 t.2.2)
theorem zVd_uniq {P : zP} {w : Nat → Int} {v a b v2 a2 b2 : Int} (h : zVd P w v a b) (h2 : zVd P w v2 a2 b2) : v = v2 ∧ a = a2 ∧ b = b2 := by
  unfold zVd at h h2
  rcases h with ⟨r1, r2, i, r3, r4, r5, r6⟩ | ⟨r1, r2, i, j, r3, r4, r5, r6, r7, r8, r9⟩ | ⟨r1, r2, r3, r4, r5, r6, r7⟩ | ⟨r1, r2, r3, r4, r5, r6⟩ <;>
  rcases h2 with ⟨s1, s2, i2, s3, s4, s5, s6⟩ | ⟨s1, s2, i2, j2, s3, s4, s5, s6, s7, s8, s9⟩ | ⟨s1, s2, s3, s4, s5, s6, s7⟩ | ⟨s1, s2, s3, s4, s5, s6⟩
  · rcases Nat.lt_trichotomy i i2 with h | h | h
    · exact absurd r4 (s5 i h)
    · omega
    · exact absurd s4 (r5 i2 h)
  · exact absurd r4 (s2 i r3)
  · exact absurd r4 (s2 i r3)
  · exact absurd r4 (s2 i r3)
  · exact absurd s4 (r2 i2 s3)
  · rcases Nat.lt_trichotomy j j2 with h | h | h
    · exact absurd r5 (s6 j h i r3)
    · subst h
      rcases Nat.lt_trichotomy i i2 with h | h | h
      · exact absurd r5 (s7 i h)
      · omega
      · exact absurd s5 (r7 i2 h)
    · exact absurd s5 (r6 j2 h i2 s3)
  · exact absurd r5 (s3 j r4 i r3)
  · exact absurd r5 (s3 j r4 i r3)
  · exact absurd s4 (r2 i2 s3)
  · exact absurd s5 (r3 j2 s4 i2 s3)
  · rcases Int.lt_trichotomy a a2 with h | h | h
    · have := s7 a r5 h
      omega
    · omega
    · have := r7 a2 s5 h
      omega
  · have := s4 a r5
    omega
  · exact absurd s4 (r2 i2 s3)
  · exact absurd s5 (r3 j2 s4 i2 s3)
  · have := r4 a2 s5
    omega
  · omega
theorem zver_eq {P : zP} {w : Nat → Int} {v a b : Int} (h : zVd P w v a b) : zver P w = (v, a, b) := by
  have h2 : zVd P w (zver P w).1 (zver P w).2.1 (zver P w).2.2 := Classical.epsilon_spec (p := fun t : Int × Int × Int => zVd P w t.1 t.2.1 t.2.2) ⟨(v, a, b), h⟩
  obtain ⟨h3, h4, h5⟩ := zVd_uniq h h2
  rw [h3, h4, h5]
theorem zct_congr {w w2 : Nat → Int} {c : Int} : ∀ m, (∀ i, i < m → w i = w2 i) → zct w c m = zct w2 c m
  | 0, _ => rfl
  | m + 1, h => by
    show zct w c m + (if w m = c then 1 else 0) = zct w2 c m + (if w2 m = c then 1 else 0)
    rw [zct_congr m (fun i hi => h i (by omega)), h m (by omega)]
theorem zVd_congr {P : zP} {w w2 : Nat → Int} {v a b : Int} (e : ∀ i, i < pn P → w i = w2 i) (h : zVd P w v a b) : zVd P w2 v a b := by
  have eb : ∀ i j, i < j → j < pn P → (zbad P w i j ↔ zbad P w2 i j) := by
    intro i j h1 h2
    unfold zbad
    rw [e i (by omega), e j h2]
  have ec : ∀ c, zct w c (pn P) = zct w2 c (pn P) := fun c => zct_congr _ e
  rcases h with ⟨r1, r2, i, r3, r4, r5, r6⟩ | ⟨r1, r2, i, j, r3, r4, r5, r6, r7, r8, r9⟩ | ⟨r1, r2, r3, r4, r5, r6, r7⟩ | ⟨r1, r2, r3, r4, r5, r6⟩
  · exact Or.inl ⟨r1, r2, i, r3, by rw [← e i r3]; exact r4, fun q hq => by rw [← e q (by omega)]; exact r5 q hq, r6⟩
  · exact Or.inr (Or.inl ⟨r1, fun q hq => by rw [← e q hq]; exact r2 q hq, i, j, r3, r4, (eb i j r3 r4).mp r5, fun j2 g1 i2 g2 z => r6 j2 g1 i2 g2 ((eb i2 j2 g2 (by omega)).mpr z), fun i2 g1 z => r7 i2 g1 ((eb i2 j (by omega) r4).mpr z), r8, r9⟩)
  · exact Or.inr (Or.inr (Or.inl ⟨r1, fun q hq => by rw [← e q hq]; exact r2 q hq, fun j g1 i g2 z => r3 j g1 i g2 ((eb i j g2 g1).mpr z), r4, r5, by rw [← ec]; exact r6, fun c g1 g2 => by rw [← ec]; exact r7 c g1 g2⟩))
  · exact Or.inr (Or.inr (Or.inr ⟨r1, fun q hq => by rw [← e q hq]; exact r2 q hq, fun j g1 i g2 z => r3 j g1 i g2 ((eb i j g2 g1).mpr z), fun c g1 => by rw [← ec]; exact r4 c g1, r5, r6⟩))
theorem zlen_congr {P : zP} {f g : Nat → Int} : ∀ m, (∀ i, i < m → f i = g i) → zlen P f m = zlen P g m
  | 0, _ => rfl
  | m + 1, h => by
    show max (zlen P f m) (f m + _) = max (zlen P g m) (g m + _)
    rw [zlen_congr m (fun i hi => h i (by omega)), h m (by omega)]
theorem zmxr_congr0 {P : zP} {f g : Nat → Int} (h : ∀ i, i < pn P → f i = g i) : zmxr f 0 (pn P) = zmxr g 0 (pn P) := zmxr_congr _ _ (fun j _ h2 => h j (by omega))
theorem zbst_congr {P : zP} {W W2 f : Nat → Int} {c : Int} : ∀ m, (∀ i, i < m → W i = W2 i) → zbst P W f c m = zbst P W2 f c m
  | 0, _ => rfl
  | m + 1, h => by
    have ih := zbst_congr (P := P) (f := f) (c := c) m (fun i hi => h i (by omega))
    have hb : zbst P W2 f c m = -3 ∨ W (zbst P W2 f c m).toNat = W2 (zbst P W2 f c m).toNat := by
      rcases zbst_I P W2 f c m with h1 | ⟨b, h1, h2, -⟩
      · exact Or.inl h1
      · rw [h1, Int.toNat_natCast]
        exact Or.inr (h b (by omega))
    show (if zfree P f m = true ∧ zpf P f m ≤ c ∧ (zbst P W f c m = -3 ∨ W (zbst P W f c m).toNat < W m) then (m : Int) else zbst P W f c m) = (if zfree P f m = true ∧ zpf P f m ≤ c ∧ (zbst P W2 f c m = -3 ∨ W2 (zbst P W2 f c m).toNat < W2 m) then (m : Int) else zbst P W2 f c m)
    rw [ih, h m (by omega)]
    rcases hb with hb | hb
    · rw [hb]
      simp
    · rw [hb]
theorem zls_congr {P : zP} {W W2 : Nat → Int} (h : ∀ i, i < pn P → W i = W2 i) : ∀ k, zls P W k = zls P W2 k
  | 0 => rfl
  | k + 1 => by
    show zlnext P W k (zls P W k) = zlnext P W2 k (zls P W2 k)
    rw [zls_congr h k]
    have hb : ∀ f c, zbst P W f c (pn P) = zbst P W2 f c (pn P) := fun f c => zbst_congr _ h
    unfold zlnext
    simp only [hb]
theorem zcm_congr {P : zP} {w w2 : Nat → Int} {t : Int} {s : zRS} : ∀ m, (∀ i, i < m → w i = w2 i) → zcm P w t s m = zcm P w2 t s m
  | 0, _ => rfl
  | m + 1, h => by
    show (if w m + _ = t then _ else _) = (if w2 m + _ = t then _ else _)
    rw [zcm_congr m (fun i hi => h i (by omega)), h m (by omega)]
theorem zbm_congr {P : zP} {w w2 : Nat → Int} {t : Int} {s : zRS} : ∀ m, (∀ i, i < m → w i = w2 i) → zbm P w t s m = zbm P w2 t s m
  | 0, _ => rfl
  | m + 1, h => by
    show (if w m = t then _ else _) = (if w2 m = t then _ else _)
    rw [zbm_congr m (fun i hi => h i (by omega)), h m (by omega)]
theorem zrn_congr {P : zP} {w w2 : Nat → Int} {s : zRS} (h : ∀ i, i < pn P → w i = w2 i) : ∀ t, zrn P w s t = zrn P w2 s t
  | 0 => rfl
  | t + 1 => by
    show zbm P w t (zcm P w t (zrn P w s t) (pn P)) (pn P) = zbm P w2 t (zcm P w2 t (zrn P w2 s t) (pn P)) (pn P)
    rw [zrn_congr h t, zcm_congr _ h, zbm_congr _ h]
/-- two states of registers and memory that agree where a program can look -/
def zag (s s2 : zRS) : Prop := (∀ k, k < 16 → s.1 k = s2.1 k) ∧ (∀ k, k < 64 → s.2.1 k = s2.2.1 k) ∧ s.2.2 = s2.2.2
theorem zag_beg {P : zP} (hw : zWf P) {s s2 : zRS} {i : Nat} (hi : i < pn P) (h : zag s s2) : zag (zbeg P s i) (zbeg P s2 i) := by
  obtain ⟨h1, h2, h3⟩ := h
  obtain ⟨-, -, ha, hb, -⟩ := hw.2.2.2.2 i hi
  have ea : zadr P s.1 i = zadr P s2.1 i := by
    unfold zadr
    rw [h1 _ ha]
  have hI := zadr_I P s2.1 i
  have er : zres P s.1 s.2.1 i = zres P s2.1 s2.2.1 i := by
    unfold zres
    rw [h1 _ ha, h1 _ hb, ea, h2 _ (by omega)]
  refine ⟨h1, h2, ?_⟩
  show (zfu s.2.2.1 i _, zfu s.2.2.2 i _) = (zfu s2.2.2.1 i _, zfu s2.2.2.2 i _)
  rw [ea, er, h3]
theorem zag_com {P : zP} {s s2 : zRS} {i : Nat} (h : zag s s2) : zag (zcom P s i) (zcom P s2 i) := by
  obtain ⟨h1, h2, h3⟩ := h
  unfold zcom
  split
  · refine ⟨h1, fun k hk => ?_, h3⟩
    show zfu s.2.1 (s.2.2.2 i).toNat (s.2.2.1 i) k = zfu s2.2.1 (s2.2.2.2 i).toNat (s2.2.2.1 i) k
    rw [h3]
    unfold zfu
    split
    · rfl
    · exact h2 k hk
  · refine ⟨fun k hk => ?_, h2, h3⟩
    show zfu s.1 (pT P i) (s.2.2.1 i) k = zfu s2.1 (pT P i) (s2.2.2.1 i) k
    rw [h3]
    unfold zfu
    split
    · rfl
    · exact h1 k hk
theorem zag_st {P : zP} (hw : zWf P) {s s2 : zRS} (h : zag s s2) : ∀ m, m ≤ pn P → zag (zst P s m) (zst P s2 m)
  | 0, _ => h
  | m + 1, hm => zag_com (zag_beg hw (by omega) (zag_st hw h m (by omega)))
theorem zag_cm {P : zP} {w : Nat → Int} {t : Int} {s s2 : zRS} (h : zag s s2) : ∀ m, zag (zcm P w t s m) (zcm P w t s2 m)
  | 0 => h
  | m + 1 => by
    show zag (if w m + _ = t then _ else _) (if w m + _ = t then _ else _)
    split
    · exact zag_com (zag_cm h m)
    · exact zag_cm h m
theorem zag_bm {P : zP} (hw : zWf P) {w : Nat → Int} {t : Int} {s s2 : zRS} (h : zag s s2) : ∀ m, m ≤ pn P → zag (zbm P w t s m) (zbm P w t s2 m)
  | 0, _ => h
  | m + 1, hm => by
    show zag (if w m = t then _ else _) (if w m = t then _ else _)
    split
    · exact zag_beg hw (by omega) (zag_bm hw h m (by omega))
    · exact zag_bm hw h m (by omega)
theorem zag_rn {P : zP} (hw : zWf P) {w : Nat → Int} {s s2 : zRS} (h : zag s s2) : ∀ t, zag (zrn P w s t) (zrn P w s2 t)
  | 0 => h
  | t + 1 => zag_bm hw (zag_cm (zag_rn hw h t) _) _ (Nat.le_refl _)
/-- block; one's own plan; what check told; what is given; registers and memory behind the latest run -/
abbrev zA : Type := zP × (Nat → Int) × (Int × Int) × ((Nat → Int) × (Nat → Int)) × ((Nat → Int) × (Nat → Int))
def zisR (x : Int) : Prop := 0 ≤ x ∧ x < 16
def zgood' (k d a b : Int) : Prop := (0 ≤ k ∧ k < 7) ∧ (k = 6 ∨ zisR d) ∧ (k = 0 ∨ zisR a) ∧ (k = 0 ∨ k = 5 ∨ zisR b)
def zfn (f : Nat → Nat) (i x : Nat) : Nat → Nat := fun j => if j = i then x else f j
def zadd (P : zP) (k d a b c : Int) : zP := (pn P + 1, pu P, zfn (pK P) (pn P) k.toNat, zfn (pT P) (pn P) (if k = 6 then 0 else d.toNat), zfn (pA P) (pn P) (if k = 0 then 0 else a.toNat), zfn (pB P) (pn P) (if k = 0 ∨ k = 5 then 0 else b.toNat), zfu (pC P) (pn P) c, pq P)
noncomputable def zs_add (A : zA) (k d a b c : Int) : Int × zA := @ite _ (zgood' k d a b) (Classical.propDecidable _) (if pn A.1 = 60 then (-2, A) else ((pn A.1 : Int), (zadd A.1 k d a b c, zfu A.2.1 (pn A.1) (-3), A.2.2))) (-1, A)
def zs_cut (A : zA) (m : Int) : Int × zA := if m < 0 ∨ (pn A.1 : Int) < m then (-1, A) else ((pn A.1 : Int) - m, ((((pn A.1 : Int) - m).toNat, A.1.2), A.2))
def zs_latency (A : zA) (k c : Int) : Int × zA := if k < 0 ∨ 6 < k ∨ c < 1 ∨ 12 < c then (-1, A) else ((pq A.1 k.toNat : Int), ((pn A.1, pu A.1, pK A.1, pT A.1, pA A.1, pB A.1, pC A.1, zfn (pq A.1) k.toNat c.toNat), A.2))
def zs_units (A : zA) (m : Int) : Int × zA := if m < 1 ∨ 8 < m then (-1, A) else ((pu A.1 : Int), ((pn A.1, m.toNat, A.1.2.2), A.2))
def zin' (P : zP) (i : Int) : Prop := 0 ≤ i ∧ i < pn P
noncomputable def zs_delay (A : zA) (i j : Int) : Int := @ite _ (zin' A.1 i ∧ zin' A.1 j) (Classical.propDecidable _) (if i.toNat < j.toNat then zdc A.1 i.toNat j.toNat else -3) (-1)
noncomputable def zs_about (A : zA) (i what : Int) : Int := @ite _ (zin' A.1 i) (Classical.propDecidable _) (
  if what = 0 then zway A.1 i.toNat else if what = 1 then zear A.1 i.toNat else if what = 2 then zmxr (zway A.1) 0 (pn A.1) - zway A.1 i.toNat - zear A.1 i.toNat else
  if what = 3 then (zls A.1 (zway A.1) (pn A.1)).1 i.toNat else if what = 4 then (zio A.1 (fun k => k) (pn A.1)).1 i.toNat else if what = 5 then (zio A.1 (zod A.1 (zway A.1)) (pn A.1)).1 i.toNat else if what = 6 then A.2.1 i.toNat else -1) (-1)
noncomputable def zs_listed (A : zA) (k : Int) : Int := @ite _ (zin' A.1 k) (Classical.propDecidable _) (zod A.1 (zway A.1) k.toNat : Int) (-1)
noncomputable def zshort (P : zP) : Int := zta P (zway P) 7 (fun _ => -3) 0 0 0 (zlen P (zls P (zway P) (pn P)).1 (pn P))
noncomputable def zs_length (A : zA) (what : Int) : Int :=
  if what = 0 then zmxr (zway A.1) 0 (pn A.1) else if what = 1 then zlen A.1 (zls A.1 (zway A.1) (pn A.1)).1 (pn A.1) else if what = 2 then zlen A.1 (zio A.1 (fun k => k) (pn A.1)).1 (pn A.1) else
  if what = 3 then zlen A.1 (zio A.1 (zod A.1 (zway A.1)) (pn A.1)).1 (pn A.1) else if what = 4 then (if 7 < pn A.1 then -3 else zshort A.1) else if what = 5 then (if (zver A.1 A.2.1).1 = 0 then zlen A.1 A.2.1 (pn A.1) else -3) else
  if what = 6 then (pn A.1 : Int) else if what = 7 then (zpairs A.1 (pn A.1) : Int) else -1
noncomputable def zs_place (A : zA) (i c : Int) : Int × zA := @ite _ (zin' A.1 i ∧ 0 ≤ c ∧ c ≤ 1000) (Classical.propDecidable _) (A.2.1 i.toNat, (A.1, zfu A.2.1 i.toNat c, A.2.2)) (-1, A)
noncomputable def zs_check (A : zA) : Int × zA := ((zver A.1 A.2.1).1, (A.1, A.2.1, ((zver A.1 A.2.1).2.1, (zver A.1 A.2.1).2.2), A.2.2.2))
def zs_wrong (A : zA) (p : Int) : Int := if p = 0 then A.2.2.1.1 else if p = 1 then A.2.2.1.2 else -1
def zs_given (A : zA) (w k x : Int) : Int × zA := if w = 0 ∧ 0 ≤ k ∧ k < 16 then (A.2.2.2.1.1 k.toNat, (A.1, A.2.1, A.2.2.1, (zfu A.2.2.2.1.1 k.toNat x, A.2.2.2.1.2), A.2.2.2.2)) else if w = 1 ∧ 0 ≤ k ∧ k < 64 then (A.2.2.2.1.2 k.toNat, (A.1, A.2.1, A.2.2.1, (A.2.2.2.1.1, zfu A.2.2.2.1.2 k.toNat x), A.2.2.2.2)) else (0, A)
def zgo0 (A : zA) : zRS := (A.2.2.2.1.1, A.2.2.2.1.2, fun _ => 0, fun _ => 0)
def zset (A : zA) (s : zRS) : zA := (A.1, A.2.1, A.2.2.1, A.2.2.2.1, (s.1, s.2.1))
noncomputable def zs_run (A : zA) (how : Int) : Int × zA :=
  if how = 0 then (zlen A.1 (zio A.1 (fun k => k) (pn A.1)).1 (pn A.1), zset A (zst A.1 (zgo0 A) (pn A.1))) else
  if how = 1 then (zlen A.1 (zls A.1 (zway A.1) (pn A.1)).1 (pn A.1), zset A (zrn A.1 (zls A.1 (zway A.1) (pn A.1)).1 (zgo0 A) 1013)) else
  if how = 2 then (if (zver A.1 A.2.1).1 = 0 then (zlen A.1 A.2.1 (pn A.1), zset A (zrn A.1 A.2.1 (zgo0 A) 1013)) else (-3, A)) else (-1, A)
def zs_value (A : zA) (w k : Int) : Int := if w = 0 ∧ 0 ≤ k ∧ k < 16 then A.2.2.2.2.1 k.toNat else if w = 1 ∧ 0 ≤ k ∧ k < 64 then A.2.2.2.2.2 k.toNat else 0
end
section
/-! THE CLASS: what stands between calls; refresh, shortest, add -/
def zCC (M : zM) (P : zP) : Prop := zDl M P (pn P) ∧ (∀ i, i < pn P → M 12 i = zear P i) ∧ zIsW P (M 11) 0 ∧ (∀ i, i < pn P → M 11 i = zway P i) ∧ M 9 3 = zmxr (zway P) 0 (pn P) ∧ M 9 2 = zpairs P (pn P) ∧ (∀ i, i < pn P → M 14 i = (zls P (zway P) (pn P)).1 i) ∧ (∀ k, k < pn P → M 15 k = zod P (zway P) k) ∧ (∀ i, i < pn P → M 19 i = (zio P (fun k => k) (pn P)).1 i) ∧ ∀ i, i < pn P → M 21 i = (zio P (zod P (zway P)) (pn P)).1 i
def zCI (M : zM) (P : zP) : Prop := zBk M P ∧ zWf P ∧ (∀ k, k < 60 → M 33 k = k) ∧ (∀ i, i < pn P → M 25 i = -3 ∨ (0 ≤ M 25 i ∧ M 25 i ≤ 1000)) ∧ (∀ i, pn P ≤ i → i < 60 → M 25 i = -3) ∧ (∀ i, i < 60 → -3 ≤ M 19 i ∧ M 19 i ≤ 1000) ∧ (∀ i, i < 60 → -3 ≤ M 21 i ∧ M 21 i ≤ 1000) ∧ (M 1 9 = 0 ∨ M 1 9 = 1) ∧ (M 1 10 = 0 ∨ M 1 10 = 1) ∧ (M 1 9 = 0 → zCC M P) ∧ (M 1 9 = 0 → M 1 10 = 1 → M 1 11 = zshort P)
def zCS (M : zM) (A : zA) : Prop := zCI M A.1 ∧ (∀ i, i < pn A.1 → M 25 i = A.2.1 i) ∧ M 1 12 = A.2.2.1.1 ∧ M 1 13 = A.2.2.1.2 ∧ (∀ k, k < 16 → M 27 k = A.2.2.2.1.1 k) ∧ (∀ k, k < 64 → M 28 k = A.2.2.2.1.2 k) ∧ (∀ k, k < 16 → M 29 k = A.2.2.2.2.1 k) ∧ ∀ k, k < 64 → M 30 k = A.2.2.2.2.2 k
/-- what is not the class's stays -/
def zFC (M M1 : zM) : Prop := M1 0 = M 0 ∧ ∀ a, 34 ≤ a → M1 a = M a
theorem zCS_kept {M M1 : zM} {A : zA} (h : zCS M A) (hI : zCI M1 A.1) (h25 : M1 25 = M 25) (h27 : M1 27 = M 27) (h28 : M1 28 = M 28) (h29 : M1 29 = M 29) (h30 : M1 30 = M 30) (ha : M1 1 12 = M 1 12) (hb : M1 1 13 = M 1 13) : zCS M1 A := by
  obtain ⟨-, g2, g3, g4, g5, g6, g7, g8⟩ := h
  exact ⟨hI, by rw [h25]; exact g2, by rw [ha]; exact g3, by rw [hb]; exact g4, by rw [h27]; exact g5, by rw [h28]; exact g6, by rw [h29]; exact g7, by rw [h30]; exact g8⟩
section ZX
variable {L : Nat} {M : zM} {P : zP} {A : zA}
theorem zcycI {P : zP} (hw : zWf P) (W : Nat → Int) : ∀ i, i < pn P → 0 ≤ (zls P W (pn P)).1 i ∧ (zls P W (pn P)).1 i ≤ 1000 := by
  intro i hi
  have h60 := hw.1
  obtain ⟨o1, o2, o3, o4, o5, o6⟩ := zls_ok hw W (pn P)
  rcases o5 i hi with h | h
  · exact absurd h ((zod_P hw W).2.2.2 i hi)
  · omega
theorem sp_refresh (hC : zCI M P) : zf (zSh L) 6 kX7_refresh [zvr 1] M (fun v M1 => v = none ∧ M1 1 9 = 0 ∧ zCI M1 P ∧ (∀ a, a = 0 ∨ (2 ≤ a ∧ a ≤ 8) ∨ 22 ≤ a → M1 a = M a) ∧ M1 1 12 = M 1 12 ∧ M1 1 13 = M 1 13) := by
  have hC0 := hC
  obtain ⟨hB, hw, c3, c4, c5, c6, c7, c8, c9, c10, c11⟩ := hC
  have h60 := hw.1
  refine zf_of rfl (Nat.le_of_ble_eq_true rfl) ?_
  repeat refine zr_s rfl rfl rfl ?_
  rcases c8 with h9 | h9
  · rw [h9]
    refine zr_zne rfl (by decide) (fun h => absurd rfl h) (fun _ => ?_)
    repeat refine zr_s rfl rfl rfl ?_
    exact zr_retv rfl (⟨rfl, h9, hC0, fun _ _ => rfl, rfl, rfl⟩)
  · rw [h9]
    refine zr_zne rfl (by decide) (fun _ => ?_) (fun h => by cases h)
    repeat refine zr_s rfl rfl rfl ?_
    refine zr_c rfl rfl rfl (zf_mono (Nat.le_of_ble_eq_true rfl) (sp_find hB hw)) (fun v M1 hv => ?_)
    obtain ⟨rfl, g1, g2, g3, g4, g5, g6⟩ := hv
    have hB1 : zBk M1 P := zBk_of hB (fun a h1 h2 => g1 a (by omega))
    have hWI : ∀ i, i < pn P → 1 ≤ M1 11 i ∧ M1 11 i ≤ 720 := fun i hi => by
      have := zIsW_I hw g4 (pn P - i) i (by omega) (by omega) hi
      omega
    have hway : ∀ i, i < pn P → M1 11 i = zway P i := fun i hi => zway_eq g4 hi
    repeat refine zr_s rfl rfl rfl ?_
    refine zr_c rfl rfl rfl (zf_mono (Nat.le_of_ble_eq_true rfl) (sp_makeL hB1 hw g2 (fun i hi => by have := hWI i hi; exact ⟨by omega, by omega⟩) (fun k hk => zls_go hw _ hk))) (fun v M2 hv => ?_)
    obtain ⟨rfl, q1, q2, q3⟩ := hv
    rw [zls_congr hway] at q2 q3
    have hB2 : zBk M2 P := zBk_of hB1 (fun a h1 h2 => q1 a (by omega))
    have hD2 : zDl M2 P (pn P) := fun x hx a ha => by rw [q1 10 (by omega)]; exact g2 x hx a ha
    obtain ⟨d1, d2, d3, d4⟩ := zod_P hw (zway P)
    have e33 : M2 33 = M 33 := by rw [q1 33 (by omega), g1 33 (by omega)]
    have e19 : M2 19 = M 19 := by rw [q1 19 (by omega), g1 19 (by omega)]
    have e21 : M2 21 = M 21 := by rw [q1 21 (by omega), g1 21 (by omega)]
    repeat refine zr_s rfl rfl rfl ?_
    refine zr_c rfl rfl rfl (zf_mono (Nat.le_of_ble_eq_true rfl) (sp_make_standing (ord := fun k => k) hB2 hw hD2 (fun k hk => ⟨by rw [e33]; exact c3 k (by omega), hk⟩) (zTop_id P) (by rw [e19]; exact c6))) (fun v M3 hv => ?_)
    obtain ⟨rfl, p1, p2, p3⟩ := hv
    have hB3 : zBk M3 P := zBk_of hB2 (fun a h1 h2 => p1 a (by omega))
    have hD3 : zDl M3 P (pn P) := fun x hx a ha => by rw [p1 10 (by omega)]; exact hD2 x hx a ha
    repeat refine zr_s rfl rfl rfl ?_
    refine zr_c rfl rfl rfl (zf_mono (Nat.le_of_ble_eq_true rfl) (sp_make_relisted (ord := zod P (zway P)) hB3 hw hD3 (fun k hk => ⟨by rw [p1 15 (by decide), q3 k hk]; exact (d1 k hk).1, (d1 k hk).2⟩) d3 (by rw [p1 21 (by decide), e21]; exact c7))) (fun v M4 hv => ?_)
    obtain ⟨rfl, r1, r2, r3⟩ := hv
    repeat refine zr_s rfl rfl rfl ?_
    -- the rows behind it all
    have row : ∀ a, a ≠ 1 → zup (zup M4 1 10 0) 1 9 0 a = M4 a := fun a ha => by rw [zup_row ha, zup_row ha]
    have old : ∀ a, a = 0 ∨ (2 ≤ a ∧ a ≤ 8) ∨ 22 ≤ a → M4 a = M a := fun a ha => by rw [r1 a (by omega), p1 a (by omega), q1 a (by omega), g1 a (by omega)]
    have e1 : M4 1 = M 1 := by rw [r1 1 (by decide), p1 1 (by decide), q1 1 (by omega), g1 1 (by omega)]
    have k19 : M4 19 = M3 19 := r1 19 (by decide)
    have k9 : M4 9 = M1 9 := by rw [r1 9 (by decide), p1 9 (by decide), q1 9 (by omega)]
    have k10 : M4 10 = M1 10 := by rw [r1 10 (by decide), p1 10 (by decide), q1 10 (by omega)]
    have k11 : M4 11 = M1 11 := by rw [r1 11 (by decide), p1 11 (by decide), q1 11 (by omega)]
    have k12 : M4 12 = M1 12 := by rw [r1 12 (by decide), p1 12 (by decide), q1 12 (by omega)]
    have k14 : M4 14 = M2 14 := by rw [r1 14 (by decide), p1 14 (by decide)]
    have k15 : M4 15 = M2 15 := by rw [r1 15 (by decide), p1 15 (by decide)]
    have hCC : zCC (zup (zup M4 1 10 0) 1 9 0) P := by
      unfold zCC
      have hDl : zDl (zup (zup M4 1 10 0) 1 9 0) P (pn P) := fun x hx a ha => by rw [row 10 (by decide), k10]; exact g2 x hx a ha
      rw [row 12 (by decide), row 11 (by decide), row 9 (by decide), row 14 (by decide), row 15 (by decide), row 19 (by decide), row 21 (by decide), k9, k11, k12, k14, k15, k19]
      refine ⟨hDl, fun i hi => zear_eq g3 hi, g4, hway, by rw [g5]; exact zmxr_congr0 hway, g6, q2, fun k hk => by rw [q3 k hk]; exact (d1 k hk).1, p2, fun i hi => ?_⟩
      obtain ⟨k, k1, k2⟩ := d2 i hi
      rw [← k2]
      exact r2 k k1
    refine zr_retv rfl ⟨rfl, zup_at, ?_, fun a ha => by rw [row a (by omega)]; exact old a ha, by rw [zup_off (by decide), zup_off (by decide), e1], by rw [zup_off (by decide), zup_off (by decide), e1]⟩
    refine ⟨zBk_of hB (fun a h1 h2 => by rw [row a (by omega)]; exact old a (by omega)), hw, by rw [row 33 (by decide), old 33 (by omega)]; exact c3, by rw [row 25 (by decide), old 25 (by omega)]; exact c4, by rw [row 25 (by decide), old 25 (by omega)]; exact c5, by rw [row 19 (by decide), k19]; exact p3, by rw [row 21 (by decide)]; exact r3, Or.inl zup_at, Or.inl (by rw [zup_off (by decide), zup_at]), fun _ => hCC, fun _ h => ?_⟩
    rw [zup_off (by decide), zup_at] at h
    cases h
theorem zlen_list_I {P : zP} (hw : zWf P) (W : Nat → Int) : 0 ≤ zlen P (zls P W (pn P)).1 (pn P) ∧ zlen P (zls P W (pn P)).1 (pn P) ≤ 1000000 := by
  have h60 := hw.1
  have h1 : ∀ m, m ≤ pn P → 0 ≤ zlen P (zls P W (pn P)).1 m ∧ zlen P (zls P W (pn P)).1 m ≤ 1012 := by
    intro m
    induction m with
    | zero => intro _; show (0 : Int) ≤ 0 ∧ (0 : Int) ≤ 1012; omega
    | succ m ih =>
      intro hm
      have h2 := ih (by omega)
      have h3 := zcycI hw W m (by omega)
      have h4 := zpl_le hw (i := m) (by omega)
      show 0 ≤ max _ _ ∧ max _ _ ≤ (1012 : Int)
      omega
  have := h1 (pn P) (Nat.le_refl _)
  omega
theorem zhm_congr {f W W2 : Nat → Int} {l : Int} : ∀ m, (∀ i, i < m → W i = W2 i) → zhm f W l m = zhm f W2 l m
  | 0, _ => rfl
  | m + 1, h => by
    show zhm f W l m + (if f m = -3 ∧ l ≤ W m then 1 else 0) = zhm f W2 l m + (if f m = -3 ∧ l ≤ W2 m then 1 else 0)
    rw [zhm_congr m (fun i hi => h i (by omega)), h m (by omega)]
theorem zta_congr {P : zP} {W W2 : Nat → Int} (h : ∀ i, i < pn P → W i = W2 i) : ∀ (d : Nat) (f : Nat → Int) (p : Nat) (c q b : Int), zta P W d f p c q b = zta P W2 d f p c q b
  | 0, _, _, _, _, _ => rfl
  | d + 1, f, p, c, q, b => by
    have hhb : ∀ i, i < pn P → zhb P f W c q i = zhb P f W2 c q i := by
      intro i hi
      unfold zhb
      rw [zhm_congr (W2 := W2) _ h, h i hi]
    have hhl : zhl P f W c q b (pn P) = zhl P f W2 c q b (pn P) := by
      unfold zhl
      rw [Bool.eq_iff_iff, List.any_eq_true, List.any_eq_true]
      constructor
      · rintro ⟨i, h1, h2⟩
        exact ⟨i, h1, by rw [← hhb i (List.mem_range.mp h1)]; exact h2⟩
      · rintro ⟨i, h1, h2⟩
        exact ⟨i, h1, by rw [hhb i (List.mem_range.mp h1)]; exact h2⟩
    have hg : ztg P W d f p c q = ztg P W2 d f p c q := by
      funext b i
      unfold ztg
      split
      · exact zta_congr h d _ _ _ _ _
      · rfl
    rw [zta_s, zta_s, hhl, hg]
theorem sp_shortest (hC : zCI M P) (h9 : M 1 9 = 0) : zf (zSh L) 13 kX7_shortest [zvr 1] M (fun v M1 => v = some (.inl (if 7 < pn P then -3 else zshort P)) ∧ zCI M1 P ∧ M1 1 9 = 0 ∧ (∀ a, a ≠ 1 → a ≠ 22 → a ≠ 23 → M1 a = M a) ∧ M1 1 12 = M 1 12 ∧ M1 1 13 = M 1 13) := by
  have hC0 := hC
  obtain ⟨hB, hw, c3, c4, c5, c6, c7, c8, c9, c10, c11⟩ := hC
  have h60 := hw.1
  have hn := hB.1
  have hCC := c10 h9
  obtain ⟨k1, k2, k3, k4, k5, k6, k7, k8, k9, k10⟩ := hCC
  refine zf_of rfl (Nat.le_of_ble_eq_true rfl) ?_
  repeat refine zr_s rfl rfl rfl ?_
  refine zr_ile rfl (by omega) (by decide) (fun h => ?_) (fun h => ?_)
  rotate_left
  · repeat refine zr_s rfl rfl rfl ?_
    exact zr_ret rfl (⟨by rw [if_pos (by omega)], hC0, h9, fun _ _ _ _ => rfl, rfl, rfl⟩)
  · rw [if_neg (by omega)]
    repeat refine zr_s rfl rfl rfl ?_
    rcases c9 with h10 | h10
    · rw [h10]
      refine zr_zne rfl (by decide) (fun h => absurd rfl h) (fun _ => ?_)
      repeat refine zr_s rfl rfl rfl ?_
      refine zr_cr rfl rfl rfl (zf_mono (Nat.le_of_ble_eq_true rfl) (sp_lengthOf hB hw rfl (fun i hi => by rw [k7 i hi]; have := zcycI hw (zway P) i hi; omega))) ?_
      have el : zlen P (M 14) (pn P) = zlen P (zls P (zway P) (pn P)).1 (pn P) := zlen_congr _ k7
      rw [el]
      have hWI : ∀ i, i < pn P → 0 ≤ M 11 i ∧ M 11 i ≤ 1000 := fun i hi => by
        have := zIsW_I hw k3 (pn P - i) i (by omega) (by omega) hi
        omega
      refine zr_c rfl rfl rfl (zf_mono (Nat.le_of_ble_eq_true rfl) (sp_leastLength hB hw (by omega) k1 hWI (zlen_list_I hw (zway P)))) (fun v M1 hv => ?_)
      obtain ⟨rfl, g1, g2⟩ := hv
      have ez : zta P (M 11) 7 (fun _ => -3) 0 0 0 (zlen P (zls P (zway P) (pn P)).1 (pn P)) = zshort P := zta_congr k4 7 _ _ _ _ _
      rw [ez]
      repeat refine zr_s rfl rfl rfl ?_
      have row : ∀ a, a ≠ 1 → a ≠ 22 → a ≠ 23 → zup (zup M1 1 11 (zshort P)) 1 10 1 a = M a := fun a h1 h2 h3 => by rw [zup_row h1, zup_row h1]; exact g1 a h2 h3
      have e1 : M1 1 = M 1 := g1 1 (by decide) (by decide)
      have v9 : zup (zup M1 1 11 (zshort P)) 1 10 1 1 9 = 0 := by rw [zup_off (by decide), zup_off (by decide), e1]; exact h9
      refine zr_ret rfl ⟨by rw [zup_off (by decide), zup_at], ?_, v9, row, by rw [zup_off (by decide), zup_off (by decide), e1], by rw [zup_off (by decide), zup_off (by decide), e1]⟩
      have hCC1 : zCC (zup (zup M1 1 11 (zshort P)) 1 10 1) P := by
        unfold zCC
        have hDl : zDl (zup (zup M1 1 11 (zshort P)) 1 10 1) P (pn P) := fun x hx a ha => by rw [row 10 (by decide) (by decide) (by decide)]; exact k1 x hx a ha
        rw [row 12 (by decide) (by decide) (by decide), row 11 (by decide) (by decide) (by decide), row 9 (by decide) (by decide) (by decide), row 14 (by decide) (by decide) (by decide), row 15 (by decide) (by decide) (by decide), row 19 (by decide) (by decide) (by decide), row 21 (by decide) (by decide) (by decide)]
        exact ⟨hDl, k2, k3, k4, k5, k6, k7, k8, k9, k10⟩
      refine ⟨zBk_of hB (fun a h1 h2 => row a (by omega) (by omega) (by omega)), hw, by rw [row 33 (by decide) (by decide) (by decide)]; exact c3, by rw [row 25 (by decide) (by decide) (by decide)]; exact c4, by rw [row 25 (by decide) (by decide) (by decide)]; exact c5, by rw [row 19 (by decide) (by decide) (by decide)]; exact c6, by rw [row 21 (by decide) (by decide) (by decide)]; exact c7, Or.inl v9, Or.inr zup_at, fun _ => hCC1, fun _ _ => by rw [zup_off (by decide), zup_at]⟩
    · rw [h10]
      refine zr_zne rfl (by decide) (fun _ => ?_) (fun h => by cases h)
      repeat refine zr_s rfl rfl rfl ?_
      exact zr_ret rfl (⟨by rw [c11 h9 h10], hC0, h9, fun _ _ _ _ => rfl, rfl, rfl⟩)
end ZX
end
section
/-! THE CLASS'S CALLS: add, cut, latency, units, place, wrong, given, value -/
section ZX
variable {L : Nat} {M : zM} {P : zP} {A : zA}
theorem sp_namesRegistersOnly {k d a b : Int} (hk : zI k) (hd : zI d) (ha : zI a) (hb : zI b) : zf (zSh L) 2 kX7_namesRegistersOnly [zvi k, zvi d, zvi a, zvi b] M (fun v M1 => v = some (.inl (zb (decide ((k = 6 ∨ (0 ≤ d ∧ d < 16)) ∧ (k = 0 ∨ (0 ≤ a ∧ a < 16)) ∧ (k = 0 ∨ k = 5 ∨ (0 ≤ b ∧ b < 16)))))) ∧ M1 = M) := by
  have no : ¬ ((k = 6 ∨ (0 ≤ d ∧ d < 16)) ∧ (k = 0 ∨ (0 ≤ a ∧ a < 16)) ∧ (k = 0 ∨ k = 5 ∨ (0 ≤ b ∧ b < 16))) → zr (zSh L) 1 tX7_namesRegistersOnly 46 [some (zvi k), some (zvi d), some (zvi a), some (zvi b)] [] M (fun v M1 => v = some (.inl (zb (decide ((k = 6 ∨ (0 ≤ d ∧ d < 16)) ∧ (k = 0 ∨ (0 ≤ a ∧ a < 16)) ∧ (k = 0 ∨ k = 5 ∨ (0 ≤ b ∧ b < 16)))))) ∧ M1 = M) := by
    intro h
    repeat refine zr_s rfl rfl rfl ?_
    exact zr_retz rfl (by omega) (⟨by rw [zb_f (by simpa using h)], rfl⟩)
  have yes : ((k = 6 ∨ (0 ≤ d ∧ d < 16)) ∧ (k = 0 ∨ (0 ≤ a ∧ a < 16)) ∧ (k = 0 ∨ k = 5 ∨ (0 ≤ b ∧ b < 16))) → zr (zSh L) 1 tX7_namesRegistersOnly 42 [some (zvi k), some (zvi d), some (zvi a), some (zvi b)] [] M (fun v M1 => v = some (.inl (zb (decide ((k = 6 ∨ (0 ≤ d ∧ d < 16)) ∧ (k = 0 ∨ (0 ≤ a ∧ a < 16)) ∧ (k = 0 ∨ k = 5 ∨ (0 ≤ b ∧ b < 16)))))) ∧ M1 = M) := by
    intro h
    repeat refine zr_s rfl rfl rfl ?_
    exact zr_retz rfl (by omega) (⟨by rw [zb_t (by simpa using h)], rfl⟩)
  have third : (k = 6 ∨ (0 ≤ d ∧ d < 16)) → (k = 0 ∨ (0 ≤ a ∧ a < 16)) → zr (zSh L) 1 tX7_namesRegistersOnly 28 [some (zvi k), some (zvi d), some (zvi a), some (zvi b)] [] M (fun v M1 => v = some (.inl (zb (decide ((k = 6 ∨ (0 ≤ d ∧ d < 16)) ∧ (k = 0 ∨ (0 ≤ a ∧ a < 16)) ∧ (k = 0 ∨ k = 5 ∨ (0 ≤ b ∧ b < 16)))))) ∧ M1 = M) := by
    intro h1 h2
    repeat refine zr_s rfl rfl rfl ?_
    refine zr_cr rfl rfl rfl (zf_mono (Nat.le_of_ble_eq_true rfl) (sp_namesSecond hk)) ?_
    by_cases h5 : k ≠ 0 ∧ k ≠ 5
    · rw [zb_t (by simpa using h5)]
      refine zr_zeq rfl (by decide) (fun h => by cases h) (fun _ => ?_)
      repeat refine zr_s rfl rfl rfl ?_
      refine zr_cr rfl rfl rfl (zf_mono (Nat.le_of_ble_eq_true rfl) (sp_isRegister hb)) ?_
      by_cases h6 : 0 ≤ b ∧ b < 16
      · rw [zb_t (by simpa using h6)]
        refine zr_zeq rfl (by decide) (fun h => by cases h) (fun _ => ?_)
        exact yes ⟨h1, h2, Or.inr (Or.inr h6)⟩
      · rw [zb_f (by simpa using h6)]
        refine zr_zeq rfl (by decide) (fun _ => ?_) (fun h => absurd rfl h)
        exact no (by omega)
    · rw [zb_f (by simp; omega)]
      refine zr_zeq rfl (by decide) (fun _ => ?_) (fun h => absurd rfl h)
      exact yes ⟨h1, h2, by omega⟩
  have second : (k = 6 ∨ (0 ≤ d ∧ d < 16)) → zr (zSh L) 1 tX7_namesRegistersOnly 14 [some (zvi k), some (zvi d), some (zvi a), some (zvi b)] [] M (fun v M1 => v = some (.inl (zb (decide ((k = 6 ∨ (0 ≤ d ∧ d < 16)) ∧ (k = 0 ∨ (0 ≤ a ∧ a < 16)) ∧ (k = 0 ∨ k = 5 ∨ (0 ≤ b ∧ b < 16)))))) ∧ M1 = M) := by
    intro h1
    repeat refine zr_s rfl rfl rfl ?_
    refine zr_cr rfl rfl rfl (zf_mono (Nat.le_of_ble_eq_true rfl) (sp_namesFirst hk)) ?_
    by_cases h5 : k ≠ 0
    · rw [zb_t (by simpa using h5)]
      refine zr_zeq rfl (by decide) (fun h => by cases h) (fun _ => ?_)
      repeat refine zr_s rfl rfl rfl ?_
      refine zr_cr rfl rfl rfl (zf_mono (Nat.le_of_ble_eq_true rfl) (sp_isRegister ha)) ?_
      by_cases h6 : 0 ≤ a ∧ a < 16
      · rw [zb_t (by simpa using h6)]
        refine zr_zeq rfl (by decide) (fun h => by cases h) (fun _ => ?_)
        exact third h1 (Or.inr h6)
      · rw [zb_f (by simpa using h6)]
        refine zr_zeq rfl (by decide) (fun _ => ?_) (fun h => absurd rfl h)
        exact no (by omega)
    · rw [zb_f (by simp; omega)]
      refine zr_zeq rfl (by decide) (fun _ => ?_) (fun h => absurd rfl h)
      exact third h1 (by omega)
  refine zf_of rfl (Nat.le_of_ble_eq_true rfl) ?_
  repeat refine zr_s rfl rfl rfl ?_
  refine zr_cr rfl rfl rfl (zf_mono (Nat.le_of_ble_eq_true rfl) (sp_namesTarget hk)) ?_
  by_cases h5 : k ≠ 6
  · rw [zb_t (by simpa using h5)]
    refine zr_zeq rfl (by decide) (fun h => by cases h) (fun _ => ?_)
    repeat refine zr_s rfl rfl rfl ?_
    refine zr_cr rfl rfl rfl (zf_mono (Nat.le_of_ble_eq_true rfl) (sp_isRegister hd)) ?_
    by_cases h6 : 0 ≤ d ∧ d < 16
    · rw [zb_t (by simpa using h6)]
      refine zr_zeq rfl (by decide) (fun h => by cases h) (fun _ => ?_)
      exact second (Or.inr h6)
    · rw [zb_f (by simpa using h6)]
      refine zr_zeq rfl (by decide) (fun _ => ?_) (fun h => absurd rfl h)
      exact no (by omega)
  · rw [zb_f (by simp; omega)]
    refine zr_zeq rfl (by decide) (fun _ => ?_) (fun h => absurd rfl h)
    exact second (by omega)
theorem sp_append {k d a b c : Int} {n : Nat} (hn : M 2 6 = n) (h60 : n < 60) (hk : zI k) : zf (zSh L) 2 kX0_append [zvr 2, zvi k, zvi d, zvi a, zvi b, zvi c] M (fun v M1 => v = some (.inl (n : Int)) ∧ M1 = zup (zup (zup (zup (zup (zup M 3 n k) 4 n (if k = 6 then 0 else d)) 5 n (if k = 0 then 0 else a)) 6 n (if k = 0 ∨ k = 5 then 0 else b)) 7 n c) 2 6 ((n : Int) + 1)) := by
  refine zf_of rfl (Nat.le_of_ble_eq_true rfl) ?_
  repeat refine zr_s rfl rfl rfl ?_
  rw [hn]
  refine zr_ast (n) rfl rfl rfl (by omega) (by decide) ?_
  have s3 : ∀ (N : zM) (x : Int), N 2 6 = n → x = (if k = 0 ∨ k = 5 then 0 else b) → N = zup (zup (zup M 3 n k) 4 n (if k = 6 then 0 else d)) 5 n (if k = 0 then 0 else a) → zr (zSh L) 1 tX0_append 71 [some (zvr 2), some (zvi k), some (zvi d), some (zvi a), some (zvi b), some (zvi c), some (zvi n)] [zvi x, zvi n, zvr 6] N (fun v M1 => v = some (.inl (n : Int)) ∧ M1 = zup (zup (zup (zup (zup (zup M 3 n k) 4 n (if k = 6 then 0 else d)) 5 n (if k = 0 then 0 else a)) 6 n (if k = 0 ∨ k = 5 then 0 else b)) 7 n c) 2 6 ((n : Int) + 1)) := by
    intro N x hN hx hE
    refine zr_ast (n) rfl rfl rfl (by omega) (by decide) ?_
    repeat refine zr_s rfl rfl rfl ?_
    refine zr_ast (n) rfl rfl rfl (by omega) (by decide) ?_
    repeat refine zr_s rfl rfl rfl ?_
    have e : zup (zup N 6 n x) 7 n c 2 6 = n := by rw [zup_row (by decide), zup_row (by decide)]; exact hN
    rw [e]
    exact zr_ret rfl (⟨rfl, by rw [hx, hE]⟩)
  have s2 : ∀ (N : zM) (x : Int), N 2 6 = n → x = (if k = 0 then 0 else a) → N = zup (zup M 3 n k) 4 n (if k = 6 then 0 else d) → zr (zSh L) 1 tX0_append 51 [some (zvr 2), some (zvi k), some (zvi d), some (zvi a), some (zvi b), some (zvi c), some (zvi n)] [zvi x, zvi n, zvr 5] N (fun v M1 => v = some (.inl (n : Int)) ∧ M1 = zup (zup (zup (zup (zup (zup M 3 n k) 4 n (if k = 6 then 0 else d)) 5 n (if k = 0 then 0 else a)) 6 n (if k = 0 ∨ k = 5 then 0 else b)) 7 n c) 2 6 ((n : Int) + 1)) := by
    intro N x hN hx hE
    refine zr_ast (n) rfl rfl rfl (by omega) (by decide) ?_
    repeat refine zr_s rfl rfl rfl ?_
    refine zr_cr rfl rfl rfl (zf_mono (Nat.le_of_ble_eq_true rfl) (sp_namesSecond hk)) ?_
    by_cases h5 : k ≠ 0 ∧ k ≠ 5
    · rw [zb_t (by simpa using h5)]
      refine zr_zeq rfl (by decide) (fun h => by cases h) (fun _ => ?_)
      repeat refine zr_t 71 rfl rfl rfl rfl ?_
      exact s3 _ b (by rw [zup_row (by decide)]; exact hN) (by rw [if_neg (by omega)]) (by rw [hx, hE])
    · rw [zb_f (by simp; omega)]
      refine zr_zeq rfl (by decide) (fun _ => ?_) (fun h => absurd rfl h)
      repeat refine zr_t 71 rfl rfl rfl rfl ?_
      exact s3 _ 0 (by rw [zup_row (by decide)]; exact hN) (by rw [if_pos (by omega)]) (by rw [hx, hE])
  have s1 : ∀ (x : Int), x = (if k = 6 then 0 else d) → zr (zSh L) 1 tX0_append 32 [some (zvr 2), some (zvi k), some (zvi d), some (zvi a), some (zvi b), some (zvi c), some (zvi n)] [zvi x, zvi n, zvr 4] (zup M 3 n k) (fun v M1 => v = some (.inl (n : Int)) ∧ M1 = zup (zup (zup (zup (zup (zup M 3 n k) 4 n (if k = 6 then 0 else d)) 5 n (if k = 0 then 0 else a)) 6 n (if k = 0 ∨ k = 5 then 0 else b)) 7 n c) 2 6 ((n : Int) + 1)) := by
    intro x hx
    refine zr_ast (n) rfl rfl rfl (by omega) (by decide) ?_
    repeat refine zr_s rfl rfl rfl ?_
    refine zr_cr rfl rfl rfl (zf_mono (Nat.le_of_ble_eq_true rfl) (sp_namesFirst hk)) ?_
    have hN : zup (zup M 3 n k) 4 n x 2 6 = n := by rw [zup_row (by decide), zup_row (by decide)]; exact hn
    by_cases h5 : k ≠ 0
    · rw [zb_t (by simpa using h5)]
      refine zr_zeq rfl (by decide) (fun h => by cases h) (fun _ => ?_)
      repeat refine zr_t 51 rfl rfl rfl rfl ?_
      exact s2 _ a hN (by rw [if_neg h5]) (by rw [hx])
    · rw [zb_f (by simp; omega)]
      refine zr_zeq rfl (by decide) (fun _ => ?_) (fun h => absurd rfl h)
      repeat refine zr_t 51 rfl rfl rfl rfl ?_
      exact s2 _ 0 hN (by rw [if_pos (by omega)]) (by rw [hx])
  repeat refine zr_s rfl rfl rfl ?_
  refine zr_cr rfl rfl rfl (zf_mono (Nat.le_of_ble_eq_true rfl) (sp_namesTarget hk)) ?_
  by_cases h5 : k ≠ 6
  · rw [zb_t (by simpa using h5)]
    refine zr_zeq rfl (by decide) (fun h => by cases h) (fun _ => ?_)
    repeat refine zr_t 32 rfl rfl rfl rfl ?_
    exact s1 d (by rw [if_neg h5])
  · rw [zb_f (by simp; omega)]
    refine zr_zeq rfl (by decide) (fun _ => ?_) (fun h => absurd rfl h)
    repeat refine zr_t 32 rfl rfl rfl rfl ?_
    exact s1 0 (by rw [if_pos (by omega)])
theorem zadd_wf {k d a b c : Int} (hw : zWf P) (hn : pn P < 60) (hg : zgood' k d a b) (hc : zI c) : zWf (zadd P k d a b c) := by
  obtain ⟨h1, h2, h3, h4, h5⟩ := hw
  obtain ⟨g1, g2, g3, g4⟩ := hg
  refine ⟨by show pn P + 1 ≤ 60; omega, h2, h3, h4, fun i hi => ?_⟩
  have hi : i < pn P + 1 := hi
  show zfn (pK P) (pn P) k.toNat i < 7 ∧ zfn (pT P) (pn P) (if k = 6 then 0 else d.toNat) i < 16 ∧ zfn (pA P) (pn P) (if k = 0 then 0 else a.toNat) i < 16 ∧ zfn (pB P) (pn P) (if k = 0 ∨ k = 5 then 0 else b.toNat) i < 16 ∧ zI (zfu (pC P) (pn P) c i)
  unfold zfn zfu
  unfold zisR at g2 g3 g4
  by_cases hin : i = pn P
  · rw [if_pos hin, if_pos hin, if_pos hin, if_pos hin, if_pos hin]
    refine ⟨by omega, ?_, ?_, ?_, hc⟩
    · split <;> omega
    · split <;> omega
    · split <;> omega
  · rw [if_neg hin, if_neg hin, if_neg hin, if_neg hin, if_neg hin]
    exact h5 i (by omega)
/-- another block: what must be so for the class's state to stand, with 'stale' set -/
theorem zCI_stale {M1 : zM} {P1 : zP} (hC : zCI M P) (hB : zBk M1 P1) (hw : zWf P1) (h33 : M1 33 = M 33) (h25 : ∀ i, i < pn P1 → M1 25 i = -3 ∨ (0 ≤ M1 25 i ∧ M1 25 i ≤ 1000)) (h25b : ∀ i, pn P1 ≤ i → i < 60 → M1 25 i = -3) (h19 : M1 19 = M 19) (h21 : M1 21 = M 21) (h9 : M1 1 9 = 1) (h10 : M1 1 10 = M 1 10) : zCI M1 P1 := by
  obtain ⟨-, -, c3, c4, c5, c6, c7, c8, c9, c10, c11⟩ := hC
  exact ⟨hB, hw, by rw [h33]; exact c3, h25, h25b, by rw [h19]; exact c6, by rw [h21]; exact c7, Or.inr h9, by rw [h10]; exact c9, fun h => by omega, fun h => by omega⟩
theorem sp_C_add {k d a b c : Int} (hA : zCS M A) (hk : zI k) (hd : zI d) (ha : zI a) (hb : zI b) (hc : zI c) : zf (zSh L) 3 kX7_add [zvr 1, zvi k, zvi d, zvi a, zvi b, zvi c] M (fun v M1 => v = some (.inl (zs_add A k d a b c).1) ∧ zCS M1 (zs_add A k d a b c).2 ∧ zFC M M1) := by
  have hA0 := hA
  obtain ⟨hC, g2, g3, g4, g5, g6, g7, g8⟩ := hA
  have hC0 := hC
  obtain ⟨hB, hw, c3, c4, c5, c6, c7, c8, c9, c10, c11⟩ := hC
  have h60 := hw.1
  have hn := hB.1
  have bad : ¬ zgood' k d a b → zs_add A k d a b c = (-1, A) := fun h => by unfold zs_add; rw [if_neg h]
  refine zf_of rfl (Nat.le_of_ble_eq_true rfl) ?_
  repeat refine zr_s rfl rfl rfl ?_
  refine zr_cr rfl rfl rfl (zf_mono (Nat.le_of_ble_eq_true rfl) (sp_isKind hk)) ?_
  by_cases h1 : 0 ≤ k ∧ k < 7
  rotate_left
  · rw [zb_f (by simpa using h1)]
    refine zr_zeq rfl (by decide) (fun _ => ?_) (fun h => absurd rfl h)
    repeat refine zr_s rfl rfl rfl ?_
    refine zr_ret rfl ?_
    rw [bad (fun z => h1 z.1)]
    exact ⟨rfl, hA0, rfl, fun _ _ => rfl⟩
  rw [zb_t (by simpa using h1)]
  refine zr_zeq rfl (by decide) (fun h => by cases h) (fun _ => ?_)
  repeat refine zr_s rfl rfl rfl ?_
  refine zr_cr rfl rfl rfl (zf_mono (Nat.le_of_ble_eq_true rfl) (sp_namesRegistersOnly hk hd ha hb)) ?_
  by_cases h2 : (k = 6 ∨ (0 ≤ d ∧ d < 16)) ∧ (k = 0 ∨ (0 ≤ a ∧ a < 16)) ∧ (k = 0 ∨ k = 5 ∨ (0 ≤ b ∧ b < 16))
  rotate_left
  · rw [zb_f (by simpa using h2)]
    refine zr_zne rfl (by decide) (fun h => absurd rfl h) (fun _ => ?_)
    repeat refine zr_s rfl rfl rfl ?_
    refine zr_ret rfl ?_
    rw [bad (fun z => h2 z.2)]
    exact ⟨rfl, hA0, rfl, fun _ _ => rfl⟩
  rw [zb_t (by simpa using h2)]
  refine zr_zne rfl (by decide) (fun _ => ?_) (fun h => by cases h)
  have hg : zgood' k d a b := ⟨h1, h2⟩
  have good : zs_add A k d a b c = if pn A.1 = 60 then (-2, A) else ((pn A.1 : Int), (zadd A.1 k d a b c, zfu A.2.1 (pn A.1) (-3), A.2.2)) := by unfold zs_add; rw [if_pos hg]
  rw [good]
  repeat refine zr_s rfl rfl rfl ?_
  refine zr_ilt rfl (by omega) (by decide) (fun h3 => ?_) (fun h3 => ?_)
  rotate_left
  · repeat refine zr_s rfl rfl rfl ?_
    refine zr_ret rfl ?_
    rw [if_pos (by omega)]
    exact ⟨rfl, hA0, rfl, fun _ _ => rfl⟩
  rw [if_neg (by omega)]
  repeat refine zr_s rfl rfl rfl ?_
  refine zr_c rfl rfl rfl (zf_mono (Nat.le_of_ble_eq_true rfl) (sp_append (M := zup M 1 9 1) (n := pn A.1) (by rw [zup_row (by decide)]; exact hn) (by omega) hk)) (fun v M1 hv => ?_)
  obtain ⟨rfl, rfl⟩ := hv
  generalize hN : zup (zup (zup (zup (zup (zup (zup M 1 9 1) 3 (pn A.1) k) 4 (pn A.1) (if k = 6 then 0 else d)) 5 (pn A.1) (if k = 0 then 0 else a)) 6 (pn A.1) (if k = 0 ∨ k = 5 then 0 else b)) 7 (pn A.1) c) 2 6 ((pn A.1 : Int) + 1) = N
  have row : ∀ q, q ≠ 1 → (q < 2 ∨ 7 < q) → N q = M q := by
    intro q h5 h6
    rw [← hN, zup_row (by omega), zup_row (by omega), zup_row (by omega), zup_row (by omega), zup_row (by omega), zup_row (by omega), zup_row (by omega)]
  have r1 : N 1 = zup M 1 9 1 1 := by
    rw [← hN, zup_row (by omega), zup_row (by omega), zup_row (by omega), zup_row (by omega), zup_row (by omega), zup_row (by omega)]
  have hBN : zBk N (zadd A.1 k d a b c) := by
    obtain ⟨-, b2, b3, b4⟩ := hB
    refine ⟨?_, ?_, fun q hq => ?_, fun i hi => ?_⟩
    · show N 2 6 = ((pn A.1 + 1 : Nat) : Int)
      rw [← hN, zup_at]
      push_cast
      rfl
    · show N 2 7 = (pu A.1 : Int)
      rw [← hN, zup_off (by decide), zup_row (by omega), zup_row (by omega), zup_row (by omega), zup_row (by omega), zup_row (by omega), zup_row (by omega)]
      exact b2
    · rw [row 8 (by omega) (by omega)]
      exact b3 q hq
    · have hi : i < pn A.1 + 1 := hi
      have x3 : N 3 i = if i = pn A.1 then k else M 3 i := by
        rw [← hN, zup_row (by omega), zup_row (by omega), zup_row (by omega), zup_row (by omega), zup_row (by omega)]
        split
        · rename_i h; rw [h, zup_at]
        · rename_i h; rw [zup_off h, zup_row (by omega)]
      have x4 : N 4 i = if i = pn A.1 then (if k = 6 then 0 else d) else M 4 i := by
        rw [← hN, zup_row (by omega), zup_row (by omega), zup_row (by omega), zup_row (by omega)]
        by_cases h : i = pn A.1
        · rw [if_pos h, h, zup_at]
        · rw [if_neg h, zup_off h, zup_row (by omega), zup_row (by omega)]
      have x5 : N 5 i = if i = pn A.1 then (if k = 0 then 0 else a) else M 5 i := by
        rw [← hN, zup_row (by omega), zup_row (by omega), zup_row (by omega)]
        by_cases h : i = pn A.1
        · rw [if_pos h, h, zup_at]
        · rw [if_neg h, zup_off h, zup_row (by omega), zup_row (by omega), zup_row (by omega)]
      have x6 : N 6 i = if i = pn A.1 then (if k = 0 ∨ k = 5 then 0 else b) else M 6 i := by
        rw [← hN, zup_row (by omega), zup_row (by omega)]
        by_cases h : i = pn A.1
        · rw [if_pos h, h, zup_at]
        · rw [if_neg h, zup_off h, zup_row (by omega), zup_row (by omega), zup_row (by omega), zup_row (by omega)]
      have x7 : N 7 i = if i = pn A.1 then c else M 7 i := by
        rw [← hN, zup_row (by omega)]
        by_cases h : i = pn A.1
        · rw [if_pos h, h, zup_at]
        · rw [if_neg h, zup_off h, zup_row (by omega), zup_row (by omega), zup_row (by omega), zup_row (by omega), zup_row (by omega)]
      show N 3 i = ((zfn (pK A.1) (pn A.1) k.toNat i : Nat) : Int) ∧ N 4 i = ((zfn (pT A.1) (pn A.1) (if k = 6 then 0 else d.toNat) i : Nat) : Int) ∧ N 5 i = ((zfn (pA A.1) (pn A.1) (if k = 0 then 0 else a.toNat) i : Nat) : Int) ∧ N 6 i = ((zfn (pB A.1) (pn A.1) (if k = 0 ∨ k = 5 then 0 else b.toNat) i : Nat) : Int) ∧ N 7 i = zfu (pC A.1) (pn A.1) c i
      rw [x3, x4, x5, x6, x7]
      unfold zfn zfu
      by_cases h : i = pn A.1
      · rw [if_pos h, if_pos h, if_pos h, if_pos h, if_pos h, if_pos h, if_pos h, if_pos h, if_pos h, if_pos h]
        refine ⟨by omega, ?_, ?_, ?_, rfl⟩
        · split <;> omega
        · split <;> omega
        · split <;> omega
      · rw [if_neg h, if_neg h, if_neg h, if_neg h, if_neg h, if_neg h, if_neg h, if_neg h, if_neg h, if_neg h]
        exact b4 i (by omega)
  refine zr_ret rfl ⟨rfl, ?_, row 0 (by decide) (by omega), fun q hq => row q (by omega) (by omega)⟩
  have e25 : N 25 = M 25 := row 25 (by omega) (by omega)
  have hCN : zCI N (zadd A.1 k d a b c) := by
    refine zCI_stale hC0 hBN (zadd_wf hw (by omega) hg hc) (row 33 (by omega) (by omega)) (fun i hi => ?_) (fun i h5 h6 => ?_) (row 19 (by omega) (by omega)) (row 21 (by omega) (by omega)) (by rw [r1, zup_at]) (by rw [r1, zup_off (by decide)])
    · have hi : i < pn A.1 + 1 := hi
      rw [e25]
      by_cases h : i = pn A.1
      · exact Or.inl (c5 i (by omega) (by omega))
      · exact c4 i (by omega)
    · have h5 : pn A.1 + 1 ≤ i := h5
      rw [e25]
      exact c5 i (by omega) h6
  refine ⟨hCN, fun i hi => ?_, by rw [r1, zup_off (by decide)]; exact g3, by rw [r1, zup_off (by decide)]; exact g4, by rw [row 27 (by omega) (by omega)]; exact g5, by rw [row 28 (by omega) (by omega)]; exact g6, by rw [row 29 (by omega) (by omega)]; exact g7, by rw [row 30 (by omega) (by omega)]; exact g8⟩
  have hi : i < pn A.1 + 1 := hi
  show N 25 i = zfu A.2.1 (pn A.1) (-3) i
  rw [e25]
  by_cases h : i = pn A.1
  · rw [h, zfu_at]
    exact c5 _ (Nat.le_refl _) (by omega)
  · rw [zfu_off h]
    exact g2 i (by omega)
end ZX
end
section
/-! THE CLASS'S OTHER CALLS -/
section ZX
variable {S : List zC} {d : Nat} {cd : List (Option zR)} {pc : Nat} {ls : List (Option zV)} {st : List zV} {M : zM} {Q : Option zV → zM → Prop}
theorem zr_look {x : Int} {dflt : Int} {ps : Array (Int × Int)} {ra rb rt : Nat} (off : Int) (hc : cd[pc]? = some (some (.lookupswitch dflt ps, ra, rb, rt))) (hx : zI x) (ho : Op.lookupswitch.offset ps.toList dflt x = off) (k : zr S d cd (ztgt pc off) ls st M Q) : zr S d cd pc ls (.inl x :: st) M Q := by
  have hwx := zwid hx.1 hx.2
  refine zWp_step hc rfl (s2 := (ztgt pc off, ls, st, S, M)) ?_ k
  show some (ztgt pc (Op.lookupswitch.offset ps.toList dflt (zw x)), ls, st, S, M) = _
  rw [hwx, ho]
end ZX
section ZX
variable {L : Nat} {M M1 : zM} {P : zP} {A : zA}
theorem zCI_eq (e : ∀ q, (1 ≤ q ∧ q ≤ 21) ∨ q = 25 ∨ q = 33 → M1 q = M q) (h : zCI M P) : zCI M1 P := by
  have e1 := e 1 (by omega); have e2 := e 2 (by omega); have e3 := e 3 (by omega); have e4 := e 4 (by omega); have e5 := e 5 (by omega); have e6 := e 6 (by omega); have e7 := e 7 (by omega); have e8 := e 8 (by omega)
  have e9 := e 9 (by omega); have e10 := e 10 (by omega); have e11 := e 11 (by omega); have e12 := e 12 (by omega); have e14 := e 14 (by omega); have e15 := e 15 (by omega); have e19 := e 19 (by omega); have e21 := e 21 (by omega)
  have e25 := e 25 (by omega); have e33 := e 33 (by omega)
  unfold zCI zCC zBk zDl at h ⊢
  rw [e1, e2, e3, e4, e5, e6, e7, e8, e9, e10, e11, e12, e14, e15, e19, e21, e25, e33]
  exact h
theorem zCS_eq (e : ∀ q, (1 ≤ q ∧ q ≤ 21) ∨ q = 25 ∨ (27 ≤ q ∧ q ≤ 30) ∨ q = 33 → M1 q = M q) (h : zCS M A) : zCS M1 A := by
  obtain ⟨h1, g2, g3, g4, g5, g6, g7, g8⟩ := h
  have e1 := e 1 (by omega); have e25 := e 25 (by omega); have e27 := e 27 (by omega); have e28 := e 28 (by omega); have e29 := e 29 (by omega); have e30 := e 30 (by omega)
  exact ⟨zCI_eq (fun q hq => e q (by omega)) h1, by rw [e25]; exact g2, by rw [e1]; exact g3, by rw [e1]; exact g4, by rw [e27]; exact g5, by rw [e28]; exact g6, by rw [e29]; exact g7, by rw [e30]; exact g8⟩
theorem sp_refreshS (hA : zCS M A) : zf (zSh L) 6 kX7_refresh [zvr 1] M (fun v M1 => v = none ∧ M1 1 9 = 0 ∧ zCS M1 A ∧ zFC M M1 ∧ M1 25 = M 25) := by
  refine zf_post (sp_refresh hA.1) (fun r M1 h => ?_)
  obtain ⟨h1, h2, h3, h4, h5, h6⟩ := h
  exact ⟨h1, h2, zCS_kept hA h3 (h4 25 (by omega)) (h4 27 (by omega)) (h4 28 (by omega)) (h4 29 (by omega)) (h4 30 (by omega)) h5 h6, ⟨h4 0 (by omega), fun a ha => h4 a (by omega)⟩, h4 25 (by omega)⟩
theorem sp_inspectS (hA : zCS M A) (h9 : M 1 9 = 0) : zf (zSh L) 4 kX5_inspect [zvr 24] M (fun v M1 => v = some (.inl (zver A.1 A.2.1).1) ∧ zCS M1 A ∧ zFC M M1 ∧ M1 1 9 = 0 ∧ M1 24 1 = (zver A.1 A.2.1).2.1 ∧ M1 24 2 = (zver A.1 A.2.1).2.2 ∧ zI (zver A.1 A.2.1).1 ∧ ((zver A.1 A.2.1).1 = 0 → ∀ i, i < pn A.1 → M1 25 i ≠ -3)) := by
  have hC := hA.1
  refine zf_post (sp_inspect hC.1 hC.2.1 ((hC.2.2.2.2.2.2.2.2.2.1) h9).1 hC.2.2.2.1) (fun r M1 h => ?_)
  obtain ⟨r, a, b, h1, h2, h3, h4, h5⟩ := h
  have hv := zver_eq (zVd_congr (fun i hi => hA.2.1 i hi) h2)
  rw [hv]
  exact ⟨h1, zCS_eq (fun q hq => h3 q (by omega)) hA, ⟨h3 0 (by decide), fun q hq => h3 q (by omega)⟩, by rw [h3 1 (by decide)]; exact h9, h4, h5, by rcases h2 with ⟨r1, -⟩ | ⟨r1, -⟩ | ⟨r1, -⟩ | ⟨r1, -⟩ <;> (rw [r1]; dsimp only; decide), fun h => by
    have h : r = 0 := h
    rw [h3 25 (by decide)]
    rcases h2 with ⟨r1, -⟩ | ⟨r1, r2, -⟩ | ⟨r1, r2, -⟩ | ⟨r1, r2, -⟩
    · omega
    · exact r2
    · exact r2
    · exact r2⟩
theorem zFC_tr {M2 : zM} (h : zFC M M1) (h2 : zFC M1 M2) : zFC M M2 := ⟨by rw [h2.1, h.1], fun a ha => by rw [h2.2 a ha, h.2 a ha]⟩
theorem zFC_rf : zFC M M := ⟨rfl, fun _ _ => rfl⟩
theorem sp_C_cut {m : Int} (hA : zCS M A) (hm : zI m) : zf (zSh L) 2 kX7_cut [zvr 1, zvi m] M (fun v M1 => v = some (.inl (zs_cut A m).1) ∧ zCS M1 (zs_cut A m).2 ∧ zFC M M1) := by
  have hA0 := hA
  obtain ⟨hC, g2, g3, g4, g5, g6, g7, g8⟩ := hA
  have hC0 := hC
  obtain ⟨hB, hw, c3, c4, c5, c6, c7, c8, c9, c10, c11⟩ := hC
  have h60 := hw.1
  have hn := hB.1
  have bad : (m < 0 ∨ (pn A.1 : Int) < m) → zr (zSh L) 1 tX7_cut 15 [some (zvr 1), some (zvi m)] [] M (fun v M1 => v = some (.inl (zs_cut A m).1) ∧ zCS M1 (zs_cut A m).2 ∧ zFC M M1) := fun h => by
    repeat refine zr_s rfl rfl rfl ?_
    refine zr_ret rfl ?_
    unfold zs_cut
    rw [if_pos h]
    exact ⟨rfl, hA0, zFC_rf⟩
  refine zf_of rfl (Nat.le_of_ble_eq_true rfl) ?_
  repeat refine zr_s rfl rfl rfl ?_
  refine zr_zlt rfl hm (fun h => bad (Or.inl h)) (fun h => ?_)
  repeat refine zr_s rfl rfl rfl ?_
  refine zr_ile rfl hm (by omega) (fun h2 => ?_) (fun h2 => ?_)
  rotate_left
  · exact bad (Or.inr (by omega))
  unfold zs_cut
  rw [if_neg (by omega)]
  repeat refine zr_s rfl rfl rfl ?_
  have e26 : zup M 1 9 1 2 6 = pn A.1 := by rw [zup_row (by decide)]; exact hn
  rw [e26, zup_at]
  obtain ⟨q, hq⟩ : ∃ q : Nat, (pn A.1 : Int) - m = q := Int.eq_ofNat_of_zero_le (by omega)
  rw [hq]
  refine zr_c rfl rfl rfl (zf_mono (Nat.le_of_ble_eq_true rfl) (sp_forgetFrom (m := q) (by omega))) (fun v M1 hv => ?_)
  obtain ⟨rfl, r1, r2, r3⟩ := hv
  repeat refine zr_s rfl rfl rfl ?_
  have row : ∀ a, a ≠ 1 → a ≠ 2 → a ≠ 25 → M1 a = M a := fun a h1 h2 h3 => by rw [r1 a h3, zup_row h2, zup_row h1]
  have e2 : M1 2 6 = q := by rw [r1 2 (by decide), zup_at]
  have e27 : M1 2 7 = M 2 7 := by rw [r1 2 (by decide), zup_off (by decide), zup_row (by decide)]
  have e1 : ∀ b, b ≠ 9 → M1 1 b = M 1 b := fun b hb => by rw [r1 1 (by decide), zup_row (by decide), zup_off hb]
  have e19 : M1 1 9 = 1 := by rw [r1 1 (by decide), zup_row (by decide), zup_at]
  have x25 : ∀ i, i < q → M1 25 i = M 25 i := fun i hi => by rw [r2 i hi, zup_row (by decide), zup_row (by decide)]
  rw [e2]
  refine zr_ret rfl ⟨rfl, ?_, row 0 (by decide) (by decide) (by decide), fun a ha => row a (by omega) (by omega) (by omega)⟩
  rw [Int.toNat_natCast]
  have hqn : q ≤ pn A.1 := by omega
  have hwq : zWf (q, A.1.2) := ⟨show q ≤ 60 by omega, hw.2.1, hw.2.2.1, hw.2.2.2.1, fun i hi => hw.2.2.2.2 i (Nat.lt_of_lt_of_le (show i < q from hi) hqn)⟩
  have hBq : zBk M1 (q, A.1.2) := by
    obtain ⟨-, b2, b3, b4⟩ := hB
    refine ⟨e2, by rw [e27]; exact b2, by rw [row 8 (by decide) (by decide) (by decide)]; exact b3, fun i hi => ?_⟩
    rw [row 3 (by decide) (by decide) (by decide), row 4 (by decide) (by decide) (by decide), row 5 (by decide) (by decide) (by decide), row 6 (by decide) (by decide) (by decide), row 7 (by decide) (by decide) (by decide)]
    exact b4 i (Nat.lt_of_lt_of_le (show i < q from hi) hqn)
  refine ⟨?_, fun i hi => ?_, by rw [e1 12 (by decide)]; exact g3, by rw [e1 13 (by decide)]; exact g4, by rw [row 27 (by decide) (by decide) (by decide)]; exact g5, by rw [row 28 (by decide) (by decide) (by decide)]; exact g6, by rw [row 29 (by decide) (by decide) (by decide)]; exact g7, by rw [row 30 (by decide) (by decide) (by decide)]; exact g8⟩
  · refine zCI_stale hC0 hBq hwq (row 33 (by decide) (by decide) (by decide)) (fun i hi => ?_) (fun i h1 h2 => r3 i h1 h2) (row 19 (by decide) (by decide) (by decide)) (row 21 (by decide) (by decide) (by decide)) e19 (e1 10 (by decide))
    have hi : i < q := hi
    rw [x25 i hi]
    exact c4 i (by omega)
  · have hi : i < q := hi
    rw [x25 i hi]
    exact g2 i (by omega)
theorem sp_C_latency {k c : Int} (hA : zCS M A) (hk : zI k) (hc : zI c) : zf (zSh L) 2 kX7_latency [zvr 1, zvi k, zvi c] M (fun v M1 => v = some (.inl (zs_latency A k c).1) ∧ zCS M1 (zs_latency A k c).2 ∧ zFC M M1) := by
  have hA0 := hA
  obtain ⟨hC, g2, g3, g4, g5, g6, g7, g8⟩ := hA
  have hC0 := hC
  obtain ⟨hB, hw, c3, c4, c5, c6, c7, c8, c9, c10, c11⟩ := hC
  have bad : (k < 0 ∨ 6 < k ∨ c < 1 ∨ 12 < c) → zr (zSh L) 1 tX7_latency 18 [some (zvr 1), some (zvi k), some (zvi c), none] [] M (fun v M1 => v = some (.inl (zs_latency A k c).1) ∧ zCS M1 (zs_latency A k c).2 ∧ zFC M M1) := fun h => by
    repeat refine zr_s rfl rfl rfl ?_
    refine zr_ret rfl ?_
    unfold zs_latency
    rw [if_pos h]
    exact ⟨rfl, hA0, zFC_rf⟩
  refine zf_of rfl (Nat.le_of_ble_eq_true rfl) ?_
  repeat refine zr_s rfl rfl rfl ?_
  refine zr_cr rfl rfl rfl (zf_mono (Nat.le_of_ble_eq_true rfl) (sp_isKind hk)) ?_
  by_cases h1 : 0 ≤ k ∧ k < 7
  rotate_left
  · rw [zb_f (by simpa using h1)]
    exact zr_zeq rfl (by decide) (fun _ => bad (by omega)) (fun h => absurd rfl h)
  rw [zb_t (by simpa using h1)]
  refine zr_zeq rfl (by decide) (fun h => by cases h) (fun _ => ?_)
  repeat refine zr_s rfl rfl rfl ?_
  refine zr_ilt rfl hc (by decide) (fun h => bad (by omega)) (fun h2 => ?_)
  repeat refine zr_s rfl rfl rfl ?_
  refine zr_ile rfl hc (by decide) (fun h3 => ?_) (fun h => bad (by omega))
  unfold zs_latency
  rw [if_neg (by omega)]
  obtain ⟨q, hq⟩ : ∃ q : Nat, k = q := Int.eq_ofNat_of_zero_le (by omega)
  subst hq
  rw [Int.toNat_natCast]
  repeat refine zr_s rfl rfl rfl ?_
  refine zr_ald (q) rfl rfl rfl (by omega) (by decide) ?_
  repeat refine zr_s rfl rfl rfl ?_
  refine zr_ast (q) rfl rfl rfl (by omega) (by decide) ?_
  repeat refine zr_s rfl rfl rfl ?_
  rw [zup_row (by decide)]
  have row : ∀ a, a ≠ 1 → a ≠ 8 → zup (zup M 1 9 1) 8 q c a = M a := fun a h1 h2 => by rw [zup_row h2, zup_row h1]
  have e1 : ∀ b, b ≠ 9 → zup (zup M 1 9 1) 8 q c 1 b = M 1 b := fun b hb => by rw [zup_row (by decide), zup_off hb]
  have e19 : zup (zup M 1 9 1) 8 q c 1 9 = 1 := by rw [zup_row (by decide), zup_at]
  have e8 : ∀ x, zup (zup M 1 9 1) 8 q c 8 x = if x = q then c else M 8 x := fun x => by
    by_cases h : x = q
    · rw [if_pos h, h, zup_at]
    · rw [if_neg h, zup_off h, zup_row (by decide)]
  refine zr_ret rfl ⟨by rw [hB.2.2.1 q (by omega)], ?_, row 0 (by decide) (by decide), fun a ha => row a (by omega) (by omega)⟩
  have hwq : zWf (pn A.1, pu A.1, pK A.1, pT A.1, pA A.1, pB A.1, pC A.1, zfn (pq A.1) q c.toNat) := by
    refine ⟨hw.1, hw.2.1, hw.2.2.1, fun x hx => ?_, hw.2.2.2.2⟩
    show 1 ≤ zfn (pq A.1) q c.toNat x ∧ zfn (pq A.1) q c.toNat x ≤ 12
    unfold zfn
    split
    · omega
    · exact hw.2.2.2.1 x hx
  refine ⟨?_, by rw [row 25 (by decide) (by decide)]; exact g2, by rw [e1 12 (by decide)]; exact g3, by rw [e1 13 (by decide)]; exact g4, by rw [row 27 (by decide) (by decide)]; exact g5, by rw [row 28 (by decide) (by decide)]; exact g6, by rw [row 29 (by decide) (by decide)]; exact g7, by rw [row 30 (by decide) (by decide)]; exact g8⟩
  refine zCI_stale hC0 ?_ hwq (row 33 (by decide) (by decide)) (by rw [row 25 (by decide) (by decide)]; exact c4) (by rw [row 25 (by decide) (by decide)]; exact c5) (row 19 (by decide) (by decide)) (row 21 (by decide) (by decide)) e19 (e1 10 (by decide))
  obtain ⟨b1, b2, b3, b4⟩ := hB
  refine ⟨by rw [row 2 (by decide) (by decide)]; exact b1, by rw [row 2 (by decide) (by decide)]; exact b2, fun x hx => ?_, fun i hi => by rw [row 3 (by decide) (by decide), row 4 (by decide) (by decide), row 5 (by decide) (by decide), row 6 (by decide) (by decide), row 7 (by decide) (by decide)]; exact b4 i hi⟩
  rw [e8]
  show _ = ((zfn (pq A.1) q c.toNat x : Nat) : Int)
  unfold zfn
  by_cases h : x = q
  · rw [if_pos h, if_pos h]
    omega
  · rw [if_neg h, if_neg h]
    exact b3 x hx
theorem sp_C_units {m : Int} (hA : zCS M A) (hm : zI m) : zf (zSh L) 2 kX7_units [zvr 1, zvi m] M (fun v M1 => v = some (.inl (zs_units A m).1) ∧ zCS M1 (zs_units A m).2 ∧ zFC M M1) := by
  have hA0 := hA
  obtain ⟨hC, g2, g3, g4, g5, g6, g7, g8⟩ := hA
  have hC0 := hC
  obtain ⟨hB, hw, c3, c4, c5, c6, c7, c8, c9, c10, c11⟩ := hC
  have bad : (m < 1 ∨ 8 < m) → zr (zSh L) 1 tX7_units 11 [some (zvr 1), some (zvi m), none] [] M (fun v M1 => v = some (.inl (zs_units A m).1) ∧ zCS M1 (zs_units A m).2 ∧ zFC M M1) := fun h => by
    repeat refine zr_s rfl rfl rfl ?_
    refine zr_ret rfl ?_
    unfold zs_units
    rw [if_pos h]
    exact ⟨rfl, hA0, zFC_rf⟩
  refine zf_of rfl (Nat.le_of_ble_eq_true rfl) ?_
  repeat refine zr_s rfl rfl rfl ?_
  refine zr_ilt rfl hm (by decide) (fun h => bad (by omega)) (fun h2 => ?_)
  repeat refine zr_s rfl rfl rfl ?_
  refine zr_ile rfl hm (by decide) (fun h3 => ?_) (fun h => bad (by omega))
  unfold zs_units
  rw [if_neg (by omega)]
  repeat refine zr_s rfl rfl rfl ?_
  rw [zup_row (by decide)]
  have row : ∀ a, a ≠ 1 → a ≠ 2 → zup (zup M 1 9 1) 2 7 m a = M a := fun a h1 h2 => by rw [zup_row h2, zup_row h1]
  have e1 : ∀ b, b ≠ 9 → zup (zup M 1 9 1) 2 7 m 1 b = M 1 b := fun b hb => by rw [zup_row (by decide), zup_off hb]
  have e19 : zup (zup M 1 9 1) 2 7 m 1 9 = 1 := by rw [zup_row (by decide), zup_at]
  obtain ⟨q, hq⟩ : ∃ q : Nat, m = q := Int.eq_ofNat_of_zero_le (by omega)
  subst hq
  refine zr_ret rfl ⟨by rw [hB.2.1], ?_, row 0 (by decide) (by decide), fun a ha => row a (by omega) (by omega)⟩
  rw [Int.toNat_natCast]
  have hwq : zWf (pn A.1, q, A.1.2.2) := ⟨hw.1, show 1 ≤ q by omega, show q ≤ 8 by omega, hw.2.2.2.1, hw.2.2.2.2⟩
  refine ⟨?_, by rw [row 25 (by decide) (by decide)]; exact g2, by rw [e1 12 (by decide)]; exact g3, by rw [e1 13 (by decide)]; exact g4, by rw [row 27 (by decide) (by decide)]; exact g5, by rw [row 28 (by decide) (by decide)]; exact g6, by rw [row 29 (by decide) (by decide)]; exact g7, by rw [row 30 (by decide) (by decide)]; exact g8⟩
  refine zCI_stale hC0 ?_ hwq (row 33 (by decide) (by decide)) (by rw [row 25 (by decide) (by decide)]; exact c4) (by rw [row 25 (by decide) (by decide)]; exact c5) (row 19 (by decide) (by decide)) (row 21 (by decide) (by decide)) e19 (e1 10 (by decide))
  obtain ⟨b1, b2, b3, b4⟩ := hB
  exact ⟨by rw [zup_off (by decide), zup_row (by decide)]; exact b1, zup_at, by rw [row 8 (by decide) (by decide)]; exact b3, fun i hi => by rw [row 3 (by decide) (by decide), row 4 (by decide) (by decide), row 5 (by decide) (by decide), row 6 (by decide) (by decide), row 7 (by decide) (by decide)]; exact b4 i hi⟩
theorem sp_C_delay {i j : Int} (hA : zCS M A) (hi : zI i) (hj : zI j) : zf (zSh L) 7 kX7_delay [zvr 1, zvi i, zvi j] M (fun v M1 => v = some (.inl (zs_delay A i j)) ∧ zCS M1 A ∧ zFC M M1) := by
  have hB := hA.1.1
  have hw := hA.1.2.1
  have h60 := hw.1
  have bad : ¬ (zin' A.1 i ∧ zin' A.1 j) → zr (zSh L) 6 tX7_delay 22 [some (zvr 1), some (zvi i), some (zvi j)] [] M (fun v M1 => v = some (.inl (zs_delay A i j)) ∧ zCS M1 A ∧ zFC M M1) := fun h => by
    repeat refine zr_s rfl rfl rfl ?_
    refine zr_ret rfl ?_
    unfold zs_delay
    rw [if_neg h]
    exact ⟨rfl, hA, zFC_rf⟩
  refine zf_of rfl (Nat.le_of_ble_eq_true rfl) ?_
  repeat refine zr_s rfl rfl rfl ?_
  refine zr_cr rfl rfl rfl (zf_mono (Nat.le_of_ble_eq_true rfl) (sp_holds hB hw hi)) ?_
  by_cases h1 : 0 ≤ i ∧ i < pn A.1
  rotate_left
  · rw [zb_f (by simpa using h1)]
    exact zr_zeq rfl (by decide) (fun _ => bad (fun z => h1 z.1)) (fun h => absurd rfl h)
  rw [zb_t (by simpa using h1)]
  refine zr_zeq rfl (by decide) (fun h => by cases h) (fun _ => ?_)
  repeat refine zr_s rfl rfl rfl ?_
  refine zr_cr rfl rfl rfl (zf_mono (Nat.le_of_ble_eq_true rfl) (sp_holds hB hw hj)) ?_
  by_cases h2 : 0 ≤ j ∧ j < pn A.1
  rotate_left
  · rw [zb_f (by simpa using h2)]
    exact zr_zne rfl (by decide) (fun h => absurd rfl h) (fun _ => bad (fun z => h2 z.2))
  rw [zb_t (by simpa using h2)]
  refine zr_zne rfl (by decide) (fun _ => ?_) (fun h => by cases h)
  unfold zs_delay
  rw [if_pos (show zin' A.1 i ∧ zin' A.1 j from ⟨h1, h2⟩)]
  obtain ⟨a, rfl⟩ := Int.eq_ofNat_of_zero_le h1.1
  obtain ⟨b, rfl⟩ := Int.eq_ofNat_of_zero_le h2.1
  rw [Int.toNat_natCast, Int.toNat_natCast]
  repeat refine zr_s rfl rfl rfl ?_
  refine zr_c rfl rfl rfl (zf_mono (Nat.le_of_ble_eq_true rfl) (sp_refreshS hA)) (fun v M1 hv => ?_)
  obtain ⟨rfl, h9, hA1, hF, -⟩ := hv
  repeat refine zr_s rfl rfl rfl ?_
  refine zr_cr rfl rfl rfl (zf_mono (Nat.le_of_ble_eq_true rfl) (sp_between hw (hA1.1.2.2.2.2.2.2.2.2.2.1 h9).1 (by omega) (by omega))) ?_
  exact zr_ret rfl (⟨rfl, hA1, hF⟩)
theorem sp_C_listed {i : Int} (hA : zCS M A) (hi : zI i) : zf (zSh L) 7 kX7_listed [zvr 1, zvi i] M (fun v M1 => v = some (.inl (zs_listed A i)) ∧ zCS M1 A ∧ zFC M M1) := by
  have hB := hA.1.1
  have hw := hA.1.2.1
  have h60 := hw.1
  refine zf_of rfl (Nat.le_of_ble_eq_true rfl) ?_
  repeat refine zr_s rfl rfl rfl ?_
  refine zr_cr rfl rfl rfl (zf_mono (Nat.le_of_ble_eq_true rfl) (sp_holds hB hw hi)) ?_
  by_cases h1 : 0 ≤ i ∧ i < pn A.1
  rotate_left
  · rw [zb_f (by simpa using h1)]
    refine zr_zne rfl (by decide) (fun h => absurd rfl h) (fun _ => ?_)
    repeat refine zr_s rfl rfl rfl ?_
    refine zr_ret rfl ?_
    unfold zs_listed
    rw [if_neg (show ¬ zin' A.1 i from h1)]
    exact ⟨rfl, hA, zFC_rf⟩
  rw [zb_t (by simpa using h1)]
  refine zr_zne rfl (by decide) (fun _ => ?_) (fun h => by cases h)
  unfold zs_listed
  rw [if_pos (show zin' A.1 i from h1)]
  obtain ⟨a, rfl⟩ := Int.eq_ofNat_of_zero_le h1.1
  rw [Int.toNat_natCast]
  repeat refine zr_s rfl rfl rfl ?_
  refine zr_c rfl rfl rfl (zf_mono (Nat.le_of_ble_eq_true rfl) (sp_refreshS hA)) (fun v M1 hv => ?_)
  obtain ⟨rfl, h9, hA1, hF, -⟩ := hv
  repeat refine zr_s rfl rfl rfl ?_
  refine zr_ald (a) rfl rfl rfl (by omega) (by decide) ?_
  obtain ⟨k1, k2, k3, k4, k5, k6, k7, k8, k9, k10⟩ := hA1.1.2.2.2.2.2.2.2.2.2.1 h9
  rw [k8 a (by omega)]
  exact zr_ret rfl (⟨rfl, hA1, hF⟩)
theorem sp_C_about {i w : Int} (hA : zCS M A) (hi : zI i) (hwI : zI w) : zf (zSh L) 7 kX7_about [zvr 1, zvi i, zvi w] M (fun v M1 => v = some (.inl (zs_about A i w)) ∧ zCS M1 A ∧ zFC M M1) := by
  have hB := hA.1.1
  have hw := hA.1.2.1
  have h60 := hw.1
  refine zf_of rfl (Nat.le_of_ble_eq_true rfl) ?_
  repeat refine zr_s rfl rfl rfl ?_
  refine zr_cr rfl rfl rfl (zf_mono (Nat.le_of_ble_eq_true rfl) (sp_holds hB hw hi)) ?_
  by_cases h1 : 0 ≤ i ∧ i < pn A.1
  rotate_left
  · rw [zb_f (by simpa using h1)]
    refine zr_zne rfl (by decide) (fun h => absurd rfl h) (fun _ => ?_)
    repeat refine zr_s rfl rfl rfl ?_
    refine zr_ret rfl ?_
    unfold zs_about
    rw [if_neg (show ¬ zin' A.1 i from h1)]
    exact ⟨rfl, hA, zFC_rf⟩
  rw [zb_t (by simpa using h1)]
  refine zr_zne rfl (by decide) (fun _ => ?_) (fun h => by cases h)
  unfold zs_about
  rw [if_pos (show zin' A.1 i from h1)]
  obtain ⟨a, rfl⟩ := Int.eq_ofNat_of_zero_le h1.1
  rw [Int.toNat_natCast]
  have ha : a < pn A.1 := by omega
  repeat refine zr_s rfl rfl rfl ?_
  refine zr_c rfl rfl rfl (zf_mono (Nat.le_of_ble_eq_true rfl) (sp_refreshS hA)) (fun v M1 hv => ?_)
  obtain ⟨rfl, h9, hA1, hF, -⟩ := hv
  obtain ⟨k1, k2, k3, k4, k5, k6, k7, k8, k9, k10⟩ := hA1.1.2.2.2.2.2.2.2.2.2.1 h9
  repeat refine zr_s rfl rfl rfl ?_
  by_cases hr : 0 ≤ w ∧ w ≤ 6
  rotate_left
  · refine zr_tabOut rfl hwI (by omega) ?_
    repeat refine zr_s rfl rfl rfl ?_
    refine zr_ret rfl ?_
    rw [if_neg (by omega), if_neg (by omega), if_neg (by omega), if_neg (by omega), if_neg (by omega), if_neg (by omega), if_neg (by omega)]
    exact ⟨rfl, hA1, hF⟩
  have hc : w = 0 ∨ w = 1 ∨ w = 2 ∨ w = 3 ∨ w = 4 ∨ w = 5 ∨ w = 6 := by omega
  rcases hc with rfl | rfl | rfl | rfl | rfl | rfl | rfl
  · refine zr_tabIn 42 rfl hwI (by decide) (by decide) rfl ?_
    repeat refine zr_s rfl rfl rfl ?_
    refine zr_ald (a) rfl rfl rfl (by omega) (by decide) ?_
    rw [k4 a ha]
    exact zr_ret rfl (⟨rfl, hA1, hF⟩)
  · refine zr_tabIn 52 rfl hwI (by decide) (by decide) rfl ?_
    repeat refine zr_s rfl rfl rfl ?_
    refine zr_ald (a) rfl rfl rfl (by omega) (by decide) ?_
    rw [k2 a ha]
    exact zr_ret rfl (⟨rfl, hA1, hF⟩)
  · refine zr_tabIn 62 rfl hwI (by decide) (by decide) rfl ?_
    repeat refine zr_s rfl rfl rfl ?_
    refine zr_ald (a) rfl rfl rfl (by omega) (by decide) ?_
    repeat refine zr_s rfl rfl rfl ?_
    refine zr_ald (a) rfl rfl rfl (by omega) (by decide) ?_
    repeat refine zr_s rfl rfl rfl ?_
    rw [k2 a ha, k4 a ha, k5]
    exact zr_ret rfl (⟨rfl, hA1, hF⟩)
  · refine zr_tabIn 90 rfl hwI (by decide) (by decide) rfl ?_
    repeat refine zr_s rfl rfl rfl ?_
    refine zr_ald (a) rfl rfl rfl (by omega) (by decide) ?_
    rw [k7 a ha]
    exact zr_ret rfl (⟨rfl, hA1, hF⟩)
  · refine zr_tabIn 100 rfl hwI (by decide) (by decide) rfl ?_
    repeat refine zr_s rfl rfl rfl ?_
    refine zr_ald (a) rfl rfl rfl (by omega) (by decide) ?_
    rw [k9 a ha]
    exact zr_ret rfl (⟨rfl, hA1, hF⟩)
  · refine zr_tabIn 110 rfl hwI (by decide) (by decide) rfl ?_
    repeat refine zr_s rfl rfl rfl ?_
    refine zr_ald (a) rfl rfl rfl (by omega) (by decide) ?_
    rw [k10 a ha]
    exact zr_ret rfl (⟨rfl, hA1, hF⟩)
  · refine zr_tabIn 120 rfl hwI (by decide) (by decide) rfl ?_
    repeat refine zr_s rfl rfl rfl ?_
    refine zr_ald (a) rfl rfl rfl (by omega) (by decide) ?_
    rw [hA1.2.1 a ha]
    exact zr_ret rfl (⟨rfl, hA1, hF⟩)
theorem sp_C_length {w : Int} (hA : zCS M A) (hwI : zI w) : zf (zSh L) 14 kX7_length [zvr 1, zvi w] M (fun v M1 => v = some (.inl (zs_length A w)) ∧ zCS M1 A ∧ zFC M M1) := by
  have hw := hA.1.2.1
  have h60 := hw.1
  refine zf_of rfl (Nat.le_of_ble_eq_true rfl) ?_
  repeat refine zr_s rfl rfl rfl ?_
  refine zr_c rfl rfl rfl (zf_mono (Nat.le_of_ble_eq_true rfl) (sp_refreshS hA)) (fun v M1 hv => ?_)
  obtain ⟨rfl, h9, hA1, hF, -⟩ := hv
  have hB := hA1.1.1
  obtain ⟨k1, k2, k3, k4, k5, k6, k7, k8, k9, k10⟩ := hA1.1.2.2.2.2.2.2.2.2.2.1 h9
  unfold zs_length
  repeat refine zr_s rfl rfl rfl ?_
  by_cases hr : 0 ≤ w ∧ w ≤ 7
  rotate_left
  · refine zr_tabOut rfl hwI (by omega) ?_
    repeat refine zr_s rfl rfl rfl ?_
    refine zr_ret rfl ?_
    rw [if_neg (by omega), if_neg (by omega), if_neg (by omega), if_neg (by omega), if_neg (by omega), if_neg (by omega), if_neg (by omega), if_neg (by omega)]
    exact ⟨rfl, hA1, hF⟩
  have hc : w = 0 ∨ w = 1 ∨ w = 2 ∨ w = 3 ∨ w = 4 ∨ w = 5 ∨ w = 6 ∨ w = 7 := by omega
  rcases hc with rfl | rfl | rfl | rfl | rfl | rfl | rfl | rfl
  · refine zr_tabIn 47 rfl hwI (by decide) (by decide) rfl ?_
    repeat refine zr_s rfl rfl rfl ?_
    rw [k5]
    exact zr_ret rfl (⟨rfl, hA1, hF⟩)
  · refine zr_tabIn 55 rfl hwI (by decide) (by decide) rfl ?_
    repeat refine zr_s rfl rfl rfl ?_
    refine zr_cr rfl rfl rfl (zf_mono (Nat.le_of_ble_eq_true rfl) (sp_lengthOf hB hw rfl (fun i hi => by rw [k7 i hi]; have := zcycI hw (zway A.1) i hi; omega))) ?_
    rw [zlen_congr _ k7]
    exact zr_ret rfl (⟨rfl, hA1, hF⟩)
  · refine zr_tabIn 70 rfl hwI (by decide) (by decide) rfl ?_
    repeat refine zr_s rfl rfl rfl ?_
    refine zr_cr rfl rfl rfl (zf_mono (Nat.le_of_ble_eq_true rfl) (sp_lengthOf hB hw rfl (fun i hi => by have := hA1.1.2.2.2.2.2.1 i (by omega); omega))) ?_
    rw [zlen_congr _ k9]
    exact zr_ret rfl (⟨rfl, hA1, hF⟩)
  · refine zr_tabIn 85 rfl hwI (by decide) (by decide) rfl ?_
    repeat refine zr_s rfl rfl rfl ?_
    refine zr_cr rfl rfl rfl (zf_mono (Nat.le_of_ble_eq_true rfl) (sp_lengthOf hB hw rfl (fun i hi => by have := hA1.1.2.2.2.2.2.2.1 i (by omega); omega))) ?_
    rw [zlen_congr _ k10]
    exact zr_ret rfl (⟨rfl, hA1, hF⟩)
  · refine zr_tabIn 100 rfl hwI (by decide) (by decide) rfl ?_
    repeat refine zr_s rfl rfl rfl ?_
    refine zr_c rfl rfl rfl (zf_mono (Nat.le_of_ble_eq_true rfl) (sp_shortest hA1.1 h9)) (fun v M2 hv => ?_)
    obtain ⟨rfl, q1, q2, q3, q4, q5⟩ := hv
    refine zr_ret rfl ⟨rfl, zCS_kept hA1 q1 (q3 25 (by decide) (by decide) (by decide)) (q3 27 (by decide) (by decide) (by decide)) (q3 28 (by decide) (by decide) (by decide)) (q3 29 (by decide) (by decide) (by decide)) (q3 30 (by decide) (by decide) (by decide)) q4 q5, zFC_tr hF ⟨q3 0 (by decide) (by decide) (by decide), fun a ha => q3 a (by omega) (by omega) (by omega)⟩⟩
  · refine zr_tabIn 105 rfl hwI (by decide) (by decide) rfl ?_
    repeat refine zr_s rfl rfl rfl ?_
    refine zr_c rfl rfl rfl (zf_mono (Nat.le_of_ble_eq_true rfl) (sp_inspectS hA1 h9)) (fun v M2 hv => ?_)
    obtain ⟨rfl, hA2, hF2, h92, -, -, hv, -⟩ := hv
    refine zr_zne rfl hv (fun h => ?_) (fun h => ?_)
    · repeat refine zr_s rfl rfl rfl ?_
      refine zr_ret rfl ?_
      show (some (Sum.inl (-3)) : Option zV) = some (Sum.inl (if (zver A.1 A.2.1).1 = 0 then _ else (-3 : Int))) ∧ _
      rw [if_neg h]
      exact ⟨rfl, hA2, zFC_tr hF hF2⟩
    · repeat refine zr_s rfl rfl rfl ?_
      refine zr_cr rfl rfl rfl (zf_mono (Nat.le_of_ble_eq_true rfl) (sp_lengthOf hA2.1.1 hw rfl (fun i hi => by have := hA2.1.2.2.2.1 i hi; omega))) ?_
      repeat refine zr_s rfl rfl rfl ?_
      refine zr_ret rfl ?_
      show (some (Sum.inl _) : Option zV) = some (Sum.inl (if (zver A.1 A.2.1).1 = 0 then zlen A.1 A.2.1 (pn A.1) else (-3 : Int))) ∧ _
      rw [if_pos h, zlen_congr _ hA2.2.1]
      exact ⟨rfl, hA2, zFC_tr hF hF2⟩
  · refine zr_tabIn 135 rfl hwI (by decide) (by decide) rfl ?_
    repeat refine zr_s rfl rfl rfl ?_
    rw [hB.1]
    exact zr_ret rfl (⟨rfl, hA1, hF⟩)
  · refine zr_tabIn 143 rfl hwI (by decide) (by decide) rfl ?_
    repeat refine zr_s rfl rfl rfl ?_
    rw [k6]
    exact zr_ret rfl (⟨rfl, hA1, hF⟩)
theorem sp_C_place {i c : Int} (hA : zCS M A) (hi : zI i) (hc : zI c) : zf (zSh L) 2 kX7_place [zvr 1, zvi i, zvi c] M (fun v M1 => v = some (.inl (zs_place A i c).1) ∧ zCS M1 (zs_place A i c).2 ∧ zFC M M1) := by
  have hA0 := hA
  obtain ⟨hC, g2, g3, g4, g5, g6, g7, g8⟩ := hA
  have hC0 := hC
  obtain ⟨hB, hw, c3, c4, c5, c6, c7, c8, c9, c10, c11⟩ := hC
  have h60 := hw.1
  have bad : ¬ (zin' A.1 i ∧ 0 ≤ c ∧ c ≤ 1000) → zr (zSh L) 1 tX7_place 22 [some (zvr 1), some (zvi i), some (zvi c), none] [] M (fun v M1 => v = some (.inl (zs_place A i c).1) ∧ zCS M1 (zs_place A i c).2 ∧ zFC M M1) := fun h => by
    repeat refine zr_s rfl rfl rfl ?_
    refine zr_ret rfl ?_
    unfold zs_place
    rw [if_neg h]
    exact ⟨rfl, hA0, zFC_rf⟩
  refine zf_of rfl (Nat.le_of_ble_eq_true rfl) ?_
  repeat refine zr_s rfl rfl rfl ?_
  refine zr_cr rfl rfl rfl (zf_mono (Nat.le_of_ble_eq_true rfl) (sp_holds hB hw hi)) ?_
  by_cases h1 : 0 ≤ i ∧ i < pn A.1
  rotate_left
  · rw [zb_f (by simpa using h1)]
    exact zr_zeq rfl (by decide) (fun _ => bad (fun z => h1 z.1)) (fun h => absurd rfl h)
  rw [zb_t (by simpa using h1)]
  refine zr_zeq rfl (by decide) (fun h => by cases h) (fun _ => ?_)
  repeat refine zr_s rfl rfl rfl ?_
  refine zr_zlt rfl hc (fun h => bad (fun z => by have := z.2.1; omega)) (fun h2 => ?_)
  repeat refine zr_s rfl rfl rfl ?_
  refine zr_ile rfl hc (by decide) (fun h3 => ?_) (fun h => bad (fun z => by have := z.2.2; omega))
  unfold zs_place
  rw [if_pos (show zin' A.1 i ∧ 0 ≤ c ∧ c ≤ 1000 from ⟨h1, h2, h3⟩)]
  obtain ⟨a, rfl⟩ := Int.eq_ofNat_of_zero_le h1.1
  rw [Int.toNat_natCast]
  have ha : a < pn A.1 := by omega
  repeat refine zr_s rfl rfl rfl ?_
  refine zr_ald (a) rfl rfl rfl (by omega) (by decide) ?_
  repeat refine zr_s rfl rfl rfl ?_
  refine zr_ast (a) rfl rfl rfl (by omega) (by decide) ?_
  repeat refine zr_s rfl rfl rfl ?_
  rw [g2 a ha]
  have row : ∀ q, q ≠ 25 → zup M 25 a c q = M q := fun q hq => zup_row hq
  have x25 : ∀ q, zup M 25 a c 25 q = if q = a then c else M 25 q := fun q => by
    by_cases h : q = a
    · rw [if_pos h, h, zup_at]
    · rw [if_neg h, zup_off h]
  refine zr_ret rfl ⟨rfl, ?_, row 0 (by decide), fun q hq => row q (by omega)⟩
  refine ⟨?_, fun q hq => ?_, by rw [row 1 (by decide)]; exact g3, by rw [row 1 (by decide)]; exact g4, by rw [row 27 (by decide)]; exact g5, by rw [row 28 (by decide)]; exact g6, by rw [row 29 (by decide)]; exact g7, by rw [row 30 (by decide)]; exact g8⟩
  · have hCx : zCI M A.1 → zCI (zup M 25 a c) A.1 := fun h => by
      unfold zCI zCC zBk zDl at h ⊢
      rw [row 1 (by decide), row 2 (by decide), row 3 (by decide), row 4 (by decide), row 5 (by decide), row 6 (by decide), row 7 (by decide), row 8 (by decide), row 9 (by decide), row 10 (by decide), row 11 (by decide), row 12 (by decide), row 14 (by decide), row 15 (by decide), row 19 (by decide), row 21 (by decide), row 33 (by decide)]
      refine ⟨h.1, h.2.1, h.2.2.1, fun q hq => ?_, fun q hq hq2 => ?_, h.2.2.2.2.2⟩
      · rw [x25]
        split
        · exact Or.inr ⟨h2, h3⟩
        · exact c4 q hq
      · rw [x25, if_neg (by omega)]
        exact c5 q hq hq2
    exact hCx hC0
  · rw [x25]
    show _ = zfu A.2.1 a c q
    unfold zfu
    rw [g2 q hq]
theorem sp_C_check (hA : zCS M A) : zf (zSh L) 7 kX7_check [zvr 1] M (fun v M1 => v = some (.inl (zs_check A).1) ∧ zCS M1 (zs_check A).2 ∧ zFC M M1) := by
  refine zf_of rfl (Nat.le_of_ble_eq_true rfl) ?_
  repeat refine zr_s rfl rfl rfl ?_
  refine zr_c rfl rfl rfl (zf_mono (Nat.le_of_ble_eq_true rfl) (sp_refreshS hA)) (fun v M1 hv => ?_)
  obtain ⟨rfl, h9, hA1, hF, -⟩ := hv
  repeat refine zr_s rfl rfl rfl ?_
  refine zr_c rfl rfl rfl (zf_mono (Nat.le_of_ble_eq_true rfl) (sp_inspectS hA1 h9)) (fun v M2 hv => ?_)
  obtain ⟨rfl, hA2, hF2, h92, ea, eb, -⟩ := hv
  repeat refine zr_s rfl rfl rfl ?_
  rw [ea, zup_row (by decide), eb]
  generalize hN : zup (zup M2 1 12 (zver A.1 A.2.1).2.1) 1 13 (zver A.1 A.2.1).2.2 = N
  have row : ∀ q, q ≠ 1 → N q = M2 q := fun q hq => by rw [← hN, zup_row hq, zup_row hq]
  have e1 : ∀ b, b ≠ 12 → b ≠ 13 → N 1 b = M2 1 b := fun b hb hb2 => by rw [← hN, zup_off hb2, zup_off hb]
  obtain ⟨hC, g2, g3, g4, g5, g6, g7, g8⟩ := hA2
  refine zr_ret rfl ⟨rfl, ?_, zFC_tr hF (zFC_tr hF2 ⟨row 0 (by decide), fun a ha => row a (by omega)⟩)⟩
  refine ⟨?_, by rw [row 25 (by decide)]; exact g2, by rw [← hN, zup_off (by decide), zup_at]; rfl, by rw [← hN, zup_at]; rfl, by rw [row 27 (by decide)]; exact g5, by rw [row 28 (by decide)]; exact g6, by rw [row 29 (by decide)]; exact g7, by rw [row 30 (by decide)]; exact g8⟩
  have hCx : zCI M2 A.1 → zCI N A.1 := fun h => by
    unfold zCI zCC zBk zDl at h ⊢
    rw [e1 9 (by decide) (by decide), e1 10 (by decide) (by decide), e1 11 (by decide) (by decide), row 2 (by decide), row 3 (by decide), row 4 (by decide), row 5 (by decide), row 6 (by decide), row 7 (by decide), row 8 (by decide), row 9 (by decide), row 10 (by decide), row 11 (by decide), row 12 (by decide), row 14 (by decide), row 15 (by decide), row 19 (by decide), row 21 (by decide), row 25 (by decide), row 33 (by decide)]
    exact h
  exact hCx hC
theorem sp_C_wrong {p : Int} (hA : zCS M A) (hp : zI p) : zf (zSh L) 2 kX7_wrong [zvr 1, zvi p] M (fun v M1 => v = some (.inl (zs_wrong A p)) ∧ zCS M1 A ∧ zFC M M1) := by
  obtain ⟨hC, g2, g3, g4, g5, g6, g7, g8⟩ := id hA
  unfold zs_wrong
  refine zf_of rfl (Nat.le_of_ble_eq_true rfl) ?_
  repeat refine zr_s rfl rfl rfl ?_
  by_cases h0 : p = 0
  · rw [if_pos h0]
    refine zr_look 27 rfl hp (by rw [h0]; rfl) ?_
    repeat refine zr_s rfl rfl rfl ?_
    rw [g3]
    exact zr_ret rfl (⟨rfl, hA, zFC_rf⟩)
  rw [if_neg h0]
  by_cases h1 : p = 1
  · rw [if_pos h1]
    refine zr_look 32 rfl hp (by rw [h1]; rfl) ?_
    repeat refine zr_s rfl rfl rfl ?_
    rw [g4]
    exact zr_ret rfl (⟨rfl, hA, zFC_rf⟩)
  rw [if_neg h1]
  refine zr_look 37 rfl hp ?_ ?_
  · show (if (0 : Int) = p then (27 : Int) else if (1 : Int) = p then 32 else 37) = 37
    rw [if_neg (by omega), if_neg (by omega)]
  repeat refine zr_s rfl rfl rfl ?_
  exact zr_ret rfl (⟨rfl, hA, zFC_rf⟩)
theorem sp_C_given {w k x : Int} (hA : zCS M A) (hwI : zI w) (hk : zI k) : zf (zSh L) 4 kX7_given [zvr 1, zvi w, zvi k, zvi x] M (fun v M1 => v = some (.inl (zs_given A w k x).1) ∧ zCS M1 (zs_given A w k x).2 ∧ zFC M M1) := by
  obtain ⟨hC, g2, g3, g4, g5, g6, g7, g8⟩ := id hA
  unfold zs_given
  refine zf_of rfl (Nat.le_of_ble_eq_true rfl) ?_
  repeat refine zr_s rfl rfl rfl ?_
  refine zr_c rfl rfl rfl (zf_mono (Nat.le_of_ble_eq_true rfl) (sp_tell hwI hk)) (fun v M1 hv => ?_)
  obtain ⟨t1, t2, t3⟩ := hv
  by_cases h0 : w = 0 ∧ 0 ≤ k ∧ k < 16
  · obtain ⟨rfl, rfl⟩ := t1 h0
    rw [if_pos h0, g5 k.toNat (by omega)]
    have row : ∀ q, q ≠ 27 → zup M 27 k.toNat x q = M q := fun q hq => zup_row hq
    refine zr_ret rfl ⟨rfl, ⟨zCI_eq (fun q hq => row q (by omega)) hC, by rw [row 25 (by decide)]; exact g2, by rw [row 1 (by decide)]; exact g3, by rw [row 1 (by decide)]; exact g4, fun q hq => ?_, by rw [row 28 (by decide)]; exact g6, by rw [row 29 (by decide)]; exact g7, by rw [row 30 (by decide)]; exact g8⟩, row 0 (by decide), fun a ha => row a (by omega)⟩
    show _ = zfu A.2.2.2.1.1 k.toNat x q
    by_cases h : q = k.toNat
    · rw [h, zup_at, zfu_at]
    · rw [zup_off h, zfu_off h]
      exact g5 q hq
  rw [if_neg h0]
  by_cases h1 : w = 1 ∧ 0 ≤ k ∧ k < 64
  · obtain ⟨rfl, rfl⟩ := t2 h1
    rw [if_pos h1, g6 k.toNat (by omega)]
    have row : ∀ q, q ≠ 28 → zup M 28 k.toNat x q = M q := fun q hq => zup_row hq
    refine zr_ret rfl ⟨rfl, ⟨zCI_eq (fun q hq => row q (by omega)) hC, by rw [row 25 (by decide)]; exact g2, by rw [row 1 (by decide)]; exact g3, by rw [row 1 (by decide)]; exact g4, by rw [row 27 (by decide)]; exact g5, fun q hq => ?_, by rw [row 29 (by decide)]; exact g7, by rw [row 30 (by decide)]; exact g8⟩, row 0 (by decide), fun a ha => row a (by omega)⟩
    show _ = zfu A.2.2.2.1.2 k.toNat x q
    by_cases h : q = k.toNat
    · rw [h, zup_at, zfu_at]
    · rw [zup_off h, zfu_off h]
      exact g6 q hq
  rw [if_neg h1]
  obtain ⟨rfl, rfl⟩ := t3 (by omega)
  exact zr_ret rfl (⟨rfl, hA, zFC_rf⟩)
theorem sp_C_value {w k : Int} (hA : zCS M A) (hwI : zI w) (hk : zI k) : zf (zSh L) 4 kX7_value [zvr 1, zvi w, zvi k] M (fun v M1 => v = some (.inl (zs_value A w k)) ∧ zCS M1 A ∧ zFC M M1) := by
  obtain ⟨hC, g2, g3, g4, g5, g6, g7, g8⟩ := id hA
  unfold zs_value
  refine zf_of rfl (Nat.le_of_ble_eq_true rfl) ?_
  repeat refine zr_s rfl rfl rfl ?_
  refine zr_c rfl rfl rfl (zf_mono (Nat.le_of_ble_eq_true rfl) (sp_look hwI hk)) (fun v M1 hv => ?_)
  obtain ⟨rfl, t1, t2, t3⟩ := hv
  by_cases h0 : w = 0 ∧ 0 ≤ k ∧ k < 16
  · rw [t1 h0, if_pos h0, g7 k.toNat (by omega)]
    exact zr_ret rfl (⟨rfl, hA, zFC_rf⟩)
  rw [if_neg h0]
  by_cases h1 : w = 1 ∧ 0 ≤ k ∧ k < 64
  · rw [t2 h1, if_pos h1, g8 k.toNat (by omega)]
    exact zr_ret rfl (⟨rfl, hA, zFC_rf⟩)
  rw [if_neg h1, t3 (by omega)]
  exact zr_ret rfl (⟨rfl, hA, zFC_rf⟩)
theorem zag_go0 (hA : zCS M A) : zag (M 27, M 28, fun _ => 0, fun _ => 0) (zgo0 A) := ⟨hA.2.2.2.2.1, hA.2.2.2.2.2.1, rfl⟩
theorem sp_runByPlan {c : Nat} (hA : zCS M A) (hc : (zSh L)[c]? = some (.inl 60)) (hc2 : c < 29) (hr : ∀ i, i < pn A.1 → 0 ≤ M c i ∧ M c i ≤ 1000) : zf (zSh L) 5 kX7_runByPlan [zvr 1, zvr c] M (fun v M1 => v = some (.inl (zlen A.1 (M c) (pn A.1))) ∧ zCS M1 (zset A (zrn A.1 (M c) (zgo0 A) 1013)) ∧ zFC M M1) := by
  have hw := hA.1.2.1
  refine zf_of rfl (Nat.le_of_ble_eq_true rfl) ?_
  repeat refine zr_s rfl rfl rfl ?_
  refine zr_c rfl rfl rfl (zf_mono (Nat.le_of_ble_eq_true rfl) (sp_runByCycles hA.1.1 hw hc hc2 hr)) (fun v M1 hv => ?_)
  obtain ⟨rfl, r1, r2, r3⟩ := hv
  repeat refine zr_s rfl rfl rfl ?_
  have ec : M1 c = M c := r1 c (by omega)
  refine zr_cr rfl rfl rfl (zf_mono (Nat.le_of_ble_eq_true rfl) (sp_lengthOf (P := A.1) (zBk_of hA.1.1 (fun a h1 h2 => r1 a (by omega))) hw hc (fun i hi => by rw [ec]; have := hr i hi; omega))) ?_
  rw [ec]
  obtain ⟨hC, g2, g3, g4, g5, g6, g7, g8⟩ := id hA
  have hag := zag_rn (w := M c) hw (zag_go0 hA) 1013
  exact zr_ret rfl (⟨rfl, ⟨zCI_eq (fun q hq => r1 q (by omega)) hC, by rw [r1 25 (by omega)]; exact g2, by rw [r1 1 (by omega)]; exact g3, by rw [r1 1 (by omega)]; exact g4, by rw [r1 27 (by omega)]; exact g5, by rw [r1 28 (by omega)]; exact g6, fun k hk => by rw [r2 k hk]; exact hag.1 k hk, fun k hk => by rw [r3 k hk]; exact hag.2.1 k hk⟩, r1 0 (by omega), fun a ha => r1 a (by omega)⟩)
theorem sp_C_run {h : Int} (hA : zCS M A) (hI : zI h) : zf (zSh L) 7 kX7_run [zvr 1, zvi h] M (fun v M1 => v = some (.inl (zs_run A h).1) ∧ zCS M1 (zs_run A h).2 ∧ zFC M M1) := by
  have hw := hA.1.2.1
  have h60 := hw.1
  refine zf_of rfl (Nat.le_of_ble_eq_true rfl) ?_
  repeat refine zr_s rfl rfl rfl ?_
  refine zr_c rfl rfl rfl (zf_mono (Nat.le_of_ble_eq_true rfl) (sp_refreshS hA)) (fun v M1 hv => ?_)
  obtain ⟨rfl, h9, hA1, hF, -⟩ := hv
  have hB := hA1.1.1
  obtain ⟨k1, k2, k3, k4, k5, k6, k7, k8, k9, k10⟩ := hA1.1.2.2.2.2.2.2.2.2.2.1 h9
  unfold zs_run
  repeat refine zr_s rfl rfl rfl ?_
  by_cases hr : 0 ≤ h ∧ h ≤ 2
  rotate_left
  · refine zr_tabOut rfl hI (by omega) ?_
    repeat refine zr_s rfl rfl rfl ?_
    refine zr_ret rfl ?_
    rw [if_neg (by omega), if_neg (by omega), if_neg (by omega)]
    exact ⟨rfl, hA1, hF⟩
  have hc : h = 0 ∨ h = 1 ∨ h = 2 := by omega
  rcases hc with rfl | rfl | rfl
  · refine zr_tabIn 27 rfl hI (by decide) (by decide) rfl ?_
    repeat refine zr_s rfl rfl rfl ?_
    refine zr_c rfl rfl rfl (zf_mono (Nat.le_of_ble_eq_true rfl) (sp_runAsItStands hB hw)) (fun v M2 hv => ?_)
    obtain ⟨rfl, r1, r2, r3⟩ := hv
    repeat refine zr_s rfl rfl rfl ?_
    have ec : M2 19 = M1 19 := r1 19 (by omega)
    refine zr_cr rfl rfl rfl (zf_mono (Nat.le_of_ble_eq_true rfl) (sp_lengthOf (P := A.1) (zBk_of hB (fun a h1 h2 => r1 a (by omega))) hw rfl (fun i hi => by rw [ec]; have := hA1.1.2.2.2.2.2.1 i (by omega); omega))) ?_
    rw [ec, zlen_congr _ k9]
    obtain ⟨hC, g2, g3, g4, g5, g6, g7, g8⟩ := id hA1
    have hag := zag_st hw (zag_go0 hA1) (pn A.1) (Nat.le_refl _)
    exact zr_ret rfl (⟨rfl, ⟨zCI_eq (fun q hq => r1 q (by omega)) hC, by rw [r1 25 (by omega)]; exact g2, by rw [r1 1 (by omega)]; exact g3, by rw [r1 1 (by omega)]; exact g4, by rw [r1 27 (by omega)]; exact g5, by rw [r1 28 (by omega)]; exact g6, fun k hk => by rw [r2 k hk]; exact hag.1 k hk, fun k hk => by rw [r3 k hk]; exact hag.2.1 k hk⟩, zFC_tr hF ⟨r1 0 (by omega), fun a ha => r1 a (by omega)⟩⟩)
  · refine zr_tabIn 49 rfl hI (by decide) (by decide) rfl ?_
    repeat refine zr_s rfl rfl rfl ?_
    refine zr_c rfl rfl rfl (zf_mono (Nat.le_of_ble_eq_true rfl) (sp_runByPlan (c := 14) hA1 rfl (by decide) (fun i hi => by rw [k7 i hi]; have := zcycI hw (zway A.1) i hi; omega))) (fun v M2 hv => ?_)
    obtain ⟨rfl, hA2, hF2⟩ := hv
    rw [zrn_congr k7] at hA2
    rw [zlen_congr _ k7]
    exact zr_ret rfl (⟨rfl, hA2, zFC_tr hF hF2⟩)
  · refine zr_tabIn 61 rfl hI (by decide) (by decide) rfl ?_
    repeat refine zr_s rfl rfl rfl ?_
    refine zr_c rfl rfl rfl (zf_mono (Nat.le_of_ble_eq_true rfl) (sp_inspectS hA1 h9)) (fun v M2 hv => ?_)
    obtain ⟨rfl, hA2, hF2, h92, -, -, hv, hok⟩ := hv
    have hg : (if (2 : Int) = 0 then (zlen A.1 (zio A.1 (fun k => k) (pn A.1)).1 (pn A.1), zset A (zst A.1 (zgo0 A) (pn A.1))) else if (2 : Int) = 1 then (zlen A.1 (zls A.1 (zway A.1) (pn A.1)).1 (pn A.1), zset A (zrn A.1 (zls A.1 (zway A.1) (pn A.1)).1 (zgo0 A) 1013)) else if (2 : Int) = 2 then (if (zver A.1 A.2.1).1 = 0 then (zlen A.1 A.2.1 (pn A.1), zset A (zrn A.1 A.2.1 (zgo0 A) 1013)) else (-3, A)) else (-1, A)) = if (zver A.1 A.2.1).1 = 0 then (zlen A.1 A.2.1 (pn A.1), zset A (zrn A.1 A.2.1 (zgo0 A) 1013)) else (-3, A) := by
      rw [if_neg (by decide), if_neg (by decide), if_pos rfl]
    rw [hg]
    refine zr_zne rfl hv (fun h => ?_) (fun h => ?_)
    · rw [if_neg h]
      repeat refine zr_s rfl rfl rfl ?_
      exact zr_ret rfl (⟨rfl, hA2, zFC_tr hF hF2⟩)
    · rw [if_pos h]
      repeat refine zr_s rfl rfl rfl ?_
      refine zr_c rfl rfl rfl (zf_mono (Nat.le_of_ble_eq_true rfl) (sp_runByPlan (c := 25) hA2 rfl (by decide) (fun i hi => by have := hA2.1.2.2.2.1 i hi; have := hok h i hi; omega))) (fun v M3 hv => ?_)
      obtain ⟨rfl, hA3, hF3⟩ := hv
      rw [zrn_congr hA2.2.1] at hA3
      rw [zlen_congr _ hA2.2.1]
      repeat refine zr_s rfl rfl rfl ?_
      exact zr_ret rfl (⟨rfl, hA3, zFC_tr hF (zFC_tr hF2 hF3)⟩)
end ZX
end
section
/-! THE REFERENCE: its block, what reads and writes what, its delays -/
def zBm (M : zM) (P : zP) : Prop := M 34 5 = pn P ∧ M 34 7 = pu P ∧ (∀ k, k < 7 → M 40 k = pq P k) ∧ ∀ i, i < pn P → M 35 i = pK P i ∧ (pK P i ≠ 6 → M 36 i = pT P i) ∧ (pK P i ≠ 0 → M 37 i = pA P i) ∧ (pK P i ≠ 0 → pK P i ≠ 5 → M 38 i = pB P i) ∧ M 39 i = pC P i
theorem zBm_of {M M1 : zM} {P : zP} (h : zBm M P) (e : ∀ a, 34 ≤ a → a ≤ 40 → M1 a = M a) : zBm M1 P := by
  unfold zBm at h ⊢
  rw [e 34 (by omega) (by omega), e 35 (by omega) (by omega), e 36 (by omega) (by omega), e 37 (by omega) (by omega), e 38 (by omega) (by omega), e 39 (by omega) (by omega), e 40 (by omega) (by omega)]
  exact h
def zwr (P : zP) (i r : Nat) : Bool := decide (pK P i ≠ 6 ∧ pT P i = r)
def zrd (P : zP) (i r : Nat) : Bool := decide ((pK P i ≠ 0 ∧ pA P i = r) ∨ (pK P i ≠ 0 ∧ pK P i ≠ 5 ∧ pB P i = r))
/-- one of the numbers below m -/
def zan (c : Nat → Bool) : Nat → Bool
  | 0 => false
  | m + 1 => zan c m || c m
theorem zan_iff' {c : Nat → Bool} : ∀ m, zan c m = true ↔ ∃ r, r < m ∧ c r = true
  | 0 => by
    constructor
    · intro h
      cases h
    · rintro ⟨r, h, -⟩
      omega
  | m + 1 => by
    show (zan c m || c m) = true ↔ _
    rw [Bool.or_eq_true, zan_iff' m]
    constructor
    · rintro (⟨r, h1, h2⟩ | h)
      · exact ⟨r, by omega, h2⟩
      · exact ⟨m, by omega, h⟩
    · rintro ⟨r, h1, h2⟩
      by_cases h : r = m
      · exact Or.inr (h ▸ h2)
      · exact Or.inl ⟨r, by omega, h2⟩
theorem zan_iff {c : Nat → Bool} {m : Nat} : zan c m = true ↔ ∃ r, r < m ∧ c r = true := zan_iff' m
/-- is r written by one of a, .., b - 1 -/
def zwn (P : zP) (r a b : Nat) : Bool := zan (fun k => decide (a ≤ k) && zwr P k r) b
theorem zwn_iff {P : zP} {r a b : Nat} : zwn P r a b = true ↔ ∃ k, a ≤ k ∧ k < b ∧ zwr P k r = true := by
  unfold zwn
  rw [zan_iff]
  constructor
  · rintro ⟨k, h1, h2⟩
    rw [Bool.and_eq_true, decide_eq_true_eq] at h2
    exact ⟨k, h2.1, h1, h2.2⟩
  · rintro ⟨k, h1, h2, h3⟩
    exact ⟨k, h2, by rw [Bool.and_eq_true, decide_eq_true_eq]; exact ⟨h1, h3⟩⟩
theorem zand63w (x : Int) : zand x 63 = zw x % 64 := by
  have h : ∀ z : Int32, (z &&& 63).toInt = z.toInt % 64 := by
    intro z
    show (z.toBitVec &&& 63#32).toInt = z.toBitVec.toInt % 64
    have e : (z.toBitVec &&& 63#32).toNat = z.toBitVec.toNat % 64 := by
      rw [BitVec.toNat_and]
      exact Nat.and_two_pow_sub_one_eq_mod _ 6
    have hl := z.toBitVec.isLt
    rw [BitVec.toInt_eq_toNat_cond, BitVec.toInt_eq_toNat_cond, e]
    generalize z.toBitVec.toNat = n at *
    split <;> split <;> omega
  exact h _
theorem zand63 {x : Int} (hx : zI x) : zand x 63 = x % 64 := by
  rw [zand63w, zwid hx.1 hx.2]
/-- what memory asks, as the reference says it -/
def zmR (P : zP) (i j : Nat) : Int :=
  if 5 ≤ pK P i ∧ 5 ≤ pK P j ∧ (pK P i = 6 ∨ pK P j = 6) ∧ (pA P i ≠ pA P j ∨ zwn P (pA P i) i j = true ∨ pC P i % 64 = pC P j % 64) then (if pK P i = 5 then 0 else if pK P j = 5 then pl P i else 1) else -1
def zc1 (P : zP) (i j r : Nat) : Bool := !zwn P r (i + 1) j && (zwr P i r && zrd P j r)
def zc2 (P : zP) (i j r : Nat) : Bool := !zwn P r (i + 1) j && (zrd P i r && zwr P j r)
def zc3 (P : zP) (i j r : Nat) : Bool := !zwn P r (i + 1) j && (zwr P i r && zwr P j r)
def zov (P : zP) (i j : Nat) : Int := max 1 ((pl P i : Int) - pl P j + 1)
/-- the delay behind m registers -/
def zdv (P : zP) (i j m : Nat) : Int := max (max (zmR P i j) (if zan (zc1 P i j) m = true then (pl P i : Int) else -1)) (max (if zan (zc2 P i j) m = true then (0 : Int) else -1) (if zan (zc3 P i j) m = true then zov P i j else -1))
theorem zmR_I {P : zP} (hw : zWf P) {i j : Nat} (hi : i < pn P) : -1 ≤ zmR P i j ∧ zmR P i j ≤ 12 := by
  have h1 := zpl_le hw hi
  unfold zmR
  split
  · split
    · omega
    · split <;> omega
  · omega
theorem zov_I {P : zP} (hw : zWf P) {i j : Nat} (hi : i < pn P) (hj : j < pn P) : 1 ≤ zov P i j ∧ zov P i j ≤ 12 := by
  have h1 := zpl_le hw hi
  have h2 := zpl_le hw hj
  unfold zov
  omega
theorem zdv_I {P : zP} (hw : zWf P) {i j : Nat} (hi : i < pn P) (hj : j < pn P) (m : Nat) : -1 ≤ zdv P i j m ∧ zdv P i j m ≤ 12 := by
  have h1 := zpl_le hw hi
  have h2 := zmR_I hw (j := j) hi
  have h3 := zov_I hw hi hj
  unfold zdv
  split <;> split <;> split <;> omega
section ZX
variable {L : Nat} {M : zM} {P : zP}
theorem sp_M_writes {i r : Nat} (hB : zBm M P) (hw : zWf P) (hi : i < pn P) (hr : r < 16) : zf (zSh L) 1 kX8_writes [zvr 34, zvi i, zvi r] M (fun v M1 => v = some (.inl (zb (zwr P i r))) ∧ M1 = M) := by
  have h60 := hw.1
  obtain ⟨hk, ht, ha, hb, hc⟩ := hw.2.2.2.2 i hi
  obtain ⟨b1, b2, b3, b4⟩ := hB
  obtain ⟨x1, x2, x3, x4, x5⟩ := b4 i hi
  refine zf_of rfl (Nat.le_of_ble_eq_true rfl) ?_
  repeat refine zr_s rfl rfl rfl ?_
  refine zr_ald (i) rfl rfl rfl (by omega) (by decide) ?_
  repeat refine zr_s rfl rfl rfl ?_
  rw [x1]
  refine zr_ieq rfl (by omega) (by decide) (fun h => ?_) (fun h => ?_)
  · repeat refine zr_s rfl rfl rfl ?_
    exact zr_retz rfl (by omega) (⟨by rw [zb_f (by unfold zwr; simp; omega)], rfl⟩)
  · repeat refine zr_s rfl rfl rfl ?_
    refine zr_ald (i) rfl rfl rfl (by omega) (by decide) ?_
    repeat refine zr_s rfl rfl rfl ?_
    rw [x2 (by omega)]
    refine zr_ine rfl (by omega) (by omega) (fun h2 => ?_) (fun h2 => ?_)
    · repeat refine zr_s rfl rfl rfl ?_
      exact zr_retz rfl (by omega) (⟨by rw [zb_f (by unfold zwr; simp; omega)], rfl⟩)
    · repeat refine zr_s rfl rfl rfl ?_
      exact zr_retz rfl (by omega) (⟨by rw [zb_t (by unfold zwr; simp; omega)], rfl⟩)
theorem sp_M_reads {i r : Nat} (hB : zBm M P) (hw : zWf P) (hi : i < pn P) (hr : r < 16) : zf (zSh L) 1 kX8_reads [zvr 34, zvi i, zvi r] M (fun v M1 => v = some (.inl (zb (zrd P i r))) ∧ M1 = M) := by
  have h60 := hw.1
  obtain ⟨hk, ht, ha, hb, hc⟩ := hw.2.2.2.2 i hi
  obtain ⟨b1, b2, b3, b4⟩ := hB
  obtain ⟨x1, x2, x3, x4, x5⟩ := b4 i hi
  have no : zrd P i r = false → zr (zSh L) 0 tX8_reads 51 [some (zvr 34), some (zvi i), some (zvi r), some (zvi (pK P i))] [] M (fun v M1 => v = some (.inl (zb (zrd P i r))) ∧ M1 = M) := fun h => by
    repeat refine zr_s rfl rfl rfl ?_
    exact zr_retz rfl (by omega) (⟨by rw [zb_f h], rfl⟩)
  have yes : zrd P i r = true → zr (zSh L) 0 tX8_reads 47 [some (zvr 34), some (zvi i), some (zvi r), some (zvi (pK P i))] [] M (fun v M1 => v = some (.inl (zb (zrd P i r))) ∧ M1 = M) := fun h => by
    repeat refine zr_s rfl rfl rfl ?_
    exact zr_retz rfl (by omega) (⟨by rw [zb_t h], rfl⟩)
  have sec : pK P i ≠ 0 → pK P i ≠ 5 → pA P i ≠ r → zr (zSh L) 0 tX8_reads 37 [some (zvr 34), some (zvi i), some (zvi r), some (zvi (pK P i))] [] M (fun v M1 => v = some (.inl (zb (zrd P i r))) ∧ M1 = M) := fun h0 h5 hA => by
    repeat refine zr_s rfl rfl rfl ?_
    refine zr_ald (i) rfl rfl rfl (by omega) (by decide) ?_
    repeat refine zr_s rfl rfl rfl ?_
    rw [x4 h0 h5]
    refine zr_ine rfl (by omega) (by omega) (fun h => no (by unfold zrd; simp; omega)) (fun h => yes (by unfold zrd; simp; omega))
  have mid : (pK P i = 0 ∨ pA P i ≠ r) → zr (zSh L) 0 tX8_reads 21 [some (zvr 34), some (zvi i), some (zvi r), some (zvi (pK P i))] [] M (fun v M1 => v = some (.inl (zb (zrd P i r))) ∧ M1 = M) := fun hA => by
    have six : (pK P i = 0 ∨ 4 < pK P i) → zr (zSh L) 0 tX8_reads 31 [some (zvr 34), some (zvi i), some (zvi r), some (zvi (pK P i))] [] M (fun v M1 => v = some (.inl (zb (zrd P i r))) ∧ M1 = M) := fun h => by
      repeat refine zr_s rfl rfl rfl ?_
      refine zr_ine rfl (by omega) (by decide) (fun h2 => no (by unfold zrd; simp; omega)) (fun h2 => sec (by omega) (by omega) (by omega))
    repeat refine zr_s rfl rfl rfl ?_
    refine zr_ilt rfl (by omega) (by decide) (fun h => six (by omega)) (fun h => ?_)
    repeat refine zr_s rfl rfl rfl ?_
    refine zr_ile rfl (by omega) (by decide) (fun h2 => sec (by omega) (by omega) (by omega)) (fun h2 => six (by omega))
  refine zf_of rfl (Nat.le_of_ble_eq_true rfl) ?_
  repeat refine zr_s rfl rfl rfl ?_
  refine zr_ald (i) rfl rfl rfl (by omega) (by decide) ?_
  repeat refine zr_s rfl rfl rfl ?_
  rw [x1]
  refine zr_zeq rfl (by omega) (fun h => mid (by omega)) (fun h => ?_)
  repeat refine zr_s rfl rfl rfl ?_
  refine zr_ald (i) rfl rfl rfl (by omega) (by decide) ?_
  repeat refine zr_s rfl rfl rfl ?_
  rw [x3 (by omega)]
  exact zr_ieq rfl (by omega) (by omega) (fun h2 => yes (by unfold zrd; simp; omega)) (fun h2 => mid (by omega))
theorem sp_M_isWritten {a b r : Nat} (hB : zBm M P) (hw : zWf P) (ha : a ≤ pn P) (hb : b ≤ pn P) (hr : r < 16) : zf (zSh L) 2 kX8_isWritten [zvr 34, zvi a, zvi b, zvi r] M (fun v M1 => v = some (.inl (zb (zwn P r a b))) ∧ M1 = M) := by
  have h60 := hw.1
  have loop : ∀ (t k : Nat), k + t = 60 → k ≤ pn P → a ≤ k → (∀ q, a ≤ q → q < k → zwr P q r = false) → zr (zSh L) 1 tX8_isWritten 3 [some (zvr 34), some (zvi a), some (zvi b), some (zvi r), some (zvi k)] [] M (fun v M1 => v = some (.inl (zb (zwn P r a b))) ∧ M1 = M) := by
    intro t
    induction t with
    | zero =>
      intro k h1 h2 h3 h4
      repeat refine zr_s rfl rfl rfl ?_
      refine zr_ige rfl (by omega) (by omega) (fun h => ?_) (fun h => ?_)
      · repeat refine zr_s rfl rfl rfl ?_
        exact zr_retz rfl (by omega) (⟨by rw [zb_f (by rw [← Bool.not_eq_true, zwn_iff]; rintro ⟨q, q1, q2, q3⟩; rw [h4 q q1 (by omega)] at q3; cases q3)], rfl⟩)
      · omega
    | succ t ih =>
      intro k h1 h2 h3 h4
      repeat refine zr_s rfl rfl rfl ?_
      refine zr_ige rfl (by omega) (by omega) (fun h => ?_) (fun h => ?_)
      · repeat refine zr_s rfl rfl rfl ?_
        exact zr_retz rfl (by omega) (⟨by rw [zb_f (by rw [← Bool.not_eq_true, zwn_iff]; rintro ⟨q, q1, q2, q3⟩; rw [h4 q q1 (by omega)] at q3; cases q3)], rfl⟩)
      · repeat refine zr_s rfl rfl rfl ?_
        refine zr_cr rfl rfl rfl (zf_mono (Nat.le_of_ble_eq_true rfl) (sp_M_writes hB hw (by omega) hr)) ?_
        by_cases hz : zwr P k r = true
        · rw [zb_t hz]
          refine zr_zeq rfl (by decide) (fun h => by cases h) (fun _ => ?_)
          repeat refine zr_s rfl rfl rfl ?_
          exact zr_retz rfl (by omega) (⟨by rw [zb_t (zwn_iff.mpr ⟨k, h3, by omega, hz⟩)], rfl⟩)
        · rw [Bool.not_eq_true] at hz
          rw [zb_f hz]
          refine zr_zeq rfl (by decide) (fun _ => ?_) (fun h => absurd rfl h)
          repeat refine zr_s rfl rfl rfl ?_
          refine zr_b rfl rfl ?_
          exact ih (k + 1) (by omega) (by omega) (by omega) (fun q q1 q2 => by
            by_cases h5 : q = k
            · rw [h5]; exact hz
            · exact h4 q q1 (by omega))
  refine zf_of rfl (Nat.le_of_ble_eq_true rfl) ?_
  repeat refine zr_t 3 rfl rfl rfl rfl ?_
  exact loop (60 - a) a (by omega) ha (Nat.le_refl _) (fun q q1 q2 => by omega)
theorem sp_M_latencyOf {i : Nat} (hB : zBm M P) (hw : zWf P) (hi : i < pn P) : zf (zSh L) 1 kX8_latencyOf [zvr 34, zvi i] M (fun v M1 => v = some (.inl (pl P i)) ∧ M1 = M) := by
  have h60 := hw.1
  obtain ⟨hk, ht, ha, hb, hc⟩ := hw.2.2.2.2 i hi
  obtain ⟨b1, b2, b3, b4⟩ := hB
  obtain ⟨x1, x2, x3, x4, x5⟩ := b4 i hi
  refine zf_of rfl (Nat.le_of_ble_eq_true rfl) ?_
  repeat refine zr_s rfl rfl rfl ?_
  refine zr_ald (i) rfl rfl rfl (by omega) (by decide) ?_
  rw [x1]
  refine zr_ald (pK P i) rfl rfl rfl (by omega) (by decide) ?_
  rw [b3 _ hk]
  exact zr_ret rfl (⟨rfl, rfl⟩)
theorem sp_M_mayMeet {i j : Nat} (hB : zBm M P) (hw : zWf P) (hi : i < pn P) (hj : j < pn P) (h5i : pK P i ≠ 0) (h5j : pK P j ≠ 0) : zf (zSh L) 3 kX8_mayMeet [zvr 34, zvi i, zvi j] M (fun v M1 => v = some (.inl (zb (decide (pA P i ≠ pA P j ∨ zwn P (pA P i) i j = true ∨ pC P i % 64 = pC P j % 64)))) ∧ M1 = M) := by
  have h60 := hw.1
  obtain ⟨hk, ht, ha, hb, hc⟩ := hw.2.2.2.2 i hi
  obtain ⟨hk', ht', ha', hb', hc'⟩ := hw.2.2.2.2 j hj
  have hB0 := hB
  obtain ⟨b1, b2, b3, b4⟩ := hB
  obtain ⟨x1, x2, x3, x4, x5⟩ := b4 i hi
  obtain ⟨y1, y2, y3, y4, y5⟩ := b4 j hj
  have yes : (pA P i ≠ pA P j ∨ zwn P (pA P i) i j = true ∨ pC P i % 64 = pC P j % 64) → zr (zSh L) 2 tX8_mayMeet 51 [some (zvr 34), some (zvi i), some (zvi j)] [] M (fun v M1 => v = some (.inl (zb (decide (pA P i ≠ pA P j ∨ zwn P (pA P i) i j = true ∨ pC P i % 64 = pC P j % 64)))) ∧ M1 = M) := fun h => by
    repeat refine zr_s rfl rfl rfl ?_
    exact zr_retz rfl (by omega) (⟨by rw [zb_t (by rw [decide_eq_true_eq]; exact h)], rfl⟩)
  refine zf_of rfl (Nat.le_of_ble_eq_true rfl) ?_
  repeat refine zr_s rfl rfl rfl ?_
  refine zr_ald (i) rfl rfl rfl (by omega) (by decide) ?_
  repeat refine zr_s rfl rfl rfl ?_
  refine zr_ald (j) rfl rfl rfl (by omega) (by decide) ?_
  rw [x3 h5i, y3 h5j]
  refine zr_ine rfl (by omega) (by omega) (fun h => yes (Or.inl (by omega))) (fun h => ?_)
  repeat refine zr_s rfl rfl rfl ?_
  refine zr_ald (i) rfl rfl rfl (by omega) (by decide) ?_
  rw [x3 h5i]
  refine zr_cr rfl rfl rfl (zf_mono (Nat.le_of_ble_eq_true rfl) (sp_M_isWritten hB0 hw (by omega) (by omega) ha)) ?_
  by_cases hz : zwn P (pA P i) i j = true
  · rw [zb_t hz]
    exact zr_zne rfl (by decide) (fun _ => yes (Or.inr (Or.inl hz))) (fun h => by cases h)
  rw [zb_f (by simpa using hz)]
  refine zr_zne rfl (by decide) (fun h => absurd rfl h) (fun _ => ?_)
  repeat refine zr_s rfl rfl rfl ?_
  refine zr_ald (i) rfl rfl rfl (by omega) (by decide) ?_
  repeat refine zr_s rfl rfl rfl ?_
  refine zr_ald (j) rfl rfl rfl (by omega) (by decide) ?_
  repeat refine zr_s rfl rfl rfl ?_
  rw [x5, y5, zand63 hc, zand63 hc']
  refine zr_ine rfl (by omega) (by omega) (fun h2 => ?_) (fun h2 => yes (Or.inr (Or.inr h2)))
  repeat refine zr_s rfl rfl rfl ?_
  exact zr_retz rfl (by omega) (⟨by rw [zb_f (by rw [decide_eq_false_iff_not]; exact fun z => z.elim (fun z => z (by omega)) (fun z => z.elim hz h2))], rfl⟩)
theorem sp_M_memoryDelay {i j : Nat} (hB : zBm M P) (hw : zWf P) (hi : i < pn P) (hj : j < pn P) : zf (zSh L) 4 kX8_memoryDelay [zvr 34, zvi i, zvi j] M (fun v M1 => v = some (.inl (zmR P i j)) ∧ M1 = M) := by
  have h60 := hw.1
  obtain ⟨hk, ht, ha, hb, hc⟩ := hw.2.2.2.2 i hi
  obtain ⟨hk', ht', ha', hb', hc'⟩ := hw.2.2.2.2 j hj
  have hB0 := hB
  obtain ⟨b1, b2, b3, b4⟩ := hB
  obtain ⟨x1, x2, x3, x4, x5⟩ := b4 i hi
  obtain ⟨y1, y2, y3, y4, y5⟩ := b4 j hj
  have no : ¬ (5 ≤ pK P i ∧ 5 ≤ pK P j ∧ (pK P i = 6 ∨ pK P j = 6)) → zr (zSh L) 3 tX8_memoryDelay 46 [some (zvr 34), some (zvi i), some (zvi j), none] [] M (fun v M1 => v = some (.inl (zmR P i j)) ∧ M1 = M) := fun h => by
    repeat refine zr_s rfl rfl rfl ?_
    refine zr_zeq rfl (by decide) (fun _ => ?_) (fun h => absurd rfl h)
    repeat refine zr_s rfl rfl rfl ?_
    refine zr_ret rfl ?_
    unfold zmR
    rw [if_neg (fun z => h ⟨z.1, z.2.1, z.2.2.1⟩)]
    exact ⟨rfl, rfl⟩
  have yes : (5 ≤ pK P i ∧ 5 ≤ pK P j ∧ (pK P i = 6 ∨ pK P j = 6)) → zr (zSh L) 3 tX8_memoryDelay 42 [some (zvr 34), some (zvi i), some (zvi j), none] [] M (fun v M1 => v = some (.inl (zmR P i j)) ∧ M1 = M) := fun h => by
    repeat refine zr_s rfl rfl rfl ?_
    refine zr_zeq rfl (by decide) (fun h => by cases h) (fun _ => ?_)
    repeat refine zr_s rfl rfl rfl ?_
    refine zr_cr rfl rfl rfl (zf_mono (Nat.le_of_ble_eq_true rfl) (sp_M_mayMeet hB0 hw hi hj (by omega) (by omega))) ?_
    by_cases hm : pA P i ≠ pA P j ∨ zwn P (pA P i) i j = true ∨ pC P i % 64 = pC P j % 64
    rotate_left
    · rw [zb_f (by rw [decide_eq_false_iff_not]; exact hm)]
      refine zr_zne rfl (by decide) (fun h => absurd rfl h) (fun _ => ?_)
      repeat refine zr_s rfl rfl rfl ?_
      refine zr_ret rfl ?_
      unfold zmR
      rw [if_neg (fun z => hm z.2.2.2)]
      exact ⟨rfl, rfl⟩
    rw [zb_t (by rw [decide_eq_true_eq]; exact hm)]
    refine zr_zne rfl (by decide) (fun _ => ?_) (fun h => by cases h)
    unfold zmR
    rw [if_pos ⟨h.1, h.2.1, h.2.2, hm⟩]
    repeat refine zr_s rfl rfl rfl ?_
    refine zr_ald (i) rfl rfl rfl (by omega) (by decide) ?_
    repeat refine zr_s rfl rfl rfl ?_
    rw [x1]
    refine zr_ine rfl (by omega) (by decide) (fun h2 => ?_) (fun h2 => ?_)
    · rw [if_neg (by omega)]
      repeat refine zr_s rfl rfl rfl ?_
      refine zr_ald (j) rfl rfl rfl (by omega) (by decide) ?_
      repeat refine zr_s rfl rfl rfl ?_
      rw [y1]
      refine zr_ine rfl (by omega) (by decide) (fun h3 => ?_) (fun h3 => ?_)
      · rw [if_neg (by omega)]
        repeat refine zr_s rfl rfl rfl ?_
        exact zr_ret rfl (⟨rfl, rfl⟩)
      · rw [if_pos (by omega)]
        repeat refine zr_s rfl rfl rfl ?_
        refine zr_cr rfl rfl rfl (zf_mono (Nat.le_of_ble_eq_true rfl) (sp_M_latencyOf hB0 hw hi)) ?_
        repeat refine zr_s rfl rfl rfl ?_
        exact zr_ret rfl (⟨rfl, rfl⟩)
    · rw [if_pos (by omega)]
      repeat refine zr_s rfl rfl rfl ?_
      exact zr_ret rfl (⟨rfl, rfl⟩)
  refine zf_of rfl (Nat.le_of_ble_eq_true rfl) ?_
  repeat refine zr_s rfl rfl rfl ?_
  refine zr_ald (i) rfl rfl rfl (by omega) (by decide) ?_
  repeat refine zr_s rfl rfl rfl ?_
  rw [x1]
  refine zr_ilt rfl (by omega) (by decide) (fun h => no (by omega)) (fun h => ?_)
  repeat refine zr_s rfl rfl rfl ?_
  refine zr_ald (j) rfl rfl rfl (by omega) (by decide) ?_
  repeat refine zr_s rfl rfl rfl ?_
  rw [y1]
  refine zr_ilt rfl (by omega) (by decide) (fun h2 => no (by omega)) (fun h2 => ?_)
  repeat refine zr_s rfl rfl rfl ?_
  refine zr_ald (i) rfl rfl rfl (by omega) (by decide) ?_
  repeat refine zr_s rfl rfl rfl ?_
  rw [x1]
  refine zr_ieq rfl (by omega) (by decide) (fun h3 => yes (by omega)) (fun h3 => ?_)
  repeat refine zr_s rfl rfl rfl ?_
  refine zr_ald (j) rfl rfl rfl (by omega) (by decide) ?_
  repeat refine zr_s rfl rfl rfl ?_
  rw [y1]
  refine zr_ine rfl (by omega) (by decide) (fun h4 => no (by omega)) (fun h4 => yes (by omega))
theorem sp_M_delayOf {i j : Nat} (hB : zBm M P) (hw : zWf P) (hi : i < pn P) (hj : j < pn P) : zf (zSh L) 5 kX8_delayOf [zvr 34, zvi i, zvi j] M (fun v M1 => v = some (.inl (zdv P i j 16)) ∧ M1 = M) := by
  have h60 := hw.1
  have hli := zpl_le hw hi
  have hlj := zpl_le hw hj
  have hov := zov_I hw hi hj
  have loop : ∀ (t r : Nat) (o : Option zV), r + t = 16 → zr (zSh L) 4 tX8_delayOf 10 [some (zvr 34), some (zvi i), some (zvi j), some (zvi (zdv P i j r)), some (zvi r), o] [] M (fun v M1 => v = some (.inl (zdv P i j 16)) ∧ M1 = M) := by
    intro t
    induction t with
    | zero =>
      intro r o hr
      repeat refine zr_s rfl rfl rfl ?_
      refine zr_ige rfl (by omega) (by decide) (fun h => ?_) (fun h => by omega)
      repeat refine zr_s rfl rfl rfl ?_
      refine zr_ret rfl ⟨by rw [show r = 16 by omega], rfl⟩
    | succ t ih =>
      intro r o hr
      have hdI := zdv_I hw hi hj r
      have nxt : ∀ (x : Int) (o : Option zV), x = zdv P i j (r + 1) → zr (zSh L) 4 tX8_delayOf 153 [some (zvr 34), some (zvi i), some (zvi j), some (zvi x), some (zvi r), o] [] M (fun v M1 => v = some (.inl (zdv P i j 16)) ∧ M1 = M) := by
        intro x o hx
        repeat refine zr_s rfl rfl rfl ?_
        refine zr_b rfl rfl ?_
        rw [hx]
        exact ih (r + 1) o (by omega)
      repeat refine zr_s rfl rfl rfl ?_
      refine zr_ige rfl (by omega) (by decide) (fun h => by omega) (fun h => ?_)
      repeat refine zr_s rfl rfl rfl ?_
      refine zr_cr rfl rfl rfl (zf_mono (Nat.le_of_ble_eq_true rfl) (sp_M_isWritten (a := i + 1) hB hw (by omega) (by omega) (by omega))) ?_
      cases hz : zwn P r (i + 1) j with
      | true =>
        rw [zb_t rfl]
        refine zr_zne rfl (by decide) (fun _ => ?_) (fun h => by cases h)
        refine nxt _ _ ?_
        have e1 : zan (zc1 P i j) (r + 1) = zan (zc1 P i j) r := by show (_ || zc1 P i j r) = _; unfold zc1; rw [hz]; simp
        have e2 : zan (zc2 P i j) (r + 1) = zan (zc2 P i j) r := by show (_ || zc2 P i j r) = _; unfold zc2; rw [hz]; simp
        have e3 : zan (zc3 P i j) (r + 1) = zan (zc3 P i j) r := by show (_ || zc3 P i j r) = _; unfold zc3; rw [hz]; simp
        unfold zdv
        rw [e1, e2, e3]
      | false =>
        rw [zb_f rfl]
        refine zr_zne rfl (by decide) (fun h => absurd rfl h) (fun _ => ?_)
        have e1 : zan (zc1 P i j) (r + 1) = (zan (zc1 P i j) r || (zwr P i r && zrd P j r)) := by show (_ || zc1 P i j r) = _; unfold zc1; rw [hz]; simp
        have e2 : zan (zc2 P i j) (r + 1) = (zan (zc2 P i j) r || (zrd P i r && zwr P j r)) := by show (_ || zc2 P i j r) = _; unfold zc2; rw [hz]; simp
        have e3 : zan (zc3 P i j) (r + 1) = (zan (zc3 P i j) r || (zwr P i r && zwr P j r)) := by show (_ || zc3 P i j r) = _; unfold zc3; rw [hz]; simp
        have hm := zmR_I hw (j := j) hi
        have third : ∀ (x : Int), x = max (max (zmR P i j) (if zan (zc1 P i j) (r + 1) = true then (pl P i : Int) else -1)) (max (if zan (zc2 P i j) (r + 1) = true then (0 : Int) else -1) (if zan (zc3 P i j) r = true then zov P i j else -1)) → zr (zSh L) 4 tX8_delayOf 91 [some (zvr 34), some (zvi i), some (zvi j), some (zvi x), some (zvi r), o] [] M (fun v M1 => v = some (.inl (zdv P i j 16)) ∧ M1 = M) := by
          intro x hx
          have hxI : -1 ≤ x ∧ x ≤ 12 := by
            rw [hx]
            split <;> split <;> split <;> omega
          have keep : (zwr P i r && zwr P j r) = false → x = zdv P i j (r + 1) := fun h => by
            rw [hx]
            unfold zdv
            rw [e3, h, Bool.or_false]
          repeat refine zr_s rfl rfl rfl ?_
          refine zr_cr rfl rfl rfl (zf_mono (Nat.le_of_ble_eq_true rfl) (sp_M_writes hB hw hi (by omega))) ?_
          cases ha : zwr P i r with
          | false =>
            rw [zb_f rfl]
            exact zr_zeq rfl (by decide) (fun _ => nxt _ _ (keep (by rw [ha]; rfl))) (fun h => absurd rfl h)
          | true =>
            rw [zb_t rfl]
            refine zr_zeq rfl (by decide) (fun h => by cases h) (fun _ => ?_)
            repeat refine zr_s rfl rfl rfl ?_
            refine zr_cr rfl rfl rfl (zf_mono (Nat.le_of_ble_eq_true rfl) (sp_M_writes hB hw hj (by omega))) ?_
            cases hb : zwr P j r with
            | false =>
              rw [zb_f rfl]
              exact zr_zeq rfl (by decide) (fun _ => nxt _ _ (keep (by rw [hb, Bool.and_false]))) (fun h => absurd rfl h)
            | true =>
              rw [zb_t rfl]
              refine zr_zeq rfl (by decide) (fun h => by cases h) (fun _ => ?_)
              have e3t : zan (zc3 P i j) (r + 1) = true := by rw [e3, ha, hb]; simp
              have fin : ∀ y : Int, y = max x (zov P i j) → y = zdv P i j (r + 1) := fun y hy => by
                rw [hy, hx]
                unfold zdv
                rw [e3t, if_pos rfl]
                split <;> split <;> split <;> omega
              repeat refine zr_s rfl rfl rfl ?_
              refine zr_cr rfl rfl rfl (zf_mono (Nat.le_of_ble_eq_true rfl) (sp_M_latencyOf hB hw hi)) ?_
              repeat refine zr_s rfl rfl rfl ?_
              refine zr_cr rfl rfl rfl (zf_mono (Nat.le_of_ble_eq_true rfl) (sp_M_latencyOf hB hw hj)) ?_
              repeat refine zr_s rfl rfl rfl ?_
              have last : ∀ y : Int, y = zov P i j → zr (zSh L) 4 tX8_delayOf 138 [some (zvr 34), some (zvi i), some (zvi j), some (zvi x), some (zvi r), some (zvi ((pl P i : Int) - pl P j + 1))] [zvi y] M (fun v M1 => v = some (.inl (zdv P i j 16)) ∧ M1 = M) := by
                intro y hy
                repeat refine zr_s rfl rfl rfl ?_
                refine zr_ile rfl (by omega) (by omega) (fun h2 => ?_) (fun h2 => ?_)
                · repeat refine zr_t 153 rfl rfl rfl rfl ?_
                  exact nxt _ _ (fin _ (by omega))
                · repeat refine zr_t 153 rfl rfl rfl rfl ?_
                  exact nxt _ _ (fin _ (by omega))
              refine zr_ige rfl (by omega) (by decide) (fun h2 => ?_) (fun h2 => ?_)
              · repeat refine zr_t 138 rfl rfl rfl rfl ?_
                exact last _ (by unfold zov; omega)
              · repeat refine zr_t 138 rfl rfl rfl rfl ?_
                exact last _ (by unfold zov; omega)
        have second : ∀ (x : Int), x = max (max (zmR P i j) (if zan (zc1 P i j) (r + 1) = true then (pl P i : Int) else -1)) (max (if zan (zc2 P i j) r = true then (0 : Int) else -1) (if zan (zc3 P i j) r = true then zov P i j else -1)) → zr (zSh L) 4 tX8_delayOf 65 [some (zvr 34), some (zvi i), some (zvi j), some (zvi x), some (zvi r), o] [] M (fun v M1 => v = some (.inl (zdv P i j 16)) ∧ M1 = M) := by
          intro x hx
          have hxI : -1 ≤ x ∧ x ≤ 12 := by
            rw [hx]
            split <;> split <;> split <;> omega
          have keep : (zrd P i r && zwr P j r) = false → x = max (max (zmR P i j) (if zan (zc1 P i j) (r + 1) = true then (pl P i : Int) else -1)) (max (if zan (zc2 P i j) (r + 1) = true then (0 : Int) else -1) (if zan (zc3 P i j) r = true then zov P i j else -1)) := fun h => by
            rw [hx, e2, h, Bool.or_false]
          repeat refine zr_s rfl rfl rfl ?_
          refine zr_cr rfl rfl rfl (zf_mono (Nat.le_of_ble_eq_true rfl) (sp_M_reads hB hw hi (by omega))) ?_
          cases ha : zrd P i r with
          | false =>
            rw [zb_f rfl]
            exact zr_zeq rfl (by decide) (fun _ => third _ (keep (by rw [ha]; rfl))) (fun h => absurd rfl h)
          | true =>
            rw [zb_t rfl]
            refine zr_zeq rfl (by decide) (fun h => by cases h) (fun _ => ?_)
            repeat refine zr_s rfl rfl rfl ?_
            refine zr_cr rfl rfl rfl (zf_mono (Nat.le_of_ble_eq_true rfl) (sp_M_writes hB hw hj (by omega))) ?_
            cases hb : zwr P j r with
            | false =>
              rw [zb_f rfl]
              exact zr_zeq rfl (by decide) (fun _ => third _ (keep (by rw [hb, Bool.and_false]))) (fun h => absurd rfl h)
            | true =>
              rw [zb_t rfl]
              refine zr_zeq rfl (by decide) (fun h => by cases h) (fun _ => ?_)
              have e2t : zan (zc2 P i j) (r + 1) = true := by rw [e2, ha, hb]; simp
              have fin : ∀ y : Int, y = max x 0 → y = max (max (zmR P i j) (if zan (zc1 P i j) (r + 1) = true then (pl P i : Int) else -1)) (max (if zan (zc2 P i j) (r + 1) = true then (0 : Int) else -1) (if zan (zc3 P i j) r = true then zov P i j else -1)) := fun y hy => by
                rw [hy, hx, e2t, if_pos rfl]
                split <;> split <;> split <;> omega
              repeat refine zr_s rfl rfl rfl ?_
              refine zr_zge rfl (by omega) (fun h2 => third _ (fin _ (by omega))) (fun h2 => ?_)
              repeat refine zr_t 91 rfl rfl rfl rfl ?_
              exact third _ (fin _ (by omega))
        have hx0 : zdv P i j r = max (max (zmR P i j) (if zan (zc1 P i j) r = true then (pl P i : Int) else -1)) (max (if zan (zc2 P i j) r = true then (0 : Int) else -1) (if zan (zc3 P i j) r = true then zov P i j else -1)) := rfl
        have keep : (zwr P i r && zrd P j r) = false → zdv P i j r = max (max (zmR P i j) (if zan (zc1 P i j) (r + 1) = true then (pl P i : Int) else -1)) (max (if zan (zc2 P i j) r = true then (0 : Int) else -1) (if zan (zc3 P i j) r = true then zov P i j else -1)) := fun h => by
          rw [hx0, e1, h, Bool.or_false]
        repeat refine zr_s rfl rfl rfl ?_
        refine zr_cr rfl rfl rfl (zf_mono (Nat.le_of_ble_eq_true rfl) (sp_M_writes hB hw hi (by omega))) ?_
        cases ha : zwr P i r with
        | false =>
          rw [zb_f rfl]
          exact zr_zeq rfl (by decide) (fun _ => second _ (keep (by rw [ha]; rfl))) (fun h => absurd rfl h)
        | true =>
          rw [zb_t rfl]
          refine zr_zeq rfl (by decide) (fun h => by cases h) (fun _ => ?_)
          repeat refine zr_s rfl rfl rfl ?_
          refine zr_cr rfl rfl rfl (zf_mono (Nat.le_of_ble_eq_true rfl) (sp_M_reads hB hw hj (by omega))) ?_
          cases hb : zrd P j r with
          | false =>
            rw [zb_f rfl]
            exact zr_zeq rfl (by decide) (fun _ => second _ (keep (by rw [hb, Bool.and_false]))) (fun h => absurd rfl h)
          | true =>
            rw [zb_t rfl]
            refine zr_zeq rfl (by decide) (fun h => by cases h) (fun _ => ?_)
            have e1t : zan (zc1 P i j) (r + 1) = true := by rw [e1, ha, hb]; simp
            have fin : ∀ y : Int, y = max (zdv P i j r) (pl P i) → y = max (max (zmR P i j) (if zan (zc1 P i j) (r + 1) = true then (pl P i : Int) else -1)) (max (if zan (zc2 P i j) r = true then (0 : Int) else -1) (if zan (zc3 P i j) r = true then zov P i j else -1)) := fun y hy => by
              rw [hy, hx0, e1t, if_pos rfl]
              split <;> split <;> split <;> omega
            repeat refine zr_s rfl rfl rfl ?_
            refine zr_cr rfl rfl rfl (zf_mono (Nat.le_of_ble_eq_true rfl) (sp_M_latencyOf hB hw hi)) ?_
            repeat refine zr_s rfl rfl rfl ?_
            refine zr_ile rfl (by omega) (by omega) (fun h2 => second _ (fin _ (by omega))) (fun h2 => ?_)
            repeat refine zr_s rfl rfl rfl ?_
            refine zr_cr rfl rfl rfl (zf_mono (Nat.le_of_ble_eq_true rfl) (sp_M_latencyOf hB hw hi)) ?_
            repeat refine zr_t 65 rfl rfl rfl rfl ?_
            exact second _ (fin _ (by omega))
  have h0 : zdv P i j 0 = zmR P i j := by
    have hm := zmR_I hw (j := j) hi
    show max (max (zmR P i j) (-1)) (max (-1) (-1)) = _
    omega
  refine zf_of rfl (Nat.le_of_ble_eq_true rfl) ?_
  repeat refine zr_s rfl rfl rfl ?_
  refine zr_cr rfl rfl rfl (zf_mono (Nat.le_of_ble_eq_true rfl) (sp_M_memoryDelay hB hw hi hj)) ?_
  repeat refine zr_t 10 rfl rfl rfl rfl ?_
  rw [← h0]
  exact loop 16 0 _ rfl
end ZX
end
section
/-! THE TWO DELAYS ARE ONE: bits against registers -/
def zbt (x : Int32) (r : Nat) : Bool := x.toBitVec.getLsbD r
theorem zbt_and (x y : Int32) (r : Nat) : zbt (x &&& y) r = (zbt x r && zbt y r) := by
  unfold zbt
  rw [Int32.toBitVec_and, BitVec.getLsbD_and]
theorem zbt_or (x y : Int32) (r : Nat) : zbt (x ||| y) r = (zbt x r || zbt y r) := by
  unfold zbt
  rw [Int32.toBitVec_or, BitVec.getLsbD_or]
theorem zbt_not (x : Int32) {r : Nat} (hr : r < 32) : zbt (x ^^^ (-1)) r = !zbt x r := by
  unfold zbt
  have h : (-1 : Int32).toBitVec = BitVec.allOnes 32 := by decide
  rw [Int32.toBitVec_xor, BitVec.getLsbD_xor, h, BitVec.getLsbD_allOnes]
  simp [hr]
theorem zbt_0 (r : Nat) : zbt 0 r = false := by
  unfold zbt
  have h : (0 : Int32).toBitVec = 0#32 := by decide
  rw [h, BitVec.getLsbD_zero]
theorem zbt_zone' : ∀ t : Fin 16, ∀ r : Fin 32, zbt (zone t.val) r.val = decide (t.val = r.val) := by
  decide +kernel
theorem zbt_zone {t r : Nat} (ht : t < 16) (hr : r < 32) : zbt (zone t) r = decide (t = r) := zbt_zone' ⟨t, ht⟩ ⟨r, hr⟩
theorem zbt_ne {x : Int32} : x ≠ 0 ↔ ∃ r, r < 32 ∧ zbt x r = true := by
  constructor
  · intro h
    apply Classical.byContradiction
    intro hn
    apply h
    apply Int32.toBitVec_inj.mp
    apply BitVec.eq_of_getLsbD_eq
    intro r hr
    have h0 : (0 : Int32).toBitVec.getLsbD r = false := zbt_0 r
    rw [h0, ← Bool.not_eq_true]
    exact fun z => hn ⟨r, hr, z⟩
  · rintro ⟨r, -, h⟩ rfl
    rw [zbt_0] at h
    cases h
theorem zbt_W {P : zP} (hw : zWf P) {i r : Nat} (hi : i < pn P) (hr : r < 32) : zbt (zWm P i) r = zwr P i r := by
  obtain ⟨hk, ht, ha, hb, hc⟩ := hw.2.2.2.2 i hi
  unfold zWm zwr
  by_cases h : pK P i ≠ 6
  · rw [if_pos h, zbt_zone ht hr]
    simp [h]
  · rw [if_neg h, zbt_0]
    simp at h
    simp [h]
theorem zbt_R {P : zP} (hw : zWf P) {i r : Nat} (hi : i < pn P) (hr : r < 32) : zbt (zRm P i) r = zrd P i r := by
  obtain ⟨hk, ht, ha, hb, hc⟩ := hw.2.2.2.2 i hi
  unfold zRm zrd
  by_cases h : pK P i ≠ 0
  · rw [if_pos h]
    by_cases h5 : pK P i ≠ 5
    · rw [if_pos h5, zbt_or, zbt_or, zbt_0, zbt_zone ha hr, zbt_zone hb hr]
      simp [h, h5]
    · rw [if_neg h5, zbt_or, zbt_0, zbt_zone ha hr]
      simp at h5
      simp [h5]
  · rw [if_neg h, zbt_0]
    simp at h
    simp [h]
theorem zbt_Wb {P : zP} (hw : zWf P) {j r : Nat} (hj : j < pn P) (hr : r < 32) : ∀ m, m ≤ j → (zbt (zWb P j m) r = true ↔ ∃ k, j - m ≤ k ∧ k < j ∧ zwr P k r = true)
  | 0, _ => by
    show zbt 0 r = true ↔ _
    rw [zbt_0]
    constructor
    · intro h
      cases h
    · rintro ⟨k, h1, h2, -⟩
      omega
  | m + 1, hm => by
    show zbt (zWb P j m ||| zWm P (j - 1 - m)) r = true ↔ _
    rw [zbt_or, Bool.or_eq_true, zbt_Wb hw hj hr m (by omega), zbt_W hw (by omega) hr]
    constructor
    · rintro (⟨k, h1, h2, h3⟩ | h)
      · exact ⟨k, by omega, h2, h3⟩
      · exact ⟨j - 1 - m, by omega, by omega, h⟩
    · rintro ⟨k, h1, h2, h3⟩
      by_cases h : k = j - 1 - m
      · exact Or.inr (h ▸ h3)
      · exact Or.inl ⟨k, by omega, h2, h3⟩
theorem zbt_Wn {P : zP} (hw : zWf P) {i j r : Nat} (hij : i < j) (hj : j < pn P) (hr : r < 32) : zbt (zWb P j (j - 1 - i)) r = zwn P r (i + 1) j := by
  rw [Bool.eq_iff_iff, zbt_Wb hw hj hr _ (by omega), zwn_iff, show j - (j - 1 - i) = i + 1 by omega]
theorem zwr_lt {P : zP} (hw : zWf P) {i r : Nat} (hi : i < pn P) (h : zwr P i r = true) : r < 16 := by
  have := (hw.2.2.2.2 i hi).2.1
  unfold zwr at h
  rw [decide_eq_true_eq] at h
  omega
theorem zdr_eq {P : zP} (hw : zWf P) {i j : Nat} (hij : i < j) (hj : j < pn P) : zdv P i j 16 = if zdc P i j = -3 then -1 else zdc P i j := by
  have hi : i < pn P := by omega
  obtain ⟨hk, ht, ha, hb, hc⟩ := hw.2.2.2.2 i hi
  obtain ⟨hk', ht', ha', hb', hc'⟩ := hw.2.2.2.2 j hj
  have hli := zpl_le hw hi
  have hlj := zpl_le hw hj
  have hov := zov_I hw hi hj
  have q1 : (zRm P j &&& zWm P i &&& (zWb P j (j - 1 - i) ^^^ (-1)) ≠ 0) ↔ zan (zc1 P i j) 16 = true := by
    rw [zbt_ne, zan_iff]
    constructor
    · rintro ⟨r, h1, h2⟩
      rw [zbt_and, zbt_and, zbt_not _ h1, zbt_R hw hj h1, zbt_W hw hi h1, zbt_Wn hw hij hj h1, Bool.and_eq_true, Bool.and_eq_true] at h2
      refine ⟨r, zwr_lt hw hi h2.1.2, ?_⟩
      unfold zc1
      rw [h2.1.1, h2.1.2, h2.2]
      rfl
    · rintro ⟨r, h1, h2⟩
      unfold zc1 at h2
      rw [Bool.and_eq_true, Bool.and_eq_true] at h2
      refine ⟨r, by omega, ?_⟩
      rw [zbt_and, zbt_and, zbt_not _ (by omega), zbt_R hw hj (by omega), zbt_W hw hi (by omega), zbt_Wn hw hij hj (by omega), h2.1, h2.2.1, h2.2.2]
      rfl
  have q2 : (zWm P j &&& zRm P i &&& (zWb P j (j - 1 - i) ^^^ (-1)) ≠ 0) ↔ zan (zc2 P i j) 16 = true := by
    rw [zbt_ne, zan_iff]
    constructor
    · rintro ⟨r, h1, h2⟩
      rw [zbt_and, zbt_and, zbt_not _ h1, zbt_R hw hi h1, zbt_W hw hj h1, zbt_Wn hw hij hj h1, Bool.and_eq_true, Bool.and_eq_true] at h2
      refine ⟨r, zwr_lt hw hj h2.1.1, ?_⟩
      unfold zc2
      rw [h2.1.1, h2.1.2, h2.2]
      rfl
    · rintro ⟨r, h1, h2⟩
      unfold zc2 at h2
      rw [Bool.and_eq_true, Bool.and_eq_true] at h2
      refine ⟨r, by omega, ?_⟩
      rw [zbt_and, zbt_and, zbt_not _ (by omega), zbt_R hw hi (by omega), zbt_W hw hj (by omega), zbt_Wn hw hij hj (by omega), h2.1, h2.2.1, h2.2.2]
      rfl
  have q3 : (zWm P j &&& zWm P i &&& (zWb P j (j - 1 - i) ^^^ (-1)) ≠ 0) ↔ zan (zc3 P i j) 16 = true := by
    rw [zbt_ne, zan_iff]
    constructor
    · rintro ⟨r, h1, h2⟩
      rw [zbt_and, zbt_and, zbt_not _ h1, zbt_W hw hi h1, zbt_W hw hj h1, zbt_Wn hw hij hj h1, Bool.and_eq_true, Bool.and_eq_true] at h2
      refine ⟨r, zwr_lt hw hj h2.1.1, ?_⟩
      unfold zc3
      rw [h2.1.1, h2.1.2, h2.2]
      rfl
    · rintro ⟨r, h1, h2⟩
      unfold zc3 at h2
      rw [Bool.and_eq_true, Bool.and_eq_true] at h2
      refine ⟨r, by omega, ?_⟩
      rw [zbt_and, zbt_and, zbt_not _ (by omega), zbt_W hw hi (by omega), zbt_W hw hj (by omega), zbt_Wn hw hij hj (by omega), h2.1, h2.2.1, h2.2.2]
      rfl
  have q4 : zap P i j (zWb P j (j - 1 - i) ||| zWm P i) = false ↔ (pA P i ≠ pA P j ∨ zwn P (pA P i) i j = true ∨ pC P i % 64 = pC P j % 64) := by
    have qa : ((zWb P j (j - 1 - i) ||| zWm P i) &&& zone (pA P i) = 0) ↔ ¬ zwn P (pA P i) i j = true := by
      rw [← Decidable.not_iff_not, Decidable.not_not]
      show (_ ≠ _) ↔ _
      rw [zbt_ne, zwn_iff]
      constructor
      · rintro ⟨r, h1, h2⟩
        rw [zbt_and, zbt_or, zbt_zone ha h1, zbt_W hw hi h1, zbt_Wn hw hij hj h1, Bool.and_eq_true, Bool.or_eq_true, decide_eq_true_eq] at h2
        rcases h2.1 with h | h
        · obtain ⟨k, k1, k2, k3⟩ := zwn_iff.mp h
          exact ⟨k, by omega, k2, by rw [h2.2]; exact k3⟩
        · exact ⟨i, Nat.le_refl _, hij, by rw [h2.2]; exact h⟩
      · rintro ⟨k, k1, k2, k3⟩
        refine ⟨pA P i, by omega, ?_⟩
        rw [zbt_and, zbt_or, zbt_zone ha (by omega), zbt_W hw hi (by omega), zbt_Wn hw hij hj (by omega), Bool.and_eq_true, Bool.or_eq_true, decide_eq_true_eq]
        refine ⟨?_, rfl⟩
        by_cases h : k = i
        · exact Or.inr (h ▸ k3)
        · exact Or.inl (zwn_iff.mpr ⟨k, by omega, k2, k3⟩)
    unfold zap
    rw [← Bool.not_eq_true, Bool.and_eq_true, Bool.and_eq_true, decide_eq_true_eq, decide_eq_true_eq, decide_eq_true_eq, qa]
    by_cases u1 : pA P i = pA P j <;> by_cases u2 : zwn P (pA P i) i j = true <;> by_cases u3 : pC P i % 64 = pC P j % 64 <;> simp [u1, u2, u3]
  have hrg : zrg P i j (zWb P j (j - 1 - i) ^^^ (-1)) = (let d1 : Int := if zan (zc1 P i j) 16 = true then pl P i else -3
      let d2 : Int := if zan (zc2 P i j) 16 = true then max d1 0 else d1
      if zan (zc3 P i j) 16 = true then max d2 (zov P i j) else d2) := by
    unfold zrg zov
    simp only [q1, q2, q3]
  have hmm : zmm P i j (zWb P j (j - 1 - i)) = if zmR P i j = -1 then -3 else zmR P i j := by
    unfold zmm zmR
    by_cases hc : 5 ≤ pK P i ∧ 5 ≤ pK P j ∧ (pK P i = 6 ∨ pK P j = 6) ∧ (pA P i ≠ pA P j ∨ zwn P (pA P i) i j = true ∨ pC P i % 64 = pC P j % 64)
    · rw [if_pos ⟨hc.1, hc.2.1, hc.2.2.1, q4.mpr hc.2.2.2⟩, if_pos hc]
      have hcc := hc.2.2.1
      have hc5 := hc.1
      have hc6 := hc.2.1
      (repeat' split) <;> omega
    · rw [if_neg (fun z => hc ⟨z.1, z.2.1, z.2.2.1, q4.mp z.2.2.2⟩), if_neg hc, if_pos rfl]
  have hmR := zmR_I hw (j := j) hi
  have key : ∀ (c1 c2 c3 : Bool) (m l o : Int), -1 ≤ m → m ≤ 12 → 1 ≤ l → 1 ≤ o → max (max m (if c1 = true then l else -1)) (max (if c2 = true then (0 : Int) else -1) (if c3 = true then o else -1)) = if (max (let d1 : Int := if c1 = true then l else -3; let d2 : Int := if c2 = true then max d1 0 else d1; if c3 = true then max d2 o else d2) (if m = -1 then -3 else m)) = -3 then -1 else max (let d1 : Int := if c1 = true then l else -3; let d2 : Int := if c2 = true then max d1 0 else d1; if c3 = true then max d2 o else d2) (if m = -1 then -3 else m) := by
    intro c1 c2 c3 m l o h1 h2 h3 h4
    cases c1 <;> cases c2 <;> cases c3 <;> simp <;> (repeat' split) <;> omega
  unfold zdc
  rw [hrg, hmm]
  unfold zdv
  exact key _ _ _ _ _ _ hmR.1 hmR.2 (by omega) (by omega)
end
section
/-! THE REFERENCE'S WORK, first half: delays, ways, early cycles -/
def zdm (P : zP) (i j : Nat) : Int := if i < j then (if zdc P i j = -3 then -1 else zdc P i j) else -1
def zDm (M : zM) (P : zP) : Prop := ∀ i j, i < pn P → j < pn P → M 41 (60 * i + j) = zdm P i j
theorem zdm_I {P : zP} (hw : zWf P) {i j : Nat} (hi : i < pn P) (hj : j < pn P) : -1 ≤ zdm P i j ∧ zdm P i j ≤ 12 := by
  have := zdc_I hw hi hj
  have h2 := zdv_I hw hi hj 16
  unfold zdm
  split
  · rename_i h
    rw [← zdr_eq hw h hj]
    exact h2
  · omega
theorem zdm_lt {P : zP} {i j : Nat} (h : i < j) : zdm P i j = if zdc P i j = -3 then -1 else zdc P i j := if_pos h
theorem zdc_nn {P : zP} (hw : zWf P) {i j : Nat} (hij : i < j) (hj : j < pn P) (h : zdc P i j ≠ -3) : 0 ≤ zdc P i j := by
  have h1 := zpl_le hw (i := i) (by omega)
  have key : ∀ (c1 c2 c3 : Prop) [Decidable c1] [Decidable c2] [Decidable c3] (m l o : Int), (m = -3 ∨ 0 ≤ m) → 1 ≤ l → 1 ≤ o → max (let d1 : Int := if c1 then l else -3; let d2 : Int := if c2 then max d1 0 else d1; if c3 then max d2 o else d2) m ≠ -3 → 0 ≤ max (let d1 : Int := if c1 then l else -3; let d2 : Int := if c2 then max d1 0 else d1; if c3 then max d2 o else d2) m := by
    intro c1 c2 c3 _ _ _ m l o h1 h2 h3 h4
    revert h4
    by_cases c1 <;> by_cases c2 <;> by_cases c3 <;> simp [*] <;> omega
  refine key _ _ _ _ _ (max 1 ((pl P i : Int) - pl P j + 1)) ?_ (by omega) (by omega) h
  unfold zmm
  split
  · split
    · split <;> omega
    · omega
  · omega
theorem zdm_0 {P : zP} (hw : zWf P) {i j : Nat} (hij : i < j) (hj : j < pn P) : (0 ≤ zdm P i j ↔ zdc P i j ≠ -3) ∧ (zdc P i j ≠ -3 → zdm P i j = zdc P i j ∧ 0 ≤ zdc P i j) := by
  have h := zdm_I hw (i := i) (by omega) hj
  rw [zdm_lt hij] at h ⊢
  by_cases h3 : zdc P i j = -3
  · rw [if_pos h3]
    exact ⟨by omega, fun z => absurd h3 z⟩
  · rw [if_neg h3] at h ⊢
    have h2 := zdv_I hw (i := i) (by omega) hj 16
    rw [zdr_eq hw hij hj, if_neg h3] at h2
    have h4 := zdc_I hw (i := i) (by omega) hj
    have h5 : 0 ≤ zdc P i j := zdc_nn hw hij hj h3
    exact ⟨by omega, fun _ => ⟨rfl, h5⟩⟩
section ZX
variable {L d : Nat} {M : zM} {P : zP} {Q : Option zV → zM → Prop}
theorem sp_M_delayAt {i j : Nat} (hw : zWf P) (hD : zDm M P) (hi : i < pn P) (hj : j < pn P) : zf (zSh L) 1 kX8_delayAt [zvr 34, zvi i, zvi j] M (fun v M1 => v = some (.inl (zdm P i j)) ∧ M1 = M) := by
  have h60 := hw.1
  refine zf_of rfl (Nat.le_of_ble_eq_true rfl) ?_
  repeat refine zr_s rfl rfl rfl ?_
  refine zr_ald (60 * i + j) rfl rfl (by omega) (by omega) (by decide) ?_
  rw [hD i j hi hj]
  exact zr_ret rfl (⟨rfl, rfl⟩)
theorem sp_w_delays {o1 o2 : Option zV} (hB : zBm M P) (hw : zWf P) (k : ∀ M1 p1 p2, (∀ a, a ≠ 41 → M1 a = M a) → zDm M1 P → zr (zSh L) (d + 5) tX8_work 71 [some (zvr 34), p1, p2] [] M1 Q) : zr (zSh L) (d + 5) tX8_work 13 [some (zvr 34), o1, o2] [] M Q := by
  have h60 := hw.1
  have outer : ∀ (t i : Nat) (o2 : Option zV) (N : zM), i + t = pn P → (∀ a, a ≠ 41 → N a = M a) → (∀ a b, a < i → b < pn P → N 41 (60 * a + b) = zdm P a b) → zr (zSh L) (d + 5) tX8_work 15 [some (zvr 34), some (zvi i), o2] [] N Q := by
    intro t
    induction t with
    | zero =>
      intro i o2 N hi hN hD
      have hn : N 34 5 = pn P := by rw [hN 34 (by decide)]; exact hB.1
      repeat refine zr_s rfl rfl rfl ?_
      rw [hn]
      refine zr_ige rfl (by omega) (by omega) (fun h => ?_) (fun h => by omega)
      exact k N _ _ hN (fun a b ha hb => hD a b (by omega) hb)
    | succ t ih =>
      intro i o2 N hi hN hD
      have hn : N 34 5 = pn P := by rw [hN 34 (by decide)]; exact hB.1
      repeat refine zr_s rfl rfl rfl ?_
      rw [hn]
      refine zr_ige rfl (by omega) (by omega) (fun h => by omega) (fun h => ?_)
      have inner : ∀ (u j : Nat) (N : zM), j + u = pn P → (∀ a, a ≠ 41 → N a = M a) → (∀ a b, a < i → b < pn P → N 41 (60 * a + b) = zdm P a b) → (∀ b, b < j → N 41 (60 * i + b) = zdm P i b) → zr (zSh L) (d + 5) tX8_work 25 [some (zvr 34), some (zvi i), some (zvi j)] [] N Q := by
        intro u
        induction u with
        | zero =>
          intro j N hj hN hD hE
          have hn : N 34 5 = pn P := by rw [hN 34 (by decide)]; exact hB.1
          repeat refine zr_s rfl rfl rfl ?_
          rw [hn]
          refine zr_ige rfl (by omega) (by omega) (fun h => ?_) (fun h => by omega)
          repeat refine zr_s rfl rfl rfl ?_
          refine zr_b rfl rfl ?_
          refine ih (i + 1) _ N (by omega) hN (fun a b ha hb => ?_)
          by_cases hai : a = i
          · subst hai
            exact hE b (by omega)
          · exact hD a b (by omega) hb
        | succ u ihu =>
          intro j N hj hN hD hE
          have hn : N 34 5 = pn P := by rw [hN 34 (by decide)]; exact hB.1
          repeat refine zr_s rfl rfl rfl ?_
          rw [hn]
          refine zr_ige rfl (by omega) (by omega) (fun h => by omega) (fun h => ?_)
          have put : ∀ x : Int, x = zdm P i j → zr (zSh L) (d + 5) tX8_work 58 [some (zvr 34), some (zvi i), some (zvi j)] [zvi x, zvi (60 * i + j), zvr 41] N Q := by
            intro x hx
            refine zr_ast (60 * i + j) rfl rfl (by omega) (by omega) (by decide) ?_
            repeat refine zr_s rfl rfl rfl ?_
            refine zr_b rfl rfl ?_
            refine ihu (j + 1) _ (by omega) (fun a ha => by rw [zup_row ha]; exact hN a ha) (fun a b ha hb => ?_) (fun b hb => ?_)
            · rw [zup_off (by omega)]
              exact hD a b ha hb
            · by_cases hbj : b = j
              · rw [hbj, zup_at]
                exact hx
              · rw [zup_off (by omega)]
                exact hE b (by omega)
          repeat refine zr_s rfl rfl rfl ?_
          refine zr_ige rfl (by omega) (by omega) (fun h2 => ?_) (fun h2 => ?_)
          · repeat refine zr_t 58 rfl rfl rfl rfl ?_
            exact put _ (by unfold zdm; rw [if_neg (by omega)])
          · repeat refine zr_s rfl rfl rfl ?_
            refine zr_cr rfl rfl rfl (zf_mono (Nat.le_of_ble_eq_true rfl) (sp_M_delayOf (P := P) (zBm_of hB (fun a h1 h2 => hN a (by omega))) hw (by omega) (by omega))) ?_
            repeat refine zr_t 58 rfl rfl rfl rfl ?_
            exact put _ (by rw [zdr_eq hw (by omega) (by omega), zdm_lt (by omega)])
      repeat refine zr_t 25 rfl rfl rfl rfl ?_
      exact inner (pn P) 0 N (by omega) hN hD (fun b hb => by omega)
  repeat refine zr_t 15 rfl rfl rfl rfl ?_
  exact outer (pn P) 0 _ M (by omega) (fun _ _ => rfl) (fun a b ha _ => by omega)
theorem sp_w_ways {o1 o2 : Option zV} (hB : zBm M P) (hw : zWf P) (hD : zDm M P) (k : ∀ M1 p1 p2, (∀ a, a ≠ 42 → M1 a = M a) → zIsW P (M1 42) 0 → zr (zSh L) (d + 5) tX8_work 167 [some (zvr 34), p1, p2] [] M1 Q) : zr (zSh L) (d + 5) tX8_work 71 [some (zvr 34), o1, o2] [] M Q := by
  have h60 := hw.1
  have outer : ∀ (i : Nat) (o2 : Option zV) (N : zM), i ≤ pn P → (∀ a, a ≠ 42 → N a = M a) → zIsW P (N 42) i → zr (zSh L) (d + 5) tX8_work 78 [some (zvr 34), some (zvi ((i : Int) - 1)), o2] [] N Q := by
    intro i
    induction i with
    | zero =>
      intro o2 N hi hN hW
      repeat refine zr_s rfl rfl rfl ?_
      refine zr_zlt rfl (by omega) (fun h => ?_) (fun h => by omega)
      exact k N _ _ hN hW
    | succ i ih =>
      intro o2 N hi hN hW
      have hBN : zBm N P := zBm_of hB (fun a h1 h2 => hN a (by omega))
      have hl := zpl_le hw (i := i) (by omega)
      rw [show ((i + 1 : Nat) : Int) - 1 = i by omega]
      repeat refine zr_s rfl rfl rfl ?_
      refine zr_zlt rfl (by omega) (fun h => by omega) (fun h => ?_)
      repeat refine zr_s rfl rfl rfl ?_
      refine zr_cr rfl rfl rfl (zf_mono (Nat.le_of_ble_eq_true rfl) (sp_M_latencyOf hBN hw (by omega))) ?_
      refine zr_ast (i) rfl rfl rfl (by omega) (by decide) ?_
      have hFI : ∀ q, i < q → q < pn P → 1 ≤ N 42 q ∧ N 42 q ≤ 12 * ((pn P : Int) - q) := fun q h1 h2 => zIsW_I hw hW (pn P - q) q (by omega) (by omega) h2
      have inner : ∀ (u t : Nat) (N1 : zM), i + 1 + t + u = pn P → (∀ a, a ≠ 42 → N1 a = M a) → (∀ q, i < q → q < pn P → N1 42 q = N 42 q) → N1 42 i = zwf P i (N 42) t → zr (zSh L) (d + 5) tX8_work 97 [some (zvr 34), some (zvi i), some (zvi ((i + 1 + t : Nat) : Int))] [] N1 Q := by
        intro u
        induction u with
        | zero =>
          intro t N1 ht hN1 hF hE
          have hn : N1 34 5 = pn P := by rw [hN1 34 (by decide)]; exact hB.1
          repeat refine zr_s rfl rfl rfl ?_
          rw [hn]
          refine zr_ige rfl (by omega) (by omega) (fun h => ?_) (fun h => by omega)
          repeat refine zr_s rfl rfl rfl ?_
          refine zr_b rfl rfl ?_
          refine ih _ N1 (by omega) hN1 (fun q h1 h2 => ?_)
          by_cases hq : q = i
          · subst hq
            rw [hE, show t = pn P - 1 - q by omega]
            exact zwf_congr _ (fun j g1 g2 => (hF j g1 (by omega)).symm)
          · rw [hF q (by omega) h2, hW q (by omega) h2]
            exact zwf_congr _ (fun j g1 g2 => (hF j (by omega) (by omega)).symm)
        | succ u ihu =>
          intro t N1 ht hN1 hF hE
          have hn : N1 34 5 = pn P := by rw [hN1 34 (by decide)]; exact hB.1
          have hDN : zDm N1 P := fun a b ha hb => by rw [hN1 41 (by decide)]; exact hD a b ha hb
          have hz := zdm_0 hw (i := i) (j := i + 1 + t) (by omega) (by omega)
          have hzI := zdm_I hw (i := i) (j := i + 1 + t) (by omega) (by omega)
          have hwI := zwf_I hw (f := N 42) (i := i) (by omega) t (by omega) hFI
          have hjI := hFI (i + 1 + t) (by omega) (by omega)
          have keep : N1 42 i = zwf P i (N 42) (t + 1) → zr (zSh L) (d + 5) tX8_work 155 [some (zvr 34), some (zvi i), some (zvi ((i + 1 + t : Nat) : Int))] [] N1 Q := fun h => by
            repeat refine zr_s rfl rfl rfl ?_
            refine zr_b rfl rfl ?_
            exact ihu (t + 1) N1 (by omega) hN1 hF h
          have wS : zwf P i (N 42) (t + 1) = if zdc P i (i + 1 + t) ≠ -3 then max (zwf P i (N 42) t) (zdc P i (i + 1 + t) + N 42 (i + 1 + t)) else zwf P i (N 42) t := rfl
          repeat refine zr_s rfl rfl rfl ?_
          rw [hn]
          refine zr_ige rfl (by omega) (by omega) (fun h => by omega) (fun h => ?_)
          repeat refine zr_s rfl rfl rfl ?_
          refine zr_cr rfl rfl rfl (zf_mono (Nat.le_of_ble_eq_true rfl) (sp_M_delayAt hw hDN (by omega) (by omega))) ?_
          refine zr_zlt rfl (by omega) (fun h2 => ?_) (fun h2 => ?_)
          · exact keep (by rw [wS, if_neg (by omega), hE])
          have hne : zdc P i (i + 1 + t) ≠ -3 := hz.1.mp h2
          have hde := hz.2 hne
          rw [if_pos hne] at wS
          repeat refine zr_s rfl rfl rfl ?_
          refine zr_cr rfl rfl rfl (zf_mono (Nat.le_of_ble_eq_true rfl) (sp_M_delayAt hw hDN (by omega) (by omega))) ?_
          repeat refine zr_s rfl rfl rfl ?_
          refine zr_ald (i + 1 + t) rfl rfl rfl (by omega) (by decide) ?_
          repeat refine zr_s rfl rfl rfl ?_
          refine zr_ald (i) rfl rfl rfl (by omega) (by decide) ?_
          rw [hF (i + 1 + t) (by omega) (by omega), hE]
          refine zr_ile rfl (by omega) (by omega) (fun h3 => ?_) (fun h3 => ?_)
          · exact keep (by rw [wS, hE]; omega)
          repeat refine zr_s rfl rfl rfl ?_
          refine zr_cr rfl rfl rfl (zf_mono (Nat.le_of_ble_eq_true rfl) (sp_M_delayAt hw hDN (by omega) (by omega))) ?_
          repeat refine zr_s rfl rfl rfl ?_
          refine zr_ald (i + 1 + t) rfl rfl rfl (by omega) (by decide) ?_
          repeat refine zr_s rfl rfl rfl ?_
          refine zr_ast (i) rfl rfl rfl (by omega) (by decide) ?_
          repeat refine zr_s rfl rfl rfl ?_
          refine zr_b rfl rfl ?_
          rw [hF (i + 1 + t) (by omega) (by omega)]
          refine ihu (t + 1) _ (by omega) (fun a ha => by rw [zup_row ha]; exact hN1 a ha) (fun q h4 h5 => by rw [zup_off (by omega)]; exact hF q h4 h5) ?_
          rw [zup_at, wS]
          omega
      repeat refine zr_t 97 rfl rfl rfl rfl ?_
      exact inner (pn P - (i + 1)) 0 _ (by omega) (fun a ha => by rw [zup_row ha]; exact hN a ha) (fun q h1 h2 => zup_off (by omega)) zup_at
  repeat refine zr_t 78 rfl rfl rfl rfl ?_
  rw [hB.1]
  exact outer (pn P) _ M (Nat.le_refl _) (fun _ _ => rfl) (fun i h1 h2 => by omega)
theorem sp_w_early {o1 o2 : Option zV} (hB : zBm M P) (hw : zWf P) (hD : zDm M P) (k : ∀ M1 p1 p2, (∀ a, a ≠ 43 → M1 a = M a) → zIsE P (M1 43) (pn P) → zr (zSh L) (d + 5) tX8_work 253 [some (zvr 34), p1, p2] [] M1 Q) : zr (zSh L) (d + 5) tX8_work 167 [some (zvr 34), o1, o2] [] M Q := by
  have h60 := hw.1
  have outer : ∀ (t j : Nat) (o2 : Option zV) (N : zM), j + t = pn P → (∀ a, a ≠ 43 → N a = M a) → zIsE P (N 43) j → (∀ q, q < j → 0 ≤ N 43 q ∧ N 43 q ≤ 12 * q) → zr (zSh L) (d + 5) tX8_work 169 [some (zvr 34), some (zvi j), o2] [] N Q := by
    intro t
    induction t with
    | zero =>
      intro j o2 N hj hN hE hI
      have hn : N 34 5 = pn P := by rw [hN 34 (by decide)]; exact hB.1
      repeat refine zr_s rfl rfl rfl ?_
      rw [hn]
      refine zr_ige rfl (by omega) (by omega) (fun h => ?_) (fun h => by omega)
      exact k N _ _ hN (by rw [show pn P = j by omega]; exact hE)
    | succ t ih =>
      intro j o2 N hj hN hE hI
      have hn : N 34 5 = pn P := by rw [hN 34 (by decide)]; exact hB.1
      repeat refine zr_s rfl rfl rfl ?_
      rw [hn]
      refine zr_ige rfl (by omega) (by omega) (fun h => by omega) (fun h => ?_)
      repeat refine zr_s rfl rfl rfl ?_
      refine zr_ast (j) rfl rfl rfl (by omega) (by decide) ?_
      have inner : ∀ (u i : Nat) (N1 : zM), i + u = j → (∀ a, a ≠ 43 → N1 a = M a) → (∀ q, q < j → N1 43 q = N 43 q) → N1 43 j = zlc (fun i => zdc P i j) (N 43) i → zr (zSh L) (d + 5) tX8_work 186 [some (zvr 34), some (zvi j), some (zvi i)] [] N1 Q := by
        intro u
        induction u with
        | zero =>
          intro i N1 hi hN1 hF hG
          repeat refine zr_s rfl rfl rfl ?_
          refine zr_ige rfl (by omega) (by omega) (fun h => ?_) (fun h => by omega)
          repeat refine zr_s rfl rfl rfl ?_
          refine zr_b rfl rfl ?_
          have hij : i = j := by omega
          subst hij
          have hb : 0 ≤ zlc (fun q => zdc P q i) (N 43) i ∧ zlc (fun q => zdc P q i) (N 43) i ≤ 12 * i := by
            by_cases h0 : i = 0
            · subst h0
              exact ⟨Int.le_refl _, Int.le_refl _⟩
            · have := zlc_I (g := fun q => zdc P q i) (f := N 43) i (c := 12 * (i : Int) - 12) (by omega) (fun q hq => by have := zdc_I hw (i := q) (j := i) (by omega) (by omega); have := hI q hq; exact ⟨by omega, by omega, by omega⟩)
              omega
          refine ih (i + 1) _ N1 (by omega) hN1 (fun q hq => ?_) (fun q hq => ?_)
          · by_cases hqi : q = i
            · subst hqi
              rw [hG]
              exact zlc_congr _ (fun a ha _ => (hF a ha).symm)
            · rw [hF q (by omega), hE q (by omega)]
              exact zlc_congr _ (fun a ha _ => (hF a (by omega)).symm)
          · by_cases hqi : q = i
            · subst hqi
              rw [hG]
              exact hb
            · rw [hF q (by omega)]
              exact hI q (by omega)
        | succ u ihu =>
          intro i N1 hi hN1 hF hG
          have hDN : zDm N1 P := fun a b ha hb => by rw [hN1 41 (by decide)]; exact hD a b ha hb
          have hz := zdm_0 hw (i := i) (j := j) (by omega) (by omega)
          have hzI := zdm_I hw (i := i) (j := j) (by omega) (by omega)
          have hcI := zlc_I (g := fun q => zdc P q j) (f := N 43) i (c := 12 * (i : Int)) (by omega) (fun q hq => by have := zdc_I hw (i := q) (j := j) (by omega) (by omega); have := hI q (by omega); exact ⟨by omega, by omega, by omega⟩)
          have hiI := hI i (by omega)
          have keep : N1 43 j = zlc (fun i => zdc P i j) (N 43) (i + 1) → zr (zSh L) (d + 5) tX8_work 241 [some (zvr 34), some (zvi j), some (zvi i)] [] N1 Q := fun h => by
            repeat refine zr_s rfl rfl rfl ?_
            refine zr_b rfl rfl ?_
            exact ihu (i + 1) N1 (by omega) hN1 hF h
          have wS : zlc (fun i => zdc P i j) (N 43) (i + 1) = if zdc P i j ≠ -3 ∧ 0 ≤ N 43 i then max (zlc (fun i => zdc P i j) (N 43) i) (N 43 i + zdc P i j) else zlc (fun i => zdc P i j) (N 43) i := rfl
          repeat refine zr_s rfl rfl rfl ?_
          refine zr_ige rfl (by omega) (by omega) (fun h => by omega) (fun h => ?_)
          repeat refine zr_s rfl rfl rfl ?_
          refine zr_cr rfl rfl rfl (zf_mono (Nat.le_of_ble_eq_true rfl) (sp_M_delayAt hw hDN (by omega) (by omega))) ?_
          refine zr_zlt rfl (by omega) (fun h2 => ?_) (fun h2 => ?_)
          · exact keep (by rw [wS, if_neg (by omega), hG])
          have hne : zdc P i j ≠ -3 := hz.1.mp h2
          have hde := hz.2 hne
          rw [if_pos ⟨hne, hiI.1⟩] at wS
          repeat refine zr_s rfl rfl rfl ?_
          refine zr_ald (i) rfl rfl rfl (by omega) (by decide) ?_
          repeat refine zr_s rfl rfl rfl ?_
          refine zr_cr rfl rfl rfl (zf_mono (Nat.le_of_ble_eq_true rfl) (sp_M_delayAt hw hDN (by omega) (by omega))) ?_
          repeat refine zr_s rfl rfl rfl ?_
          refine zr_ald (j) rfl rfl rfl (by omega) (by decide) ?_
          rw [hF i (by omega), hG]
          refine zr_ile rfl (by omega) (by omega) (fun h3 => ?_) (fun h3 => ?_)
          · exact keep (by rw [wS, hG]; omega)
          repeat refine zr_s rfl rfl rfl ?_
          refine zr_ald (i) rfl rfl rfl (by omega) (by decide) ?_
          repeat refine zr_s rfl rfl rfl ?_
          refine zr_cr rfl rfl rfl (zf_mono (Nat.le_of_ble_eq_true rfl) (sp_M_delayAt hw hDN (by omega) (by omega))) ?_
          repeat refine zr_s rfl rfl rfl ?_
          refine zr_ast (j) rfl rfl rfl (by omega) (by decide) ?_
          repeat refine zr_s rfl rfl rfl ?_
          refine zr_b rfl rfl ?_
          rw [hF i (by omega)]
          refine ihu (i + 1) _ (by omega) (fun a ha => by rw [zup_row ha]; exact hN1 a ha) (fun q h4 => by rw [zup_off (by omega)]; exact hF q h4) ?_
          rw [zup_at, wS]
          omega
      repeat refine zr_t 186 rfl rfl rfl rfl ?_
      exact inner j 0 _ (by omega) (fun a ha => by rw [zup_row ha]; exact hN a ha) (fun q h1 => zup_off (by omega)) zup_at
  repeat refine zr_t 169 rfl rfl rfl rfl ?_
  exact outer (pn P) 0 _ M (by omega) (fun _ _ => rfl) (fun j hj => by omega) (fun q hq => by omega)
end ZX
end
section
/-! THE REFERENCE'S LIST PLAN is the class's -/
theorem zlc_le {g f : Nat → Int} {c : Int} : ∀ m, zlc g f m ≤ c ↔ 0 ≤ c ∧ ∀ a, a < m → g a ≠ -3 → 0 ≤ f a → f a + g a ≤ c
  | 0 => by
    show (0 : Int) ≤ c ↔ _
    exact ⟨fun h => ⟨h, fun a ha => by omega⟩, fun h => h.1⟩
  | m + 1 => by
    have ih := zlc_le (g := g) (f := f) (c := c) m
    show (if g m ≠ -3 ∧ 0 ≤ f m then max (zlc g f m) (f m + g m) else zlc g f m) ≤ c ↔ _
    by_cases h : g m ≠ -3 ∧ 0 ≤ f m
    · rw [if_pos h]
      constructor
      · intro h2
        have h3 := ih.mp (by omega)
        refine ⟨h3.1, fun a ha h4 h5 => ?_⟩
        by_cases ham : a = m
        · subst ham
          omega
        · exact h3.2 a (by omega) h4 h5
      · intro h2
        have h3 := ih.mpr ⟨h2.1, fun a ha => h2.2 a (by omega)⟩
        have h4 := h2.2 m (by omega) h.1 h.2
        omega
    · rw [if_neg h, ih]
      constructor
      · intro h2
        refine ⟨h2.1, fun a ha h4 h5 => ?_⟩
        by_cases ham : a = m
        · subst ham
          exact absurd ⟨h4, h5⟩ h
        · exact h2.2 a (by omega) h4 h5
      · intro h2
        exact ⟨h2.1, fun a ha => h2.2 a (by omega)⟩
def zlm (x : Int) : Int := if x = -3 then -1 else x
/-- is a no hindrance for j in cycle c -/
def zoj (P : zP) (f : Nat → Int) (j : Nat) (c : Int) (a : Nat) : Prop := zdc P a j = -3 ∨ (f a ≠ -3 ∧ f a + zdc P a j ≤ c)
theorem zwt_z {P : zP} {f : Nat → Int} {j : Nat} : ∀ {m}, (∀ a, a < m → zdc P a j ≠ -3 → f a ≠ -3) → zwt P f j m = 0
  | 0, _ => rfl
  | m + 1, h => by
    show zwt P f j m + _ = 0
    rw [zwt_z (m := m) (fun a ha => h a (by omega))]
    have := h m (by omega)
    simp
    omega
theorem zoj_iff {P : zP} {f : Nat → Int} {j : Nat} {c : Int} (hc : 0 ≤ c) (hf : ∀ a, a < j → f a = -3 ∨ 0 ≤ f a) : (∀ a, a < j → zoj P f j c a) ↔ zwt P f j j = 0 ∧ zpf P f j ≤ c := by
  have hz : zpf P f j ≤ c ↔ _ := zlc_le (g := fun i => zdc P i j) (f := f) (c := c) j
  rw [hz]
  constructor
  · intro h
    refine ⟨zwt_z (fun a ha h2 => ?_), hc, fun a ha h2 h3 => ?_⟩
    · rcases h a ha with h3 | h3
      · exact absurd h3 h2
      · exact h3.1
    · rcases h a ha with h4 | h4
      · exact absurd h4 h2
      · exact h4.2
  · rintro ⟨h1, -, h2⟩ a ha
    by_cases h3 : zdc P a j = -3
    · exact Or.inl h3
    · have h4 := zwt_0' j h1 a ha h3
      exact Or.inr ⟨h4, h2 a ha h3 (by have := hf a ha; omega)⟩
section ZX
variable {L : Nat} {M : zM} {P : zP}
theorem sp_M_mayBegin {f : Nat → Int} {j : Nat} {c : Int} (hw : zWf P) (hD : zDm M P) (hj : j < pn P) (hc : 0 ≤ c ∧ c ≤ 100000) (hf : ∀ i, i < pn P → M 44 i = zlm (f i) ∧ (f i = -3 ∨ (0 ≤ f i ∧ f i ≤ 100000))) : zf (zSh L) 2 kX8_mayBegin [zvr 34, zvi j, zvi c] M (fun v M1 => v = some (.inl (zb (decide (zwt P f j j = 0 ∧ zpf P f j ≤ c)))) ∧ M1 = M) := by
  have h60 := hw.1
  have hiff := zoj_iff (P := P) (f := f) (j := j) (c := c) hc.1 (fun a ha => by have := (hf a (by omega)).2; omega)
  have loop : ∀ (t i : Nat), i + t = j → (∀ a, a < i → zoj P f j c a) → zr (zSh L) 1 tX8_mayBegin 5 [some (zvr 34), some (zvi j), some (zvi c), some (zvi 1), some (zvi i)] [] M (fun v M1 => v = some (.inl (zb (decide (zwt P f j j = 0 ∧ zpf P f j ≤ c)))) ∧ M1 = M) := by
    intro t
    induction t with
    | zero =>
      intro i hi ha
      repeat refine zr_s rfl rfl rfl ?_
      refine zr_ige rfl (by omega) (by omega) (fun h => ?_) (fun h => by omega)
      repeat refine zr_s rfl rfl rfl ?_
      exact zr_retz rfl (by omega) (⟨by rw [zb_t (by rw [decide_eq_true_eq, ← hiff]; exact fun a h2 => ha a (by omega))], rfl⟩)
    | succ t ih =>
      intro i hi ha
      have hz := zdm_0 hw (i := i) (j := j) (by omega) (by omega)
      have hzI := zdm_I hw (i := i) (j := j) (by omega) (by omega)
      obtain ⟨hfi, hfr⟩ := hf i (by omega)
      have no : ¬ zoj P f j c i → zr (zSh L) 1 tX8_mayBegin 58 [some (zvr 34), some (zvi j), some (zvi c), some (zvi 1), some (zvi i)] [] M (fun v M1 => v = some (.inl (zb (decide (zwt P f j j = 0 ∧ zpf P f j ≤ c)))) ∧ M1 = M) := fun hn => by
        have fin : ∀ (q : Int), zr (zSh L) 1 tX8_mayBegin 66 [some (zvr 34), some (zvi j), some (zvi c), some (zvi 0), some (zvi q)] [] M (fun v M1 => v = some (.inl (zb (decide (zwt P f j j = 0 ∧ zpf P f j ≤ c)))) ∧ M1 = M) := fun q => by
          repeat refine zr_s rfl rfl rfl ?_
          exact zr_retz rfl (by omega) (⟨by rw [zb_f (by rw [decide_eq_false_iff_not, ← hiff]; exact fun z => hn (z i (by omega)))], rfl⟩)
        repeat refine zr_s rfl rfl rfl ?_
        refine zr_b rfl rfl ?_
        repeat refine zr_s rfl rfl rfl ?_
        refine zr_ige rfl (by omega) (by omega) (fun h => fin _) (fun h => ?_)
        repeat refine zr_s rfl rfl rfl ?_
        refine zr_zeq rfl (by decide) (fun _ => fin _) (fun h => absurd rfl h)
      have yes : zoj P f j c i → zr (zSh L) 1 tX8_mayBegin 54 [some (zvr 34), some (zvi j), some (zvi c), some (zvi 1), some (zvi i)] [] M (fun v M1 => v = some (.inl (zb (decide (zwt P f j j = 0 ∧ zpf P f j ≤ c)))) ∧ M1 = M) := fun hy => by
        repeat refine zr_s rfl rfl rfl ?_
        refine zr_b rfl rfl ?_
        exact ih (i + 1) (by omega) (fun a h2 => by
          by_cases h3 : a = i
          · rw [h3]; exact hy
          · exact ha a (by omega))
      repeat refine zr_s rfl rfl rfl ?_
      refine zr_ige rfl (by omega) (by omega) (fun h => by omega) (fun h => ?_)
      repeat refine zr_s rfl rfl rfl ?_
      refine zr_zeq rfl (by decide) (fun h => by cases h) (fun _ => ?_)
      repeat refine zr_s rfl rfl rfl ?_
      refine zr_cr rfl rfl rfl (zf_mono (Nat.le_of_ble_eq_true rfl) (sp_M_delayAt hw hD (by omega) (by omega))) ?_
      refine zr_zlt rfl (by omega) (fun h2 => yes (Or.inl (Decidable.byContradiction fun z => by have := hz.1.mpr z; omega))) (fun h2 => ?_)
      have hne : zdc P i j ≠ -3 := hz.1.mp h2
      have hde := hz.2 hne
      repeat refine zr_s rfl rfl rfl ?_
      refine zr_ald (i) rfl rfl rfl (by omega) (by decide) ?_
      rw [hfi]
      unfold zlm
      by_cases h3 : f i = -3
      · rw [if_pos h3]
        refine zr_zlt rfl (by decide) (fun _ => no (fun z => ?_)) (fun h => absurd h (by decide))
        rcases z with z | z
        · exact hne z
        · exact z.1 h3
      rw [if_neg h3]
      refine zr_zlt rfl (by omega) (fun h => by omega) (fun _ => ?_)
      repeat refine zr_s rfl rfl rfl ?_
      refine zr_ald (i) rfl rfl rfl (by omega) (by decide) ?_
      repeat refine zr_s rfl rfl rfl ?_
      refine zr_cr rfl rfl rfl (zf_mono (Nat.le_of_ble_eq_true rfl) (sp_M_delayAt hw hD (by omega) (by omega))) ?_
      repeat refine zr_s rfl rfl rfl ?_
      rw [hfi, zlm, if_neg h3, hde.1]
      refine zr_igt rfl (by omega) (by omega) (fun h4 => no (fun z => ?_)) (fun h4 => yes (Or.inr ⟨h3, h4⟩))
      rcases z with z | z
      · exact hne z
      · have := z.2
        omega
  refine zf_of rfl (Nat.le_of_ble_eq_true rfl) ?_
  repeat refine zr_t 5 rfl rfl rfl rfl ?_
  exact loop j 0 (by omega) (fun a ha => by omega)
theorem sp_l_best {Q : Option zV → zM → Prop} {f W : Nat → Int} {c : Int} {o1 o3 o5 o6 : Option zV} (hB : zBm M P) (hw : zWf P) (hD : zDm M P) (hc : 0 ≤ c ∧ c ≤ 100000) (hf : ∀ i, i < pn P → M 44 i = zlm (f i) ∧ (f i = -3 ∨ (0 ≤ f i ∧ f i ≤ 100000))) (hW : ∀ i, i < pn P → M 42 i = W i ∧ zI (W i)) (k : ∀ p6, zr (zSh L) 2 tX8_makeList 119 [some (zvr 34), o1, some (zvi c), o3, some (zvi 1), some (zvi (zlm (zbst P W f c (pn P)))), p6] [] M Q) : zr (zSh L) 2 tX8_makeList 52 [some (zvr 34), o1, some (zvi c), o3, some (zvi 1), o5, o6] [] M Q := by
  have h60 := hw.1
  have loop : ∀ (t j : Nat), j + t = pn P → zr (zSh L) 2 tX8_makeList 58 [some (zvr 34), o1, some (zvi c), o3, some (zvi 1), some (zvi (zlm (zbst P W f c j))), some (zvi j)] [] M Q := by
    intro t
    induction t with
    | zero =>
      intro j hj
      repeat refine zr_s rfl rfl rfl ?_
      rw [hB.1]
      refine zr_ige rfl (by omega) (by omega) (fun h => ?_) (fun h => by omega)
      rw [show j = pn P by omega]
      exact k _
    | succ t ih =>
      intro j hj
      have nxt : ∀ x : Int, x = zlm (zbst P W f c (j + 1)) → zr (zSh L) 2 tX8_makeList 113 [some (zvr 34), o1, some (zvi c), o3, some (zvi 1), some (zvi x), some (zvi j)] [] M Q := fun x hx => by
        repeat refine zr_s rfl rfl rfl ?_
        refine zr_b rfl rfl ?_
        rw [hx]
        exact ih (j + 1) (by omega)
      have bS : zbst P W f c (j + 1) = if zfree P f j = true ∧ zpf P f j ≤ c ∧ (zbst P W f c j = -3 ∨ W (zbst P W f c j).toNat < W j) then (j : Int) else zbst P W f c j := rfl
      obtain ⟨hfj, hfr⟩ := hf j (by omega)
      repeat refine zr_s rfl rfl rfl ?_
      rw [hB.1]
      refine zr_ige rfl (by omega) (by omega) (fun h => by omega) (fun h => ?_)
      repeat refine zr_s rfl rfl rfl ?_
      refine zr_ald (j) rfl rfl rfl (by omega) (by decide) ?_
      rw [hfj]
      by_cases h3 : f j = -3
      rotate_left
      · rw [show zlm (f j) = f j from if_neg h3]
        refine zr_zge rfl (by omega) (fun _ => ?_) (fun h => by omega)
        exact nxt _ (by rw [bS, if_neg (fun z => h3 (zfree_iff.mp z.1).1)])
      rw [show zlm (f j) = -1 from if_pos h3]
      refine zr_zge rfl (by decide) (fun h => absurd h (by decide)) (fun _ => ?_)
      have ask : (zbst P W f c j = -3 ∨ W (zbst P W f c j).toNat < W j) → zr (zSh L) 2 tX8_makeList 99 [some (zvr 34), o1, some (zvi c), o3, some (zvi 1), some (zvi (zlm (zbst P W f c j))), some (zvi j)] [] M Q := fun hb => by
        repeat refine zr_s rfl rfl rfl ?_
        refine zr_cr rfl rfl rfl (zf_mono (Nat.le_of_ble_eq_true rfl) (sp_M_mayBegin hw hD (by omega) hc hf)) ?_
        by_cases hm : zwt P f j j = 0 ∧ zpf P f j ≤ c
        · rw [zb_t (by rw [decide_eq_true_eq]; exact hm)]
          refine zr_zeq rfl (by decide) (fun h => by cases h) (fun _ => ?_)
          repeat refine zr_t 113 rfl rfl rfl rfl ?_
          exact nxt _ (by rw [bS, if_pos ⟨zfree_iff.mpr ⟨h3, hm.1⟩, hm.2, hb⟩, zlm, if_neg (by omega)])
        · rw [zb_f (by rw [decide_eq_false_iff_not]; exact hm)]
          refine zr_zeq rfl (by decide) (fun _ => ?_) (fun h => absurd rfl h)
          exact nxt _ (by rw [bS, if_neg (fun z => hm ⟨(zfree_iff.mp z.1).2, z.2.1⟩)])
      repeat refine zr_s rfl rfl rfl ?_
      rcases zbst_I P W f c j with hb | ⟨b, hb, hbj, -, -⟩
      · rw [hb, zlm, if_pos rfl]
        refine zr_zlt rfl (by decide) (fun _ => ?_) (fun h => absurd h (by decide))
        have := ask (Or.inl hb)
        rw [hb, zlm, if_pos rfl] at this
        exact this
      · rw [hb, zlm, if_neg (by omega)]
        refine zr_zlt rfl (by omega) (fun h => by omega) (fun _ => ?_)
        repeat refine zr_s rfl rfl rfl ?_
        refine zr_ald (j) rfl rfl rfl (by omega) (by decide) ?_
        repeat refine zr_s rfl rfl rfl ?_
        refine zr_ald (b) rfl rfl rfl (by omega) (by decide) ?_
        rw [(hW j (by omega)).1, (hW b (by omega)).1]
        refine zr_ile rfl (hW j (by omega)).2 (hW b (by omega)).2 (fun h4 => ?_) (fun h4 => ?_)
        · exact nxt _ (by rw [bS, if_neg (fun z => by rcases z.2.2 with z | z; omega; rw [hb, Int.toNat_natCast] at z; omega), hb, zlm, if_neg (by omega)])
        · have := ask (Or.inr (by rw [hb, Int.toNat_natCast]; exact h4))
          rw [hb, zlm, if_neg (by omega)] at this
          exact this
  repeat refine zr_t 58 rfl rfl rfl rfl ?_
  exact loop (pn P) 0 (by omega)
/-- where the reference stands when the class has given k their cycles -/
def zLi (P : zP) (W : Nat → Int) (k : Nat) (cy rm : Int) : Prop := (cy = (zls P W k).2.2.1 ∧ rm = pu P - (zls P W k).2.2.2) ∨ ((zls P W k).2.2.1 < cy ∧ cy ≤ zlcc P W (zls P W k) ∧ rm = pu P ∧ zlb1 P W (zls P W k) = -3)
theorem sp_M_makeList {W : Nat → Int} (hB : zBm M P) (hw : zWf P) (hD : zDm M P) (hW : ∀ i, i < pn P → M 42 i = W i ∧ zI (W i)) : zf (zSh L) 3 kX8_makeList [zvr 34] M (fun v M1 => v = none ∧ (∀ a, a ≠ 44 → a ≠ 45 → M1 a = M a) ∧ (∀ i, i < pn P → M1 44 i = (zls P W (pn P)).1 i) ∧ ∀ k, k < pn P → M1 45 k = (zls P W (pn P)).2.1 k) := by
  have h60 := hw.1
  have hu := hw.2.1
  have hu8 := hw.2.2.1
  have hfill : ∀ (t j : Nat) (o2 o3 o4 o5 o6 : Option zV) (N : zM), j + t = pn P → (∀ a, a ≠ 44 → a ≠ 45 → N a = M a) → (∀ i, i < j → N 44 i = -1) → (∀ N, (∀ a, a ≠ 44 → a ≠ 45 → N a = M a) → (∀ i, i < pn P → N 44 i = -1) → ∀ o1, zr (zSh L) 2 tX8_makeList 23 [some (zvr 34), o1, o2, o3, o4, o5, o6] [] N (fun v M1 => v = none ∧ (∀ a, a ≠ 44 → a ≠ 45 → M1 a = M a) ∧ (∀ i, i < pn P → M1 44 i = (zls P W (pn P)).1 i) ∧ ∀ k, k < pn P → M1 45 k = (zls P W (pn P)).2.1 k)) → zr (zSh L) 2 tX8_makeList 2 [some (zvr 34), some (zvi j), o2, o3, o4, o5, o6] [] N (fun v M1 => v = none ∧ (∀ a, a ≠ 44 → a ≠ 45 → M1 a = M a) ∧ (∀ i, i < pn P → M1 44 i = (zls P W (pn P)).1 i) ∧ ∀ k, k < pn P → M1 45 k = (zls P W (pn P)).2.1 k) := by
    intro t
    induction t with
    | zero =>
      intro j o2 o3 o4 o5 o6 N hj hN hE k
      have hn : N 34 5 = pn P := by rw [hN 34 (by decide) (by decide)]; exact hB.1
      repeat refine zr_s rfl rfl rfl ?_
      rw [hn]
      refine zr_ige rfl (by omega) (by omega) (fun h => ?_) (fun h => by omega)
      exact k N hN (fun i hi => hE i (by omega)) _
    | succ t ih =>
      intro j o2 o3 o4 o5 o6 N hj hN hE k
      have hn : N 34 5 = pn P := by rw [hN 34 (by decide) (by decide)]; exact hB.1
      repeat refine zr_s rfl rfl rfl ?_
      rw [hn]
      refine zr_ige rfl (by omega) (by omega) (fun h => by omega) (fun h => ?_)
      repeat refine zr_s rfl rfl rfl ?_
      refine zr_ast (j) rfl rfl rfl (by omega) (by decide) ?_
      repeat refine zr_s rfl rfl rfl ?_
      refine zr_b rfl rfl ?_
      refine ih (j + 1) _ _ _ _ _ _ (by omega) (fun a h1 h2 => by rw [zup_row h1]; exact hN a h1 h2) (fun i hi => ?_) k
      by_cases hij : i = j
      · rw [hij, zup_at]
      · rw [zup_off hij]
        exact hE i (by omega)
  have main : ∀ (fuel k : Nat) (cy rm : Int) (o5 o6 : Option zV) (N : zM), ((pn P : Int) - k) * 3000 + (2000 - cy) ≤ fuel → k ≤ pn P → (∀ a, a ≠ 44 → a ≠ 45 → N a = M a) → (∀ i, i < pn P → N 44 i = zlm ((zls P W k).1 i)) → (∀ q, q < k → N 45 q = (zls P W k).2.1 q) → zLi P W k cy rm → zr (zSh L) 2 tX8_makeList 43 [some (zvr 34), some (zvi k), some (zvi cy), some (zvi rm), some (zvi 1), o5, o6] [] N (fun v M1 => v = none ∧ (∀ a, a ≠ 44 → a ≠ 45 → M1 a = M a) ∧ (∀ i, i < pn P → M1 44 i = (zls P W (pn P)).1 i) ∧ ∀ k, k < pn P → M1 45 k = (zls P W (pn P)).2.1 k) := by
    intro fuel
    induction fuel with
    | zero =>
      intro k cy rm o5 o6 N hfu hk hN hE hO hL
      exfalso
      obtain ⟨l1, l2, l3, l4, l5, l6⟩ := zls_ok hw W k
      have hfI := zfst_I hw (f := (zls P W k).1) l1 (fun i hi => by have := l5 i hi; omega) (pn P) (Nat.le_refl _)
      have hcc : zlcc P W (zls P W k) ≤ 13 * k + 13 := by
        unfold zlcc
        split <;> omega
      rcases hL with ⟨h1, h2⟩ | ⟨h1, h2, h3, h4⟩ <;> omega
    | succ fuel ih =>
      intro k cy rm o5 o6 N hfu hk hN hE hO hL
      obtain ⟨l1, l2, l3, l4, l5, l6⟩ := zls_ok hw W k
      have hn : N 34 5 = pn P := by rw [hN 34 (by decide) (by decide)]; exact hB.1
      have hun : N 34 7 = pu P := by rw [hN 34 (by decide) (by decide)]; exact hB.2.1
      have hBN : zBm N P := zBm_of hB (fun a h1 h2 => hN a (by omega) (by omega))
      have hDN : zDm N P := fun a b ha hb => by rw [hN 41 (by decide) (by decide)]; exact hD a b ha hb
      have hWN : ∀ i, i < pn P → N 42 i = W i ∧ zI (W i) := fun i hi => by rw [hN 42 (by decide) (by decide)]; exact hW i hi
      have hfI := zfst_I hw (f := (zls P W k).1) l1 (fun i hi => by have := l5 i hi; omega) (pn P) (Nat.le_refl _)
      have hcc : zlcc P W (zls P W k) ≤ 13 * k + 13 := by
        unfold zlcc
        split <;> omega
      have hcy : 0 ≤ cy ∧ cy ≤ 13 * k + 13 := by
        rcases hL with ⟨h1, h2⟩ | ⟨h1, h2, h3, h4⟩ <;> omega
      have hrm : 0 ≤ rm ∧ rm ≤ 8 := by
        rcases hL with ⟨h1, h2⟩ | ⟨h1, h2, h3, h4⟩ <;> omega
      -- the next cycle
      have turn : ∀ (o4 o5 o6 : Option zV), (k < pn P → zLi P W k (cy + 1) (pu P)) → zr (zSh L) 2 tX8_makeList 161 [some (zvr 34), some (zvi k), some (zvi cy), some (zvi rm), o4, o5, o6] [] N (fun v M1 => v = none ∧ (∀ a, a ≠ 44 → a ≠ 45 → M1 a = M a) ∧ (∀ i, i < pn P → M1 44 i = (zls P W (pn P)).1 i) ∧ ∀ k, k < pn P → M1 45 k = (zls P W (pn P)).2.1 k) := by
        intro o4 o5 o6 hL1
        repeat refine zr_s rfl rfl rfl ?_
        refine zr_b rfl rfl ?_
        repeat refine zr_s rfl rfl rfl ?_
        rw [hn]
        refine zr_ige rfl (by omega) (by omega) (fun h => ?_) (fun h => ?_)
        · have hkn : k = pn P := by omega
          subst hkn
          refine zr_retv rfl ⟨rfl, hN, fun i hi => ?_, hO⟩
          rw [hE i hi, zlm, if_neg ((zod_P hw W).2.2.2 i hi)]
        · repeat refine zr_t 43 rfl rfl rfl rfl ?_
          rw [hun]
          exact ih k (cy + 1) (pu P) _ _ N (by omega) hk hN hE hO (hL1 (by omega))
      have hb1 : zlb1 P W (zls P W k) = if (zls P W k).2.2.2 < pu P then zbst P W (zls P W k).1 (zls P W k).2.2.1 (pn P) else -3 := rfl
      have hccd : zlcc P W (zls P W k) = if zlb1 P W (zls P W k) = -3 then max (zfst P (zls P W k).1 (pn P)) ((zls P W k).2.2.1 + 1) else (zls P W k).2.2.1 := rfl
      have hb2 : zlb2 P W (zls P W k) = if zlb1 P W (zls P W k) = -3 then zbst P W (zls P W k).1 (zlcc P W (zls P W k)) (pn P) else zlb1 P W (zls P W k) := rfl
      have hqq : zlqq P W (zls P W k) = if zlb1 P W (zls P W k) = -3 then 0 else (zls P W k).2.2.2 := rfl
      repeat refine zr_s rfl rfl rfl ?_
      refine zr_zle rfl (by omega) (fun h => ?_) (fun h => ?_)
      · refine turn _ _ _ (fun hkn => ?_)
        rcases hL with ⟨h1, h2⟩ | ⟨h1, h2, h3, h4⟩
        · have h5 : zlb1 P W (zls P W k) = -3 := by rw [hb1, if_neg (by omega)]
          exact Or.inr ⟨by omega, by rw [hccd, if_pos h5]; omega, rfl, h5⟩
        · omega
      · repeat refine zr_s rfl rfl rfl ?_
        refine zr_zeq rfl (by decide) (fun h => by cases h) (fun _ => ?_)
        refine sp_l_best (f := (zls P W k).1) hBN hw hDN ⟨hcy.1, by omega⟩ (fun i hi => ⟨hE i hi, by have := l5 i hi; omega⟩) hWN (fun p6 => ?_)
        rcases zbst_P (P := P) (W := W) (f := (zls P W k).1) (c := cy) (pn P) with ⟨hb, hnone⟩ | ⟨b, hb, hbn, hbf, hbp, -⟩
        · -- none can begin
          rw [hb, zlm, if_pos rfl]
          repeat refine zr_s rfl rfl rfl ?_
          refine zr_zlt rfl (by decide) (fun _ => ?_) (fun h => absurd h (by decide))
          repeat refine zr_s rfl rfl rfl ?_
          refine zr_zeq rfl (by decide) (fun _ => ?_) (fun h => absurd rfl h)
          refine zr_b rfl rfl ?_
          repeat refine zr_s rfl rfl rfl ?_
          have hL1 : k < pn P → zLi P W k (cy + 1) (pu P) := fun hkn => by
            rcases hL with ⟨h1, h2⟩ | ⟨h1, h2, h3, h4⟩
            · have h5 : zlb1 P W (zls P W k) = -3 := by rw [hb1, if_pos (by omega), ← h1]; exact hb
              exact Or.inr ⟨by omega, by rw [hccd, if_pos h5]; omega, rfl, h5⟩
            · refine Or.inr ⟨by omega, ?_, rfl, h4⟩
              have hgo := zls_go hw W hkn
              rw [hb2, if_pos h4] at hgo
              by_cases hcq : cy = zlcc P W (zls P W k)
              · rw [← hcq] at hgo
                exact absurd hb hgo
              · omega
          refine zr_zle rfl (by omega) (fun h => by omega) (fun _ => ?_)
          repeat refine zr_s rfl rfl rfl ?_
          refine zr_zeq rfl (by decide) (fun _ => ?_) (fun h => absurd rfl h)
          exact turn _ _ _ hL1
        · -- b begins
          rw [hb, zlm, if_neg (by omega)]
          obtain ⟨f1, f2⟩ := zfree_iff.mp hbf
          have hkn : k < pn P := by
            apply Decidable.byContradiction
            intro z
            have : k = pn P := by omega
            subst this
            exact (zod_P hw W).2.2.2 b hbn f1
          have hst : zlb2 P W (zls P W k) = b ∧ zlcc P W (zls P W k) = cy ∧ rm = pu P - zlqq P W (zls P W k) := by
            rcases hL with ⟨h1, h2⟩ | ⟨h1, h2, h3, h4⟩
            · have h5 : zlb1 P W (zls P W k) = b := by rw [hb1, if_pos (by omega), ← h1]; exact hb
              rw [hb2, hccd, hqq, if_neg (by omega), if_neg (by omega), if_neg (by omega)]
              exact ⟨h5, h1.symm, h2⟩
            · have hcq : cy = zlcc P W (zls P W k) := by
                have h5 := hccd
                rw [if_pos h4] at h5
                rcases zfst_P (P := P) (f := (zls P W k).1) (pn P) with ⟨z1, z2⟩ | ⟨z1, z2, z3⟩
                · have := z2 b hbn
                  rw [hbf] at this
                  cases this
                · have := z3 b hbn hbf
                  omega
              rw [hb2, hqq, if_pos h4, if_pos h4, ← hcq]
              exact ⟨hb, rfl, by omega⟩
          have hnx : zls P W (k + 1) = zlnext P W k (zls P W k) := rfl
          rw [zlnext_eq, hst.1, hst.2.1, if_neg (by omega), Int.toNat_natCast] at hnx
          repeat refine zr_s rfl rfl rfl ?_
          refine zr_zlt rfl (by omega) (fun h => by omega) (fun _ => ?_)
          repeat refine zr_s rfl rfl rfl ?_
          refine zr_zeq rfl (by decide) (fun h => by cases h) (fun _ => ?_)
          repeat refine zr_s rfl rfl rfl ?_
          refine zr_ast (b) rfl rfl rfl (by omega) (by decide) ?_
          repeat refine zr_s rfl rfl rfl ?_
          refine zr_ast (k) rfl rfl rfl (by omega) (by decide) ?_
          repeat refine zr_s rfl rfl rfl ?_
          refine zr_b rfl rfl ?_
          have e1 : ((k : Int) + 1) = ((k + 1 : Nat) : Int) := by omega
          rw [e1]
          refine ih (k + 1) cy (rm + -1) _ _ _ (by omega) (by omega) (fun a h1 h2 => by rw [zup_row h2, zup_row h1]; exact hN a h1 h2) (fun i hi => ?_) (fun q hq => ?_) ?_
          · rw [hnx, zup_row (by decide)]
            show _ = zlm (zfu (zls P W k).1 b cy i)
            by_cases hib : i = b
            · rw [hib, zup_at, zfu_at, zlm, if_neg (by omega)]
            · rw [zup_off hib, zfu_off hib]
              exact hE i hi
          · rw [hnx]
            show _ = zfu (zls P W k).2.1 k b q
            by_cases hqk : q = k
            · rw [hqk, zup_at, zfu_at]
            · rw [zup_off hqk, zfu_off hqk, zup_row (by decide)]
              exact hO q (by omega)
          · rw [zLi, hnx]
            exact Or.inl ⟨rfl, by show rm + -1 = _ - (_ + 1); omega⟩
  refine zf_of rfl (Nat.le_of_ble_eq_true rfl) ?_
  repeat refine zr_t 2 rfl rfl rfl rfl ?_
  refine hfill (pn P) 0 _ _ _ _ _ M (by omega) (fun _ _ _ => rfl) (fun i hi => by omega) (fun N hN hE o1 => ?_)
  have hn : N 34 5 = pn P := by rw [hN 34 (by decide) (by decide)]; exact hB.1
  have hun : N 34 7 = pu P := by rw [hN 34 (by decide) (by decide)]; exact hB.2.1
  repeat refine zr_s rfl rfl rfl ?_
  rw [hn]
  refine zr_ige rfl (by decide) (by omega) (fun h => ?_) (fun h => ?_)
  · exact zr_retv rfl ⟨rfl, hN, fun i hi => by omega, fun i hi => by omega⟩
  · repeat refine zr_t 43 rfl rfl rfl rfl ?_
    rw [hun]
    refine main 200000 0 0 (pu P) _ _ N (by omega) (by omega) hN (fun i hi => by rw [hE i hi]; rfl) (fun q hq => by omega) (Or.inl ⟨rfl, ?_⟩)
    show (pu P : Int) = pu P - 0
    omega
end ZX
end
section
/-! THE REFERENCE: least cycles, plans in order, lengths -/
/-- from 'from' on, behind the first m of the order -/
def ylr (P : zP) (ord : Nat → Nat) (f : Nat → Int) (j : Nat) (from' : Int) : Nat → Int
  | 0 => from'
  | m + 1 => if 0 ≤ zdm P (ord m) j then max (ylr P ord f j from' m) (f (ord m) + zdm P (ord m) j) else ylr P ord f j from' m
/-- y is the first cycle from x on with a unit free of those that the first k of the order take -/
def zLc (P : zP) (ord : Nat → Nat) (f : Nat → Int) (k : Nat) (x y : Int) : Prop := x ≤ y ∧ zct (fun p => f (ord p)) y k < pu P ∧ ∀ z, x ≤ z → z < y → pu P ≤ zct (fun p => f (ord p)) z k
theorem ylr_I {P : zP} (hw : zWf P) {ord : Nat → Nat} {f : Nat → Int} {j : Nat} {x b : Int} (hj : j < pn P) (hx : 0 ≤ x ∧ x ≤ b + 12) : ∀ m, (∀ p, p < m → ord p < pn P ∧ f (ord p) ≤ b) → x ≤ ylr P ord f j x m ∧ ylr P ord f j x m ≤ b + 12
  | 0, _ => by
    show x ≤ x ∧ x ≤ b + 12
    omega
  | m + 1, h => by
    have ih := ylr_I hw hj hx m (fun p hp => h p (by omega))
    obtain ⟨h1, h2⟩ := h m (by omega)
    have h3 := zdm_I hw h1 hj
    show x ≤ (if 0 ≤ zdm P (ord m) j then max (ylr P ord f j x m) (f (ord m) + zdm P (ord m) j) else ylr P ord f j x m) ∧ (if 0 ≤ zdm P (ord m) j then max (ylr P ord f j x m) (f (ord m) + zdm P (ord m) j) else ylr P ord f j x m) ≤ b + 12
    split <;> omega
theorem zct_none {w : Nat → Int} {c : Int} : ∀ m, (∀ i, i < m → w i ≠ c) → zct w c m = 0
  | 0, _ => rfl
  | m + 1, h => by
    show zct w c m + (if w m = c then 1 else 0) = 0
    rw [zct_none m (fun i hi => h i (by omega)), if_neg (h m (by omega))]
section ZX
variable {L : Nat} {M : zM} {P : zP} {ord : Nat → Nat} {c : Nat}
theorem sp_M_inCycle {m : Nat} {cy : Int} (hc : (zSh L)[c]? = some (.inl 60)) (hm : m ≤ 60) (hR : ∀ k, k < m → M 49 k = ord k ∧ ord k < 60 ∧ zI (M c (ord k))) (hcy : zI cy) : zf (zSh L) 1 kX8_inCycle [zvr 34, zvr c, zvi m, zvi cy] M (fun v M1 => v = some (.inl (zct (fun p => M c (ord p)) cy m)) ∧ M1 = M) := by
  have loop : ∀ (t k : Nat), k + t = m → zr (zSh L) 0 tX8_inCycle 6 [some (zvr 34), some (zvr c), some (zvi m), some (zvi cy), some (zvi (zct (fun p => M c (ord p)) cy k)), some (zvi k)] [] M (fun v M1 => v = some (.inl (zct (fun p => M c (ord p)) cy m)) ∧ M1 = M) := by
    intro t
    induction t with
    | zero =>
      intro k hk
      repeat refine zr_s rfl rfl rfl ?_
      refine zr_ige rfl (by omega) (by omega) (fun h => ?_) (fun h => by omega)
      repeat refine zr_s rfl rfl rfl ?_
      refine zr_ret rfl ⟨by rw [show k = m by omega], rfl⟩
    | succ t ih =>
      intro k hk
      obtain ⟨r1, r2, r3⟩ := hR k (by omega)
      have hle := zct_le (fun p => M c (ord p)) cy k
      have nxt : ∀ x : Int, x = zct (fun p => M c (ord p)) cy (k + 1) → zr (zSh L) 0 tX8_inCycle 34 [some (zvr 34), some (zvr c), some (zvi m), some (zvi cy), some (zvi (zct (fun p => M c (ord p)) cy k)), some (zvi k)] [zvi x] M (fun v M1 => v = some (.inl (zct (fun p => M c (ord p)) cy m)) ∧ M1 = M) := fun x hx => by
        repeat refine zr_s rfl rfl rfl ?_
        refine zr_b rfl rfl ?_
        rw [hx]
        exact ih (k + 1) (by omega)
      have cS : zct (fun p => M c (ord p)) cy (k + 1) = zct (fun p => M c (ord p)) cy k + if M c (ord k) = cy then 1 else 0 := rfl
      repeat refine zr_s rfl rfl rfl ?_
      refine zr_ige rfl (by omega) (by omega) (fun h => by omega) (fun h => ?_)
      repeat refine zr_s rfl rfl rfl ?_
      refine zr_ald (k) rfl rfl rfl (by omega) (by decide) ?_
      rw [r1]
      refine zr_ald (ord k) rfl hc rfl r2 (by decide) ?_
      repeat refine zr_s rfl rfl rfl ?_
      refine zr_ine rfl r3 hcy (fun h2 => ?_) (fun h2 => ?_)
      · repeat refine zr_t 34 rfl rfl rfl rfl ?_
        exact nxt _ (by rw [cS, if_neg h2]; rfl)
      · repeat refine zr_t 34 rfl rfl rfl rfl ?_
        exact nxt _ (by rw [cS, if_pos h2]; rfl)
  refine zf_of rfl (Nat.le_of_ble_eq_true rfl) ?_
  repeat refine zr_t 6 rfl rfl rfl rfl ?_
  exact loop m 0 (by omega)
theorem sp_M_leastCycle {k : Nat} {fr b : Int} (hB : zBm M P) (hw : zWf P) (hD : zDm M P) (hc : (zSh L)[c]? = some (.inl 60)) (hk : k < pn P) (hR : ∀ p, p ≤ k → M 49 p = ord p ∧ ord p < pn P) (hv : ∀ p, p < k → 0 ≤ M c (ord p) ∧ M c (ord p) ≤ b) (hb : 0 ≤ b ∧ b ≤ 100000) (hfr : 0 ≤ fr ∧ fr ≤ b) : zf (zSh L) 2 kX8_leastCycle [zvr 34, zvr c, zvi k, zvi fr] M (fun v M1 => ∃ y, v = some (.inl y) ∧ M1 = M ∧ zLc P ord (M c) k (ylr P ord (M c) (ord k) fr k) y ∧ y ≤ b + 12) := by
  have h60 := hw.1
  have hu := hw.2.1
  have hu8 := hw.2.2.1
  obtain ⟨rk, rn⟩ := hR k (Nat.le_refl _)
  have hlI : ∀ m, m ≤ k → fr ≤ ylr P ord (M c) (ord k) fr m ∧ ylr P ord (M c) (ord k) fr m ≤ b + 12 := fun m hm => ylr_I hw rn ⟨hfr.1, by omega⟩ m (fun p hp => ⟨(hR p (by omega)).2, (hv p (by omega)).2⟩)
  -- the search for a free unit
  have find : ∀ (t : Nat) (cy : Int) (o6 o7 : Option zV), (b + 12 - cy) ≤ t → ylr P ord (M c) (ord k) fr k ≤ cy → cy ≤ b + 12 → (∀ z, ylr P ord (M c) (ord k) fr k ≤ z → z < cy → pu P ≤ zct (fun p => M c (ord p)) z k) → zr (zSh L) 1 tX8_leastCycle 77 [some (zvr 34), some (zvr c), some (zvi k), some (zvi fr), some (zvi (ord k)), some (zvi cy), o6, o7] [] M (fun v M1 => ∃ y, v = some (.inl y) ∧ M1 = M ∧ zLc P ord (M c) k (ylr P ord (M c) (ord k) fr k) y ∧ y ≤ b + 12) := by
    intro t
    induction t with
    | zero =>
      intro cy o6 o7 ht h1 h2 h3
      have h0 := hlI k (Nat.le_refl _)
      repeat refine zr_s rfl rfl rfl ?_
      refine zr_cr rfl rfl rfl (zf_mono (Nat.le_of_ble_eq_true rfl) (sp_M_inCycle (ord := ord) hc (by omega) (fun p hp => by obtain ⟨q1, q2⟩ := hR p (by omega); obtain ⟨q3, q4⟩ := hv p hp; exact ⟨q1, by omega, by omega, by omega⟩) (by omega))) ?_
      repeat refine zr_s rfl rfl rfl ?_
      rw [hB.2.1]
      have hz : zct (fun p => M c (ord p)) cy k = 0 := zct_none k (fun p hp => by have := (hv p hp).2; show M c (ord p) ≠ cy; omega)
      refine zr_ilt rfl (by omega) (by omega) (fun h => ?_) (fun h => by omega)
      repeat refine zr_s rfl rfl rfl ?_
      exact zr_ret rfl ⟨cy, rfl, rfl, ⟨h1, by omega, h3⟩, h2⟩
    | succ t ih =>
      intro cy o6 o7 ht h1 h2 h3
      have h0 := hlI k (Nat.le_refl _)
      have hle := zct_le (fun p => M c (ord p)) cy k
      repeat refine zr_s rfl rfl rfl ?_
      refine zr_cr rfl rfl rfl (zf_mono (Nat.le_of_ble_eq_true rfl) (sp_M_inCycle (ord := ord) hc (by omega) (fun p hp => by obtain ⟨q1, q2⟩ := hR p (by omega); obtain ⟨q3, q4⟩ := hv p hp; exact ⟨q1, by omega, by omega, by omega⟩) (by omega))) ?_
      repeat refine zr_s rfl rfl rfl ?_
      rw [hB.2.1]
      refine zr_ilt rfl (by omega) (by omega) (fun h => ?_) (fun h => ?_)
      · repeat refine zr_s rfl rfl rfl ?_
        exact zr_ret rfl ⟨cy, rfl, rfl, ⟨h1, by omega, h3⟩, h2⟩
      · obtain ⟨p, hp, hpc⟩ := zct_ex (w := fun p => M c (ord p)) (c := cy) k (by omega)
        have hpb := (hv p hp).2
        have hpc : M c (ord p) = cy := hpc
        repeat refine zr_s rfl rfl rfl ?_
        refine zr_b rfl rfl ?_
        refine ih (cy + 1) _ _ (by omega) (by omega) (by omega) (fun z z1 z2 => ?_)
        by_cases hz : z = cy
        · rw [hz]
          omega
        · exact h3 z z1 (by omega)
  have loop : ∀ (t p : Nat) (o7 : Option zV), p + t = k → zr (zSh L) 1 tX8_leastCycle 14 [some (zvr 34), some (zvr c), some (zvi k), some (zvi fr), some (zvi (ord k)), some (zvi (ylr P ord (M c) (ord k) fr p)), some (zvi p), o7] [] M (fun v M1 => ∃ y, v = some (.inl y) ∧ M1 = M ∧ zLc P ord (M c) k (ylr P ord (M c) (ord k) fr k) y ∧ y ≤ b + 12) := by
    intro t
    induction t with
    | zero =>
      intro p o7 hp
      repeat refine zr_s rfl rfl rfl ?_
      refine zr_ige rfl (by omega) (by omega) (fun h => ?_) (fun h => by omega)
      have hpk : p = k := by omega
      subst hpk
      have h0 := hlI p (Nat.le_refl _)
      exact find (100012) _ _ _ (by omega) (Int.le_refl _) h0.2 (fun z z1 z2 => by omega)
    | succ t ih =>
      intro p o7 hp
      obtain ⟨r1, r2⟩ := hR p (by omega)
      have hvp := hv p (by omega)
      have hI := hlI p (by omega)
      have hzI := zdm_I hw r2 rn
      have lS : ylr P ord (M c) (ord k) fr (p + 1) = if 0 ≤ zdm P (ord p) (ord k) then max (ylr P ord (M c) (ord k) fr p) (M c (ord p) + zdm P (ord p) (ord k)) else ylr P ord (M c) (ord k) fr p := rfl
      have nxt : ∀ (x : Int) (o7 : Option zV), x = ylr P ord (M c) (ord k) fr (p + 1) → zr (zSh L) 1 tX8_leastCycle 71 [some (zvr 34), some (zvr c), some (zvi k), some (zvi fr), some (zvi (ord k)), some (zvi x), some (zvi p), o7] [] M (fun v M1 => ∃ y, v = some (.inl y) ∧ M1 = M ∧ zLc P ord (M c) k (ylr P ord (M c) (ord k) fr k) y ∧ y ≤ b + 12) := fun x o7 hx => by
        repeat refine zr_s rfl rfl rfl ?_
        refine zr_b rfl rfl ?_
        rw [hx]
        exact ih (p + 1) _ (by omega)
      repeat refine zr_s rfl rfl rfl ?_
      refine zr_ige rfl (by omega) (by omega) (fun h => by omega) (fun h => ?_)
      repeat refine zr_s rfl rfl rfl ?_
      refine zr_ald (p) rfl rfl rfl (by omega) (by decide) ?_
      rw [r1]
      repeat refine zr_s rfl rfl rfl ?_
      refine zr_cr rfl rfl rfl (zf_mono (Nat.le_of_ble_eq_true rfl) (sp_M_delayAt hw hD r2 rn)) ?_
      repeat refine zr_s rfl rfl rfl ?_
      refine zr_zlt rfl (by omega) (fun h2 => ?_) (fun h2 => ?_)
      · exact nxt _ _ (by rw [lS, if_neg (by omega)])
      rw [if_pos h2] at lS
      repeat refine zr_s rfl rfl rfl ?_
      refine zr_ald (p) rfl rfl rfl (by omega) (by decide) ?_
      rw [r1]
      refine zr_ald (ord p) rfl hc rfl (by omega) (by decide) ?_
      repeat refine zr_s rfl rfl rfl ?_
      refine zr_ile rfl (by omega) (by omega) (fun h3 => ?_) (fun h3 => ?_)
      · exact nxt _ _ (by rw [lS]; omega)
      · repeat refine zr_s rfl rfl rfl ?_
        refine zr_ald (p) rfl rfl rfl (by omega) (by decide) ?_
        rw [r1]
        refine zr_ald (ord p) rfl hc rfl (by omega) (by decide) ?_
        repeat refine zr_t 71 rfl rfl rfl rfl ?_
        exact nxt _ _ (by rw [lS]; omega)
  refine zf_of rfl (Nat.le_of_ble_eq_true rfl) ?_
  repeat refine zr_s rfl rfl rfl ?_
  refine zr_ald (k) rfl rfl rfl (by omega) (by decide) ?_
  rw [rk]
  repeat refine zr_t 14 rfl rfl rfl rfl ?_
  exact loop k 0 _ (by omega)
theorem sp_M_lengthOf (hB : zBm M P) (hw : zWf P) (hc : (zSh L)[c]? = some (.inl 60)) (hf : ∀ i, i < pn P → -3 ≤ M c i ∧ M c i ≤ 1000000) : zf (zSh L) 2 kX8_lengthOf [zvr 34, zvr c] M (fun v M1 => v = some (.inl (zlen P (M c) (pn P))) ∧ M1 = M) := by
  have h60 := hw.1
  have loop : ∀ (t i : Nat), i + t = pn P → zr (zSh L) 1 tX8_lengthOf 4 [some (zvr 34), some (zvr c), some (zvi (zlen P (M c) i)), some (zvi i)] [] M (fun v M1 => v = some (.inl (zlen P (M c) (pn P))) ∧ M1 = M) := by
    intro t
    induction t with
    | zero =>
      intro i hi
      repeat refine zr_s rfl rfl rfl ?_
      rw [hB.1]
      refine zr_ige rfl (by omega) (by omega) (fun h => ?_) (fun h => by omega)
      repeat refine zr_s rfl rfl rfl ?_
      refine zr_ret rfl ⟨by rw [show i = pn P by omega], rfl⟩
    | succ t ih =>
      intro i hi
      have hI := zlen_I hw hf i (by omega)
      have hfi := hf i (by omega)
      have hl := zpl_le hw (i := i) (by omega)
      have nxt : ∀ x : Int, x = zlen P (M c) (i + 1) → zr (zSh L) 1 tX8_lengthOf 38 [some (zvr 34), some (zvr c), some (zvi (zlen P (M c) i)), some (zvi i)] [zvi x] M (fun v M1 => v = some (.inl (zlen P (M c) (pn P))) ∧ M1 = M) := fun x hx => by
        repeat refine zr_s rfl rfl rfl ?_
        refine zr_b rfl rfl ?_
        rw [hx]
        exact ih (i + 1) (by omega)
      have lS : zlen P (M c) (i + 1) = max (zlen P (M c) i) (M c i + pl P i) := rfl
      repeat refine zr_s rfl rfl rfl ?_
      rw [hB.1]
      refine zr_ige rfl (by omega) (by omega) (fun h => by omega) (fun h => ?_)
      repeat refine zr_s rfl rfl rfl ?_
      refine zr_ald i rfl hc rfl (by omega) (by decide) ?_
      repeat refine zr_s rfl rfl rfl ?_
      refine zr_cr rfl rfl rfl (zf_mono (Nat.le_of_ble_eq_true rfl) (sp_M_latencyOf hB hw (by omega))) ?_
      repeat refine zr_s rfl rfl rfl ?_
      refine zr_ile rfl (by omega) (by omega) (fun h2 => ?_) (fun h2 => ?_)
      · repeat refine zr_t 38 rfl rfl rfl rfl ?_
        exact nxt _ (by rw [lS]; omega)
      · repeat refine zr_s rfl rfl rfl ?_
        refine zr_ald i rfl hc rfl (by omega) (by decide) ?_
        repeat refine zr_s rfl rfl rfl ?_
        refine zr_cr rfl rfl rfl (zf_mono (Nat.le_of_ble_eq_true rfl) (sp_M_latencyOf hB hw (by omega))) ?_
        repeat refine zr_t 38 rfl rfl rfl rfl ?_
        exact nxt _ (by rw [lS]; omega)
  refine zf_of rfl (Nat.le_of_ble_eq_true rfl) ?_
  repeat refine zr_t 4 rfl rfl rfl rfl ?_
  exact loop (pn P) 0 (by omega)
end ZX
end
section
/-! THE REFERENCE'S PLANS IN ORDER are the class's -/
theorem ylr_le {P : zP} {ord : Nat → Nat} {f : Nat → Int} {j : Nat} {c x : Int} : ∀ m, ylr P ord f j c m ≤ x ↔ c ≤ x ∧ ∀ p, p < m → 0 ≤ zdm P (ord p) j → f (ord p) + zdm P (ord p) j ≤ x
  | 0 => by
    show c ≤ x ↔ _
    exact ⟨fun h => ⟨h, fun a ha => by omega⟩, fun h => h.1⟩
  | m + 1 => by
    have ih := ylr_le (P := P) (ord := ord) (f := f) (j := j) (c := c) (x := x) m
    show (if 0 ≤ zdm P (ord m) j then max (ylr P ord f j c m) (f (ord m) + zdm P (ord m) j) else ylr P ord f j c m) ≤ x ↔ _
    by_cases h : 0 ≤ zdm P (ord m) j
    · rw [if_pos h]
      constructor
      · intro h2
        have h3 := ih.mp (by omega)
        refine ⟨h3.1, fun a ha h4 => ?_⟩
        by_cases ham : a = m
        · subst ham
          omega
        · exact h3.2 a (by omega) h4
      · intro h2
        have h3 := ih.mpr ⟨h2.1, fun a ha => h2.2 a (by omega)⟩
        have h4 := h2.2 m (by omega) h
        omega
    · rw [if_neg h, ih]
      constructor
      · intro h2
        refine ⟨h2.1, fun a ha h4 => ?_⟩
        by_cases ham : a = m
        · subst ham
          exact absurd h4 h
        · exact h2.2 a (by omega) h4
      · intro h2
        exact ⟨h2.1, fun a ha => h2.2 a (by omega)⟩
theorem zdm_ge {P : zP} (hw : zWf P) {i j : Nat} (hj : j < pn P) : 0 ≤ zdm P i j ↔ i < j ∧ zdc P i j ≠ -3 := by
  constructor
  · intro h
    have h1 : i < j := by
      apply Decidable.byContradiction
      intro z
      unfold zdm at h
      rw [if_neg z] at h
      omega
    exact ⟨h1, (zdm_0 hw h1 hj).1.mp h⟩
  · rintro ⟨h1, h2⟩
    exact (zdm_0 hw h1 hj).1.mpr h2
theorem zdm_dc {P : zP} (hw : zWf P) {i j : Nat} (hj : j < pn P) (h : 0 ≤ zdm P i j) : zdm P i j = zdc P i j := by
  obtain ⟨h1, h2⟩ := (zdm_ge hw hj).mp h
  exact ((zdm_0 hw h1 hj).2 h2).1
theorem ylr_eq {P : zP} (hw : zWf P) {ord : Nat → Nat} {f : Nat → Int} {j k : Nat} {c : Int} (hj : j < pn P) (hc : 0 ≤ c) (h1 : ∀ a, a < j → 0 ≤ f a → ∃ p, p < k ∧ ord p = a) (h2 : ∀ p, p < k → 0 ≤ f (ord p)) : ylr P ord f j c k = max c (zlc (fun a => zdc P a j) f j) := by
  have key : ∀ x, ylr P ord f j c k ≤ x ↔ max c (zlc (fun a => zdc P a j) f j) ≤ x := by
    intro x
    have e : max c (zlc (fun a => zdc P a j) f j) ≤ x ↔ c ≤ x ∧ zlc (fun a => zdc P a j) f j ≤ x := by omega
    rw [ylr_le, e, zlc_le]
    constructor
    · rintro ⟨g1, g2⟩
      refine ⟨g1, by omega, fun a ha g3 g4 => ?_⟩
      obtain ⟨p, p1, p2⟩ := h1 a ha g4
      subst p2
      have g5 : 0 ≤ zdm P (ord p) j := (zdm_ge hw hj).mpr ⟨ha, g3⟩
      have g6 := g2 p p1 g5
      rw [zdm_dc hw hj g5] at g6
      exact g6
    · rintro ⟨g1, -, g2⟩
      refine ⟨g1, fun p hp g5 => ?_⟩
      obtain ⟨g3, g4⟩ := (zdm_ge hw hj).mp g5
      rw [zdm_dc hw hj g5]
      exact g2 (ord p) g3 g4 (h2 p hp)
  have a1 := (key _).mp (Int.le_refl _)
  have a2 := (key _).mpr (Int.le_refl _)
  omega
theorem ylr_congr {P : zP} {ord : Nat → Nat} {f g : Nat → Int} {j : Nat} {c : Int} : ∀ m, (∀ p, p < m → f (ord p) = g (ord p)) → ylr P ord f j c m = ylr P ord g j c m
  | 0, _ => rfl
  | m + 1, h => by
    show (if 0 ≤ zdm P (ord m) j then max (ylr P ord f j c m) (f (ord m) + zdm P (ord m) j) else ylr P ord f j c m) = (if 0 ≤ zdm P (ord m) j then max (ylr P ord g j c m) (g (ord m) + zdm P (ord m) j) else ylr P ord g j c m)
    rw [ylr_congr m (fun p hp => h p (by omega)), h m (by omega)]
/-- what stands of the class's plan in order when k have their cycles -/
def zIo (P : zP) (ord : Nat → Nat) (k : Nat) (s : (Nat → Int) × Int × Int) : Prop := (∀ a, (∀ p, p < k → ord p ≠ a) → s.1 a = -3) ∧ (∀ p, p < k → 0 ≤ s.1 (ord p) ∧ s.1 (ord p) ≤ s.2.1) ∧ (zct (fun p => s.1 (ord p)) s.2.1 k : Int) = s.2.2 ∧ 0 ≤ s.2.1 ∧ s.2.2 ≤ pu P
theorem zio_s {P : zP} (hw : zWf P) {ord : Nat → Nat} {k : Nat} {s : (Nat → Int) × Int × Int} {y : Int} (hk : k < pn P) (hord : ∀ p, p ≤ k → ord p < pn P) (hinj : ∀ p, p < k → ord p ≠ ord k) (h : zIo P ord k s) (hy : zLc P ord s.1 k (ylr P ord s.1 (ord k) s.2.1 k) y) : (zionext P s (ord k)).1 = zfu s.1 (ord k) y ∧ (zionext P s (ord k)).2.1 = y ∧ zIo P ord (k + 1) (zionext P s (ord k)) := by
  obtain ⟨h1, h2, h3, h4, h5⟩ := h
  have hu := hw.2.1
  have he := ylr_eq hw (ord := ord) (f := s.1) (j := ord k) (k := k) (c := s.2.1) (hord k (Nat.le_refl _)) h4 (fun a ha hf => by
    apply Classical.byContradiction
    intro z
    have := h1 a (fun p hp e => z ⟨p, hp, e⟩)
    omega) (fun p hp => (h2 p hp).1)
  rw [he] at hy
  obtain ⟨y1, y2, y3⟩ := hy
  have hbig : ∀ z, s.2.1 < z → zct (fun p => s.1 (ord p)) z k = 0 := fun z hz => zct_none k (fun p hp => by have := (h2 p hp).2; show s.1 (ord p) ≠ z; omega)
  have hl : zionext P s (ord k) = if s.2.1 < (if s.2.2 = pu P then max (zlc (fun a => zdc P a (ord k)) s.1 (ord k)) (s.2.1 + 1) else zlc (fun a => zdc P a (ord k)) s.1 (ord k)) then (zfu s.1 (ord k) (if s.2.2 = pu P then max (zlc (fun a => zdc P a (ord k)) s.1 (ord k)) (s.2.1 + 1) else zlc (fun a => zdc P a (ord k)) s.1 (ord k)), (if s.2.2 = pu P then max (zlc (fun a => zdc P a (ord k)) s.1 (ord k)) (s.2.1 + 1) else zlc (fun a => zdc P a (ord k)) s.1 (ord k)), 1) else (zfu s.1 (ord k) s.2.1, s.2.1, s.2.2 + 1) := rfl
  generalize hz : zlc (fun a => zdc P a (ord k)) s.1 (ord k) = z at *
  have hold : ∀ (x : Int) p, p < k → zfu s.1 (ord k) x (ord p) = s.1 (ord p) := fun x p hp => zfu_off (hinj p hp)
  have hct : ∀ (x c : Int), zct (fun p => zfu s.1 (ord k) x (ord p)) c (k + 1) = zct (fun p => s.1 (ord p)) c k + if x = c then 1 else 0 := by
    intro x c
    show zct (fun p => zfu s.1 (ord k) x (ord p)) c k + (if zfu s.1 (ord k) x (ord k) = c then 1 else 0) = _
    rw [zfu_at, zct_congr k (fun p hp => hold x p hp)]
  have fin : ∀ (x q : Int), (zionext P s (ord k)) = (zfu s.1 (ord k) x, x, q) → x = y → s.2.1 ≤ x → (zct (fun p => zfu s.1 (ord k) x (ord p)) x (k + 1) : Int) = q → q ≤ pu P → (zionext P s (ord k)).1 = zfu s.1 (ord k) y ∧ (zionext P s (ord k)).2.1 = y ∧ zIo P ord (k + 1) (zionext P s (ord k)) := by
    intro x q e1 e2 e3 e4 e5
    subst e2
    rw [e1]
    refine ⟨rfl, rfl, fun a ha => ?_, fun p hp => ?_, e4, by show 0 ≤ x; omega, e5⟩
    · show zfu s.1 (ord k) x a = -3
      rw [zfu_off (fun e => ha k (by omega) e.symm)]
      exact h1 a (fun p hp => ha p (by omega))
    · show 0 ≤ zfu s.1 (ord k) x (ord p) ∧ zfu s.1 (ord k) x (ord p) ≤ x
      by_cases hpk : p = k
      · rw [hpk, zfu_at]
        omega
      · rw [hold x p (by omega)]
        have := h2 p (by omega)
        omega
  by_cases hzc : s.2.1 < z
  · -- the delays decide
    have hyz : y = z := by
      have : ¬ z < y := fun hlt => by
        have := y3 z (by omega) hlt
        rw [hbig z hzc] at this
        omega
      omega
    have hlz : (if s.2.2 = pu P then max z (s.2.1 + 1) else z) = z := by split <;> omega
    rw [hlz, if_pos hzc] at hl
    refine fin z 1 hl hyz.symm (by omega) ?_ (by omega)
    rw [hct, hbig z hzc, if_pos rfl]
    rfl
  · have hmx : max s.2.1 z = s.2.1 := by omega
    rw [hmx] at y1 y3
    by_cases hq : s.2.2 = pu P
    · rw [if_pos hq] at hl
      have h1c : max z (s.2.1 + 1) = s.2.1 + 1 := by omega
      rw [h1c, if_pos (by omega)] at hl
      have hyz : y = s.2.1 + 1 := by
        have g1 : y ≠ s.2.1 := fun e => by
          rw [e] at y2
          omega
        have : ¬ s.2.1 + 1 < y := fun hlt => by
          have := y3 (s.2.1 + 1) (by omega) hlt
          rw [hbig _ (by omega)] at this
          omega
        omega
      refine fin (s.2.1 + 1) 1 hl hyz.symm (by omega) ?_ (by omega)
      rw [hct, hbig _ (by omega), if_pos rfl]
      rfl
    · rw [if_neg hq, if_neg hzc] at hl
      have hyz : y = s.2.1 := by
        have : ¬ s.2.1 < y := fun hlt => by
          have := y3 s.2.1 (Int.le_refl _) hlt
          omega
        omega
      refine fin s.2.1 (s.2.2 + 1) hl hyz.symm (Int.le_refl _) ?_ (by omega)
      rw [hct, if_pos rfl]
      push_cast
      omega
theorem zio_0 (P : zP) (ord : Nat → Nat) : zIo P ord 0 (zio P ord 0) := ⟨fun _ _ => rfl, fun p hp => by omega, rfl, Int.le_refl _, by show (0 : Int) ≤ _; omega⟩
/-- no two of the list plan's order are one -/
theorem zls_inj {P : zP} (hw : zWf P) (W : Nat → Int) : ∀ k, k ≤ pn P → ∀ p q, p < q → q < k → (zls P W k).2.1 p ≠ (zls P W k).2.1 q
  | 0, _ => fun p q h1 h2 => by omega
  | k + 1, hk => by
    obtain ⟨h1, h2, h3, h4⟩ := zls_Lk hw W k (by omega)
    obtain ⟨b, b1, b2, b3, b4⟩ := zlb2_go (P := P) (W := W) (s := zls P W k) (by omega)
    have ih := zls_inj hw W k (by omega)
    have hnx : zls P W (k + 1) = zlnext P W k (zls P W k) := rfl
    rw [zlnext_eq, b1, if_neg (by omega), Int.toNat_natCast] at hnx
    rw [hnx]
    intro p q hp hq
    show zfu (zls P W k).2.1 k b p ≠ zfu (zls P W k).2.1 k b q
    rw [zfu_off (by omega)]
    by_cases hqk : q = k
    · rw [hqk, zfu_at]
      obtain ⟨x, x1, x2, x3⟩ := h2 p (by omega)
      rw [x1]
      intro e
      have : x = b := by omega
      subst this
      exact x3 (zfree_iff.mp b3).1
    · rw [zfu_off hqk]
      exact ih p q hp (by omega)
theorem zod_inj {P : zP} (hw : zWf P) (W : Nat → Int) {p q : Nat} (hp : p < pn P) (hq : q < pn P) (h : zod P W p = zod P W q) : p = q := by
  have h1 := zls_inj hw W (pn P) (Nat.le_refl _)
  obtain ⟨e1, -⟩ := (zod_P hw W).1 p hp
  obtain ⟨e2, -⟩ := (zod_P hw W).1 q hq
  rcases Nat.lt_trichotomy p q with h2 | h2 | h2
  · exact absurd (by rw [e1, e2, h]) (h1 p q h2 hq)
  · exact h2
  · exact absurd (by rw [e1, e2, h]) (h1 q p h2 hp)
section ZX
variable {L : Nat} {M : zM} {P : zP} {ord : Nat → Nat} {c : Nat}
theorem sp_M_inOrder (hB : zBm M P) (hw : zWf P) (hD : zDm M P) (hc : (zSh L)[c + 1]? = some (.inl 60)) (hcc : 46 ≤ c + 1 ∧ c + 1 ≤ 47) (hR : ∀ p, p < pn P → M 49 p = ord p ∧ ord p < pn P) (hinj : ∀ p q, p < pn P → q < pn P → ord p = ord q → p = q) : zf (zSh L) 3 kX8_inOrder [zvr 34, zvr (c + 1)] M (fun v M1 => v = none ∧ (∀ a, a ≠ c + 1 → M1 a = M a) ∧ ∀ k, k < pn P → M1 (c + 1) (ord k) = (zio P ord (pn P)).1 (ord k)) := by
  have h60 := hw.1
  have loop : ∀ (t k : Nat) (N : zM), k + t = pn P → (∀ a, a ≠ c + 1 → N a = M a) → (∀ p, p < k → N (c + 1) (ord p) = (zio P ord k).1 (ord p)) → zIo P ord k (zio P ord k) → zr (zSh L) 2 tX8_inOrder 4 [some (zvr 34), some (zvr (c + 1)), some (zvi (zio P ord k).2.1), some (zvi k)] [] N (fun v M1 => v = none ∧ (∀ a, a ≠ c + 1 → M1 a = M a) ∧ ∀ k, k < pn P → M1 (c + 1) (ord k) = (zio P ord (pn P)).1 (ord k)) := by
    intro t
    induction t with
    | zero =>
      intro k N hk hN hE hI
      have hn : N 34 5 = pn P := by rw [hN 34 (by omega)]; exact hB.1
      repeat refine zr_s rfl rfl rfl ?_
      rw [hn]
      refine zr_ige rfl (by omega) (by omega) (fun h => ?_) (fun h => by omega)
      have hkn : k = pn P := by omega
      subst hkn
      exact zr_retv rfl ⟨rfl, hN, hE⟩
    | succ t ih =>
      intro k N hk hN hE hI
      have hn : N 34 5 = pn P := by rw [hN 34 (by omega)]; exact hB.1
      have hBN : zBm N P := zBm_of hB (fun a h1 h2 => hN a (by omega))
      have hDN : zDm N P := fun a b ha hb => by rw [hN 41 (by omega)]; exact hD a b ha hb
      have hRN : ∀ p, p < pn P → N 49 p = ord p ∧ ord p < pn P := fun p hp => by rw [hN 49 (by omega)]; exact hR p hp
      obtain ⟨z1, z2, z3, z4, z5⟩ := zio_ok hw (ord := ord) (fun p hp => (hR p hp).2) k (by omega)
      repeat refine zr_s rfl rfl rfl ?_
      rw [hn]
      refine zr_ige rfl (by omega) (by omega) (fun h => by omega) (fun h => ?_)
      repeat refine zr_s rfl rfl rfl ?_
      refine zr_c rfl rfl rfl (zf_mono (Nat.le_of_ble_eq_true rfl) (sp_M_leastCycle (ord := ord) (b := (zio P ord k).2.1) hBN hw hDN hc (by omega) (fun p hp => hRN p (by omega)) (fun p hp => by rw [hE p hp]; exact hI.2.1 p hp) ⟨z1, by omega⟩ ⟨z1, Int.le_refl _⟩)) (fun v M1 hv => ?_)
      obtain ⟨y, rfl, e0, hy, hy2⟩ := hv
      have e0 := e0.symm
      subst e0
      have hyc : zLc P ord (zio P ord k).1 k (ylr P ord (zio P ord k).1 (ord k) (zio P ord k).2.1 k) y := by
        have e1 : ylr P ord (N (c + 1)) (ord k) (zio P ord k).2.1 k = ylr P ord (zio P ord k).1 (ord k) (zio P ord k).2.1 k := ylr_congr k hE
        have e2 : ∀ z, zct (fun p => N (c + 1) (ord p)) z k = zct (fun p => (zio P ord k).1 (ord p)) z k := fun z => zct_congr k hE
        unfold zLc at hy ⊢
        rw [e1] at hy
        simp only [e2] at hy
        exact hy
      obtain ⟨s1, s2, s3⟩ := zio_s hw (by omega) (fun p hp => (hR p (by omega)).2) (fun p hp e => by have := hinj p k (by omega) (by omega) e; omega) hI hyc
      have hS : zio P ord (k + 1) = zionext P (zio P ord k) (ord k) := rfl
      repeat refine zr_s rfl rfl rfl ?_
      refine zr_ald (k) rfl rfl rfl (by omega) (by decide) ?_
      rw [(hRN k (by omega)).1]
      repeat refine zr_s rfl rfl rfl ?_
      refine zr_ast (ord k) rfl hc rfl (by have := (hR k (by omega)).2; omega) (by decide) ?_
      repeat refine zr_s rfl rfl rfl ?_
      refine zr_b rfl rfl ?_
      rw [← hS] at s1 s2 s3
      have e3 : y = (zio P ord (k + 1)).2.1 := s2.symm
      have goal := ih (k + 1) (zup N (c + 1) (ord k) y) (by omega) (fun a ha => by rw [zup_row ha]; exact hN a ha) (fun p hp => by
        rw [s1]
        by_cases hpk : p = k
        · rw [hpk, zup_at, zfu_at]
        · have hne : ord p ≠ ord k := fun e => hpk (hinj p k (by omega) (by omega) e)
          rw [zup_off hne, zfu_off hne]
          exact hE p (by omega)) s3
      rw [s2] at goal
      exact goal
  refine zf_of rfl (Nat.le_of_ble_eq_true rfl) ?_
  repeat refine zr_t 4 rfl rfl rfl rfl ?_
  exact loop (pn P) 0 M (by omega) (fun _ _ => rfl) (fun p hp => by omega) (zio_0 P ord)
end ZX
end
section
/-! THE SHORTEST PLAN: what the class's search finds is the least length of all plans that keep delays and units -/
def ycn (c : Nat → Bool) : Nat → Nat
  | 0 => 0
  | m + 1 => ycn c m + if c m = true then 1 else 0
theorem ycn_mono {c e : Nat → Bool} : ∀ m, (∀ i, i < m → c i = true → e i = true) → ycn c m ≤ ycn e m
  | 0, _ => Nat.le_refl _
  | m + 1, h => by
    have ih := ycn_mono m (fun i hi => h i (by omega))
    have h2 := h m (by omega)
    show ycn c m + (if c m = true then 1 else 0) ≤ ycn e m + (if e m = true then 1 else 0)
    by_cases hc : c m = true
    · rw [if_pos hc, if_pos (h2 hc)]
      omega
    · rw [if_neg hc]
      omega
theorem ycn_add {c e g : Nat → Bool} : ∀ m, (∀ i, i < m → c i = true → e i = true → False) → (∀ i, i < m → g i = (c i || e i)) → ycn c m + ycn e m = ycn g m
  | 0, _, _ => rfl
  | m + 1, h, hg => by
    have ih := ycn_add m (fun i hi => h i (by omega)) (fun i hi => hg i (by omega))
    have h2 := h m (by omega)
    show ycn c m + (if c m = true then 1 else 0) + (ycn e m + (if e m = true then 1 else 0)) = ycn g m + (if g m = true then 1 else 0)
    rw [hg m (by omega)]
    cases hc : c m <;> cases he : e m
    · simp; omega
    · simp; omega
    · simp; omega
    · exact (h2 hc he).elim
theorem ycn_one {i : Nat} : ∀ m, i < m → ycn (fun x => decide (x = i)) m = 1
  | 0, h => by omega
  | m + 1, h => by
    show ycn (fun x => decide (x = i)) m + (if decide (m = i) = true then 1 else 0) = 1
    by_cases hm : m = i
    · have : ycn (fun x => decide (x = i)) m = 0 := by
        have h0 : ∀ k, k ≤ i → ycn (fun x => decide (x = i)) k = 0 := by
          intro k
          induction k with
          | zero => intro _; rfl
          | succ k ih =>
            intro hk
            show ycn (fun x => decide (x = i)) k + (if decide (k = i) = true then 1 else 0) = 0
            rw [ih (by omega), if_neg (by simp; omega)]
        exact h0 m (by omega)
      rw [this, if_pos (by simpa using hm)]
    · rw [ycn_one m (by omega), if_neg (by simpa using hm)]
theorem zct_cn (w : Nat → Int) (c : Int) : ∀ m, zct w c m = ycn (fun i => decide (w i = c)) m
  | 0 => rfl
  | m + 1 => by
    show zct w c m + (if w m = c then 1 else 0) = ycn (fun i => decide (w i = c)) m + (if decide (w m = c) = true then 1 else 0)
    rw [zct_cn w c m]
    simp
theorem zhm_cn (f W : Nat → Int) (l : Int) : ∀ m, zhm f W l m = ycn (fun i => decide (f i = -3 ∧ l ≤ W i)) m
  | 0 => rfl
  | m + 1 => by
    show zhm f W l m + (if f m = -3 ∧ l ≤ W m then 1 else 0) = ycn (fun i => decide (f i = -3 ∧ l ≤ W i)) m + (if decide (f m = -3 ∧ l ≤ W m) = true then 1 else 0)
    rw [zhm_cn f W l m]
    simp
/-- no more than u in each of T cycles -/
theorem ycn_up {w : Nat → Int} {u m : Nat} {c : Int} (hu : ∀ z, zct w z m ≤ u) : ∀ (T : Nat) (e : Nat → Bool), (∀ i, i < m → e i = true → c ≤ w i ∧ w i < c + T) → ycn e m ≤ u * T
  | 0, e, h => by
    have h0 : ycn e m ≤ ycn (fun _ => false) m := ycn_mono m (fun i hi he => by have := h i hi he; omega)
    have h1 : ∀ k, ycn (fun _ => false) k = 0 := by
      intro k
      induction k with
      | zero => rfl
      | succ k ih =>
        show ycn (fun _ => false) k + _ = 0
        rw [ih]
        rfl
    rw [h1] at h0
    omega
  | T + 1, e, h => by
    have h1 := ycn_up hu T (fun i => e i && decide (w i < c + T)) (fun i hi he => by
      rw [Bool.and_eq_true, decide_eq_true_eq] at he
      exact ⟨(h i hi he.1).1, he.2⟩)
    have h2 := hu (c + T)
    rw [zct_cn] at h2
    have h3 : ycn (fun i => e i && decide (w i < c + T)) m + ycn (fun i => e i && decide (w i = c + T)) m = ycn e m := by
      refine ycn_add m (fun i hi h4 h5 => ?_) (fun i hi => ?_)
      · rw [Bool.and_eq_true, decide_eq_true_eq] at h4 h5
        omega
      · cases he : e i
        · rfl
        · have h6 := h i hi he
          rw [Bool.true_and, Bool.true_and, ← Bool.decide_or]
          symm
          rw [decide_eq_true_eq]
          omega
    have h4 : ycn (fun i => e i && decide (w i = c + T)) m ≤ ycn (fun i => decide (w i = c + T)) m := ycn_mono m (fun i hi he => by
      rw [Bool.and_eq_true] at he
      exact he.2)
    rw [Nat.mul_add]
    omega
/-- no fewer than u in each of T cycles -/
theorem ycn_lo {w : Nat → Int} {u m : Nat} {c : Int} : ∀ (T : Nat), (∀ z, c ≤ z → z < c + T → u ≤ zct w z m) → u * T ≤ ycn (fun i => decide (c ≤ w i ∧ w i < c + T)) m
  | 0, _ => by rw [Nat.mul_zero]; omega
  | T + 1, h => by
    have h1 := ycn_lo T (fun z h1 h2 => h z h1 (by omega))
    have h2 := h (c + T) (by omega) (by omega)
    rw [zct_cn] at h2
    have h3 : ycn (fun i => decide (c ≤ w i ∧ w i < c + T)) m + ycn (fun i => decide (w i = c + T)) m = ycn (fun i => decide (c ≤ w i ∧ w i < c + (T + 1 : Nat))) m := by
      refine ycn_add m (fun i hi h4 h5 => ?_) (fun i hi => ?_)
      · rw [decide_eq_true_eq] at h4 h5
        omega
      · rw [← Bool.decide_or]
        congr 1
        rw [eq_iff_iff]
        omega
    rw [Nat.mul_add]
    omega
/-- a plan that keeps delays and units -/
def yVp (P : zP) (w : Nat → Int) : Prop := (∀ i, i < pn P → 0 ≤ w i) ∧ (∀ i j, i < j → j < pn P → zdc P i j ≠ -3 → w i + zdc P i j ≤ w j) ∧ ∀ c, zct w c (pn P) ≤ pu P
def yOpt (P : zP) (b : Int) : Prop := (∃ w, yVp P w ∧ zlen P w (pn P) = b) ∧ ∀ w, yVp P w → b ≤ zlen P w (pn P)
theorem yOpt_uniq {P : zP} {b b2 : Int} (h : yOpt P b) (h2 : yOpt P b2) : b = b2 := by
  obtain ⟨⟨w, w1, w2⟩, w3⟩ := h
  obtain ⟨⟨v, v1, v2⟩, v3⟩ := h2
  have := w3 v v1
  have := v3 w w1
  omega
theorem zlen_ge {P : zP} {f : Nat → Int} {i : Nat} : ∀ m, i < m → f i + pl P i ≤ zlen P f m
  | 0, h => by omega
  | m + 1, h => by
    show _ ≤ max (zlen P f m) (f m + pl P m)
    by_cases hm : i = m
    · subst hm
      omega
    · have := zlen_ge (P := P) (f := f) (i := i) m (by omega)
      omega
theorem zlen_mono {P : zP} {f g : Nat → Int} : ∀ m, (∀ i, i < m → f i ≤ g i) → zlen P f m ≤ zlen P g m
  | 0, _ => Int.le_refl _
  | m + 1, h => by
    have ih := zlen_mono (P := P) m (fun i hi => h i (by omega))
    have := h m (by omega)
    show max (zlen P f m) (f m + pl P m) ≤ max (zlen P g m) (g m + pl P m)
    omega
/-- a plan is no shorter than a cycle in it and the way from there -/
theorem zwf_le {P : zP} {w W : Nat → Int} {i : Nat} {x : Int} : ∀ t, w i + pl P i ≤ x → (∀ j, i < j → j ≤ i + t → zdc P i j ≠ -3 → w i + zdc P i j + W j ≤ x) → w i + zwf P i W t ≤ x
  | 0, h, _ => h
  | t + 1, h, h2 => by
    have ih := zwf_le (P := P) (w := w) (W := W) (i := i) (x := x) t h (fun j h3 h4 => h2 j h3 (by omega))
    show w i + (if zdc P i (i + 1 + t) ≠ -3 then max (zwf P i W t) (zdc P i (i + 1 + t) + W (i + 1 + t)) else zwf P i W t) ≤ x
    split
    · rename_i hd
      have := h2 (i + 1 + t) (by omega) (by omega) hd
      omega
    · exact ih
theorem yway_le {P : zP} {w W : Nat → Int} (hv : yVp P w) (hW : zIsW P W 0) : ∀ (k i : Nat), i + k = pn P → i < pn P → w i + W i ≤ zlen P w (pn P)
  | 0, i, hk, hi => by omega
  | k + 1, i, hk, hi => by
    rw [hW i (Nat.zero_le _) hi]
    refine zwf_le _ (zlen_ge _ hi) (fun j h1 h2 hd => ?_)
    have h3 := hv.2.1 i j h1 (by omega) hd
    have h4 := yway_le hv hW (pn P - j) j (by omega) (by omega)
    omega
  termination_by k => k
theorem zct_fu {f : Nat → Int} {i : Nat} {y z : Int} (hf : f i ≠ z) : ∀ m, zct (zfu f i y) z m = zct f z m + if i < m ∧ y = z then 1 else 0
  | 0 => by rw [if_neg (by omega)]; rfl
  | m + 1 => by
    show zct (zfu f i y) z m + (if zfu f i y m = z then 1 else 0) = zct f z m + (if f m = z then 1 else 0) + _
    rw [zct_fu hf m]
    by_cases hm : m = i
    · subst hm
      rw [zfu_at, if_neg (fun h => by omega), if_neg hf]
      by_cases hy : y = z
      · rw [if_pos hy, if_pos ⟨by omega, hy⟩]
      · rw [if_neg hy, if_neg (fun h => hy h.2)]
    · rw [zfu_off hm]
      (repeat' split) <;> omega
/-- a part of a plan, up to cycle c with q in it -/
def yPv (P : zP) (f : Nat → Int) (c q : Int) : Prop := (∀ i, i < pn P → f i = -3 ∨ (0 ≤ f i ∧ f i ≤ c)) ∧ (∀ i j, i < j → j < pn P → zdc P i j ≠ -3 → f j ≠ -3 → f i ≠ -3 ∧ f i + zdc P i j ≤ f j) ∧ (∀ z, 0 ≤ z → zct f z (pn P) ≤ pu P) ∧ (zct f c (pn P) : Int) = q ∧ 0 ≤ c
theorem yPv_0 (P : zP) : yPv P (fun _ => -3) 0 0 := by
  have h0 : ∀ z : Int, 0 ≤ z → ∀ m, zct (fun _ => -3) z m = 0 := fun z hz m => zct_none m (fun i _ => by show (-3 : Int) ≠ z; omega)
  refine ⟨fun i _ => Or.inl rfl, fun i j _ _ _ h => absurd rfl h, fun z hz => by rw [h0 z hz]; omega, by rw [h0 0 (Int.le_refl _)]; rfl, Int.le_refl _⟩
theorem yPv_put {P : zP} (hw : zWf P) {f : Nat → Int} {c q y q2 : Int} {i : Nat} (h : yPv P f c q) (hi : i < pn P) (hf : f i = -3) (hz : zwt P f i i = 0) (hy : zpf P f i ≤ y) (hq : (y = c ∧ q < pu P ∧ q2 = q + 1) ∨ (c < y ∧ q2 = 1)) : yPv P (zfu f i y) y q2 := by
  obtain ⟨h1, h2, h3, h4, h5⟩ := h
  have hu := hw.2.1
  have hcy : c ≤ y := by omega
  have hbig : c < y → zct f y (pn P) = 0 := fun hlt => zct_none _ (fun a ha => by have := h1 a ha; omega)
  have hc : ∀ z, 0 ≤ z → zct (zfu f i y) z (pn P) = zct f z (pn P) + if y = z then 1 else 0 := fun z hz => by
    rw [zct_fu (by omega)]
    by_cases hyz : y = z
    · rw [if_pos ⟨hi, hyz⟩, if_pos hyz]
    · rw [if_neg (fun h => hyz h.2), if_neg hyz]
  have hyq : (zct f y (pn P) : Int) + 1 = q2 ∧ zct f y (pn P) + 1 ≤ pu P := by
    rcases hq with ⟨e1, e2, e3⟩ | ⟨e1, e2⟩
    · subst e1
      omega
    · rw [hbig e1]
      omega
  refine ⟨fun a ha => ?_, fun a j haj hj hd hfj => ?_, fun z hz => ?_, ?_, by omega⟩
  · by_cases hai : a = i
    · rw [hai, zfu_at]
      omega
    · rw [zfu_off hai]
      have := h1 a ha
      omega
  · by_cases hji : j = i
    · subst hji
      rw [zfu_at, zfu_off (by omega)]
      have g1 := zwt_0' j hz a haj hd
      have g2 := h1 a (by omega)
      have g3 := (zlc_le (g := fun i => zdc P i j) (f := f) (c := y) j).mp hy
      exact ⟨g1, g3.2 a haj hd (by omega)⟩
    · rw [zfu_off hji] at hfj ⊢
      obtain ⟨g1, g2⟩ := h2 a j haj hj hd hfj
      have hai : a ≠ i := fun e => g1 (e ▸ hf)
      rw [zfu_off hai]
      exact ⟨g1, g2⟩
  · rw [hc z hz]
    by_cases hyz : y = z
    · rw [if_pos hyz, ← hyz]
      exact hyq.2
    · rw [if_neg hyz]
      exact h3 z hz
  · rw [hc y (by omega), if_pos rfl]
    push_cast
    exact hyq.1
theorem yPv_all {P : zP} {f : Nat → Int} {c q : Int} (h : yPv P f c q) (hall : ∀ i, i < pn P → f i ≠ -3) : yVp P f := by
  obtain ⟨h1, h2, h3, h4, h5⟩ := h
  refine ⟨fun i hi => by have := h1 i hi; have := hall i hi; omega, fun i j hij hj hd => (h2 i j hij hj hd (hall j hj)).2, fun z => ?_⟩
  by_cases hz : 0 ≤ z
  · exact h3 z hz
  · rw [zct_none _ (fun a ha => by have := h1 a ha; have := hall a ha; omega)]
    omega
theorem yls {P : zP} (hw : zWf P) (W : Nat → Int) : ∀ k, k ≤ pn P → yPv P (zls P W k).1 (zls P W k).2.2.1 (zls P W k).2.2.2
  | 0, _ => yPv_0 P
  | k + 1, hk => by
    have ih := yls hw W k (by omega)
    obtain ⟨l1, l2, l3, l4, l5, l6⟩ := zls_ok hw W k
    have hLk := zls_Lk hw W k (by omega)
    obtain ⟨b, b1, b2, b3, b4⟩ := zlb2_go (P := P) (W := W) (s := zls P W k) (by have := hLk.1; omega)
    have hnx : zls P W (k + 1) = zlnext P W k (zls P W k) := rfl
    rw [zlnext_eq, b1, if_neg (by omega), Int.toNat_natCast] at hnx
    rw [hnx]
    obtain ⟨f1, f2⟩ := zfree_iff.mp b3
    refine yPv_put hw ih b2 f1 f2 b4 ?_
    have hccd : zlcc P W (zls P W k) = if zlb1 P W (zls P W k) = -3 then max (zfst P (zls P W k).1 (pn P)) ((zls P W k).2.2.1 + 1) else (zls P W k).2.2.1 := rfl
    have hqq : zlqq P W (zls P W k) = if zlb1 P W (zls P W k) = -3 then 0 else (zls P W k).2.2.2 := rfl
    have hb1 : zlb1 P W (zls P W k) = if (zls P W k).2.2.2 < pu P then zbst P W (zls P W k).1 (zls P W k).2.2.1 (pn P) else -3 := rfl
    by_cases h1 : zlb1 P W (zls P W k) = -3
    · rw [if_pos h1] at hccd hqq
      exact Or.inr ⟨by omega, by rw [hqq]; rfl⟩
    · rw [if_neg h1] at hccd hqq
      refine Or.inl ⟨hccd, ?_, by rw [hqq]⟩
      apply Decidable.byContradiction
      intro z
      rw [if_neg z] at hb1
      exact h1 hb1
/-- what the search answers is the bound that it was given, or the length of a plan -/
theorem yfold {p : Int → Prop} {g : Int → Nat → Int} : ∀ (l : List Nat), (∀ b i, i ∈ l → p b → p (g b i)) → ∀ b, p b → p (l.foldl g b)
  | [], _, b, hb => hb
  | i :: l, h, b, hb => yfold l (fun b j hj => h b j (List.mem_cons_of_mem _ hj)) _ (h b i (List.mem_cons_self ..) hb)
theorem zcp_eq {f : Nat → Int} {n p : Nat} (h : zcp f n = p) (hp : n ≤ p) : ∀ i, i < n → f i ≠ -3 := zcp_all n (by have := zcp_le f n; omega)
theorem yta_val {P : zP} (hw : zWf P) {W : Nat → Int} : ∀ (d : Nat) (f : Nat → Int) (p : Nat) (c q b : Int), pn P ≤ p + d → zcp f (pn P) = p → yPv P f c q → (∃ w, yVp P w ∧ zlen P w (pn P) = b) → ∃ w, yVp P w ∧ zlen P w (pn P) = zta P W d f p c q b
  | 0, f, p, c, q, b, hd, hp, hP, hb => by
    have hv := yPv_all hP (zcp_eq hp (by omega))
    show ∃ w, yVp P w ∧ zlen P w (pn P) = min b (zlen P f (pn P))
    by_cases h : b ≤ zlen P f (pn P)
    · rw [show min b (zlen P f (pn P)) = b by omega]
      exact hb
    · exact ⟨f, hv, by omega⟩
  | d + 1, f, p, c, q, b, hd, hp, hP, hb => by
    rw [zta_s]
    split
    · rename_i hn
      have hv := yPv_all hP (zcp_eq hp hn)
      by_cases h : b ≤ zlen P f (pn P)
      · rw [show min b (zlen P f (pn P)) = b by omega]
        exact hb
      · exact ⟨f, hv, by omega⟩
    · split
      · exact hb
      · refine yfold (p := fun b => ∃ w, yVp P w ∧ zlen P w (pn P) = b) _ (fun b2 i hi hb2 => ?_) b hb
        have hi : i < pn P := List.mem_range.mp hi
        unfold ztg
        split
        · rename_i hc
          obtain ⟨h1, h2, h3, h4, h5⟩ := id hP
          have hq : q ≤ pu P := by have := h3 c h5; omega
          refine yta_val hw d _ _ _ _ _ (by omega) ?_ (yPv_put hw hP hi hc.1 hc.2 (by omega) ?_) hb2
          · rw [zcp_fu hc.1 (by have := zpf_nn P f i; omega), hp, if_pos hi]
          · by_cases hqu : q < pu P
            · rw [if_pos hqu]
              by_cases hm : max c (zpf P f i) = c
              · rw [if_pos hm]
                exact Or.inl ⟨hm, hqu, rfl⟩
              · rw [if_neg hm]
                exact Or.inr ⟨by omega, rfl⟩
            · rw [if_neg hqu, if_neg (by omega)]
              exact Or.inr ⟨by omega, rfl⟩
        · exact hb2
/-- a part of a plan that goes along with the plan w -/
def yCo (P : zP) (w f : Nat → Int) (p : Nat) (c q : Int) : Prop := (∀ i, i < pn P → f i = -3 ∨ (0 ≤ f i ∧ f i ≤ c ∧ f i ≤ w i)) ∧ (∀ i j, i < pn P → j < pn P → f i ≠ -3 → f j = -3 → w i < w j ∨ (w i = w j ∧ i < j)) ∧ (zct f c (pn P) : Int) = q ∧ zcp f (pn P) = p ∧ (∀ j, j < pn P → f j = -3 → c ≤ w j) ∧ q ≤ pu P ∧ 0 ≤ c
theorem ymin {p : Nat → Bool} {w : Nat → Int} : ∀ n, (∃ i, i < n ∧ p i = true) → ∃ i, i < n ∧ p i = true ∧ ∀ j, j < n → p j = true → w i < w j ∨ (w i = w j ∧ i ≤ j)
  | 0, h => by obtain ⟨i, hi, -⟩ := h; omega
  | n + 1, h => by
    by_cases hex : ∃ i, i < n ∧ p i = true
    · obtain ⟨i, h1, h2, h3⟩ := ymin (p := p) (w := w) n hex
      by_cases hn : p n = true ∧ w n < w i
      · refine ⟨n, by omega, hn.1, fun j hj hpj => ?_⟩
        by_cases hjn : j = n
        · subst hjn
          exact Or.inr ⟨rfl, Nat.le_refl _⟩
        · have := h3 j (by omega) hpj
          omega
      · refine ⟨i, by omega, h2, fun j hj hpj => ?_⟩
        by_cases hjn : j = n
        · subst hjn
          have : ¬ w j < w i := fun z => hn ⟨hpj, z⟩
          omega
        · exact h3 j (by omega) hpj
    · obtain ⟨i, h1, h2⟩ := h
      have hin : i = n := by
        apply Decidable.byContradiction
        intro z
        exact hex ⟨i, by omega, h2⟩
      subst hin
      refine ⟨i, by omega, h2, fun j hj hpj => ?_⟩
      by_cases hjn : j = i
      · exact Or.inr ⟨by rw [hjn], by omega⟩
      · exact absurd ⟨j, by omega, hpj⟩ hex
/-- a bound that cuts the search off bounds every plan -/
theorem yCo_hb {P : zP} (hw : zWf P) {w W f : Nat → Int} {p i : Nat} {c q : Int} (hv : yVp P w) (hW : zIsW P W 0) (h : yCo P w f p c q) (hi : i < pn P) (hf : f i = -3) : zhb P f W c q i ≤ zlen P w (pn P) := by
  obtain ⟨h1, h2, h3, h4, h5, h6, h7⟩ := h
  have hu := hw.2.1
  have hway := fun i hi => yway_le hv hW (pn P - i) i (by omega) hi
  have a1 : zpf P f i ≤ w i := by
    refine (zlc_le (g := fun a => zdc P a i) (f := f) (c := w i) i).mpr ⟨hv.1 i hi, fun a ha hd hfa => ?_⟩
    have := h1 a (by omega)
    have := hv.2.1 a i ha hi hd
    omega
  -- the last of the unplaced with such a way
  obtain ⟨x, x1, x2, x3⟩ := ymin (p := fun j => decide (f j = -3 ∧ W i ≤ W j)) (w := fun j => - w j) (pn P) ⟨i, hi, by simp [hf]⟩
  rw [decide_eq_true_eq] at x2
  have hm := zhm_cn f W (W i) (pn P)
  have a2 : c + (q + zhm f W (W i) (pn P) - 1) / pu P ≤ w x := by
    apply Decidable.byContradiction
    intro hlt
    have hcx := h5 x x1 x2.1
    obtain ⟨T, hT⟩ : ∃ T : Nat, w x - c + 1 = T := Int.eq_ofNat_of_zero_le (by omega)
    have hb := ycn_up (c := c) hv.2.2 T (fun j => decide (f j = c) || decide (f j = -3 ∧ W i ≤ W j)) (fun j hj he => by
      rw [Bool.or_eq_true, decide_eq_true_eq, decide_eq_true_eq] at he
      rcases he with he | he
      · have g1 := h1 j hj
        have g2 := h2 j x hj x1 (by omega) x2.1
        omega
      · have g1 := x3 j hj (by rw [decide_eq_true_eq]; exact he)
        have g2 := h5 j hj he.1
        omega)
    have hs := ycn_add (c := fun j => decide (f j = c)) (e := fun j => decide (f j = -3 ∧ W i ≤ W j)) (g := fun j => decide (f j = c) || decide (f j = -3 ∧ W i ≤ W j)) (pn P) (fun j hj e1 e2 => by
      rw [decide_eq_true_eq] at e1 e2
      omega) (fun _ _ => rfl)
    rw [zct_cn] at h3
    have hle : q + zhm f W (W i) (pn P) ≤ pu P * T := by
      rw [hm]
      have : ((ycn (fun j => decide (f j = c)) (pn P) + ycn (fun j => decide (f j = -3 ∧ W i ≤ W j)) (pn P) : Nat) : Int) ≤ ((pu P * T : Nat) : Int) := by rw [hs]; exact_mod_cast hb
      push_cast at this
      omega
    have hdiv : (q + zhm f W (W i) (pn P) - 1) / pu P < T := Int.ediv_lt_of_lt_mul (by omega) (by rw [Int.mul_comm]; omega)
    omega
  have b1 := hway i hi
  have b2 := hway x x1
  unfold zhb
  omega
theorem yta_le {P : zP} (hw : zWf P) {w W : Nat → Int} (hv : yVp P w) (hW : zIsW P W 0) : ∀ (d : Nat) (f : Nat → Int) (p : Nat) (c q b : Int), 0 ≤ b → pn P ≤ p + d → yCo P w f p c q → zta P W d f p c q b ≤ zlen P w (pn P)
  | 0, f, p, c, q, b, h0, hd, hC => by
    obtain ⟨h1, h2, h3, h4, h5, h6, h7⟩ := hC
    have hall := zcp_eq h4 (by omega)
    have := zlen_mono (P := P) (f := f) (g := w) (pn P) (fun i hi => by have := h1 i hi; have := hall i hi; omega)
    show min b (zlen P f (pn P)) ≤ _
    omega
  | d + 1, f, p, c, q, b, h0, hd, hC => by
    have hC0 := hC
    obtain ⟨h1, h2, h3, h4, h5, h6, h7⟩ := hC
    rw [zta_s]
    split
    · rename_i hn
      have hall := zcp_eq h4 hn
      have := zlen_mono (P := P) (f := f) (g := w) (pn P) (fun i hi => by have := h1 i hi; have := hall i hi; omega)
      omega
    · rename_i hn
      split
      · rename_i hh
        unfold zhl at hh
        rw [List.any_eq_true] at hh
        obtain ⟨i, hi, he⟩ := hh
        rw [Bool.and_eq_true, decide_eq_true_eq, decide_eq_true_eq] at he
        exact Int.le_trans he.2 (yCo_hb hw hv hW hC0 (List.mem_range.mp hi) he.1)
      · obtain ⟨i0, g1, g2, -⟩ := zcp_some (f := f) (pn P) (by omega)
        obtain ⟨i, x1, x2, x3⟩ := ymin (p := fun j => decide (f j = -3)) (w := w) (pn P) ⟨i0, g1, by simpa using g2⟩
        rw [decide_eq_true_eq] at x2
        have hu := hw.2.1
        have hz : zwt P f i i = 0 := zwt_z (fun a ha hd hfa => by
          have g3 := x3 a (by omega) (by simpa using hfa)
          have g4 := hv.2.1 a i ha x1 hd
          have g5 := zdc_nn hw ha x1 hd
          omega)
        have a1 : zpf P f i ≤ w i := by
          refine (zlc_le (g := fun a => zdc P a i) (f := f) (c := w i) i).mpr ⟨hv.1 i x1, fun a ha hd hfa => ?_⟩
          have := h1 a (by omega)
          have := hv.2.1 a i ha x1 hd
          omega
        have hci := h5 i x1 x2
        have a2 : ¬ q < pu P → c + 1 ≤ w i := fun hq => by
          apply Decidable.byContradiction
          intro hlt
          have hwc : w i = c := by omega
          have e1 := ycn_add (c := fun j => decide (f j = c)) (e := fun j => decide (j = i)) (g := fun j => decide (f j = c) || decide (j = i)) (pn P) (fun j hj q1 q2 => by
            rw [decide_eq_true_eq] at q1 q2
            subst q2
            omega) (fun _ _ => rfl)
          have e2 : ycn (fun j => decide (f j = c) || decide (j = i)) (pn P) ≤ ycn (fun j => decide (w j = c)) (pn P) := ycn_mono _ (fun j hj he => by
            rw [Bool.or_eq_true, decide_eq_true_eq, decide_eq_true_eq] at he
            rw [decide_eq_true_eq]
            rcases he with he | he
            · have q1 := h1 j hj
              have q2 := h2 j i hj x1 (by omega) x2
              omega
            · rw [he]
              exact hwc)
          have e3 := hv.2.2 c
          rw [zct_cn] at e3 h3
          rw [ycn_one _ x1] at e1
          omega
        -- the search with i first
        have hlast : ∀ b2 : Int, 0 ≤ b2 → ztg P W d f p c q b2 i ≤ zlen P w (pn P) := by
          intro b2 hb2
          unfold ztg
          rw [if_pos ⟨x2, hz⟩]
          have hyw : max (if q < pu P then c else c + 1) (zpf P f i) ≤ w i := by
            split
            · omega
            · rename_i hq
              have := a2 hq
              omega
          have hcy : c ≤ max (if q < pu P then c else c + 1) (zpf P f i) := by split <;> omega
          have hyq : max (if q < pu P then c else c + 1) (zpf P f i) = c → q < pu P := fun e => by
            apply Decidable.byContradiction
            intro hq
            rw [if_neg hq] at e
            omega
          generalize max (if q < pu P then c else c + 1) (zpf P f i) = y at *
          refine yta_le hw hv hW d _ _ _ _ _ hb2 (by omega) ⟨fun j hj => ?_, fun a j ha hj hfa hfj => ?_, ?_, ?_, fun j hj hfj => ?_, ?_, by omega⟩
          · by_cases hji : j = i
            · rw [hji, zfu_at]
              omega
            · rw [zfu_off hji]
              have := h1 j hj
              omega
          · have hji : j ≠ i := fun e => by
              rw [e, zfu_at] at hfj
              omega
            rw [zfu_off hji] at hfj
            by_cases hai : a = i
            · subst hai
              have := x3 j hj (by simpa using hfj)
              omega
            · rw [zfu_off hai] at hfa
              exact h2 a j ha hj hfa hfj
          · rw [zct_fu (by omega), if_pos ⟨x1, rfl⟩]
            by_cases hyc : y = c
            · rw [if_pos hyc, hyc]
              push_cast
              omega
            · rw [if_neg hyc, zct_none _ (fun a ha => by have := h1 a ha; omega)]
              rfl
          · rw [zcp_fu x2 (by omega), h4, if_pos x1]
          · have hji : j ≠ i := fun e => by
              rw [e, zfu_at] at hfj
              omega
            rw [zfu_off hji] at hfj
            have := x3 j hj (by simpa using hfj)
            omega
          · split
            · rename_i hyc
              have := hyq hyc
              omega
            · omega
        -- the loop meets i
        have hfold : ∀ (l : List Nat) (b2 : Int), 0 ≤ b2 → i ∈ l → l.foldl (ztg P W d f p c q) b2 ≤ zlen P w (pn P) := by
          intro l
          induction l with
          | nil => intro b2 _ hm; cases hm
          | cons j l ih =>
            intro b2 hb2 hm
            have hI := ztg_I P W d f p c q b2 j hb2
            rcases List.mem_cons.mp hm with hm | hm
            · subst hm
              have q1 := zfold_I (g := ztg P W d f p c q) (fun b i hb => ztg_I P W d f p c q b i hb) l (ztg P W d f p c q b2 i) hI.1
              exact Int.le_trans q1.2 (hlast b2 hb2)
            · exact ih _ hI.1 hm
        exact hfold _ b h0 (List.mem_range.mpr x1)
theorem yCo_0 {P : zP} {w : Nat → Int} (hv : yVp P w) : yCo P w (fun _ => -3) 0 0 0 := by
  have hc : ∀ m, zcp (fun _ => -3) m = 0 := by
    intro m
    induction m with
    | zero => rfl
    | succ m ih =>
      show zcp (fun _ => -3) m + (if (-3 : Int) ≠ -3 then 1 else 0) = 0
      rw [ih, if_neg (by decide)]
  refine ⟨fun _ _ => Or.inl rfl, fun _ _ _ _ h => absurd rfl h, ?_, hc _, fun j hj _ => hv.1 j hj, by omega, Int.le_refl _⟩
  rw [zct_none _ (fun a _ => by show (-3 : Int) ≠ 0; omega)]
  rfl
/-- what the class's search finds -/
theorem yshort {P : zP} (hw : zWf P) (h7 : pn P ≤ 7) {f : Nat → Int} (hW : zIsW P f 0) : yOpt P (zshort P) := by
  have hWz : ∀ i, i < pn P → f i = zway P i := fun i hi => zway_eq hW hi
  have hWw : zIsW P (zway P) 0 := fun i h1 h2 => by
    rw [← hWz i h2, hW i h1 h2]
    exact zwf_congr _ (fun j g1 g2 => hWz j (by omega))
  have hall := (zod_P hw (zway P)).2.2.2
  have hls := yPv_all (yls hw (zway P) (pn P) (Nat.le_refl _)) hall
  have hc : ∀ m, zcp (fun _ => -3) m = 0 := by
    intro m
    induction m with
    | zero => rfl
    | succ m ih =>
      show zcp (fun _ => -3) m + (if (-3 : Int) ≠ -3 then 1 else 0) = 0
      rw [ih, if_neg (by decide)]
  refine ⟨?_, fun w hv => ?_⟩
  · exact yta_val hw 7 _ 0 0 0 _ (by omega) (hc _) (yPv_0 P) ⟨_, hls, rfl⟩
  · exact yta_le hw hv hWw 7 _ 0 0 0 _ (zlen_nn P _ _) (by omega) (yCo_0 hv)
end
section
/-! ALL ORDERS OF A FEW, and the plan that each of them gives -/
def ysc (p : Nat → Nat) : Nat → Nat
  | 0 => 0
  | m + 1 => bif Nat.ble (p m) (p (m + 1)) then m + 1 else ysc p m
def ysl (p : Nat → Nat) (x : Nat) : Nat → Nat
  | 0 => 0
  | m + 1 => bif Nat.ble x (p (m + 1)) then m + 1 else ysl p x m
def ynq (n : Nat) (p : Nat → Nat) (k l i : Nat) : Nat := bif Nat.blt i k then p i else bif Nat.beq i k then p l else bif Nat.beq (k + n - i) l then p k else p (k + n - i)
def yat (l : List Nat) (i : Nat) : Nat := l.getD i 0
/-- the next row -/
def ynx (n : Nat) (l : List Nat) : Option (List Nat) := match ysc (yat l) (n - 1) with
  | 0 => none
  | k + 1 => some ((List.range n).map (ynq n (yat l) k (ysl (yat l) (yat l k) (n - 1))))
def yprm : Nat → List Nat → List (List Nat)
  | 0, _ => [[]]
  | m + 1, l => l.flatMap (fun x => (yprm m (l.erase x)).map (x :: ·))
def yeq : List Nat → List Nat → Bool
  | [], [] => true
  | a :: l, b :: m => Nat.beq a b && yeq l m
  | _, _ => false
def ych (n : Nat) : List (List Nat) → Bool
  | [] => true
  | a :: t => (match t, ynx n a with
    | [], none => true
    | b :: _, some c => yeq c b
    | _, _ => false) && ych n t
theorem yeq_iff : ∀ a b : List Nat, yeq a b = true → a = b
  | [], [], _ => rfl
  | a :: l, b :: m, h => by
    have h : (Nat.beq a b && yeq l m) = true := h
    rw [Bool.and_eq_true] at h
    rw [Nat.eq_of_beq_eq_true h.1, yeq_iff l m h.2]
theorem ych7 : ych 7 (yprm 7 (List.range 7)) = true := by decide +kernel
theorem ych6 : ∀ n : Fin 7, ych n.val (yprm n.val (List.range n.val)) = true := by decide +kernel
theorem ych_all {n : Nat} (h : n ≤ 7) : ych n (yprm n (List.range n)) = true := by
  by_cases h7 : n = 7
  · rw [h7]
    exact ych7
  · exact ych6 ⟨n, by omega⟩
theorem yprm_iff : ∀ (m : Nat) (l k : List Nat), l.length = m → (k ∈ yprm m l ↔ k.Perm l)
  | 0, l, k, h => by
    have hl : l = [] := List.length_eq_zero_iff.mp h
    subst hl
    show k ∈ [[]] ↔ _
    rw [List.mem_singleton, List.perm_nil]
  | m + 1, l, k, h => by
    show k ∈ l.flatMap (fun x => (yprm m (l.erase x)).map (x :: ·)) ↔ _
    rw [List.mem_flatMap]
    constructor
    · rintro ⟨x, hx, hk⟩
      obtain ⟨t, ht, rfl⟩ := List.mem_map.mp hk
      have := (yprm_iff m (l.erase x) t (by rw [List.length_erase_of_mem hx]; omega)).mp ht
      exact List.cons_perm_iff_perm_erase.mpr ⟨hx, this⟩
    · intro hp
      cases k with
      | nil =>
        have := hp.length_eq
        rw [h] at this
        cases this
      | cons x t =>
        obtain ⟨hx, ht⟩ := List.cons_perm_iff_perm_erase.mp hp
        exact ⟨x, hx, List.mem_map.mpr ⟨t, (yprm_iff m (l.erase x) t (by rw [List.length_erase_of_mem hx]; omega)).mpr ht, rfl⟩⟩
theorem yprm_hd : ∀ (m : Nat) (l : List Nat), l.length = m → ∃ t, yprm m l = l :: t
  | 0, l, h => by
    have hl : l = [] := List.length_eq_zero_iff.mp h
    subst hl
    exact ⟨[], rfl⟩
  | m + 1, l, h => by
    cases l with
    | nil => cases h
    | cons x l =>
      obtain ⟨t, ht⟩ := yprm_hd m l (by simpa using h)
      refine ⟨t.map (x :: ·) ++ l.flatMap (fun y => (yprm m ((x :: l).erase y)).map (y :: ·)), ?_⟩
      show (x :: l).flatMap _ = _
      rw [List.flatMap_cons, List.erase_cons_head, ht]
      rfl
theorem yat_map (n : Nat) (g : Nat → Nat) {i : Nat} (hi : i < n) : yat ((List.range n).map g) i = g i := by
  unfold yat
  rw [List.getD_eq_getElem?_getD, List.getElem?_map, List.getElem?_range hi]
  rfl
section ZY
variable {n : Nat} {l : List Nat}
theorem yat_len (hl : l.Perm (List.range n)) : l.length = n := by rw [hl.length_eq, List.length_range]
theorem yat_get (hl : l.Perm (List.range n)) {p : Nat} (hp : p < n) : ∃ h : p < l.length, yat l p = l[p] := by
  have := yat_len hl
  refine ⟨by omega, ?_⟩
  unfold yat
  rw [List.getD_eq_getElem?_getD, List.getElem?_eq_getElem (by omega)]
  rfl
theorem yat_lt (hl : l.Perm (List.range n)) {p : Nat} (hp : p < n) : yat l p < n := by
  obtain ⟨h, e⟩ := yat_get hl hp
  rw [e]
  exact List.mem_range.mp (hl.mem_iff.mp (List.getElem_mem h))
theorem yat_surj (hl : l.Perm (List.range n)) {i : Nat} (hi : i < n) : ∃ p, p < n ∧ yat l p = i := by
  have hm : i ∈ l := hl.mem_iff.mpr (List.mem_range.mpr hi)
  obtain ⟨p, hp, e⟩ := List.mem_iff_getElem.mp hm
  have := yat_len hl
  obtain ⟨h, e2⟩ := yat_get hl (p := p) (by omega)
  exact ⟨p, by omega, by rw [e2]; exact e⟩
theorem yat_inj (hl : l.Perm (List.range n)) {p q : Nat} (hp : p < n) (hq : q < n) (h : yat l p = yat l q) : p = q := by
  have hn : l.Nodup := hl.nodup_iff.mpr List.nodup_range
  obtain ⟨h1, e1⟩ := yat_get hl hp
  obtain ⟨h2, e2⟩ := yat_get hl hq
  rw [e1, e2] at h
  have hp2 := List.pairwise_iff_getElem.mp hn
  rcases Nat.lt_trichotomy p q with h3 | h3 | h3
  · exact absurd h (hp2 p q h1 h2 h3)
  · exact h3
  · exact absurd h.symm (hp2 q p h2 h1 h3)
theorem ycn_perm (hl : l.Perm (List.range n)) (c : Nat → Bool) : ycn (fun p => c (yat l p)) n = ycn c n := by
  have hc : ∀ (c : Nat → Bool) m, ycn c m = (List.range m).countP c := by
    intro c m
    induction m with
    | zero => rfl
    | succ m ih =>
      show ycn c m + (if c m = true then 1 else 0) = _
      rw [List.range_succ, List.countP_append, ih, List.countP_singleton]
  rw [hc, hc, ← hl.countP_eq c]
  have hm : (List.range n).map (yat l) = l := by
    refine List.ext_getElem (by rw [List.length_map, List.length_range, yat_len hl]) (fun i h1 h2 => ?_)
    rw [List.getElem_map, List.getElem_range]
    obtain ⟨h, e⟩ := yat_get hl (p := i) (by have := yat_len hl; omega)
    exact e
  have h2 := List.countP_map (p := c) (f := yat l) (l := List.range n)
  rw [hm] at h2
  rw [h2]
  rfl
theorem zct_perm (hl : l.Perm (List.range n)) (w : Nat → Int) (z : Int) : zct (fun p => w (yat l p)) z n = zct w z n := by
  rw [zct_cn, zct_cn]
  exact ycn_perm hl (fun i => decide (w i = z))
end ZY
theorem zct_le_of (w : Nat → Int) (z : Int) : ∀ {m n : Nat}, m ≤ n → zct w z m ≤ zct w z n
  | m, 0, h => by
    have : m = 0 := by omega
    subst this
    exact Nat.le_refl _
  | m, n + 1, h => by
    by_cases hm : m = n + 1
    · subst hm
      exact Nat.le_refl _
    · have := zct_le_of w z (m := m) (n := n) (by omega)
      show _ ≤ zct w z n + _
      omega
/-- the plan that an order gives -/
def yGr (P : zP) (ord : Nat → Nat) (f : Nat → Int) : Prop := ∀ k, k < pn P → zLc P ord f k (ylr P ord f (ord k) 0 k) (f (ord k))
def yKp (P : zP) (ord : Nat → Nat) : Prop := ∀ a b, a < b → b < pn P → ¬ (ord b < ord a ∧ 0 ≤ zdm P (ord b) (ord a))
theorem yGr_val {P : zP} (hw : zWf P) {l : List Nat} (hl : l.Perm (List.range (pn P))) {f : Nat → Int} (hk : yKp P (yat l)) (hg : yGr P (yat l) f) : yVp P f := by
  have h0 : ∀ k, k < pn P → 0 ≤ f (yat l k) := fun k hkn => by
    have h1 := (hg k hkn).1
    have h2 := ((ylr_le (P := P) (ord := yat l) (f := f) (j := yat l k) (c := 0) k).mp (Int.le_refl _)).1
    omega
  refine ⟨fun i hi => ?_, fun i j hij hj hd => ?_, fun z => ?_⟩
  · obtain ⟨p, hp, rfl⟩ := yat_surj hl hi
    exact h0 p hp
  · obtain ⟨p, hp, ep⟩ := yat_surj hl (i := i) (by omega)
    obtain ⟨r, hr, er⟩ := yat_surj hl hj
    have hz : 0 ≤ zdm P i j := (zdm_ge hw hj).mpr ⟨hij, hd⟩
    have hpr : p < r := by
      rcases Nat.lt_trichotomy p r with h | h | h
      · exact h
      · subst h
        omega
      · exact absurd ⟨by rw [ep, er]; exact hij, by rw [ep, er]; exact hz⟩ (hk r p h hp)
    have h1 := (hg r hr).1
    have h2 := ((ylr_le (P := P) (ord := yat l) (f := f) (j := yat l r) (c := 0) r).mp (Int.le_refl _)).2 p hpr (by rw [ep, er]; exact hz)
    rw [ep, er] at h2
    rw [er] at h1
    rw [zdm_dc hw hj hz] at h2
    omega
  · rw [← zct_perm hl f z]
    have : ∀ k, k ≤ pn P → zct (fun p => f (yat l p)) z k ≤ pu P := by
      intro k
      induction k with
      | zero => intro _; exact Nat.zero_le _
      | succ k ih =>
        intro hk2
        have h1 := ih (by omega)
        have h2 := (hg k (by omega)).2.1
        show zct (fun p => f (yat l p)) z k + (if f (yat l k) = z then 1 else 0) ≤ pu P
        split
        · rename_i h3
          rw [h3] at h2
          omega
        · omega
    exact this _ (Nat.le_refl _)
/-- the order of a plan -/
def yle (w : Nat → Int) (a b : Nat) : Bool := decide (w a < w b ∨ (w a = w b ∧ a ≤ b))
theorem ysort (w : Nat → Int) (n : Nat) : ∃ l : List Nat, l.Perm (List.range n) ∧ ∀ p q, p < q → q < n → yle w (yat l p) (yat l q) = true := by
  refine ⟨(List.range n).mergeSort (yle w), List.mergeSort_perm _ _, fun p q hpq hq => ?_⟩
  have hl := List.mergeSort_perm (List.range n) (yle w)
  have hs := List.pairwise_mergeSort (le := yle w) (fun a b c h1 h2 => by
    unfold yle at h1 h2 ⊢
    rw [decide_eq_true_eq] at h1 h2 ⊢
    omega) (fun a b => by
    unfold yle
    rw [Bool.or_eq_true, decide_eq_true_eq, decide_eq_true_eq]
    omega) (List.range n)
  obtain ⟨h1, e1⟩ := yat_get hl (p := p) (by omega)
  obtain ⟨h2, e2⟩ := yat_get hl hq
  rw [e1, e2]
  exact (List.pairwise_iff_getElem.mp hs) p q h1 h2 hpq
theorem ysort_kp {P : zP} (hw : zWf P) {w : Nat → Int} (hv : yVp P w) {l : List Nat} (hl : l.Perm (List.range (pn P))) (hs : ∀ p q, p < q → q < pn P → yle w (yat l p) (yat l q) = true) : yKp P (yat l) := by
  intro a b hab hb h
  have h1 := hs a b hab hb
  unfold yle at h1
  rw [decide_eq_true_eq] at h1
  have ha := yat_lt hl (p := a) (by omega)
  obtain ⟨h2, h3⟩ := (zdm_ge hw ha).mp h.2
  have h4 := hv.2.1 _ _ h2 ha h3
  have h5 := zdc_nn hw h2 ha h3
  omega
theorem yGr_le {P : zP} (hw : zWf P) {w f : Nat → Int} (hv : yVp P w) {l : List Nat} (hl : l.Perm (List.range (pn P))) (hs : ∀ p q, p < q → q < pn P → yle w (yat l p) (yat l q) = true) (hg : yGr P (yat l) f) : ∀ (k : Nat), k < pn P → f (yat l k) ≤ w (yat l k) := by
  intro k
  induction k using Nat.strongRecOn with
  | _ k ih =>
    intro hk
    apply Decidable.byContradiction
    intro hlt
    have hkn := yat_lt hl hk
    obtain ⟨g1, g2, g3⟩ := hg k hk
    have hsk : ∀ p, p < k → w (yat l p) ≤ w (yat l k) := fun p hp => by
      have := hs p k hp hk
      unfold yle at this
      rw [decide_eq_true_eq] at this
      omega
    have hx : ylr P (yat l) f (yat l k) 0 k ≤ w (yat l k) := by
      refine (ylr_le k).mpr ⟨hv.1 _ hkn, fun p hp hz => ?_⟩
      obtain ⟨q1, q2⟩ := (zdm_ge hw hkn).mp hz
      have q3 := hv.2.1 _ _ q1 hkn q2
      have q4 := ih p hp (by omega)
      rw [zdm_dc hw hkn hz]
      omega
    generalize hX : ylr P (yat l) f (yat l k) 0 k = x at *
    obtain ⟨T, hT⟩ : ∃ T : Nat, w (yat l k) - x + 1 = T := Int.eq_ofNat_of_zero_le (by omega)
    have b1 := ycn_lo (w := fun p => f (yat l p)) (u := pu P) (m := k) (c := x) T (fun z z1 z2 => g3 z z1 (by omega))
    have b2 : ycn (fun p => decide (x ≤ f (yat l p) ∧ f (yat l p) < x + T)) k ≤ ycn (fun p => decide (x ≤ w (yat l p) ∧ w (yat l p) < x + T)) k := ycn_mono k (fun p hp he => by
      rw [decide_eq_true_eq] at he ⊢
      have := ih p hp (by omega)
      have := hsk p hp
      omega)
    have b3 := ycn_up (w := fun p => w (yat l p)) (u := pu P) (m := k + 1) (c := x) (fun z => Nat.le_trans (zct_le_of _ z (show k + 1 ≤ pn P by omega)) (by rw [zct_perm hl]; exact hv.2.2 z)) T (fun p => decide (x ≤ w (yat l p) ∧ w (yat l p) < x + T)) (fun p hp he => by
      rw [decide_eq_true_eq] at he
      exact he)
    have b4 : ycn (fun p => decide (x ≤ w (yat l p) ∧ w (yat l p) < x + T)) (k + 1) = ycn (fun p => decide (x ≤ w (yat l p) ∧ w (yat l p) < x + T)) k + 1 := by
      show _ + (if decide (x ≤ w (yat l k) ∧ w (yat l k) < x + T) = true then 1 else 0) = _
      rw [if_pos (by rw [decide_eq_true_eq]; omega)]
    omega
/-- the least of all orders' plans is the least of all plans -/
theorem yall {P : zP} (hw : zWf P) {b : Int} (h1 : ∃ l : List Nat, l.Perm (List.range (pn P)) ∧ yKp P (yat l) ∧ ∃ f, yGr P (yat l) f ∧ zlen P f (pn P) = b) (h2 : ∀ l : List Nat, l.Perm (List.range (pn P)) → yKp P (yat l) → ∃ f, yGr P (yat l) f ∧ b ≤ zlen P f (pn P)) : yOpt P b := by
  refine ⟨?_, fun w hv => ?_⟩
  · obtain ⟨l, hl, hk, f, hf, e⟩ := h1
    exact ⟨f, yGr_val hw hl hk hf, e⟩
  · obtain ⟨l, hl, hs⟩ := ysort w (pn P)
    obtain ⟨f, hf, hb⟩ := h2 l hl (ysort_kp hw hv hl hs)
    refine Int.le_trans hb (zlen_mono _ (fun i hi => ?_))
    obtain ⟨p, hp, rfl⟩ := yat_surj hl hi
    exact yGr_le hw hv hl hs hf p hp
end
section
/-! THE REFERENCE'S SHORTEST PLAN -/
section ZX
variable {L : Nat} {M : zM} {P : zP} {ord : Nat → Nat}
theorem sp_M_exchange {a b : Nat} (ha : a < 60) (hb : b < 60) : zf (zSh L) 1 kX8_exchange [zvr 34, zvi a, zvi b] M (fun v M1 => v = none ∧ M1 = zup (zup M 49 a (M 49 b)) 49 b (M 49 a)) := by
  refine zf_of rfl (Nat.le_of_ble_eq_true rfl) ?_
  repeat refine zr_s rfl rfl rfl ?_
  refine zr_ald (a) rfl rfl rfl (by omega) (by decide) ?_
  repeat refine zr_s rfl rfl rfl ?_
  refine zr_ald (b) rfl rfl rfl (by omega) (by decide) ?_
  repeat refine zr_s rfl rfl rfl ?_
  refine zr_ast (a) rfl rfl rfl (by omega) (by decide) ?_
  repeat refine zr_s rfl rfl rfl ?_
  refine zr_ast (b) rfl rfl rfl (by omega) (by decide) ?_
  repeat refine zr_s rfl rfl rfl ?_
  exact zr_retv rfl (⟨rfl, rfl⟩)
theorem sp_M_isKept (hB : zBm M P) (hw : zWf P) (hD : zDm M P) (hR : ∀ p, p < pn P → M 49 p = ord p ∧ ord p < pn P) : zf (zSh L) 2 kX8_isKept [zvr 34] M (fun v M1 => M1 = M ∧ ((v = some (.inl 1) ∧ yKp P ord) ∨ (v = some (.inl 0) ∧ ¬ yKp P ord))) := by
  have h60 := hw.1
  have outer : ∀ (t a : Nat) (o2 : Option zV), a + t = pn P → (∀ x y, x < a → x < y → y < pn P → ¬ (ord y < ord x ∧ 0 ≤ zdm P (ord y) (ord x))) → zr (zSh L) 1 tX8_isKept 2 [some (zvr 34), some (zvi a), o2] [] M (fun v M1 => M1 = M ∧ ((v = some (.inl 1) ∧ yKp P ord) ∨ (v = some (.inl 0) ∧ ¬ yKp P ord))) := by
    intro t
    induction t with
    | zero =>
      intro a o2 ha hE
      repeat refine zr_s rfl rfl rfl ?_
      rw [hB.1]
      refine zr_ige rfl (by omega) (by omega) (fun h => ?_) (fun h => by omega)
      repeat refine zr_s rfl rfl rfl ?_
      exact zr_retz rfl (by omega) (⟨rfl, Or.inl ⟨rfl, fun x y h1 h2 => hE x y (by omega) h1 h2⟩⟩)
    | succ t ih =>
      intro a o2 ha hE
      repeat refine zr_s rfl rfl rfl ?_
      rw [hB.1]
      refine zr_ige rfl (by omega) (by omega) (fun h => by omega) (fun h => ?_)
      obtain ⟨ra, rn⟩ := hR a (by omega)
      have inner : ∀ (u b : Nat), b + u = pn P → a < b → (∀ y, a < y → y < b → ¬ (ord y < ord a ∧ 0 ≤ zdm P (ord y) (ord a))) → zr (zSh L) 1 tX8_isKept 14 [some (zvr 34), some (zvi a), some (zvi b)] [] M (fun v M1 => M1 = M ∧ ((v = some (.inl 1) ∧ yKp P ord) ∨ (v = some (.inl 0) ∧ ¬ yKp P ord))) := by
        intro u
        induction u with
        | zero =>
          intro b hb hab hF
          repeat refine zr_s rfl rfl rfl ?_
          rw [hB.1]
          refine zr_ige rfl (by omega) (by omega) (fun h => ?_) (fun h => by omega)
          repeat refine zr_s rfl rfl rfl ?_
          refine zr_b rfl rfl ?_
          refine ih (a + 1) _ (by omega) (fun x y h1 h2 h3 => ?_)
          by_cases hxa : x = a
          · subst hxa
            exact hF y h2 (by omega)
          · exact hE x y (by omega) h2 h3
        | succ u ihu =>
          intro b hb hab hF
          obtain ⟨rb, rbn⟩ := hR b (by omega)
          have hzI := zdm_I hw rbn rn
          have nxt : ¬ (ord b < ord a ∧ 0 ≤ zdm P (ord b) (ord a)) → zr (zSh L) 1 tX8_isKept 58 [some (zvr 34), some (zvi a), some (zvi b)] [] M (fun v M1 => M1 = M ∧ ((v = some (.inl 1) ∧ yKp P ord) ∨ (v = some (.inl 0) ∧ ¬ yKp P ord))) := fun hn => by
            repeat refine zr_s rfl rfl rfl ?_
            refine zr_b rfl rfl ?_
            refine ihu (b + 1) (by omega) (by omega) (fun y h1 h2 => ?_)
            by_cases hyb : y = b
            · rw [hyb]
              exact hn
            · exact hF y h1 (by omega)
          repeat refine zr_s rfl rfl rfl ?_
          rw [hB.1]
          refine zr_ige rfl (by omega) (by omega) (fun h => by omega) (fun h => ?_)
          repeat refine zr_s rfl rfl rfl ?_
          refine zr_ald (b) rfl rfl rfl (by omega) (by decide) ?_
          repeat refine zr_s rfl rfl rfl ?_
          refine zr_ald (a) rfl rfl rfl (by omega) (by decide) ?_
          rw [ra, rb]
          refine zr_ige rfl (by omega) (by omega) (fun h2 => nxt (by omega)) (fun h2 => ?_)
          repeat refine zr_s rfl rfl rfl ?_
          refine zr_ald (b) rfl rfl rfl (by omega) (by decide) ?_
          repeat refine zr_s rfl rfl rfl ?_
          refine zr_ald (a) rfl rfl rfl (by omega) (by decide) ?_
          rw [ra, rb]
          refine zr_cr rfl rfl rfl (zf_mono (Nat.le_of_ble_eq_true rfl) (sp_M_delayAt hw hD rbn rn)) ?_
          refine zr_zlt rfl (by omega) (fun h3 => nxt (by omega)) (fun h3 => ?_)
          repeat refine zr_s rfl rfl rfl ?_
          exact zr_retz rfl (by omega) (⟨rfl, Or.inr ⟨rfl, fun z => z a b hab (by omega) ⟨by omega, h3⟩⟩⟩)
      repeat refine zr_t 14 rfl rfl rfl rfl ?_
      exact inner (pn P - (a + 1)) (a + 1) (by omega) (by omega) (fun y h1 h2 => by omega)
  refine zf_of rfl (Nat.le_of_ble_eq_true rfl) ?_
  repeat refine zr_t 2 rfl rfl rfl rfl ?_
  exact outer (pn P) 0 _ (by omega) (fun x y h1 => by omega)
theorem ysc_P (p : Nat → Nat) : ∀ m, ysc p m ≤ m ∧ (0 < ysc p m → p (ysc p m - 1) ≤ p (ysc p m))
  | 0 => ⟨Nat.le_refl _, fun h => by cases h⟩
  | m + 1 => by
    have ih := ysc_P p m
    show (bif Nat.ble (p m) (p (m + 1)) then m + 1 else ysc p m) ≤ m + 1 ∧ (0 < (bif Nat.ble (p m) (p (m + 1)) then m + 1 else ysc p m) → p ((bif Nat.ble (p m) (p (m + 1)) then m + 1 else ysc p m) - 1) ≤ p (bif Nat.ble (p m) (p (m + 1)) then m + 1 else ysc p m))
    cases hb : Nat.ble (p m) (p (m + 1)) with
    | true => exact ⟨Nat.le_refl _, fun _ => Nat.le_of_ble_eq_true hb⟩
    | false => exact ⟨by show ysc p m ≤ m + 1; omega, ih.2⟩
theorem sp_M_nextRow (hB : zBm M P) (hw : zWf P) (hR : ∀ p, p < pn P → M 49 p = ord p ∧ ord p < pn P) : zf (zSh L) 2 kX8_nextRow [zvr 34] M (fun v M1 => (∀ a, a ≠ 49 → M1 a = M a) ∧ ((v = some (.inl 0) ∧ ysc ord (pn P - 1) = 0) ∨ (v = some (.inl 1) ∧ ∃ k, ysc ord (pn P - 1) = k + 1 ∧ ∀ i, i < pn P → M1 49 i = ynq (pn P) ord k (ysl ord (ord k) (pn P - 1)) i))) := by
  have h60 := hw.1
  -- none
  have stop : ∀ (x : Int) (o2 o3 o4 : Option zV), x < 0 → -100 < x → ysc ord (pn P - 1) = 0 → zr (zSh L) 1 tX8_nextRow 34 [some (zvr 34), some (zvi x), o2, o3, o4] [] M (fun v M1 => (∀ a, a ≠ 49 → M1 a = M a) ∧ ((v = some (.inl 0) ∧ ysc ord (pn P - 1) = 0) ∨ (v = some (.inl 1) ∧ ∃ k, ysc ord (pn P - 1) = k + 1 ∧ ∀ i, i < pn P → M1 49 i = ynq (pn P) ord k (ysl ord (ord k) (pn P - 1)) i))) := by
    intro x o2 o3 o4 hx hx2 h0
    repeat refine zr_s rfl rfl rfl ?_
    refine zr_zge rfl (by omega) (fun h => by omega) (fun _ => ?_)
    repeat refine zr_s rfl rfl rfl ?_
    exact zr_retz rfl (by omega) (⟨fun _ _ => rfl, Or.inl ⟨rfl, h0⟩⟩)
  -- k is found
  have found : ∀ (k : Nat) (o2 o3 o4 : Option zV), ysc ord (pn P - 1) = k + 1 → zr (zSh L) 1 tX8_nextRow 34 [some (zvr 34), some (zvi k), o2, o3, o4] [] M (fun v M1 => (∀ a, a ≠ 49 → M1 a = M a) ∧ ((v = some (.inl 0) ∧ ysc ord (pn P - 1) = 0) ∨ (v = some (.inl 1) ∧ ∃ k, ysc ord (pn P - 1) = k + 1 ∧ ∀ i, i < pn P → M1 49 i = ynq (pn P) ord k (ysl ord (ord k) (pn P - 1)) i))) := by
    intro k o2 o3 o4 hk
    have hsc := ysc_P ord (pn P - 1)
    rw [hk] at hsc
    have hk1 : k + 1 ≤ pn P - 1 := hsc.1
    have hk2 : ord k ≤ ord (k + 1) := hsc.2 (by omega)
    obtain ⟨rk, rkn⟩ := hR k (by omega)
    -- l is found
    have swap : ∀ (l : Nat), ysl ord (ord k) (pn P - 1) = l → k < l → l < pn P → zr (zSh L) 1 tX8_nextRow 68 [some (zvr 34), some (zvi k), some (zvi l), o3, o4] [] M (fun v M1 => (∀ a, a ≠ 49 → M1 a = M a) ∧ ((v = some (.inl 0) ∧ ysc ord (pn P - 1) = 0) ∨ (v = some (.inl 1) ∧ ∃ k, ysc ord (pn P - 1) = k + 1 ∧ ∀ i, i < pn P → M1 49 i = ynq (pn P) ord k (ysl ord (ord k) (pn P - 1)) i))) := by
      intro l hl hkl hln
      obtain ⟨rl, rln⟩ := hR l hln
      repeat refine zr_s rfl rfl rfl ?_
      refine zr_c rfl rfl rfl (zf_mono (Nat.le_of_ble_eq_true rfl) (sp_M_exchange (a := k) (b := l) (by omega) (by omega))) (fun v M1 hv => ?_)
      obtain ⟨rfl, e1⟩ := hv
      have hoff : ∀ a, a ≠ 49 → M1 a = M a := fun a ha => by rw [e1, zup_row ha, zup_row ha]
      have hg : ∀ i, i < pn P → M1 49 i = if i = k then (ord l : Int) else if i = l then (ord k : Int) else (ord i : Int) := by
        intro i hi
        rw [e1]
        by_cases hil : i = l
        · rw [hil, zup_at, if_neg (by omega), if_pos rfl]
          exact rk
        · rw [zup_off hil]
          by_cases hik : i = k
          · rw [hik, zup_at, if_pos rfl]
            exact rl
          · rw [zup_off hik, if_neg hik, if_neg hil]
            exact (hR i hi).1
      have hn1 : M1 34 5 = pn P := by rw [hoff 34 (by decide)]; exact hB.1
      clear e1
      have rev : ∀ (u t : Nat) (N : zM), k + 1 + t ≤ pn P - 1 - t + 1 → pn P < u + t → (∀ a, a ≠ 49 → N a = M a) → (∀ i, i < pn P → N 49 i = if (k < i ∧ i < k + 1 + t) ∨ pn P - 1 - t < i then M1 49 (k + pn P - i) else M1 49 i) → zr (zSh L) 1 tX8_nextRow 86 [some (zvr 34), some (zvi k), some (zvi l), some (zvi ((k + 1 + t : Nat) : Int)), some (zvi ((pn P : Int) - 1 - t))] [] N (fun v M1 => (∀ a, a ≠ 49 → M1 a = M a) ∧ ((v = some (.inl 0) ∧ ysc ord (pn P - 1) = 0) ∨ (v = some (.inl 1) ∧ ∃ k, ysc ord (pn P - 1) = k + 1 ∧ ∀ i, i < pn P → M1 49 i = ynq (pn P) ord k (ysl ord (ord k) (pn P - 1)) i))) := by
        intro u
        induction u with
        | zero =>
          intro t N h1 h2 hN hE
          omega
        | succ u ih =>
          intro t N h1 h2 hN hE
          repeat refine zr_s rfl rfl rfl ?_
          refine zr_ige rfl (by omega) (by omega) (fun h => ?_) (fun h => ?_)
          · repeat refine zr_s rfl rfl rfl ?_
            refine zr_retz rfl (by omega) ⟨hN, Or.inr ⟨rfl, k, hk, fun i hi => ?_⟩⟩
            rw [hE i hi, hl]
            unfold ynq
            by_cases hik : i < k
            · rw [if_neg (by omega), hg i hi, if_neg (by omega), if_neg (by omega), show Nat.blt i k = true from Nat.ble_eq_true_of_le hik]
              rfl
            · have hb1 : Nat.blt i k = false := by
                cases hb : Nat.blt i k with
                | false => rfl
                | true => exact absurd (Nat.le_of_ble_eq_true hb) (by omega)
              rw [hb1, cond_false]
              by_cases hie : i = k
              · subst hie
                rw [if_neg (by omega), hg i hi, if_pos rfl, show Nat.beq i i = true from Nat.beq_refl i, cond_true]
              · have hb2 : Nat.beq i k = false := by
                  cases hb : Nat.beq i k with
                  | false => rfl
                  | true => exact absurd (Nat.eq_of_beq_eq_true hb) hie
                rw [hb2, cond_false]
                have hmid : (if (k < i ∧ i < k + 1 + t) ∨ pn P - 1 - t < i then M1 49 (k + pn P - i) else M1 49 i) = M1 49 (k + pn P - i) := by
                  split
                  · rfl
                  · rw [show k + pn P - i = i by omega]
                rw [hmid, hg _ (by omega), if_neg (by omega)]
                by_cases hil : k + pn P - i = l
                · rw [if_pos hil, show Nat.beq (k + pn P - i) l = true by rw [hil]; exact Nat.beq_refl l, cond_true]
                · have hb3 : Nat.beq (k + pn P - i) l = false := by
                    cases hb : Nat.beq (k + pn P - i) l with
                    | false => rfl
                    | true => exact absurd (Nat.eq_of_beq_eq_true hb) hil
                  rw [if_neg hil, hb3, cond_false]
          · repeat refine zr_s rfl rfl rfl ?_
            have e2 : (pn P : Int) - 1 - t = ((pn P - 1 - t : Nat) : Int) := by omega
            rw [e2]
            refine zr_c rfl rfl rfl (zf_mono (Nat.le_of_ble_eq_true rfl) (sp_M_exchange (a := k + 1 + t) (b := pn P - 1 - t) (by omega) (by omega))) (fun v M2 hv => ?_)
            obtain ⟨rfl, e3⟩ := hv
            repeat refine zr_s rfl rfl rfl ?_
            refine zr_b rfl rfl ?_
            have e4 : ((pn P - 1 - t : Nat) : Int) + -1 = (pn P : Int) - 1 - ((t + 1 : Nat) : Int) := by omega
            rw [e4]
            refine ih (t + 1) M2 (by omega) (by omega) (fun a ha => by rw [e3, zup_row ha, zup_row ha]; exact hN a ha) (fun i hi => ?_)
            have ea := hE (k + 1 + t) (by omega)
            rw [if_neg (by omega)] at ea
            have eb := hE (pn P - 1 - t) (by omega)
            rw [if_neg (by omega)] at eb
            rw [e3]
            by_cases hib : i = pn P - 1 - t
            · rw [if_pos (by omega), hib, zup_at, ea]
              rw [show k + pn P - (pn P - 1 - t) = k + 1 + t by omega]
            · rw [zup_off hib]
              by_cases hia : i = k + 1 + t
              · rw [if_pos (by omega), hia, zup_at, eb]
                rw [show k + pn P - (k + 1 + t) = pn P - 1 - t by omega]
              · rw [zup_off hia, hE i hi]
                by_cases hc : (k < i ∧ i < k + 1 + t) ∨ pn P - 1 - t < i
                · rw [if_pos hc, if_pos (by omega)]
                · rw [if_neg hc, if_neg (by omega)]
      repeat refine zr_t 86 rfl rfl rfl rfl ?_
      rw [hn1]
      have h0 := rev 61 0 M1 (by omega) (by omega) hoff (fun i hi => by rw [if_neg (by omega)])
      rw [show (pn P : Int) - 1 - ((0 : Nat) : Int) = (pn P : Int) - 1 by omega] at h0
      exact h0
    have floop : ∀ (t m : Nat), m = k + 1 + t → m ≤ pn P - 1 → ysl ord (ord k) (pn P - 1) = ysl ord (ord k) m → zr (zSh L) 1 tX8_nextRow 47 [some (zvr 34), some (zvi k), some (zvi m), o3, o4] [] M (fun v M1 => (∀ a, a ≠ 49 → M1 a = M a) ∧ ((v = some (.inl 0) ∧ ysc ord (pn P - 1) = 0) ∨ (v = some (.inl 1) ∧ ∃ k, ysc ord (pn P - 1) = k + 1 ∧ ∀ i, i < pn P → M1 49 i = ynq (pn P) ord k (ysl ord (ord k) (pn P - 1)) i))) := by
      intro t
      induction t with
      | zero =>
        intro m hm hm2 he
        obtain ⟨rm, rmn⟩ := hR m (by omega)
        subst hm
        have hS : ysl ord (ord k) (k + 1 + 0) = k + 1 := by
          show (bif Nat.ble (ord k) (ord (k + 1)) then k + 1 else ysl ord (ord k) k) = k + 1
          rw [Nat.ble_eq_true_of_le hk2]
          rfl
        repeat refine zr_s rfl rfl rfl ?_
        refine zr_ald (k + 1 + 0) rfl rfl rfl (by omega) (by decide) ?_
        repeat refine zr_s rfl rfl rfl ?_
        refine zr_ald (k) rfl rfl rfl (by omega) (by decide) ?_
        rw [rm, rk]
        refine zr_ige rfl (by omega) (by omega) (fun h => ?_) (fun h => by rw [Nat.add_zero] at h; omega)
        exact swap (k + 1 + 0) (by rw [he, hS]) (by omega) (by omega)
      | succ t ih =>
        intro m hm hm2 he
        obtain ⟨rm, rmn⟩ := hR m (by omega)
        obtain ⟨m', rfl⟩ : ∃ m', m = m' + 1 := ⟨k + 1 + t, by omega⟩
        have hS : ysl ord (ord k) (m' + 1) = bif Nat.ble (ord k) (ord (m' + 1)) then m' + 1 else ysl ord (ord k) m' := rfl
        repeat refine zr_s rfl rfl rfl ?_
        refine zr_ald (m' + 1) rfl rfl rfl (by omega) (by decide) ?_
        repeat refine zr_s rfl rfl rfl ?_
        refine zr_ald (k) rfl rfl rfl (by omega) (by decide) ?_
        rw [rm, rk]
        refine zr_ige rfl (by omega) (by omega) (fun h => ?_) (fun h => ?_)
        · refine swap (m' + 1) ?_ (by omega) (by omega)
          rw [he, hS, Nat.ble_eq_true_of_le (by omega)]
          rfl
        · repeat refine zr_s rfl rfl rfl ?_
          refine zr_b rfl rfl ?_
          have hb : Nat.ble (ord k) (ord (m' + 1)) = false := by
            cases hb : Nat.ble (ord k) (ord (m' + 1)) with
            | false => rfl
            | true => exact absurd (Nat.le_of_ble_eq_true hb) (by omega)
          rw [show ((m' + 1 : Nat) : Int) + -1 = (m' : Int) by omega]
          refine ih m' (by omega) (by omega) ?_
          rw [he, hS, hb]
          rfl
    repeat refine zr_s rfl rfl rfl ?_
    refine zr_zge rfl (by omega) (fun _ => ?_) (fun h => by omega)
    repeat refine zr_t 47 rfl rfl rfl rfl ?_
    rw [hB.1, show (pn P : Int) - 1 = ((pn P - 1 : Nat) : Int) by omega]
    exact floop (pn P - 1 - (k + 1)) (pn P - 1) (by omega) (Nat.le_refl _) rfl
  have kloop : ∀ (m : Nat) (o2 o3 o4 : Option zV), m ≤ pn P - 1 → ysc ord (pn P - 1) = ysc ord m → zr (zSh L) 1 tX8_nextRow 7 [some (zvr 34), some (zvi ((m : Int) - 1)), o2, o3, o4] [] M (fun v M1 => (∀ a, a ≠ 49 → M1 a = M a) ∧ ((v = some (.inl 0) ∧ ysc ord (pn P - 1) = 0) ∨ (v = some (.inl 1) ∧ ∃ k, ysc ord (pn P - 1) = k + 1 ∧ ∀ i, i < pn P → M1 49 i = ynq (pn P) ord k (ysl ord (ord k) (pn P - 1)) i))) := by
    intro m
    induction m with
    | zero =>
      intro o2 o3 o4 hm he
      repeat refine zr_s rfl rfl rfl ?_
      refine zr_zlt rfl (by omega) (fun _ => ?_) (fun h => by omega)
      exact stop _ _ _ _ (by omega) (by omega) he
    | succ m ih =>
      intro o2 o3 o4 hm he
      obtain ⟨r1, r1n⟩ := hR m (by omega)
      obtain ⟨r2, r2n⟩ := hR (m + 1) (by omega)
      have hS : ysc ord (m + 1) = bif Nat.ble (ord m) (ord (m + 1)) then m + 1 else ysc ord m := rfl
      rw [show ((m + 1 : Nat) : Int) - 1 = (m : Int) by omega]
      repeat refine zr_s rfl rfl rfl ?_
      refine zr_zlt rfl (by omega) (fun h => by omega) (fun _ => ?_)
      repeat refine zr_s rfl rfl rfl ?_
      refine zr_ald (m) rfl rfl rfl (by omega) (by decide) ?_
      repeat refine zr_s rfl rfl rfl ?_
      refine zr_ald (m + 1) rfl rfl rfl (by omega) (by decide) ?_
      rw [r1, r2]
      refine zr_ile rfl (by omega) (by omega) (fun h => ?_) (fun h => ?_)
      · refine found m _ _ _ ?_
        rw [he, hS, Nat.ble_eq_true_of_le (by omega)]
        rfl
      · repeat refine zr_s rfl rfl rfl ?_
        refine zr_b rfl rfl ?_
        have hb : Nat.ble (ord m) (ord (m + 1)) = false := by
          cases hb : Nat.ble (ord m) (ord (m + 1)) with
          | false => rfl
          | true => exact absurd (Nat.le_of_ble_eq_true hb) (by omega)
        refine ih _ _ _ (by omega) ?_
        rw [he, hS, hb]
        rfl
  refine zf_of rfl (Nat.le_of_ble_eq_true rfl) ?_
  by_cases h0 : pn P = 0
  · have hB1 : M 34 5 = 0 := by rw [hB.1, h0]; rfl
    repeat refine zr_t 7 rfl rfl rfl rfl ?_
    rw [hB1]
    repeat refine zr_s rfl rfl rfl ?_
    refine zr_zlt rfl (by decide) (fun _ => ?_) (fun h => absurd h (by decide))
    exact stop (0 - 2) _ _ _ (by decide) (by decide) (by rw [h0]; rfl)
  · repeat refine zr_t 7 rfl rfl rfl rfl ?_
    rw [hB.1, show (pn P : Int) - 2 = ((pn P - 1 : Nat) : Int) - 1 by omega]
    exact kloop (pn P - 1) _ _ _ (Nat.le_refl _) rfl
/-- what the reference's loop over all rows answers from 'best' on -/
def yRs (P : zP) (best : Int) (ls : List (List Nat)) (r : Int) : Prop := (r = best ∨ ∃ l, l ∈ ls ∧ yKp P (yat l) ∧ ∃ f, yGr P (yat l) f ∧ zlen P f (pn P) = r) ∧ (0 ≤ best → 0 ≤ r ∧ r ≤ best) ∧ ∀ l, l ∈ ls → yKp P (yat l) → ∃ f, yGr P (yat l) f ∧ 0 ≤ r ∧ r ≤ zlen P f (pn P)
theorem yRs_cons {P : zP} {best b1 r : Int} {l : List Nat} {ls : List (List Nat)} (h : yRs P b1 ls r) (h1 : (b1 = best ∧ ¬ yKp P (yat l)) ∨ (yKp P (yat l) ∧ ∃ f, yGr P (yat l) f ∧ 0 ≤ b1 ∧ b1 ≤ zlen P f (pn P) ∧ (b1 = zlen P f (pn P) ∨ b1 = best) ∧ (0 ≤ best → b1 ≤ best))) : yRs P best (l :: ls) r := by
  obtain ⟨g1, g2, g3⟩ := h
  rcases h1 with ⟨rfl, hn⟩ | ⟨hk, f, hf, h0, hle, heq, hb⟩
  · refine ⟨g1.elim Or.inl (fun ⟨x, hx, z⟩ => Or.inr ⟨x, List.mem_cons_of_mem _ hx, z⟩), g2, fun x hx hkx => ?_⟩
    rcases List.mem_cons.mp hx with e | e
    · subst e
      exact absurd hkx hn
    · exact g3 x e hkx
  · have g4 := g2 h0
    refine ⟨?_, fun hbest => ⟨g4.1, by have := hb hbest; omega⟩, fun x hx hkx => ?_⟩
    · rcases g1 with g1 | ⟨x, hx, z⟩
      · rcases heq with e | e
        · exact Or.inr ⟨l, List.mem_cons_self .., hk, f, hf, by omega⟩
        · exact Or.inl (by omega)
      · exact Or.inr ⟨x, List.mem_cons_of_mem _ hx, z⟩
    · rcases List.mem_cons.mp hx with e | e
      · subst e
        exact ⟨f, hf, g4.1, by omega⟩
      · exact g3 x e hkx
theorem yLc_congr {P : zP} {ord : Nat → Nat} {f g : Nat → Int} {k : Nat} {j : Nat} {y : Int} (e : ∀ p, p < k → f (ord p) = g (ord p)) (h : zLc P ord f k (ylr P ord f j 0 k) y) : zLc P ord g k (ylr P ord g j 0 k) y := by
  have e1 : ylr P ord f j 0 k = ylr P ord g j 0 k := ylr_congr k e
  have e2 : ∀ z, zct (fun p => f (ord p)) z k = zct (fun p => g (ord p)) z k := fun z => zct_congr k e
  unfold zLc at h ⊢
  rw [e1] at h
  simp only [e2] at h
  exact h
theorem sp_s_row {Q : Option zV → zM → Prop} {l : List Nat} {best : Int} {o3 : Option zV} (hl : l.Perm (List.range (pn P))) (hB : zBm M P) (hw : zWf P) (hD : zDm M P) (h7 : pn P ≤ 7) (hR : ∀ p, p < pn P → M 49 p = yat l p) (hb : -1 ≤ best ∧ best ≤ 2000000) (k : ∀ (N1 : zM) (b1 : Int) (p3 : Option zV), (∀ a, a ≠ 50 → N1 a = M a) → -1 ≤ b1 → b1 ≤ 2000000 → ((b1 = best ∧ ¬ yKp P (yat l)) ∨ (yKp P (yat l) ∧ ∃ f, yGr P (yat l) f ∧ 0 ≤ b1 ∧ b1 ≤ zlen P f (pn P) ∧ (b1 = zlen P f (pn P) ∨ b1 = best) ∧ (0 ≤ best → b1 ≤ best))) → zr (zSh L) 2 tX8_findShortest 99 [some (zvr 34), some (zvi b1), some (zvi 1), p3] [] N1 Q) : zr (zSh L) 2 tX8_findShortest 31 [some (zvr 34), some (zvi best), some (zvi 1), o3] [] M Q := by
  have h60 := hw.1
  repeat refine zr_s rfl rfl rfl ?_
  refine zr_c rfl rfl rfl (zf_mono (Nat.le_of_ble_eq_true rfl) (sp_M_isKept (ord := yat l) hB hw hD (fun p hp => ⟨hR p hp, yat_lt hl hp⟩))) (fun v M1 hv => ?_)
  obtain ⟨e0, hv⟩ := hv
  have e0 := e0.symm
  subst e0
  rcases hv with ⟨rfl, hk⟩ | ⟨rfl, hk⟩
  rotate_left
  · refine zr_zeq rfl (by decide) (fun _ => ?_) (fun h => absurd rfl h)
    exact k M best _ (fun _ _ => rfl) hb.1 hb.2 (Or.inl ⟨rfl, hk⟩)
  refine zr_zeq rfl (by decide) (fun h => by cases h) (fun _ => ?_)
  have loop : ∀ (t i : Nat) (N : zM), i + t = pn P → (∀ a, a ≠ 50 → N a = M a) → (∀ p, p < i → zLc P (yat l) (N 50) p (ylr P (yat l) (N 50) (yat l p) 0 p) (N 50 (yat l p)) ∧ 0 ≤ N 50 (yat l p) ∧ N 50 (yat l p) ≤ 13 * p + 13) → zr (zSh L) 2 tX8_findShortest 40 [some (zvr 34), some (zvi best), some (zvi 1), some (zvi i)] [] N Q := by
    intro t
    induction t with
    | zero =>
      intro i N hi hN hE
      have hn : N 34 5 = pn P := by rw [hN 34 (by decide)]; exact hB.1
      have hBN : zBm N P := zBm_of hB (fun a h1 h2 => hN a (by omega))
      have hf : ∀ q, q < pn P → -3 ≤ N 50 q ∧ N 50 q ≤ 1000000 := fun q hq => by
        obtain ⟨p, hp, rfl⟩ := yat_surj hl hq
        have := (hE p (by omega)).2
        omega
      have hlI := zlen_I hw hf (pn P) (Nat.le_refl _)
      have hgr : yGr P (yat l) (N 50) := fun q hq => (hE q (by omega)).1
      repeat refine zr_s rfl rfl rfl ?_
      rw [hn]
      refine zr_ige rfl (by omega) (by omega) (fun h => ?_) (fun h => by omega)
      repeat refine zr_s rfl rfl rfl ?_
      refine zr_cr rfl rfl rfl (zf_mono (Nat.le_of_ble_eq_true rfl) (sp_M_lengthOf (c := 50) hBN hw rfl hf)) ?_
      repeat refine zr_s rfl rfl rfl ?_
      refine zr_zlt rfl (by omega) (fun h2 => ?_) (fun h2 => ?_)
      · repeat refine zr_t 99 rfl rfl rfl rfl ?_
        exact k N _ _ hN (by omega) (by omega) (Or.inr ⟨hk, N 50, hgr, hlI.1, Int.le_refl _, Or.inl rfl, fun h => by omega⟩)
      · repeat refine zr_s rfl rfl rfl ?_
        refine zr_ige rfl (by omega) (by omega) (fun h3 => ?_) (fun h3 => ?_)
        · repeat refine zr_t 99 rfl rfl rfl rfl ?_
          exact k N _ _ hN (by omega) (by omega) (Or.inr ⟨hk, N 50, hgr, h2, h3, Or.inr rfl, fun _ => Int.le_refl _⟩)
        · repeat refine zr_t 99 rfl rfl rfl rfl ?_
          exact k N _ _ hN (by omega) (by omega) (Or.inr ⟨hk, N 50, hgr, hlI.1, Int.le_refl _, Or.inl rfl, fun h => by omega⟩)
    | succ t ih =>
      intro i N hi hN hE
      have hn : N 34 5 = pn P := by rw [hN 34 (by decide)]; exact hB.1
      have hBN : zBm N P := zBm_of hB (fun a h1 h2 => hN a (by omega))
      have hDN : zDm N P := fun a b ha hb => by rw [hN 41 (by decide)]; exact hD a b ha hb
      have hRN : ∀ p, p < pn P → N 49 p = yat l p := fun p hp => by rw [hN 49 (by decide)]; exact hR p hp
      have hil := yat_lt hl (p := i) (by omega)
      repeat refine zr_s rfl rfl rfl ?_
      rw [hn]
      refine zr_ige rfl (by omega) (by omega) (fun h => by omega) (fun h => ?_)
      repeat refine zr_s rfl rfl rfl ?_
      refine zr_ald (i) rfl rfl rfl (by omega) (by decide) ?_
      rw [hRN i (by omega)]
      repeat refine zr_s rfl rfl rfl ?_
      refine zr_c rfl rfl rfl (zf_mono (Nat.le_of_ble_eq_true rfl) (sp_M_leastCycle (ord := yat l) (c := 50) (b := 13 * (i : Int)) hBN hw hDN rfl (by omega) (fun p hp => ⟨hRN p (by omega), yat_lt hl (by omega)⟩) (fun p hp => by have := (hE p hp).2; omega) (by omega) (by omega))) (fun v M1 hv => ?_)
      obtain ⟨y, rfl, e0, hy, hy2⟩ := hv
      have e0 := e0.symm
      subst e0
      have hy0 : 0 ≤ y := by
        have h1 := hy.1
        have h2 := ((ylr_le (P := P) (ord := yat l) (f := N 50) (j := yat l i) (c := 0) i).mp (Int.le_refl _)).1
        omega
      refine zr_ast (yat l i) rfl rfl rfl (by omega) (by decide) ?_
      repeat refine zr_s rfl rfl rfl ?_
      refine zr_b rfl rfl ?_
      have hold : ∀ p, p < i → zup N 50 (yat l i) y 50 (yat l p) = N 50 (yat l p) := fun p hp => zup_off (fun e => by have := yat_inj hl (by omega) (by omega) e; omega)
      refine ih (i + 1) _ (by omega) (fun a ha => by rw [zup_row ha]; exact hN a ha) (fun p hp => ?_)
      by_cases hpi : p = i
      · subst hpi
        rw [zup_at]
        exact ⟨yLc_congr (fun q hq => (hold q hq).symm) hy, hy0, by omega⟩
      · obtain ⟨g1, g2⟩ := hE p (by omega)
        rw [hold p (by omega)]
        exact ⟨yLc_congr (fun q hq => (hold q (by omega)).symm) g1, g2⟩
  repeat refine zr_t 40 rfl rfl rfl rfl ?_
  exact loop (pn P) 0 M (by omega) (fun _ _ => rfl) (fun p hp => by omega)
theorem sp_M_findShortest (hB : zBm M P) (hw : zWf P) (hD : zDm M P) (h7 : pn P ≤ 7) : zf (zSh L) 3 kX8_findShortest [zvr 34] M (fun v M1 => (∀ a, a ≠ 49 → a ≠ 50 → M1 a = M a) ∧ ∃ r, v = some (.inl r) ∧ yOpt P r) := by
  have h60 := hw.1
  have rows : ∀ (t : List (List Nat)) (l : List Nat) (N : zM) (best : Int) (o3 : Option zV), ych (pn P) (l :: t) = true → (∀ x, x ∈ l :: t → x.Perm (List.range (pn P))) → (∀ a, a ≠ 49 → a ≠ 50 → N a = M a) → (∀ p, p < pn P → N 49 p = yat l p) → -1 ≤ best ∧ best ≤ 2000000 → zr (zSh L) 2 tX8_findShortest 31 [some (zvr 34), some (zvi best), some (zvi 1), o3] [] N (fun v M1 => (∀ a, a ≠ 49 → a ≠ 50 → M1 a = M a) ∧ ∃ r, v = some (.inl r) ∧ yRs P best (l :: t) r) := by
    intro t
    induction t with
    | nil =>
      intro l N best o3 hch hpm hN hR hb
      have hl := hpm l (List.mem_cons_self ..)
      refine sp_s_row hl (zBm_of hB (fun a h1 h2 => hN a (by omega) (by omega))) hw (fun a b ha hb => by rw [hN 41 (by decide) (by decide)]; exact hD a b ha hb) h7 hR hb (fun N1 b1 p3 g1 g2 g3 g4 => ?_)
      have hN1 : ∀ a, a ≠ 49 → a ≠ 50 → N1 a = M a := fun a h1 h2 => by rw [g1 a h2]; exact hN a h1 h2
      have hsc : ysc (yat l) (pn P - 1) = 0 := by
        have hch : ((match ynx (pn P) l with
          | none => true
          | some c => false) && true) = true := by
          have h2 := hch
          unfold ych at h2
          cases hx : ynx (pn P) l with
          | none => rfl
          | some c =>
            rw [hx] at h2
            exact h2
        cases hs : ysc (yat l) (pn P - 1) with
        | zero => rfl
        | succ k =>
          unfold ynx at hch
          rw [hs] at hch
          cases hch
      repeat refine zr_s rfl rfl rfl ?_
      refine zr_c rfl rfl rfl (zf_mono (Nat.le_of_ble_eq_true rfl) (sp_M_nextRow (P := P) (ord := yat l) (zBm_of hB (fun a h1 h2 => hN1 a (by omega) (by omega))) hw (fun p hp => ⟨by rw [g1 49 (by decide)]; exact hR p hp, yat_lt hl hp⟩))) (fun v N2 hv => ?_)
      obtain ⟨g5, hv⟩ := hv
      rcases hv with ⟨rfl, hv⟩ | ⟨rfl, k, hv, -⟩
      · repeat refine zr_s rfl rfl rfl ?_
        refine zr_b rfl rfl ?_
        repeat refine zr_s rfl rfl rfl ?_
        refine zr_zeq rfl (by decide) (fun _ => ?_) (fun h => absurd rfl h)
        repeat refine zr_s rfl rfl rfl ?_
        refine zr_ret rfl ⟨fun a h1 h2 => by rw [g5 a h1]; exact hN1 a h1 h2, b1, rfl, yRs_cons ⟨Or.inl rfl, fun h => ⟨h, Int.le_refl _⟩, fun x hx => by cases hx⟩ g4⟩
      · rw [hsc] at hv
        cases hv
    | cons l2 t ih =>
      intro l N best o3 hch hpm hN hR hb
      have hl := hpm l (List.mem_cons_self ..)
      refine sp_s_row hl (zBm_of hB (fun a h1 h2 => hN a (by omega) (by omega))) hw (fun a b ha hb => by rw [hN 41 (by decide) (by decide)]; exact hD a b ha hb) h7 hR hb (fun N1 b1 p3 g1 g2 g3 g4 => ?_)
      have hN1 : ∀ a, a ≠ 49 → a ≠ 50 → N1 a = M a := fun a h1 h2 => by rw [g1 a h2]; exact hN a h1 h2
      have hch2 : ynx (pn P) l = some l2 ∧ ych (pn P) (l2 :: t) = true := by
        have h2 : ((match ynx (pn P) l with
          | none => false
          | some c => yeq c l2) && ych (pn P) (l2 :: t)) = true := by
          have h2 := hch
          unfold ych at h2
          cases hx : ynx (pn P) l with
          | none =>
            rw [hx] at h2
            exact h2
          | some c =>
            rw [hx] at h2
            exact h2
        rw [Bool.and_eq_true] at h2
        refine ⟨?_, h2.2⟩
        cases hx : ynx (pn P) l with
        | none =>
          rw [hx] at h2
          cases h2.1
        | some c =>
          rw [hx] at h2
          rw [yeq_iff c l2 h2.1]
      repeat refine zr_s rfl rfl rfl ?_
      refine zr_c rfl rfl rfl (zf_mono (Nat.le_of_ble_eq_true rfl) (sp_M_nextRow (P := P) (ord := yat l) (zBm_of hB (fun a h1 h2 => hN1 a (by omega) (by omega))) hw (fun p hp => ⟨by rw [g1 49 (by decide)]; exact hR p hp, yat_lt hl hp⟩))) (fun v N2 hv => ?_)
      obtain ⟨g5, hv⟩ := hv
      rcases hv with ⟨rfl, hv⟩ | ⟨rfl, k, hv, hq⟩
      · have h3 := hch2.1
        unfold ynx at h3
        rw [hv] at h3
        cases h3
      · have h3 := hch2.1
        unfold ynx at h3
        rw [hv] at h3
        have h4 : (List.range (pn P)).map (ynq (pn P) (yat l) k (ysl (yat l) (yat l k) (pn P - 1))) = l2 := Option.some.inj h3
        repeat refine zr_s rfl rfl rfl ?_
        refine zr_b rfl rfl ?_
        repeat refine zr_s rfl rfl rfl ?_
        refine zr_zeq rfl (by decide) (fun h => by cases h) (fun _ => ?_)
        refine zr_post (ih l2 N2 b1 _ hch2.2 (fun x hx => hpm x (List.mem_cons_of_mem _ hx)) (fun a h1 h2 => by rw [g5 a h1]; exact hN1 a h1 h2) (fun p hp => ?_) ⟨g2, g3⟩) (fun r M2 hr => ?_)
        · rw [hq p hp, ← h4, yat_map _ _ hp]
        · obtain ⟨r1, r, r2, r3⟩ := hr
          exact ⟨r1, r, r2, yRs_cons r3 g4⟩
  obtain ⟨t, ht⟩ := yprm_hd (pn P) (List.range (pn P)) List.length_range
  have hch := ych_all h7
  rw [ht] at hch
  have hpm : ∀ x, x ∈ List.range (pn P) :: t ↔ x.Perm (List.range (pn P)) := fun x => by
    rw [← ht]
    exact yprm_iff (pn P) (List.range (pn P)) x List.length_range
  have fill : ∀ (u i : Nat) (o2 o3 : Option zV) (N : zM), i + u = pn P → (∀ a, a ≠ 49 → N a = M a) → (∀ p, p < i → N 49 p = p) → zr (zSh L) 2 tX8_findShortest 2 [some (zvr 34), some (zvi i), o2, o3] [] N (fun v M1 => (∀ a, a ≠ 49 → a ≠ 50 → M1 a = M a) ∧ ∃ r, v = some (.inl r) ∧ yOpt P r) := by
    intro u
    induction u with
    | zero =>
      intro i o2 o3 N hi hN hE
      have hn : N 34 5 = pn P := by rw [hN 34 (by decide)]; exact hB.1
      repeat refine zr_s rfl rfl rfl ?_
      rw [hn]
      refine zr_ige rfl (by omega) (by omega) (fun h => ?_) (fun h => by omega)
      repeat refine zr_s rfl rfl rfl ?_
      refine zr_zeq rfl (by decide) (fun h => by cases h) (fun _ => ?_)
      refine zr_post (rows t (List.range (pn P)) N (-1) _ hch (fun x hx => (hpm x).mp hx) (fun a h1 h2 => hN a h1) (fun p hp => ?_) (by decide)) (fun r M2 hr => ?_)
      · rw [hE p (by omega)]
        have := yat_map (pn P) (fun x => x) hp
        rw [List.map_id'] at this
        rw [this]
      · obtain ⟨r1, r, r2, r3, r4, r5⟩ := hr
        refine ⟨r1, r, r2, yall hw ?_ (fun l hl hk => ?_)⟩
        · rcases r3 with r3 | ⟨l, hl, hk, f, hf, e⟩
          · -- the order as it stands is kept
            have hkid : yKp P (yat (List.range (pn P))) := fun a b hab hb h => by
              have e1 := yat_map (pn P) (fun x => x) (i := a) (by omega)
              have e2 := yat_map (pn P) (fun x => x) hb
              rw [List.map_id'] at e1 e2
              rw [e1, e2] at h
              omega
            obtain ⟨f, -, h0, -⟩ := r5 (List.range (pn P)) (List.mem_cons_self ..) hkid
            omega
          · exact ⟨l, (hpm l).mp hl, hk, f, hf, e⟩
        · obtain ⟨f, h1, -, h2⟩ := r5 l ((hpm l).mpr hl) hk
          exact ⟨f, h1, h2⟩
    | succ u ih =>
      intro i o2 o3 N hi hN hE
      have hn : N 34 5 = pn P := by rw [hN 34 (by decide)]; exact hB.1
      repeat refine zr_s rfl rfl rfl ?_
      rw [hn]
      refine zr_ige rfl (by omega) (by omega) (fun h => by omega) (fun h => ?_)
      repeat refine zr_s rfl rfl rfl ?_
      refine zr_ast (i) rfl rfl rfl (by omega) (by decide) ?_
      repeat refine zr_s rfl rfl rfl ?_
      refine zr_b rfl rfl ?_
      refine ih (i + 1) _ _ _ (by omega) (fun a ha => by rw [zup_row ha]; exact hN a ha) (fun p hp => ?_)
      by_cases hpi : p = i
      · rw [hpi, zup_at]
      · rw [zup_off hpi]
        exact hE p (by omega)
  refine zf_of rfl (Nat.le_of_ble_eq_true rfl) ?_
  repeat refine zr_t 2 rfl rfl rfl rfl ?_
  exact fill (pn P) 0 _ _ M (by omega) (fun _ _ => rfl) (fun p hp => by omega)
end ZX
end
section
/-! THE REFERENCE'S WORK, whole -/
def zMC (M : zM) (P : zP) : Prop := zDm M P ∧ (∀ i, i < pn P → M 42 i = zway P i) ∧ (∀ i, i < pn P → M 43 i = zear P i) ∧ (∀ i, i < pn P → M 44 i = (zls P (zway P) (pn P)).1 i) ∧ (∀ k, k < pn P → M 45 k = zod P (zway P) k) ∧ (∀ i, i < pn P → M 46 i = (zio P (fun k => k) (pn P)).1 i) ∧ (∀ i, i < pn P → M 47 i = (zio P (zod P (zway P)) (pn P)).1 i) ∧ M 34 17 = (if 7 < pn P then -3 else zshort P) ∧ ∃ f, zIsW P f 0
def zMI (M : zM) (P : zP) : Prop := zBm M P ∧ zWf P ∧ (M 34 9 = 0 ∨ M 34 9 = 1) ∧ (M 34 9 = 1 → zMC M P)
def zMS (M : zM) (A : zA) : Prop := zMI M A.1 ∧ (∀ i, i < pn A.1 → M 48 i = A.2.1 i) ∧ (∀ i, i < pn A.1 → M 48 i = -3 ∨ (0 ≤ M 48 i ∧ M 48 i ≤ 1000)) ∧ M 34 20 = A.2.2.1.1 ∧ M 34 21 = A.2.2.1.2 ∧ (∀ k, k < 16 → M 51 k = A.2.2.2.1.1 k) ∧ (∀ k, k < 64 → M 52 k = A.2.2.2.1.2 k) ∧ (∀ k, k < 16 → M 53 k = A.2.2.2.2.1 k) ∧ ∀ k, k < 64 → M 54 k = A.2.2.2.2.2 k
/-- what is not the reference's stays -/
def zFM (M M1 : zM) : Prop := ∀ a, a < 34 → M1 a = M a
theorem zFM_rf {M : zM} : zFM M M := fun _ _ => rfl
theorem zFM_tr {M M1 M2 : zM} (h : zFM M M1) (h2 : zFM M1 M2) : zFM M M2 := fun a ha => by rw [h2 a ha, h a ha]
theorem zBm_34 {M N : zM} {P : zP} (h : zBm M P) (h5 : N 34 5 = M 34 5) (h7 : N 34 7 = M 34 7) (e : ∀ a, 35 ≤ a → a ≤ 40 → N a = M a) : zBm N P := by
  unfold zBm at h ⊢
  rw [h5, h7, e 35 (by omega) (by omega), e 36 (by omega) (by omega), e 37 (by omega) (by omega), e 38 (by omega) (by omega), e 39 (by omega) (by omega), e 40 (by omega) (by omega)]
  exact h
section ZX
variable {L : Nat} {M : zM} {P : zP}
theorem sp_w_row {d : Nat} {Q : Option zV → zM → Prop} {o1 o2 : Option zV} (hB : zBm M P) (hw : zWf P) (k : ∀ (M1 : zM) (p1 : Option zV), (∀ a, a ≠ 49 → M1 a = M a) → (∀ p : Nat, p < pn P → M1 49 p = (p : Int)) → zr (zSh L) d tX8_work 280 [some (zvr 34), p1, o2] [] M1 Q) : zr (zSh L) d tX8_work 257 [some (zvr 34), o1, o2] [] M Q := by
  have h60 := hw.1
  have fill : ∀ (u i : Nat) (N : zM), i + u = pn P → (∀ a, a ≠ 49 → N a = M a) → (∀ p : Nat, p < i → N 49 p = (p : Int)) → zr (zSh L) d tX8_work 259 [some (zvr 34), some (zvi i), o2] [] N Q := by
    intro u
    induction u with
    | zero =>
      intro i N hi hN hE
      have hn : N 34 5 = pn P := by rw [hN 34 (by decide)]; exact hB.1
      repeat refine zr_s rfl rfl rfl ?_
      rw [hn]
      refine zr_ige rfl (by omega) (by omega) (fun h => ?_) (fun h => by omega)
      exact k N _ hN (fun p hp => hE p (by omega))
    | succ u ih =>
      intro i N hi hN hE
      have hn : N 34 5 = pn P := by rw [hN 34 (by decide)]; exact hB.1
      repeat refine zr_s rfl rfl rfl ?_
      rw [hn]
      refine zr_ige rfl (by omega) (by omega) (fun h => by omega) (fun h => ?_)
      repeat refine zr_s rfl rfl rfl ?_
      refine zr_ast (i) rfl rfl rfl (by omega) (by decide) ?_
      repeat refine zr_s rfl rfl rfl ?_
      refine zr_b rfl rfl ?_
      refine ih (i + 1) _ (by omega) (fun a ha => by rw [zup_row ha]; exact hN a ha) (fun p hp => ?_)
      by_cases hpi : p = i
      · rw [hpi, zup_at]
      · rw [zup_off hpi]
        exact hE p (by omega)
  repeat refine zr_t 259 rfl rfl rfl rfl ?_
  exact fill (pn P) 0 M (by omega) (fun _ _ => rfl) (fun p hp => by omega)
theorem sp_w_row2 {d : Nat} {Q : Option zV → zM → Prop} {o1 o2 : Option zV} (hB : zBm M P) (hw : zWf P) (k : ∀ (M1 : zM) (p1 : Option zV), (∀ a, a ≠ 49 → M1 a = M a) → (∀ p, p < pn P → M1 49 p = M 45 p) → zr (zSh L) d tX8_work 316 [some (zvr 34), p1, o2] [] M1 Q) : zr (zSh L) d tX8_work 288 [some (zvr 34), o1, o2] [] M Q := by
  have h60 := hw.1
  have fill : ∀ (u i : Nat) (N : zM), i + u = pn P → (∀ a, a ≠ 49 → N a = M a) → (∀ p, p < i → N 49 p = M 45 p) → zr (zSh L) d tX8_work 290 [some (zvr 34), some (zvi i), o2] [] N Q := by
    intro u
    induction u with
    | zero =>
      intro i N hi hN hE
      have hn : N 34 5 = pn P := by rw [hN 34 (by decide)]; exact hB.1
      repeat refine zr_s rfl rfl rfl ?_
      rw [hn]
      refine zr_ige rfl (by omega) (by omega) (fun h => ?_) (fun h => by omega)
      exact k N _ hN (fun p hp => hE p (by omega))
    | succ u ih =>
      intro i N hi hN hE
      have hn : N 34 5 = pn P := by rw [hN 34 (by decide)]; exact hB.1
      repeat refine zr_s rfl rfl rfl ?_
      rw [hn]
      refine zr_ige rfl (by omega) (by omega) (fun h => by omega) (fun h => ?_)
      repeat refine zr_s rfl rfl rfl ?_
      refine zr_ald (i) rfl rfl rfl (by omega) (by decide) ?_
      refine zr_ast (i) rfl rfl rfl (by omega) (by decide) ?_
      repeat refine zr_s rfl rfl rfl ?_
      refine zr_b rfl rfl ?_
      refine ih (i + 1) _ (by omega) (fun a ha => by rw [zup_row ha]; exact hN a ha) (fun p hp => ?_)
      by_cases hpi : p = i
      · rw [hpi, zup_at, hN 45 (by decide)]
      · rw [zup_off hpi]
        exact hE p (by omega)
  repeat refine zr_t 290 rfl rfl rfl rfl ?_
  exact fill (pn P) 0 M (by omega) (fun _ _ => rfl) (fun p hp => by omega)
theorem sp_M_work (hI : zMI M P) : zf (zSh L) 6 kX8_work [zvr 34] M (fun v M1 => v = none ∧ M1 34 9 = 1 ∧ zMI M1 P ∧ (∀ a, a < 34 ∨ a = 48 ∨ 51 ≤ a → M1 a = M a) ∧ ∀ q, q ≠ 9 → q ≠ 17 → M1 34 q = M 34 q) := by
  have hI0 := hI
  obtain ⟨hB, hw, h9, hC⟩ := hI
  have h60 := hw.1
  refine zf_of rfl (Nat.le_of_ble_eq_true rfl) ?_
  repeat refine zr_s rfl rfl rfl ?_
  rcases h9 with h9 | h9
  rotate_left
  · rw [h9]
    refine zr_zeq rfl (by decide) (fun h => by cases h) (fun _ => ?_)
    exact zr_retv rfl (⟨rfl, h9, hI0, fun _ _ => rfl, fun _ _ _ => rfl⟩)
  rw [h9]
  refine zr_zeq rfl (by decide) (fun _ => ?_) (fun h => absurd rfl h)
  repeat refine zr_t 13 rfl rfl rfl rfl ?_
  have e34 : ∀ q, q ≠ 9 → zup M 34 9 1 34 q = M 34 q := fun q hq => zup_off hq
  have e349 : zup M 34 9 1 34 9 = 1 := zup_at
  have eoff : ∀ a, a ≠ 34 → zup M 34 9 1 a = M a := fun a ha => zup_row ha
  generalize zup M 34 9 1 = M0 at *
  have hB0 : zBm M0 P := zBm_34 hB (e34 5 (by decide)) (e34 7 (by decide)) (fun a h1 h2 => eoff a (by omega))
  refine sp_w_delays (d := 0) hB0 hw (fun M1 _ _ r1 hD1 => ?_)
  have hB1 : zBm M1 P := zBm_of hB0 (fun a h1 h2 => r1 a (by omega))
  refine sp_w_ways (d := 0) hB1 hw hD1 (fun M2 _ _ r2 hW2 => ?_)
  have hB2 : zBm M2 P := zBm_of hB1 (fun a h1 h2 => r2 a (by omega))
  have hD2 : zDm M2 P := fun a b ha hb => by rw [r2 41 (by decide)]; exact hD1 a b ha hb
  refine sp_w_early (d := 0) hB2 hw hD2 (fun M3 _ _ r3 hE3 => ?_)
  have hB3 : zBm M3 P := zBm_of hB2 (fun a h1 h2 => r3 a (by omega))
  have hD3 : zDm M3 P := fun a b ha hb => by rw [r3 41 (by decide)]; exact hD2 a b ha hb
  have hway : ∀ i, i < pn P → M2 42 i = zway P i := fun i hi => zway_eq hW2 hi
  have hWI : ∀ i, i < pn P → zI (zway P i) := fun i hi => by
    have := zIsW_I hw hW2 (pn P - i) i (by omega) (by omega) hi
    rw [← hway i hi]
    exact ⟨by omega, by omega⟩
  repeat refine zr_s rfl rfl rfl ?_
  refine zr_c rfl rfl rfl (zf_mono (Nat.le_of_ble_eq_true rfl) (sp_M_makeList (W := zway P) hB3 hw hD3 (fun i hi => ⟨by rw [r3 42 (by decide)]; exact hway i hi, hWI i hi⟩))) (fun v M4 hv => ?_)
  obtain ⟨rfl, r4, hl4, ho4⟩ := hv
  have hB4 : zBm M4 P := zBm_of hB3 (fun a h1 h2 => r4 a (by omega) (by omega))
  have hD4 : zDm M4 P := fun a b ha hb => by rw [r4 41 (by decide) (by decide)]; exact hD3 a b ha hb
  refine sp_w_row hB4 hw (fun M5 _ r5 hR5 => ?_)
  have hB5 : zBm M5 P := zBm_of hB4 (fun a h1 h2 => r5 a (by omega))
  have hD5 : zDm M5 P := fun a b ha hb => by rw [r5 41 (by decide)]; exact hD4 a b ha hb
  repeat refine zr_s rfl rfl rfl ?_
  refine zr_c rfl rfl rfl (zf_mono (Nat.le_of_ble_eq_true rfl) (sp_M_inOrder (c := 45) (ord := fun k => k) hB5 hw hD5 rfl (by decide) (fun p hp => ⟨hR5 p hp, hp⟩) (fun p q _ _ h => h))) (fun v M6 hv => ?_)
  obtain ⟨rfl, r6, hs6⟩ := hv
  have hB6 : zBm M6 P := zBm_of hB5 (fun a h1 h2 => r6 a (by omega))
  have hD6 : zDm M6 P := fun a b ha hb => by rw [r6 41 (by decide)]; exact hD5 a b ha hb
  refine sp_w_row2 hB6 hw (fun M7 _ r7 hR7 => ?_)
  have hB7 : zBm M7 P := zBm_of hB6 (fun a h1 h2 => r7 a (by omega))
  have hD7 : zDm M7 P := fun a b ha hb => by rw [r7 41 (by decide)]; exact hD6 a b ha hb
  obtain ⟨d1, d2, d3, d4⟩ := zod_P hw (zway P)
  have hod : ∀ p, p < pn P → M7 49 p = zod P (zway P) p := fun p hp => by
    rw [hR7 p hp, r6 45 (by decide), r5 45 (by decide), ho4 p hp]
    exact (d1 p hp).1
  repeat refine zr_s rfl rfl rfl ?_
  refine zr_c rfl rfl rfl (zf_mono (Nat.le_of_ble_eq_true rfl) (sp_M_inOrder (c := 46) (ord := zod P (zway P)) hB7 hw hD7 rfl (by decide) (fun p hp => ⟨hod p hp, (d1 p hp).2⟩) (fun p q hp hq h => zod_inj hw (zway P) hp hq h))) (fun v M8 hv => ?_)
  obtain ⟨rfl, r8, hs8⟩ := hv
  have hB8 : zBm M8 P := zBm_of hB7 (fun a h1 h2 => r8 a (by omega))
  have hD8 : zDm M8 P := fun a b ha hb => by rw [r8 41 (by decide)]; exact hD7 a b ha hb
  have fin : ∀ (M9 : zM) (x : Int) (p1 p2 : Option zV), (∀ a, a ≠ 49 → a ≠ 50 → M9 a = M8 a) → x = (if 7 < pn P then -3 else zshort P) → zr (zSh L) 5 tX8_work 343 [some (zvr 34), p1, p2] [zvi x, zvr 34] M9 (fun v M1 => v = none ∧ M1 34 9 = 1 ∧ zMI M1 P ∧ (∀ a, a < 34 ∨ a = 48 ∨ 51 ≤ a → M1 a = M a) ∧ ∀ q, q ≠ 9 → q ≠ 17 → M1 34 q = M 34 q) := by
    intro M9 x p1 p2 r9 hx
    have all : ∀ a, a < 34 ∨ (34 ≤ a ∧ a ≤ 40) ∨ a = 48 ∨ 51 ≤ a → M9 a = M0 a := fun a ha => by
      rw [r9 a (by omega) (by omega), r8 a (by omega), r7 a (by omega), r6 a (by omega), r5 a (by omega), r4 a (by omega) (by omega), r3 a (by omega), r2 a (by omega), r1 a (by omega)]
    have x41 : M9 41 = M1 41 := by rw [r9 41 (by decide) (by decide), r8 41 (by decide), r7 41 (by decide), r6 41 (by decide), r5 41 (by decide), r4 41 (by decide) (by decide), r3 41 (by decide), r2 41 (by decide)]
    have x42 : M9 42 = M2 42 := by rw [r9 42 (by decide) (by decide), r8 42 (by decide), r7 42 (by decide), r6 42 (by decide), r5 42 (by decide), r4 42 (by decide) (by decide), r3 42 (by decide)]
    have x43 : M9 43 = M3 43 := by rw [r9 43 (by decide) (by decide), r8 43 (by decide), r7 43 (by decide), r6 43 (by decide), r5 43 (by decide), r4 43 (by decide) (by decide)]
    have x44 : M9 44 = M4 44 := by rw [r9 44 (by decide) (by decide), r8 44 (by decide), r7 44 (by decide), r6 44 (by decide), r5 44 (by decide)]
    have x45 : M9 45 = M4 45 := by rw [r9 45 (by decide) (by decide), r8 45 (by decide), r7 45 (by decide), r6 45 (by decide), r5 45 (by decide)]
    have x46 : M9 46 = M6 46 := by rw [r9 46 (by decide) (by decide), r8 46 (by decide), r7 46 (by decide)]
    have x47 : M9 47 = M8 47 := r9 47 (by decide) (by decide)
    repeat refine zr_s rfl rfl rfl ?_
    have row : ∀ a, a ≠ 34 → zup M9 34 17 x a = M9 a := fun a ha => zup_row ha
    have f34 : ∀ q, q ≠ 9 → q ≠ 17 → zup M9 34 17 x 34 q = M 34 q := fun q h1 h2 => by rw [zup_off h2, all 34 (by omega), e34 q h1]
    have f9 : zup M9 34 17 x 34 9 = 1 := by rw [zup_off (by decide), all 34 (by omega)]; exact e349
    refine zr_retv rfl ⟨rfl, f9, ⟨zBm_34 hB (f34 5 (by decide) (by decide)) (f34 7 (by decide) (by decide)) (fun a h1 h2 => by rw [row a (by omega), all a (by omega), eoff a (by omega)]), hw, Or.inr f9, fun _ => ?_⟩, fun a ha => by rw [row a (by omega), all a (by omega), eoff a (by omega)], f34⟩
    unfold zMC
    have hDN : zDm (zup M9 34 17 x) P := fun a b ha hb => by rw [row 41 (by decide), x41]; exact hD1 a b ha hb
    rw [row 42 (by decide), row 43 (by decide), row 44 (by decide), row 45 (by decide), row 46 (by decide), row 47 (by decide), x42, x43, x44, x45, x46, x47]
    refine ⟨hDN, hway, fun i hi => zear_eq hE3 hi, hl4, fun p hp => by rw [ho4 p hp]; exact (d1 p hp).1, hs6, fun i hi => ?_, by rw [zup_at]; exact hx, ⟨_, hW2⟩⟩
    obtain ⟨p, p1, p2⟩ := d2 i hi
    rw [← p2]
    exact hs8 p p1
  repeat refine zr_s rfl rfl rfl ?_
  rw [hB8.1]
  refine zr_ile rfl (by omega) (by decide) (fun h => ?_) (fun h => ?_)
  · repeat refine zr_s rfl rfl rfl ?_
    refine zr_c rfl rfl rfl (zf_mono (Nat.le_of_ble_eq_true rfl) (sp_M_findShortest hB8 hw hD8 (by omega))) (fun v M9 hv => ?_)
    obtain ⟨r9, r, rfl, ho⟩ := hv
    refine fin M9 r _ _ r9 ?_
    rw [if_neg (by omega)]
    exact yOpt_uniq ho (yshort hw (by omega) hW2)
  · repeat refine zr_t 343 rfl rfl rfl rfl ?_
    exact fin M8 _ _ _ (fun _ _ _ => rfl) (by rw [if_pos (by omega)])
end ZX
end
section
/-! THE REFERENCE'S CALLS: add, cut, latency, units, delay, about, listed -/
section ZX
variable {S : List zC} {d : Nat} {cd : List (Option zR)} {pc : Nat} {ls : List (Option zV)} {st : List zV} {M : zM} {Q : Option zV → zM → Prop}
/-- a truth value is put into a field -/
theorem zr_putz {x : Int} {j c rb idx : Nat} {fs : List (Option (Option Nat))} (hc : cd[pc]? = some (some (.putfield idx, c, rb, 1))) (hS : S[j + 1]? = some (.inr (c, fs))) (hf : fs[rb]? = some none) (hx : x = 0 ∨ x = 1) (k : zr S d cd (pc + 3) ls st (zup M (j + 1) rb x) Q) : zr S d cd pc ls (.inl x :: .inr (some (j + 1)) :: st) M Q := by
  refine zWp_step hc rfl ?_ k
  simp only [zstep, hS]
  rw [if_pos ⟨trivial, by decide, fun _ => hx⟩, hf]
end ZX
section ZX
variable {L : Nat} {M : zM} {P : zP} {A : zA}
theorem sp_workS (hA : zMS M A) : zf (zSh L) 6 kX8_work [zvr 34] M (fun v M1 => v = none ∧ M1 34 9 = 1 ∧ zMS M1 A ∧ zFM M M1) := by
  refine zf_post (sp_M_work hA.1) (fun r M1 h => ?_)
  obtain ⟨h1, h2, h3, h4, h5⟩ := h
  obtain ⟨-, g2, g3, g4, g5, g6, g7, g8, g9⟩ := hA
  exact ⟨h1, h2, ⟨h3, by rw [h4 48 (by omega)]; exact g2, by rw [h4 48 (by omega)]; exact g3, by rw [h5 20 (by decide) (by decide)]; exact g4, by rw [h5 21 (by decide) (by decide)]; exact g5, by rw [h4 51 (by omega)]; exact g6, by rw [h4 52 (by omega)]; exact g7, by rw [h4 53 (by omega)]; exact g8, by rw [h4 54 (by omega)]; exact g9⟩, fun a ha => h4 a (by omega)⟩
theorem sp_M_isThere {x : Int} (hB : zBm M P) (hw : zWf P) (hx : zI x) : zf (zSh L) 1 kX8_isThere [zvr 34, zvi x] M (fun v M1 => v = some (.inl (zb (decide (0 ≤ x ∧ x < pn P)))) ∧ M1 = M) := by
  have h60 := hw.1
  refine zf_of rfl (Nat.le_of_ble_eq_true rfl) ?_
  repeat refine zr_s rfl rfl rfl ?_
  refine zr_zlt rfl hx (fun h => ?_) (fun h => ?_)
  · repeat refine zr_s rfl rfl rfl ?_
    exact zr_retz rfl (by omega) (⟨by rw [zb_f (by simp; omega)], rfl⟩)
  · repeat refine zr_s rfl rfl rfl ?_
    rw [hB.1]
    refine zr_ige rfl hx (by omega) (fun h2 => ?_) (fun h2 => ?_)
    · repeat refine zr_s rfl rfl rfl ?_
      exact zr_retz rfl (by omega) (⟨by rw [zb_f (by simp; omega)], rfl⟩)
    · repeat refine zr_s rfl rfl rfl ?_
      exact zr_retz rfl (by omega) (⟨by rw [zb_t (by simp; omega)], rfl⟩)
theorem sp_M_add {k d a b c : Int} (hA : zMS M A) (hk : zI k) (hd : zI d) (ha : zI a) (hb : zI b) (hc : zI c) : zf (zSh L) 2 kX8_add [zvr 34, zvi k, zvi d, zvi a, zvi b, zvi c] M (fun v M1 => v = some (.inl (zs_add A k d a b c).1) ∧ zMS M1 (zs_add A k d a b c).2 ∧ zFM M M1) := by
  have hA0 := hA
  obtain ⟨hI, g2, g3, g4, g5, g6, g7, g8, g9⟩ := hA
  obtain ⟨hB, hw, h9, hC⟩ := hI
  have h60 := hw.1
  have hn := hB.1
  have bad79 : ∀ o6, ¬ zgood' k d a b → zr (zSh L) 1 tX8_add 79 [some (zvr 34), some (zvi k), some (zvi d), some (zvi a), some (zvi b), some (zvi c), o6] [] M (fun v M1 => v = some (.inl (zs_add A k d a b c).1) ∧ zMS M1 (zs_add A k d a b c).2 ∧ zFM M M1) := fun o6 h => by
    repeat refine zr_s rfl rfl rfl ?_
    refine zr_zne rfl (by decide) (fun h => absurd rfl h) (fun _ => ?_)
    repeat refine zr_s rfl rfl rfl ?_
    refine zr_ret rfl ?_
    unfold zs_add
    rw [if_neg h]
    exact ⟨rfl, hA0, zFM_rf⟩
  have bad50 : ∀ o6, ¬ zgood' k d a b → zr (zSh L) 1 tX8_add 50 [some (zvr 34), some (zvi k), some (zvi d), some (zvi a), some (zvi b), some (zvi c), o6] [] M (fun v M1 => v = some (.inl (zs_add A k d a b c).1) ∧ zMS M1 (zs_add A k d a b c).2 ∧ zFM M M1) := fun o6 h => by
    repeat refine zr_s rfl rfl rfl ?_
    exact zr_zeq rfl (by decide) (fun _ => bad79 _ h) (fun h => absurd rfl h)
  -- all is good
  have good : ∀ o6, zgood' k d a b → zr (zSh L) 1 tX8_add 75 [some (zvr 34), some (zvi k), some (zvi d), some (zvi a), some (zvi b), some (zvi c), o6] [] M (fun v M1 => v = some (.inl (zs_add A k d a b c).1) ∧ zMS M1 (zs_add A k d a b c).2 ∧ zFM M M1) := fun o6 hg => by
    have good : zs_add A k d a b c = if pn A.1 = 60 then (-2, A) else ((pn A.1 : Int), (zadd A.1 k d a b c, zfu A.2.1 (pn A.1) (-3), A.2.2)) := by unfold zs_add; rw [if_pos hg]
    rw [good]
    repeat refine zr_s rfl rfl rfl ?_
    refine zr_zne rfl (by decide) (fun _ => ?_) (fun h => by cases h)
    repeat refine zr_s rfl rfl rfl ?_
    rw [hn]
    refine zr_ine rfl (by omega) (by decide) (fun h3 => ?_) (fun h3 => ?_)
    rotate_left
    · rw [if_pos (by omega)]
      repeat refine zr_s rfl rfl rfl ?_
      exact zr_ret rfl (⟨rfl, hA0, zFM_rf⟩)
    rw [if_neg (by omega)]
    repeat refine zr_s rfl rfl rfl ?_
    rw [hn]
    refine zr_ast (pn A.1) rfl rfl rfl (by omega) (by decide) ?_
    repeat refine zr_s rfl rfl rfl ?_
    rw [zup_row (by decide), hn]
    refine zr_ast (pn A.1) rfl rfl rfl (by omega) (by decide) ?_
    repeat refine zr_s rfl rfl rfl ?_
    rw [zup_row (by decide), zup_row (by decide), hn]
    refine zr_ast (pn A.1) rfl rfl rfl (by omega) (by decide) ?_
    repeat refine zr_s rfl rfl rfl ?_
    rw [zup_row (by decide), zup_row (by decide), zup_row (by decide), hn]
    refine zr_ast (pn A.1) rfl rfl rfl (by omega) (by decide) ?_
    repeat refine zr_s rfl rfl rfl ?_
    rw [zup_row (by decide), zup_row (by decide), zup_row (by decide), zup_row (by decide), hn]
    refine zr_ast (pn A.1) rfl rfl rfl (by omega) (by decide) ?_
    repeat refine zr_s rfl rfl rfl ?_
    rw [zup_row (by decide), zup_row (by decide), zup_row (by decide), zup_row (by decide), zup_row (by decide), hn]
    refine zr_ast (pn A.1) rfl rfl rfl (by omega) (by decide) ?_
    repeat refine zr_s rfl rfl rfl ?_
    have e5 : zup (zup (zup (zup (zup (zup M 35 (pn A.1) k) 36 (pn A.1) d) 37 (pn A.1) a) 38 (pn A.1) b) 39 (pn A.1) c) 48 (pn A.1) (-3) 34 5 = pn A.1 := by
      rw [zup_row (by decide), zup_row (by decide), zup_row (by decide), zup_row (by decide), zup_row (by decide), zup_row (by decide)]
      exact hn
    rw [e5]
    generalize hN : zup (zup (zup (zup (zup (zup (zup (zup M 35 (pn A.1) k) 36 (pn A.1) d) 37 (pn A.1) a) 38 (pn A.1) b) 39 (pn A.1) c) 48 (pn A.1) (-3)) 34 5 ((pn A.1 : Int) + 1)) 34 9 0 = N
    have row : ∀ q, q < 34 ∨ (39 < q ∧ q ≠ 48) → N q = M q := by
      intro q hq
      rw [← hN, zup_row (by omega), zup_row (by omega), zup_row (by omega), zup_row (by omega), zup_row (by omega), zup_row (by omega), zup_row (by omega), zup_row (by omega)]
    have r34 : ∀ q, q ≠ 5 → q ≠ 9 → N 34 q = M 34 q := by
      intro q h1 h2
      rw [← hN, zup_off h2, zup_off h1, zup_row (by decide), zup_row (by decide), zup_row (by decide), zup_row (by decide), zup_row (by decide), zup_row (by decide)]
    have r345 : N 34 5 = (pn A.1 : Int) + 1 := by rw [← hN, zup_off (by decide), zup_at]
    have r349 : N 34 9 = 0 := by rw [← hN, zup_at]
    have x35 : ∀ i, N 35 i = if i = pn A.1 then k else M 35 i := by
      intro i
      rw [← hN, zup_row (by decide), zup_row (by decide), zup_row (by decide), zup_row (by decide), zup_row (by decide), zup_row (by decide), zup_row (by decide)]
      by_cases h : i = pn A.1
      · rw [if_pos h, h, zup_at]
      · rw [if_neg h, zup_off h]
    have x36 : ∀ i, N 36 i = if i = pn A.1 then d else M 36 i := by
      intro i
      rw [← hN, zup_row (by decide), zup_row (by decide), zup_row (by decide), zup_row (by decide), zup_row (by decide), zup_row (by decide)]
      by_cases h : i = pn A.1
      · rw [if_pos h, h, zup_at]
      · rw [if_neg h, zup_off h, zup_row (by decide)]
    have x37 : ∀ i, N 37 i = if i = pn A.1 then a else M 37 i := by
      intro i
      rw [← hN, zup_row (by decide), zup_row (by decide), zup_row (by decide), zup_row (by decide), zup_row (by decide)]
      by_cases h : i = pn A.1
      · rw [if_pos h, h, zup_at]
      · rw [if_neg h, zup_off h, zup_row (by decide), zup_row (by decide)]
    have x38 : ∀ i, N 38 i = if i = pn A.1 then b else M 38 i := by
      intro i
      rw [← hN, zup_row (by decide), zup_row (by decide), zup_row (by decide), zup_row (by decide)]
      by_cases h : i = pn A.1
      · rw [if_pos h, h, zup_at]
      · rw [if_neg h, zup_off h, zup_row (by decide), zup_row (by decide), zup_row (by decide)]
    have x39 : ∀ i, N 39 i = if i = pn A.1 then c else M 39 i := by
      intro i
      rw [← hN, zup_row (by decide), zup_row (by decide), zup_row (by decide)]
      by_cases h : i = pn A.1
      · rw [if_pos h, h, zup_at]
      · rw [if_neg h, zup_off h, zup_row (by decide), zup_row (by decide), zup_row (by decide), zup_row (by decide)]
    have x48 : ∀ i, N 48 i = if i = pn A.1 then -3 else M 48 i := by
      intro i
      rw [← hN, zup_row (by decide), zup_row (by decide)]
      by_cases h : i = pn A.1
      · rw [if_pos h, h, zup_at]
      · rw [if_neg h, zup_off h, zup_row (by decide), zup_row (by decide), zup_row (by decide), zup_row (by decide), zup_row (by decide)]
    rw [r345]
    refine zr_ret rfl ⟨by rw [show (pn A.1 : Int) + 1 - 1 = pn A.1 by omega], ?_, fun q hq => row q (by omega)⟩
    have hBN : zBm N (zadd A.1 k d a b c) := by
      obtain ⟨-, b2, b3, b4⟩ := hB
      refine ⟨?_, ?_, fun q hq => ?_, fun i hi => ?_⟩
      · show N 34 5 = ((pn A.1 + 1 : Nat) : Int)
        rw [r345]
        push_cast
        rfl
      · rw [r34 7 (by decide) (by decide)]
        exact b2
      · rw [row 40 (by omega)]
        exact b3 q hq
      · have hi : i < pn A.1 + 1 := hi
        rw [x35, x36, x37, x38, x39]
        show _ = ((zfn (pK A.1) (pn A.1) k.toNat i : Nat) : Int) ∧ (zfn (pK A.1) (pn A.1) k.toNat i ≠ 6 → _ = ((zfn (pT A.1) (pn A.1) (if k = 6 then 0 else d.toNat) i : Nat) : Int)) ∧ (zfn (pK A.1) (pn A.1) k.toNat i ≠ 0 → _ = ((zfn (pA A.1) (pn A.1) (if k = 0 then 0 else a.toNat) i : Nat) : Int)) ∧ (zfn (pK A.1) (pn A.1) k.toNat i ≠ 0 → zfn (pK A.1) (pn A.1) k.toNat i ≠ 5 → _ = ((zfn (pB A.1) (pn A.1) (if k = 0 ∨ k = 5 then 0 else b.toNat) i : Nat) : Int)) ∧ _ = zfu (pC A.1) (pn A.1) c i
        unfold zfn zfu
        obtain ⟨q1, q2, q3, q4⟩ := hg
        unfold zisR at q2 q3 q4
        by_cases h : i = pn A.1
        · rw [if_pos h, if_pos h, if_pos h, if_pos h, if_pos h, if_pos h, if_pos h, if_pos h, if_pos h, if_pos h]
          refine ⟨by omega, fun z => ?_, fun z => ?_, fun z z2 => ?_, rfl⟩
          · rw [if_neg (by omega)]
            omega
          · rw [if_neg (by omega)]
            omega
          · rw [if_neg (by omega)]
            omega
        · rw [if_neg h, if_neg h, if_neg h, if_neg h, if_neg h, if_neg h, if_neg h, if_neg h, if_neg h, if_neg h]
          exact b4 i (by omega)
    refine ⟨⟨hBN, zadd_wf hw (by omega) hg hc, Or.inl r349, fun h => by rw [r349] at h; cases h⟩, fun i hi => ?_, fun i hi => ?_, by rw [r34 20 (by decide) (by decide)]; exact g4, by rw [r34 21 (by decide) (by decide)]; exact g5, by rw [row 51 (by omega)]; exact g6, by rw [row 52 (by omega)]; exact g7, by rw [row 53 (by omega)]; exact g8, by rw [row 54 (by omega)]; exact g9⟩
    · have hi : i < pn A.1 + 1 := hi
      show N 48 i = zfu A.2.1 (pn A.1) (-3) i
      rw [x48]
      unfold zfu
      by_cases h : i = pn A.1
      · rw [if_pos h, if_pos h]
      · rw [if_neg h, if_neg h]
        exact g2 i (by omega)
    · have hi : i < pn A.1 + 1 := hi
      rw [x48]
      by_cases h : i = pn A.1
      · rw [if_pos h]
        exact Or.inl rfl
      · rw [if_neg h]
        exact g3 i (by omega)
  have third : ∀ o6, (0 ≤ k ∧ k < 7) → (k = 6 ∨ zisR d) → (k = 0 ∨ zisR a) → zr (zSh L) 1 tX8_add 46 [some (zvr 34), some (zvi k), some (zvi d), some (zvi a), some (zvi b), some (zvi c), o6] [] M (fun v M1 => v = some (.inl (zs_add A k d a b c).1) ∧ zMS M1 (zs_add A k d a b c).2 ∧ zFM M M1) := fun o6 q1 q2 q3 => by
    repeat refine zr_s rfl rfl rfl ?_
    refine zr_zeq rfl (by decide) (fun h => by cases h) (fun _ => ?_)
    repeat refine zr_s rfl rfl rfl ?_
    refine zr_zeq rfl hk (fun h => good _ ⟨q1, q2, q3, Or.inl h⟩) (fun h => ?_)
    repeat refine zr_s rfl rfl rfl ?_
    refine zr_ieq rfl hk (by decide) (fun h2 => good _ ⟨q1, q2, q3, Or.inr (Or.inl h2)⟩) (fun h2 => ?_)
    repeat refine zr_s rfl rfl rfl ?_
    refine zr_cr rfl rfl rfl (zf_mono (Nat.le_of_ble_eq_true rfl) (sp_isRegisterM hb)) ?_
    by_cases h6 : 0 ≤ b ∧ b < 16
    · rw [zb_t (by simpa using h6)]
      refine zr_zeq rfl (by decide) (fun h => by cases h) (fun _ => ?_)
      exact good _ ⟨q1, q2, q3, Or.inr (Or.inr h6)⟩
    · rw [zb_f (by simpa using h6)]
      refine zr_zeq rfl (by decide) (fun _ => ?_) (fun h => absurd rfl h)
      exact bad79 _ (fun z => by rcases z.2.2.2 with z | z | z; exact h z; exact h2 z; exact h6 z)
  have second : ∀ o6, (0 ≤ k ∧ k < 7) → (k = 6 ∨ zisR d) → zr (zSh L) 1 tX8_add 35 [some (zvr 34), some (zvi k), some (zvi d), some (zvi a), some (zvi b), some (zvi c), o6] [] M (fun v M1 => v = some (.inl (zs_add A k d a b c).1) ∧ zMS M1 (zs_add A k d a b c).2 ∧ zFM M M1) := fun o6 q1 q2 => by
    repeat refine zr_s rfl rfl rfl ?_
    refine zr_zeq rfl hk (fun h => third _ q1 q2 (Or.inl h)) (fun h => ?_)
    repeat refine zr_s rfl rfl rfl ?_
    refine zr_cr rfl rfl rfl (zf_mono (Nat.le_of_ble_eq_true rfl) (sp_isRegisterM ha)) ?_
    by_cases h6 : 0 ≤ a ∧ a < 16
    · rw [zb_t (by simpa using h6)]
      refine zr_zeq rfl (by decide) (fun h => by cases h) (fun _ => ?_)
      exact third _ q1 q2 (Or.inr h6)
    · rw [zb_f (by simpa using h6)]
      refine zr_zeq rfl (by decide) (fun _ => ?_) (fun h => absurd rfl h)
      exact bad50 _ (fun z => by rcases z.2.2.1 with z | z; exact h z; exact h6 z)
  refine zf_of rfl (Nat.le_of_ble_eq_true rfl) ?_
  repeat refine zr_s rfl rfl rfl ?_
  have no : ∀ o6, ¬ (0 ≤ k ∧ k < 7) → zr (zSh L) 1 tX8_add 14 [some (zvr 34), some (zvi k), some (zvi d), some (zvi a), some (zvi b), some (zvi c), o6] [] M (fun v M1 => v = some (.inl (zs_add A k d a b c).1) ∧ zMS M1 (zs_add A k d a b c).2 ∧ zFM M M1) := fun o6 h => by
    repeat refine zr_s rfl rfl rfl ?_
    exact zr_zeq rfl (by decide) (fun _ => bad50 _ (fun z => h z.1)) (fun h => absurd rfl h)
  refine zr_zlt rfl hk (fun h => no _ (by omega)) (fun h => ?_)
  repeat refine zr_s rfl rfl rfl ?_
  refine zr_igt rfl hk (by decide) (fun h2 => no _ (by omega)) (fun h2 => ?_)
  repeat refine zr_s rfl rfl rfl ?_
  refine zr_zeq rfl (by decide) (fun h => by cases h) (fun _ => ?_)
  repeat refine zr_s rfl rfl rfl ?_
  refine zr_ieq rfl hk (by decide) (fun h3 => second _ (by omega) (Or.inl h3)) (fun h3 => ?_)
  repeat refine zr_s rfl rfl rfl ?_
  refine zr_cr rfl rfl rfl (zf_mono (Nat.le_of_ble_eq_true rfl) (sp_isRegisterM hd)) ?_
  by_cases h6 : 0 ≤ d ∧ d < 16
  · rw [zb_t (by simpa using h6)]
    refine zr_zeq rfl (by decide) (fun h => by cases h) (fun _ => ?_)
    exact second _ (by omega) (Or.inr h6)
  · rw [zb_f (by simpa using h6)]
    refine zr_zeq rfl (by decide) (fun _ => ?_) (fun h => absurd rfl h)
    exact bad50 _ (fun z => by rcases z.2.1 with z | z; exact h3 z; exact h6 z)
theorem sp_M_cut {m : Int} (hA : zMS M A) (hm : zI m) : zf (zSh L) 2 kX8_cut [zvr 34, zvi m] M (fun v M1 => v = some (.inl (zs_cut A m).1) ∧ zMS M1 (zs_cut A m).2 ∧ zFM M M1) := by
  have hA0 := hA
  obtain ⟨hI, g2, g3, g4, g5, g6, g7, g8, g9⟩ := hA
  obtain ⟨hB, hw, h9, hC⟩ := hI
  have h60 := hw.1
  have hn := hB.1
  have bad : (m < 0 ∨ (pn A.1 : Int) < m) → zr (zSh L) 1 tX8_cut 12 [some (zvr 34), some (zvi m)] [] M (fun v M1 => v = some (.inl (zs_cut A m).1) ∧ zMS M1 (zs_cut A m).2 ∧ zFM M M1) := fun h => by
    repeat refine zr_s rfl rfl rfl ?_
    refine zr_ret rfl ?_
    unfold zs_cut
    rw [if_pos h]
    exact ⟨rfl, hA0, zFM_rf⟩
  refine zf_of rfl (Nat.le_of_ble_eq_true rfl) ?_
  repeat refine zr_s rfl rfl rfl ?_
  refine zr_zlt rfl hm (fun h => bad (Or.inl h)) (fun h => ?_)
  repeat refine zr_s rfl rfl rfl ?_
  rw [hn]
  refine zr_ile rfl hm (by omega) (fun h2 => ?_) (fun h2 => bad (Or.inr (by omega)))
  unfold zs_cut
  rw [if_neg (by omega)]
  obtain ⟨q, hq⟩ : ∃ q : Nat, (pn A.1 : Int) - m = q := Int.eq_ofNat_of_zero_le (by omega)
  have hqn : q ≤ pn A.1 := by omega
  repeat refine zr_s rfl rfl rfl ?_
  rw [hn, hq, Int.toNat_natCast]
  have fin : ∀ x : Int, (x = 0 ∨ (x = 1 ∧ m = 0 ∧ M 34 9 = 1)) → zr (zSh L) 1 tX8_cut 41 [some (zvr 34), some (zvi m)] [zvi x, zvr 34] (zup M 34 5 q) (fun v M1 => v = some (.inl (q : Int)) ∧ zMS M1 ((q, A.1.2), A.2) ∧ zFM M M1) := by
    intro x hx
    have hx01 : x = 0 ∨ x = 1 := by omega
    refine zr_putz rfl rfl rfl hx01 ?_
    have row : ∀ a, a ≠ 34 → zup (zup M 34 5 q) 34 9 x a = M a := fun a ha => by rw [zup_row ha, zup_row ha]
    have r34 : ∀ b, b ≠ 5 → b ≠ 9 → zup (zup M 34 5 q) 34 9 x 34 b = M 34 b := fun b h1 h2 => by rw [zup_off h2, zup_off h1]
    have r5 : zup (zup M 34 5 q) 34 9 x 34 5 = q := by rw [zup_off (by decide), zup_at]
    have r9 : zup (zup M 34 5 q) 34 9 x 34 9 = x := zup_at
    repeat refine zr_s rfl rfl rfl ?_
    rw [r5]
    refine zr_ret rfl ⟨rfl, ?_, fun a ha => row a (by omega)⟩
    have hwq : zWf (q, A.1.2) := ⟨show q ≤ 60 by omega, hw.2.1, hw.2.2.1, hw.2.2.2.1, fun i hi => hw.2.2.2.2 i (Nat.lt_of_lt_of_le (show i < q from hi) hqn)⟩
    refine ⟨⟨?_, hwq, by rw [r9]; omega, fun hf => ?_⟩, fun i hi => ?_, fun i hi => ?_, by rw [r34 20 (by decide) (by decide)]; exact g4, by rw [r34 21 (by decide) (by decide)]; exact g5, by rw [row 51 (by decide)]; exact g6, by rw [row 52 (by decide)]; exact g7, by rw [row 53 (by decide)]; exact g8, by rw [row 54 (by decide)]; exact g9⟩
    · obtain ⟨-, b2, b3, b4⟩ := hB
      refine ⟨r5, by rw [r34 7 (by decide) (by decide)]; exact b2, by rw [row 40 (by decide)]; exact b3, fun i hi => ?_⟩
      rw [row 35 (by decide), row 36 (by decide), row 37 (by decide), row 38 (by decide), row 39 (by decide)]
      exact b4 i (Nat.lt_of_lt_of_le (show i < q from hi) hqn)
    · rw [r9] at hf
      have hm0 : m = 0 ∧ M 34 9 = 1 := by omega
      have hqe : q = pn A.1 := by omega
      have hPe : (q, A.1.2) = A.1 := by rw [hqe]; rfl
      rw [hPe]
      have hc := hC hm0.2
      unfold zMC at hc ⊢
      unfold zDm at hc ⊢
      rw [row 41 (by decide), row 42 (by decide), row 43 (by decide), row 44 (by decide), row 45 (by decide), row 46 (by decide), row 47 (by decide), r34 17 (by decide) (by decide)]
      exact hc
    · rw [row 48 (by decide)]
      exact g2 i (Nat.lt_of_lt_of_le (show i < q from hi) hqn)
    · rw [row 48 (by decide)]
      exact g3 i (Nat.lt_of_lt_of_le (show i < q from hi) hqn)
  rw [zup_off (by decide)]
  rcases h9 with h9 | h9
  · rw [h9]
    refine zr_zeq rfl (by decide) (fun _ => ?_) (fun h => absurd rfl h)
    repeat refine zr_t 41 rfl rfl rfl rfl ?_
    exact fin 0 (Or.inl rfl)
  · rw [h9]
    refine zr_zeq rfl (by decide) (fun h => by cases h) (fun _ => ?_)
    repeat refine zr_s rfl rfl rfl ?_
    refine zr_zne rfl hm (fun h3 => ?_) (fun h3 => ?_)
    · repeat refine zr_t 41 rfl rfl rfl rfl ?_
      exact fin 0 (Or.inl rfl)
    · repeat refine zr_t 41 rfl rfl rfl rfl ?_
      exact fin 1 (Or.inr ⟨rfl, h3, h9⟩)
end ZX
end
section
/-! THE REFERENCE'S CALLS: latency, units, delay, about, listed -/
def ymx (f : Nat → Int) : Nat → Int
  | 0 => 0
  | m + 1 => max (ymx f m) (f m)
theorem ymx_le {f : Nat → Int} {x : Int} : ∀ m, ymx f m ≤ x ↔ 0 ≤ x ∧ ∀ j, j < m → f j ≤ x
  | 0 => by
    show (0 : Int) ≤ x ↔ _
    exact ⟨fun h => ⟨h, fun j hj => by omega⟩, fun h => h.1⟩
  | m + 1 => by
    have ih := ymx_le (f := f) (x := x) m
    show max (ymx f m) (f m) ≤ x ↔ _
    constructor
    · intro h
      have h2 := ih.mp (by omega)
      refine ⟨h2.1, fun j hj => ?_⟩
      by_cases hjm : j = m
      · subst hjm
        omega
      · exact h2.2 j (by omega)
    · intro h
      have h2 := ih.mpr ⟨h.1, fun j hj => h.2 j (by omega)⟩
      have h3 := h.2 m (by omega)
      omega
theorem zmxr_le {f : Nat → Int} {x : Int} : ∀ (m a : Nat), zmxr f a m ≤ x ↔ 0 ≤ x ∧ ∀ j, a ≤ j → j < a + m → f j ≤ x
  | 0, a => by
    show (0 : Int) ≤ x ↔ _
    exact ⟨fun h => ⟨h, fun j h1 h2 => by omega⟩, fun h => h.1⟩
  | m + 1, a => by
    have ih := zmxr_le (f := f) (x := x) m (a + 1)
    show max (zmxr f (a + 1) m) (f a) ≤ x ↔ _
    constructor
    · intro h
      have h2 := ih.mp (by omega)
      refine ⟨h2.1, fun j h3 h4 => ?_⟩
      by_cases hja : j = a
      · subst hja
        omega
      · exact h2.2 j (by omega) (by omega)
    · intro h
      have h2 := ih.mpr ⟨h.1, fun j h3 h4 => h.2 j (by omega) (by omega)⟩
      have h3 := h.2 a (by omega) (by omega)
      omega
theorem ymx_eq (f : Nat → Int) (m : Nat) : ymx f m = zmxr f 0 m := by
  have a1 := (ymx_le (f := f) (x := zmxr f 0 m) m).mpr ⟨((zmxr_le m 0).mp (Int.le_refl _)).1, fun j hj => ((zmxr_le m 0).mp (Int.le_refl _)).2 j (by omega) (by omega)⟩
  have a2 := (zmxr_le (f := f) (x := ymx f m) m 0).mpr ⟨((ymx_le m).mp (Int.le_refl _)).1, fun j _ hj => ((ymx_le m).mp (Int.le_refl _)).2 j (by omega)⟩
  omega
section ZX
variable {L : Nat} {M : zM} {P : zP} {A : zA}
theorem sp_M_latency {k c : Int} (hA : zMS M A) (hk : zI k) (hc : zI c) : zf (zSh L) 2 kX8_latency [zvr 34, zvi k, zvi c] M (fun v M1 => v = some (.inl (zs_latency A k c).1) ∧ zMS M1 (zs_latency A k c).2 ∧ zFM M M1) := by
  have hA0 := hA
  obtain ⟨hI, g2, g3, g4, g5, g6, g7, g8, g9⟩ := hA
  obtain ⟨hB, hw, h9, hC⟩ := hI
  have bad : (k < 0 ∨ 6 < k ∨ c < 1 ∨ 12 < c) → zr (zSh L) 1 tX8_latency 21 [some (zvr 34), some (zvi k), some (zvi c), none] [] M (fun v M1 => v = some (.inl (zs_latency A k c).1) ∧ zMS M1 (zs_latency A k c).2 ∧ zFM M M1) := fun h => by
    repeat refine zr_s rfl rfl rfl ?_
    refine zr_ret rfl ?_
    unfold zs_latency
    rw [if_pos h]
    exact ⟨rfl, hA0, zFM_rf⟩
  refine zf_of rfl (Nat.le_of_ble_eq_true rfl) ?_
  repeat refine zr_s rfl rfl rfl ?_
  refine zr_zlt rfl hk (fun h => bad (by omega)) (fun h => ?_)
  repeat refine zr_s rfl rfl rfl ?_
  refine zr_igt rfl hk (by decide) (fun h => bad (by omega)) (fun h1 => ?_)
  repeat refine zr_s rfl rfl rfl ?_
  refine zr_ilt rfl hc (by decide) (fun h => bad (by omega)) (fun h2 => ?_)
  repeat refine zr_s rfl rfl rfl ?_
  refine zr_ile rfl hc (by decide) (fun h3 => ?_) (fun h => bad (by omega))
  unfold zs_latency
  rw [if_neg (by omega)]
  obtain ⟨q, hq⟩ : ∃ q : Nat, k = q := Int.eq_ofNat_of_zero_le (by omega)
  subst hq
  rw [Int.toNat_natCast]
  repeat refine zr_s rfl rfl rfl ?_
  refine zr_ald (q) rfl rfl rfl (by omega) (by decide) ?_
  repeat refine zr_s rfl rfl rfl ?_
  refine zr_ast (q) rfl rfl rfl (by omega) (by decide) ?_
  repeat refine zr_s rfl rfl rfl ?_
  generalize hN : zup (zup M 40 q c) 34 9 0 = N
  have row : ∀ a, a ≠ 34 → a ≠ 40 → N a = M a := fun a h1 h2 => by rw [← hN, zup_row h1, zup_row h2]
  have r34 : ∀ b, b ≠ 9 → N 34 b = M 34 b := fun b hb => by rw [← hN, zup_off hb, zup_row (by decide)]
  have r9 : N 34 9 = 0 := by rw [← hN, zup_at]
  have e8 : ∀ x, N 40 x = if x = q then c else M 40 x := fun x => by
    rw [← hN, zup_row (by decide)]
    by_cases h : x = q
    · rw [if_pos h, h, zup_at]
    · rw [if_neg h, zup_off h]
  refine zr_ret rfl ⟨by rw [hB.2.2.1 q (by omega)], ?_, fun a ha => row a (by omega) (by omega)⟩
  have hwq : zWf (pn A.1, pu A.1, pK A.1, pT A.1, pA A.1, pB A.1, pC A.1, zfn (pq A.1) q c.toNat) := by
    refine ⟨hw.1, hw.2.1, hw.2.2.1, fun x hx => ?_, hw.2.2.2.2⟩
    show 1 ≤ zfn (pq A.1) q c.toNat x ∧ zfn (pq A.1) q c.toNat x ≤ 12
    unfold zfn
    split
    · omega
    · exact hw.2.2.2.1 x hx
  refine ⟨⟨?_, hwq, Or.inl r9, fun h => by rw [r9] at h; cases h⟩, by rw [row 48 (by decide) (by decide)]; exact g2, by rw [row 48 (by decide) (by decide)]; exact g3, by rw [r34 20 (by decide)]; exact g4, by rw [r34 21 (by decide)]; exact g5, by rw [row 51 (by decide) (by decide)]; exact g6, by rw [row 52 (by decide) (by decide)]; exact g7, by rw [row 53 (by decide) (by decide)]; exact g8, by rw [row 54 (by decide) (by decide)]; exact g9⟩
  obtain ⟨b1, b2, b3, b4⟩ := hB
  refine ⟨by rw [r34 5 (by decide)]; exact b1, by rw [r34 7 (by decide)]; exact b2, fun x hx => ?_, fun i hi => by rw [row 35 (by decide) (by decide), row 36 (by decide) (by decide), row 37 (by decide) (by decide), row 38 (by decide) (by decide), row 39 (by decide) (by decide)]; exact b4 i hi⟩
  rw [e8]
  show _ = ((zfn (pq A.1) q c.toNat x : Nat) : Int)
  unfold zfn
  by_cases h : x = q
  · rw [if_pos h, if_pos h]
    omega
  · rw [if_neg h, if_neg h]
    exact b3 x hx
theorem sp_M_units {m : Int} (hA : zMS M A) (hm : zI m) : zf (zSh L) 2 kX8_units [zvr 34, zvi m] M (fun v M1 => v = some (.inl (zs_units A m).1) ∧ zMS M1 (zs_units A m).2 ∧ zFM M M1) := by
  have hA0 := hA
  obtain ⟨hI, g2, g3, g4, g5, g6, g7, g8, g9⟩ := hA
  obtain ⟨hB, hw, h9, hC⟩ := hI
  have bad : (m < 1 ∨ 8 < m) → zr (zSh L) 1 tX8_units 11 [some (zvr 34), some (zvi m), none] [] M (fun v M1 => v = some (.inl (zs_units A m).1) ∧ zMS M1 (zs_units A m).2 ∧ zFM M M1) := fun h => by
    repeat refine zr_s rfl rfl rfl ?_
    refine zr_ret rfl ?_
    unfold zs_units
    rw [if_pos h]
    exact ⟨rfl, hA0, zFM_rf⟩
  refine zf_of rfl (Nat.le_of_ble_eq_true rfl) ?_
  repeat refine zr_s rfl rfl rfl ?_
  refine zr_ilt rfl hm (by decide) (fun h => bad (by omega)) (fun h2 => ?_)
  repeat refine zr_s rfl rfl rfl ?_
  refine zr_ile rfl hm (by decide) (fun h3 => ?_) (fun h => bad (by omega))
  unfold zs_units
  rw [if_neg (by omega)]
  obtain ⟨q, hq⟩ : ∃ q : Nat, m = q := Int.eq_ofNat_of_zero_le (by omega)
  subst hq
  repeat refine zr_s rfl rfl rfl ?_
  generalize hN : zup (zup M 34 7 (q : Int)) 34 9 0 = N
  have row : ∀ a, a ≠ 34 → N a = M a := fun a h1 => by rw [← hN, zup_row h1, zup_row h1]
  have r34 : ∀ b, b ≠ 7 → b ≠ 9 → N 34 b = M 34 b := fun b hb hb2 => by rw [← hN, zup_off hb2, zup_off hb]
  have r7 : N 34 7 = q := by rw [← hN, zup_off (by decide), zup_at]
  have r9 : N 34 9 = 0 := by rw [← hN, zup_at]
  refine zr_ret rfl ⟨by rw [hB.2.1], ?_, fun a ha => row a (by omega)⟩
  rw [Int.toNat_natCast]
  have hwq : zWf (pn A.1, q, A.1.2.2) := ⟨hw.1, show 1 ≤ q by omega, show q ≤ 8 by omega, hw.2.2.2.1, hw.2.2.2.2⟩
  refine ⟨⟨?_, hwq, Or.inl r9, fun h => by rw [r9] at h; cases h⟩, by rw [row 48 (by decide)]; exact g2, by rw [row 48 (by decide)]; exact g3, by rw [r34 20 (by decide) (by decide)]; exact g4, by rw [r34 21 (by decide) (by decide)]; exact g5, by rw [row 51 (by decide)]; exact g6, by rw [row 52 (by decide)]; exact g7, by rw [row 53 (by decide)]; exact g8, by rw [row 54 (by decide)]; exact g9⟩
  obtain ⟨b1, b2, b3, b4⟩ := hB
  exact ⟨by rw [r34 5 (by decide) (by decide)]; exact b1, r7, by rw [row 40 (by decide)]; exact b3, fun i hi => by rw [row 35 (by decide), row 36 (by decide), row 37 (by decide), row 38 (by decide), row 39 (by decide)]; exact b4 i hi⟩
theorem sp_M_delay {i j : Int} (hA : zMS M A) (hi : zI i) (hj : zI j) : zf (zSh L) 7 kX8_delay [zvr 34, zvi i, zvi j] M (fun v M1 => v = some (.inl (zs_delay A i j)) ∧ zMS M1 A ∧ zFM M M1) := by
  have hB := hA.1.1
  have hw := hA.1.2.1
  have h60 := hw.1
  have bad : ¬ (zin' A.1 i ∧ zin' A.1 j) → zr (zSh L) 6 tX8_delay 16 [some (zvr 34), some (zvi i), some (zvi j)] [] M (fun v M1 => v = some (.inl (zs_delay A i j)) ∧ zMS M1 A ∧ zFM M M1) := fun h => by
    repeat refine zr_s rfl rfl rfl ?_
    refine zr_ret rfl ?_
    unfold zs_delay
    rw [if_neg h]
    exact ⟨rfl, hA, zFM_rf⟩
  refine zf_of rfl (Nat.le_of_ble_eq_true rfl) ?_
  repeat refine zr_s rfl rfl rfl ?_
  refine zr_cr rfl rfl rfl (zf_mono (Nat.le_of_ble_eq_true rfl) (sp_M_isThere hB hw hi)) ?_
  by_cases h1 : 0 ≤ i ∧ i < pn A.1
  rotate_left
  · rw [zb_f (by simpa using h1)]
    exact zr_zeq rfl (by decide) (fun _ => bad (fun z => h1 z.1)) (fun h => absurd rfl h)
  rw [zb_t (by simpa using h1)]
  refine zr_zeq rfl (by decide) (fun h => by cases h) (fun _ => ?_)
  repeat refine zr_s rfl rfl rfl ?_
  refine zr_cr rfl rfl rfl (zf_mono (Nat.le_of_ble_eq_true rfl) (sp_M_isThere hB hw hj)) ?_
  by_cases h2 : 0 ≤ j ∧ j < pn A.1
  rotate_left
  · rw [zb_f (by simpa using h2)]
    exact zr_zne rfl (by decide) (fun h => absurd rfl h) (fun _ => bad (fun z => h2 z.2))
  rw [zb_t (by simpa using h2)]
  refine zr_zne rfl (by decide) (fun _ => ?_) (fun h => by cases h)
  unfold zs_delay
  rw [if_pos (show zin' A.1 i ∧ zin' A.1 j from ⟨h1, h2⟩)]
  obtain ⟨a, rfl⟩ := Int.eq_ofNat_of_zero_le h1.1
  obtain ⟨b, rfl⟩ := Int.eq_ofNat_of_zero_le h2.1
  rw [Int.toNat_natCast, Int.toNat_natCast]
  repeat refine zr_s rfl rfl rfl ?_
  refine zr_c rfl rfl rfl (zf_mono (Nat.le_of_ble_eq_true rfl) (sp_workS hA)) (fun v M1 hv => ?_)
  obtain ⟨rfl, h9, hA1, hF⟩ := hv
  have hD := (hA1.1.2.2.2 h9).1
  have hzI := zdm_I hw (i := a) (j := b) (by omega) (by omega)
  repeat refine zr_s rfl rfl rfl ?_
  refine zr_cr rfl rfl rfl (zf_mono (Nat.le_of_ble_eq_true rfl) (sp_M_delayAt hw hD (by omega) (by omega))) ?_
  refine zr_zge rfl (by omega) (fun h3 => ?_) (fun h3 => ?_)
  · repeat refine zr_s rfl rfl rfl ?_
    refine zr_cr rfl rfl rfl (zf_mono (Nat.le_of_ble_eq_true rfl) (sp_M_delayAt hw hD (by omega) (by omega))) ?_
    have h4 := (zdm_ge hw (by omega)).mp h3
    rw [if_pos h4.1, ← zdm_dc hw (by omega) h3]
    exact zr_ret rfl (⟨rfl, hA1, hF⟩)
  · repeat refine zr_s rfl rfl rfl ?_
    refine zr_ret rfl ⟨?_, hA1, hF⟩
    by_cases hab : a < b
    · rw [if_pos hab]
      have : zdc A.1 a b = -3 := Decidable.byContradiction (fun z => by have := (zdm_ge hw (i := a) (j := b) (by omega)).mpr ⟨hab, z⟩; omega)
      rw [this]
    · rw [if_neg hab]
theorem sp_M_greatestWay {W : Nat → Int} (hB : zBm M P) (hw : zWf P) (hW : ∀ i, i < pn P → M 42 i = W i) (hI : ∀ i, i < pn P → 0 ≤ W i ∧ W i ≤ 1000) : zf (zSh L) 1 kX8_greatestWay [zvr 34] M (fun v M1 => v = some (.inl (zmxr W 0 (pn P))) ∧ M1 = M) := by
  have h60 := hw.1
  have hmI : ∀ m, m ≤ pn P → 0 ≤ ymx W m ∧ ymx W m ≤ 1000 := fun m hm => ⟨((ymx_le m).mp (Int.le_refl _)).1, (ymx_le m).mpr ⟨by decide, fun j hj => (hI j (by omega)).2⟩⟩
  have loop : ∀ (t i : Nat), i + t = pn P → zr (zSh L) 0 tX8_greatestWay 4 [some (zvr 34), some (zvi (ymx W i)), some (zvi i)] [] M (fun v M1 => v = some (.inl (zmxr W 0 (pn P))) ∧ M1 = M) := by
    intro t
    induction t with
    | zero =>
      intro i hi
      repeat refine zr_s rfl rfl rfl ?_
      rw [hB.1]
      refine zr_ige rfl (by omega) (by omega) (fun h => ?_) (fun h => by omega)
      repeat refine zr_s rfl rfl rfl ?_
      refine zr_ret rfl ⟨by rw [show i = pn P by omega, ymx_eq], rfl⟩
    | succ t ih =>
      intro i hi
      have h1 := hmI i (by omega)
      have h2 := hI i (by omega)
      have nxt : ∀ x : Int, x = ymx W (i + 1) → zr (zSh L) 0 tX8_greatestWay 32 [some (zvr 34), some (zvi (ymx W i)), some (zvi i)] [zvi x] M (fun v M1 => v = some (.inl (zmxr W 0 (pn P))) ∧ M1 = M) := fun x hx => by
        repeat refine zr_s rfl rfl rfl ?_
        refine zr_b rfl rfl ?_
        rw [hx]
        exact ih (i + 1) (by omega)
      have xS : ymx W (i + 1) = max (ymx W i) (W i) := rfl
      repeat refine zr_s rfl rfl rfl ?_
      rw [hB.1]
      refine zr_ige rfl (by omega) (by omega) (fun h => by omega) (fun h => ?_)
      repeat refine zr_s rfl rfl rfl ?_
      refine zr_ald (i) rfl rfl rfl (by omega) (by decide) ?_
      repeat refine zr_s rfl rfl rfl ?_
      rw [hW i (by omega)]
      refine zr_ile rfl (by omega) (by omega) (fun h3 => ?_) (fun h3 => ?_)
      · repeat refine zr_t 32 rfl rfl rfl rfl ?_
        exact nxt _ (by rw [xS]; omega)
      · repeat refine zr_s rfl rfl rfl ?_
        refine zr_ald (i) rfl rfl rfl (by omega) (by decide) ?_
        repeat refine zr_t 32 rfl rfl rfl rfl ?_
        exact nxt _ (by rw [xS, hW i (by omega)]; omega)
  refine zf_of rfl (Nat.le_of_ble_eq_true rfl) ?_
  repeat refine zr_t 4 rfl rfl rfl rfl ?_
  exact loop (pn P) 0 (by omega)
theorem zway_I {P : zP} (hw : zWf P) (h : ∃ f, zIsW P f 0) {i : Nat} (hi : i < pn P) : 0 ≤ zway P i ∧ zway P i ≤ 1000 := by
  obtain ⟨f, hf⟩ := h
  have h60 := hw.1
  have := zIsW_I hw hf (pn P - i) i (by omega) (by omega) hi
  rw [← zway_eq hf hi]
  omega
theorem sp_M_listed {i : Int} (hA : zMS M A) (hi : zI i) : zf (zSh L) 7 kX8_listed [zvr 34, zvi i] M (fun v M1 => v = some (.inl (zs_listed A i)) ∧ zMS M1 A ∧ zFM M M1) := by
  have hB := hA.1.1
  have hw := hA.1.2.1
  have h60 := hw.1
  refine zf_of rfl (Nat.le_of_ble_eq_true rfl) ?_
  repeat refine zr_s rfl rfl rfl ?_
  refine zr_cr rfl rfl rfl (zf_mono (Nat.le_of_ble_eq_true rfl) (sp_M_isThere hB hw hi)) ?_
  by_cases h1 : 0 ≤ i ∧ i < pn A.1
  rotate_left
  · rw [zb_f (by simpa using h1)]
    refine zr_zne rfl (by decide) (fun h => absurd rfl h) (fun _ => ?_)
    repeat refine zr_s rfl rfl rfl ?_
    refine zr_ret rfl ?_
    unfold zs_listed
    rw [if_neg (show ¬ zin' A.1 i from h1)]
    exact ⟨rfl, hA, zFM_rf⟩
  rw [zb_t (by simpa using h1)]
  refine zr_zne rfl (by decide) (fun _ => ?_) (fun h => by cases h)
  unfold zs_listed
  rw [if_pos (show zin' A.1 i from h1)]
  obtain ⟨a, rfl⟩ := Int.eq_ofNat_of_zero_le h1.1
  rw [Int.toNat_natCast]
  repeat refine zr_s rfl rfl rfl ?_
  refine zr_c rfl rfl rfl (zf_mono (Nat.le_of_ble_eq_true rfl) (sp_workS hA)) (fun v M1 hv => ?_)
  obtain ⟨rfl, h9, hA1, hF⟩ := hv
  repeat refine zr_s rfl rfl rfl ?_
  refine zr_ald (a) rfl rfl rfl (by omega) (by decide) ?_
  obtain ⟨k1, k2, k3, k4, k5, k6, k7, k8, k9⟩ := hA1.1.2.2.2 h9
  rw [k5 a (by omega)]
  exact zr_ret rfl (⟨rfl, hA1, hF⟩)
theorem sp_M_about {i w : Int} (hA : zMS M A) (hi : zI i) (hwI : zI w) : zf (zSh L) 7 kX8_about [zvr 34, zvi i, zvi w] M (fun v M1 => v = some (.inl (zs_about A i w)) ∧ zMS M1 A ∧ zFM M M1) := by
  have hB := hA.1.1
  have hw := hA.1.2.1
  have h60 := hw.1
  have bad : (¬ zin' A.1 i ∨ w < 0 ∨ 6 < w) → zr (zSh L) 6 tX8_about 18 [some (zvr 34), some (zvi i), some (zvi w)] [] M (fun v M1 => v = some (.inl (zs_about A i w)) ∧ zMS M1 A ∧ zFM M M1) := fun h => by
    repeat refine zr_s rfl rfl rfl ?_
    refine zr_ret rfl ⟨?_, hA, zFM_rf⟩
    unfold zs_about
    by_cases hz : zin' A.1 i
    · have h' : w < 0 ∨ 6 < w := h.resolve_left (fun z => z hz)
      rw [if_pos hz, if_neg (by omega), if_neg (by omega), if_neg (by omega), if_neg (by omega), if_neg (by omega), if_neg (by omega), if_neg (by omega)]
    · rw [if_neg hz]
  refine zf_of rfl (Nat.le_of_ble_eq_true rfl) ?_
  repeat refine zr_s rfl rfl rfl ?_
  refine zr_cr rfl rfl rfl (zf_mono (Nat.le_of_ble_eq_true rfl) (sp_M_isThere hB hw hi)) ?_
  by_cases h1 : 0 ≤ i ∧ i < pn A.1
  rotate_left
  · rw [zb_f (by simpa using h1)]
    exact zr_zeq rfl (by decide) (fun _ => bad (Or.inl h1)) (fun h => absurd rfl h)
  rw [zb_t (by simpa using h1)]
  refine zr_zeq rfl (by decide) (fun h => by cases h) (fun _ => ?_)
  repeat refine zr_s rfl rfl rfl ?_
  refine zr_zlt rfl hwI (fun h => bad (Or.inr (Or.inl h))) (fun h2 => ?_)
  repeat refine zr_s rfl rfl rfl ?_
  refine zr_ile rfl hwI (by decide) (fun h3 => ?_) (fun h => bad (Or.inr (Or.inr (by omega))))
  unfold zs_about
  rw [if_pos (show zin' A.1 i from h1)]
  obtain ⟨a, rfl⟩ := Int.eq_ofNat_of_zero_le h1.1
  rw [Int.toNat_natCast]
  have ha : a < pn A.1 := by omega
  repeat refine zr_s rfl rfl rfl ?_
  refine zr_c rfl rfl rfl (zf_mono (Nat.le_of_ble_eq_true rfl) (sp_workS hA)) (fun v M1 hv => ?_)
  obtain ⟨rfl, h9, hA1, hF⟩ := hv
  obtain ⟨k1, k2, k3, k4, k5, k6, k7, k8, k9⟩ := hA1.1.2.2.2 h9
  repeat refine zr_s rfl rfl rfl ?_
  have hc : w = 0 ∨ w = 1 ∨ w = 2 ∨ w = 3 ∨ w = 4 ∨ w = 5 ∨ w = 6 := by omega
  rcases hc with rfl | rfl | rfl | rfl | rfl | rfl | rfl
  · refine zr_tabIn 39 rfl hwI (by decide) (by decide) rfl ?_
    repeat refine zr_s rfl rfl rfl ?_
    refine zr_ald (a) rfl rfl rfl (by omega) (by decide) ?_
    rw [k2 a ha]
    exact zr_ret rfl (⟨rfl, hA1, hF⟩)
  · refine zr_tabIn 46 rfl hwI (by decide) (by decide) rfl ?_
    repeat refine zr_s rfl rfl rfl ?_
    refine zr_ald (a) rfl rfl rfl (by omega) (by decide) ?_
    rw [k3 a ha]
    exact zr_ret rfl (⟨rfl, hA1, hF⟩)
  · refine zr_tabIn 53 rfl hwI (by decide) (by decide) rfl ?_
    repeat refine zr_s rfl rfl rfl ?_
    refine zr_cr rfl rfl rfl (zf_mono (Nat.le_of_ble_eq_true rfl) (sp_M_greatestWay hA1.1.1 hw k2 (fun i hi => zway_I hw k9 hi))) ?_
    repeat refine zr_s rfl rfl rfl ?_
    refine zr_ald (a) rfl rfl rfl (by omega) (by decide) ?_
    repeat refine zr_s rfl rfl rfl ?_
    refine zr_ald (a) rfl rfl rfl (by omega) (by decide) ?_
    repeat refine zr_s rfl rfl rfl ?_
    rw [k2 a ha, k3 a ha]
    exact zr_ret rfl (⟨rfl, hA1, hF⟩)
  · refine zr_tabIn 72 rfl hwI (by decide) (by decide) rfl ?_
    repeat refine zr_s rfl rfl rfl ?_
    refine zr_ald (a) rfl rfl rfl (by omega) (by decide) ?_
    rw [k4 a ha]
    exact zr_ret rfl (⟨rfl, hA1, hF⟩)
  · refine zr_tabIn 79 rfl hwI (by decide) (by decide) rfl ?_
    repeat refine zr_s rfl rfl rfl ?_
    refine zr_ald (a) rfl rfl rfl (by omega) (by decide) ?_
    rw [k6 a ha]
    exact zr_ret rfl (⟨rfl, hA1, hF⟩)
  · refine zr_tabIn 86 rfl hwI (by decide) (by decide) rfl ?_
    repeat refine zr_s rfl rfl rfl ?_
    refine zr_ald (a) rfl rfl rfl (by omega) (by decide) ?_
    rw [k7 a ha]
    exact zr_ret rfl (⟨rfl, hA1, hF⟩)
  · refine zr_tabOut rfl hwI (by decide) ?_
    repeat refine zr_s rfl rfl rfl ?_
    refine zr_ald (a) rfl rfl rfl (by omega) (by decide) ?_
    rw [hA1.2.1 a ha]
    exact zr_ret rfl (⟨rfl, hA1, hF⟩)
end ZX
end
section
/-! THE REFERENCE'S CALLS: length, place, check, wrong, given, value -/
def ysm (f : Nat → Nat) : Nat → Nat
  | 0 => 0
  | m + 1 => ysm f m + f m
theorem ysm_congr {f g : Nat → Nat} : ∀ m, (∀ i, i < m → f i = g i) → ysm f m = ysm g m
  | 0, _ => rfl
  | m + 1, h => by
    show ysm f m + f m = ysm g m + g m
    rw [ysm_congr m (fun i hi => h i (by omega)), h m (by omega)]
theorem ysm_add (f g : Nat → Nat) : ∀ m, ysm (fun i => f i + g i) m = ysm f m + ysm g m
  | 0 => rfl
  | m + 1 => by
    show ysm (fun i => f i + g i) m + (f m + g m) = ysm f m + f m + (ysm g m + g m)
    rw [ysm_add f g m]
    omega
theorem ysm_cn (c : Nat → Bool) : ∀ m, ysm (fun i => if c i = true then 1 else 0) m = ycn c m
  | 0 => rfl
  | m + 1 => by
    show ysm (fun i => if c i = true then 1 else 0) m + _ = ycn c m + _
    rw [ysm_cn c m]
theorem ysm_0 : ∀ m, ysm (fun _ => 0) m = 0
  | 0 => rfl
  | m + 1 => ysm_0 m
theorem ysm_swap (c : Nat → Nat → Bool) (m : Nat) : ∀ n, ysm (fun i => ycn (fun j => c i j) n) m = ysm (fun j => ycn (fun i => c i j) m) n
  | 0 => ysm_0 m
  | n + 1 => by
    show ysm (fun i => ycn (fun j => c i j) n + (if c i n = true then 1 else 0)) m = ysm (fun j => ycn (fun i => c i j) m) n + ycn (fun i => c i n) m
    rw [ysm_add, ysm_swap c m n, ysm_cn]
def ydp (P : zP) (i j : Nat) : Bool := decide (i < j ∧ zdc P i j ≠ -3)
theorem ycn_f {c : Nat → Bool} : ∀ m, (∀ i, i < m → c i = false) → ycn c m = 0
  | 0, _ => rfl
  | m + 1, h => by
    show ycn c m + (if c m = true then 1 else 0) = 0
    rw [ycn_f m (fun i hi => h i (by omega)), h m (by omega)]
    rfl
theorem zpc_cn (P : zP) {j n : Nat} (hj : j ≤ n) : ∀ m, m ≤ j → zpc P j m = ycn (fun i => decide (j - m ≤ i) && ydp P i j) n
  | 0, _ => by
    rw [ycn_f]
    · rfl
    · intro i _
      unfold ydp
      rw [Bool.and_eq_false_iff, decide_eq_false_iff_not, decide_eq_false_iff_not]
      omega
  | m + 1, hm => by
    show zpc P j m + (if zdc P (j - 1 - m) j ≠ -3 then 1 else 0) = _
    rw [zpc_cn P hj m (by omega)]
    have h1 := ycn_add (c := fun i => decide (j - m ≤ i) && ydp P i j) (e := fun i => decide (i = j - 1 - m) && ydp P i j) (g := fun i => decide (j - (m + 1) ≤ i) && ydp P i j) n (fun i hi q1 q2 => by
      rw [Bool.and_eq_true, decide_eq_true_eq] at q1 q2
      omega) (fun i hi => by
      cases hd : ydp P i j
      · simp
      · rw [Bool.and_true, Bool.and_true, Bool.and_true, ← Bool.decide_or]
        congr 1
        rw [eq_iff_iff]
        omega)
    rw [← h1]
    congr 1
    by_cases hd : zdc P (j - 1 - m) j ≠ -3
    · rw [if_pos hd]
      have h2 := ycn_mono (c := fun i => decide (i = j - 1 - m) && ydp P i j) (e := fun i => decide (i = j - 1 - m)) n (fun i hi q => by rw [Bool.and_eq_true] at q; exact q.1)
      have h3 := ycn_mono (c := fun i => decide (i = j - 1 - m)) (e := fun i => decide (i = j - 1 - m) && ydp P i j) n (fun i hi q => by
        rw [Bool.and_eq_true]
        refine ⟨q, ?_⟩
        rw [decide_eq_true_eq] at q
        unfold ydp
        rw [decide_eq_true_eq, q]
        exact ⟨by omega, hd⟩)
      rw [ycn_one n (by omega)] at h2 h3
      omega
    · rw [if_neg hd, ycn_f]
      intro i _
      rw [Bool.and_eq_false_iff, decide_eq_false_iff_not]
      by_cases hi : i = j - 1 - m
      · right
        unfold ydp
        rw [decide_eq_false_iff_not, hi]
        exact fun z => hd z.2
      · exact Or.inl hi
theorem zpairs_cn (P : zP) {n : Nat} : ∀ m, m ≤ n → zpairs P m = ysm (fun j => ycn (fun i => ydp P i j) n) m
  | 0, _ => rfl
  | m + 1, hm => by
    show zpairs P m + zpc P m m = ysm (fun j => ycn (fun i => ydp P i j) n) m + ycn (fun i => ydp P i m) n
    rw [zpairs_cn P (n := n) m (by omega), zpc_cn P (n := n) (by omega) m (Nat.le_refl _)]
    congr 2
    funext i
    simp
theorem ypairs (P : zP) (n : Nat) : ysm (fun i => ycn (fun j => ydp P i j) n) n = zpairs P n := by
  rw [ysm_swap (fun i j => ydp P i j) n n, zpairs_cn P n (Nat.le_refl _)]
theorem ycn_le (c : Nat → Bool) : ∀ m, ycn c m ≤ m
  | 0 => Nat.le_refl _
  | m + 1 => by
    have := ycn_le c m
    show ycn c m + (if c m = true then 1 else 0) ≤ m + 1
    split <;> omega
theorem ysm_le {f : Nat → Nat} {b : Nat} : ∀ m, (∀ i, i < m → f i ≤ b) → ysm f m ≤ b * m
  | 0, _ => Nat.zero_le _
  | m + 1, h => by
    have h1 := ysm_le m (fun i hi => h i (by omega))
    have h2 := h m (by omega)
    show ysm f m + f m ≤ b * (m + 1)
    rw [Nat.mul_add]
    omega
theorem zup_self (M : zM) (i k : Nat) : zup M i k (M i k) = M := by
  funext a b
  unfold zup
  split
  · rename_i h
    rw [h.1, h.2]
  · rfl
/-- what was told -/
def yTl (kp : Bool) (M N : zM) (a b : Int) : Prop := (kp = true → N 34 20 = a ∧ N 34 21 = b) ∧ (∀ q, q ≠ 20 → q ≠ 21 → N 34 q = M 34 q) ∧ (∀ c, c ≠ 34 → N c = M c) ∧ (kp = false → N = M)
theorem yTl_tr {kp : Bool} {M N N2 : zM} {a b a2 b2 : Int} (h : yTl kp M N a b) (h2 : yTl kp N N2 a2 b2) : yTl kp M N2 a2 b2 := ⟨h2.1, fun q q1 q2 => by rw [h2.2.1 q q1 q2, h.2.1 q q1 q2], fun c hc => by rw [h2.2.2.1 c hc, h.2.2.1 c hc], fun hk => by rw [h2.2.2.2 hk, h.2.2.2 hk]⟩
section ZX
variable {L : Nat} {M : zM} {P : zP} {A : zA}
theorem sp_M_dependences (hB : zBm M P) (hw : zWf P) (hD : zDm M P) : zf (zSh L) 2 kX8_dependences [zvr 34] M (fun v M1 => v = some (.inl (zpairs P (pn P))) ∧ M1 = M) := by
  have h60 := hw.1
  have outer : ∀ (t i : Nat) (o3 : Option zV), i + t = pn P → zr (zSh L) 1 tX8_dependences 4 [some (zvr 34), some (zvi (ysm (fun i => ycn (fun j => ydp P i j) (pn P)) i)), some (zvi i), o3] [] M (fun v M1 => v = some (.inl (zpairs P (pn P))) ∧ M1 = M) := by
    intro t
    induction t with
    | zero =>
      intro i o3 hi
      repeat refine zr_s rfl rfl rfl ?_
      rw [hB.1]
      refine zr_ige rfl (by omega) (by omega) (fun h => ?_) (fun h => by omega)
      repeat refine zr_s rfl rfl rfl ?_
      refine zr_ret rfl ⟨by rw [show i = pn P by omega, ypairs], rfl⟩
    | succ t ih =>
      intro i o3 hi
      have hb := ysm_le (f := fun i => ycn (fun j => ydp P i j) (pn P)) (b := 60) i (fun q _ => by have := ycn_le (fun j => ydp P q j) (pn P); omega)
      repeat refine zr_s rfl rfl rfl ?_
      rw [hB.1]
      refine zr_ige rfl (by omega) (by omega) (fun h => by omega) (fun h => ?_)
      have inner : ∀ (u j : Nat), j + u = pn P → i < j → zr (zSh L) 1 tX8_dependences 16 [some (zvr 34), some (zvi (ysm (fun i => ycn (fun j => ydp P i j) (pn P)) i + ycn (fun j => ydp P i j) j : Nat)), some (zvi i), some (zvi j)] [] M (fun v M1 => v = some (.inl (zpairs P (pn P))) ∧ M1 = M) := by
        intro u
        induction u with
        | zero =>
          intro j hj hij
          repeat refine zr_s rfl rfl rfl ?_
          rw [hB.1]
          refine zr_ige rfl (by omega) (by omega) (fun h => ?_) (fun h => by omega)
          repeat refine zr_s rfl rfl rfl ?_
          refine zr_b rfl rfl ?_
          have hjn : j = pn P := by omega
          rw [hjn]
          exact ih (i + 1) _ (by omega)
        | succ u ihu =>
          intro j hj hij
          have hzI := zdm_I hw (i := i) (j := j) (by omega) (by omega)
          have hge := zdm_ge hw (i := i) (j := j) (by omega)
          have nxt : ∀ x : Int, x = ((ysm (fun i => ycn (fun j => ydp P i j) (pn P)) i + ycn (fun j => ydp P i j) (j + 1) : Nat) : Int) → zr (zSh L) 1 tX8_dependences 40 [some (zvr 34), some (zvi (ysm (fun i => ycn (fun j => ydp P i j) (pn P)) i + ycn (fun j => ydp P i j) j : Nat)), some (zvi i), some (zvi j)] [zvi x] M (fun v M1 => v = some (.inl (zpairs P (pn P))) ∧ M1 = M) := fun x hx => by
            repeat refine zr_s rfl rfl rfl ?_
            refine zr_b rfl rfl ?_
            rw [hx]
            exact ihu (j + 1) (by omega) (by omega)
          have cS : ycn (fun j => ydp P i j) (j + 1) = ycn (fun j => ydp P i j) j + if ydp P i j = true then 1 else 0 := rfl
          repeat refine zr_s rfl rfl rfl ?_
          rw [hB.1]
          refine zr_ige rfl (by omega) (by omega) (fun h => by omega) (fun h => ?_)
          repeat refine zr_s rfl rfl rfl ?_
          refine zr_cr rfl rfl rfl (zf_mono (Nat.le_of_ble_eq_true rfl) (sp_M_delayAt hw hD (by omega) (by omega))) ?_
          refine zr_zlt rfl (by omega) (fun h2 => ?_) (fun h2 => ?_)
          · repeat refine zr_t 40 rfl rfl rfl rfl ?_
            refine nxt _ ?_
            rw [cS, if_neg (fun z => by unfold ydp at z; rw [decide_eq_true_eq] at z; have := hge.mpr z; omega)]
            rfl
          · repeat refine zr_t 40 rfl rfl rfl rfl ?_
            refine nxt _ ?_
            rw [cS, if_pos (by unfold ydp; rw [decide_eq_true_eq]; exact hge.mp h2)]
            push_cast
            omega
      repeat refine zr_t 16 rfl rfl rfl rfl ?_
      have h0 : ycn (fun j => ydp P i j) (i + 1) = 0 := ycn_f _ (fun q hq => by unfold ydp; rw [decide_eq_false_iff_not]; omega)
      have h1 := inner (pn P - (i + 1)) (i + 1) (by omega) (by omega)
      rw [h0, Nat.add_zero] at h1
      exact h1
  refine zf_of rfl (Nat.le_of_ble_eq_true rfl) ?_
  repeat refine zr_t 4 rfl rfl rfl rfl ?_
  exact outer (pn P) 0 _ (by omega)
theorem sp_M_tell {kp : Bool} {x y : Int} : zf (zSh L) 1 kX8_tell [zvr 34, zvi (zb kp), zvi x, zvi y] M (fun v M1 => v = none ∧ yTl kp M M1 x y) := by
  refine zf_of rfl (Nat.le_of_ble_eq_true rfl) ?_
  repeat refine zr_s rfl rfl rfl ?_
  cases kp with
  | true =>
    rw [zb_t rfl]
    refine zr_zeq rfl (by decide) (fun h => by cases h) (fun _ => ?_)
    repeat refine zr_s rfl rfl rfl ?_
    refine zr_zeq rfl (by decide) (fun h => by cases h) (fun _ => ?_)
    repeat refine zr_s rfl rfl rfl ?_
    refine zr_retv rfl ⟨rfl, fun _ => ⟨by rw [zup_off (by decide), zup_at], zup_at⟩, fun q q1 q2 => by rw [zup_off q2, zup_off q1], fun c hc => by rw [zup_row hc, zup_row hc], fun h => by cases h⟩
  | false =>
    rw [zb_f rfl]
    refine zr_zeq rfl (by decide) (fun _ => ?_) (fun h => absurd rfl h)
    repeat refine zr_s rfl rfl rfl ?_
    rw [zup_self]
    refine zr_zeq rfl (by decide) (fun _ => ?_) (fun h => absurd rfl h)
    repeat refine zr_s rfl rfl rfl ?_
    rw [zup_self]
    have hT : yTl false M M x y := ⟨fun h => absurd h (by decide), fun _ _ _ => rfl, fun _ _ => rfl, fun _ => rfl⟩
    exact zr_retv rfl ⟨rfl, hT⟩
theorem sp_M_look {kp : Bool} (hB : zBm M P) (hw : zWf P) (hD : zDm M P) (hr : ∀ i, i < pn P → M 48 i = -3 ∨ (0 ≤ M 48 i ∧ M 48 i ≤ 1000)) : zf (zSh L) 2 kX8_look [zvr 34, zvi (zb kp)] M (fun v M1 => ∃ r a b : Int, v = some (.inl r) ∧ zVd P (M 48) r a b ∧ yTl kp M M1 a b) := by
  have h60 := hw.1
  have hu8 := hw.2.2.1
  refine zf_of rfl (Nat.le_of_ble_eq_true rfl) ?_
  repeat refine zr_s rfl rfl rfl ?_
  refine zr_c rfl rfl rfl (zf_mono (Nat.le_of_ble_eq_true rfl) (sp_M_tell (kp := kp) (x := -3) (y := -3))) (fun v M1 hv => ?_)
  obtain ⟨rfl, hT⟩ := hv
  have hn : M1 34 5 = pn P := by rw [hT.2.1 5 (by decide) (by decide)]; exact hB.1
  have hun : M1 34 7 = pu P := by rw [hT.2.1 7 (by decide) (by decide)]; exact hB.2.1
  have e48 : M1 48 = M 48 := hT.2.2.1 48 (by decide)
  have hDN : zDm M1 P := fun a b ha hb => by rw [hT.2.2.1 41 (by decide)]; exact hD a b ha hb
  -- too many in a cycle
  have third : ∀ (o2 o3 o4 : Option zV), (∀ i, i < pn P → M 48 i ≠ -3) → (∀ j, j < pn P → ∀ i, i < j → ¬ zbad P (M 48) i j) → zr (zSh L) 1 tX8_look 113 [some (zvr 34), some (zvi (zb kp)), o2, o3, o4] [] M1 (fun v M1 => ∃ r a b : Int, v = some (.inl r) ∧ zVd P (M 48) r a b ∧ yTl kp M M1 a b) := by
    intro o2 o3 o4 hall hnb
    have outer : ∀ (t c : Nat) (o3 o4 : Option zV), c + t = 1001 → (∀ z : Int, 0 ≤ z → z < c → zct (M 48) z (pn P) ≤ pu P) → zr (zSh L) 1 tX8_look 115 [some (zvr 34), some (zvi (zb kp)), some (zvi c), o3, o4] [] M1 (fun v M1 => ∃ r a b : Int, v = some (.inl r) ∧ zVd P (M 48) r a b ∧ yTl kp M M1 a b) := by
      intro t
      induction t with
      | zero =>
        intro c o3 o4 hc hE
        repeat refine zr_s rfl rfl rfl ?_
        refine zr_igt rfl (by omega) (by decide) (fun h => ?_) (fun h => by omega)
        repeat refine zr_s rfl rfl rfl ?_
        refine zr_ret rfl ⟨0, -3, -3, rfl, Or.inr (Or.inr (Or.inr ⟨rfl, hall, hnb, fun z hz => ?_, rfl, rfl⟩)), hT⟩
        by_cases hzc : z < c
        · exact hE z hz hzc
        · rw [zct_none _ (fun i hi => by have := hr i hi; have := hall i hi; omega)]
          omega
      | succ t ih =>
        intro c o3 o4 hc hE
        repeat refine zr_s rfl rfl rfl ?_
        refine zr_igt rfl (by omega) (by decide) (fun h => by omega) (fun h => ?_)
        have inner : ∀ (u i : Nat), i + u = pn P → zr (zSh L) 1 tX8_look 127 [some (zvr 34), some (zvi (zb kp)), some (zvi c), some (zvi (zct (M 48) c i)), some (zvi i)] [] M1 (fun v M1 => ∃ r a b : Int, v = some (.inl r) ∧ zVd P (M 48) r a b ∧ yTl kp M M1 a b) := by
          intro u
          induction u with
          | zero =>
            intro i hi
            have hin : i = pn P := by omega
            have hle := zct_le (M 48) c i
            repeat refine zr_s rfl rfl rfl ?_
            rw [hn]
            refine zr_ige rfl (by omega) (by omega) (fun h => ?_) (fun h => by omega)
            repeat refine zr_s rfl rfl rfl ?_
            rw [hun]
            refine zr_ile rfl (by omega) (by omega) (fun h2 => ?_) (fun h2 => ?_)
            · repeat refine zr_s rfl rfl rfl ?_
              refine zr_b rfl rfl ?_
              refine ih (c + 1) _ _ (by omega) (fun z z1 z2 => ?_)
              by_cases hzc : z = c
              · rw [hzc, ← hin]
                omega
              · exact hE z z1 (by omega)
            · repeat refine zr_s rfl rfl rfl ?_
              refine zr_c rfl rfl rfl (zf_mono (Nat.le_of_ble_eq_true rfl) (sp_M_tell (kp := kp) (x := c) (y := -3))) (fun v M2 hv => ?_)
              obtain ⟨rfl, hT2⟩ := hv
              repeat refine zr_s rfl rfl rfl ?_
              refine zr_ret rfl ⟨3, c, -3, rfl, Or.inr (Or.inr (Or.inl ⟨rfl, hall, hnb, rfl, by omega, by rw [← hin]; omega, fun z z1 z2 => hE z z1 z2⟩)), yTl_tr hT hT2⟩
          | succ u ihu =>
            intro i hi
            have hle := zct_le (M 48) c i
            have hri := hr i (by omega)
            have nxt : ∀ x : Int, x = zct (M 48) c (i + 1) → zr (zSh L) 1 tX8_look 154 [some (zvr 34), some (zvi (zb kp)), some (zvi c), some (zvi (zct (M 48) c i)), some (zvi i)] [zvi x] M1 (fun v M1 => ∃ r a b : Int, v = some (.inl r) ∧ zVd P (M 48) r a b ∧ yTl kp M M1 a b) := fun x hx => by
              repeat refine zr_s rfl rfl rfl ?_
              refine zr_b rfl rfl ?_
              rw [hx]
              exact ihu (i + 1) (by omega)
            have cS : zct (M 48) c (i + 1) = zct (M 48) c i + if M 48 i = c then 1 else 0 := rfl
            repeat refine zr_s rfl rfl rfl ?_
            rw [hn]
            refine zr_ige rfl (by omega) (by omega) (fun h => by omega) (fun h => ?_)
            repeat refine zr_s rfl rfl rfl ?_
            refine zr_ald (i) rfl rfl rfl (by omega) (by decide) ?_
            rw [e48]
            repeat refine zr_s rfl rfl rfl ?_
            refine zr_ine rfl (by omega) (by omega) (fun h2 => ?_) (fun h2 => ?_)
            · repeat refine zr_t 154 rfl rfl rfl rfl ?_
              exact nxt _ (by rw [cS, if_neg h2]; rfl)
            · repeat refine zr_t 154 rfl rfl rfl rfl ?_
              exact nxt _ (by rw [cS, if_pos h2]; rfl)
        repeat refine zr_t 127 rfl rfl rfl rfl ?_
        exact inner (pn P) 0 (by omega)
    repeat refine zr_t 115 rfl rfl rfl rfl ?_
    exact outer 1001 0 _ _ rfl (fun z z1 z2 => by omega)
  -- a delay that isn't kept
  have second : ∀ (o2 o3 o4 : Option zV), (∀ i, i < pn P → M 48 i ≠ -3) → zr (zSh L) 1 tX8_look 44 [some (zvr 34), some (zvi (zb kp)), o2, o3, o4] [] M1 (fun v M1 => ∃ r a b : Int, v = some (.inl r) ∧ zVd P (M 48) r a b ∧ yTl kp M M1 a b) := by
    intro o2 o3 o4 hall
    have outer : ∀ (t j : Nat) (o3 : Option zV), j + t = pn P → (∀ j2, j2 < j → ∀ i2, i2 < j2 → ¬ zbad P (M 48) i2 j2) → zr (zSh L) 1 tX8_look 46 [some (zvr 34), some (zvi (zb kp)), some (zvi j), o3, o4] [] M1 (fun v M1 => ∃ r a b : Int, v = some (.inl r) ∧ zVd P (M 48) r a b ∧ yTl kp M M1 a b) := by
      intro t
      induction t with
      | zero =>
        intro j o3 hj hE
        repeat refine zr_s rfl rfl rfl ?_
        rw [hn]
        refine zr_ige rfl (by omega) (by omega) (fun h => ?_) (fun h => by omega)
        exact third _ _ _ hall (fun j2 hj2 => hE j2 (by omega))
      | succ t ih =>
        intro j o3 hj hE
        repeat refine zr_s rfl rfl rfl ?_
        rw [hn]
        refine zr_ige rfl (by omega) (by omega) (fun h => by omega) (fun h => ?_)
        have inner : ∀ (u i : Nat), i + u = j → (∀ i2, i2 < i → ¬ zbad P (M 48) i2 j) → zr (zSh L) 1 tX8_look 56 [some (zvr 34), some (zvi (zb kp)), some (zvi j), some (zvi i), o4] [] M1 (fun v M1 => ∃ r a b : Int, v = some (.inl r) ∧ zVd P (M 48) r a b ∧ yTl kp M M1 a b) := by
          intro u
          induction u with
          | zero =>
            intro i hi hF
            repeat refine zr_s rfl rfl rfl ?_
            refine zr_ige rfl (by omega) (by omega) (fun h => ?_) (fun h => by omega)
            repeat refine zr_s rfl rfl rfl ?_
            refine zr_b rfl rfl ?_
            refine ih (j + 1) _ (by omega) (fun j2 hj2 i2 hi2 => ?_)
            by_cases hjj : j2 = j
            · subst hjj
              exact hF i2 (by omega)
            · exact hE j2 (by omega) i2 hi2
          | succ u ihu =>
            intro i hi hF
            have hzI := zdm_I hw (i := i) (j := j) (by omega) (by omega)
            have hge := zdm_ge hw (i := i) (j := j) (by omega)
            have hri := hr i (by omega)
            have hrj := hr j (by omega)
            have nxt : ¬ zbad P (M 48) i j → zr (zSh L) 1 tX8_look 101 [some (zvr 34), some (zvi (zb kp)), some (zvi j), some (zvi i), o4] [] M1 (fun v M1 => ∃ r a b : Int, v = some (.inl r) ∧ zVd P (M 48) r a b ∧ yTl kp M M1 a b) := fun hnb => by
              repeat refine zr_s rfl rfl rfl ?_
              refine zr_b rfl rfl ?_
              refine ihu (i + 1) (by omega) (fun i2 hi2 => ?_)
              by_cases hii : i2 = i
              · rw [hii]
                exact hnb
              · exact hF i2 (by omega)
            repeat refine zr_s rfl rfl rfl ?_
            refine zr_ige rfl (by omega) (by omega) (fun h => by omega) (fun h => ?_)
            repeat refine zr_s rfl rfl rfl ?_
            refine zr_cr rfl rfl rfl (zf_mono (Nat.le_of_ble_eq_true rfl) (sp_M_delayAt hw hDN (by omega) (by omega))) ?_
            refine zr_zlt rfl (by omega) (fun h2 => nxt (fun z => by have := hge.mpr ⟨by omega, z.1⟩; omega)) (fun h2 => ?_)
            have hdc := zdm_dc hw (i := i) (j := j) (by omega) h2
            repeat refine zr_s rfl rfl rfl ?_
            refine zr_ald (j) rfl rfl rfl (by omega) (by decide) ?_
            repeat refine zr_s rfl rfl rfl ?_
            refine zr_ald (i) rfl rfl rfl (by omega) (by decide) ?_
            repeat refine zr_s rfl rfl rfl ?_
            refine zr_cr rfl rfl rfl (zf_mono (Nat.le_of_ble_eq_true rfl) (sp_M_delayAt hw hDN (by omega) (by omega))) ?_
            repeat refine zr_s rfl rfl rfl ?_
            rw [e48, hdc]
            rw [hdc] at hzI
            refine zr_ige rfl (by omega) (by omega) (fun h3 => nxt (fun z => by have := z.2; omega)) (fun h3 => ?_)
            repeat refine zr_s rfl rfl rfl ?_
            refine zr_c rfl rfl rfl (zf_mono (Nat.le_of_ble_eq_true rfl) (sp_M_tell (kp := kp) (x := i) (y := j))) (fun v M2 hv => ?_)
            obtain ⟨rfl, hT2⟩ := hv
            repeat refine zr_s rfl rfl rfl ?_
            refine zr_ret rfl ⟨2, i, j, rfl, Or.inr (Or.inl ⟨rfl, hall, i, j, by omega, by omega, ⟨(hge.mp h2).2, h3⟩, hE, hF, rfl, rfl⟩), yTl_tr hT hT2⟩
        repeat refine zr_t 56 rfl rfl rfl rfl ?_
        exact inner j 0 (by omega) (fun i2 hi2 => by omega)
    repeat refine zr_t 46 rfl rfl rfl rfl ?_
    exact outer (pn P) 0 _ (by omega) (fun j2 hj2 => by omega)
  -- one without a cycle
  have first : ∀ (t i : Nat) (o3 o4 : Option zV), i + t = pn P → (∀ q, q < i → M 48 q ≠ -3) → zr (zSh L) 1 tX8_look 11 [some (zvr 34), some (zvi (zb kp)), some (zvi i), o3, o4] [] M1 (fun v M1 => ∃ r a b : Int, v = some (.inl r) ∧ zVd P (M 48) r a b ∧ yTl kp M M1 a b) := by
    intro t
    induction t with
    | zero =>
      intro i o3 o4 hi hE
      repeat refine zr_s rfl rfl rfl ?_
      rw [hn]
      refine zr_ige rfl (by omega) (by omega) (fun h => ?_) (fun h => by omega)
      exact second _ _ _ (fun q hq => hE q (by omega))
    | succ t ih =>
      intro i o3 o4 hi hE
      have hri := hr i (by omega)
      repeat refine zr_s rfl rfl rfl ?_
      rw [hn]
      refine zr_ige rfl (by omega) (by omega) (fun h => by omega) (fun h => ?_)
      repeat refine zr_s rfl rfl rfl ?_
      refine zr_ald (i) rfl rfl rfl (by omega) (by decide) ?_
      rw [e48]
      refine zr_zge rfl (by omega) (fun h2 => ?_) (fun h2 => ?_)
      · repeat refine zr_s rfl rfl rfl ?_
        refine zr_b rfl rfl ?_
        refine ih (i + 1) _ _ (by omega) (fun q hq => ?_)
        by_cases hqi : q = i
        · rw [hqi]
          omega
        · exact hE q (by omega)
      · repeat refine zr_s rfl rfl rfl ?_
        refine zr_c rfl rfl rfl (zf_mono (Nat.le_of_ble_eq_true rfl) (sp_M_tell (kp := kp) (x := i) (y := -3))) (fun v M2 hv => ?_)
        obtain ⟨rfl, hT2⟩ := hv
        repeat refine zr_s rfl rfl rfl ?_
        refine zr_ret rfl ⟨1, i, -3, rfl, Or.inl ⟨rfl, rfl, i, by omega, by omega, hE, rfl⟩, yTl_tr hT hT2⟩
  repeat refine zr_t 11 rfl rfl rfl rfl ?_
  exact first (pn P) 0 _ _ (by omega) (fun q hq => by omega)
end ZX
end
section
/-! THE REFERENCE'S CALLS: length, place, check, wrong, given, value -/
section ZX
variable {L : Nat} {M : zM} {P : zP} {A : zA}
theorem zMS_tl {M1 : zM} {a b : Int} (hA : zMS M A) (h : yTl true M M1 a b) : zMS M1 (A.1, A.2.1, (a, b), A.2.2.2) := by
  obtain ⟨⟨hB, hw, h9, hC⟩, g2, g3, g4, g5, g6, g7, g8, g9⟩ := hA
  obtain ⟨t1, t2, t3, -⟩ := h
  refine ⟨⟨zBm_34 hB (t2 5 (by decide) (by decide)) (t2 7 (by decide) (by decide)) (fun a h1 h2 => t3 a (by omega)), hw, by rw [t2 9 (by decide) (by decide)]; exact h9, fun hf => ?_⟩, by rw [t3 48 (by decide)]; exact g2, by rw [t3 48 (by decide)]; exact g3, (t1 rfl).1, (t1 rfl).2, by rw [t3 51 (by decide)]; exact g6, by rw [t3 52 (by decide)]; exact g7, by rw [t3 53 (by decide)]; exact g8, by rw [t3 54 (by decide)]; exact g9⟩
  rw [t2 9 (by decide) (by decide)] at hf
  have hc := hC hf
  unfold zMC zDm at hc ⊢
  rw [t3 41 (by decide), t3 42 (by decide), t3 43 (by decide), t3 44 (by decide), t3 45 (by decide), t3 46 (by decide), t3 47 (by decide), t2 17 (by decide) (by decide)]
  exact hc
theorem sp_lookT (hA : zMS M A) (h9 : M 34 9 = 1) : zf (zSh L) 2 kX8_look [zvr 34, zvi 1] M (fun v M1 => v = some (.inl (zver A.1 A.2.1).1) ∧ zMS M1 (zs_check A).2 ∧ zFM M M1) := by
  have h := sp_M_look (L := L) (kp := true) hA.1.1 hA.1.2.1 (hA.1.2.2.2 h9).1 hA.2.2.1
  rw [zb_t rfl] at h
  refine zf_post h (fun v M1 h => ?_)
  obtain ⟨r, a, b, h1, h2, h3⟩ := h
  have hv := zver_eq (zVd_congr (fun i hi => hA.2.1 i hi) h2)
  unfold zs_check
  rw [hv]
  exact ⟨h1, zMS_tl hA h3, fun c hc => h3.2.2.1 c (by omega)⟩
theorem sp_lookF (hA : zMS M A) (h9 : M 34 9 = 1) : zf (zSh L) 2 kX8_look [zvr 34, zvi 0] M (fun v M1 => v = some (.inl (zver A.1 A.2.1).1) ∧ M1 = M ∧ 0 ≤ (zver A.1 A.2.1).1 ∧ (zver A.1 A.2.1).1 ≤ 3 ∧ ((zver A.1 A.2.1).1 = 0 → ∀ i, i < pn A.1 → M 48 i ≠ -3)) := by
  have h := sp_M_look (L := L) (kp := false) hA.1.1 hA.1.2.1 (hA.1.2.2.2 h9).1 hA.2.2.1
  rw [zb_f rfl] at h
  refine zf_post h (fun v M1 h => ?_)
  obtain ⟨r, a, b, h1, h2, h3⟩ := h
  have hv := zver_eq (zVd_congr (fun i hi => hA.2.1 i hi) h2)
  rw [hv]
  refine ⟨h1, h3.2.2.2 rfl, ?_, ?_, fun h => ?_⟩
  · show 0 ≤ r
    rcases h2 with ⟨r1, -⟩ | ⟨r1, -⟩ | ⟨r1, -⟩ | ⟨r1, -⟩ <;> omega
  · show r ≤ 3
    rcases h2 with ⟨r1, -⟩ | ⟨r1, -⟩ | ⟨r1, -⟩ | ⟨r1, -⟩ <;> omega
  · have h : r = 0 := h
    rcases h2 with ⟨r1, -⟩ | ⟨r1, r2, -⟩ | ⟨r1, r2, -⟩ | ⟨r1, r2, -⟩
    · omega
    · exact r2
    · exact r2
    · exact r2
theorem sp_M_check (hA : zMS M A) : zf (zSh L) 7 kX8_check [zvr 34] M (fun v M1 => v = some (.inl (zs_check A).1) ∧ zMS M1 (zs_check A).2 ∧ zFM M M1) := by
  refine zf_of rfl (Nat.le_of_ble_eq_true rfl) ?_
  repeat refine zr_s rfl rfl rfl ?_
  refine zr_c rfl rfl rfl (zf_mono (Nat.le_of_ble_eq_true rfl) (sp_workS hA)) (fun v M1 hv => ?_)
  obtain ⟨rfl, h9, hA1, hF⟩ := hv
  repeat refine zr_s rfl rfl rfl ?_
  refine zr_c rfl rfl rfl (zf_mono (Nat.le_of_ble_eq_true rfl) (sp_lookT hA1 h9)) (fun v M2 hv => ?_)
  obtain ⟨rfl, hA2, hF2⟩ := hv
  exact zr_ret rfl (⟨rfl, hA2, zFM_tr hF hF2⟩)
theorem sp_M_wrong {p : Int} (hA : zMS M A) (hp : zI p) : zf (zSh L) 1 kX8_wrong [zvr 34, zvi p] M (fun v M1 => v = some (.inl (zs_wrong A p)) ∧ zMS M1 A ∧ zFM M M1) := by
  obtain ⟨hI, g2, g3, g4, g5, g6, g7, g8, g9⟩ := id hA
  unfold zs_wrong
  refine zf_of rfl (Nat.le_of_ble_eq_true rfl) ?_
  repeat refine zr_s rfl rfl rfl ?_
  refine zr_zne rfl hp (fun h => ?_) (fun h => ?_)
  · rw [if_neg h]
    repeat refine zr_s rfl rfl rfl ?_
    refine zr_ine rfl hp (by decide) (fun h2 => ?_) (fun h2 => ?_)
    · rw [if_neg h2]
      repeat refine zr_s rfl rfl rfl ?_
      exact zr_ret rfl (⟨rfl, hA, zFM_rf⟩)
    · rw [if_pos h2]
      repeat refine zr_s rfl rfl rfl ?_
      rw [g5]
      exact zr_ret rfl (⟨rfl, hA, zFM_rf⟩)
  · rw [if_pos h]
    repeat refine zr_s rfl rfl rfl ?_
    rw [g4]
    exact zr_ret rfl (⟨rfl, hA, zFM_rf⟩)
theorem zMI_eq {M1 : zM} (e : ∀ q, 34 ≤ q → q ≤ 47 → M1 q = M q) (h : zMI M P) : zMI M1 P := by
  unfold zMI zBm zMC zDm at h ⊢
  rw [e 34 (by omega) (by omega), e 35 (by omega) (by omega), e 36 (by omega) (by omega), e 37 (by omega) (by omega), e 38 (by omega) (by omega), e 39 (by omega) (by omega), e 40 (by omega) (by omega), e 41 (by omega) (by omega), e 42 (by omega) (by omega), e 43 (by omega) (by omega), e 44 (by omega) (by omega), e 45 (by omega) (by omega), e 46 (by omega) (by omega), e 47 (by omega) (by omega)]
  exact h
theorem sp_M_place {i c : Int} (hA : zMS M A) (hi : zI i) (hc : zI c) : zf (zSh L) 2 kX8_place [zvr 34, zvi i, zvi c] M (fun v M1 => v = some (.inl (zs_place A i c).1) ∧ zMS M1 (zs_place A i c).2 ∧ zFM M M1) := by
  obtain ⟨hI, g2, g3, g4, g5, g6, g7, g8, g9⟩ := id hA
  have hB := hI.1
  have hw := hI.2.1
  have h60 := hw.1
  have bad : ¬ (zin' A.1 i ∧ 0 ≤ c ∧ c ≤ 1000) → zr (zSh L) 1 tX8_place 19 [some (zvr 34), some (zvi i), some (zvi c), none] [] M (fun v M1 => v = some (.inl (zs_place A i c).1) ∧ zMS M1 (zs_place A i c).2 ∧ zFM M M1) := fun h => by
    repeat refine zr_s rfl rfl rfl ?_
    refine zr_ret rfl ?_
    unfold zs_place
    rw [if_neg h]
    exact ⟨rfl, hA, zFM_rf⟩
  refine zf_of rfl (Nat.le_of_ble_eq_true rfl) ?_
  repeat refine zr_s rfl rfl rfl ?_
  refine zr_cr rfl rfl rfl (zf_mono (Nat.le_of_ble_eq_true rfl) (sp_M_isThere hB hw hi)) ?_
  by_cases h1 : 0 ≤ i ∧ i < pn A.1
  rotate_left
  · rw [zb_f (by simpa using h1)]
    exact zr_zeq rfl (by decide) (fun _ => bad (fun z => h1 z.1)) (fun h => absurd rfl h)
  rw [zb_t (by simpa using h1)]
  refine zr_zeq rfl (by decide) (fun h => by cases h) (fun _ => ?_)
  repeat refine zr_s rfl rfl rfl ?_
  refine zr_zlt rfl hc (fun h => bad (fun z => by have := z.2.1; omega)) (fun h2 => ?_)
  repeat refine zr_s rfl rfl rfl ?_
  refine zr_ile rfl hc (by decide) (fun h3 => ?_) (fun h => bad (fun z => by have := z.2.2; omega))
  unfold zs_place
  rw [if_pos (show zin' A.1 i ∧ 0 ≤ c ∧ c ≤ 1000 from ⟨h1, h2, h3⟩)]
  obtain ⟨a, rfl⟩ := Int.eq_ofNat_of_zero_le h1.1
  rw [Int.toNat_natCast]
  have ha : a < pn A.1 := by omega
  repeat refine zr_s rfl rfl rfl ?_
  refine zr_ald (a) rfl rfl rfl (by omega) (by decide) ?_
  repeat refine zr_s rfl rfl rfl ?_
  refine zr_ast (a) rfl rfl rfl (by omega) (by decide) ?_
  repeat refine zr_s rfl rfl rfl ?_
  rw [g2 a ha]
  have row : ∀ q, q ≠ 48 → zup M 48 a c q = M q := fun q hq => zup_row hq
  have x48 : ∀ q, zup M 48 a c 48 q = if q = a then c else M 48 q := fun q => by
    by_cases h : q = a
    · rw [if_pos h, h, zup_at]
    · rw [if_neg h, zup_off h]
  refine zr_ret rfl ⟨rfl, ⟨zMI_eq (fun q q1 q2 => row q (by omega)) hI, fun q hq => ?_, fun q hq => ?_, by rw [row 34 (by decide)]; exact g4, by rw [row 34 (by decide)]; exact g5, by rw [row 51 (by decide)]; exact g6, by rw [row 52 (by decide)]; exact g7, by rw [row 53 (by decide)]; exact g8, by rw [row 54 (by decide)]; exact g9⟩, fun q hq => row q (by omega)⟩
  · rw [x48]
    show _ = zfu A.2.1 a c q
    unfold zfu
    rw [g2 q hq]
  · rw [x48]
    split
    · omega
    · exact g3 q hq
theorem sp_M_given {w k x : Int} (hA : zMS M A) (hwI : zI w) (hk : zI k) : zf (zSh L) 1 kX8_given [zvr 34, zvi w, zvi k, zvi x] M (fun v M1 => v = some (.inl (zs_given A w k x).1) ∧ zMS M1 (zs_given A w k x).2 ∧ zFM M M1) := by
  obtain ⟨hI, g2, g3, g4, g5, g6, g7, g8, g9⟩ := id hA
  have none' : ¬ (w = 0 ∧ 0 ≤ k ∧ k < 16) → ¬ (w = 1 ∧ 0 ≤ k ∧ k < 64) → zr (zSh L) 0 tX8_given 65 [some (zvr 34), some (zvi w), some (zvi k), some (zvi x), none] [] M (fun v M1 => v = some (.inl (zs_given A w k x).1) ∧ zMS M1 (zs_given A w k x).2 ∧ zFM M M1) := fun h1 h2 => by
    repeat refine zr_s rfl rfl rfl ?_
    refine zr_ret rfl ?_
    unfold zs_given
    rw [if_neg h1, if_neg h2]
    exact ⟨rfl, hA, zFM_rf⟩
  have mem : ¬ (w = 0 ∧ 0 ≤ k ∧ k < 16) → zr (zSh L) 0 tX8_given 32 [some (zvr 34), some (zvi w), some (zvi k), some (zvi x), none] [] M (fun v M1 => v = some (.inl (zs_given A w k x).1) ∧ zMS M1 (zs_given A w k x).2 ∧ zFM M M1) := fun h1 => by
    repeat refine zr_s rfl rfl rfl ?_
    refine zr_ine rfl hwI (by decide) (fun h => none' h1 (by omega)) (fun h => ?_)
    repeat refine zr_s rfl rfl rfl ?_
    refine zr_zlt rfl hk (fun h2 => none' h1 (by omega)) (fun h2 => ?_)
    repeat refine zr_s rfl rfl rfl ?_
    refine zr_ige rfl hk (by decide) (fun h3 => none' h1 (by omega)) (fun h3 => ?_)
    unfold zs_given
    rw [if_neg h1, if_pos ⟨h, h2, h3⟩]
    obtain ⟨a, rfl⟩ := Int.eq_ofNat_of_zero_le h2
    rw [Int.toNat_natCast]
    repeat refine zr_s rfl rfl rfl ?_
    refine zr_ald (a) rfl rfl rfl (by omega) (by decide) ?_
    repeat refine zr_s rfl rfl rfl ?_
    refine zr_ast (a) rfl rfl rfl (by omega) (by decide) ?_
    repeat refine zr_s rfl rfl rfl ?_
    rw [g7 a (by omega)]
    have row : ∀ q, q ≠ 52 → zup M 52 a x q = M q := fun q hq => zup_row hq
    refine zr_ret rfl ⟨rfl, ⟨zMI_eq (fun q q1 q2 => row q (by omega)) hI, by rw [row 48 (by decide)]; exact g2, by rw [row 48 (by decide)]; exact g3, by rw [row 34 (by decide)]; exact g4, by rw [row 34 (by decide)]; exact g5, by rw [row 51 (by decide)]; exact g6, fun q hq => ?_, by rw [row 53 (by decide)]; exact g8, by rw [row 54 (by decide)]; exact g9⟩, fun q hq => row q (by omega)⟩
    show _ = zfu A.2.2.2.1.2 a x q
    by_cases h : q = a
    · rw [h, zup_at, zfu_at]
    · rw [zup_off h, zfu_off h]
      exact g7 q hq
  refine zf_of rfl (Nat.le_of_ble_eq_true rfl) ?_
  repeat refine zr_s rfl rfl rfl ?_
  refine zr_zne rfl hwI (fun h => mem (by omega)) (fun h => ?_)
  repeat refine zr_s rfl rfl rfl ?_
  refine zr_zlt rfl hk (fun h2 => mem (by omega)) (fun h2 => ?_)
  repeat refine zr_s rfl rfl rfl ?_
  refine zr_ige rfl hk (by decide) (fun h3 => mem (by omega)) (fun h3 => ?_)
  unfold zs_given
  rw [if_pos ⟨h, h2, h3⟩]
  obtain ⟨a, rfl⟩ := Int.eq_ofNat_of_zero_le h2
  rw [Int.toNat_natCast]
  repeat refine zr_s rfl rfl rfl ?_
  refine zr_ald (a) rfl rfl rfl (by omega) (by decide) ?_
  repeat refine zr_s rfl rfl rfl ?_
  refine zr_ast (a) rfl rfl rfl (by omega) (by decide) ?_
  repeat refine zr_s rfl rfl rfl ?_
  rw [g6 a (by omega)]
  have row : ∀ q, q ≠ 51 → zup M 51 a x q = M q := fun q hq => zup_row hq
  refine zr_ret rfl ⟨rfl, ⟨zMI_eq (fun q q1 q2 => row q (by omega)) hI, by rw [row 48 (by decide)]; exact g2, by rw [row 48 (by decide)]; exact g3, by rw [row 34 (by decide)]; exact g4, by rw [row 34 (by decide)]; exact g5, fun q hq => ?_, by rw [row 52 (by decide)]; exact g7, by rw [row 53 (by decide)]; exact g8, by rw [row 54 (by decide)]; exact g9⟩, fun q hq => row q (by omega)⟩
  show _ = zfu A.2.2.2.1.1 a x q
  by_cases h : q = a
  · rw [h, zup_at, zfu_at]
  · rw [zup_off h, zfu_off h]
    exact g6 q hq
theorem sp_M_value {w k : Int} (hA : zMS M A) (hwI : zI w) (hk : zI k) : zf (zSh L) 1 kX8_value [zvr 34, zvi w, zvi k] M (fun v M1 => v = some (.inl (zs_value A w k)) ∧ zMS M1 A ∧ zFM M M1) := by
  obtain ⟨hI, g2, g3, g4, g5, g6, g7, g8, g9⟩ := id hA
  unfold zs_value
  have none' : ¬ (w = 0 ∧ 0 ≤ k ∧ k < 16) → ¬ (w = 1 ∧ 0 ≤ k ∧ k < 64) → zr (zSh L) 0 tX8_value 45 [some (zvr 34), some (zvi w), some (zvi k)] [] M (fun v M1 => v = some (.inl (if w = 0 ∧ 0 ≤ k ∧ k < 16 then A.2.2.2.2.1 k.toNat else if w = 1 ∧ 0 ≤ k ∧ k < 64 then A.2.2.2.2.2 k.toNat else 0)) ∧ zMS M1 A ∧ zFM M M1) := fun h1 h2 => by
    rw [if_neg h1, if_neg h2]
    repeat refine zr_s rfl rfl rfl ?_
    exact zr_ret rfl (⟨rfl, hA, zFM_rf⟩)
  have mem : ¬ (w = 0 ∧ 0 ≤ k ∧ k < 16) → zr (zSh L) 0 tX8_value 21 [some (zvr 34), some (zvi w), some (zvi k)] [] M (fun v M1 => v = some (.inl (if w = 0 ∧ 0 ≤ k ∧ k < 16 then A.2.2.2.2.1 k.toNat else if w = 1 ∧ 0 ≤ k ∧ k < 64 then A.2.2.2.2.2 k.toNat else 0)) ∧ zMS M1 A ∧ zFM M M1) := fun h1 => by
    repeat refine zr_s rfl rfl rfl ?_
    refine zr_ine rfl hwI (by decide) (fun h => none' h1 (by omega)) (fun h => ?_)
    repeat refine zr_s rfl rfl rfl ?_
    refine zr_zlt rfl hk (fun h2 => none' h1 (by omega)) (fun h2 => ?_)
    repeat refine zr_s rfl rfl rfl ?_
    refine zr_ige rfl hk (by decide) (fun h3 => none' h1 (by omega)) (fun h3 => ?_)
    rw [if_neg h1, if_pos ⟨h, h2, h3⟩]
    obtain ⟨a, rfl⟩ := Int.eq_ofNat_of_zero_le h2
    rw [Int.toNat_natCast]
    repeat refine zr_s rfl rfl rfl ?_
    refine zr_ald (a) rfl rfl rfl (by omega) (by decide) ?_
    repeat refine zr_s rfl rfl rfl ?_
    rw [g9 a (by omega)]
    exact zr_ret rfl (⟨rfl, hA, zFM_rf⟩)
  refine zf_of rfl (Nat.le_of_ble_eq_true rfl) ?_
  repeat refine zr_s rfl rfl rfl ?_
  refine zr_zne rfl hwI (fun h => mem (by omega)) (fun h => ?_)
  repeat refine zr_s rfl rfl rfl ?_
  refine zr_zlt rfl hk (fun h2 => mem (by omega)) (fun h2 => ?_)
  repeat refine zr_s rfl rfl rfl ?_
  refine zr_ige rfl hk (by decide) (fun h3 => mem (by omega)) (fun h3 => ?_)
  rw [if_pos ⟨h, h2, h3⟩]
  obtain ⟨a, rfl⟩ := Int.eq_ofNat_of_zero_le h2
  rw [Int.toNat_natCast]
  repeat refine zr_s rfl rfl rfl ?_
  refine zr_ald (a) rfl rfl rfl (by omega) (by decide) ?_
  rw [g8 a (by omega)]
  exact zr_ret rfl (⟨rfl, hA, zFM_rf⟩)
theorem zio_I {P : zP} (hw : zWf P) {ord : Nat → Nat} (ho : ∀ k, k < pn P → ord k < pn P) {i : Nat} (hi : i < pn P) : -3 ≤ (zio P ord (pn P)).1 i ∧ (zio P ord (pn P)).1 i ≤ 1000 := by
  have h60 := hw.1
  obtain ⟨z1, z2, z3, z4, z5⟩ := zio_ok hw ho (pn P) (Nat.le_refl _)
  have := z5 i hi
  omega
theorem sp_M_length {w : Int} (hA : zMS M A) (hwI : zI w) : zf (zSh L) 7 kX8_length [zvr 34, zvi w] M (fun v M1 => v = some (.inl (zs_length A w)) ∧ zMS M1 A ∧ zFM M M1) := by
  have hw := hA.1.2.1
  have h60 := hw.1
  refine zf_of rfl (Nat.le_of_ble_eq_true rfl) ?_
  repeat refine zr_s rfl rfl rfl ?_
  refine zr_c rfl rfl rfl (zf_mono (Nat.le_of_ble_eq_true rfl) (sp_workS hA)) (fun v M1 hv => ?_)
  obtain ⟨rfl, h9, hA1, hF⟩ := hv
  have hB := hA1.1.1
  obtain ⟨k1, k2, k3, k4, k5, k6, k7, k8, k9⟩ := hA1.1.2.2.2 h9
  unfold zs_length
  repeat refine zr_s rfl rfl rfl ?_
  by_cases hr : 0 ≤ w ∧ w ≤ 7
  rotate_left
  · refine zr_tabOut rfl hwI (by omega) ?_
    repeat refine zr_s rfl rfl rfl ?_
    refine zr_ret rfl ?_
    rw [if_neg (by omega), if_neg (by omega), if_neg (by omega), if_neg (by omega), if_neg (by omega), if_neg (by omega), if_neg (by omega), if_neg (by omega)]
    exact ⟨rfl, hA1, hF⟩
  have hc : w = 0 ∨ w = 1 ∨ w = 2 ∨ w = 3 ∨ w = 4 ∨ w = 5 ∨ w = 6 ∨ w = 7 := by omega
  rcases hc with rfl | rfl | rfl | rfl | rfl | rfl | rfl | rfl
  · refine zr_tabIn 47 rfl hwI (by decide) (by decide) rfl ?_
    repeat refine zr_s rfl rfl rfl ?_
    refine zr_cr rfl rfl rfl (zf_mono (Nat.le_of_ble_eq_true rfl) (sp_M_greatestWay hB hw k2 (fun i hi => zway_I hw k9 hi))) ?_
    exact zr_ret rfl (⟨rfl, hA1, hF⟩)
  · refine zr_tabIn 52 rfl hwI (by decide) (by decide) rfl ?_
    repeat refine zr_s rfl rfl rfl ?_
    refine zr_cr rfl rfl rfl (zf_mono (Nat.le_of_ble_eq_true rfl) (sp_M_lengthOf (c := 44) hB hw rfl (fun i hi => by rw [k4 i hi]; have := zcycI hw (zway A.1) i hi; omega))) ?_
    rw [zlen_congr _ k4]
    exact zr_ret rfl (⟨rfl, hA1, hF⟩)
  · refine zr_tabIn 61 rfl hwI (by decide) (by decide) rfl ?_
    repeat refine zr_s rfl rfl rfl ?_
    refine zr_cr rfl rfl rfl (zf_mono (Nat.le_of_ble_eq_true rfl) (sp_M_lengthOf (c := 46) hB hw rfl (fun i hi => by rw [k6 i hi]; have := zio_I hw (ord := fun k => k) (fun k hk => hk) hi; omega))) ?_
    rw [zlen_congr _ k6]
    exact zr_ret rfl (⟨rfl, hA1, hF⟩)
  · refine zr_tabIn 70 rfl hwI (by decide) (by decide) rfl ?_
    repeat refine zr_s rfl rfl rfl ?_
    refine zr_cr rfl rfl rfl (zf_mono (Nat.le_of_ble_eq_true rfl) (sp_M_lengthOf (c := 47) hB hw rfl (fun i hi => by rw [k7 i hi]; have := zio_I hw (ord := zod A.1 (zway A.1)) (fun k hk => ((zod_P hw (zway A.1)).1 k hk).2) hi; omega))) ?_
    rw [zlen_congr _ k7]
    exact zr_ret rfl (⟨rfl, hA1, hF⟩)
  · refine zr_tabIn 79 rfl hwI (by decide) (by decide) rfl ?_
    repeat refine zr_s rfl rfl rfl ?_
    rw [k8]
    exact zr_ret rfl (⟨rfl, hA1, hF⟩)
  · refine zr_tabIn 84 rfl hwI (by decide) (by decide) rfl ?_
    repeat refine zr_s rfl rfl rfl ?_
    refine zr_c rfl rfl rfl (zf_mono (Nat.le_of_ble_eq_true rfl) (sp_lookF hA1 h9)) (fun v M2 hv => ?_)
    obtain ⟨rfl, e2, q1, q2, -⟩ := hv
    have e2 := e2.symm
    subst e2
    refine zr_zle rfl (by omega) (fun h => ?_) (fun h => ?_)
    · repeat refine zr_s rfl rfl rfl ?_
      refine zr_cr rfl rfl rfl (zf_mono (Nat.le_of_ble_eq_true rfl) (sp_M_lengthOf (c := 48) hB hw rfl (fun i hi => by have := hA1.2.2.1 i hi; omega))) ?_
      refine zr_ret rfl ?_
      show (some (Sum.inl _) : Option zV) = some (Sum.inl (if (zver A.1 A.2.1).1 = 0 then zlen A.1 A.2.1 (pn A.1) else (-3 : Int))) ∧ _
      rw [if_pos (by omega), zlen_congr _ hA1.2.1]
      exact ⟨rfl, hA1, hF⟩
    · repeat refine zr_s rfl rfl rfl ?_
      refine zr_ret rfl ?_
      show (some (Sum.inl (-3)) : Option zV) = some (Sum.inl (if (zver A.1 A.2.1).1 = 0 then _ else (-3 : Int))) ∧ _
      rw [if_neg (by omega)]
      exact ⟨rfl, hA1, hF⟩
  · refine zr_tabIn 106 rfl hwI (by decide) (by decide) rfl ?_
    repeat refine zr_s rfl rfl rfl ?_
    rw [hB.1]
    exact zr_ret rfl (⟨rfl, hA1, hF⟩)
  · refine zr_tabIn 111 rfl hwI (by decide) (by decide) rfl ?_
    repeat refine zr_s rfl rfl rfl ?_
    refine zr_cr rfl rfl rfl (zf_mono (Nat.le_of_ble_eq_true rfl) (sp_M_dependences hB hw k1)) ?_
    exact zr_ret rfl (⟨rfl, hA1, hF⟩)
end ZX
end
