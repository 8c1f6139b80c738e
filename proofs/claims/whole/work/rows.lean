section
/-- a private method of a class that the tables say can be made, by its rows of tables_1 -/
def lw_okq (q : MethodName × Nat) : Prop := (q.1.cls ≠ "java/lang/invoke/MethodHandle" ∧ q.1.cls ≠ "java/lang/invoke/VarHandle") ∧ Cond.instantiable q.1.cls q.2 ∈ tables_1 ∧ Cond.privateMethod q.1 ∈ tables_1 ∧ Cond.instanceMethod q.1 ∈ tables_1
theorem lw_p0 : lw_okq (⟨"PeriodGates", "isEdge", "(I)Z"⟩, 12) := ⟨⟨by decide +kernel, by decide +kernel⟩, List.mem_of_getElem? (i := 15) (by decide +kernel), List.mem_of_getElem? (i := 264) (by decide +kernel), List.mem_of_getElem? (i := 265) (by decide +kernel)⟩
theorem lw_p1 : lw_okq (⟨"PeriodGates", "isBin", "(I)Z"⟩, 12) := ⟨⟨by decide +kernel, by decide +kernel⟩, List.mem_of_getElem? (i := 15) (by decide +kernel), List.mem_of_getElem? (i := 321) (by decide +kernel), List.mem_of_getElem? (i := 322) (by decide +kernel)⟩
theorem lw_p2 : lw_okq (⟨"PeriodGates", "modeReads", "(Ljava/lang/String;)Z"⟩, 12) := ⟨⟨by decide +kernel, by decide +kernel⟩, List.mem_of_getElem? (i := 15) (by decide +kernel), List.mem_of_getElem? (i := 376) (by decide +kernel), List.mem_of_getElem? (i := 377) (by decide +kernel)⟩
theorem lw_p3 : lw_okq (⟨"PeriodGates", "renew", "()V"⟩, 12) := ⟨⟨by decide +kernel, by decide +kernel⟩, List.mem_of_getElem? (i := 15) (by decide +kernel), List.mem_of_getElem? (i := 442) (by decide +kernel), List.mem_of_getElem? (i := 443) (by decide +kernel)⟩
theorem lw_p4 : lw_okq (⟨"PeriodGates$Reading", "medianGap", "()J"⟩, 10) := ⟨⟨by decide +kernel, by decide +kernel⟩, List.mem_of_getElem? (i := 93) (by decide +kernel), List.mem_of_getElem? (i := 473) (by decide +kernel), List.mem_of_getElem? (i := 474) (by decide +kernel)⟩
theorem lw_p5 : lw_okq (⟨"PeriodGates$Reading", "gapBehind", "(I)J"⟩, 10) := ⟨⟨by decide +kernel, by decide +kernel⟩, List.mem_of_getElem? (i := 93) (by decide +kernel), List.mem_of_getElem? (i := 477) (by decide +kernel), List.mem_of_getElem? (i := 478) (by decide +kernel)⟩
theorem lw_p6 : lw_okq (⟨"PeriodGates$Reading", "judgeGap", "(I)V"⟩, 10) := ⟨⟨by decide +kernel, by decide +kernel⟩, List.mem_of_getElem? (i := 93) (by decide +kernel), List.mem_of_getElem? (i := 481) (by decide +kernel), List.mem_of_getElem? (i := 482) (by decide +kernel)⟩
theorem lw_p7 : lw_okq (⟨"PeriodGates$Spans", "placeByRank", "(I)V"⟩, 4) := ⟨⟨by decide +kernel, by decide +kernel⟩, List.mem_of_getElem? (i := 142) (by decide +kernel), List.mem_of_getElem? (i := 512) (by decide +kernel), List.mem_of_getElem? (i := 513) (by decide +kernel)⟩
theorem lw_p8 : lw_okq (⟨"PeriodGates$Spans", "isSteadier", "(II)Z"⟩, 4) := ⟨⟨by decide +kernel, by decide +kernel⟩, List.mem_of_getElem? (i := 142) (by decide +kernel), List.mem_of_getElem? (i := 516) (by decide +kernel), List.mem_of_getElem? (i := 517) (by decide +kernel)⟩
theorem lw_p9 : lw_okq (⟨"PeriodGates", "leastBound", "(I)I"⟩, 12) := ⟨⟨by decide +kernel, by decide +kernel⟩, List.mem_of_getElem? (i := 15) (by decide +kernel), List.mem_of_getElem? (i := 522) (by decide +kernel), List.mem_of_getElem? (i := 523) (by decide +kernel)⟩
theorem lw_p10 : lw_okq (⟨"PeriodGates", "greatestBound", "(I)I"⟩, 12) := ⟨⟨by decide +kernel, by decide +kernel⟩, List.mem_of_getElem? (i := 15) (by decide +kernel), List.mem_of_getElem? (i := 526) (by decide +kernel), List.mem_of_getElem? (i := 527) (by decide +kernel)⟩
theorem lw_p11 : lw_okq (⟨"PeriodGates", "isLastEdge", "(I)Z"⟩, 12) := ⟨⟨by decide +kernel, by decide +kernel⟩, List.mem_of_getElem? (i := 15) (by decide +kernel), List.mem_of_getElem? (i := 531) (by decide +kernel), List.mem_of_getElem? (i := 532) (by decide +kernel)⟩
theorem lw_p12 : lw_okq (⟨"PeriodGates", "isGate", "(I)Z"⟩, 12) := ⟨⟨by decide +kernel, by decide +kernel⟩, List.mem_of_getElem? (i := 15) (by decide +kernel), List.mem_of_getElem? (i := 559) (by decide +kernel), List.mem_of_getElem? (i := 560) (by decide +kernel)⟩
theorem lw_p13 : lw_okq (⟨"PeriodGates", "lengthBetween", "(III)J"⟩, 12) := ⟨⟨by decide +kernel, by decide +kernel⟩, List.mem_of_getElem? (i := 15) (by decide +kernel), List.mem_of_getElem? (i := 571) (by decide +kernel), List.mem_of_getElem? (i := 572) (by decide +kernel)⟩
theorem lw_p14 : lw_okq (⟨"PeriodGates$Gates", "closesAhead", "(II)Z"⟩, 5) := ⟨⟨by decide +kernel, by decide +kernel⟩, List.mem_of_getElem? (i := 68) (by decide +kernel), List.mem_of_getElem? (i := 583) (by decide +kernel), List.mem_of_getElem? (i := 584) (by decide +kernel)⟩
theorem lw_p15 : lw_okq (⟨"PeriodGates", "isEdgePair", "(II)Z"⟩, 12) := ⟨⟨by decide +kernel, by decide +kernel⟩, List.mem_of_getElem? (i := 15) (by decide +kernel), List.mem_of_getElem? (i := 595) (by decide +kernel), List.mem_of_getElem? (i := 596) (by decide +kernel)⟩
def lw_privs_1 : List (MethodName × Nat) := [(⟨"PeriodGates", "isEdge", "(I)Z"⟩, 12), (⟨"PeriodGates", "isBin", "(I)Z"⟩, 12), (⟨"PeriodGates", "modeReads", "(Ljava/lang/String;)Z"⟩, 12), (⟨"PeriodGates", "renew", "()V"⟩, 12), (⟨"PeriodGates$Reading", "medianGap", "()J"⟩, 10), (⟨"PeriodGates$Reading", "gapBehind", "(I)J"⟩, 10), (⟨"PeriodGates$Reading", "judgeGap", "(I)V"⟩, 10), (⟨"PeriodGates$Spans", "placeByRank", "(I)V"⟩, 4), (⟨"PeriodGates$Spans", "isSteadier", "(II)Z"⟩, 4), (⟨"PeriodGates", "leastBound", "(I)I"⟩, 12), (⟨"PeriodGates", "greatestBound", "(I)I"⟩, 12), (⟨"PeriodGates", "isLastEdge", "(I)Z"⟩, 12), (⟨"PeriodGates", "isGate", "(I)Z"⟩, 12), (⟨"PeriodGates", "lengthBetween", "(III)J"⟩, 12), (⟨"PeriodGates$Gates", "closesAhead", "(II)Z"⟩, 5), (⟨"PeriodGates", "isEdgePair", "(II)Z"⟩, 12)]
theorem lw_r1 : ∀ q ∈ lw_privs_1, lw_okq q := List.forall_mem_cons.mpr ⟨lw_p0, List.forall_mem_cons.mpr ⟨lw_p1, List.forall_mem_cons.mpr ⟨lw_p2, List.forall_mem_cons.mpr ⟨lw_p3, List.forall_mem_cons.mpr ⟨lw_p4, List.forall_mem_cons.mpr ⟨lw_p5, List.forall_mem_cons.mpr ⟨lw_p6, List.forall_mem_cons.mpr ⟨lw_p7, List.forall_mem_cons.mpr ⟨lw_p8, List.forall_mem_cons.mpr ⟨lw_p9, List.forall_mem_cons.mpr ⟨lw_p10, List.forall_mem_cons.mpr ⟨lw_p11, List.forall_mem_cons.mpr ⟨lw_p12, List.forall_mem_cons.mpr ⟨lw_p13, List.forall_mem_cons.mpr ⟨lw_p14, List.forall_mem_cons.mpr ⟨lw_p15, fun _ h => absurd h List.not_mem_nil⟩⟩⟩⟩⟩⟩⟩⟩⟩⟩⟩⟩⟩⟩⟩⟩
theorem lw_p16 : lw_okq (⟨"PeriodGates", "finding", "(I)I"⟩, 12) := ⟨⟨by decide +kernel, by decide +kernel⟩, List.mem_of_getElem? (i := 15) (by decide +kernel), List.mem_of_getElem? (i := 653) (by decide +kernel), List.mem_of_getElem? (i := 654) (by decide +kernel)⟩
theorem lw_p17 : lw_okq (⟨"PeriodGates", "mixBins", "(J)J"⟩, 12) := ⟨⟨by decide +kernel, by decide +kernel⟩, List.mem_of_getElem? (i := 15) (by decide +kernel), List.mem_of_getElem? (i := 747) (by decide +kernel), List.mem_of_getElem? (i := 748) (by decide +kernel)⟩
theorem lw_p18 : lw_okq (⟨"PeriodGates", "mixEdges", "(J)J"⟩, 12) := ⟨⟨by decide +kernel, by decide +kernel⟩, List.mem_of_getElem? (i := 15) (by decide +kernel), List.mem_of_getElem? (i := 754) (by decide +kernel), List.mem_of_getElem? (i := 755) (by decide +kernel)⟩
theorem lw_p19 : lw_okq (⟨"PeriodGates", "mixGates", "(J)J"⟩, 12) := ⟨⟨by decide +kernel, by decide +kernel⟩, List.mem_of_getElem? (i := 15) (by decide +kernel), List.mem_of_getElem? (i := 761) (by decide +kernel), List.mem_of_getElem? (i := 762) (by decide +kernel)⟩
theorem lw_p20 : lw_okq (⟨"PeriodGates", "mixChains", "(J)J"⟩, 12) := ⟨⟨by decide +kernel, by decide +kernel⟩, List.mem_of_getElem? (i := 15) (by decide +kernel), List.mem_of_getElem? (i := 768) (by decide +kernel), List.mem_of_getElem? (i := 769) (by decide +kernel)⟩
theorem lw_p21 : lw_okq (⟨"PeriodGates", "mixFit", "(J)J"⟩, 12) := ⟨⟨by decide +kernel, by decide +kernel⟩, List.mem_of_getElem? (i := 15) (by decide +kernel), List.mem_of_getElem? (i := 773) (by decide +kernel), List.mem_of_getElem? (i := 774) (by decide +kernel)⟩
theorem lw_p22 : lw_okq (⟨"PeriodGates", "mixSpans", "(J)J"⟩, 12) := ⟨⟨by decide +kernel, by decide +kernel⟩, List.mem_of_getElem? (i := 15) (by decide +kernel), List.mem_of_getElem? (i := 780) (by decide +kernel), List.mem_of_getElem? (i := 781) (by decide +kernel)⟩
theorem lw_p23 : lw_okq (⟨"PeriodGatesModel", "learns", "()V"⟩, 33) := ⟨⟨by decide +kernel, by decide +kernel⟩, List.mem_of_getElem? (i := 785) (by decide +kernel), List.mem_of_getElem? (i := 791) (by decide +kernel), List.mem_of_getElem? (i := 792) (by decide +kernel)⟩
theorem lw_p24 : lw_okq (⟨"PeriodGatesModel", "adds", "(I)I"⟩, 33) := ⟨⟨by decide +kernel, by decide +kernel⟩, List.mem_of_getElem? (i := 785) (by decide +kernel), List.mem_of_getElem? (i := 899) (by decide +kernel), List.mem_of_getElem? (i := 900) (by decide +kernel)⟩
theorem lw_p25 : lw_okq (⟨"PeriodGatesModel", "placeFor", "(I)I"⟩, 33) := ⟨⟨by decide +kernel, by decide +kernel⟩, List.mem_of_getElem? (i := 785) (by decide +kernel), List.mem_of_getElem? (i := 906) (by decide +kernel), List.mem_of_getElem? (i := 907) (by decide +kernel)⟩
theorem lw_p26 : lw_okq (⟨"PeriodGatesModel", "isEdge", "(I)Z"⟩, 33) := ⟨⟨by decide +kernel, by decide +kernel⟩, List.mem_of_getElem? (i := 785) (by decide +kernel), List.mem_of_getElem? (i := 918) (by decide +kernel), List.mem_of_getElem? (i := 919) (by decide +kernel)⟩
theorem lw_p27 : lw_okq (⟨"PeriodGatesModel", "bins", "()I"⟩, 33) := ⟨⟨by decide +kernel, by decide +kernel⟩, List.mem_of_getElem? (i := 785) (by decide +kernel), List.mem_of_getElem? (i := 930) (by decide +kernel), List.mem_of_getElem? (i := 931) (by decide +kernel)⟩
theorem lw_p28 : lw_okq (⟨"PeriodGatesModel", "forgets", "()I"⟩, 33) := ⟨⟨by decide +kernel, by decide +kernel⟩, List.mem_of_getElem? (i := 785) (by decide +kernel), List.mem_of_getElem? (i := 934) (by decide +kernel), List.mem_of_getElem? (i := 935) (by decide +kernel)⟩
theorem lw_p29 : lw_okq (⟨"PeriodGatesModel", "allHits", "()I"⟩, 33) := ⟨⟨by decide +kernel, by decide +kernel⟩, List.mem_of_getElem? (i := 785) (by decide +kernel), List.mem_of_getElem? (i := 938) (by decide +kernel), List.mem_of_getElem? (i := 939) (by decide +kernel)⟩
theorem lw_p30 : lw_okq (⟨"PeriodGatesModel", "codeOf", "(I)I"⟩, 33) := ⟨⟨by decide +kernel, by decide +kernel⟩, List.mem_of_getElem? (i := 785) (by decide +kernel), List.mem_of_getElem? (i := 946) (by decide +kernel), List.mem_of_getElem? (i := 947) (by decide +kernel)⟩
theorem lw_p31 : lw_okq (⟨"PeriodGatesModel", "isBin", "(I)Z"⟩, 33) := ⟨⟨by decide +kernel, by decide +kernel⟩, List.mem_of_getElem? (i := 785) (by decide +kernel), List.mem_of_getElem? (i := 962) (by decide +kernel), List.mem_of_getElem? (i := 963) (by decide +kernel)⟩
def lw_privs_2 : List (MethodName × Nat) := [(⟨"PeriodGates", "finding", "(I)I"⟩, 12), (⟨"PeriodGates", "mixBins", "(J)J"⟩, 12), (⟨"PeriodGates", "mixEdges", "(J)J"⟩, 12), (⟨"PeriodGates", "mixGates", "(J)J"⟩, 12), (⟨"PeriodGates", "mixChains", "(J)J"⟩, 12), (⟨"PeriodGates", "mixFit", "(J)J"⟩, 12), (⟨"PeriodGates", "mixSpans", "(J)J"⟩, 12), (⟨"PeriodGatesModel", "learns", "()V"⟩, 33), (⟨"PeriodGatesModel", "adds", "(I)I"⟩, 33), (⟨"PeriodGatesModel", "placeFor", "(I)I"⟩, 33), (⟨"PeriodGatesModel", "isEdge", "(I)Z"⟩, 33), (⟨"PeriodGatesModel", "bins", "()I"⟩, 33), (⟨"PeriodGatesModel", "forgets", "()I"⟩, 33), (⟨"PeriodGatesModel", "allHits", "()I"⟩, 33), (⟨"PeriodGatesModel", "codeOf", "(I)I"⟩, 33), (⟨"PeriodGatesModel", "isBin", "(I)Z"⟩, 33)]
theorem lw_r2 : ∀ q ∈ lw_privs_2, lw_okq q := List.forall_mem_cons.mpr ⟨lw_p16, List.forall_mem_cons.mpr ⟨lw_p17, List.forall_mem_cons.mpr ⟨lw_p18, List.forall_mem_cons.mpr ⟨lw_p19, List.forall_mem_cons.mpr ⟨lw_p20, List.forall_mem_cons.mpr ⟨lw_p21, List.forall_mem_cons.mpr ⟨lw_p22, List.forall_mem_cons.mpr ⟨lw_p23, List.forall_mem_cons.mpr ⟨lw_p24, List.forall_mem_cons.mpr ⟨lw_p25, List.forall_mem_cons.mpr ⟨lw_p26, List.forall_mem_cons.mpr ⟨lw_p27, List.forall_mem_cons.mpr ⟨lw_p28, List.forall_mem_cons.mpr ⟨lw_p29, List.forall_mem_cons.mpr ⟨lw_p30, List.forall_mem_cons.mpr ⟨lw_p31, fun _ h => absurd h List.not_mem_nil⟩⟩⟩⟩⟩⟩⟩⟩⟩⟩⟩⟩⟩⟩⟩⟩
theorem lw_p32 : lw_okq (⟨"PeriodGatesModel", "binOf", "(II)I"⟩, 33) := ⟨⟨by decide +kernel, by decide +kernel⟩, List.mem_of_getElem? (i := 785) (by decide +kernel), List.mem_of_getElem? (i := 966) (by decide +kernel), List.mem_of_getElem? (i := 967) (by decide +kernel)⟩
theorem lw_p33 : lw_okq (⟨"PeriodGatesModel", "firstOf", "(I)I"⟩, 33) := ⟨⟨by decide +kernel, by decide +kernel⟩, List.mem_of_getElem? (i := 785) (by decide +kernel), List.mem_of_getElem? (i := 970) (by decide +kernel), List.mem_of_getElem? (i := 971) (by decide +kernel)⟩
theorem lw_p34 : lw_okq (⟨"PeriodGatesModel", "widthOf", "(I)I"⟩, 33) := ⟨⟨by decide +kernel, by decide +kernel⟩, List.mem_of_getElem? (i := 785) (by decide +kernel), List.mem_of_getElem? (i := 974) (by decide +kernel), List.mem_of_getElem? (i := 975) (by decide +kernel)⟩
theorem lw_p35 : lw_okq (⟨"PeriodGatesModel", "denseOf", "(II)J"⟩, 33) := ⟨⟨by decide +kernel, by decide +kernel⟩, List.mem_of_getElem? (i := 785) (by decide +kernel), List.mem_of_getElem? (i := 982) (by decide +kernel), List.mem_of_getElem? (i := 983) (by decide +kernel)⟩
theorem lw_p36 : lw_okq (⟨"PeriodGatesModel", "worstNow", "()I"⟩, 33) := ⟨⟨by decide +kernel, by decide +kernel⟩, List.mem_of_getElem? (i := 785) (by decide +kernel), List.mem_of_getElem? (i := 998) (by decide +kernel), List.mem_of_getElem? (i := 999) (by decide +kernel)⟩
theorem lw_p37 : lw_okq (⟨"PeriodGatesModel", "modeNow", "()I"⟩, 33) := ⟨⟨by decide +kernel, by decide +kernel⟩, List.mem_of_getElem? (i := 785) (by decide +kernel), List.mem_of_getElem? (i := 1014) (by decide +kernel), List.mem_of_getElem? (i := 1015) (by decide +kernel)⟩
theorem lw_p38 : lw_okq (⟨"PeriodGatesModel", "isTyped", "(IIIII)Z"⟩, 33) := ⟨⟨by decide +kernel, by decide +kernel⟩, List.mem_of_getElem? (i := 785) (by decide +kernel), List.mem_of_getElem? (i := 1018) (by decide +kernel), List.mem_of_getElem? (i := 1019) (by decide +kernel)⟩
theorem lw_p39 : lw_okq (⟨"PeriodGatesModel", "seenOf", "(II)I"⟩, 33) := ⟨⟨by decide +kernel, by decide +kernel⟩, List.mem_of_getElem? (i := 785) (by decide +kernel), List.mem_of_getElem? (i := 1034) (by decide +kernel), List.mem_of_getElem? (i := 1035) (by decide +kernel)⟩
theorem lw_p40 : lw_okq (⟨"PeriodGatesModel", "finds", "()V"⟩, 33) := ⟨⟨by decide +kernel, by decide +kernel⟩, List.mem_of_getElem? (i := 785) (by decide +kernel), List.mem_of_getElem? (i := 1038) (by decide +kernel), List.mem_of_getElem? (i := 1039) (by decide +kernel)⟩
theorem lw_p41 : lw_okq (⟨"PeriodGatesModel", "partBy", "(II)J"⟩, 33) := ⟨⟨by decide +kernel, by decide +kernel⟩, List.mem_of_getElem? (i := 785) (by decide +kernel), List.mem_of_getElem? (i := 1043) (by decide +kernel), List.mem_of_getElem? (i := 1044) (by decide +kernel)⟩
theorem lw_p42 : lw_okq (⟨"PeriodGatesModel", "findsGaps", "()V"⟩, 33) := ⟨⟨by decide +kernel, by decide +kernel⟩, List.mem_of_getElem? (i := 785) (by decide +kernel), List.mem_of_getElem? (i := 1048) (by decide +kernel), List.mem_of_getElem? (i := 1049) (by decide +kernel)⟩
theorem lw_p43 : lw_okq (⟨"PeriodGatesModel", "boundOf", "(IZ)I"⟩, 33) := ⟨⟨by decide +kernel, by decide +kernel⟩, List.mem_of_getElem? (i := 785) (by decide +kernel), List.mem_of_getElem? (i := 1053) (by decide +kernel), List.mem_of_getElem? (i := 1054) (by decide +kernel)⟩
theorem lw_p44 : lw_okq (⟨"PeriodGatesModel", "stampOf", "(II)J"⟩, 33) := ⟨⟨by decide +kernel, by decide +kernel⟩, List.mem_of_getElem? (i := 785) (by decide +kernel), List.mem_of_getElem? (i := 1061) (by decide +kernel), List.mem_of_getElem? (i := 1062) (by decide +kernel)⟩
theorem lw_p45 : lw_okq (⟨"PeriodGatesModel", "referenceOf", "(I)J"⟩, 33) := ⟨⟨by decide +kernel, by decide +kernel⟩, List.mem_of_getElem? (i := 785) (by decide +kernel), List.mem_of_getElem? (i := 1069) (by decide +kernel), List.mem_of_getElem? (i := 1070) (by decide +kernel)⟩
theorem lw_p46 : lw_okq (⟨"PeriodGatesModel", "isGate", "(I)Z"⟩, 33) := ⟨⟨by decide +kernel, by decide +kernel⟩, List.mem_of_getElem? (i := 785) (by decide +kernel), List.mem_of_getElem? (i := 1085) (by decide +kernel), List.mem_of_getElem? (i := 1086) (by decide +kernel)⟩
theorem lw_p47 : lw_okq (⟨"PeriodGatesModel", "whereOf", "(II)I"⟩, 33) := ⟨⟨by decide +kernel, by decide +kernel⟩, List.mem_of_getElem? (i := 785) (by decide +kernel), List.mem_of_getElem? (i := 1089) (by decide +kernel), List.mem_of_getElem? (i := 1090) (by decide +kernel)⟩
def lw_privs_3 : List (MethodName × Nat) := [(⟨"PeriodGatesModel", "binOf", "(II)I"⟩, 33), (⟨"PeriodGatesModel", "firstOf", "(I)I"⟩, 33), (⟨"PeriodGatesModel", "widthOf", "(I)I"⟩, 33), (⟨"PeriodGatesModel", "denseOf", "(II)J"⟩, 33), (⟨"PeriodGatesModel", "worstNow", "()I"⟩, 33), (⟨"PeriodGatesModel", "modeNow", "()I"⟩, 33), (⟨"PeriodGatesModel", "isTyped", "(IIIII)Z"⟩, 33), (⟨"PeriodGatesModel", "seenOf", "(II)I"⟩, 33), (⟨"PeriodGatesModel", "finds", "()V"⟩, 33), (⟨"PeriodGatesModel", "partBy", "(II)J"⟩, 33), (⟨"PeriodGatesModel", "findsGaps", "()V"⟩, 33), (⟨"PeriodGatesModel", "boundOf", "(IZ)I"⟩, 33), (⟨"PeriodGatesModel", "stampOf", "(II)J"⟩, 33), (⟨"PeriodGatesModel", "referenceOf", "(I)J"⟩, 33), (⟨"PeriodGatesModel", "isGate", "(I)Z"⟩, 33), (⟨"PeriodGatesModel", "whereOf", "(II)I"⟩, 33)]
theorem lw_r3 : ∀ q ∈ lw_privs_3, lw_okq q := List.forall_mem_cons.mpr ⟨lw_p32, List.forall_mem_cons.mpr ⟨lw_p33, List.forall_mem_cons.mpr ⟨lw_p34, List.forall_mem_cons.mpr ⟨lw_p35, List.forall_mem_cons.mpr ⟨lw_p36, List.forall_mem_cons.mpr ⟨lw_p37, List.forall_mem_cons.mpr ⟨lw_p38, List.forall_mem_cons.mpr ⟨lw_p39, List.forall_mem_cons.mpr ⟨lw_p40, List.forall_mem_cons.mpr ⟨lw_p41, List.forall_mem_cons.mpr ⟨lw_p42, List.forall_mem_cons.mpr ⟨lw_p43, List.forall_mem_cons.mpr ⟨lw_p44, List.forall_mem_cons.mpr ⟨lw_p45, List.forall_mem_cons.mpr ⟨lw_p46, List.forall_mem_cons.mpr ⟨lw_p47, fun _ h => absurd h List.not_mem_nil⟩⟩⟩⟩⟩⟩⟩⟩⟩⟩⟩⟩⟩⟩⟩⟩
theorem lw_p48 : lw_okq (⟨"PeriodGatesModel", "opens", "(I)I"⟩, 33) := ⟨⟨by decide +kernel, by decide +kernel⟩, List.mem_of_getElem? (i := 785) (by decide +kernel), List.mem_of_getElem? (i := 1093) (by decide +kernel), List.mem_of_getElem? (i := 1094) (by decide +kernel)⟩
theorem lw_p49 : lw_okq (⟨"PeriodGatesModel", "closes", "(I)I"⟩, 33) := ⟨⟨by decide +kernel, by decide +kernel⟩, List.mem_of_getElem? (i := 785) (by decide +kernel), List.mem_of_getElem? (i := 1097) (by decide +kernel), List.mem_of_getElem? (i := 1098) (by decide +kernel)⟩
theorem lw_p50 : lw_okq (⟨"PeriodGatesModel", "periodsOf", "(I)I"⟩, 33) := ⟨⟨by decide +kernel, by decide +kernel⟩, List.mem_of_getElem? (i := 785) (by decide +kernel), List.mem_of_getElem? (i := 1101) (by decide +kernel), List.mem_of_getElem? (i := 1102) (by decide +kernel)⟩
theorem lw_p51 : lw_okq (⟨"PeriodGatesModel", "frequencyOf", "(III)J"⟩, 33) := ⟨⟨by decide +kernel, by decide +kernel⟩, List.mem_of_getElem? (i := 785) (by decide +kernel), List.mem_of_getElem? (i := 1109) (by decide +kernel), List.mem_of_getElem? (i := 1110) (by decide +kernel)⟩
theorem lw_p52 : lw_okq (⟨"PeriodGatesModel", "closingOf", "(I)I"⟩, 33) := ⟨⟨by decide +kernel, by decide +kernel⟩, List.mem_of_getElem? (i := 785) (by decide +kernel), List.mem_of_getElem? (i := 1117) (by decide +kernel), List.mem_of_getElem? (i := 1118) (by decide +kernel)⟩
theorem lw_p53 : lw_okq (⟨"PeriodGatesModel", "isAhead", "(II)Z"⟩, 33) := ⟨⟨by decide +kernel, by decide +kernel⟩, List.mem_of_getElem? (i := 785) (by decide +kernel), List.mem_of_getElem? (i := 1121) (by decide +kernel), List.mem_of_getElem? (i := 1122) (by decide +kernel)⟩
theorem lw_p54 : lw_okq (⟨"PeriodGatesModel", "chainOf", "(III)I"⟩, 33) := ⟨⟨by decide +kernel, by decide +kernel⟩, List.mem_of_getElem? (i := 785) (by decide +kernel), List.mem_of_getElem? (i := 1129) (by decide +kernel), List.mem_of_getElem? (i := 1130) (by decide +kernel)⟩
theorem lw_p55 : lw_okq (⟨"PeriodGatesModel", "nextBy", "(II)I"⟩, 33) := ⟨⟨by decide +kernel, by decide +kernel⟩, List.mem_of_getElem? (i := 785) (by decide +kernel), List.mem_of_getElem? (i := 1133) (by decide +kernel), List.mem_of_getElem? (i := 1134) (by decide +kernel)⟩
theorem lw_p56 : lw_okq (⟨"PeriodGatesModel", "isFit", "(II)Z"⟩, 33) := ⟨⟨by decide +kernel, by decide +kernel⟩, List.mem_of_getElem? (i := 785) (by decide +kernel), List.mem_of_getElem? (i := 1141) (by decide +kernel), List.mem_of_getElem? (i := 1142) (by decide +kernel)⟩
theorem lw_p57 : lw_okq (⟨"PeriodGatesModel", "fitOf", "(III)J"⟩, 33) := ⟨⟨by decide +kernel, by decide +kernel⟩, List.mem_of_getElem? (i := 785) (by decide +kernel), List.mem_of_getElem? (i := 1145) (by decide +kernel), List.mem_of_getElem? (i := 1146) (by decide +kernel)⟩
theorem lw_p58 : lw_okq (⟨"PeriodGatesModel", "sums", "(II)V"⟩, 33) := ⟨⟨by decide +kernel, by decide +kernel⟩, List.mem_of_getElem? (i := 785) (by decide +kernel), List.mem_of_getElem? (i := 1149) (by decide +kernel), List.mem_of_getElem? (i := 1150) (by decide +kernel)⟩
theorem lw_p59 : lw_okq (⟨"PeriodGatesModel", "offOf", "(II)I"⟩, 33) := ⟨⟨by decide +kernel, by decide +kernel⟩, List.mem_of_getElem? (i := 785) (by decide +kernel), List.mem_of_getElem? (i := 1157) (by decide +kernel), List.mem_of_getElem? (i := 1158) (by decide +kernel)⟩
theorem lw_p60 : lw_okq (⟨"PeriodGatesModel", "varianceOf", "(II)J"⟩, 33) := ⟨⟨by decide +kernel, by decide +kernel⟩, List.mem_of_getElem? (i := 785) (by decide +kernel), List.mem_of_getElem? (i := 1173) (by decide +kernel), List.mem_of_getElem? (i := 1174) (by decide +kernel)⟩
theorem lw_p61 : lw_okq (⟨"PeriodGatesModel", "squaresAt", "(I)J"⟩, 33) := ⟨⟨by decide +kernel, by decide +kernel⟩, List.mem_of_getElem? (i := 785) (by decide +kernel), List.mem_of_getElem? (i := 1177) (by decide +kernel), List.mem_of_getElem? (i := 1178) (by decide +kernel)⟩
theorem lw_p62 : lw_okq (⟨"PeriodGatesModel", "weightAt", "(I)J"⟩, 33) := ⟨⟨by decide +kernel, by decide +kernel⟩, List.mem_of_getElem? (i := 785) (by decide +kernel), List.mem_of_getElem? (i := 1181) (by decide +kernel), List.mem_of_getElem? (i := 1182) (by decide +kernel)⟩
theorem lw_p63 : lw_okq (⟨"PeriodGatesModel", "rankOf", "(I)I"⟩, 33) := ⟨⟨by decide +kernel, by decide +kernel⟩, List.mem_of_getElem? (i := 785) (by decide +kernel), List.mem_of_getElem? (i := 1189) (by decide +kernel), List.mem_of_getElem? (i := 1190) (by decide +kernel)⟩
def lw_privs_4 : List (MethodName × Nat) := [(⟨"PeriodGatesModel", "opens", "(I)I"⟩, 33), (⟨"PeriodGatesModel", "closes", "(I)I"⟩, 33), (⟨"PeriodGatesModel", "periodsOf", "(I)I"⟩, 33), (⟨"PeriodGatesModel", "frequencyOf", "(III)J"⟩, 33), (⟨"PeriodGatesModel", "closingOf", "(I)I"⟩, 33), (⟨"PeriodGatesModel", "isAhead", "(II)Z"⟩, 33), (⟨"PeriodGatesModel", "chainOf", "(III)I"⟩, 33), (⟨"PeriodGatesModel", "nextBy", "(II)I"⟩, 33), (⟨"PeriodGatesModel", "isFit", "(II)Z"⟩, 33), (⟨"PeriodGatesModel", "fitOf", "(III)J"⟩, 33), (⟨"PeriodGatesModel", "sums", "(II)V"⟩, 33), (⟨"PeriodGatesModel", "offOf", "(II)I"⟩, 33), (⟨"PeriodGatesModel", "varianceOf", "(II)J"⟩, 33), (⟨"PeriodGatesModel", "squaresAt", "(I)J"⟩, 33), (⟨"PeriodGatesModel", "weightAt", "(I)J"⟩, 33), (⟨"PeriodGatesModel", "rankOf", "(I)I"⟩, 33)]
theorem lw_r4 : ∀ q ∈ lw_privs_4, lw_okq q := List.forall_mem_cons.mpr ⟨lw_p48, List.forall_mem_cons.mpr ⟨lw_p49, List.forall_mem_cons.mpr ⟨lw_p50, List.forall_mem_cons.mpr ⟨lw_p51, List.forall_mem_cons.mpr ⟨lw_p52, List.forall_mem_cons.mpr ⟨lw_p53, List.forall_mem_cons.mpr ⟨lw_p54, List.forall_mem_cons.mpr ⟨lw_p55, List.forall_mem_cons.mpr ⟨lw_p56, List.forall_mem_cons.mpr ⟨lw_p57, List.forall_mem_cons.mpr ⟨lw_p58, List.forall_mem_cons.mpr ⟨lw_p59, List.forall_mem_cons.mpr ⟨lw_p60, List.forall_mem_cons.mpr ⟨lw_p61, List.forall_mem_cons.mpr ⟨lw_p62, List.forall_mem_cons.mpr ⟨lw_p63, fun _ h => absurd h List.not_mem_nil⟩⟩⟩⟩⟩⟩⟩⟩⟩⟩⟩⟩⟩⟩⟩⟩
theorem lw_p64 : lw_okq (⟨"PeriodGatesModel", "ranked", "()I"⟩, 33) := ⟨⟨by decide +kernel, by decide +kernel⟩, List.mem_of_getElem? (i := 785) (by decide +kernel), List.mem_of_getElem? (i := 1193) (by decide +kernel), List.mem_of_getElem? (i := 1194) (by decide +kernel)⟩
theorem lw_p65 : lw_okq (⟨"PeriodGatesModel", "isLess", "(II)Z"⟩, 33) := ⟨⟨by decide +kernel, by decide +kernel⟩, List.mem_of_getElem? (i := 785) (by decide +kernel), List.mem_of_getElem? (i := 1197) (by decide +kernel), List.mem_of_getElem? (i := 1198) (by decide +kernel)⟩
theorem lw_p66 : lw_okq (⟨"PeriodGatesModel", "meets", "(I)I"⟩, 33) := ⟨⟨by decide +kernel, by decide +kernel⟩, List.mem_of_getElem? (i := 785) (by decide +kernel), List.mem_of_getElem? (i := 1208) (by decide +kernel), List.mem_of_getElem? (i := 1209) (by decide +kernel)⟩
theorem lw_p67 : lw_okq (⟨"PeriodGatesModel", "hasItem", "(II)Z"⟩, 33) := ⟨⟨by decide +kernel, by decide +kernel⟩, List.mem_of_getElem? (i := 785) (by decide +kernel), List.mem_of_getElem? (i := 1220) (by decide +kernel), List.mem_of_getElem? (i := 1221) (by decide +kernel)⟩
theorem lw_p68 : lw_okq (⟨"PeriodGatesModel", "keeps", "(ID)V"⟩, 33) := ⟨⟨by decide +kernel, by decide +kernel⟩, List.mem_of_getElem? (i := 785) (by decide +kernel), List.mem_of_getElem? (i := 1227) (by decide +kernel), List.mem_of_getElem? (i := 1228) (by decide +kernel)⟩
theorem lw_p69 : lw_okq (⟨"PeriodGatesModel", "itemOf", "(II)J"⟩, 33) := ⟨⟨by decide +kernel, by decide +kernel⟩, List.mem_of_getElem? (i := 785) (by decide +kernel), List.mem_of_getElem? (i := 1239) (by decide +kernel), List.mem_of_getElem? (i := 1240) (by decide +kernel)⟩
theorem lw_p70 : lw_okq (⟨"PeriodGatesModel", "foundOf", "(II)I"⟩, 33) := ⟨⟨by decide +kernel, by decide +kernel⟩, List.mem_of_getElem? (i := 785) (by decide +kernel), List.mem_of_getElem? (i := 1255) (by decide +kernel), List.mem_of_getElem? (i := 1256) (by decide +kernel)⟩
theorem lw_p71 : lw_okq (⟨"PeriodGatesModel", "lostNow", "()I"⟩, 33) := ⟨⟨by decide +kernel, by decide +kernel⟩, List.mem_of_getElem? (i := 785) (by decide +kernel), List.mem_of_getElem? (i := 1263) (by decide +kernel), List.mem_of_getElem? (i := 1264) (by decide +kernel)⟩
theorem lw_p72 : lw_okq (⟨"PeriodGatesModel", "breaksNow", "()I"⟩, 33) := ⟨⟨by decide +kernel, by decide +kernel⟩, List.mem_of_getElem? (i := 785) (by decide +kernel), List.mem_of_getElem? (i := 1267) (by decide +kernel), List.mem_of_getElem? (i := 1268) (by decide +kernel)⟩
theorem lw_p73 : lw_okq (⟨"PeriodGatesModel", "binDigest", "(JI)J"⟩, 33) := ⟨⟨by decide +kernel, by decide +kernel⟩, List.mem_of_getElem? (i := 785) (by decide +kernel), List.mem_of_getElem? (i := 1278) (by decide +kernel), List.mem_of_getElem? (i := 1279) (by decide +kernel)⟩
theorem lw_p74 : lw_okq (⟨"PeriodGatesModel", "edgeDigest", "(JI)J"⟩, 33) := ⟨⟨by decide +kernel, by decide +kernel⟩, List.mem_of_getElem? (i := 785) (by decide +kernel), List.mem_of_getElem? (i := 1282) (by decide +kernel), List.mem_of_getElem? (i := 1283) (by decide +kernel)⟩
theorem lw_p75 : lw_okq (⟨"PeriodGatesModel", "gateDigest", "(JI)J"⟩, 33) := ⟨⟨by decide +kernel, by decide +kernel⟩, List.mem_of_getElem? (i := 785) (by decide +kernel), List.mem_of_getElem? (i := 1286) (by decide +kernel), List.mem_of_getElem? (i := 1287) (by decide +kernel)⟩
theorem lw_p76 : lw_okq (⟨"PeriodGatesModel", "chainDigest", "(J)J"⟩, 33) := ⟨⟨by decide +kernel, by decide +kernel⟩, List.mem_of_getElem? (i := 785) (by decide +kernel), List.mem_of_getElem? (i := 1290) (by decide +kernel), List.mem_of_getElem? (i := 1291) (by decide +kernel)⟩
def lw_privs_5 : List (MethodName × Nat) := [(⟨"PeriodGatesModel", "ranked", "()I"⟩, 33), (⟨"PeriodGatesModel", "isLess", "(II)Z"⟩, 33), (⟨"PeriodGatesModel", "meets", "(I)I"⟩, 33), (⟨"PeriodGatesModel", "hasItem", "(II)Z"⟩, 33), (⟨"PeriodGatesModel", "keeps", "(ID)V"⟩, 33), (⟨"PeriodGatesModel", "itemOf", "(II)J"⟩, 33), (⟨"PeriodGatesModel", "foundOf", "(II)I"⟩, 33), (⟨"PeriodGatesModel", "lostNow", "()I"⟩, 33), (⟨"PeriodGatesModel", "breaksNow", "()I"⟩, 33), (⟨"PeriodGatesModel", "binDigest", "(JI)J"⟩, 33), (⟨"PeriodGatesModel", "edgeDigest", "(JI)J"⟩, 33), (⟨"PeriodGatesModel", "gateDigest", "(JI)J"⟩, 33), (⟨"PeriodGatesModel", "chainDigest", "(J)J"⟩, 33)]
theorem lw_r5 : ∀ q ∈ lw_privs_5, lw_okq q := List.forall_mem_cons.mpr ⟨lw_p64, List.forall_mem_cons.mpr ⟨lw_p65, List.forall_mem_cons.mpr ⟨lw_p66, List.forall_mem_cons.mpr ⟨lw_p67, List.forall_mem_cons.mpr ⟨lw_p68, List.forall_mem_cons.mpr ⟨lw_p69, List.forall_mem_cons.mpr ⟨lw_p70, List.forall_mem_cons.mpr ⟨lw_p71, List.forall_mem_cons.mpr ⟨lw_p72, List.forall_mem_cons.mpr ⟨lw_p73, List.forall_mem_cons.mpr ⟨lw_p74, List.forall_mem_cons.mpr ⟨lw_p75, List.forall_mem_cons.mpr ⟨lw_p76, fun _ h => absurd h List.not_mem_nil⟩⟩⟩⟩⟩⟩⟩⟩⟩⟩⟩⟩⟩
def lw_privs : List (MethodName × Nat) := lw_privs_1 ++ (lw_privs_2 ++ (lw_privs_3 ++ (lw_privs_4 ++ (lw_privs_5))))
def lw_tbl : List Cond := k2_sels lw_privs ++ tables_1
theorem lw_privs_ok : ∀ q ∈ lw_privs, lw_okq q := by
  show ∀ q ∈ lw_privs_1 ++ (lw_privs_2 ++ (lw_privs_3 ++ (lw_privs_4 ++ (lw_privs_5)))), lw_okq q
  exact List.forall_mem_append.mpr ⟨lw_r1, List.forall_mem_append.mpr ⟨lw_r2, List.forall_mem_append.mpr ⟨lw_r3, List.forall_mem_append.mpr ⟨lw_r4, lw_r5⟩⟩⟩⟩
/-- the streams that the claim lets the run draw from -/
abbrev lw_cs : List Choice := [Jvm.Choice.named "NaN.bits"]
theorem lw_bits : nanBits ∈ lw_cs := by first | decide | exact List.mem_cons_self | simp [lw_cs, nanBits]
end
section
def RX0 : String := "PeriodGates$Bins"
def TX0 : u_T := fun k => match k with
  | 0 => ("PeriodGates$Bins", "starts", "[I", true)
  | 1 => ("PeriodGates$Bins", "hits", "[I", true)
  | 2 => ("PeriodGates$Bins", "size", "I", false)
  | _ => ("PeriodGates$Bins", "total", "I", false)
def tyX0 : Nat → FieldType := fun k => match k with
  | 0 => .array .int
  | 1 => .array .int
  | 2 => .int
  | _ => .int
abbrev wsX00 : List Cond := u_ws RX0 TX0 4
theorem nmX0 : ∀ a, a < 4 → ∀ b, b < 4 → a ≠ b → (TX0 a).2.1 ≠ (TX0 b).2.1 := by decide +kernel
theorem tyX0_ok : ∀ k, k < 4 → parseFieldDescriptor (TX0 k).2.2.1 = some (tyX0 k) := by decide +kernel
abbrev cX0_init : ByteArray := prog_2_method_1_code
def yX0_init : MethodName := ⟨RX0, "<init>", "()V"⟩
abbrev cX0_codeOf : ByteArray := prog_2_method_2_code
def yX0_codeOf : MethodName := ⟨RX0, "codeOf", "(I)I"⟩
abbrev cX0_endOf : ByteArray := prog_2_method_3_code
def yX0_endOf : MethodName := ⟨RX0, "endOf", "(I)I"⟩
abbrev cX0_widthOf : ByteArray := prog_2_method_4_code
def yX0_widthOf : MethodName := ⟨RX0, "widthOf", "(I)I"⟩
abbrev cX0_split : ByteArray := prog_2_method_5_code
def yX0_split : MethodName := ⟨RX0, "split", "(II)V"⟩
abbrev cX0_joinToPrevious : ByteArray := prog_2_method_6_code
def yX0_joinToPrevious : MethodName := ⟨RX0, "joinToPrevious", "(I)V"⟩
abbrev cX0_addHits : ByteArray := prog_2_method_7_code
def yX0_addHits : MethodName := ⟨RX0, "addHits", "(II)I"⟩
abbrev cX0_forgetHits : ByteArray := prog_2_method_8_code
def yX0_forgetHits : MethodName := ⟨RX0, "forgetHits", "()V"⟩
abbrev cX0_hitsBelow : ByteArray := prog_2_method_9_code
def yX0_hitsBelow : MethodName := ⟨RX0, "hitsBelow", "(I)I"⟩
abbrev cX0_farthest : ByteArray := prog_2_method_10_code
def yX0_farthest : MethodName := ⟨RX0, "farthest", "()I"⟩
def RX1 : String := "PeriodGates$Gates"
def TX1 : u_T := fun k => match k with
  | 0 => ("PeriodGates$Gates", "starts", "[I", true)
  | 1 => ("PeriodGates$Gates", "ends", "[I", true)
  | 2 => ("PeriodGates$Gates", "opens", "[I", true)
  | 3 => ("PeriodGates$Gates", "closes", "[I", true)
  | _ => ("PeriodGates$Gates", "size", "I", false)
def tyX1 : Nat → FieldType := fun k => match k with
  | 0 => .array .int
  | 1 => .array .int
  | 2 => .array .int
  | 3 => .array .int
  | _ => .int
abbrev wsX10 : List Cond := u_ws RX1 TX1 5
theorem nmX1 : ∀ a, a < 5 → ∀ b, b < 5 → a ≠ b → (TX1 a).2.1 ≠ (TX1 b).2.1 := by decide +kernel
theorem tyX1_ok : ∀ k, k < 5 → parseFieldDescriptor (TX1 k).2.2.1 = some (tyX1 k) := by decide +kernel
abbrev cX1_init : ByteArray := prog_3_method_1_code
def yX1_init : MethodName := ⟨RX1, "<init>", "()V"⟩
abbrev cX1_append : ByteArray := prog_3_method_2_code
def yX1_append : MethodName := ⟨RX1, "append", "(II)I"⟩
abbrev cX1_locate : ByteArray := prog_3_method_3_code
def yX1_locate : MethodName := ⟨RX1, "locate", "(LPeriodGates$Track;)V"⟩
abbrev cX1_closingAt : ByteArray := prog_3_method_4_code
def yX1_closingAt : MethodName := ⟨RX1, "closingAt", "(I)I"⟩
abbrev cX1_closesAhead : ByteArray := prog_3_method_5_code
def yX1_closesAhead : MethodName := ⟨RX1, "closesAhead", "(II)Z"⟩
def RX2 : String := "PeriodGates$Reading"
def TX2 : u_T := fun k => match k with
  | 0 => ("PeriodGates$Reading", "stamps", "[J", true)
  | 1 => ("PeriodGates$Reading", "lost", "[I", true)
  | 2 => ("PeriodGates$Reading", "breaks", "[Z", true)
  | 3 => ("PeriodGates$Reading", "places", "[I", true)
  | 4 => ("PeriodGates$Reading", "sortedGaps", "[J", true)
  | 5 => ("PeriodGates$Reading", "size", "I", false)
  | 6 => ("PeriodGates$Reading", "scale", "I", false)
  | 7 => ("PeriodGates$Reading", "reference", "J", false)
  | 8 => ("PeriodGates$Reading", "lostTogether", "I", false)
  | _ => ("PeriodGates$Reading", "breaksTogether", "I", false)
def tyX2 : Nat → FieldType := fun k => match k with
  | 0 => .array .long
  | 1 => .array .int
  | 2 => .array .boolean
  | 3 => .array .int
  | 4 => .array .long
  | 5 => .int
  | 6 => .int
  | 7 => .long
  | 8 => .int
  | _ => .int
abbrev wsX20 : List Cond := u_ws RX2 TX2 10
theorem nmX2 : ∀ a, a < 10 → ∀ b, b < 10 → a ≠ b → (TX2 a).2.1 ≠ (TX2 b).2.1 := by decide +kernel
theorem tyX2_ok : ∀ k, k < 10 → parseFieldDescriptor (TX2 k).2.2.1 = some (tyX2 k) := by decide +kernel
abbrev cX2_init : ByteArray := prog_4_method_1_code
def yX2_init : MethodName := ⟨RX2, "<init>", "()V"⟩
abbrev cX2_renewStamps : ByteArray := prog_4_method_2_code
def yX2_renewStamps : MethodName := ⟨RX2, "renewStamps", "(LPeriodGates$Track;LPeriodGates$Bins;I)V"⟩
abbrev cX2_middleOf : ByteArray := prog_4_method_3_code
def yX2_middleOf : MethodName := ⟨RX2, "middleOf", "(LPeriodGates$Bins;II)I"⟩
abbrev cX2_renewPlaces : ByteArray := prog_4_method_4_code
def yX2_renewPlaces : MethodName := ⟨RX2, "renewPlaces", "(II)V"⟩
abbrev cX2_judgeGap : ByteArray := prog_4_method_5_code
def yX2_judgeGap : MethodName := ⟨RX2, "judgeGap", "(I)V"⟩
abbrev cX2_gapBehind : ByteArray := prog_4_method_6_code
def yX2_gapBehind : MethodName := ⟨RX2, "gapBehind", "(I)J"⟩
abbrev cX2_medianGap : ByteArray := prog_4_method_7_code
def yX2_medianGap : MethodName := ⟨RX2, "medianGap", "()J"⟩
abbrev cX2_periods : ByteArray := prog_4_method_8_code
def yX2_periods : MethodName := ⟨RX2, "periods", "(II)I"⟩
abbrev cX2_sumOfPlaces : ByteArray := prog_4_method_9_code
def yX2_sumOfPlaces : MethodName := ⟨RX2, "sumOfPlaces", "(II)J"⟩
abbrev cX2_sumOfStamps : ByteArray := prog_4_method_10_code
def yX2_sumOfStamps : MethodName := ⟨RX2, "sumOfStamps", "(II)J"⟩
abbrev cX2_fitAbove : ByteArray := prog_4_method_11_code
def yX2_fitAbove : MethodName := ⟨RX2, "fitAbove", "(II)J"⟩
abbrev cX2_fitBelow : ByteArray := prog_4_method_12_code
def yX2_fitBelow : MethodName := ⟨RX2, "fitBelow", "(II)J"⟩
abbrev cX2_farthest : ByteArray := prog_4_method_13_code
def yX2_farthest : MethodName := ⟨RX2, "farthest", "(II)I"⟩
def RX3 : String := "PeriodGates$Sheet"
def TX3 : u_T := fun k => match k with
  | 0 => ("PeriodGates$Sheet", "wholes", "[J", true)
  | 1 => ("PeriodGates$Sheet", "reals", "[D", true)
  | 2 => ("PeriodGates$Sheet", "noNumber", "[Z", true)
  | 3 => ("PeriodGates$Sheet", "form", "I", false)
  | _ => ("PeriodGates$Sheet", "size", "I", false)
def tyX3 : Nat → FieldType := fun k => match k with
  | 0 => .array .long
  | 1 => .array .double
  | 2 => .array .boolean
  | 3 => .int
  | _ => .int
abbrev wsX30 : List Cond := u_ws RX3 TX3 5
theorem nmX3 : ∀ a, a < 5 → ∀ b, b < 5 → a ≠ b → (TX3 a).2.1 ≠ (TX3 b).2.1 := by decide +kernel
theorem tyX3_ok : ∀ k, k < 5 → parseFieldDescriptor (TX3 k).2.2.1 = some (tyX3 k) := by decide +kernel
abbrev cX3_init : ByteArray := prog_5_method_1_code
def yX3_init : MethodName := ⟨RX3, "<init>", "()V"⟩
abbrev cX3_isLost : ByteArray := prog_5_method_2_code
def yX3_isLost : MethodName := ⟨RX3, "isLost", "()Z"⟩
abbrev cX3_holdsReals : ByteArray := prog_5_method_3_code
def yX3_holdsReals : MethodName := ⟨RX3, "holdsReals", "()Z"⟩
abbrev cX3_has : ByteArray := prog_5_method_4_code
def yX3_has : MethodName := ⟨RX3, "has", "(I)Z"⟩
abbrev cX3_hasRange : ByteArray := prog_5_method_5_code
def yX3_hasRange : MethodName := ⟨RX3, "hasRange", "(II)Z"⟩
abbrev cX3_begin : ByteArray := prog_5_method_6_code
def yX3_begin : MethodName := ⟨RX3, "begin", "(II)V"⟩
abbrev cX3_store : ByteArray := prog_5_method_7_code
def yX3_store : MethodName := ⟨RX3, "store", "(II)V"⟩
abbrev cX3_told : ByteArray := prog_5_method_8_code
def yX3_told : MethodName := ⟨RX3, "told", "(I)J"⟩
abbrev cX3_take : ByteArray := prog_5_method_9_code
def yX3_take : MethodName := ⟨RX3, "take", "(LPeriodGates$Sheet;III)V"⟩
abbrev cX3_countNoNumbers : ByteArray := prog_5_method_10_code
def yX3_countNoNumbers : MethodName := ⟨RX3, "countNoNumbers", "()I"⟩
abbrev cX3_extreme : ByteArray := prog_5_method_11_code
def yX3_extreme : MethodName := ⟨RX3, "extreme", "(Z)I"⟩
abbrev cX3_isBeyond : ByteArray := prog_5_method_12_code
def yX3_isBeyond : MethodName := ⟨RX3, "isBeyond", "(DDZ)Z"⟩
def RX4 : String := "PeriodGates$Spans"
def TX4 : u_T := fun k => match k with
  | 0 => ("PeriodGates$Spans", "sums", "[J", true)
  | 1 => ("PeriodGates$Spans", "weights", "[J", true)
  | 2 => ("PeriodGates$Spans", "ranked", "[I", true)
  | _ => ("PeriodGates$Spans", "size", "I", false)
def tyX4 : Nat → FieldType := fun k => match k with
  | 0 => .array .long
  | 1 => .array .long
  | 2 => .array .int
  | _ => .int
abbrev wsX40 : List Cond := u_ws RX4 TX4 4
theorem nmX4 : ∀ a, a < 4 → ∀ b, b < 4 → a ≠ b → (TX4 a).2.1 ≠ (TX4 b).2.1 := by decide +kernel
theorem tyX4_ok : ∀ k, k < 4 → parseFieldDescriptor (TX4 k).2.2.1 = some (tyX4 k) := by decide +kernel
abbrev cX4_init : ByteArray := prog_6_method_1_code
def yX4_init : MethodName := ⟨RX4, "<init>", "()V"⟩
abbrev cX4_renewSums : ByteArray := prog_6_method_2_code
def yX4_renewSums : MethodName := ⟨RX4, "renewSums", "(LPeriodGates$Reading;)V"⟩
abbrev cX4_sumOfSquares : ByteArray := prog_6_method_3_code
def yX4_sumOfSquares : MethodName := ⟨RX4, "sumOfSquares", "([JII)J"⟩
abbrev cX4_placeByRank : ByteArray := prog_6_method_4_code
def yX4_placeByRank : MethodName := ⟨RX4, "placeByRank", "(I)V"⟩
abbrev cX4_isSteadier : ByteArray := prog_6_method_5_code
def yX4_isSteadier : MethodName := ⟨RX4, "isSteadier", "(II)Z"⟩
def RX5 : String := "PeriodGates$Track"
def TX5 : u_T := fun k => match k with
  | 0 => ("PeriodGates$Track", "times", "[I", true)
  | _ => ("PeriodGates$Track", "size", "I", false)
def tyX5 : Nat → FieldType := fun k => match k with
  | 0 => .array .int
  | _ => .int
abbrev wsX50 : List Cond := u_ws RX5 TX5 2
theorem nmX5 : ∀ a, a < 2 → ∀ b, b < 2 → a ≠ b → (TX5 a).2.1 ≠ (TX5 b).2.1 := by decide +kernel
theorem tyX5_ok : ∀ k, k < 2 → parseFieldDescriptor (TX5 k).2.2.1 = some (tyX5 k) := by decide +kernel
abbrev cX5_init : ByteArray := prog_7_method_1_code
def yX5_init : MethodName := ⟨RX5, "<init>", "()V"⟩
abbrev cX5_isFull : ByteArray := prog_7_method_2_code
def yX5_isFull : MethodName := ⟨RX5, "isFull", "()Z"⟩
abbrev cX5_firstFrom : ByteArray := prog_7_method_3_code
def yX5_firstFrom : MethodName := ⟨RX5, "firstFrom", "(I)I"⟩
abbrev cX5_holds : ByteArray := prog_7_method_4_code
def yX5_holds : MethodName := ⟨RX5, "holds", "(I)Z"⟩
abbrev cX5_insert : ByteArray := prog_7_method_5_code
def yX5_insert : MethodName := ⟨RX5, "insert", "(I)I"⟩
abbrev cX5_removeAt : ByteArray := prog_7_method_6_code
def yX5_removeAt : MethodName := ⟨RX5, "removeAt", "(I)I"⟩
abbrev cX5_coarseOf : ByteArray := prog_7_method_7_code
def yX5_coarseOf : MethodName := ⟨RX5, "coarseOf", "(I)I"⟩
abbrev cX5_fineOf : ByteArray := prog_7_method_8_code
def yX5_fineOf : MethodName := ⟨RX5, "fineOf", "(I)I"⟩
def RX6 : String := "PeriodGates"
def TX6 : u_T := fun k => match k with
  | 0 => ("PeriodGates", "track", "LPeriodGates$Track;", true)
  | 1 => ("PeriodGates", "bins", "LPeriodGates$Bins;", true)
  | 2 => ("PeriodGates", "gates", "LPeriodGates$Gates;", true)
  | 3 => ("PeriodGates", "reading", "LPeriodGates$Reading;", true)
  | 4 => ("PeriodGates", "spans", "LPeriodGates$Spans;", true)
  | 5 => ("PeriodGates", "sheets", "[LPeriodGates$Sheet;", true)
  | 6 => ("PeriodGates", "modeBytes", "[I", true)
  | 7 => ("PeriodGates", "modeSize", "I", false)
  | 8 => ("PeriodGates", "nominalPeriod", "I", false)
  | 9 => ("PeriodGates", "mending", "I", false)
  | 10 => ("PeriodGates", "latestFinding", "I", false)
  | _ => ("PeriodGates", "stale", "Z", false)
def tyX6 : Nat → FieldType := fun k => match k with
  | 0 => .object "PeriodGates$Track"
  | 1 => .object "PeriodGates$Bins"
  | 2 => .object "PeriodGates$Gates"
  | 3 => .object "PeriodGates$Reading"
  | 4 => .object "PeriodGates$Spans"
  | 5 => .array (.object "PeriodGates$Sheet")
  | 6 => .array .int
  | 7 => .int
  | 8 => .int
  | 9 => .int
  | 10 => .int
  | _ => .boolean
abbrev wsX60 : List Cond := u_ws RX6 TX6 12
theorem nmX6 : ∀ a, a < 12 → ∀ b, b < 12 → a ≠ b → (TX6 a).2.1 ≠ (TX6 b).2.1 := by decide +kernel
theorem tyX6_ok : ∀ k, k < 12 → parseFieldDescriptor (TX6 k).2.2.1 = some (tyX6 k) := by decide +kernel
abbrev cX6_init : ByteArray := prog_1_method_1_code
def yX6_init : MethodName := ⟨RX6, "<init>", "()V"⟩
abbrev cX6_edge : ByteArray := prog_1_method_2_code
def yX6_edge : MethodName := ⟨RX6, "edge", "(I)I"⟩
abbrev cX6_edges : ByteArray := prog_1_method_3_code
def yX6_edges : MethodName := ⟨RX6, "edges", "(III)I"⟩
abbrev cX6_gone : ByteArray := prog_1_method_4_code
def yX6_gone : MethodName := ⟨RX6, "gone", "(I)I"⟩
abbrev cX6_clear : ByteArray := prog_1_method_5_code
def yX6_clear : MethodName := ⟨RX6, "clear", "()I"⟩
abbrev cX6_cut : ByteArray := prog_1_method_6_code
def yX6_cut : MethodName := ⟨RX6, "cut", "(I)I"⟩
abbrev cX6_hit : ByteArray := prog_1_method_7_code
def yX6_hit : MethodName := ⟨RX6, "hit", "(II)I"⟩
abbrev cX6_sweep : ByteArray := prog_1_method_8_code
def yX6_sweep : MethodName := ⟨RX6, "sweep", "(II)I"⟩
abbrev cX6_fresh : ByteArray := prog_1_method_9_code
def yX6_fresh : MethodName := ⟨RX6, "fresh", "()I"⟩
abbrev cX6_bin : ByteArray := prog_1_method_10_code
def yX6_bin : MethodName := ⟨RX6, "bin", "(II)I"⟩
abbrev cX6_dense : ByteArray := prog_1_method_11_code
def yX6_dense : MethodName := ⟨RX6, "dense", "(II)J"⟩
abbrev cX6_worst : ByteArray := prog_1_method_12_code
def yX6_worst : MethodName := ⟨RX6, "worst", "()I"⟩
abbrev cX6_type : ByteArray := prog_1_method_13_code
def yX6_type : MethodName := ⟨RX6, "type", "(I)I"⟩
abbrev cX6_wipe : ByteArray := prog_1_method_14_code
def yX6_wipe : MethodName := ⟨RX6, "wipe", "()I"⟩
abbrev cX6_mode : ByteArray := prog_1_method_15_code
def yX6_mode : MethodName := ⟨RX6, "mode", "()I"⟩
abbrev cX6_nominal : ByteArray := prog_1_method_16_code
def yX6_nominal : MethodName := ⟨RX6, "nominal", "(I)I"⟩
abbrev cX6_mend : ByteArray := prog_1_method_17_code
def yX6_mend : MethodName := ⟨RX6, "mend", "(I)I"⟩
abbrev cX6_seen : ByteArray := prog_1_method_18_code
def yX6_seen : MethodName := ⟨RX6, "seen", "(II)I"⟩
abbrev cX6_stamp : ByteArray := prog_1_method_19_code
def yX6_stamp : MethodName := ⟨RX6, "stamp", "(II)J"⟩
abbrev cX6_reference : ByteArray := prog_1_method_20_code
def yX6_reference : MethodName := ⟨RX6, "reference", "(I)J"⟩
abbrev cX6_gate : ByteArray := prog_1_method_21_code
def yX6_gate : MethodName := ⟨RX6, "gate", "(II)I"⟩
abbrev cX6_back : ByteArray := prog_1_method_22_code
def yX6_back : MethodName := ⟨RX6, "back", "()I"⟩
abbrev cX6_where : ByteArray := prog_1_method_23_code
def yX6_where : MethodName := ⟨RX6, "where", "(II)I"⟩
abbrev cX6_frequency : ByteArray := prog_1_method_24_code
def yX6_frequency : MethodName := ⟨RX6, "frequency", "(III)J"⟩
abbrev cX6_closing : ByteArray := prog_1_method_25_code
def yX6_closing : MethodName := ⟨RX6, "closing", "(I)I"⟩
abbrev cX6_chain : ByteArray := prog_1_method_26_code
def yX6_chain : MethodName := ⟨RX6, "chain", "(III)I"⟩
abbrev cX6_fit : ByteArray := prog_1_method_27_code
def yX6_fit : MethodName := ⟨RX6, "fit", "(III)J"⟩
abbrev cX6_off : ByteArray := prog_1_method_28_code
def yX6_off : MethodName := ⟨RX6, "off", "(II)I"⟩
abbrev cX6_gain : ByteArray := prog_1_method_29_code
def yX6_gain : MethodName := ⟨RX6, "gain", "(II)J"⟩
abbrev cX6_variance : ByteArray := prog_1_method_30_code
def yX6_variance : MethodName := ⟨RX6, "variance", "(II)J"⟩
abbrev cX6_rank : ByteArray := prog_1_method_31_code
def yX6_rank : MethodName := ⟨RX6, "rank", "(I)I"⟩
abbrev cX6_sheet : ByteArray := prog_1_method_32_code
def yX6_sheet : MethodName := ⟨RX6, "sheet", "(III)I"⟩
abbrev cX6_lose : ByteArray := prog_1_method_33_code
def yX6_lose : MethodName := ⟨RX6, "lose", "(I)I"⟩
abbrev cX6_put : ByteArray := prog_1_method_34_code
def yX6_put : MethodName := ⟨RX6, "put", "(IIII)I"⟩
abbrev cX6_blank : ByteArray := prog_1_method_35_code
def yX6_blank : MethodName := ⟨RX6, "blank", "(II)I"⟩
abbrev cX6_get : ByteArray := prog_1_method_36_code
def yX6_get : MethodName := ⟨RX6, "get", "(II)J"⟩
abbrev cX6_copy : ByteArray := prog_1_method_37_code
def yX6_copy : MethodName := ⟨RX6, "copy", "(IIIII)I"⟩
abbrev cX6_write : ByteArray := prog_1_method_38_code
def yX6_write : MethodName := ⟨RX6, "write", "(I)I"⟩
abbrev cX6_found : ByteArray := prog_1_method_39_code
def yX6_found : MethodName := ⟨RX6, "found", "(II)I"⟩
abbrev cX6_count : ByteArray := prog_1_method_40_code
def yX6_count : MethodName := ⟨RX6, "count", "(I)I"⟩
abbrev cX6_digest : ByteArray := prog_1_method_41_code
def yX6_digest : MethodName := ⟨RX6, "digest", "()J"⟩
abbrev cX6_mix : ByteArray := prog_1_method_42_code
def yX6_mix : MethodName := ⟨RX6, "mix", "(JJ)J"⟩
abbrev cX6_mixBins : ByteArray := prog_1_method_43_code
def yX6_mixBins : MethodName := ⟨RX6, "mixBins", "(J)J"⟩
abbrev cX6_mixEdges : ByteArray := prog_1_method_44_code
def yX6_mixEdges : MethodName := ⟨RX6, "mixEdges", "(J)J"⟩
abbrev cX6_mixGates : ByteArray := prog_1_method_45_code
def yX6_mixGates : MethodName := ⟨RX6, "mixGates", "(J)J"⟩
abbrev cX6_mixChains : ByteArray := prog_1_method_46_code
def yX6_mixChains : MethodName := ⟨RX6, "mixChains", "(J)J"⟩
abbrev cX6_mixFit : ByteArray := prog_1_method_47_code
def yX6_mixFit : MethodName := ⟨RX6, "mixFit", "(J)J"⟩
abbrev cX6_mixSpans : ByteArray := prog_1_method_48_code
def yX6_mixSpans : MethodName := ⟨RX6, "mixSpans", "(J)J"⟩
abbrev cX6_isWithin : ByteArray := prog_1_method_49_code
def yX6_isWithin : MethodName := ⟨RX6, "isWithin", "(III)Z"⟩
abbrev cX6_isTime : ByteArray := prog_1_method_50_code
def yX6_isTime : MethodName := ⟨RX6, "isTime", "(I)Z"⟩
abbrev cX6_isFine : ByteArray := prog_1_method_51_code
def yX6_isFine : MethodName := ⟨RX6, "isFine", "(I)Z"⟩
abbrev cX6_isHalf : ByteArray := prog_1_method_52_code
def yX6_isHalf : MethodName := ⟨RX6, "isHalf", "(I)Z"⟩
abbrev cX6_isSheet : ByteArray := prog_1_method_53_code
def yX6_isSheet : MethodName := ⟨RX6, "isSheet", "(I)Z"⟩
abbrev cX6_isForm : ByteArray := prog_1_method_54_code
def yX6_isForm : MethodName := ⟨RX6, "isForm", "(I)Z"⟩
abbrev cX6_isEdge : ByteArray := prog_1_method_55_code
def yX6_isEdge : MethodName := ⟨RX6, "isEdge", "(I)Z"⟩
abbrev cX6_isEdgePair : ByteArray := prog_1_method_56_code
def yX6_isEdgePair : MethodName := ⟨RX6, "isEdgePair", "(II)Z"⟩
abbrev cX6_isLastEdge : ByteArray := prog_1_method_57_code
def yX6_isLastEdge : MethodName := ⟨RX6, "isLastEdge", "(I)Z"⟩
abbrev cX6_isBin : ByteArray := prog_1_method_58_code
def yX6_isBin : MethodName := ⟨RX6, "isBin", "(I)Z"⟩
abbrev cX6_isGate : ByteArray := prog_1_method_59_code
def yX6_isGate : MethodName := ⟨RX6, "isGate", "(I)Z"⟩
abbrev cX6_refusal : ByteArray := prog_1_method_60_code
def yX6_refusal : MethodName := ⟨RX6, "refusal", "(I)J"⟩
abbrev cX6_finding : ByteArray := prog_1_method_61_code
def yX6_finding : MethodName := ⟨RX6, "finding", "(I)I"⟩
abbrev cX6_lowest : ByteArray := prog_1_method_62_code
def yX6_lowest : MethodName := ⟨RX6, "lowest", "(JJI)J"⟩
abbrev cX6_commonDivisor : ByteArray := prog_1_method_63_code
def yX6_commonDivisor : MethodName := ⟨RX6, "commonDivisor", "(JJ)J"⟩
abbrev cX6_renew : ByteArray := prog_1_method_64_code
def yX6_renew : MethodName := ⟨RX6, "renew", "()V"⟩
abbrev cX6_modeReads : ByteArray := prog_1_method_65_code
def yX6_modeReads : MethodName := ⟨RX6, "modeReads", "(Ljava/lang/String;)Z"⟩
abbrev cX6_leastBound : ByteArray := prog_1_method_66_code
def yX6_leastBound : MethodName := ⟨RX6, "leastBound", "(I)I"⟩
abbrev cX6_greatestBound : ByteArray := prog_1_method_67_code
def yX6_greatestBound : MethodName := ⟨RX6, "greatestBound", "(I)I"⟩
abbrev cX6_lengthBetween : ByteArray := prog_1_method_68_code
def yX6_lengthBetween : MethodName := ⟨RX6, "lengthBetween", "(III)J"⟩
def RX7 : String := "PeriodGatesModel"
def TX7 : u_T := fun k => match k with
  | 0 => ("PeriodGatesModel", "times", "[I", true)
  | 1 => ("PeriodGatesModel", "many", "I", false)
  | 2 => ("PeriodGatesModel", "cuts", "[Z", true)
  | 3 => ("PeriodGatesModel", "hits", "[I", true)
  | 4 => ("PeriodGatesModel", "codes", "[I", true)
  | 5 => ("PeriodGatesModel", "firsts", "[I", true)
  | 6 => ("PeriodGatesModel", "typed", "[I", true)
  | 7 => ("PeriodGatesModel", "typedMany", "I", false)
  | 8 => ("PeriodGatesModel", "nominalNow", "I", false)
  | 9 => ("PeriodGatesModel", "mendNow", "I", false)
  | 10 => ("PeriodGatesModel", "tops", "[J", true)
  | 11 => ("PeriodGatesModel", "places", "[I", true)
  | 12 => ("PeriodGatesModel", "losts", "[I", true)
  | 13 => ("PeriodGatesModel", "breaks", "[Z", true)
  | 14 => ("PeriodGatesModel", "gaps", "[J", true)
  | 15 => ("PeriodGatesModel", "under", "J", false)
  | 16 => ("PeriodGatesModel", "median", "J", false)
  | 17 => ("PeriodGatesModel", "froms", "[I", true)
  | 18 => ("PeriodGatesModel", "tos", "[I", true)
  | 19 => ("PeriodGatesModel", "gates", "I", false)
  | 20 => ("PeriodGatesModel", "sumPlaces", "J", false)
  | 21 => ("PeriodGatesModel", "sumTops", "J", false)
  | 22 => ("PeriodGatesModel", "sumBoth", "J", false)
  | 23 => ("PeriodGatesModel", "sumSquares", "J", false)
  | 24 => ("PeriodGatesModel", "forms", "[I", true)
  | 25 => ("PeriodGatesModel", "sizes", "[I", true)
  | 26 => ("PeriodGatesModel", "wholes", "[J", true)
  | 27 => ("PeriodGatesModel", "numbers", "[D", true)
  | 28 => ("PeriodGatesModel", "blanks", "[Z", true)
  | 29 => ("PeriodGatesModel", "movedWholes", "[J", true)
  | 30 => ("PeriodGatesModel", "movedNumbers", "[D", true)
  | 31 => ("PeriodGatesModel", "movedBlanks", "[Z", true)
  | _ => ("PeriodGatesModel", "finding", "I", false)
def tyX7 : Nat → FieldType := fun k => match k with
  | 0 => .array .int
  | 1 => .int
  | 2 => .array .boolean
  | 3 => .array .int
  | 4 => .array .int
  | 5 => .array .int
  | 6 => .array .int
  | 7 => .int
  | 8 => .int
  | 9 => .int
  | 10 => .array .long
  | 11 => .array .int
  | 12 => .array .int
  | 13 => .array .boolean
  | 14 => .array .long
  | 15 => .long
  | 16 => .long
  | 17 => .array .int
  | 18 => .array .int
  | 19 => .int
  | 20 => .long
  | 21 => .long
  | 22 => .long
  | 23 => .long
  | 24 => .array .int
  | 25 => .array .int
  | 26 => .array .long
  | 27 => .array .double
  | 28 => .array .boolean
  | 29 => .array .long
  | 30 => .array .double
  | 31 => .array .boolean
  | _ => .int
abbrev wsX70 : List Cond := u_ws RX7 TX7 33
theorem nmX7 : ∀ a, a < 33 → ∀ b, b < 33 → a ≠ b → (TX7 a).2.1 ≠ (TX7 b).2.1 := by decide +kernel
theorem tyX7_ok : ∀ k, k < 33 → parseFieldDescriptor (TX7 k).2.2.1 = some (tyX7 k) := by decide +kernel
abbrev cX7_init : ByteArray := prog_9_method_1_code
def yX7_init : MethodName := ⟨RX7, "<init>", "()V"⟩
abbrev cX7_in : ByteArray := prog_9_method_3_code
def yX7_in : MethodName := ⟨RX7, "in", "(III)Z"⟩
abbrev cX7_no : ByteArray := prog_9_method_4_code
def yX7_no : MethodName := ⟨RX7, "no", "(I)J"⟩
abbrev cX7_partOf : ByteArray := prog_9_method_5_code
def yX7_partOf : MethodName := ⟨RX7, "partOf", "(JJI)J"⟩
abbrev cX7_placeFor : ByteArray := prog_9_method_6_code
def yX7_placeFor : MethodName := ⟨RX7, "placeFor", "(I)I"⟩
abbrev cX7_adds : ByteArray := prog_9_method_7_code
def yX7_adds : MethodName := ⟨RX7, "adds", "(I)I"⟩
abbrev cX7_edge : ByteArray := prog_9_method_8_code
def yX7_edge : MethodName := ⟨RX7, "edge", "(I)I"⟩
abbrev cX7_edges : ByteArray := prog_9_method_9_code
def yX7_edges : MethodName := ⟨RX7, "edges", "(III)I"⟩
abbrev cX7_isEdge : ByteArray := prog_9_method_10_code
def yX7_isEdge : MethodName := ⟨RX7, "isEdge", "(I)Z"⟩
abbrev cX7_gone : ByteArray := prog_9_method_11_code
def yX7_gone : MethodName := ⟨RX7, "gone", "(I)I"⟩
abbrev cX7_clear : ByteArray := prog_9_method_12_code
def yX7_clear : MethodName := ⟨RX7, "clear", "()I"⟩
abbrev cX7_learns : ByteArray := prog_9_method_13_code
def yX7_learns : MethodName := ⟨RX7, "learns", "()V"⟩
abbrev cX7_codeOf : ByteArray := prog_9_method_14_code
def yX7_codeOf : MethodName := ⟨RX7, "codeOf", "(I)I"⟩
abbrev cX7_bins : ByteArray := prog_9_method_15_code
def yX7_bins : MethodName := ⟨RX7, "bins", "()I"⟩
abbrev cX7_firstOf : ByteArray := prog_9_method_16_code
def yX7_firstOf : MethodName := ⟨RX7, "firstOf", "(I)I"⟩
abbrev cX7_widthOf : ByteArray := prog_9_method_17_code
def yX7_widthOf : MethodName := ⟨RX7, "widthOf", "(I)I"⟩
abbrev cX7_allHits : ByteArray := prog_9_method_18_code
def yX7_allHits : MethodName := ⟨RX7, "allHits", "()I"⟩
abbrev cX7_forgets : ByteArray := prog_9_method_19_code
def yX7_forgets : MethodName := ⟨RX7, "forgets", "()I"⟩
abbrev cX7_cut : ByteArray := prog_9_method_20_code
def yX7_cut : MethodName := ⟨RX7, "cut", "(I)I"⟩
abbrev cX7_hit : ByteArray := prog_9_method_21_code
def yX7_hit : MethodName := ⟨RX7, "hit", "(II)I"⟩
abbrev cX7_sweep : ByteArray := prog_9_method_22_code
def yX7_sweep : MethodName := ⟨RX7, "sweep", "(II)I"⟩
abbrev cX7_fresh : ByteArray := prog_9_method_23_code
def yX7_fresh : MethodName := ⟨RX7, "fresh", "()I"⟩
abbrev cX7_isBin : ByteArray := prog_9_method_24_code
def yX7_isBin : MethodName := ⟨RX7, "isBin", "(I)Z"⟩
abbrev cX7_binOf : ByteArray := prog_9_method_25_code
def yX7_binOf : MethodName := ⟨RX7, "binOf", "(II)I"⟩
abbrev cX7_bin : ByteArray := prog_9_method_26_code
def yX7_bin : MethodName := ⟨RX7, "bin", "(II)I"⟩
abbrev cX7_denseOf : ByteArray := prog_9_method_27_code
def yX7_denseOf : MethodName := ⟨RX7, "denseOf", "(II)J"⟩
abbrev cX7_dense : ByteArray := prog_9_method_28_code
def yX7_dense : MethodName := ⟨RX7, "dense", "(II)J"⟩
abbrev cX7_worstNow : ByteArray := prog_9_method_29_code
def yX7_worstNow : MethodName := ⟨RX7, "worstNow", "()I"⟩
abbrev cX7_worst : ByteArray := prog_9_method_30_code
def yX7_worst : MethodName := ⟨RX7, "worst", "()I"⟩
abbrev cX7_type : ByteArray := prog_9_method_31_code
def yX7_type : MethodName := ⟨RX7, "type", "(I)I"⟩
abbrev cX7_wipe : ByteArray := prog_9_method_32_code
def yX7_wipe : MethodName := ⟨RX7, "wipe", "()I"⟩
abbrev cX7_isTyped : ByteArray := prog_9_method_33_code
def yX7_isTyped : MethodName := ⟨RX7, "isTyped", "(IIIII)Z"⟩
abbrev cX7_modeNow : ByteArray := prog_9_method_34_code
def yX7_modeNow : MethodName := ⟨RX7, "modeNow", "()I"⟩
abbrev cX7_mode : ByteArray := prog_9_method_35_code
def yX7_mode : MethodName := ⟨RX7, "mode", "()I"⟩
abbrev cX7_nominal : ByteArray := prog_9_method_36_code
def yX7_nominal : MethodName := ⟨RX7, "nominal", "(I)I"⟩
abbrev cX7_mend : ByteArray := prog_9_method_37_code
def yX7_mend : MethodName := ⟨RX7, "mend", "(I)I"⟩
abbrev cX7_partBy : ByteArray := prog_9_method_38_code
def yX7_partBy : MethodName := ⟨RX7, "partBy", "(II)J"⟩
abbrev cX7_findsGaps : ByteArray := prog_9_method_39_code
def yX7_findsGaps : MethodName := ⟨RX7, "findsGaps", "()V"⟩
abbrev cX7_finds : ByteArray := prog_9_method_40_code
def yX7_finds : MethodName := ⟨RX7, "finds", "()V"⟩
abbrev cX7_boundOf : ByteArray := prog_9_method_41_code
def yX7_boundOf : MethodName := ⟨RX7, "boundOf", "(IZ)I"⟩
abbrev cX7_seenOf : ByteArray := prog_9_method_42_code
def yX7_seenOf : MethodName := ⟨RX7, "seenOf", "(II)I"⟩
abbrev cX7_seen : ByteArray := prog_9_method_43_code
def yX7_seen : MethodName := ⟨RX7, "seen", "(II)I"⟩
abbrev cX7_stampOf : ByteArray := prog_9_method_44_code
def yX7_stampOf : MethodName := ⟨RX7, "stampOf", "(II)J"⟩
abbrev cX7_stamp : ByteArray := prog_9_method_45_code
def yX7_stamp : MethodName := ⟨RX7, "stamp", "(II)J"⟩
abbrev cX7_referenceOf : ByteArray := prog_9_method_46_code
def yX7_referenceOf : MethodName := ⟨RX7, "referenceOf", "(I)J"⟩
abbrev cX7_reference : ByteArray := prog_9_method_47_code
def yX7_reference : MethodName := ⟨RX7, "reference", "(I)J"⟩
abbrev cX7_gate : ByteArray := prog_9_method_48_code
def yX7_gate : MethodName := ⟨RX7, "gate", "(II)I"⟩
abbrev cX7_back : ByteArray := prog_9_method_49_code
def yX7_back : MethodName := ⟨RX7, "back", "()I"⟩
abbrev cX7_isGate : ByteArray := prog_9_method_50_code
def yX7_isGate : MethodName := ⟨RX7, "isGate", "(I)Z"⟩
abbrev cX7_opens : ByteArray := prog_9_method_51_code
def yX7_opens : MethodName := ⟨RX7, "opens", "(I)I"⟩
abbrev cX7_closes : ByteArray := prog_9_method_52_code
def yX7_closes : MethodName := ⟨RX7, "closes", "(I)I"⟩
abbrev cX7_periodsOf : ByteArray := prog_9_method_53_code
def yX7_periodsOf : MethodName := ⟨RX7, "periodsOf", "(I)I"⟩
abbrev cX7_whereOf : ByteArray := prog_9_method_54_code
def yX7_whereOf : MethodName := ⟨RX7, "whereOf", "(II)I"⟩
abbrev cX7_where : ByteArray := prog_9_method_55_code
def yX7_where : MethodName := ⟨RX7, "where", "(II)I"⟩
abbrev cX7_frequencyOf : ByteArray := prog_9_method_56_code
def yX7_frequencyOf : MethodName := ⟨RX7, "frequencyOf", "(III)J"⟩
abbrev cX7_frequency : ByteArray := prog_9_method_57_code
def yX7_frequency : MethodName := ⟨RX7, "frequency", "(III)J"⟩
abbrev cX7_isAhead : ByteArray := prog_9_method_58_code
def yX7_isAhead : MethodName := ⟨RX7, "isAhead", "(II)Z"⟩
abbrev cX7_closingOf : ByteArray := prog_9_method_59_code
def yX7_closingOf : MethodName := ⟨RX7, "closingOf", "(I)I"⟩
abbrev cX7_closing : ByteArray := prog_9_method_60_code
def yX7_closing : MethodName := ⟨RX7, "closing", "(I)I"⟩
abbrev cX7_nextBy : ByteArray := prog_9_method_61_code
def yX7_nextBy : MethodName := ⟨RX7, "nextBy", "(II)I"⟩
abbrev cX7_chainOf : ByteArray := prog_9_method_62_code
def yX7_chainOf : MethodName := ⟨RX7, "chainOf", "(III)I"⟩
abbrev cX7_chain : ByteArray := prog_9_method_63_code
def yX7_chain : MethodName := ⟨RX7, "chain", "(III)I"⟩
abbrev cX7_sums : ByteArray := prog_9_method_64_code
def yX7_sums : MethodName := ⟨RX7, "sums", "(II)V"⟩
abbrev cX7_isFit : ByteArray := prog_9_method_65_code
def yX7_isFit : MethodName := ⟨RX7, "isFit", "(II)Z"⟩
abbrev cX7_fitOf : ByteArray := prog_9_method_66_code
def yX7_fitOf : MethodName := ⟨RX7, "fitOf", "(III)J"⟩
abbrev cX7_fit : ByteArray := prog_9_method_67_code
def yX7_fit : MethodName := ⟨RX7, "fit", "(III)J"⟩
abbrev cX7_offOf : ByteArray := prog_9_method_68_code
def yX7_offOf : MethodName := ⟨RX7, "offOf", "(II)I"⟩
abbrev cX7_off : ByteArray := prog_9_method_69_code
def yX7_off : MethodName := ⟨RX7, "off", "(II)I"⟩
abbrev cX7_gainOf : ByteArray := prog_9_method_70_code
def yX7_gainOf : MethodName := ⟨RX7, "gainOf", "(II)J"⟩
abbrev cX7_gain : ByteArray := prog_9_method_71_code
def yX7_gain : MethodName := ⟨RX7, "gain", "(II)J"⟩
abbrev cX7_squaresAt : ByteArray := prog_9_method_72_code
def yX7_squaresAt : MethodName := ⟨RX7, "squaresAt", "(I)J"⟩
abbrev cX7_weightAt : ByteArray := prog_9_method_73_code
def yX7_weightAt : MethodName := ⟨RX7, "weightAt", "(I)J"⟩
abbrev cX7_varianceOf : ByteArray := prog_9_method_74_code
def yX7_varianceOf : MethodName := ⟨RX7, "varianceOf", "(II)J"⟩
abbrev cX7_variance : ByteArray := prog_9_method_75_code
def yX7_variance : MethodName := ⟨RX7, "variance", "(II)J"⟩
abbrev cX7_ranked : ByteArray := prog_9_method_76_code
def yX7_ranked : MethodName := ⟨RX7, "ranked", "()I"⟩
abbrev cX7_isLess : ByteArray := prog_9_method_77_code
def yX7_isLess : MethodName := ⟨RX7, "isLess", "(II)Z"⟩
abbrev cX7_rankOf : ByteArray := prog_9_method_78_code
def yX7_rankOf : MethodName := ⟨RX7, "rankOf", "(I)I"⟩
abbrev cX7_rank : ByteArray := prog_9_method_79_code
def yX7_rank : MethodName := ⟨RX7, "rank", "(I)I"⟩
abbrev cX7_meets : ByteArray := prog_9_method_80_code
def yX7_meets : MethodName := ⟨RX7, "meets", "(I)I"⟩
abbrev cX7_isSheet : ByteArray := prog_9_method_81_code
def yX7_isSheet : MethodName := ⟨RX7, "isSheet", "(I)Z"⟩
abbrev cX7_sheet : ByteArray := prog_9_method_82_code
def yX7_sheet : MethodName := ⟨RX7, "sheet", "(III)I"⟩
abbrev cX7_lose : ByteArray := prog_9_method_83_code
def yX7_lose : MethodName := ⟨RX7, "lose", "(I)I"⟩
abbrev cX7_hasItem : ByteArray := prog_9_method_84_code
def yX7_hasItem : MethodName := ⟨RX7, "hasItem", "(II)Z"⟩
abbrev cX7_keeps : ByteArray := prog_9_method_85_code
def yX7_keeps : MethodName := ⟨RX7, "keeps", "(ID)V"⟩
abbrev cX7_put : ByteArray := prog_9_method_86_code
def yX7_put : MethodName := ⟨RX7, "put", "(IIII)I"⟩
abbrev cX7_blank : ByteArray := prog_9_method_87_code
def yX7_blank : MethodName := ⟨RX7, "blank", "(II)I"⟩
abbrev cX7_itemOf : ByteArray := prog_9_method_88_code
def yX7_itemOf : MethodName := ⟨RX7, "itemOf", "(II)J"⟩
abbrev cX7_get : ByteArray := prog_9_method_89_code
def yX7_get : MethodName := ⟨RX7, "get", "(II)J"⟩
abbrev cX7_copy : ByteArray := prog_9_method_90_code
def yX7_copy : MethodName := ⟨RX7, "copy", "(IIIII)I"⟩
abbrev cX7_write : ByteArray := prog_9_method_91_code
def yX7_write : MethodName := ⟨RX7, "write", "(I)I"⟩
abbrev cX7_foundOf : ByteArray := prog_9_method_92_code
def yX7_foundOf : MethodName := ⟨RX7, "foundOf", "(II)I"⟩
abbrev cX7_found : ByteArray := prog_9_method_93_code
def yX7_found : MethodName := ⟨RX7, "found", "(II)I"⟩
abbrev cX7_lostNow : ByteArray := prog_9_method_94_code
def yX7_lostNow : MethodName := ⟨RX7, "lostNow", "()I"⟩
abbrev cX7_breaksNow : ByteArray := prog_9_method_95_code
def yX7_breaksNow : MethodName := ⟨RX7, "breaksNow", "()I"⟩
abbrev cX7_count : ByteArray := prog_9_method_96_code
def yX7_count : MethodName := ⟨RX7, "count", "(I)I"⟩
abbrev cX7_binDigest : ByteArray := prog_9_method_97_code
def yX7_binDigest : MethodName := ⟨RX7, "binDigest", "(JI)J"⟩
abbrev cX7_edgeDigest : ByteArray := prog_9_method_98_code
def yX7_edgeDigest : MethodName := ⟨RX7, "edgeDigest", "(JI)J"⟩
abbrev cX7_gateDigest : ByteArray := prog_9_method_99_code
def yX7_gateDigest : MethodName := ⟨RX7, "gateDigest", "(JI)J"⟩
abbrev cX7_chainDigest : ByteArray := prog_9_method_100_code
def yX7_chainDigest : MethodName := ⟨RX7, "chainDigest", "(J)J"⟩
abbrev cX7_digest : ByteArray := prog_9_method_101_code
def yX7_digest : MethodName := ⟨RX7, "digest", "()J"⟩
def RJ9 : String := "java/lang/Math"
def TJ9 : u_T := fun k => match k with
  | _ => ("", "", "", false)
def tyJ9 : Nat → FieldType := fun k => match k with
  | _ => .int
abbrev wsJ90 : List Cond := u_ws RJ9 TJ9 0
theorem nmJ9 : ∀ a, a < 0 → ∀ b, b < 0 → a ≠ b → (TJ9 a).2.1 ≠ (TJ9 b).2.1 := by decide +kernel
theorem tyJ9_ok : ∀ k, k < 0 → parseFieldDescriptor (TJ9 k).2.2.1 = some (tyJ9 k) := by decide +kernel
abbrev cJ9_abs_0f7a4 : ByteArray := prog_10_method_59_code
def yJ9_abs_0f7a4 : MethodName := ⟨RJ9, "abs", "(I)I"⟩
abbrev cJ9_abs_067f4 : ByteArray := prog_10_method_61_code
def yJ9_abs_067f4 : MethodName := ⟨RJ9, "abs", "(J)J"⟩
abbrev cJ9_max_7cf53 : ByteArray := prog_10_method_65_code
def yJ9_max_7cf53 : MethodName := ⟨RJ9, "max", "(II)I"⟩
abbrev cJ9_max_f86c9 : ByteArray := prog_10_method_66_code
def yJ9_max_f86c9 : MethodName := ⟨RJ9, "max", "(JJ)J"⟩
abbrev cJ9_min_7cf53 : ByteArray := prog_10_method_69_code
def yJ9_min_7cf53 : MethodName := ⟨RJ9, "min", "(II)I"⟩
abbrev cJ9_min_f86c9 : ByteArray := prog_10_method_70_code
def yJ9_min_f86c9 : MethodName := ⟨RJ9, "min", "(JJ)J"⟩
def RJ0 : String := "java/lang/String"
def TJ0 : u_T := fun k => match k with
  | _ => ("", "", "", false)
def tyJ0 : Nat → FieldType := fun k => match k with
  | _ => .int
abbrev wsJ00 : List Cond := u_ws RJ0 TJ0 0
theorem nmJ0 : ∀ a, a < 0 → ∀ b, b < 0 → a ≠ b → (TJ0 a).2.1 ≠ (TJ0 b).2.1 := by decide +kernel
theorem tyJ0_ok : ∀ k, k < 0 → parseFieldDescriptor (TJ0 k).2.2.1 = some (tyJ0 k) := by decide +kernel
abbrev cJ0_length_8abf5 : ByteArray := prog_11_method_54_code
def yJ0_length_8abf5 : MethodName := ⟨RJ0, "length", "()I"⟩
abbrev cJ0_charAt_5068e : ByteArray := prog_11_method_56_code
def yJ0_charAt_5068e : MethodName := ⟨RJ0, "charAt", "(I)C"⟩
abbrev cJ0_coder_7d493 : ByteArray := prog_11_method_152_code
def yJ0_coder_7d493 : MethodName := ⟨RJ0, "coder", "()B"⟩
abbrev cJ0_isLatin1_aae02 : ByteArray := prog_11_method_154_code
def yJ0_isLatin1_aae02 : MethodName := ⟨RJ0, "isLatin1", "()Z"⟩
abbrev cJ0_checkIndex_df160 : ByteArray := prog_11_method_155_code
def yJ0_checkIndex_df160 : MethodName := ⟨RJ0, "checkIndex", "(II)V"⟩
def RJ1 : String := "java/lang/StringLatin1"
def TJ1 : u_T := fun k => match k with
  | _ => ("", "", "", false)
def tyJ1 : Nat → FieldType := fun k => match k with
  | _ => .int
abbrev wsJ10 : List Cond := u_ws RJ1 TJ1 0
theorem nmJ1 : ∀ a, a < 0 → ∀ b, b < 0 → a ≠ b → (TJ1 a).2.1 ≠ (TJ1 b).2.1 := by decide +kernel
theorem tyJ1_ok : ∀ k, k < 0 → parseFieldDescriptor (TJ1 k).2.2.1 = some (tyJ1 k) := by decide +kernel
abbrev cJ1_charAt_3b067 : ByteArray := prog_12_method_2_code
def yJ1_charAt_3b067 : MethodName := ⟨RJ1, "charAt", "([BI)C"⟩
def RJ2 : String := "java/lang/StringUTF16"
def TJ2 : u_T := fun k => match k with
  | _ => ("", "", "", false)
def tyJ2 : Nat → FieldType := fun k => match k with
  | _ => .int
abbrev wsJ20 : List Cond := u_ws RJ2 TJ2 0
theorem nmJ2 : ∀ a, a < 0 → ∀ b, b < 0 → a ≠ b → (TJ2 a).2.1 ≠ (TJ2 b).2.1 := by decide +kernel
theorem tyJ2_ok : ∀ k, k < 0 → parseFieldDescriptor (TJ2 k).2.2.1 = some (tyJ2 k) := by decide +kernel
abbrev cJ2_getChar_3b067 : ByteArray := prog_13_method_5_code
def yJ2_getChar_3b067 : MethodName := ⟨RJ2, "getChar", "([BI)C"⟩
abbrev cJ2_length_9d52b : ByteArray := prog_13_method_6_code
def yJ2_length_9d52b : MethodName := ⟨RJ2, "length", "([B)I"⟩
abbrev cJ2_charAt_3b067 : ByteArray := prog_13_method_83_code
def yJ2_charAt_3b067 : MethodName := ⟨RJ2, "charAt", "([BI)C"⟩
abbrev cJ2_checkIndex_2214a : ByteArray := prog_13_method_91_code
def yJ2_checkIndex_2214a : MethodName := ⟨RJ2, "checkIndex", "(I[B)V"⟩
def RJ3 : String := "jdk/internal/util/Preconditions"
def TJ3 : u_T := fun k => match k with
  | _ => ("", "", "", false)
def tyJ3 : Nat → FieldType := fun k => match k with
  | _ => .int
abbrev wsJ30 : List Cond := u_ws RJ3 TJ3 0
theorem nmJ3 : ∀ a, a < 0 → ∀ b, b < 0 → a ≠ b → (TJ3 a).2.1 ≠ (TJ3 b).2.1 := by decide +kernel
theorem tyJ3_ok : ∀ k, k < 0 → parseFieldDescriptor (TJ3 k).2.2.1 = some (tyJ3 k) := by decide +kernel
abbrev cJ3_checkIndex_8e157 : ByteArray := prog_14_method_11_code
def yJ3_checkIndex_8e157 : MethodName := ⟨RJ3, "checkIndex", "(IILjava/util/function/BiFunction;)I"⟩
def RL : String := "PeriodGatesLaw"
abbrev cL_law : ByteArray := code
def yL_law : MethodName := ⟨RL, "law", "([I)Z"⟩
abbrev vwCl : List vw_C := [(RX0, TX0, 4), (RX1, TX1, 5), (RX2, TX2, 10), (RX3, TX3, 5), (RX4, TX4, 4), (RX5, TX5, 2), (RX6, TX6, 12), (RX7, TX7, 33)]
end
section
/-- the words that hold at every method's entry -/
def zT : List Cond := lw_tbl.filter goodWord
theorem zT_t {w : Cond} (i : Nat) (h : tables_1[i]? = some w) (hg : goodWord w = true) : w ∈ zT := List.mem_filter.mpr ⟨List.mem_append_right _ (List.mem_of_getElem? h), hg⟩
theorem zT_p {w : Cond} (i : Nat) (h : (k2_sels lw_privs)[i]? = some w) (hg : goodWord w = true) : w ∈ zT := List.mem_filter.mpr ⟨List.mem_append_left _ (List.mem_of_getElem? h), hg⟩
def zws (y : MethodName) (cc : ByteArray) (maxL : Nat) (ret : Option FieldType) : List Cond := .code y cc maxL ret :: zT
/-- the state of one side: ints, longs, rows of ints, of longs, of doubles -/
abbrev zS : Type := (Nat → Int32) × (Nat → Int64) × (Nat → Nat → Int32) × (Nat → Nat → Int64) × (Nat → Nat → UInt64)
def zi (σ : zS) (k : Nat) : Int32 := σ.1 k
def zl (σ : zS) (k : Nat) : Int64 := σ.2.1 k
def za (σ : zS) (k : Nat) : Nat → Int32 := σ.2.2.1 k
def zj (σ : zS) (k : Nat) : Nat → Int64 := σ.2.2.2.1 k
def zd (σ : zS) (k : Nat) : Nat → UInt64 := σ.2.2.2.2 k
def wi (σ : zS) (k : Nat) (v : Int32) : zS := (fun j => if j = k then v else σ.1 j, σ.2)
def wl (σ : zS) (k : Nat) (v : Int64) : zS := (σ.1, fun j => if j = k then v else σ.2.1 j, σ.2.2)
def wa (σ : zS) (k i : Nat) (v : Int32) : zS := (σ.1, σ.2.1, fun j => if j = k then upd (σ.2.2.1 k) i v else σ.2.2.1 j, σ.2.2.2)
def wj (σ : zS) (k i : Nat) (v : Int64) : zS := (σ.1, σ.2.1, σ.2.2.1, fun j => if j = k then vp_updL (σ.2.2.2.1 k) i v else σ.2.2.2.1 j, σ.2.2.2.2)
def wd (σ : zS) (k i : Nat) (v : UInt64) : zS := (σ.1, σ.2.1, σ.2.2.1, σ.2.2.2.1, fun j => if j = k then vf_upd (σ.2.2.2.2 k) i v else σ.2.2.2.2 j)
/-- what a stretch of code does: nothing told (none), or what it leaves -/
def zy1 {α γ : Type} (o : Option α) (k : α → Option γ) : Option γ := match o with
  | none => none
  | some q => k q
def zy2 {α β γ : Type} (o : Option (α × β)) (k : α → β → Option γ) : Option γ := match o with
  | none => none
  | some q => k q.1 q.2
def zy3 {α β δ γ : Type} (o : Option (α × β × δ)) (k : α → β → δ → Option γ) : Option γ := match o with
  | none => none
  | some q => k q.1 q.2.1 q.2.2
def zy4 {α β δ ε γ : Type} (o : Option (α × β × δ × ε)) (k : α → β → δ → ε → Option γ) : Option γ := match o with
  | none => none
  | some q => k q.1 q.2.1 q.2.2.1 q.2.2.2
def zy5 {α β δ ε ζ γ : Type} (o : Option (α × β × δ × ε × ζ)) (k : α → β → δ → ε → ζ → Option γ) : Option γ := match o with
  | none => none
  | some q => k q.1 q.2.1 q.2.2.1 q.2.2.2.1 q.2.2.2.2
def zg {β : Type} (b : Bool) (o : Option β) : Option β := if b = true then o else none
def zq (i : Int32) (n : Nat) : Bool := decide (¬ (i < 0 ∨ n ≤ i.toNatClampNeg))
theorem zq_in {i : Int32} {n : Nat} (h : zq i n = true) : vp_in i n := by
  unfold zq at h
  have h2 : ¬ (i < 0 ∨ n ≤ i.toNatClampNeg) := of_decide_eq_true h
  exact h2
/-- a boolean that an int is -/
def zz (r : Int32) : Bool := decide (r = 0 ∨ r = 1)
theorem zz_n {r : Int32} (h : zz r = true) : narrow .boolean (.int r) = .int r := by
  rcases of_decide_eq_true h with rfl | rfl <;> rfl
abbrev zK : Type := (Program × Launch × Env × Room × State) × (MethodId × Array Value × List Frame × Method × Code) × ((State → Prop) × va_G × (Nat → Prop) × Nat × Nat)
abbrev zO (S : Type) : Type := (S → va_W) × List (ClassId × FieldType) × ((Nat → Prop) → State → Heap → Prop)
def zW {S : Type} (C : zK) (ω : zO S) (nL : Nat) (pc : Nat) (lv : List (Nat × Value)) (st : List Value) (σ : S) : Prop :=
  ∀ (H : Heap) (locs : List Loc) (ls : Array Slot), va_P C.2.2.2.1 vwCl (ω.1 σ) H → va_D C.2.2.2.2.1 (ω.1 σ) → va_S C.2.2.2.2.1 C.1.2.2.2.2.heap H locs → lv_has ls nL lv →
    W C.1.1 C.1.2.1 C.1.2.2.1 C.1.2.2.2.1 C.1.2.2.2.2 C.2.1.1 C.2.1.2.1 C.2.1.2.2.1 C.2.1.2.2.2.1 C.2.1.2.2.2.2 H locs C.2.2.2.2.2.1 C.2.2.2.2.2.2 C.2.2.1 (F0 C.2.1.1 pc ls st)
/-- what a world says beside its cells is kept -/
def zX (X : (Nat → Prop) → State → Heap → Prop) : Prop :=
  (∀ (A B : Nat → Prop) (U : State) (H H' : Heap), X A U H → (∀ a : Nat, a < H.size → ¬ A a → H'[a]? = H[a]?) → (∀ q, B q → A q) → X B U H') ∧ (∀ (A : Nat → Prop) (s U : State) (H : Heap), s.WarmedH U.vm → X A s H → X A U H) ∧ ∀ (A : Nat → Prop) (s U : State) (H : Heap), U.vm = s.vm → X A s H → X A U H
def zOK {S : Type} (C : zK) (ω : zO S) (cc : ByteArray) (own : String) (nL fr lo : Nat) : Prop :=
  C.1.1.tables.exec = Jvm.exec ∧ C.2.1.2.2.2.2.code = cc ∧ C.2.1.2.2.2.2.maxLocals = nL ∧ C.1.2.2.2.2.vm.findClass own = some C.2.1.1.cls ∧ (∀ w ∈ zT, w.before C.2.1.2.1 C.1.2.2.2.2 = true) ∧ va_K C.2.2.2.1 vwCl ω.2.1 C.1.2.2.2.2 ∧ fr ≤ C.1.2.2.2.1.frames ∧ lo ≤ C.1.2.2.2.1.locals ∧ (∀ q : Nat, C.1.2.2.2.2.heap.size ≤ q → C.2.2.2.2.1 q) ∧ zX ω.2.2 ∧ ω.2.2 C.2.2.2.2.1 C.1.2.2.2.2 C.1.2.2.2.2.heap ∧ C.2.2.2.2.2.1 ≤ C.1.2.2.2.1.cells ∧ C.2.2.2.2.2.2 ≤ C.1.2.2.2.1.slots
def zG {S α : Type} (C : zK) (ω : zO S) (nL : Nat) (E : α → Prop) (o : Option α) (pc : Nat) (lv : List (Nat × Value)) (st : List Value) (σ : S) : Prop :=
  ∀ v, o = some v → E v → zW C ω nL pc lv st σ
/-- a method's start and end -/
def zPre {S : Type} (D : va_G) (ω : zO S) (σ : S) (sz : Nat) (U : State) : Prop := U.heap.size = sz ∧ va_P D vwCl (ω.1 σ) U.heap ∧ va_K D vwCl ω.2.1 U ∧ va_D (fun _ => True) (ω.1 σ) ∧ ω.2.2 (va_A (ω.1 σ) sz) U U.heap
def zPost {S : Type} (D : va_G) (ω : zO S) (σ : S) (sz : Nat) (τ : S) (t : State) : Prop := va_P D vwCl (ω.1 τ) t.heap ∧ va_K D vwCl ω.2.1 t ∧ va_D (va_A (ω.1 σ) sz) (ω.1 τ)
def zMI {S : Type} (l : Launch) (D : va_G) (ω : zO S) (y : MethodName) (ws : List Cond) (fr lo : Nat) (av : List Value) (σ : S) (r : Int32 × S) : Prop :=
  ∀ sz : Nat, Met l y ws ({ frames := fr, cells := 0, slots := 0, locals := lo }) (va_Pc av (zPre D ω σ sz)) (va_Qi (fun (x : Int32) (τ : S) => (x, τ) = r) (zPost D ω σ sz) (va_A (ω.1 σ) sz)) 0 0 (va_A (ω.1 σ) sz)
def zML {S : Type} (l : Launch) (D : va_G) (ω : zO S) (y : MethodName) (ws : List Cond) (fr lo : Nat) (av : List Value) (σ : S) (r : Int64 × S) : Prop :=
  ∀ sz : Nat, Met l y ws ({ frames := fr, cells := 0, slots := 0, locals := lo }) (va_Pc av (zPre D ω σ sz)) (va_Ql (fun (x : Int64) (τ : S) => (x, τ) = r) (zPost D ω σ sz) (va_A (ω.1 σ) sz)) 0 0 (va_A (ω.1 σ) sz)
def zMV {S : Type} (l : Launch) (D : va_G) (ω : zO S) (y : MethodName) (ws : List Cond) (fr lo : Nat) (av : List Value) (σ : S) (r : S) : Prop :=
  ∀ sz : Nat, Met l y ws ({ frames := fr, cells := 0, slots := 0, locals := lo }) (va_Pc av (zPre D ω σ sz)) (va_Qv (fun (τ : S) => τ = r) (zPost D ω σ sz) (va_A (ω.1 σ) sz)) 0 0 (va_A (ω.1 σ) sz)
/-- the ends of a walk -/
def zRI {S : Type} (C : zK) (ω : zO S) (nL : Nat) (cc : ByteArray) (r : Int32 × S) : Prop := ∀ (pc : Nat) (lv : List (Nat × Value)) (x : Int32) (τ : S), decode cc pc = .ok (.ireturn, 1) → (x, τ) = r → zW C ω nL pc lv [.int x] τ
def zRZ {S : Type} (C : zK) (ω : zO S) (nL : Nat) (cc : ByteArray) (r : Int32 × S) : Prop := ∀ (pc : Nat) (lv : List (Nat × Value)) (x : Int32) (τ : S), decode cc pc = .ok (.ireturn, 1) → narrow .boolean (.int x) = .int x → (x, τ) = r → zW C ω nL pc lv [.int x] τ
def zRL {S : Type} (C : zK) (ω : zO S) (nL : Nat) (cc : ByteArray) (r : Int64 × S) : Prop := ∀ (pc : Nat) (lv : List (Nat × Value)) (x : Int64) (τ : S), decode cc pc = .ok (.lreturn, 1) → (x, τ) = r → zW C ω nL pc lv [.long x] τ
def zRV {S : Type} (C : zK) (ω : zO S) (nL : Nat) (cc : ByteArray) (r : S) : Prop := ∀ (pc : Nat) (lv : List (Nat × Value)) (τ : S), decode cc pc = .ok (.return_, 1) → τ = r → zW C ω nL pc lv [] τ
theorem zws_spec {y : MethodName} {cc : ByteArray} {maxL : Nat} {ret : Option FieldType} {av : Array Value} {s : State} (h : ∀ w ∈ zws y cc maxL ret, w.before av s = true) : ∀ w ∈ zT, w.before av s = true := fun w hw => h w (List.mem_cons_of_mem _ hw)
set_option maxHeartbeats 4000000 in
theorem zm_I {S : Type} {l : Launch} {D : va_G} {ω : zO S} {y : MethodName} {cc : ByteArray} {maxL fr lo : Nat} {av : List Value} {lv : List (Nat × Value)} {σ : S} {o : Option (Int32 × S)} {r : Int32 × S} (hy : plainName y.cls = true) (hX : zX ω.2.2) (hle : (lg_sl av).length ≤ maxL) (hlv : lv_args 0 av = lv)
    (body : ∀ C : zK, C.1.2.1 = l → C.2.2.2.1 = D → zOK C ω cc y.cls maxL fr lo → zRI C ω maxL cc r → zG C ω maxL (fun v => v = r) o 0 lv [] σ) (h : o = some r) : zMI l D ω y (zws y cc maxL (some .int)) fr lo av σ r := by
  intro sz
  refine Met.ofW (cc := cc) (maxL := maxL) (ret := some .int) hy rfl ?_
  intro p e s m args below meth c s₁ B hml hv
  obtain ⟨rfl, hsz, hP, hK, hD0, hx0⟩ := hv
  have hts := atoms_spec (ws := zws y cc maxL (some .int)) B.pre
  have hown : s.vm.findClass y.cls = some m.cls := findClass_of_methodNamed B.named
  subst hsz
  have hl := lv_entry av (n := maxL) hle
  rw [lg_entry_eq]
  rw [hlv] at hl
  let C : zK := ((p, l, e, (headSpec (zws y cc maxL (some .int)) { frames := fr, cells := 0, slots := 0, locals := lo }).room, s), (m, av.toArray, below, meth, c), (MQ below (va_Qi (fun (x : Int32) (τ : S) => (x, τ) = r) (zPost D ω σ s.heap.size) (va_A (ω.1 σ) s.heap.size)) av.toArray s 0 0 (va_A (ω.1 σ) s.heap.size), D, va_A (ω.1 σ) s.heap.size, 0, 0))
  have hb := B.bytes
  have hr := B.returns
  have hlocks := B.notSynchronized
  have hxx := B.exec
  have hC : zOK C ω cc y.cls maxL fr lo := ⟨B.exec, B.bytes, hml, hown, zws_spec hts, hK, Nat.le_refl _, Nat.le_refl _, fun q h => Or.inr h, hX, hx0, Nat.zero_le _, Nat.zero_le _⟩
  have hR : zRI C ω maxL cc r := by
    intro pc lv' x τ hd hr' H locs ls qP qD qS ql
    exact W.iret (v := x) hxx hb hr (fun t ht hW => ⟨⟨x, τ, rfl, hr', by rw [ht]; exact qP, va_K.moved hW.alike hK, qD⟩, qS.F ht⟩) qS.2.2 hd
  exact body C rfl rfl hC hR r h rfl s.heap [] _ hP hD0.self va_S.rf hl
set_option maxHeartbeats 4000000 in
theorem zm_Z {S : Type} {l : Launch} {D : va_G} {ω : zO S} {y : MethodName} {cc : ByteArray} {maxL fr lo : Nat} {av : List Value} {lv : List (Nat × Value)} {σ : S} {o : Option (Int32 × S)} {r : Int32 × S} (hy : plainName y.cls = true) (hX : zX ω.2.2) (hle : (lg_sl av).length ≤ maxL) (hlv : lv_args 0 av = lv)
    (body : ∀ C : zK, C.1.2.1 = l → C.2.2.2.1 = D → zOK C ω cc y.cls maxL fr lo → zRZ C ω maxL cc r → zG C ω maxL (fun v => v = r) o 0 lv [] σ) (h : o = some r) : zMI l D ω y (zws y cc maxL (some .boolean)) fr lo av σ r := by
  intro sz
  refine Met.ofW (cc := cc) (maxL := maxL) (ret := some .boolean) hy rfl ?_
  intro p e s m args below meth c s₁ B hml hv
  obtain ⟨rfl, hsz, hP, hK, hD0, hx0⟩ := hv
  have hts := atoms_spec (ws := zws y cc maxL (some .boolean)) B.pre
  have hown : s.vm.findClass y.cls = some m.cls := findClass_of_methodNamed B.named
  subst hsz
  have hl := lv_entry av (n := maxL) hle
  rw [lg_entry_eq]
  rw [hlv] at hl
  let C : zK := ((p, l, e, (headSpec (zws y cc maxL (some .boolean)) { frames := fr, cells := 0, slots := 0, locals := lo }).room, s), (m, av.toArray, below, meth, c), (MQ below (va_Qi (fun (x : Int32) (τ : S) => (x, τ) = r) (zPost D ω σ s.heap.size) (va_A (ω.1 σ) s.heap.size)) av.toArray s 0 0 (va_A (ω.1 σ) s.heap.size), D, va_A (ω.1 σ) s.heap.size, 0, 0))
  have hb := B.bytes
  have hr := B.returns
  have hlocks := B.notSynchronized
  have hxx := B.exec
  have hC : zOK C ω cc y.cls maxL fr lo := ⟨B.exec, B.bytes, hml, hown, zws_spec hts, hK, Nat.le_refl _, Nat.le_refl _, fun q h => Or.inr h, hX, hx0, Nat.zero_le _, Nat.zero_le _⟩
  have hR : zRZ C ω maxL cc r := by
    intro pc lv' x τ hd hn hr' H locs ls qP qD qS ql
    exact W.zret (v := x) (ty := .boolean) hxx hb hr hn (fun t ht hW => ⟨⟨x, τ, rfl, hr', by rw [ht]; exact qP, va_K.moved hW.alike hK, qD⟩, qS.F ht⟩) qS.2.2 hd
  exact body C rfl rfl hC hR r h rfl s.heap [] _ hP hD0.self va_S.rf hl
set_option maxHeartbeats 4000000 in
theorem zm_L {S : Type} {l : Launch} {D : va_G} {ω : zO S} {y : MethodName} {cc : ByteArray} {maxL fr lo : Nat} {av : List Value} {lv : List (Nat × Value)} {σ : S} {o : Option (Int64 × S)} {r : Int64 × S} (hy : plainName y.cls = true) (hX : zX ω.2.2) (hle : (lg_sl av).length ≤ maxL) (hlv : lv_args 0 av = lv)
    (body : ∀ C : zK, C.1.2.1 = l → C.2.2.2.1 = D → zOK C ω cc y.cls maxL fr lo → zRL C ω maxL cc r → zG C ω maxL (fun v => v = r) o 0 lv [] σ) (h : o = some r) : zML l D ω y (zws y cc maxL (some .long)) fr lo av σ r := by
  intro sz
  refine Met.ofW (cc := cc) (maxL := maxL) (ret := some .long) hy rfl ?_
  intro p e s m args below meth c s₁ B hml hv
  obtain ⟨rfl, hsz, hP, hK, hD0, hx0⟩ := hv
  have hts := atoms_spec (ws := zws y cc maxL (some .long)) B.pre
  have hown : s.vm.findClass y.cls = some m.cls := findClass_of_methodNamed B.named
  subst hsz
  have hl := lv_entry av (n := maxL) hle
  rw [lg_entry_eq]
  rw [hlv] at hl
  let C : zK := ((p, l, e, (headSpec (zws y cc maxL (some .long)) { frames := fr, cells := 0, slots := 0, locals := lo }).room, s), (m, av.toArray, below, meth, c), (MQ below (va_Ql (fun (x : Int64) (τ : S) => (x, τ) = r) (zPost D ω σ s.heap.size) (va_A (ω.1 σ) s.heap.size)) av.toArray s 0 0 (va_A (ω.1 σ) s.heap.size), D, va_A (ω.1 σ) s.heap.size, 0, 0))
  have hb := B.bytes
  have hr := B.returns
  have hlocks := B.notSynchronized
  have hxx := B.exec
  have hC : zOK C ω cc y.cls maxL fr lo := ⟨B.exec, B.bytes, hml, hown, zws_spec hts, hK, Nat.le_refl _, Nat.le_refl _, fun q h => Or.inr h, hX, hx0, Nat.zero_le _, Nat.zero_le _⟩
  have hR : zRL C ω maxL cc r := by
    intro pc lv' x τ hd hr' H locs ls qP qD qS ql
    exact W.lret (v := x) hxx hb hr (fun t ht hW => ⟨⟨x, τ, rfl, hr', by rw [ht]; exact qP, va_K.moved hW.alike hK, qD⟩, qS.F ht⟩) qS.2.2 hd
  exact body C rfl rfl hC hR r h rfl s.heap [] _ hP hD0.self va_S.rf hl
set_option maxHeartbeats 4000000 in
theorem zm_V {S : Type} {l : Launch} {D : va_G} {ω : zO S} {y : MethodName} {cc : ByteArray} {maxL fr lo : Nat} {av : List Value} {lv : List (Nat × Value)} {σ : S} {o : Option S} {r : S} (hy : plainName y.cls = true) (hX : zX ω.2.2) (hle : (lg_sl av).length ≤ maxL) (hlv : lv_args 0 av = lv)
    (body : ∀ C : zK, C.1.2.1 = l → C.2.2.2.1 = D → zOK C ω cc y.cls maxL fr lo → zRV C ω maxL cc r → zG C ω maxL (fun v => v = r) o 0 lv [] σ) (h : o = some r) : zMV l D ω y (zws y cc maxL none) fr lo av σ r := by
  intro sz
  refine Met.ofW (cc := cc) (maxL := maxL) (ret := none) hy rfl ?_
  intro p e s m args below meth c s₁ B hml hv
  obtain ⟨rfl, hsz, hP, hK, hD0, hx0⟩ := hv
  have hts := atoms_spec (ws := zws y cc maxL none) B.pre
  have hown : s.vm.findClass y.cls = some m.cls := findClass_of_methodNamed B.named
  subst hsz
  have hl := lv_entry av (n := maxL) hle
  rw [lg_entry_eq]
  rw [hlv] at hl
  let C : zK := ((p, l, e, (headSpec (zws y cc maxL none) { frames := fr, cells := 0, slots := 0, locals := lo }).room, s), (m, av.toArray, below, meth, c), (MQ below (va_Qv (fun (τ : S) => τ = r) (zPost D ω σ s.heap.size) (va_A (ω.1 σ) s.heap.size)) av.toArray s 0 0 (va_A (ω.1 σ) s.heap.size), D, va_A (ω.1 σ) s.heap.size, 0, 0))
  have hb := B.bytes
  have hr := B.returns
  have hlocks := B.notSynchronized
  have hxx := B.exec
  have hC : zOK C ω cc y.cls maxL fr lo := ⟨B.exec, B.bytes, hml, hown, zws_spec hts, hK, Nat.le_refl _, Nat.le_refl _, fun q h => Or.inr h, hX, hx0, Nat.zero_le _, Nat.zero_le _⟩
  have hR : zRV C ω maxL cc r := by
    intro pc lv' τ hd hr' H locs ls qP qD qS ql
    exact W.vret hxx hb hr (fun t ht hW => ⟨⟨τ, rfl, hr', by rw [ht]; exact qP, va_K.moved hW.alike hK, qD⟩, qS.F ht⟩) qS.2.2 hd
  exact body C rfl rfl hC hR r h rfl s.heap [] _ hP hD0.self va_S.rf hl
end
section
theorem gg_iconst {S α : Type} {C : zK} {ω : zO S} {cc : ByteArray} {own : String} {nL fr lo pc : Nat} {E : α → Prop} {o : Option α} {lv : List (Nat × Value)} {st : List Value} {σ : S} (hC : zOK C ω cc own nL fr lo) {n : Int} {x : Int32} (hd : decode cc pc = .ok (.iconst n, 1)) (hx : Int32.ofInt n = x) (k : zG C ω nL E o (pc + 1) lv (.int x :: st) σ) : zG C ω nL E o pc lv st σ :=
  fun v hv hE H locs ls hP hD hS hl => lv_iconst hC.1 hC.2.1 hd hx (k v hv hE H locs ls hP hD hS hl)
theorem gg_bipush {S α : Type} {C : zK} {ω : zO S} {cc : ByteArray} {own : String} {nL fr lo pc : Nat} {E : α → Prop} {o : Option α} {lv : List (Nat × Value)} {st : List Value} {σ : S} (hC : zOK C ω cc own nL fr lo) {n : Int} {x : Int32} (hd : decode cc pc = .ok (.bipush n, 2)) (hx : (Int8.ofInt n).toInt32 = x) (k : zG C ω nL E o (pc + 2) lv (.int x :: st) σ) : zG C ω nL E o pc lv st σ :=
  fun v hv hE H locs ls hP hD hS hl => lv_bipush hC.1 hC.2.1 hd hx (k v hv hE H locs ls hP hD hS hl)
theorem gg_sipush {S α : Type} {C : zK} {ω : zO S} {cc : ByteArray} {own : String} {nL fr lo pc : Nat} {E : α → Prop} {o : Option α} {lv : List (Nat × Value)} {st : List Value} {σ : S} (hC : zOK C ω cc own nL fr lo) {n : Int} {x : Int32} (hd : decode cc pc = .ok (.sipush n, 3)) (hx : (Int16.ofInt n).toInt32 = x) (k : zG C ω nL E o (pc + 3) lv (.int x :: st) σ) : zG C ω nL E o pc lv st σ :=
  fun v hv hE H locs ls hP hD hS hl => lv_sipush hC.1 hC.2.1 hd hx (k v hv hE H locs ls hP hD hS hl)
theorem gg_lconst {S α : Type} {C : zK} {ω : zO S} {cc : ByteArray} {own : String} {nL fr lo pc : Nat} {E : α → Prop} {o : Option α} {lv : List (Nat × Value)} {st : List Value} {σ : S} (hC : zOK C ω cc own nL fr lo) {n : Fin 2} {x : Int64} (hd : decode cc pc = .ok (.lconst n, 1)) (hx : Int64.ofNat (n : Nat) = x) (k : zG C ω nL E o (pc + 1) lv (.long x :: st) σ) : zG C ω nL E o pc lv st σ :=
  fun v hv hE H locs ls hP hD hS hl => lv_lconst hC.1 hC.2.1 hd hx (k v hv hE H locs ls hP hD hS hl)
theorem gg_dconst0 {S α : Type} {C : zK} {ω : zO S} {cc : ByteArray} {own : String} {nL fr lo pc : Nat} {E : α → Prop} {o : Option α} {lv : List (Nat × Value)} {st : List Value} {σ : S} (hC : zOK C ω cc own nL fr lo)  (hd : decode cc pc = .ok (.dconst 0, 1))  (k : zG C ω nL E o (pc + 1) lv (.double FP.dconst0 :: st) σ) : zG C ω nL E o pc lv st σ :=
  fun v hv hE H locs ls hP hD hS hl => lv_dconst0 hC.1 hC.2.1 hd (k v hv hE H locs ls hP hD hS hl)
theorem gg_ldc {S α : Type} {C : zK} {ω : zO S} {cc : ByteArray} {own : String} {nL fr lo pc : Nat} {E : α → Prop} {o : Option α} {lv : List (Nat × Value)} {st : List Value} {σ : S} (hC : zOK C ω cc own nL fr lo) {i : Nat} {x : Int32} (hd : decode cc pc = .ok (.ldc i, 2)) (hw : Cond.constant own i x ∈ zT) (k : zG C ω nL E o (pc + 2) lv (.int x :: st) σ) : zG C ω nL E o pc lv st σ :=
  fun v hv hE H locs ls hP hD hS hl => lv_ldc hC.1 hC.2.1 hC.2.2.2.1 (hC.2.2.2.2.1 _ hw) hd (k v hv hE H locs ls hP hD hS hl)
theorem gg_ldcf {S α : Type} {C : zK} {ω : zO S} {cc : ByteArray} {own : String} {nL fr lo pc : Nat} {E : α → Prop} {o : Option α} {lv : List (Nat × Value)} {st : List Value} {σ : S} (hC : zOK C ω cc own nL fr lo) {i : Nat} {x : UInt32} (hd : decode cc pc = .ok (.ldc i, 2)) (hw : Cond.constantFloat own i x ∈ zT) (k : zG C ω nL E o (pc + 2) lv (.float x :: st) σ) : zG C ω nL E o pc lv st σ :=
  fun v hv hE H locs ls hP hD hS hl => lv_ldcf hC.1 hC.2.1 hC.2.2.2.1 (hC.2.2.2.2.1 _ hw) hd (k v hv hE H locs ls hP hD hS hl)
theorem gg_ldc2 {S α : Type} {C : zK} {ω : zO S} {cc : ByteArray} {own : String} {nL fr lo pc : Nat} {E : α → Prop} {o : Option α} {lv : List (Nat × Value)} {st : List Value} {σ : S} (hC : zOK C ω cc own nL fr lo) {i : Nat} {x : Int64} (hd : decode cc pc = .ok (.ldc2_w i, 3)) (hw : Cond.constantLong own i x ∈ zT) (k : zG C ω nL E o (pc + 3) lv (.long x :: st) σ) : zG C ω nL E o pc lv st σ :=
  fun v hv hE H locs ls hP hD hS hl => lv_ldc2 hC.1 hC.2.1 hC.2.2.2.1 (hC.2.2.2.2.1 _ hw) hd (k v hv hE H locs ls hP hD hS hl)
theorem gg_ldc2d {S α : Type} {C : zK} {ω : zO S} {cc : ByteArray} {own : String} {nL fr lo pc : Nat} {E : α → Prop} {o : Option α} {lv : List (Nat × Value)} {st : List Value} {σ : S} (hC : zOK C ω cc own nL fr lo) {i : Nat} {x : UInt64} (hd : decode cc pc = .ok (.ldc2_w i, 3)) (hw : Cond.constantDouble own i x ∈ zT) (k : zG C ω nL E o (pc + 3) lv (.double x :: st) σ) : zG C ω nL E o pc lv st σ :=
  fun v hv hE H locs ls hP hD hS hl => lv_ldc2d hC.1 hC.2.1 hC.2.2.2.1 (hC.2.2.2.2.1 _ hw) hd (k v hv hE H locs ls hP hD hS hl)
theorem gg_iload_n {S α : Type} {C : zK} {ω : zO S} {cc : ByteArray} {own : String} {nL fr lo pc : Nat} {E : α → Prop} {o : Option α} {lv : List (Nat × Value)} {st : List Value} {σ : S} (hC : zOK C ω cc own nL fr lo) {k4 : Fin 4} {i : Nat} {x : Int32} (hd : decode cc pc = .ok (.iload_n k4, 1)) (hi : (k4 : Nat) = i) (j : Nat) (hj : lv[j]? = some (i, .int x)) (k : zG C ω nL E o (pc + 1) lv (.int x :: st) σ) : zG C ω nL E o pc lv st σ :=
  fun v hv hE H locs ls hP hD hS hl => lv_iload_n hC.1 hC.2.1 hd hi (lv_at hl j hj) (k v hv hE H locs ls hP hD hS hl)
theorem gg_iload {S α : Type} {C : zK} {ω : zO S} {cc : ByteArray} {own : String} {nL fr lo pc : Nat} {E : α → Prop} {o : Option α} {lv : List (Nat × Value)} {st : List Value} {σ : S} (hC : zOK C ω cc own nL fr lo) {i : Nat} {x : Int32} (hd : decode cc pc = .ok (.iload i, 2)) (j : Nat) (hj : lv[j]? = some (i, .int x)) (k : zG C ω nL E o (pc + 2) lv (.int x :: st) σ) : zG C ω nL E o pc lv st σ :=
  fun v hv hE H locs ls hP hD hS hl => lv_iload hC.1 hC.2.1 hd (lv_at hl j hj) (k v hv hE H locs ls hP hD hS hl)
theorem gg_istore_n {S α : Type} {C : zK} {ω : zO S} {cc : ByteArray} {own : String} {nL fr lo pc : Nat} {E : α → Prop} {o : Option α} {lv : List (Nat × Value)} {st : List Value} {σ : S} (hC : zOK C ω cc own nL fr lo) {k4 : Fin 4} {i : Nat} {x : Int32} {lv' : List (Nat × Value)} (hd : decode cc pc = .ok (.istore_n k4, 1)) (hi : (k4 : Nat) = i) (hn : i < nL) (hl' : (i, Value.int x) :: lv.filter (fun q => !(q.1 == i) && !(q.1 + 1 == i && q.2.category == 2)) = lv') (k : zG C ω nL E o (pc + 1) lv' st σ) : zG C ω nL E o pc lv (.int x :: st) σ :=
  fun v hv hE H locs ls hP hD hS hl => lv_istore_n hC.1 hC.2.1 hd hi hl hn hl' (fun ls' h' => k v hv hE H locs ls' hP hD hS h')
theorem gg_istore {S α : Type} {C : zK} {ω : zO S} {cc : ByteArray} {own : String} {nL fr lo pc : Nat} {E : α → Prop} {o : Option α} {lv : List (Nat × Value)} {st : List Value} {σ : S} (hC : zOK C ω cc own nL fr lo) {i : Nat} {x : Int32} {lv' : List (Nat × Value)} (hd : decode cc pc = .ok (.istore i, 2)) (hn : i < nL) (hl' : (i, Value.int x) :: lv.filter (fun q => !(q.1 == i) && !(q.1 + 1 == i && q.2.category == 2)) = lv') (k : zG C ω nL E o (pc + 2) lv' st σ) : zG C ω nL E o pc lv (.int x :: st) σ :=
  fun v hv hE H locs ls hP hD hS hl => lv_istore hC.1 hC.2.1 hd hl hn hl' (fun ls' h' => k v hv hE H locs ls' hP hD hS h')
theorem gg_lload_n {S α : Type} {C : zK} {ω : zO S} {cc : ByteArray} {own : String} {nL fr lo pc : Nat} {E : α → Prop} {o : Option α} {lv : List (Nat × Value)} {st : List Value} {σ : S} (hC : zOK C ω cc own nL fr lo) {k4 : Fin 4} {i : Nat} {x : Int64} (hd : decode cc pc = .ok (.lload_n k4, 1)) (hi : (k4 : Nat) = i) (j : Nat) (hj : lv[j]? = some (i, .long x)) (k : zG C ω nL E o (pc + 1) lv (.long x :: st) σ) : zG C ω nL E o pc lv st σ :=
  fun v hv hE H locs ls hP hD hS hl => lv_lload_n hC.1 hC.2.1 hd hi (lv_at hl j hj) (k v hv hE H locs ls hP hD hS hl)
theorem gg_lload {S α : Type} {C : zK} {ω : zO S} {cc : ByteArray} {own : String} {nL fr lo pc : Nat} {E : α → Prop} {o : Option α} {lv : List (Nat × Value)} {st : List Value} {σ : S} (hC : zOK C ω cc own nL fr lo) {i : Nat} {x : Int64} (hd : decode cc pc = .ok (.lload i, 2)) (j : Nat) (hj : lv[j]? = some (i, .long x)) (k : zG C ω nL E o (pc + 2) lv (.long x :: st) σ) : zG C ω nL E o pc lv st σ :=
  fun v hv hE H locs ls hP hD hS hl => lv_lload hC.1 hC.2.1 hd (lv_at hl j hj) (k v hv hE H locs ls hP hD hS hl)
theorem gg_lstore_n {S α : Type} {C : zK} {ω : zO S} {cc : ByteArray} {own : String} {nL fr lo pc : Nat} {E : α → Prop} {o : Option α} {lv : List (Nat × Value)} {st : List Value} {σ : S} (hC : zOK C ω cc own nL fr lo) {k4 : Fin 4} {i : Nat} {x : Int64} {lv' : List (Nat × Value)} (hd : decode cc pc = .ok (.lstore_n k4, 1)) (hi : (k4 : Nat) = i) (hn : i + 1 < nL) (hl' : (i, Value.long x) :: lv.filter (fun q => !(q.1 == i) && (!(q.1 == i + 1) && !(q.1 + 1 == i && q.2.category == 2))) = lv') (k : zG C ω nL E o (pc + 1) lv' st σ) : zG C ω nL E o pc lv (.long x :: st) σ :=
  fun v hv hE H locs ls hP hD hS hl => lv_lstore_n hC.1 hC.2.1 hd hi hl hn hl' (fun ls' h' => k v hv hE H locs ls' hP hD hS h')
theorem gg_lstore {S α : Type} {C : zK} {ω : zO S} {cc : ByteArray} {own : String} {nL fr lo pc : Nat} {E : α → Prop} {o : Option α} {lv : List (Nat × Value)} {st : List Value} {σ : S} (hC : zOK C ω cc own nL fr lo) {i : Nat} {x : Int64} {lv' : List (Nat × Value)} (hd : decode cc pc = .ok (.lstore i, 2)) (hn : i + 1 < nL) (hl' : (i, Value.long x) :: lv.filter (fun q => !(q.1 == i) && (!(q.1 == i + 1) && !(q.1 + 1 == i && q.2.category == 2))) = lv') (k : zG C ω nL E o (pc + 2) lv' st σ) : zG C ω nL E o pc lv (.long x :: st) σ :=
  fun v hv hE H locs ls hP hD hS hl => lv_lstore hC.1 hC.2.1 hd hl hn hl' (fun ls' h' => k v hv hE H locs ls' hP hD hS h')
theorem gg_dload_n {S α : Type} {C : zK} {ω : zO S} {cc : ByteArray} {own : String} {nL fr lo pc : Nat} {E : α → Prop} {o : Option α} {lv : List (Nat × Value)} {st : List Value} {σ : S} (hC : zOK C ω cc own nL fr lo) {k4 : Fin 4} {i : Nat} {x : UInt64} (hd : decode cc pc = .ok (.dload_n k4, 1)) (hi : (k4 : Nat) = i) (j : Nat) (hj : lv[j]? = some (i, .double x)) (k : zG C ω nL E o (pc + 1) lv (.double x :: st) σ) : zG C ω nL E o pc lv st σ :=
  fun v hv hE H locs ls hP hD hS hl => lv_dload_n hC.1 hC.2.1 hd hi (lv_at hl j hj) (k v hv hE H locs ls hP hD hS hl)
theorem gg_dload {S α : Type} {C : zK} {ω : zO S} {cc : ByteArray} {own : String} {nL fr lo pc : Nat} {E : α → Prop} {o : Option α} {lv : List (Nat × Value)} {st : List Value} {σ : S} (hC : zOK C ω cc own nL fr lo) {i : Nat} {x : UInt64} (hd : decode cc pc = .ok (.dload i, 2)) (j : Nat) (hj : lv[j]? = some (i, .double x)) (k : zG C ω nL E o (pc + 2) lv (.double x :: st) σ) : zG C ω nL E o pc lv st σ :=
  fun v hv hE H locs ls hP hD hS hl => lv_dload hC.1 hC.2.1 hd (lv_at hl j hj) (k v hv hE H locs ls hP hD hS hl)
theorem gg_dstore_n {S α : Type} {C : zK} {ω : zO S} {cc : ByteArray} {own : String} {nL fr lo pc : Nat} {E : α → Prop} {o : Option α} {lv : List (Nat × Value)} {st : List Value} {σ : S} (hC : zOK C ω cc own nL fr lo) {k4 : Fin 4} {i : Nat} {x : UInt64} {lv' : List (Nat × Value)} (hd : decode cc pc = .ok (.dstore_n k4, 1)) (hi : (k4 : Nat) = i) (hn : i + 1 < nL) (hl' : (i, Value.double x) :: lv.filter (fun q => !(q.1 == i) && (!(q.1 == i + 1) && !(q.1 + 1 == i && q.2.category == 2))) = lv') (k : zG C ω nL E o (pc + 1) lv' st σ) : zG C ω nL E o pc lv (.double x :: st) σ :=
  fun v hv hE H locs ls hP hD hS hl => lv_dstore_n hC.1 hC.2.1 hd hi hl hn hl' (fun ls' h' => k v hv hE H locs ls' hP hD hS h')
theorem gg_dstore {S α : Type} {C : zK} {ω : zO S} {cc : ByteArray} {own : String} {nL fr lo pc : Nat} {E : α → Prop} {o : Option α} {lv : List (Nat × Value)} {st : List Value} {σ : S} (hC : zOK C ω cc own nL fr lo) {i : Nat} {x : UInt64} {lv' : List (Nat × Value)} (hd : decode cc pc = .ok (.dstore i, 2)) (hn : i + 1 < nL) (hl' : (i, Value.double x) :: lv.filter (fun q => !(q.1 == i) && (!(q.1 == i + 1) && !(q.1 + 1 == i && q.2.category == 2))) = lv') (k : zG C ω nL E o (pc + 2) lv' st σ) : zG C ω nL E o pc lv (.double x :: st) σ :=
  fun v hv hE H locs ls hP hD hS hl => lv_dstore hC.1 hC.2.1 hd hl hn hl' (fun ls' h' => k v hv hE H locs ls' hP hD hS h')
theorem gg_aload_n {S α : Type} {C : zK} {ω : zO S} {cc : ByteArray} {own : String} {nL fr lo pc : Nat} {E : α → Prop} {o : Option α} {lv : List (Nat × Value)} {st : List Value} {σ : S} (hC : zOK C ω cc own nL fr lo) {k4 : Fin 4} {i : Nat} {x : Nat} (hd : decode cc pc = .ok (.aload_n k4, 1)) (hi : (k4 : Nat) = i) (j : Nat) (hj : lv[j]? = some (i, .ref x)) (k : zG C ω nL E o (pc + 1) lv (.ref x :: st) σ) : zG C ω nL E o pc lv st σ :=
  fun v hv hE H locs ls hP hD hS hl => lv_aload_n hC.1 hC.2.1 hd hi (lv_at hl j hj) (k v hv hE H locs ls hP hD hS hl)
theorem gg_aload {S α : Type} {C : zK} {ω : zO S} {cc : ByteArray} {own : String} {nL fr lo pc : Nat} {E : α → Prop} {o : Option α} {lv : List (Nat × Value)} {st : List Value} {σ : S} (hC : zOK C ω cc own nL fr lo) {i : Nat} {x : Nat} (hd : decode cc pc = .ok (.aload i, 2)) (j : Nat) (hj : lv[j]? = some (i, .ref x)) (k : zG C ω nL E o (pc + 2) lv (.ref x :: st) σ) : zG C ω nL E o pc lv st σ :=
  fun v hv hE H locs ls hP hD hS hl => lv_aload hC.1 hC.2.1 hd (lv_at hl j hj) (k v hv hE H locs ls hP hD hS hl)
theorem gg_astore_n {S α : Type} {C : zK} {ω : zO S} {cc : ByteArray} {own : String} {nL fr lo pc : Nat} {E : α → Prop} {o : Option α} {lv : List (Nat × Value)} {st : List Value} {σ : S} (hC : zOK C ω cc own nL fr lo) {k4 : Fin 4} {i : Nat} {x : Nat} {lv' : List (Nat × Value)} (hd : decode cc pc = .ok (.astore_n k4, 1)) (hi : (k4 : Nat) = i) (hn : i < nL) (hl' : (i, Value.ref x) :: lv.filter (fun q => !(q.1 == i) && !(q.1 + 1 == i && q.2.category == 2)) = lv') (k : zG C ω nL E o (pc + 1) lv' st σ) : zG C ω nL E o pc lv (.ref x :: st) σ :=
  fun v hv hE H locs ls hP hD hS hl => lv_astore_n hC.1 hC.2.1 hd hi hl hn hl' (fun ls' h' => k v hv hE H locs ls' hP hD hS h')
theorem gg_astore {S α : Type} {C : zK} {ω : zO S} {cc : ByteArray} {own : String} {nL fr lo pc : Nat} {E : α → Prop} {o : Option α} {lv : List (Nat × Value)} {st : List Value} {σ : S} (hC : zOK C ω cc own nL fr lo) {i : Nat} {x : Nat} {lv' : List (Nat × Value)} (hd : decode cc pc = .ok (.astore i, 2)) (hn : i < nL) (hl' : (i, Value.ref x) :: lv.filter (fun q => !(q.1 == i) && !(q.1 + 1 == i && q.2.category == 2)) = lv') (k : zG C ω nL E o (pc + 2) lv' st σ) : zG C ω nL E o pc lv (.ref x :: st) σ :=
  fun v hv hE H locs ls hP hD hS hl => lv_astore hC.1 hC.2.1 hd hl hn hl' (fun ls' h' => k v hv hE H locs ls' hP hD hS h')
theorem gg_iinc {S α : Type} {C : zK} {ω : zO S} {cc : ByteArray} {own : String} {nL fr lo pc : Nat} {E : α → Prop} {o : Option α} {lv : List (Nat × Value)} {st : List Value} {σ : S} (hC : zOK C ω cc own nL fr lo) {i j : Nat} {n : Int} {x y z : Int32} {lv' : List (Nat × Value)} (hd : decode cc pc = .ok (.iinc i n, 3)) (hj : lv[j]? = some (i, .int x)) (hz : Int32.ofInt n = z) (hn : i < nL) (hl' : (i, Value.int (x + z)) :: lv.filter (fun q => !(q.1 == i) && !(q.1 + 1 == i && q.2.category == 2)) = lv') (k : zG C ω nL E o (pc + 3) lv' st σ) : zG C ω nL E o pc lv st σ :=
  fun v hv hE H locs ls hP hD hS hl => lv_iinc hC.1 hC.2.1 hd hl hj (by rw [hz]) hn hl' (fun ls' h' => k v hv hE H locs ls' hP hD hS h')
theorem gg_iadd {S α : Type} {C : zK} {ω : zO S} {cc : ByteArray} {own : String} {nL fr lo pc : Nat} {E : α → Prop} {o : Option α} {lv : List (Nat × Value)} {st : List Value} {σ : S} (hC : zOK C ω cc own nL fr lo) {x y : Int32} (hd : decode cc pc = .ok (.iadd, 1)) (k : zG C ω nL E o (pc + 1) lv (.int (x + y) :: st) σ) : zG C ω nL E o pc lv (.int y :: .int x :: st) σ :=
  fun v hv hE H locs ls hP hD hS hl => lv_iadd hC.1 hC.2.1 hd (k v hv hE H locs ls hP hD hS hl)
theorem gg_isub {S α : Type} {C : zK} {ω : zO S} {cc : ByteArray} {own : String} {nL fr lo pc : Nat} {E : α → Prop} {o : Option α} {lv : List (Nat × Value)} {st : List Value} {σ : S} (hC : zOK C ω cc own nL fr lo) {x y : Int32} (hd : decode cc pc = .ok (.isub, 1)) (k : zG C ω nL E o (pc + 1) lv (.int (x - y) :: st) σ) : zG C ω nL E o pc lv (.int y :: .int x :: st) σ :=
  fun v hv hE H locs ls hP hD hS hl => lv_isub hC.1 hC.2.1 hd (k v hv hE H locs ls hP hD hS hl)
theorem gg_imul {S α : Type} {C : zK} {ω : zO S} {cc : ByteArray} {own : String} {nL fr lo pc : Nat} {E : α → Prop} {o : Option α} {lv : List (Nat × Value)} {st : List Value} {σ : S} (hC : zOK C ω cc own nL fr lo) {x y : Int32} (hd : decode cc pc = .ok (.imul, 1)) (k : zG C ω nL E o (pc + 1) lv (.int (x * y) :: st) σ) : zG C ω nL E o pc lv (.int y :: .int x :: st) σ :=
  fun v hv hE H locs ls hP hD hS hl => lv_imul hC.1 hC.2.1 hd (k v hv hE H locs ls hP hD hS hl)
theorem gg_iand {S α : Type} {C : zK} {ω : zO S} {cc : ByteArray} {own : String} {nL fr lo pc : Nat} {E : α → Prop} {o : Option α} {lv : List (Nat × Value)} {st : List Value} {σ : S} (hC : zOK C ω cc own nL fr lo) {x y : Int32} (hd : decode cc pc = .ok (.iand, 1)) (k : zG C ω nL E o (pc + 1) lv (.int (x &&& y) :: st) σ) : zG C ω nL E o pc lv (.int y :: .int x :: st) σ :=
  fun v hv hE H locs ls hP hD hS hl => lv_iand hC.1 hC.2.1 hd (k v hv hE H locs ls hP hD hS hl)
theorem gg_ior {S α : Type} {C : zK} {ω : zO S} {cc : ByteArray} {own : String} {nL fr lo pc : Nat} {E : α → Prop} {o : Option α} {lv : List (Nat × Value)} {st : List Value} {σ : S} (hC : zOK C ω cc own nL fr lo) {x y : Int32} (hd : decode cc pc = .ok (.ior, 1)) (k : zG C ω nL E o (pc + 1) lv (.int (x ||| y) :: st) σ) : zG C ω nL E o pc lv (.int y :: .int x :: st) σ :=
  fun v hv hE H locs ls hP hD hS hl => lv_ior hC.1 hC.2.1 hd (k v hv hE H locs ls hP hD hS hl)
theorem gg_ishl {S α : Type} {C : zK} {ω : zO S} {cc : ByteArray} {own : String} {nL fr lo pc : Nat} {E : α → Prop} {o : Option α} {lv : List (Nat × Value)} {st : List Value} {σ : S} (hC : zOK C ω cc own nL fr lo) {x y : Int32} (hd : decode cc pc = .ok (.ishl, 1)) (k : zG C ω nL E o (pc + 1) lv (.int (x <<< (y &&& 31)) :: st) σ) : zG C ω nL E o pc lv (.int y :: .int x :: st) σ :=
  fun v hv hE H locs ls hP hD hS hl => lv_ishl hC.1 hC.2.1 hd (k v hv hE H locs ls hP hD hS hl)
theorem gg_ishr {S α : Type} {C : zK} {ω : zO S} {cc : ByteArray} {own : String} {nL fr lo pc : Nat} {E : α → Prop} {o : Option α} {lv : List (Nat × Value)} {st : List Value} {σ : S} (hC : zOK C ω cc own nL fr lo) {x y : Int32} (hd : decode cc pc = .ok (.ishr, 1)) (k : zG C ω nL E o (pc + 1) lv (.int (x >>> (y &&& 31)) :: st) σ) : zG C ω nL E o pc lv (.int y :: .int x :: st) σ :=
  fun v hv hE H locs ls hP hD hS hl => lv_ishr hC.1 hC.2.1 hd (k v hv hE H locs ls hP hD hS hl)
theorem gg_ladd {S α : Type} {C : zK} {ω : zO S} {cc : ByteArray} {own : String} {nL fr lo pc : Nat} {E : α → Prop} {o : Option α} {lv : List (Nat × Value)} {st : List Value} {σ : S} (hC : zOK C ω cc own nL fr lo) {x y : Int64} (hd : decode cc pc = .ok (.ladd, 1)) (k : zG C ω nL E o (pc + 1) lv (.long (x + y) :: st) σ) : zG C ω nL E o pc lv (.long y :: .long x :: st) σ :=
  fun v hv hE H locs ls hP hD hS hl => lv_ladd hC.1 hC.2.1 hd (k v hv hE H locs ls hP hD hS hl)
theorem gg_lsub {S α : Type} {C : zK} {ω : zO S} {cc : ByteArray} {own : String} {nL fr lo pc : Nat} {E : α → Prop} {o : Option α} {lv : List (Nat × Value)} {st : List Value} {σ : S} (hC : zOK C ω cc own nL fr lo) {x y : Int64} (hd : decode cc pc = .ok (.lsub, 1)) (k : zG C ω nL E o (pc + 1) lv (.long (x - y) :: st) σ) : zG C ω nL E o pc lv (.long y :: .long x :: st) σ :=
  fun v hv hE H locs ls hP hD hS hl => lv_lsub hC.1 hC.2.1 hd (k v hv hE H locs ls hP hD hS hl)
theorem gg_lmul {S α : Type} {C : zK} {ω : zO S} {cc : ByteArray} {own : String} {nL fr lo pc : Nat} {E : α → Prop} {o : Option α} {lv : List (Nat × Value)} {st : List Value} {σ : S} (hC : zOK C ω cc own nL fr lo) {x y : Int64} (hd : decode cc pc = .ok (.lmul, 1)) (k : zG C ω nL E o (pc + 1) lv (.long (x * y) :: st) σ) : zG C ω nL E o pc lv (.long y :: .long x :: st) σ :=
  fun v hv hE H locs ls hP hD hS hl => lv_lmul hC.1 hC.2.1 hd (k v hv hE H locs ls hP hD hS hl)
theorem gg_idiv {S α : Type} {C : zK} {ω : zO S} {cc : ByteArray} {own : String} {nL fr lo pc : Nat} {E : α → Prop} {o : Option α} {lv : List (Nat × Value)} {st : List Value} {σ : S} (hC : zOK C ω cc own nL fr lo) {x y : Int32} (hd : decode cc pc = .ok (.idiv, 1)) (hy : ¬ y = 0) (k : zG C ω nL E o (pc + 1) lv (.int (x / y) :: st) σ) : zG C ω nL E o pc lv (.int y :: .int x :: st) σ :=
  fun v hv hE H locs ls hP hD hS hl => lv_idiv hC.1 hC.2.1 hd hy (k v hv hE H locs ls hP hD hS hl)
theorem gg_idiv_g {S α : Type} {C : zK} {ω : zO S} {cc : ByteArray} {own : String} {nL fr lo pc : Nat} {E : α → Prop} {o : Option α} {lv : List (Nat × Value)} {st : List Value} {σ : S} (hC : zOK C ω cc own nL fr lo) {x y : Int32} (hd : decode cc pc = .ok (.idiv, 1)) (k : zG C ω nL E o (pc + 1) lv (.int (x / y) :: st) σ) : zG C ω nL E (zg (decide (¬ y = 0)) o) pc lv (.int y :: .int x :: st) σ := by
  intro v hv hE H locs ls hP hD hS hl
  unfold zg at hv
  split at hv
  · next hy => exact lv_idiv hC.1 hC.2.1 hd (of_decide_eq_true hy) (k v hv hE H locs ls hP hD hS hl)
  · cases hv
theorem gg_irem {S α : Type} {C : zK} {ω : zO S} {cc : ByteArray} {own : String} {nL fr lo pc : Nat} {E : α → Prop} {o : Option α} {lv : List (Nat × Value)} {st : List Value} {σ : S} (hC : zOK C ω cc own nL fr lo) {x y : Int32} (hd : decode cc pc = .ok (.irem, 1)) (hy : ¬ y = 0) (k : zG C ω nL E o (pc + 1) lv (.int (x - x / y * y) :: st) σ) : zG C ω nL E o pc lv (.int y :: .int x :: st) σ :=
  fun v hv hE H locs ls hP hD hS hl => lv_irem hC.1 hC.2.1 hd hy (k v hv hE H locs ls hP hD hS hl)
theorem gg_irem_g {S α : Type} {C : zK} {ω : zO S} {cc : ByteArray} {own : String} {nL fr lo pc : Nat} {E : α → Prop} {o : Option α} {lv : List (Nat × Value)} {st : List Value} {σ : S} (hC : zOK C ω cc own nL fr lo) {x y : Int32} (hd : decode cc pc = .ok (.irem, 1)) (k : zG C ω nL E o (pc + 1) lv (.int (x - x / y * y) :: st) σ) : zG C ω nL E (zg (decide (¬ y = 0)) o) pc lv (.int y :: .int x :: st) σ := by
  intro v hv hE H locs ls hP hD hS hl
  unfold zg at hv
  split at hv
  · next hy => exact lv_irem hC.1 hC.2.1 hd (of_decide_eq_true hy) (k v hv hE H locs ls hP hD hS hl)
  · cases hv
theorem gg_ldiv {S α : Type} {C : zK} {ω : zO S} {cc : ByteArray} {own : String} {nL fr lo pc : Nat} {E : α → Prop} {o : Option α} {lv : List (Nat × Value)} {st : List Value} {σ : S} (hC : zOK C ω cc own nL fr lo) {x y : Int64} (hd : decode cc pc = .ok (.ldiv, 1)) (hy : ¬ y = 0) (k : zG C ω nL E o (pc + 1) lv (.long (x / y) :: st) σ) : zG C ω nL E o pc lv (.long y :: .long x :: st) σ :=
  fun v hv hE H locs ls hP hD hS hl => lv_ldiv hC.1 hC.2.1 hd hy (k v hv hE H locs ls hP hD hS hl)
theorem gg_ldiv_g {S α : Type} {C : zK} {ω : zO S} {cc : ByteArray} {own : String} {nL fr lo pc : Nat} {E : α → Prop} {o : Option α} {lv : List (Nat × Value)} {st : List Value} {σ : S} (hC : zOK C ω cc own nL fr lo) {x y : Int64} (hd : decode cc pc = .ok (.ldiv, 1)) (k : zG C ω nL E o (pc + 1) lv (.long (x / y) :: st) σ) : zG C ω nL E (zg (decide (¬ y = 0)) o) pc lv (.long y :: .long x :: st) σ := by
  intro v hv hE H locs ls hP hD hS hl
  unfold zg at hv
  split at hv
  · next hy => exact lv_ldiv hC.1 hC.2.1 hd (of_decide_eq_true hy) (k v hv hE H locs ls hP hD hS hl)
  · cases hv
theorem gg_lrem {S α : Type} {C : zK} {ω : zO S} {cc : ByteArray} {own : String} {nL fr lo pc : Nat} {E : α → Prop} {o : Option α} {lv : List (Nat × Value)} {st : List Value} {σ : S} (hC : zOK C ω cc own nL fr lo) {x y : Int64} (hd : decode cc pc = .ok (.lrem, 1)) (hy : ¬ y = 0) (k : zG C ω nL E o (pc + 1) lv (.long (x - x / y * y) :: st) σ) : zG C ω nL E o pc lv (.long y :: .long x :: st) σ :=
  fun v hv hE H locs ls hP hD hS hl => lv_lrem hC.1 hC.2.1 hd hy (k v hv hE H locs ls hP hD hS hl)
theorem gg_lrem_g {S α : Type} {C : zK} {ω : zO S} {cc : ByteArray} {own : String} {nL fr lo pc : Nat} {E : α → Prop} {o : Option α} {lv : List (Nat × Value)} {st : List Value} {σ : S} (hC : zOK C ω cc own nL fr lo) {x y : Int64} (hd : decode cc pc = .ok (.lrem, 1)) (k : zG C ω nL E o (pc + 1) lv (.long (x - x / y * y) :: st) σ) : zG C ω nL E (zg (decide (¬ y = 0)) o) pc lv (.long y :: .long x :: st) σ := by
  intro v hv hE H locs ls hP hD hS hl
  unfold zg at hv
  split at hv
  · next hy => exact lv_lrem hC.1 hC.2.1 hd (of_decide_eq_true hy) (k v hv hE H locs ls hP hD hS hl)
  · cases hv
theorem gg_ineg {S α : Type} {C : zK} {ω : zO S} {cc : ByteArray} {own : String} {nL fr lo pc : Nat} {E : α → Prop} {o : Option α} {lv : List (Nat × Value)} {st : List Value} {σ : S} (hC : zOK C ω cc own nL fr lo) {x : Int32} (hd : decode cc pc = .ok (.ineg, 1)) (k : zG C ω nL E o (pc + 1) lv (.int (-x) :: st) σ) : zG C ω nL E o pc lv (.int x :: st) σ :=
  fun v hv hE H locs ls hP hD hS hl => lv_ineg hC.1 hC.2.1 hd (k v hv hE H locs ls hP hD hS hl)
theorem gg_lneg {S α : Type} {C : zK} {ω : zO S} {cc : ByteArray} {own : String} {nL fr lo pc : Nat} {E : α → Prop} {o : Option α} {lv : List (Nat × Value)} {st : List Value} {σ : S} (hC : zOK C ω cc own nL fr lo) {x : Int64} (hd : decode cc pc = .ok (.lneg, 1)) (k : zG C ω nL E o (pc + 1) lv (.long (-x) :: st) σ) : zG C ω nL E o pc lv (.long x :: st) σ :=
  fun v hv hE H locs ls hP hD hS hl => lv_lneg hC.1 hC.2.1 hd (k v hv hE H locs ls hP hD hS hl)
theorem gg_i2l {S α : Type} {C : zK} {ω : zO S} {cc : ByteArray} {own : String} {nL fr lo pc : Nat} {E : α → Prop} {o : Option α} {lv : List (Nat × Value)} {st : List Value} {σ : S} (hC : zOK C ω cc own nL fr lo) {x : Int32} (hd : decode cc pc = .ok (.i2l, 1)) (k : zG C ω nL E o (pc + 1) lv (.long (x.toInt64) :: st) σ) : zG C ω nL E o pc lv (.int x :: st) σ :=
  fun v hv hE H locs ls hP hD hS hl => lv_i2l hC.1 hC.2.1 hd rfl (k v hv hE H locs ls hP hD hS hl)
theorem gg_l2i {S α : Type} {C : zK} {ω : zO S} {cc : ByteArray} {own : String} {nL fr lo pc : Nat} {E : α → Prop} {o : Option α} {lv : List (Nat × Value)} {st : List Value} {σ : S} (hC : zOK C ω cc own nL fr lo) {x : Int64} (hd : decode cc pc = .ok (.l2i, 1)) (k : zG C ω nL E o (pc + 1) lv (.int (x.toInt32) :: st) σ) : zG C ω nL E o pc lv (.long x :: st) σ :=
  fun v hv hE H locs ls hP hD hS hl => lv_l2i hC.1 hC.2.1 hd rfl (k v hv hE H locs ls hP hD hS hl)
theorem gg_i2f {S α : Type} {C : zK} {ω : zO S} {cc : ByteArray} {own : String} {nL fr lo pc : Nat} {E : α → Prop} {o : Option α} {lv : List (Nat × Value)} {st : List Value} {σ : S} (hC : zOK C ω cc own nL fr lo) {x : Int32} (hd : decode cc pc = .ok (.i2f, 1)) (k : zG C ω nL E o (pc + 1) lv (.float (FP.i2f x) :: st) σ) : zG C ω nL E o pc lv (.int x :: st) σ :=
  fun v hv hE H locs ls hP hD hS hl => lv_i2f hC.1 hC.2.1 hd (k v hv hE H locs ls hP hD hS hl)
theorem gg_i2d {S α : Type} {C : zK} {ω : zO S} {cc : ByteArray} {own : String} {nL fr lo pc : Nat} {E : α → Prop} {o : Option α} {lv : List (Nat × Value)} {st : List Value} {σ : S} (hC : zOK C ω cc own nL fr lo) {x : Int32} (hd : decode cc pc = .ok (.i2d, 1)) (k : zG C ω nL E o (pc + 1) lv (.double (FP.i2d x) :: st) σ) : zG C ω nL E o pc lv (.int x :: st) σ :=
  fun v hv hE H locs ls hP hD hS hl => lv_i2d hC.1 hC.2.1 hd (k v hv hE H locs ls hP hD hS hl)
theorem gg_l2d {S α : Type} {C : zK} {ω : zO S} {cc : ByteArray} {own : String} {nL fr lo pc : Nat} {E : α → Prop} {o : Option α} {lv : List (Nat × Value)} {st : List Value} {σ : S} (hC : zOK C ω cc own nL fr lo) {x : Int64} (hd : decode cc pc = .ok (.l2d, 1)) (k : zG C ω nL E o (pc + 1) lv (.double (FP.l2d x) :: st) σ) : zG C ω nL E o pc lv (.long x :: st) σ :=
  fun v hv hE H locs ls hP hD hS hl => lv_l2d hC.1 hC.2.1 hd (k v hv hE H locs ls hP hD hS hl)
theorem gg_d2l {S α : Type} {C : zK} {ω : zO S} {cc : ByteArray} {own : String} {nL fr lo pc : Nat} {E : α → Prop} {o : Option α} {lv : List (Nat × Value)} {st : List Value} {σ : S} (hC : zOK C ω cc own nL fr lo) {x : UInt64} (hd : decode cc pc = .ok (.d2l, 1)) (k : zG C ω nL E o (pc + 1) lv (.long (FP.d2l x) :: st) σ) : zG C ω nL E o pc lv (.double x :: st) σ :=
  fun v hv hE H locs ls hP hD hS hl => lv_d2l hC.1 hC.2.1 hd (k v hv hE H locs ls hP hD hS hl)
def zn32 (r : UInt32) : Bool := decide (r &&& 0x7fffffff ≤ 0x7f800000)
def zn64 (r : UInt64) : Bool := decide (r &&& 0x7fffffffffffffff ≤ 0x7ff0000000000000)
theorem zn32_ok {r : UInt32} (h : zn32 r = true) : vf_n32 r := by
  unfold zn32 at h
  have h2 : r &&& 0x7fffffff ≤ 0x7f800000 := of_decide_eq_true h
  exact h2
theorem zn64_ok {r : UInt64} (h : zn64 r = true) : vf_n64 r := by
  unfold zn64 at h
  have h2 : r &&& 0x7fffffffffffffff ≤ 0x7ff0000000000000 := of_decide_eq_true h
  exact h2
theorem gg_fdiv {S α : Type} {C : zK} {ω : zO S} {cc : ByteArray} {own : String} {nL fr lo pc : Nat} {E : α → Prop} {o : Option α} {lv : List (Nat × Value)} {st : List Value} {σ : S} (hC : zOK C ω cc own nL fr lo) {x y : UInt32} (hd : decode cc pc = .ok (.fdiv, 1)) (k : zG C ω nL E o (pc + 1) lv (.float (FP.fdiv x y) :: st) σ) : zG C ω nL E (zg (zn32 (FP.fdiv x y)) o) pc lv (.float y :: .float x :: st) σ := by
  intro v hv hE H locs ls hP hD hS hl
  unfold zg at hv
  split at hv
  · next hy => exact lv_fdiv hC.1 hC.2.1 hd (zn32_ok hy) (k v hv hE H locs ls hP hD hS hl)
  · cases hv
theorem gg_ddiv {S α : Type} {C : zK} {ω : zO S} {cc : ByteArray} {own : String} {nL fr lo pc : Nat} {E : α → Prop} {o : Option α} {lv : List (Nat × Value)} {st : List Value} {σ : S} (hC : zOK C ω cc own nL fr lo) {x y : UInt64} (hd : decode cc pc = .ok (.ddiv, 1)) (k : zG C ω nL E o (pc + 1) lv (.double (FP.ddiv x y) :: st) σ) : zG C ω nL E (zg (zn64 (FP.ddiv x y)) o) pc lv (.double y :: .double x :: st) σ := by
  intro v hv hE H locs ls hP hD hS hl
  unfold zg at hv
  split at hv
  · next hy => exact lv_ddiv hC.1 hC.2.1 hd (zn64_ok hy) (k v hv hE H locs ls hP hD hS hl)
  · cases hv
theorem gg_dmul {S α : Type} {C : zK} {ω : zO S} {cc : ByteArray} {own : String} {nL fr lo pc : Nat} {E : α → Prop} {o : Option α} {lv : List (Nat × Value)} {st : List Value} {σ : S} (hC : zOK C ω cc own nL fr lo) {x y : UInt64} (hd : decode cc pc = .ok (.dmul, 1)) (k : zG C ω nL E o (pc + 1) lv (.double (FP.dmul x y) :: st) σ) : zG C ω nL E (zg (zn64 (FP.dmul x y)) o) pc lv (.double y :: .double x :: st) σ := by
  intro v hv hE H locs ls hP hD hS hl
  unfold zg at hv
  split at hv
  · next hy => exact lv_dmul hC.1 hC.2.1 hd (zn64_ok hy) (k v hv hE H locs ls hP hD hS hl)
  · cases hv
theorem gg_f2d {S α : Type} {C : zK} {ω : zO S} {cc : ByteArray} {own : String} {nL fr lo pc : Nat} {E : α → Prop} {o : Option α} {lv : List (Nat × Value)} {st : List Value} {σ : S} (hC : zOK C ω cc own nL fr lo) {x : UInt32} (hd : decode cc pc = .ok (.f2d, 1)) (k : zG C ω nL E o (pc + 1) lv (.double (FP.f2d x) :: st) σ) : zG C ω nL E (zg (zn64 (FP.f2d x)) o) pc lv (.float x :: st) σ := by
  intro v hv hE H locs ls hP hD hS hl
  unfold zg at hv
  split at hv
  · next hy => exact lv_f2d hC.1 hC.2.1 hd (zn64_ok hy) (k v hv hE H locs ls hP hD hS hl)
  · cases hv
theorem gg_dup {S α : Type} {C : zK} {ω : zO S} {cc : ByteArray} {own : String} {nL fr lo pc : Nat} {E : α → Prop} {o : Option α} {lv : List (Nat × Value)} {st : List Value} {σ : S} (hC : zOK C ω cc own nL fr lo) {a : Value} (hd : decode cc pc = .ok (.dup, 1)) (ha : a.category = 1) (k : zG C ω nL E o (pc + 1) lv (a :: a :: st) σ) : zG C ω nL E o pc lv (a :: st) σ :=
  fun v hv hE H locs ls hP hD hS hl => lv_dup hC.1 hC.2.1 hd ha (k v hv hE H locs ls hP hD hS hl)
theorem gg_pop {S α : Type} {C : zK} {ω : zO S} {cc : ByteArray} {own : String} {nL fr lo pc : Nat} {E : α → Prop} {o : Option α} {lv : List (Nat × Value)} {st : List Value} {σ : S} (hC : zOK C ω cc own nL fr lo) {a : Value} (hd : decode cc pc = .ok (.pop, 1)) (ha : a.category = 1) (k : zG C ω nL E o (pc + 1) lv st σ) : zG C ω nL E o pc lv (a :: st) σ :=
  fun v hv hE H locs ls hP hD hS hl => lv_pop hC.1 hC.2.1 hd ha (k v hv hE H locs ls hP hD hS hl)
theorem gg_dup2 {S α : Type} {C : zK} {ω : zO S} {cc : ByteArray} {own : String} {nL fr lo pc : Nat} {E : α → Prop} {o : Option α} {lv : List (Nat × Value)} {st : List Value} {σ : S} (hC : zOK C ω cc own nL fr lo) {a b : Value} (hd : decode cc pc = .ok (.dup2, 1)) (ha : a.category = 1) (hb : b.category = 1) (k : zG C ω nL E o (pc + 1) lv (a :: b :: a :: b :: st) σ) : zG C ω nL E o pc lv (a :: b :: st) σ :=
  fun v hv hE H locs ls hP hD hS hl => lv_dup2_11 hC.1 hC.2.1 hd ha hb (k v hv hE H locs ls hP hD hS hl)
theorem gg_if_eq {S α : Type} {C : zK} {ω : zO S} {cc : ByteArray} {own : String} {nL fr lo pc : Nat} {E : α → Prop} {o1 o2 : Option α} {lv : List (Nat × Value)} {st : List Value} {σ : S} (hC : zOK C ω cc own nL fr lo) {x : Int32} {off : Int} {tgt : Nat} (hd : decode cc pc = .ok (.ifCond .eq off, 3)) (ht : (pc : Int) + off = (tgt : Int)) (kt : x = 0 → zG C ω nL E o1 tgt lv st σ) (kf : ¬ (x = 0) → zG C ω nL E o2 (pc + 3) lv st σ) : zG C ω nL E (if x = 0 then o1 else o2) pc lv (.int x :: st) σ := by
  intro v hv hE H locs ls hP hD hS hl
  exact lv_if_eq hC.1 hC.2.1 hd ht (fun c => kt c v (by rwa [if_pos c] at hv) hE H locs ls hP hD hS hl) (fun c => kf c v (by rwa [if_neg c] at hv) hE H locs ls hP hD hS hl)
theorem gg_icmp_eq {S α : Type} {C : zK} {ω : zO S} {cc : ByteArray} {own : String} {nL fr lo pc : Nat} {E : α → Prop} {o1 o2 : Option α} {lv : List (Nat × Value)} {st : List Value} {σ : S} (hC : zOK C ω cc own nL fr lo) {x y : Int32} {off : Int} {tgt : Nat} (hd : decode cc pc = .ok (.if_icmp .eq off, 3)) (ht : (pc : Int) + off = (tgt : Int)) (kt : x = y → zG C ω nL E o1 tgt lv st σ) (kf : ¬ (x = y) → zG C ω nL E o2 (pc + 3) lv st σ) : zG C ω nL E (if x = y then o1 else o2) pc lv (.int y :: .int x :: st) σ := by
  intro v hv hE H locs ls hP hD hS hl
  exact lv_icmp_eq hC.1 hC.2.1 hd ht (fun c => kt c v (by rwa [if_pos c] at hv) hE H locs ls hP hD hS hl) (fun c => kf c v (by rwa [if_neg c] at hv) hE H locs ls hP hD hS hl)
theorem gg_if_ne {S α : Type} {C : zK} {ω : zO S} {cc : ByteArray} {own : String} {nL fr lo pc : Nat} {E : α → Prop} {o1 o2 : Option α} {lv : List (Nat × Value)} {st : List Value} {σ : S} (hC : zOK C ω cc own nL fr lo) {x : Int32} {off : Int} {tgt : Nat} (hd : decode cc pc = .ok (.ifCond .ne off, 3)) (ht : (pc : Int) + off = (tgt : Int)) (kf : x = 0 → zG C ω nL E o1 (pc + 3) lv st σ) (kt : ¬ x = 0 → zG C ω nL E o2 tgt lv st σ) : zG C ω nL E (if x = 0 then o1 else o2) pc lv (.int x :: st) σ := by
  intro v hv hE H locs ls hP hD hS hl
  exact lv_if_ne hC.1 hC.2.1 hd ht (fun c => kt c v (by rwa [if_neg c] at hv) hE H locs ls hP hD hS hl) (fun c => kf c v (by rwa [if_pos c] at hv) hE H locs ls hP hD hS hl)
theorem gg_icmp_ne {S α : Type} {C : zK} {ω : zO S} {cc : ByteArray} {own : String} {nL fr lo pc : Nat} {E : α → Prop} {o1 o2 : Option α} {lv : List (Nat × Value)} {st : List Value} {σ : S} (hC : zOK C ω cc own nL fr lo) {x y : Int32} {off : Int} {tgt : Nat} (hd : decode cc pc = .ok (.if_icmp .ne off, 3)) (ht : (pc : Int) + off = (tgt : Int)) (kf : x = y → zG C ω nL E o1 (pc + 3) lv st σ) (kt : ¬ x = y → zG C ω nL E o2 tgt lv st σ) : zG C ω nL E (if x = y then o1 else o2) pc lv (.int y :: .int x :: st) σ := by
  intro v hv hE H locs ls hP hD hS hl
  exact lv_icmp_ne hC.1 hC.2.1 hd ht (fun c => kt c v (by rwa [if_neg c] at hv) hE H locs ls hP hD hS hl) (fun c => kf c v (by rwa [if_pos c] at hv) hE H locs ls hP hD hS hl)
theorem gg_if_lt {S α : Type} {C : zK} {ω : zO S} {cc : ByteArray} {own : String} {nL fr lo pc : Nat} {E : α → Prop} {o1 o2 : Option α} {lv : List (Nat × Value)} {st : List Value} {σ : S} (hC : zOK C ω cc own nL fr lo) {x : Int32} {off : Int} {tgt : Nat} (hd : decode cc pc = .ok (.ifCond .lt off, 3)) (ht : (pc : Int) + off = (tgt : Int)) (kt : x < 0 → zG C ω nL E o1 tgt lv st σ) (kf : ¬ (x < 0) → zG C ω nL E o2 (pc + 3) lv st σ) : zG C ω nL E (if x < 0 then o1 else o2) pc lv (.int x :: st) σ := by
  intro v hv hE H locs ls hP hD hS hl
  exact lv_if_lt hC.1 hC.2.1 hd ht (fun c => kt c v (by rwa [if_pos c] at hv) hE H locs ls hP hD hS hl) (fun c => kf c v (by rwa [if_neg c] at hv) hE H locs ls hP hD hS hl)
theorem gg_icmp_lt {S α : Type} {C : zK} {ω : zO S} {cc : ByteArray} {own : String} {nL fr lo pc : Nat} {E : α → Prop} {o1 o2 : Option α} {lv : List (Nat × Value)} {st : List Value} {σ : S} (hC : zOK C ω cc own nL fr lo) {x y : Int32} {off : Int} {tgt : Nat} (hd : decode cc pc = .ok (.if_icmp .lt off, 3)) (ht : (pc : Int) + off = (tgt : Int)) (kt : x < y → zG C ω nL E o1 tgt lv st σ) (kf : ¬ (x < y) → zG C ω nL E o2 (pc + 3) lv st σ) : zG C ω nL E (if x < y then o1 else o2) pc lv (.int y :: .int x :: st) σ := by
  intro v hv hE H locs ls hP hD hS hl
  exact lv_icmp_lt hC.1 hC.2.1 hd ht (fun c => kt c v (by rwa [if_pos c] at hv) hE H locs ls hP hD hS hl) (fun c => kf c v (by rwa [if_neg c] at hv) hE H locs ls hP hD hS hl)
theorem gg_if_ge {S α : Type} {C : zK} {ω : zO S} {cc : ByteArray} {own : String} {nL fr lo pc : Nat} {E : α → Prop} {o1 o2 : Option α} {lv : List (Nat × Value)} {st : List Value} {σ : S} (hC : zOK C ω cc own nL fr lo) {x : Int32} {off : Int} {tgt : Nat} (hd : decode cc pc = .ok (.ifCond .ge off, 3)) (ht : (pc : Int) + off = (tgt : Int)) (kt : 0 ≤ x → zG C ω nL E o1 tgt lv st σ) (kf : ¬ (0 ≤ x) → zG C ω nL E o2 (pc + 3) lv st σ) : zG C ω nL E (if 0 ≤ x then o1 else o2) pc lv (.int x :: st) σ := by
  intro v hv hE H locs ls hP hD hS hl
  exact lv_if_ge hC.1 hC.2.1 hd ht (fun c => kt c v (by rwa [if_pos c] at hv) hE H locs ls hP hD hS hl) (fun c => kf c v (by rwa [if_neg c] at hv) hE H locs ls hP hD hS hl)
theorem gg_icmp_ge {S α : Type} {C : zK} {ω : zO S} {cc : ByteArray} {own : String} {nL fr lo pc : Nat} {E : α → Prop} {o1 o2 : Option α} {lv : List (Nat × Value)} {st : List Value} {σ : S} (hC : zOK C ω cc own nL fr lo) {x y : Int32} {off : Int} {tgt : Nat} (hd : decode cc pc = .ok (.if_icmp .ge off, 3)) (ht : (pc : Int) + off = (tgt : Int)) (kt : y ≤ x → zG C ω nL E o1 tgt lv st σ) (kf : ¬ (y ≤ x) → zG C ω nL E o2 (pc + 3) lv st σ) : zG C ω nL E (if y ≤ x then o1 else o2) pc lv (.int y :: .int x :: st) σ := by
  intro v hv hE H locs ls hP hD hS hl
  exact lv_icmp_ge hC.1 hC.2.1 hd ht (fun c => kt c v (by rwa [if_pos c] at hv) hE H locs ls hP hD hS hl) (fun c => kf c v (by rwa [if_neg c] at hv) hE H locs ls hP hD hS hl)
theorem gg_if_gt {S α : Type} {C : zK} {ω : zO S} {cc : ByteArray} {own : String} {nL fr lo pc : Nat} {E : α → Prop} {o1 o2 : Option α} {lv : List (Nat × Value)} {st : List Value} {σ : S} (hC : zOK C ω cc own nL fr lo) {x : Int32} {off : Int} {tgt : Nat} (hd : decode cc pc = .ok (.ifCond .gt off, 3)) (ht : (pc : Int) + off = (tgt : Int)) (kt : 0 < x → zG C ω nL E o1 tgt lv st σ) (kf : ¬ (0 < x) → zG C ω nL E o2 (pc + 3) lv st σ) : zG C ω nL E (if 0 < x then o1 else o2) pc lv (.int x :: st) σ := by
  intro v hv hE H locs ls hP hD hS hl
  exact lv_if_gt hC.1 hC.2.1 hd ht (fun c => kt c v (by rwa [if_pos c] at hv) hE H locs ls hP hD hS hl) (fun c => kf c v (by rwa [if_neg c] at hv) hE H locs ls hP hD hS hl)
theorem gg_icmp_gt {S α : Type} {C : zK} {ω : zO S} {cc : ByteArray} {own : String} {nL fr lo pc : Nat} {E : α → Prop} {o1 o2 : Option α} {lv : List (Nat × Value)} {st : List Value} {σ : S} (hC : zOK C ω cc own nL fr lo) {x y : Int32} {off : Int} {tgt : Nat} (hd : decode cc pc = .ok (.if_icmp .gt off, 3)) (ht : (pc : Int) + off = (tgt : Int)) (kt : y < x → zG C ω nL E o1 tgt lv st σ) (kf : ¬ (y < x) → zG C ω nL E o2 (pc + 3) lv st σ) : zG C ω nL E (if y < x then o1 else o2) pc lv (.int y :: .int x :: st) σ := by
  intro v hv hE H locs ls hP hD hS hl
  exact lv_icmp_gt hC.1 hC.2.1 hd ht (fun c => kt c v (by rwa [if_pos c] at hv) hE H locs ls hP hD hS hl) (fun c => kf c v (by rwa [if_neg c] at hv) hE H locs ls hP hD hS hl)
theorem gg_if_le {S α : Type} {C : zK} {ω : zO S} {cc : ByteArray} {own : String} {nL fr lo pc : Nat} {E : α → Prop} {o1 o2 : Option α} {lv : List (Nat × Value)} {st : List Value} {σ : S} (hC : zOK C ω cc own nL fr lo) {x : Int32} {off : Int} {tgt : Nat} (hd : decode cc pc = .ok (.ifCond .le off, 3)) (ht : (pc : Int) + off = (tgt : Int)) (kt : x ≤ 0 → zG C ω nL E o1 tgt lv st σ) (kf : ¬ (x ≤ 0) → zG C ω nL E o2 (pc + 3) lv st σ) : zG C ω nL E (if x ≤ 0 then o1 else o2) pc lv (.int x :: st) σ := by
  intro v hv hE H locs ls hP hD hS hl
  exact lv_if_le hC.1 hC.2.1 hd ht (fun c => kt c v (by rwa [if_pos c] at hv) hE H locs ls hP hD hS hl) (fun c => kf c v (by rwa [if_neg c] at hv) hE H locs ls hP hD hS hl)
theorem gg_icmp_le {S α : Type} {C : zK} {ω : zO S} {cc : ByteArray} {own : String} {nL fr lo pc : Nat} {E : α → Prop} {o1 o2 : Option α} {lv : List (Nat × Value)} {st : List Value} {σ : S} (hC : zOK C ω cc own nL fr lo) {x y : Int32} {off : Int} {tgt : Nat} (hd : decode cc pc = .ok (.if_icmp .le off, 3)) (ht : (pc : Int) + off = (tgt : Int)) (kt : x ≤ y → zG C ω nL E o1 tgt lv st σ) (kf : ¬ (x ≤ y) → zG C ω nL E o2 (pc + 3) lv st σ) : zG C ω nL E (if x ≤ y then o1 else o2) pc lv (.int y :: .int x :: st) σ := by
  intro v hv hE H locs ls hP hD hS hl
  exact lv_icmp_le hC.1 hC.2.1 hd ht (fun c => kt c v (by rwa [if_pos c] at hv) hE H locs ls hP hD hS hl) (fun c => kf c v (by rwa [if_neg c] at hv) hE H locs ls hP hD hS hl)
theorem gg_lcmp_eq {S α : Type} {C : zK} {ω : zO S} {cc : ByteArray} {own : String} {nL fr lo pc : Nat} {E : α → Prop} {o1 o2 : Option α} {lv : List (Nat × Value)} {st : List Value} {σ : S} (hC : zOK C ω cc own nL fr lo) {x y : Int64} {off : Int} {tgt : Nat} (hd0 : decode cc pc = .ok (.lcmp, 1)) (hd : decode cc (pc + 1) = .ok (.ifCond .eq off, 3)) (ht : ((pc + 1 : Nat) : Int) + off = (tgt : Int)) (kt : x = y → zG C ω nL E o1 tgt lv st σ) (kf : ¬ (x = y) → zG C ω nL E o2 (pc + 1 + 3) lv st σ) : zG C ω nL E (if x = y then o1 else o2) pc lv (.long y :: .long x :: st) σ := by
  intro v hv hE H locs ls hP hD hS hl
  exact W.lcmp hC.1 hC.2.1 hd0 (lv_if_eq hC.1 hC.2.1 hd ht (fun c => kt ((lg_cmp_eq x y).mp c) v (by rwa [if_pos ((lg_cmp_eq x y).mp c)] at hv) hE H locs ls hP hD hS hl) (fun c => kf (fun z => c ((lg_cmp_eq x y).mpr z)) v (by rwa [if_neg (fun z => c ((lg_cmp_eq x y).mpr z))] at hv) hE H locs ls hP hD hS hl))
theorem gg_lcmp_ne {S α : Type} {C : zK} {ω : zO S} {cc : ByteArray} {own : String} {nL fr lo pc : Nat} {E : α → Prop} {o1 o2 : Option α} {lv : List (Nat × Value)} {st : List Value} {σ : S} (hC : zOK C ω cc own nL fr lo) {x y : Int64} {off : Int} {tgt : Nat} (hd0 : decode cc pc = .ok (.lcmp, 1)) (hd : decode cc (pc + 1) = .ok (.ifCond .ne off, 3)) (ht : ((pc + 1 : Nat) : Int) + off = (tgt : Int)) (kf : x = y → zG C ω nL E o1 (pc + 1 + 3) lv st σ) (kt : ¬ x = y → zG C ω nL E o2 tgt lv st σ) : zG C ω nL E (if x = y then o1 else o2) pc lv (.long y :: .long x :: st) σ := by
  intro v hv hE H locs ls hP hD hS hl
  exact W.lcmp hC.1 hC.2.1 hd0 (lv_if_ne hC.1 hC.2.1 hd ht (fun c => kt (fun z => c ((lg_cmp_eq x y).mpr z)) v (by rwa [if_neg (fun z => c ((lg_cmp_eq x y).mpr z))] at hv) hE H locs ls hP hD hS hl) (fun c => kf ((lg_cmp_eq x y).mp c) v (by rwa [if_pos ((lg_cmp_eq x y).mp c)] at hv) hE H locs ls hP hD hS hl))
theorem gg_lcmp_lt {S α : Type} {C : zK} {ω : zO S} {cc : ByteArray} {own : String} {nL fr lo pc : Nat} {E : α → Prop} {o1 o2 : Option α} {lv : List (Nat × Value)} {st : List Value} {σ : S} (hC : zOK C ω cc own nL fr lo) {x y : Int64} {off : Int} {tgt : Nat} (hd0 : decode cc pc = .ok (.lcmp, 1)) (hd : decode cc (pc + 1) = .ok (.ifCond .lt off, 3)) (ht : ((pc + 1 : Nat) : Int) + off = (tgt : Int)) (kt : x < y → zG C ω nL E o1 tgt lv st σ) (kf : ¬ (x < y) → zG C ω nL E o2 (pc + 1 + 3) lv st σ) : zG C ω nL E (if x < y then o1 else o2) pc lv (.long y :: .long x :: st) σ := by
  intro v hv hE H locs ls hP hD hS hl
  exact W.lcmp hC.1 hC.2.1 hd0 (lv_if_lt hC.1 hC.2.1 hd ht (fun c => kt ((lg_cmp_lt x y).mp c) v (by rwa [if_pos ((lg_cmp_lt x y).mp c)] at hv) hE H locs ls hP hD hS hl) (fun c => kf (fun z => c ((lg_cmp_lt x y).mpr z)) v (by rwa [if_neg (fun z => c ((lg_cmp_lt x y).mpr z))] at hv) hE H locs ls hP hD hS hl))
theorem gg_lcmp_ge {S α : Type} {C : zK} {ω : zO S} {cc : ByteArray} {own : String} {nL fr lo pc : Nat} {E : α → Prop} {o1 o2 : Option α} {lv : List (Nat × Value)} {st : List Value} {σ : S} (hC : zOK C ω cc own nL fr lo) {x y : Int64} {off : Int} {tgt : Nat} (hd0 : decode cc pc = .ok (.lcmp, 1)) (hd : decode cc (pc + 1) = .ok (.ifCond .ge off, 3)) (ht : ((pc + 1 : Nat) : Int) + off = (tgt : Int)) (kt : y ≤ x → zG C ω nL E o1 tgt lv st σ) (kf : ¬ (y ≤ x) → zG C ω nL E o2 (pc + 1 + 3) lv st σ) : zG C ω nL E (if y ≤ x then o1 else o2) pc lv (.long y :: .long x :: st) σ := by
  intro v hv hE H locs ls hP hD hS hl
  exact W.lcmp hC.1 hC.2.1 hd0 (lv_if_ge hC.1 hC.2.1 hd ht (fun c => kt ((lg_cmp_ge x y).mp c) v (by rwa [if_pos ((lg_cmp_ge x y).mp c)] at hv) hE H locs ls hP hD hS hl) (fun c => kf (fun z => c ((lg_cmp_ge x y).mpr z)) v (by rwa [if_neg (fun z => c ((lg_cmp_ge x y).mpr z))] at hv) hE H locs ls hP hD hS hl))
theorem gg_lcmp_gt {S α : Type} {C : zK} {ω : zO S} {cc : ByteArray} {own : String} {nL fr lo pc : Nat} {E : α → Prop} {o1 o2 : Option α} {lv : List (Nat × Value)} {st : List Value} {σ : S} (hC : zOK C ω cc own nL fr lo) {x y : Int64} {off : Int} {tgt : Nat} (hd0 : decode cc pc = .ok (.lcmp, 1)) (hd : decode cc (pc + 1) = .ok (.ifCond .gt off, 3)) (ht : ((pc + 1 : Nat) : Int) + off = (tgt : Int)) (kt : y < x → zG C ω nL E o1 tgt lv st σ) (kf : ¬ (y < x) → zG C ω nL E o2 (pc + 1 + 3) lv st σ) : zG C ω nL E (if y < x then o1 else o2) pc lv (.long y :: .long x :: st) σ := by
  intro v hv hE H locs ls hP hD hS hl
  exact W.lcmp hC.1 hC.2.1 hd0 (lv_if_gt hC.1 hC.2.1 hd ht (fun c => kt ((lg_cmp_gt x y).mp c) v (by rwa [if_pos ((lg_cmp_gt x y).mp c)] at hv) hE H locs ls hP hD hS hl) (fun c => kf (fun z => c ((lg_cmp_gt x y).mpr z)) v (by rwa [if_neg (fun z => c ((lg_cmp_gt x y).mpr z))] at hv) hE H locs ls hP hD hS hl))
theorem gg_lcmp_le {S α : Type} {C : zK} {ω : zO S} {cc : ByteArray} {own : String} {nL fr lo pc : Nat} {E : α → Prop} {o1 o2 : Option α} {lv : List (Nat × Value)} {st : List Value} {σ : S} (hC : zOK C ω cc own nL fr lo) {x y : Int64} {off : Int} {tgt : Nat} (hd0 : decode cc pc = .ok (.lcmp, 1)) (hd : decode cc (pc + 1) = .ok (.ifCond .le off, 3)) (ht : ((pc + 1 : Nat) : Int) + off = (tgt : Int)) (kt : x ≤ y → zG C ω nL E o1 tgt lv st σ) (kf : ¬ (x ≤ y) → zG C ω nL E o2 (pc + 1 + 3) lv st σ) : zG C ω nL E (if x ≤ y then o1 else o2) pc lv (.long y :: .long x :: st) σ := by
  intro v hv hE H locs ls hP hD hS hl
  exact W.lcmp hC.1 hC.2.1 hd0 (lv_if_le hC.1 hC.2.1 hd ht (fun c => kt ((lg_cmp_le x y).mp c) v (by rwa [if_pos ((lg_cmp_le x y).mp c)] at hv) hE H locs ls hP hD hS hl) (fun c => kf (fun z => c ((lg_cmp_le x y).mpr z)) v (by rwa [if_neg (fun z => c ((lg_cmp_le x y).mpr z))] at hv) hE H locs ls hP hD hS hl))
theorem gg_dcmp_eq {S α : Type} {C : zK} {ω : zO S} {cc : ByteArray} {own : String} {nL fr lo pc : Nat} {E : α → Prop} {o1 o2 : Option α} {lv : List (Nat × Value)} {st : List Value} {σ : S} (hC : zOK C ω cc own nL fr lo) {x y : UInt64} {op : CmpOp} {off : Int} {tgt : Nat} (hd0 : decode cc pc = .ok (.dcmp op, 1)) (hd : decode cc (pc + 1) = .ok (.ifCond .eq off, 3)) (ht : ((pc + 1 : Nat) : Int) + off = (tgt : Int)) (kt : Op.cmpValue (FP.dcmp x y) op = 0 → zG C ω nL E o1 tgt lv st σ) (kf : ¬ (Op.cmpValue (FP.dcmp x y) op = 0) → zG C ω nL E o2 (pc + 1 + 3) lv st σ) : zG C ω nL E (if Op.cmpValue (FP.dcmp x y) op = 0 then o1 else o2) pc lv (.double y :: .double x :: st) σ := by
  intro v hv hE H locs ls hP hD hS hl
  exact lv_dcmp hC.1 hC.2.1 hd0 (lv_if_eq hC.1 hC.2.1 hd ht (fun c => kt c v (by rwa [if_pos c] at hv) hE H locs ls hP hD hS hl) (fun c => kf c v (by rwa [if_neg c] at hv) hE H locs ls hP hD hS hl))
theorem gg_dcmp_lt {S α : Type} {C : zK} {ω : zO S} {cc : ByteArray} {own : String} {nL fr lo pc : Nat} {E : α → Prop} {o1 o2 : Option α} {lv : List (Nat × Value)} {st : List Value} {σ : S} (hC : zOK C ω cc own nL fr lo) {x y : UInt64} {op : CmpOp} {off : Int} {tgt : Nat} (hd0 : decode cc pc = .ok (.dcmp op, 1)) (hd : decode cc (pc + 1) = .ok (.ifCond .lt off, 3)) (ht : ((pc + 1 : Nat) : Int) + off = (tgt : Int)) (kt : Op.cmpValue (FP.dcmp x y) op < 0 → zG C ω nL E o1 tgt lv st σ) (kf : ¬ (Op.cmpValue (FP.dcmp x y) op < 0) → zG C ω nL E o2 (pc + 1 + 3) lv st σ) : zG C ω nL E (if Op.cmpValue (FP.dcmp x y) op < 0 then o1 else o2) pc lv (.double y :: .double x :: st) σ := by
  intro v hv hE H locs ls hP hD hS hl
  exact lv_dcmp hC.1 hC.2.1 hd0 (lv_if_lt hC.1 hC.2.1 hd ht (fun c => kt c v (by rwa [if_pos c] at hv) hE H locs ls hP hD hS hl) (fun c => kf c v (by rwa [if_neg c] at hv) hE H locs ls hP hD hS hl))
theorem gg_dcmp_ge {S α : Type} {C : zK} {ω : zO S} {cc : ByteArray} {own : String} {nL fr lo pc : Nat} {E : α → Prop} {o1 o2 : Option α} {lv : List (Nat × Value)} {st : List Value} {σ : S} (hC : zOK C ω cc own nL fr lo) {x y : UInt64} {op : CmpOp} {off : Int} {tgt : Nat} (hd0 : decode cc pc = .ok (.dcmp op, 1)) (hd : decode cc (pc + 1) = .ok (.ifCond .ge off, 3)) (ht : ((pc + 1 : Nat) : Int) + off = (tgt : Int)) (kt : 0 ≤ Op.cmpValue (FP.dcmp x y) op → zG C ω nL E o1 tgt lv st σ) (kf : ¬ (0 ≤ Op.cmpValue (FP.dcmp x y) op) → zG C ω nL E o2 (pc + 1 + 3) lv st σ) : zG C ω nL E (if 0 ≤ Op.cmpValue (FP.dcmp x y) op then o1 else o2) pc lv (.double y :: .double x :: st) σ := by
  intro v hv hE H locs ls hP hD hS hl
  exact lv_dcmp hC.1 hC.2.1 hd0 (lv_if_ge hC.1 hC.2.1 hd ht (fun c => kt c v (by rwa [if_pos c] at hv) hE H locs ls hP hD hS hl) (fun c => kf c v (by rwa [if_neg c] at hv) hE H locs ls hP hD hS hl))
theorem gg_dcmp_gt {S α : Type} {C : zK} {ω : zO S} {cc : ByteArray} {own : String} {nL fr lo pc : Nat} {E : α → Prop} {o1 o2 : Option α} {lv : List (Nat × Value)} {st : List Value} {σ : S} (hC : zOK C ω cc own nL fr lo) {x y : UInt64} {op : CmpOp} {off : Int} {tgt : Nat} (hd0 : decode cc pc = .ok (.dcmp op, 1)) (hd : decode cc (pc + 1) = .ok (.ifCond .gt off, 3)) (ht : ((pc + 1 : Nat) : Int) + off = (tgt : Int)) (kt : 0 < Op.cmpValue (FP.dcmp x y) op → zG C ω nL E o1 tgt lv st σ) (kf : ¬ (0 < Op.cmpValue (FP.dcmp x y) op) → zG C ω nL E o2 (pc + 1 + 3) lv st σ) : zG C ω nL E (if 0 < Op.cmpValue (FP.dcmp x y) op then o1 else o2) pc lv (.double y :: .double x :: st) σ := by
  intro v hv hE H locs ls hP hD hS hl
  exact lv_dcmp hC.1 hC.2.1 hd0 (lv_if_gt hC.1 hC.2.1 hd ht (fun c => kt c v (by rwa [if_pos c] at hv) hE H locs ls hP hD hS hl) (fun c => kf c v (by rwa [if_neg c] at hv) hE H locs ls hP hD hS hl))
theorem gg_dcmp_le {S α : Type} {C : zK} {ω : zO S} {cc : ByteArray} {own : String} {nL fr lo pc : Nat} {E : α → Prop} {o1 o2 : Option α} {lv : List (Nat × Value)} {st : List Value} {σ : S} (hC : zOK C ω cc own nL fr lo) {x y : UInt64} {op : CmpOp} {off : Int} {tgt : Nat} (hd0 : decode cc pc = .ok (.dcmp op, 1)) (hd : decode cc (pc + 1) = .ok (.ifCond .le off, 3)) (ht : ((pc + 1 : Nat) : Int) + off = (tgt : Int)) (kt : Op.cmpValue (FP.dcmp x y) op ≤ 0 → zG C ω nL E o1 tgt lv st σ) (kf : ¬ (Op.cmpValue (FP.dcmp x y) op ≤ 0) → zG C ω nL E o2 (pc + 1 + 3) lv st σ) : zG C ω nL E (if Op.cmpValue (FP.dcmp x y) op ≤ 0 then o1 else o2) pc lv (.double y :: .double x :: st) σ := by
  intro v hv hE H locs ls hP hD hS hl
  exact lv_dcmp hC.1 hC.2.1 hd0 (lv_if_le hC.1 hC.2.1 hd ht (fun c => kt c v (by rwa [if_pos c] at hv) hE H locs ls hP hD hS hl) (fun c => kf c v (by rwa [if_neg c] at hv) hE H locs ls hP hD hS hl))
theorem gg_goto {S α : Type} {C : zK} {ω : zO S} {cc : ByteArray} {own : String} {nL fr lo pc : Nat} {E : α → Prop} {o : Option α} {lv : List (Nat × Value)} {st : List Value} {σ : S} (hC : zOK C ω cc own nL fr lo) {off : Int} {tgt : Nat} (hd : decode cc pc = .ok (.goto off, 3)) (ht : (pc : Int) + off = (tgt : Int)) (k : zG C ω nL E o tgt lv st σ) : zG C ω nL E o pc lv st σ :=
  fun v hv hE H locs ls hP hD hS hl => lv_goto hC.1 hC.2.1 hd ht (k v hv hE H locs ls hP hD hS hl)
theorem gg_none {S α : Type} {C : zK} {ω : zO S} {nL pc : Nat} {E : α → Prop} {o : Option α} {lv : List (Nat × Value)} {st : List Value} {σ : S} : zG C ω nL E (none : Option α) pc lv st σ := fun v hv => by cases hv
theorem gg_ite {S α : Type} {C : zK} {ω : zO S} {nL pc : Nat} {E : α → Prop} {o1 o2 : Option α} {lv : List (Nat × Value)} {st : List Value} {σ : S} {c : Prop} [Decidable c] (kt : c → zG C ω nL E o1 pc lv st σ) (kf : ¬ c → zG C ω nL E o2 pc lv st σ) : zG C ω nL E (if c then o1 else o2) pc lv st σ := by
  by_cases h : c
  · rw [if_pos h]
    exact kt h
  · rw [if_neg h]
    exact kf h
theorem gg_tabIn {S α : Type} {C : zK} {ω : zO S} {cc : ByteArray} {own : String} {nL fr lo pc : Nat} {E : α → Prop} {o : Option α} {lv : List (Nat × Value)} {st : List Value} {σ : S} (hC : zOK C ω cc own nL fr lo) {dflt l0 h0 : Int} {offs : Array Int} {len : Nat} {x : Int32} {off : Int} {tgt : Nat} (hd : decode cc pc = .ok (.tableswitch dflt l0 h0 offs, len)) (h1 : ¬ x.toInt < l0) (h2 : ¬ h0 < x.toInt) (ho : offs[(x.toInt - l0).toNat]? = some off) (ht : (pc : Int) + off = (tgt : Int)) (k : zG C ω nL E o tgt lv st σ) : zG C ω nL E o pc lv (.int x :: st) σ :=
  fun v hv hE H locs ls hP hD hS hl => lv_tableIn hC.1 hC.2.1 hd h1 h2 ho ht (k v hv hE H locs ls hP hD hS hl)
theorem gg_tabOut {S α : Type} {C : zK} {ω : zO S} {cc : ByteArray} {own : String} {nL fr lo pc : Nat} {E : α → Prop} {o : Option α} {lv : List (Nat × Value)} {st : List Value} {σ : S} (hC : zOK C ω cc own nL fr lo) {dflt l0 h0 : Int} {offs : Array Int} {len : Nat} {x : Int32} {tgt : Nat} (hd : decode cc pc = .ok (.tableswitch dflt l0 h0 offs, len)) (h : x.toInt < l0 ∨ h0 < x.toInt) (ht : (pc : Int) + dflt = (tgt : Int)) (k : zG C ω nL E o tgt lv st σ) : zG C ω nL E o pc lv (.int x :: st) σ :=
  fun v hv hE H locs ls hP hD hS hl => lv_tableOut hC.1 hC.2.1 hd h ht (k v hv hE H locs ls hP hD hS hl)
theorem gg_lv {S α : Type} {C : zK} {ω : zO S} {nL pc : Nat} {E : α → Prop} {o : Option α} {lv : List (Nat × Value)} {st : List Value} {σ : S} {lv' : List (Nat × Value)} (ks : List Nat) (h : lv_pick lv ks = lv') (k : zG C ω nL E o pc lv' st σ) : zG C ω nL E o pc lv st σ :=
  fun v hv hE H locs ls hP hD hS hl => k v hv hE H locs ls hP hD hS (lv_sub hl ks h)
theorem zW_lv {S : Type} {C : zK} {ω : zO S} {nL pc : Nat} {lv lv' : List (Nat × Value)} {st : List Value} {σ : S} (ks : List Nat) (h : lv_pick lv ks = lv') (k : zW C ω nL pc lv' st σ) : zW C ω nL pc lv st σ :=
  fun H locs ls hP hD hS hl => k H locs ls hP hD hS (lv_sub hl ks h)
theorem gg_y {S α : Type} {C : zK} {ω : zO S} {nL pc : Nat} {E : α → Prop} {lv : List (Nat × Value)} {st : List Value} {σ : S} {a : α} (h : E a → zW C ω nL pc lv st σ) : zG C ω nL E (some a) pc lv st σ := fun v hv hE => by
  cases hv
  exact h hE
theorem gg_iret {S : Type} {C : zK} {ω : zO S} {cc : ByteArray} {nL pc : Nat} {lv : List (Nat × Value)} {σ : S} {r : Int32 × S} {x : Int32} (hR : zRI C ω nL cc r) (hd : decode cc pc = .ok (.ireturn, 1)) : zG C ω nL (fun v => v = r) (some (x, σ)) pc lv [.int x] σ := gg_y (fun h => hR pc lv x σ hd h)
theorem gg_zret {S : Type} {C : zK} {ω : zO S} {cc : ByteArray} {nL pc : Nat} {lv : List (Nat × Value)} {σ : S} {r : Int32 × S} {x : Int32} (hR : zRZ C ω nL cc r) (hd : decode cc pc = .ok (.ireturn, 1)) (hn : narrow .boolean (.int x) = .int x) : zG C ω nL (fun v => v = r) (some (x, σ)) pc lv [.int x] σ := gg_y (fun h => hR pc lv x σ hd hn h)
theorem gg_zretg {S : Type} {C : zK} {ω : zO S} {cc : ByteArray} {nL pc : Nat} {lv : List (Nat × Value)} {σ : S} {r : Int32 × S} {x : Int32} (hR : zRZ C ω nL cc r) (hd : decode cc pc = .ok (.ireturn, 1)) : zG C ω nL (fun v => v = r) (zg (zz x) (some (x, σ))) pc lv [.int x] σ := by
  intro v hv hE
  unfold zg at hv
  split at hv
  · next h => exact gg_zret hR hd (zz_n h) v hv hE
  · cases hv
theorem gg_lret {S : Type} {C : zK} {ω : zO S} {cc : ByteArray} {nL pc : Nat} {lv : List (Nat × Value)} {σ : S} {r : Int64 × S} {x : Int64} (hR : zRL C ω nL cc r) (hd : decode cc pc = .ok (.lreturn, 1)) : zG C ω nL (fun v => v = r) (some (x, σ)) pc lv [.long x] σ := gg_y (fun h => hR pc lv x σ hd h)
theorem gg_vret {S : Type} {C : zK} {ω : zO S} {cc : ByteArray} {nL pc : Nat} {lv : List (Nat × Value)} {σ : S} {r : S} (hR : zRV C ω nL cc r) (hd : decode cc pc = .ok (.return_, 1)) : zG C ω nL (fun v => v = r) (some σ) pc lv [] σ := gg_y (fun h => hR pc lv σ hd h)
theorem gg_join1 {S α : Type} {C : zK} {ω : zO S} {nL pc : Nat} {E : α → Prop} {lv : List (Nat × Value)} {st : List Value} {σ : S} {T1 : Type} {X : Option (T1)} {K : T1 → Option α} {E' : T1 → Prop} (hX : zG C ω nL E' X pc lv st σ) (hJ : ∀ a1 v, K a1 = some v → E v → E' (a1)) : zG C ω nL E (zy1 X K) pc lv st σ := by
  intro v hv hE
  cases hq : X with
  | none => rw [hq] at hv; cases hv
  | some q =>
    rw [hq] at hv
    exact hX q hq (hJ q v hv hE)
theorem gg_join2 {S α : Type} {C : zK} {ω : zO S} {nL pc : Nat} {E : α → Prop} {lv : List (Nat × Value)} {st : List Value} {σ : S} {T1 T2 : Type} {X : Option (T1 × T2)} {K : T1 → T2 → Option α} {E' : T1 × T2 → Prop} (hX : zG C ω nL E' X pc lv st σ) (hJ : ∀ a1 a2 v, K a1 a2 = some v → E v → E' (a1, a2)) : zG C ω nL E (zy2 X K) pc lv st σ := by
  intro v hv hE
  cases hq : X with
  | none => rw [hq] at hv; cases hv
  | some q =>
    rw [hq] at hv
    exact hX q hq (hJ q.1 q.2 v hv hE)
theorem gg_join3 {S α : Type} {C : zK} {ω : zO S} {nL pc : Nat} {E : α → Prop} {lv : List (Nat × Value)} {st : List Value} {σ : S} {T1 T2 T3 : Type} {X : Option (T1 × T2 × T3)} {K : T1 → T2 → T3 → Option α} {E' : T1 × T2 × T3 → Prop} (hX : zG C ω nL E' X pc lv st σ) (hJ : ∀ a1 a2 a3 v, K a1 a2 a3 = some v → E v → E' (a1, a2, a3)) : zG C ω nL E (zy3 X K) pc lv st σ := by
  intro v hv hE
  cases hq : X with
  | none => rw [hq] at hv; cases hv
  | some q =>
    rw [hq] at hv
    exact hX q hq (hJ q.1 q.2.1 q.2.2 v hv hE)
theorem gg_join4 {S α : Type} {C : zK} {ω : zO S} {nL pc : Nat} {E : α → Prop} {lv : List (Nat × Value)} {st : List Value} {σ : S} {T1 T2 T3 T4 : Type} {X : Option (T1 × T2 × T3 × T4)} {K : T1 → T2 → T3 → T4 → Option α} {E' : T1 × T2 × T3 × T4 → Prop} (hX : zG C ω nL E' X pc lv st σ) (hJ : ∀ a1 a2 a3 a4 v, K a1 a2 a3 a4 = some v → E v → E' (a1, a2, a3, a4)) : zG C ω nL E (zy4 X K) pc lv st σ := by
  intro v hv hE
  cases hq : X with
  | none => rw [hq] at hv; cases hv
  | some q =>
    rw [hq] at hv
    exact hX q hq (hJ q.1 q.2.1 q.2.2.1 q.2.2.2 v hv hE)
theorem gg_join5 {S α : Type} {C : zK} {ω : zO S} {nL pc : Nat} {E : α → Prop} {lv : List (Nat × Value)} {st : List Value} {σ : S} {T1 T2 T3 T4 T5 : Type} {X : Option (T1 × T2 × T3 × T4 × T5)} {K : T1 → T2 → T3 → T4 → T5 → Option α} {E' : T1 × T2 × T3 × T4 × T5 → Prop} (hX : zG C ω nL E' X pc lv st σ) (hJ : ∀ a1 a2 a3 a4 a5 v, K a1 a2 a3 a4 a5 = some v → E v → E' (a1, a2, a3, a4, a5)) : zG C ω nL E (zy5 X K) pc lv st σ := by
  intro v hv hE
  cases hq : X with
  | none => rw [hq] at hv; cases hv
  | some q =>
    rw [hq] at hv
    exact hX q hq (hJ q.1 q.2.1 q.2.2.1 q.2.2.2.1 q.2.2.2.2 v hv hE)
end
section
theorem zGood {ws : List Cond} (h : ∀ w ∈ ws, w ∈ zT) : GoodIn zT ws := fun w hw => ⟨h w hw, good_of_word (List.mem_filter.mp (h w hw)).2⟩
def zCV (own : String) (idx : Nat) (CC : String) (y : MethodName) (bytes : ByteArray) (maxL : Nat) (ret : Option FieldType) (n : Nat) : Prop :=
  Cond.methodLink own idx y ∈ zT ∧ Cond.instanceMethod y ∈ zT ∧ Cond.selects CC y y ∈ zT ∧ Cond.initialized CC ∈ zT ∧ Cond.code y bytes maxL ret ∈ zT ∧ (y.cls = CC ∧ y.cls ≠ "java/lang/invoke/MethodHandle" ∧ y.cls ≠ "java/lang/invoke/VarHandle" ∧ (parseMethodDescriptor y.desc).map (fun d => d.parameters.length) = some n)
def zCS (own : String) (idx : Nat) (y : MethodName) (bytes : ByteArray) (maxL : Nat) (ret : Option FieldType) (n : Nat) : Prop :=
  Cond.methodLink own idx y ∈ zT ∧ Cond.static y ∈ zT ∧ Cond.initialized own ∈ zT ∧ Cond.code y bytes maxL ret ∈ zT ∧ (y.cls = own ∧ y.cls ≠ "java/lang/invoke/MethodHandle" ∧ y.cls ≠ "java/lang/invoke/VarHandle" ∧ (parseMethodDescriptor y.desc).map (fun d => d.parameters.length) = some n)
theorem zCV.good {own CC : String} {idx maxL n : Nat} {y : MethodName} {bytes : ByteArray} {ret : Option FieldType} (h : zCV own idx CC y bytes maxL ret n) : GoodIn zT (wsV own idx CC y (zws y bytes maxL ret)) := by
  obtain ⟨h1, h2, h3, h4, h5, -⟩ := h
  refine zGood (fun w hw => ?_)
  simp only [wsV, zws, List.cons_append, List.nil_append, List.mem_cons] at hw
  rcases hw with rfl | rfl | rfl | rfl | rfl | hw
  · exact h1
  · exact h2
  · exact h3
  · exact h4
  · exact h5
  · exact hw
theorem zCS.good {own : String} {idx maxL n : Nat} {y : MethodName} {bytes : ByteArray} {ret : Option FieldType} (h : zCS own idx y bytes maxL ret n) : GoodIn zT (wsS own idx y (zws y bytes maxL ret)) := by
  obtain ⟨h1, h2, h3, h4, -⟩ := h
  refine zGood (fun w hw => ?_)
  simp only [wsS, zws, List.cons_append, List.nil_append, List.mem_cons] at hw
  rcases hw with rfl | rfl | rfl | rfl | hw
  · exact h1
  · exact h2
  · exact h3
  · exact h4
  · exact hw
theorem zBlind {S : Type} {D : va_G} {ω : zO S} {σ : S} {sz : Nat} {av : List Value} (hX : zX ω.2.2) : FrameBlind (va_Pc av (zPre D ω σ sz)) := by
  intro a U g mk q
  obtain ⟨q0, q1, qP, qK, qD, qX⟩ := q
  exact ⟨q0, q1, qP, va_K.moved (u := U) (U := U.calling g mk a) (Vm.Alike.refl U.vm) qK, qD, hX.2.2 _ U (U.calling g mk a) _ rfl qX⟩
theorem zFree {S : Type} {C : zK} {ω : zO S} {σ : S} {H : Heap} {locs : List Loc} (hA : ∀ q : Nat, C.1.2.2.2.2.heap.size ≤ q → C.2.2.2.2.1 q) (hD : va_D C.2.2.2.2.1 (ω.1 σ)) (hS : va_S C.2.2.2.2.1 C.1.2.2.2.2.heap H locs) : ∀ a, va_A (ω.1 σ) H.size a → C.2.2.2.2.1 a := by
  intro a h
  rcases h with ⟨k, e, h⟩ | h
  · exact hD.2 k (a, e) h
  · exact hA a (Nat.le_trans hS.1 h)
theorem zPreOf {S : Type} {C : zK} {ω : zO S} {σ : S} {H : Heap} {locs : List Loc} {cc : ByteArray} {own : String} {nL fr lo : Nat} (hC : zOK C ω cc own nL fr lo) (hP : va_P C.2.2.2.1 vwCl (ω.1 σ) H) (hD : va_D C.2.2.2.2.1 (ω.1 σ)) (hS : va_S C.2.2.2.2.1 C.1.2.2.2.2.heap H locs) (U : State) (hU : U.heap = H) (hW : C.1.2.2.2.2.WarmedH U.vm) : zPre C.2.2.2.1 ω σ H.size U := by
  refine ⟨by rw [hU], by rw [hU]; exact hP, va_K.moved hW.alike hC.2.2.2.2.2.1, hD.weaken (fun _ _ _ _ => trivial), ?_⟩
  rw [hU]
  exact hC.2.2.2.2.2.2.2.2.2.1.2.1 _ _ _ _ hW (hC.2.2.2.2.2.2.2.2.2.1.1 _ _ _ _ _ hC.2.2.2.2.2.2.2.2.2.2.1 hS.2.1 (zFree hC.2.2.2.2.2.2.2.2.1 hD hS))
set_option maxHeartbeats 1000000 in
theorem gg_callVI {S α : Type} {C : zK} {ω : zO S} {cc : ByteArray} {own : String} {nL fr lo pc idx maxL fr1 lo1 n : Nat} {E : α → Prop} {lv : List (Nat × Value)} {st : List Value} {σ : S} {y : MethodName} {bytes : ByteArray} {ret : Option FieldType} {As rest : List Value} {CC : String} {b : Nat} {fs : List Value} {T : u_T} {N : Nat} {o1 : Option (Int32 × S)} {K : Int32 → S → Option α} (hC : zOK C ω cc own nL fr lo) (hd : decode cc pc = .ok (.invokevirtual idx, 3)) (hw : zCV own idx CC y bytes maxL ret n) (hM : ∀ q, o1 = some q → zMI C.1.2.1 C.2.2.2.1 ω y (zws y bytes maxL ret) fr1 lo1 (.ref b :: As) σ q) (hfr : fr1 + 1 ≤ fr) (hlo : 8 + (maxL + 11) + lo1 ≤ lo) (hst : st = As.reverse ++ .ref b :: rest) (hn : As.length = n) (hcat : (rest.map fun v => v.category).sum ≤ 8) (q0 ci : Nat) (he : (ω.1 σ)[q0]? = some (b, .inr (ci, fs))) (hc : vwCl[ci]? = some (CC, T, N)) (k : ∀ (x : Int32) (τ : S), zG C ω nL E (K x τ) (pc + 3) lv (.int x :: rest) τ) : zG C ω nL E (zy2 o1 K) pc lv st σ := by
  intro v hv hE H locs ls hP hD hS hl
  subst hst
  cases hq : o1 with
  | none => rw [hq] at hv; cases hv
  | some q =>
    rw [hq] at hv
    have hFc := zFree hC.2.2.2.2.2.2.2.2.1 hD hS
    have hpre := zPreOf hC hP hD hS
    have hR : fr1 + 1 ≤ C.1.2.2.2.1.frames ∧ 8 + (maxL + 11) + lo1 ≤ C.1.2.2.2.1.locals := ⟨Nat.le_trans hfr hC.2.2.2.2.2.2.1, Nat.le_trans hlo hC.2.2.2.2.2.2.2.1⟩
    have cw := cwV (R := C.1.2.2.2.1) (s := C.1.2.2.2.2) (args := C.2.1.2.1) (rm := { frames := fr1, cells := 0, slots := 0, locals := lo1 }) (mc := 0) (ms := 0) n hC.2.2.2.2.1 hw.good rfl rfl rfl hw.2.2.2.2.2 hR
    refine va_calli (va_runV (As := As) (rest := rest) ⟨hC.1, hC.2.1, hC.2.2.1, hC.2.2.2.1, hC.2.2.2.2.1⟩ (hM q hq H.size) cw ⟨zBlind hC.2.2.2.2.2.2.2.2.2.1, va_recv hC.2.2.2.2.2.1 hP hc he, fun U hU hW => ⟨rfl, hpre U hU hW⟩⟩ rfl hn hl.1 rfl (lv_room hcat) hd ⟨hC.2.2.2.2.2.2.2.2.2.2.2.1, hC.2.2.2.2.2.2.2.2.2.2.2.2⟩) hS (fun q _ h => hFc q h) hFc (fun r u t H1 locs1 ht hvm hw1 hB hz1 hk1 hS1 => ?_)
    obtain ⟨hP1, hK1, hD1⟩ := hB
    rw [ht] at hP1
    have e : (r, u) = q := hw1
    subst e
    exact k r u v hv hE H1 locs1 ls hP1 (hD1.weaken (fun _ z _ h => hFc z.1 h)) hS1 hl
set_option maxHeartbeats 1000000 in
theorem gg_callVIr {S α : Type} {C : zK} {ω : zO S} {cc : ByteArray} {own : String} {nL fr lo pc idx maxL fr1 lo1 n : Nat} {E : α → Prop} {lv : List (Nat × Value)} {st : List Value} {σ : S} {y : MethodName} {bytes : ByteArray} {ret : Option FieldType} {As rest : List Value} {CC : String} {b : Nat} {fs : List Value} {T : u_T} {N : Nat} {o1 : Option (Int32)} {K : Int32 → Option α} (hC : zOK C ω cc own nL fr lo) (hd : decode cc pc = .ok (.invokevirtual idx, 3)) (hw : zCV own idx CC y bytes maxL ret n) (hM : ∀ q, o1 = some q → zMI C.1.2.1 C.2.2.2.1 ω y (zws y bytes maxL ret) fr1 lo1 (.ref b :: As) σ (q, σ)) (hfr : fr1 + 1 ≤ fr) (hlo : 8 + (maxL + 11) + lo1 ≤ lo) (hst : st = As.reverse ++ .ref b :: rest) (hn : As.length = n) (hcat : (rest.map fun v => v.category).sum ≤ 8) (q0 ci : Nat) (he : (ω.1 σ)[q0]? = some (b, .inr (ci, fs))) (hc : vwCl[ci]? = some (CC, T, N)) (k : ∀ x : Int32, zG C ω nL E (K x) (pc + 3) lv (.int x :: rest) σ) : zG C ω nL E (zy1 o1 K) pc lv st σ := by
  intro v hv hE H locs ls hP hD hS hl
  subst hst
  cases hq : o1 with
  | none => rw [hq] at hv; cases hv
  | some q =>
    rw [hq] at hv
    have hFc := zFree hC.2.2.2.2.2.2.2.2.1 hD hS
    have hpre := zPreOf hC hP hD hS
    have hR : fr1 + 1 ≤ C.1.2.2.2.1.frames ∧ 8 + (maxL + 11) + lo1 ≤ C.1.2.2.2.1.locals := ⟨Nat.le_trans hfr hC.2.2.2.2.2.2.1, Nat.le_trans hlo hC.2.2.2.2.2.2.2.1⟩
    have cw := cwV (R := C.1.2.2.2.1) (s := C.1.2.2.2.2) (args := C.2.1.2.1) (rm := { frames := fr1, cells := 0, slots := 0, locals := lo1 }) (mc := 0) (ms := 0) n hC.2.2.2.2.1 hw.good rfl rfl rfl hw.2.2.2.2.2 hR
    refine va_calli (va_runV (As := As) (rest := rest) ⟨hC.1, hC.2.1, hC.2.2.1, hC.2.2.2.1, hC.2.2.2.2.1⟩ (hM q hq H.size) cw ⟨zBlind hC.2.2.2.2.2.2.2.2.2.1, va_recv hC.2.2.2.2.2.1 hP hc he, fun U hU hW => ⟨rfl, hpre U hU hW⟩⟩ rfl hn hl.1 rfl (lv_room hcat) hd ⟨hC.2.2.2.2.2.2.2.2.2.2.2.1, hC.2.2.2.2.2.2.2.2.2.2.2.2⟩) hS (fun q _ h => hFc q h) hFc (fun r u t H1 locs1 ht hvm hw1 hB hz1 hk1 hS1 => ?_)
    obtain ⟨hP1, hK1, hD1⟩ := hB
    rw [ht] at hP1
    have e1 : r = q := congrArg Prod.fst hw1
    have e2 : u = σ := congrArg Prod.snd hw1
    subst e1
    subst e2
    exact k r v hv hE H1 locs1 ls hP1 (hD1.weaken (fun _ z _ h => hFc z.1 h)) hS1 hl
set_option maxHeartbeats 1000000 in
theorem gg_callVL {S α : Type} {C : zK} {ω : zO S} {cc : ByteArray} {own : String} {nL fr lo pc idx maxL fr1 lo1 n : Nat} {E : α → Prop} {lv : List (Nat × Value)} {st : List Value} {σ : S} {y : MethodName} {bytes : ByteArray} {ret : Option FieldType} {As rest : List Value} {CC : String} {b : Nat} {fs : List Value} {T : u_T} {N : Nat} {o1 : Option (Int64 × S)} {K : Int64 → S → Option α} (hC : zOK C ω cc own nL fr lo) (hd : decode cc pc = .ok (.invokevirtual idx, 3)) (hw : zCV own idx CC y bytes maxL ret n) (hM : ∀ q, o1 = some q → zML C.1.2.1 C.2.2.2.1 ω y (zws y bytes maxL ret) fr1 lo1 (.ref b :: As) σ q) (hfr : fr1 + 1 ≤ fr) (hlo : 8 + (maxL + 11) + lo1 ≤ lo) (hst : st = As.reverse ++ .ref b :: rest) (hn : As.length = n) (hcat : (rest.map fun v => v.category).sum ≤ 8) (q0 ci : Nat) (he : (ω.1 σ)[q0]? = some (b, .inr (ci, fs))) (hc : vwCl[ci]? = some (CC, T, N)) (k : ∀ (x : Int64) (τ : S), zG C ω nL E (K x τ) (pc + 3) lv (.long x :: rest) τ) : zG C ω nL E (zy2 o1 K) pc lv st σ := by
  intro v hv hE H locs ls hP hD hS hl
  subst hst
  cases hq : o1 with
  | none => rw [hq] at hv; cases hv
  | some q =>
    rw [hq] at hv
    have hFc := zFree hC.2.2.2.2.2.2.2.2.1 hD hS
    have hpre := zPreOf hC hP hD hS
    have hR : fr1 + 1 ≤ C.1.2.2.2.1.frames ∧ 8 + (maxL + 11) + lo1 ≤ C.1.2.2.2.1.locals := ⟨Nat.le_trans hfr hC.2.2.2.2.2.2.1, Nat.le_trans hlo hC.2.2.2.2.2.2.2.1⟩
    have cw := cwV (R := C.1.2.2.2.1) (s := C.1.2.2.2.2) (args := C.2.1.2.1) (rm := { frames := fr1, cells := 0, slots := 0, locals := lo1 }) (mc := 0) (ms := 0) n hC.2.2.2.2.1 hw.good rfl rfl rfl hw.2.2.2.2.2 hR
    refine va_calll (va_runV (As := As) (rest := rest) ⟨hC.1, hC.2.1, hC.2.2.1, hC.2.2.2.1, hC.2.2.2.2.1⟩ (hM q hq H.size) cw ⟨zBlind hC.2.2.2.2.2.2.2.2.2.1, va_recv hC.2.2.2.2.2.1 hP hc he, fun U hU hW => ⟨rfl, hpre U hU hW⟩⟩ rfl hn hl.1 rfl (lv_room hcat) hd ⟨hC.2.2.2.2.2.2.2.2.2.2.2.1, hC.2.2.2.2.2.2.2.2.2.2.2.2⟩) hS (fun q _ h => hFc q h) hFc (fun r u t H1 locs1 ht hvm hw1 hB hz1 hk1 hS1 => ?_)
    obtain ⟨hP1, hK1, hD1⟩ := hB
    rw [ht] at hP1
    have e : (r, u) = q := hw1
    subst e
    exact k r u v hv hE H1 locs1 ls hP1 (hD1.weaken (fun _ z _ h => hFc z.1 h)) hS1 hl
set_option maxHeartbeats 1000000 in
theorem gg_callVLr {S α : Type} {C : zK} {ω : zO S} {cc : ByteArray} {own : String} {nL fr lo pc idx maxL fr1 lo1 n : Nat} {E : α → Prop} {lv : List (Nat × Value)} {st : List Value} {σ : S} {y : MethodName} {bytes : ByteArray} {ret : Option FieldType} {As rest : List Value} {CC : String} {b : Nat} {fs : List Value} {T : u_T} {N : Nat} {o1 : Option (Int64)} {K : Int64 → Option α} (hC : zOK C ω cc own nL fr lo) (hd : decode cc pc = .ok (.invokevirtual idx, 3)) (hw : zCV own idx CC y bytes maxL ret n) (hM : ∀ q, o1 = some q → zML C.1.2.1 C.2.2.2.1 ω y (zws y bytes maxL ret) fr1 lo1 (.ref b :: As) σ (q, σ)) (hfr : fr1 + 1 ≤ fr) (hlo : 8 + (maxL + 11) + lo1 ≤ lo) (hst : st = As.reverse ++ .ref b :: rest) (hn : As.length = n) (hcat : (rest.map fun v => v.category).sum ≤ 8) (q0 ci : Nat) (he : (ω.1 σ)[q0]? = some (b, .inr (ci, fs))) (hc : vwCl[ci]? = some (CC, T, N)) (k : ∀ x : Int64, zG C ω nL E (K x) (pc + 3) lv (.long x :: rest) σ) : zG C ω nL E (zy1 o1 K) pc lv st σ := by
  intro v hv hE H locs ls hP hD hS hl
  subst hst
  cases hq : o1 with
  | none => rw [hq] at hv; cases hv
  | some q =>
    rw [hq] at hv
    have hFc := zFree hC.2.2.2.2.2.2.2.2.1 hD hS
    have hpre := zPreOf hC hP hD hS
    have hR : fr1 + 1 ≤ C.1.2.2.2.1.frames ∧ 8 + (maxL + 11) + lo1 ≤ C.1.2.2.2.1.locals := ⟨Nat.le_trans hfr hC.2.2.2.2.2.2.1, Nat.le_trans hlo hC.2.2.2.2.2.2.2.1⟩
    have cw := cwV (R := C.1.2.2.2.1) (s := C.1.2.2.2.2) (args := C.2.1.2.1) (rm := { frames := fr1, cells := 0, slots := 0, locals := lo1 }) (mc := 0) (ms := 0) n hC.2.2.2.2.1 hw.good rfl rfl rfl hw.2.2.2.2.2 hR
    refine va_calll (va_runV (As := As) (rest := rest) ⟨hC.1, hC.2.1, hC.2.2.1, hC.2.2.2.1, hC.2.2.2.2.1⟩ (hM q hq H.size) cw ⟨zBlind hC.2.2.2.2.2.2.2.2.2.1, va_recv hC.2.2.2.2.2.1 hP hc he, fun U hU hW => ⟨rfl, hpre U hU hW⟩⟩ rfl hn hl.1 rfl (lv_room hcat) hd ⟨hC.2.2.2.2.2.2.2.2.2.2.2.1, hC.2.2.2.2.2.2.2.2.2.2.2.2⟩) hS (fun q _ h => hFc q h) hFc (fun r u t H1 locs1 ht hvm hw1 hB hz1 hk1 hS1 => ?_)
    obtain ⟨hP1, hK1, hD1⟩ := hB
    rw [ht] at hP1
    have e1 : r = q := congrArg Prod.fst hw1
    have e2 : u = σ := congrArg Prod.snd hw1
    subst e1
    subst e2
    exact k r v hv hE H1 locs1 ls hP1 (hD1.weaken (fun _ z _ h => hFc z.1 h)) hS1 hl
set_option maxHeartbeats 1000000 in
theorem gg_callVV {S α : Type} {C : zK} {ω : zO S} {cc : ByteArray} {own : String} {nL fr lo pc idx maxL fr1 lo1 n : Nat} {E : α → Prop} {lv : List (Nat × Value)} {st : List Value} {σ : S} {y : MethodName} {bytes : ByteArray} {ret : Option FieldType} {As rest : List Value} {CC : String} {b : Nat} {fs : List Value} {T : u_T} {N : Nat} {o1 : Option (S)} {K : S → Option α} (hC : zOK C ω cc own nL fr lo) (hd : decode cc pc = .ok (.invokevirtual idx, 3)) (hw : zCV own idx CC y bytes maxL ret n) (hM : ∀ q, o1 = some q → zMV C.1.2.1 C.2.2.2.1 ω y (zws y bytes maxL ret) fr1 lo1 (.ref b :: As) σ q) (hfr : fr1 + 1 ≤ fr) (hlo : 8 + (maxL + 11) + lo1 ≤ lo) (hst : st = As.reverse ++ .ref b :: rest) (hn : As.length = n) (hcat : (rest.map fun v => v.category).sum ≤ 8) (q0 ci : Nat) (he : (ω.1 σ)[q0]? = some (b, .inr (ci, fs))) (hc : vwCl[ci]? = some (CC, T, N)) (k : ∀ τ : S, zG C ω nL E (K τ) (pc + 3) lv rest τ) : zG C ω nL E (zy1 o1 K) pc lv st σ := by
  intro v hv hE H locs ls hP hD hS hl
  subst hst
  cases hq : o1 with
  | none => rw [hq] at hv; cases hv
  | some q =>
    rw [hq] at hv
    have hFc := zFree hC.2.2.2.2.2.2.2.2.1 hD hS
    have hpre := zPreOf hC hP hD hS
    have hR : fr1 + 1 ≤ C.1.2.2.2.1.frames ∧ 8 + (maxL + 11) + lo1 ≤ C.1.2.2.2.1.locals := ⟨Nat.le_trans hfr hC.2.2.2.2.2.2.1, Nat.le_trans hlo hC.2.2.2.2.2.2.2.1⟩
    have cw := cwV (R := C.1.2.2.2.1) (s := C.1.2.2.2.2) (args := C.2.1.2.1) (rm := { frames := fr1, cells := 0, slots := 0, locals := lo1 }) (mc := 0) (ms := 0) n hC.2.2.2.2.1 hw.good rfl rfl rfl hw.2.2.2.2.2 hR
    refine va_callv (va_runV (As := As) (rest := rest) ⟨hC.1, hC.2.1, hC.2.2.1, hC.2.2.2.1, hC.2.2.2.2.1⟩ (hM q hq H.size) cw ⟨zBlind hC.2.2.2.2.2.2.2.2.2.1, va_recv hC.2.2.2.2.2.1 hP hc he, fun U hU hW => ⟨rfl, hpre U hU hW⟩⟩ rfl hn hl.1 rfl (lv_room hcat) hd ⟨hC.2.2.2.2.2.2.2.2.2.2.2.1, hC.2.2.2.2.2.2.2.2.2.2.2.2⟩) hS (fun q _ h => hFc q h) hFc (fun u t H1 locs1 ht hvm hw1 hB hz1 hk1 hS1 => ?_)
    obtain ⟨hP1, hK1, hD1⟩ := hB
    rw [ht] at hP1
    have e : u = q := hw1
    subst e
    exact k u v hv hE H1 locs1 ls hP1 (hD1.weaken (fun _ z _ h => hFc z.1 h)) hS1 hl
set_option maxHeartbeats 1000000 in
theorem gg_callSI {S α : Type} {C : zK} {ω : zO S} {cc : ByteArray} {own : String} {nL fr lo pc idx maxL fr1 lo1 n : Nat} {E : α → Prop} {lv : List (Nat × Value)} {st : List Value} {σ : S} {y : MethodName} {bytes : ByteArray} {ret : Option FieldType} {As rest : List Value} {o1 : Option (Int32 × S)} {K : Int32 → S → Option α} (hC : zOK C ω cc own nL fr lo) (hd : decode cc pc = .ok (.invokestatic idx, 3)) (hw : zCS own idx y bytes maxL ret n) (hM : ∀ q, o1 = some q → zMI C.1.2.1 C.2.2.2.1 ω y (zws y bytes maxL ret) fr1 lo1 As σ q) (hfr : fr1 + 1 ≤ fr) (hlo : 8 + (maxL + 11) + lo1 ≤ lo) (hst : st = As.reverse ++ rest) (hn : As.length = n) (hcat : (rest.map fun v => v.category).sum ≤ 8) (k : ∀ (x : Int32) (τ : S), zG C ω nL E (K x τ) (pc + 3) lv (.int x :: rest) τ) : zG C ω nL E (zy2 o1 K) pc lv st σ := by
  intro v hv hE H locs ls hP hD hS hl
  subst hst
  cases hq : o1 with
  | none => rw [hq] at hv; cases hv
  | some q =>
    rw [hq] at hv
    have hFc := zFree hC.2.2.2.2.2.2.2.2.1 hD hS
    have hpre := zPreOf hC hP hD hS
    have hR : fr1 + 1 ≤ C.1.2.2.2.1.frames ∧ 8 + (maxL + 11) + lo1 ≤ C.1.2.2.2.1.locals := ⟨Nat.le_trans hfr hC.2.2.2.2.2.2.1, Nat.le_trans hlo hC.2.2.2.2.2.2.2.1⟩
    have cw := cwS (R := C.1.2.2.2.1) (s := C.1.2.2.2.2) (args := C.2.1.2.1) (rm := { frames := fr1, cells := 0, slots := 0, locals := lo1 }) (mc := 0) (ms := 0) n hC.2.2.2.2.1 hw.good rfl rfl rfl hw.2.2.2.2 hR
    refine va_calli (va_runS (As := As) (rest := rest) ⟨hC.1, hC.2.1, hC.2.2.1, hC.2.2.2.1, hC.2.2.2.2.1⟩ (hM q hq H.size) cw ⟨zBlind hC.2.2.2.2.2.2.2.2.2.1, fun U hU hW => ⟨rfl, hpre U hU hW⟩⟩ rfl hn hl.1 rfl (lv_room hcat) hd ⟨hC.2.2.2.2.2.2.2.2.2.2.2.1, hC.2.2.2.2.2.2.2.2.2.2.2.2⟩) hS (fun q _ h => hFc q h) hFc (fun r u t H1 locs1 ht hvm hw1 hB hz1 hk1 hS1 => ?_)
    obtain ⟨hP1, hK1, hD1⟩ := hB
    rw [ht] at hP1
    have e : (r, u) = q := hw1
    subst e
    exact k r u v hv hE H1 locs1 ls hP1 (hD1.weaken (fun _ z _ h => hFc z.1 h)) hS1 hl
set_option maxHeartbeats 1000000 in
theorem gg_callSIr {S α : Type} {C : zK} {ω : zO S} {cc : ByteArray} {own : String} {nL fr lo pc idx maxL fr1 lo1 n : Nat} {E : α → Prop} {lv : List (Nat × Value)} {st : List Value} {σ : S} {y : MethodName} {bytes : ByteArray} {ret : Option FieldType} {As rest : List Value} {o1 : Option (Int32)} {K : Int32 → Option α} (hC : zOK C ω cc own nL fr lo) (hd : decode cc pc = .ok (.invokestatic idx, 3)) (hw : zCS own idx y bytes maxL ret n) (hM : ∀ q, o1 = some q → zMI C.1.2.1 C.2.2.2.1 ω y (zws y bytes maxL ret) fr1 lo1 As σ (q, σ)) (hfr : fr1 + 1 ≤ fr) (hlo : 8 + (maxL + 11) + lo1 ≤ lo) (hst : st = As.reverse ++ rest) (hn : As.length = n) (hcat : (rest.map fun v => v.category).sum ≤ 8) (k : ∀ x : Int32, zG C ω nL E (K x) (pc + 3) lv (.int x :: rest) σ) : zG C ω nL E (zy1 o1 K) pc lv st σ := by
  intro v hv hE H locs ls hP hD hS hl
  subst hst
  cases hq : o1 with
  | none => rw [hq] at hv; cases hv
  | some q =>
    rw [hq] at hv
    have hFc := zFree hC.2.2.2.2.2.2.2.2.1 hD hS
    have hpre := zPreOf hC hP hD hS
    have hR : fr1 + 1 ≤ C.1.2.2.2.1.frames ∧ 8 + (maxL + 11) + lo1 ≤ C.1.2.2.2.1.locals := ⟨Nat.le_trans hfr hC.2.2.2.2.2.2.1, Nat.le_trans hlo hC.2.2.2.2.2.2.2.1⟩
    have cw := cwS (R := C.1.2.2.2.1) (s := C.1.2.2.2.2) (args := C.2.1.2.1) (rm := { frames := fr1, cells := 0, slots := 0, locals := lo1 }) (mc := 0) (ms := 0) n hC.2.2.2.2.1 hw.good rfl rfl rfl hw.2.2.2.2 hR
    refine va_calli (va_runS (As := As) (rest := rest) ⟨hC.1, hC.2.1, hC.2.2.1, hC.2.2.2.1, hC.2.2.2.2.1⟩ (hM q hq H.size) cw ⟨zBlind hC.2.2.2.2.2.2.2.2.2.1, fun U hU hW => ⟨rfl, hpre U hU hW⟩⟩ rfl hn hl.1 rfl (lv_room hcat) hd ⟨hC.2.2.2.2.2.2.2.2.2.2.2.1, hC.2.2.2.2.2.2.2.2.2.2.2.2⟩) hS (fun q _ h => hFc q h) hFc (fun r u t H1 locs1 ht hvm hw1 hB hz1 hk1 hS1 => ?_)
    obtain ⟨hP1, hK1, hD1⟩ := hB
    rw [ht] at hP1
    have e1 : r = q := congrArg Prod.fst hw1
    have e2 : u = σ := congrArg Prod.snd hw1
    subst e1
    subst e2
    exact k r v hv hE H1 locs1 ls hP1 (hD1.weaken (fun _ z _ h => hFc z.1 h)) hS1 hl
set_option maxHeartbeats 1000000 in
theorem gg_callSL {S α : Type} {C : zK} {ω : zO S} {cc : ByteArray} {own : String} {nL fr lo pc idx maxL fr1 lo1 n : Nat} {E : α → Prop} {lv : List (Nat × Value)} {st : List Value} {σ : S} {y : MethodName} {bytes : ByteArray} {ret : Option FieldType} {As rest : List Value} {o1 : Option (Int64 × S)} {K : Int64 → S → Option α} (hC : zOK C ω cc own nL fr lo) (hd : decode cc pc = .ok (.invokestatic idx, 3)) (hw : zCS own idx y bytes maxL ret n) (hM : ∀ q, o1 = some q → zML C.1.2.1 C.2.2.2.1 ω y (zws y bytes maxL ret) fr1 lo1 As σ q) (hfr : fr1 + 1 ≤ fr) (hlo : 8 + (maxL + 11) + lo1 ≤ lo) (hst : st = As.reverse ++ rest) (hn : As.length = n) (hcat : (rest.map fun v => v.category).sum ≤ 8) (k : ∀ (x : Int64) (τ : S), zG C ω nL E (K x τ) (pc + 3) lv (.long x :: rest) τ) : zG C ω nL E (zy2 o1 K) pc lv st σ := by
  intro v hv hE H locs ls hP hD hS hl
  subst hst
  cases hq : o1 with
  | none => rw [hq] at hv; cases hv
  | some q =>
    rw [hq] at hv
    have hFc := zFree hC.2.2.2.2.2.2.2.2.1 hD hS
    have hpre := zPreOf hC hP hD hS
    have hR : fr1 + 1 ≤ C.1.2.2.2.1.frames ∧ 8 + (maxL + 11) + lo1 ≤ C.1.2.2.2.1.locals := ⟨Nat.le_trans hfr hC.2.2.2.2.2.2.1, Nat.le_trans hlo hC.2.2.2.2.2.2.2.1⟩
    have cw := cwS (R := C.1.2.2.2.1) (s := C.1.2.2.2.2) (args := C.2.1.2.1) (rm := { frames := fr1, cells := 0, slots := 0, locals := lo1 }) (mc := 0) (ms := 0) n hC.2.2.2.2.1 hw.good rfl rfl rfl hw.2.2.2.2 hR
    refine va_calll (va_runS (As := As) (rest := rest) ⟨hC.1, hC.2.1, hC.2.2.1, hC.2.2.2.1, hC.2.2.2.2.1⟩ (hM q hq H.size) cw ⟨zBlind hC.2.2.2.2.2.2.2.2.2.1, fun U hU hW => ⟨rfl, hpre U hU hW⟩⟩ rfl hn hl.1 rfl (lv_room hcat) hd ⟨hC.2.2.2.2.2.2.2.2.2.2.2.1, hC.2.2.2.2.2.2.2.2.2.2.2.2⟩) hS (fun q _ h => hFc q h) hFc (fun r u t H1 locs1 ht hvm hw1 hB hz1 hk1 hS1 => ?_)
    obtain ⟨hP1, hK1, hD1⟩ := hB
    rw [ht] at hP1
    have e : (r, u) = q := hw1
    subst e
    exact k r u v hv hE H1 locs1 ls hP1 (hD1.weaken (fun _ z _ h => hFc z.1 h)) hS1 hl
set_option maxHeartbeats 1000000 in
theorem gg_callSLr {S α : Type} {C : zK} {ω : zO S} {cc : ByteArray} {own : String} {nL fr lo pc idx maxL fr1 lo1 n : Nat} {E : α → Prop} {lv : List (Nat × Value)} {st : List Value} {σ : S} {y : MethodName} {bytes : ByteArray} {ret : Option FieldType} {As rest : List Value} {o1 : Option (Int64)} {K : Int64 → Option α} (hC : zOK C ω cc own nL fr lo) (hd : decode cc pc = .ok (.invokestatic idx, 3)) (hw : zCS own idx y bytes maxL ret n) (hM : ∀ q, o1 = some q → zML C.1.2.1 C.2.2.2.1 ω y (zws y bytes maxL ret) fr1 lo1 As σ (q, σ)) (hfr : fr1 + 1 ≤ fr) (hlo : 8 + (maxL + 11) + lo1 ≤ lo) (hst : st = As.reverse ++ rest) (hn : As.length = n) (hcat : (rest.map fun v => v.category).sum ≤ 8) (k : ∀ x : Int64, zG C ω nL E (K x) (pc + 3) lv (.long x :: rest) σ) : zG C ω nL E (zy1 o1 K) pc lv st σ := by
  intro v hv hE H locs ls hP hD hS hl
  subst hst
  cases hq : o1 with
  | none => rw [hq] at hv; cases hv
  | some q =>
    rw [hq] at hv
    have hFc := zFree hC.2.2.2.2.2.2.2.2.1 hD hS
    have hpre := zPreOf hC hP hD hS
    have hR : fr1 + 1 ≤ C.1.2.2.2.1.frames ∧ 8 + (maxL + 11) + lo1 ≤ C.1.2.2.2.1.locals := ⟨Nat.le_trans hfr hC.2.2.2.2.2.2.1, Nat.le_trans hlo hC.2.2.2.2.2.2.2.1⟩
    have cw := cwS (R := C.1.2.2.2.1) (s := C.1.2.2.2.2) (args := C.2.1.2.1) (rm := { frames := fr1, cells := 0, slots := 0, locals := lo1 }) (mc := 0) (ms := 0) n hC.2.2.2.2.1 hw.good rfl rfl rfl hw.2.2.2.2 hR
    refine va_calll (va_runS (As := As) (rest := rest) ⟨hC.1, hC.2.1, hC.2.2.1, hC.2.2.2.1, hC.2.2.2.2.1⟩ (hM q hq H.size) cw ⟨zBlind hC.2.2.2.2.2.2.2.2.2.1, fun U hU hW => ⟨rfl, hpre U hU hW⟩⟩ rfl hn hl.1 rfl (lv_room hcat) hd ⟨hC.2.2.2.2.2.2.2.2.2.2.2.1, hC.2.2.2.2.2.2.2.2.2.2.2.2⟩) hS (fun q _ h => hFc q h) hFc (fun r u t H1 locs1 ht hvm hw1 hB hz1 hk1 hS1 => ?_)
    obtain ⟨hP1, hK1, hD1⟩ := hB
    rw [ht] at hP1
    have e1 : r = q := congrArg Prod.fst hw1
    have e2 : u = σ := congrArg Prod.snd hw1
    subst e1
    subst e2
    exact k r v hv hE H1 locs1 ls hP1 (hD1.weaken (fun _ z _ h => hFc z.1 h)) hS1 hl
set_option maxHeartbeats 1000000 in
theorem gg_callSV {S α : Type} {C : zK} {ω : zO S} {cc : ByteArray} {own : String} {nL fr lo pc idx maxL fr1 lo1 n : Nat} {E : α → Prop} {lv : List (Nat × Value)} {st : List Value} {σ : S} {y : MethodName} {bytes : ByteArray} {ret : Option FieldType} {As rest : List Value} {o1 : Option (S)} {K : S → Option α} (hC : zOK C ω cc own nL fr lo) (hd : decode cc pc = .ok (.invokestatic idx, 3)) (hw : zCS own idx y bytes maxL ret n) (hM : ∀ q, o1 = some q → zMV C.1.2.1 C.2.2.2.1 ω y (zws y bytes maxL ret) fr1 lo1 As σ q) (hfr : fr1 + 1 ≤ fr) (hlo : 8 + (maxL + 11) + lo1 ≤ lo) (hst : st = As.reverse ++ rest) (hn : As.length = n) (hcat : (rest.map fun v => v.category).sum ≤ 8) (k : ∀ τ : S, zG C ω nL E (K τ) (pc + 3) lv rest τ) : zG C ω nL E (zy1 o1 K) pc lv st σ := by
  intro v hv hE H locs ls hP hD hS hl
  subst hst
  cases hq : o1 with
  | none => rw [hq] at hv; cases hv
  | some q =>
    rw [hq] at hv
    have hFc := zFree hC.2.2.2.2.2.2.2.2.1 hD hS
    have hpre := zPreOf hC hP hD hS
    have hR : fr1 + 1 ≤ C.1.2.2.2.1.frames ∧ 8 + (maxL + 11) + lo1 ≤ C.1.2.2.2.1.locals := ⟨Nat.le_trans hfr hC.2.2.2.2.2.2.1, Nat.le_trans hlo hC.2.2.2.2.2.2.2.1⟩
    have cw := cwS (R := C.1.2.2.2.1) (s := C.1.2.2.2.2) (args := C.2.1.2.1) (rm := { frames := fr1, cells := 0, slots := 0, locals := lo1 }) (mc := 0) (ms := 0) n hC.2.2.2.2.1 hw.good rfl rfl rfl hw.2.2.2.2 hR
    refine va_callv (va_runS (As := As) (rest := rest) ⟨hC.1, hC.2.1, hC.2.2.1, hC.2.2.2.1, hC.2.2.2.2.1⟩ (hM q hq H.size) cw ⟨zBlind hC.2.2.2.2.2.2.2.2.2.1, fun U hU hW => ⟨rfl, hpre U hU hW⟩⟩ rfl hn hl.1 rfl (lv_room hcat) hd ⟨hC.2.2.2.2.2.2.2.2.2.2.2.1, hC.2.2.2.2.2.2.2.2.2.2.2.2⟩) hS (fun q _ h => hFc q h) hFc (fun u t H1 locs1 ht hvm hw1 hB hz1 hk1 hS1 => ?_)
    obtain ⟨hP1, hK1, hD1⟩ := hB
    rw [ht] at hP1
    have e : u = q := hw1
    subst e
    exact k u v hv hE H1 locs1 ls hP1 (hD1.weaken (fun _ z _ h => hFc z.1 h)) hS1 hl
theorem gg_iretr {S : Type} {C : zK} {ω : zO S} {cc : ByteArray} {nL pc : Nat} {lv : List (Nat × Value)} {σ : S} {r x : Int32} (hR : zRI C ω nL cc (r, σ)) (hd : decode cc pc = .ok (.ireturn, 1)) : zG C ω nL (fun v => v = r) (some x) pc lv [.int x] σ := gg_y (fun h => hR pc lv x σ hd (by rw [h]))
theorem gg_zretr {S : Type} {C : zK} {ω : zO S} {cc : ByteArray} {nL pc : Nat} {lv : List (Nat × Value)} {σ : S} {r x : Int32} (hR : zRZ C ω nL cc (r, σ)) (hd : decode cc pc = .ok (.ireturn, 1)) (hn : narrow .boolean (.int x) = .int x) : zG C ω nL (fun v => v = r) (some x) pc lv [.int x] σ := gg_y (fun h => hR pc lv x σ hd hn (by rw [h]))
theorem gg_zretgr {S : Type} {C : zK} {ω : zO S} {cc : ByteArray} {nL pc : Nat} {lv : List (Nat × Value)} {σ : S} {r x : Int32} (hR : zRZ C ω nL cc (r, σ)) (hd : decode cc pc = .ok (.ireturn, 1)) : zG C ω nL (fun v => v = r) (zg (zz x) (some x)) pc lv [.int x] σ := by
  intro v hv hE
  unfold zg at hv
  split at hv
  · next h => exact gg_zretr hR hd (zz_n h) v hv hE
  · cases hv
theorem gg_lretr {S : Type} {C : zK} {ω : zO S} {cc : ByteArray} {nL pc : Nat} {lv : List (Nat × Value)} {σ : S} {r x : Int64} (hR : zRL C ω nL cc (r, σ)) (hd : decode cc pc = .ok (.lreturn, 1)) : zG C ω nL (fun v => v = r) (some x) pc lv [.long x] σ := gg_y (fun h => hR pc lv x σ hd (by rw [h]))
theorem zm_Ir {S : Type} {l : Launch} {D : va_G} {ω : zO S} {y : MethodName} {cc : ByteArray} {maxL fr lo : Nat} {av : List Value} {lv : List (Nat × Value)} {σ : S} {o : Option Int32} {r : Int32} (hy : plainName y.cls = true) (hX : zX ω.2.2) (hle : (lg_sl av).length ≤ maxL) (hlv : lv_args 0 av = lv)
    (body : ∀ C : zK, C.1.2.1 = l → C.2.2.2.1 = D → zOK C ω cc y.cls maxL fr lo → zRI C ω maxL cc (r, σ) → zG C ω maxL (fun v => v = r) o 0 lv [] σ) (h : o = some r) : zMI l D ω y (zws y cc maxL (some .int)) fr lo av σ (r, σ) :=
  zm_I (o := some (r, σ)) hy hX hle hlv (fun C h1 h2 hC hR v hv _ => body C h1 h2 hC hR r h rfl) rfl
theorem zm_Zr {S : Type} {l : Launch} {D : va_G} {ω : zO S} {y : MethodName} {cc : ByteArray} {maxL fr lo : Nat} {av : List Value} {lv : List (Nat × Value)} {σ : S} {o : Option Int32} {r : Int32} (hy : plainName y.cls = true) (hX : zX ω.2.2) (hle : (lg_sl av).length ≤ maxL) (hlv : lv_args 0 av = lv)
    (body : ∀ C : zK, C.1.2.1 = l → C.2.2.2.1 = D → zOK C ω cc y.cls maxL fr lo → zRZ C ω maxL cc (r, σ) → zG C ω maxL (fun v => v = r) o 0 lv [] σ) (h : o = some r) : zMI l D ω y (zws y cc maxL (some .boolean)) fr lo av σ (r, σ) :=
  zm_Z (o := some (r, σ)) hy hX hle hlv (fun C h1 h2 hC hR v hv _ => body C h1 h2 hC hR r h rfl) rfl
theorem zm_Lr {S : Type} {l : Launch} {D : va_G} {ω : zO S} {y : MethodName} {cc : ByteArray} {maxL fr lo : Nat} {av : List Value} {lv : List (Nat × Value)} {σ : S} {o : Option Int64} {r : Int64} (hy : plainName y.cls = true) (hX : zX ω.2.2) (hle : (lg_sl av).length ≤ maxL) (hlv : lv_args 0 av = lv)
    (body : ∀ C : zK, C.1.2.1 = l → C.2.2.2.1 = D → zOK C ω cc y.cls maxL fr lo → zRL C ω maxL cc (r, σ) → zG C ω maxL (fun v => v = r) o 0 lv [] σ) (h : o = some r) : zML l D ω y (zws y cc maxL (some .long)) fr lo av σ (r, σ) :=
  zm_L (o := some (r, σ)) hy hX hle hlv (fun C h1 h2 hC hR v hv _ => body C h1 h2 hC hR r h rfl) rfl
theorem gg_mabs {S α : Type} {C : zK} {ω : zO S} {cc : ByteArray} {own : String} {nL fr lo pc idx : Nat} {E : α → Prop} {o : Option α} {lv : List (Nat × Value)} {st : List Value} {σ : S} {x : Int32} (hC : zOK C ω cc own nL fr lo) (hd : decode cc pc = .ok (.invokestatic idx, 3)) (hw : Cond.methodLink own idx Lib.Math.abs.name ∈ zT ∧ Cond.static Lib.Math.abs.name ∈ zT ∧ Cond.initialized "java/lang/Math" ∈ zT ∧ Cond.code Lib.Math.abs.name Lib.Math.abs.code 1 (some .int) ∈ zT) (hfr : 1 ≤ fr) (hlo : (st.map fun v => v.category).sum + 13 ≤ lo) (k : zG C ω nL E o (pc + 3) lv (.int (if 0 ≤ x then x else 0 - x) :: st) σ) : zG C ω nL E o pc lv (.int x :: st) σ :=
  fun v hv hE H locs ls hP hD hS hl => va_mabs hC.1 hC.2.1 (by rw [hC.2.2.1]; exact hl.1.symm) hC.2.2.2.1 (hC.2.2.2.2.1 _ hw.1) (hC.2.2.2.2.1 _ hw.2.1) (hC.2.2.2.2.1 _ hw.2.2.1) (hC.2.2.2.2.1 _ hw.2.2.2) (Nat.le_trans hfr hC.2.2.2.2.2.2.1) (Nat.le_trans hlo hC.2.2.2.2.2.2.2.1) hC.2.2.2.2.2.2.2.2.2.2.2.1 hC.2.2.2.2.2.2.2.2.2.2.2.2 hd (k v hv hE H locs ls hP hD hS hl)
theorem gg_mmax {S α : Type} {C : zK} {ω : zO S} {cc : ByteArray} {own : String} {nL fr lo pc idx : Nat} {E : α → Prop} {o : Option α} {lv : List (Nat × Value)} {st : List Value} {σ : S} {x y : Int32} (hC : zOK C ω cc own nL fr lo) (hd : decode cc pc = .ok (.invokestatic idx, 3)) (hw : Cond.methodLink own idx Lib.Math.max.name ∈ zT ∧ Cond.static Lib.Math.max.name ∈ zT ∧ Cond.initialized "java/lang/Math" ∈ zT ∧ Cond.code Lib.Math.max.name Lib.Math.max.code 2 (some .int) ∈ zT) (hfr : 1 ≤ fr) (hlo : (st.map fun v => v.category).sum + 13 ≤ lo) (k : zG C ω nL E o (pc + 3) lv (.int (if x < y then y else x) :: st) σ) : zG C ω nL E o pc lv (.int y :: .int x :: st) σ :=
  fun v hv hE H locs ls hP hD hS hl => va_mmax hC.1 hC.2.1 (by rw [hC.2.2.1]; exact hl.1.symm) hC.2.2.2.1 (hC.2.2.2.2.1 _ hw.1) (hC.2.2.2.2.1 _ hw.2.1) (hC.2.2.2.2.1 _ hw.2.2.1) (hC.2.2.2.2.1 _ hw.2.2.2) (Nat.le_trans hfr hC.2.2.2.2.2.2.1) (Nat.le_trans hlo hC.2.2.2.2.2.2.2.1) hC.2.2.2.2.2.2.2.2.2.2.2.1 hC.2.2.2.2.2.2.2.2.2.2.2.2 hd (k v hv hE H locs ls hP hD hS hl)
theorem gg_mmin {S α : Type} {C : zK} {ω : zO S} {cc : ByteArray} {own : String} {nL fr lo pc idx : Nat} {E : α → Prop} {o : Option α} {lv : List (Nat × Value)} {st : List Value} {σ : S} {x y : Int32} (hC : zOK C ω cc own nL fr lo) (hd : decode cc pc = .ok (.invokestatic idx, 3)) (hw : Cond.methodLink own idx Lib.Math.min.name ∈ zT ∧ Cond.static Lib.Math.min.name ∈ zT ∧ Cond.initialized "java/lang/Math" ∈ zT ∧ Cond.code Lib.Math.min.name Lib.Math.min.code 2 (some .int) ∈ zT) (hfr : 1 ≤ fr) (hlo : (st.map fun v => v.category).sum + 13 ≤ lo) (k : zG C ω nL E o (pc + 3) lv (.int (if y < x then y else x) :: st) σ) : zG C ω nL E o pc lv (.int y :: .int x :: st) σ :=
  fun v hv hE H locs ls hP hD hS hl => va_mmin hC.1 hC.2.1 (by rw [hC.2.2.1]; exact hl.1.symm) hC.2.2.2.1 (hC.2.2.2.2.1 _ hw.1) (hC.2.2.2.2.1 _ hw.2.1) (hC.2.2.2.2.1 _ hw.2.2.1) (hC.2.2.2.2.1 _ hw.2.2.2) (Nat.le_trans hfr hC.2.2.2.2.2.2.1) (Nat.le_trans hlo hC.2.2.2.2.2.2.2.1) hC.2.2.2.2.2.2.2.2.2.2.2.1 hC.2.2.2.2.2.2.2.2.2.2.2.2 hd (k v hv hE H locs ls hP hD hS hl)
theorem gg_mabsl {S α : Type} {C : zK} {ω : zO S} {cc : ByteArray} {own : String} {nL fr lo pc idx : Nat} {E : α → Prop} {o : Option α} {lv : List (Nat × Value)} {st : List Value} {σ : S} {x : Int64} (hC : zOK C ω cc own nL fr lo) (hd : decode cc pc = .ok (.invokestatic idx, 3)) (hw : Cond.methodLink own idx Lib.MathLoose.abs_long.x ∈ zT ∧ Cond.static Lib.MathLoose.abs_long.x ∈ zT ∧ Cond.initialized "java/lang/Math" ∈ zT ∧ Cond.code Lib.MathLoose.abs_long.x Lib.MathLoose.abs_long.code 2 (some .long) ∈ zT) (hfr : 1 ≤ fr) (hlo : (st.map fun v => v.category).sum + 13 ≤ lo) (k : zG C ω nL E o (pc + 3) lv (.long (if 0 < x then x else -x) :: st) σ) : zG C ω nL E o pc lv (.long x :: st) σ :=
  fun v hv hE H locs ls hP hD hS hl => va_mabs_long hC.1 hC.2.1 (by rw [hC.2.2.1]; exact hl.1.symm) hC.2.2.2.1 (hC.2.2.2.2.1 _ hw.1) (hC.2.2.2.2.1 _ hw.2.1) (hC.2.2.2.2.1 _ hw.2.2.1) (hC.2.2.2.2.1 _ hw.2.2.2) (Nat.le_trans hfr hC.2.2.2.2.2.2.1) (Nat.le_trans hlo hC.2.2.2.2.2.2.2.1) hC.2.2.2.2.2.2.2.2.2.2.2.1 hC.2.2.2.2.2.2.2.2.2.2.2.2 hd (k v hv hE H locs ls hP hD hS hl)
theorem gg_mmaxl {S α : Type} {C : zK} {ω : zO S} {cc : ByteArray} {own : String} {nL fr lo pc idx : Nat} {E : α → Prop} {o : Option α} {lv : List (Nat × Value)} {st : List Value} {σ : S} {x y : Int64} (hC : zOK C ω cc own nL fr lo) (hd : decode cc pc = .ok (.invokestatic idx, 3)) (hw : Cond.methodLink own idx Lib.MathLoose.max_long.x ∈ zT ∧ Cond.static Lib.MathLoose.max_long.x ∈ zT ∧ Cond.initialized "java/lang/Math" ∈ zT ∧ Cond.code Lib.MathLoose.max_long.x Lib.MathLoose.max_long.code 4 (some .long) ∈ zT) (hfr : 1 ≤ fr) (hlo : (st.map fun v => v.category).sum + 15 ≤ lo) (k : zG C ω nL E o (pc + 3) lv (.long (if y < x then x else y) :: st) σ) : zG C ω nL E o pc lv (.long y :: .long x :: st) σ :=
  fun v hv hE H locs ls hP hD hS hl => va_mmax_long hC.1 hC.2.1 (by rw [hC.2.2.1]; exact hl.1.symm) hC.2.2.2.1 (hC.2.2.2.2.1 _ hw.1) (hC.2.2.2.2.1 _ hw.2.1) (hC.2.2.2.2.1 _ hw.2.2.1) (hC.2.2.2.2.1 _ hw.2.2.2) (Nat.le_trans hfr hC.2.2.2.2.2.2.1) (Nat.le_trans hlo hC.2.2.2.2.2.2.2.1) hC.2.2.2.2.2.2.2.2.2.2.2.1 hC.2.2.2.2.2.2.2.2.2.2.2.2 hd (k v hv hE H locs ls hP hD hS hl)
theorem gg_mminl {S α : Type} {C : zK} {ω : zO S} {cc : ByteArray} {own : String} {nL fr lo pc idx : Nat} {E : α → Prop} {o : Option α} {lv : List (Nat × Value)} {st : List Value} {σ : S} {x y : Int64} (hC : zOK C ω cc own nL fr lo) (hd : decode cc pc = .ok (.invokestatic idx, 3)) (hw : Cond.methodLink own idx Lib.MathLoose.min_long.x ∈ zT ∧ Cond.static Lib.MathLoose.min_long.x ∈ zT ∧ Cond.initialized "java/lang/Math" ∈ zT ∧ Cond.code Lib.MathLoose.min_long.x Lib.MathLoose.min_long.code 4 (some .long) ∈ zT) (hfr : 1 ≤ fr) (hlo : (st.map fun v => v.category).sum + 15 ≤ lo) (k : zG C ω nL E o (pc + 3) lv (.long (if y < x then y else x) :: st) σ) : zG C ω nL E o pc lv (.long y :: .long x :: st) σ :=
  fun v hv hE H locs ls hP hD hS hl => va_mmin_long hC.1 hC.2.1 (by rw [hC.2.2.1]; exact hl.1.symm) hC.2.2.2.1 (hC.2.2.2.2.1 _ hw.1) (hC.2.2.2.2.1 _ hw.2.1) (hC.2.2.2.2.1 _ hw.2.2.1) (hC.2.2.2.2.1 _ hw.2.2.2) (Nat.le_trans hfr hC.2.2.2.2.2.2.1) (Nat.le_trans hlo hC.2.2.2.2.2.2.2.1) hC.2.2.2.2.2.2.2.2.2.2.2.1 hC.2.2.2.2.2.2.2.2.2.2.2.2 hd (k v hv hE H locs ls hP hD hS hl)
end
