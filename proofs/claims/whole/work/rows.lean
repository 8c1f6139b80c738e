section
/-- a private method of a class that the tables say can be made, by its rows of tables_1 -/
def lw_okq (q : MethodName × Nat) : Prop := (q.1.cls ≠ "java/lang/invoke/MethodHandle" ∧ q.1.cls ≠ "java/lang/invoke/VarHandle") ∧ Cond.instantiable q.1.cls q.2 ∈ tables_1 ∧ Cond.privateMethod q.1 ∈ tables_1 ∧ Cond.instanceMethod q.1 ∈ tables_1
theorem lw_p0 : lw_okq (⟨"PeriodGates", "isEdge", "(I)Z"⟩, 12) := ⟨⟨by decide +kernel, by decide +kernel⟩, List.mem_of_getElem? (i := 15) (by decide +kernel), List.mem_of_getElem? (i := 264) (by decide +kernel), List.mem_of_getElem? (i := 265) (by decide +kernel)⟩
theorem lw_p1 : lw_okq (⟨"PeriodGates", "isBin", "(I)Z"⟩, 12) := ⟨⟨by decide +kernel, by decide +kernel⟩, List.mem_of_getElem? (i := 15) (by decide +kernel), List.mem_of_getElem? (i := 321) (by decide +kernel), List.mem_of_getElem? (i := 322) (by decide +kernel)⟩
theorem lw_p2 : lw_okq (⟨"PeriodGates", "modeReads", "(Ljava/lang/String;)Z"⟩, 12) := ⟨⟨by decide +kernel, by decide +kernel⟩, List.mem_of_getElem? (i := 15) (by decide +kernel), List.mem_of_getElem? (i := 376) (by decide +kernel), List.mem_of_getElem? (i := 377) (by decide +kernel)⟩
theorem lw_p3 : lw_okq (⟨"PeriodGates", "renew", "()V"⟩, 12) := ⟨⟨by decide +kernel, by decide +kernel⟩, List.mem_of_getElem? (i := 15) (by decide +kernel), List.mem_of_getElem? (i := 442) (by decide +kernel), List.mem_of_getElem? (i := 443) (by decide +kernel)⟩
theorem lw_p4 : lw_okq (⟨"PeriodGates$Reading", "medianGap", "()J"⟩, 10) := ⟨⟨by decide +kernel, by decide +kernel⟩, List.mem_of_getElem? (i := 93) (by decide +kernel), List.mem_of_getElem? (i := 473) (by decide +kernel), List.mem_of_getElem? (i := 474) (by decide +kernel)⟩
theorem lw_p5 : lw_okq (⟨"PeriodGates$Reading", "gapBehind", "(I)J"⟩, 10) := ⟨⟨by decide +kernel, by decide +kernel⟩, List.mem_of_getElem? (i := 93) (by decide +kernel), List.mem_of_getElem? (i := 477) (by decide +kernel), List.mem_of_getElem? (i := 478) (by decide +kernel)⟩
theorem lw_p6 : lw_okq (⟨"PeriodGates$Reading", "judgeGap", "(I)V"⟩, 10) := ⟨⟨by decide +kernel, by decide +kernel⟩, List.mem_of_getElem? (i := 93) (by decide +kernel), List.mem_of_getElem? (i := 481) (by decide +kernel), List.mem_of_getElem? (i := 482) (by decide +kernel)⟩
theorem lw_p7 : lw_okq (⟨"PeriodGates$Spans", "placeByRank", "(I)V"⟩, 4) := ⟨⟨by decide +kernel, by decide +kernel⟩, List.mem_of_getElem? (i := 142) (by decide +kernel), List.mem_of_getElem? (i := 512) (by decide +kernel), List.mem_of_getElem? (i := 513) (by decide +kernel)⟩
theorem lw_p8 : lw_okq (⟨"PeriodGates$Spans", "isSteadier", "(II)Z"⟩, 4) := ⟨⟨by decide +kernel, by decide +kernel⟩, List.mem_of_getElem? (i := 142) (by decide +kernel), List.mem_of_getElem? (i := 516) (by decide +kernel), List.mem_of_getElem? (i := 517) (by decide +kernel)⟩
theorem lw_p9 : lw_okq (⟨"PeriodGates", "leastBound", "(I)I"⟩, 12) := ⟨⟨by decide +kernel, by decide +kernel⟩, List.mem_of_getElem? (i := 15) (by decide +kernel), List.mem_of_getElem? (i := 522) (by decide +kernel), List.mem_of_getElem? (i := 523) (by decide +kernel)⟩
theorem lw_p10 : lw_okq (⟨"PeriodGates", "greatestBound", "(I)I"⟩, 12) := ⟨⟨by decide +kernel, by decide +kernel⟩, List.mem_of_getElem? (i := 15) (by decide +kernel), List.mem_of_getElem? (i := 526) (by decide +kernel), List.mem_of_getElem? (i := 527) (by decide +kernel)⟩
theorem lw_p11 : lw_okq (⟨"PeriodGates", "isLastEdge", "(I)Z"⟩, 12) := ⟨⟨by decide +kernel, by decide +kernel⟩, List.mem_of_getElem? (i := 15) (by decide +kernel), List.mem_of_getElem? (i := 531) (by decide +kernel), List.mem_of_getElem? (i := 532) (by decide +kernel)⟩
theorem lw_p12 : lw_okq (⟨"PeriodGates", "isGate", "(I)Z"⟩, 12) := ⟨⟨by decide +kernel, by decide +kernel⟩, List.mem_of_getElem? (i := 15) (by decide +kernel), List.mem_of_getElem? (i := 559) (by decide +kernel), List.mem_of_getElem? (i := 560) (by decide +kernel)⟩
theorem lw_p13 : lw_okq (⟨"PeriodGates", "lengthBetween", "(III)J"⟩, 12) := ⟨⟨by decide +kernel, by decide +kernel⟩, List.mem_of_getElem? (i := 15) (by decide +kernel), List.mem_of_getElem? (i := 571) (by decide +kernel), List.mem_of_getElem? (i := 572) (by decide +kernel)⟩
theorem lw_p14 : lw_okq (⟨"PeriodGates$Gates", "closesAhead", "(II)Z"⟩, 5) := ⟨⟨by decide +kernel, by decide +kernel⟩, List.mem_of_getElem? (i := 68) (by decide +kernel), List.mem_of_getElem? (i := 583) (by decide +kernel), List.mem_of_getElem? (i := 584) (by decide +kernel)⟩
theorem lw_p15 : lw_okq (⟨"PeriodGates", "isEdgePair", "(II)Z"⟩, 12) := ⟨⟨by decide +kernel, by decide +kernel⟩, List.mem_of_getElem? (i := 15) (by decide +kernel), List.mem_of_getElem? (i := 595) (by decide +kernel), List.mem_of_getElem? (i := 596) (by decide +kernel)⟩
def lw_privs_1 : List (MethodName × Nat) := [(⟨"PeriodGates", "isEdge", "(I)Z"⟩, 12), (⟨"PeriodGates", "isBin", "(I)Z"⟩, 12), (⟨"PeriodGates", "modeReads", "(Ljava/lang/String;)Z"⟩, 12), (⟨"PeriodGates", "renew", "()V"⟩, 12), (⟨"PeriodGates$Reading", "medianGap", "()J"⟩, 10), (⟨"PeriodGates$Reading", "gapBehind", "(I)J"⟩, 10), (⟨"PeriodGates$Reading", "judgeGap", "(I)V"⟩, 10), (⟨"PeriodGates$Spans", "placeByRank", "(I)V"⟩, 4), (⟨"PeriodGates$Spans", "isSteadier", "(II)Z"⟩, 4), (⟨"PeriodGates", "leastBound", "(I)I"⟩, 12), (⟨"PeriodGates", "greatestBound", "(I)I"⟩, 12), (⟨"PeriodGates", "isLastEdge", "(I)Z"⟩, 12), (⟨"PeriodGates", "isGate", "(I)Z"⟩, 12), (⟨"PeriodGates", "lengthBetween", "(III)J"⟩, 12), (⟨"PeriodGates$Gates", "closesAhead", "(II)Z"⟩, 5), (⟨"PeriodGates", "isEdgePair", "(II)Z"⟩, 12)]
theorem lw_r1 : ∀ q ∈ lw_privs_1, lw_okq q := List.forall_mem_cons.mpr ⟨lw_p0, List.forall_mem_cons.mpr ⟨lw_p1, List.forall_mem_cons.mpr ⟨lw_p2, List.forall_mem_cons.mpr ⟨lw_p3, List.forall_mem_cons.mpr ⟨lw_p4, List.forall_mem_cons.mpr ⟨lw_p5, List.forall_mem_cons.mpr ⟨lw_p6, List.forall_mem_cons.mpr ⟨lw_p7, List.forall_mem_cons.mpr ⟨lw_p8, List.forall_mem_cons.mpr ⟨lw_p9, List.forall_mem_cons.mpr ⟨lw_p10, List.forall_mem_cons.mpr ⟨lw_p11, List.forall_mem_cons.mpr ⟨lw_p12, List.forall_mem_cons.mpr ⟨lw_p13, List.forall_mem_cons.mpr ⟨lw_p14, List.forall_mem_cons.mpr ⟨lw_p15, fun _ h => absurd h List.not_mem_nil⟩⟩⟩⟩⟩⟩⟩⟩⟩⟩⟩⟩⟩⟩⟩⟩
theorem lw_p16 : lw_okq (⟨"PeriodGates", "finding", "(I)I"⟩, 12) := ⟨⟨by decide +kernel, by decide +kernel⟩, List.mem_of_getElem? (i := 15) (by decide +kernel), List.mem_of_getElem? (i := 653) (by decide +kernel), List.mem_of_getElem? (i := 654) (by decide +kernel)⟩
theorem lw_p17 : lw_okq (⟨"PeriodGates", "mixBins", "(J)J"⟩, 12) := ⟨⟨by decide +kernel, by decide +kernel⟩, List.mem_of_getElem? (i := 15) (by decide +kernel), List.mem_of_getElem? (i := 747) (by decide +kernel), List.mem_of_getElem? (i := 748) (by decide +kernel)⟩
theorem lw_p18 : lw_okq (⟨"PeriodGates", "mixEdges", "(J)J"⟩, 12) := ⟨⟨by decide +kernel, by decide +kernel⟩, List.mem_of_getElem? (i := 15) (by decide +kernel), List.mem_of_getElem? (i := 754) (by decide +kernel), List.mem_of_getElem? (i := 755) (by decide +kernel)⟩
theorem lw_p19 : lw_okq (⟨"PeriodGates", "mixGates", "(J)J"⟩, 12) := ⟨⟨by decide +kernel, by decide +kernel⟩, List.mem_of_getElem? (i := 15) (by decide +kernel), List.mem_of_getElem? (i := 761) (by decide +kernel), List.mem_of_getElem? (i := 762) (by decide +kernel)⟩
theorem lw_p20 : lw_okq (⟨"PeriodGates", "mixChains", "(J)J"⟩, 12) := ⟨⟨by decide +kernel, by decide +kernel⟩, List.mem_of_getElem? (i := 15) (by decide +kernel), List.mem_of_getElem? (i := 768) (by decide +kernel), List.mem_of_getElem? (i := 769) (by decide +kernel)⟩
theorem lw_p21 : lw_okq (⟨"PeriodGates", "mixFit", "(J)J"⟩, 12) := ⟨⟨by decide +kernel, by decide +kernel⟩, List.mem_of_getElem? (i := 15) (by decide +kernel), List.mem_of_getElem? (i := 773) (by decide +kernel), List.mem_of_getElem? (i := 774) (by decide +kernel)⟩
theorem lw_p22 : lw_okq (⟨"PeriodGates", "mixSpans", "(J)J"⟩, 12) := ⟨⟨by decide +kernel, by decide +kernel⟩, List.mem_of_getElem? (i := 15) (by decide +kernel), List.mem_of_getElem? (i := 780) (by decide +kernel), List.mem_of_getElem? (i := 781) (by decide +kernel)⟩
theorem lw_p23 : lw_okq (⟨"PeriodGatesModel", "learns", "()V"⟩, 33) := ⟨⟨by decide +kernel, by decide +kernel⟩, List.mem_of_getElem? (i := 785) (by decide +kernel), List.mem_of_getElem? (i := 791) (by decide +kernel), List.mem_of_getElem? (i := 792) (by decide +kernel)⟩
theorem lw_p24 : lw_okq (⟨"PeriodGatesModel", "adds", "(I)I"⟩, 33) := ⟨⟨by decide +kernel, by decide +kernel⟩, List.mem_of_getElem? (i := 785) (by decide +kernel), List.mem_of_getElem? (i := 899) (by decide +kernel), List.mem_of_getElem? (i := 900) (by decide +kernel)⟩
theorem lw_p25 : lw_okq (⟨"PeriodGatesModel", "placeFor", "(I)I"⟩, 33) := ⟨⟨by decide +kernel, by decide +kernel⟩, List.mem_of_getElem? (i := 785) (by decide +kernel), List.mem_of_getElem? (i := 906) (by decide +kernel), List.mem_of_getElem? (i := 907) (by decide +kernel)⟩
theorem lw_p26 : lw_okq (⟨"PeriodGatesModel", "isEdge", "(I)Z"⟩, 33) := ⟨⟨by decide +kernel, by decide +kernel⟩, List.mem_of_getElem? (i := 785) (by decide +kernel), List.mem_of_getElem? (i := 918) (by decide +kernel), List.mem_of_getElem? (i := 919) (by decide +kernel)⟩
theorem lw_p27 : lw_okq (⟨"PeriodGatesModel", "bins", "()I"⟩, 33) := ⟨⟨by decide +kernel, by decide +kernel⟩, List.mem_of_getElem? (i := 785) (by decide +kernel), List.mem_of_getElem? (i := 930) (by decide +kernel), List.mem_of_getElem? (i := 931) (by decide +kernel)⟩
theorem lw_p28 : lw_okq (⟨"PeriodGatesModel", "forgets", "()I"⟩, 33) := ⟨⟨by decide +kernel, by decide +kernel⟩, List.mem_of_getElem? (i := 785) (by decide +kernel), List.mem_of_getElem? (i := 934) (by decide +kernel), List.mem_of_getElem? (i := 935) (by decide +kernel)⟩
theorem lw_p29 : lw_okq (⟨"PeriodGatesModel", "allHits", "()I"⟩, 33) := ⟨⟨by decide +kernel, by decide +kernel⟩, List.mem_of_getElem? (i := 785) (by decide +kernel), List.mem_of_getElem? (i := 938) (by decide +kernel), List.mem_of_getElem? (i := 939) (by decide +kernel)⟩
theorem lw_p30 : lw_okq (⟨"PeriodGatesModel", "codeOf", "(I)I"⟩, 33) := ⟨⟨by decide +kernel, by decide +kernel⟩, List.mem_of_getElem? (i := 785) (by decide +kernel), List.mem_of_getElem? (i := 946) (by decide +kernel), List.mem_of_getElem? (i := 947) (by decide +kernel)⟩
theorem lw_p31 : lw_okq (⟨"PeriodGatesModel", "isBin", "(I)Z"⟩, 33) := ⟨⟨by decide +kernel, by decide +kernel⟩, List.mem_of_getElem? (i := 785) (by decide +kernel), List.mem_of_getElem? (i := 962) (by decide +kernel), List.mem_of_getElem? (i := 963) (by decide +kernel)⟩
def lw_privs_2 : List (MethodName × Nat) := [(⟨"PeriodGates", "finding", "(I)I"⟩, 12), (⟨"PeriodGates", "mixBins", "(J)J"⟩, 12), (⟨"PeriodGates", "mixEdges", "(J)J"⟩, 12), (⟨"PeriodGates", "mixGates", "(J)J"⟩, 12), (⟨"PeriodGates", "mixChains", "(J)J"⟩, 12), (⟨"PeriodGates", "mixFit", "(J)J"⟩, 12), (⟨"PeriodGates", "mixSpans", "(J)J"⟩, 12), (⟨"PeriodGatesModel", "learns", "()V"⟩, 33), (⟨"PeriodGatesModel", "adds", "(I)I"⟩, 33), (⟨"PeriodGatesModel", "placeFor", "(I)I"⟩, 33), (⟨"PeriodGatesModel", "isEdge", "(I)Z"⟩, 33), (⟨"PeriodGatesModel", "bins", "()I"⟩, 33), (⟨"PeriodGatesModel", "forgets", "()I"⟩, 33), (⟨"PeriodGatesModel", "allHits", "()I"⟩, 33), (⟨"PeriodGatesModel", "codeOf", "(I)I"⟩, 33), (⟨"PeriodGatesModel", "isBin", "(I)Z"⟩, 33)]
theorem lw_r2 : ∀ q ∈ lw_privs_2, lw_okq q := List.forall_mem_cons.mpr ⟨lw_p16, List.forall_mem_cons.mpr ⟨lw_p17, List.forall_mem_cons.mpr ⟨lw_p18, List.forall_mem_cons.mpr ⟨lw_p19, List.forall_mem_cons.mpr ⟨lw_p20, List.forall_mem_cons.mpr ⟨lw_p21, List.forall_mem_cons.mpr ⟨lw_p22, List.forall_mem_cons.mpr ⟨lw_p23, List.forall_mem_cons.mpr ⟨lw_p24, List.forall_mem_cons.mpr ⟨lw_p25, List.forall_mem_cons.mpr ⟨lw_p26, List.forall_mem_cons.mpr ⟨lw_p27, List.forall_mem_cons.mpr ⟨lw_p28, List.forall_mem_cons.mpr ⟨lw_p29, List.forall_mem_cons.mpr ⟨lw_p30, List.forall_mem_cons.mpr ⟨lw_p31, fun _ h => absurd h List.not_mem_nil⟩⟩⟩⟩⟩⟩⟩⟩⟩⟩⟩⟩⟩⟩⟩⟩
theorem lw_p32 : lw_okq (⟨"PeriodGatesModel", "binOf", "(II)I"⟩, 33) := ⟨⟨by decide +kernel, by decide +kernel⟩, List.mem_of_getElem? (i := 785) (by decide +kernel), List.mem_of_getElem? (i := 966) (by decide +kernel), List.mem_of_getElem? (i := 967) (by decide +kernel)⟩
theorem lw_p33 : lw_okq (⟨"PeriodGatesModel", "firstOf", "(I)I"⟩, 33) := ⟨⟨by decide +kernel, by decide +kernel⟩, List.mem_of_getElem? (i := 785) (by decide +kernel), List.mem_of_getElem? (i := 970) (by decide +kernel), List.mem_of_getElem? (i := 971) (by decide +kernel)⟩
theorem lw_p34 : lw_okq (⟨"PeriodGatesModel", "widthOf", "(I)I"⟩, 33) := ⟨⟨by decide +kernel, by decide +kernel⟩, List.mem_of_getElem? (i := 785) (by decide +kernel), List.mem_of_getElem? (i := 974) (by decide +kernel), List.mem_of_getElem? (i := 975) (by decide +kernel)⟩
theorem lw_p35 : lw_okq (⟨"PeriodGatesModel", "denseOf", "(II)J"⟩, 33) := ⟨⟨by decide +kernel, by decide +kernel⟩, List.mem_of_getElem? (i := 785) (by decide +kernel), List.mem_of_getElem? (i := 982) (by decide +kernel), List.mem_of_getElem? (i := 983) (by decide +kernel)⟩
theorem lw_p36 : lw_okq (⟨"PeriodGatesModel", "worstNow", "()I"⟩, 33) := ⟨⟨by decide +kernel, by decide +kernel⟩, List.mem_of_getElem? (i := 785) (by decide +kernel), List.mem_of_getElem? (i := 998) (by decide +kernel), List.mem_of_getElem? (i := 999) (by decide +kernel)⟩
theorem lw_p37 : lw_okq (⟨"PeriodGatesModel", "modeNow", "()I"⟩, 33) := ⟨⟨by decide +kernel, by decide +kernel⟩, List.mem_of_getElem? (i := 785) (by decide +kernel), List.mem_of_getElem? (i := 1014) (by decide +kernel), List.mem_of_getElem? (i := 1015) (by decide +kernel)⟩
theorem lw_p38 : lw_okq (⟨"PeriodGatesModel", "isTyped", "(IIIII)Z"⟩, 33) := ⟨⟨by decide +kernel, by decide +kernel⟩, List.mem_of_getElem? (i := 785) (by decide +kernel), List.mem_of_getElem? (i := 1018) (by decide +kernel), List.mem_of_getElem? (i := 1019) (by decide +kernel)⟩
theorem lw_p39 : lw_okq (⟨"PeriodGatesModel", "seenOf", "(II)I"⟩, 33) := ⟨⟨by decide +kernel, by decide +kernel⟩, List.mem_of_getElem? (i := 785) (by decide +kernel), List.mem_of_getElem? (i := 1034) (by decide +kernel), List.mem_of_getElem? (i := 1035) (by decide +kernel)⟩
theorem lw_p40 : lw_okq (⟨"PeriodGatesModel", "finds", "()V"⟩, 33) := ⟨⟨by decide +kernel, by decide +kernel⟩, List.mem_of_getElem? (i := 785) (by decide +kernel), List.mem_of_getElem? (i := 1038) (by decide +kernel), List.mem_of_getElem? (i := 1039) (by decide +kernel)⟩
theorem lw_p41 : lw_okq (⟨"PeriodGatesModel", "partBy", "(II)J"⟩, 33) := ⟨⟨by decide +kernel, by decide +kernel⟩, List.mem_of_getElem? (i := 785) (by decide +kernel), List.mem_of_getElem? (i := 1043) (by decide +kernel), List.mem_of_getElem? (i := 1044) (by decide +kernel)⟩
theorem lw_p42 : lw_okq (⟨"PeriodGatesModel", "findsGaps", "()V"⟩, 33) := ⟨⟨by decide +kernel, by decide +kernel⟩, List.mem_of_getElem? (i := 785) (by decide +kernel), List.mem_of_getElem? (i := 1048) (by decide +kernel), List.mem_of_getElem? (i := 1049) (by decide +kernel)⟩
theorem lw_p43 : lw_okq (⟨"PeriodGatesModel", "boundOf", "(IZ)I"⟩, 33) := ⟨⟨by decide +kernel, by decide +kernel⟩, List.mem_of_getElem? (i := 785) (by decide +kernel), List.mem_of_getElem? (i := 1053) (by decide +kernel), List.mem_of_getElem? (i := 1054) (by decide +kernel)⟩
theorem lw_p44 : lw_okq (⟨"PeriodGatesModel", "stampOf", "(II)J"⟩, 33) := ⟨⟨by decide +kernel, by decide +kernel⟩, List.mem_of_getElem? (i := 785) (by decide +kernel), List.mem_of_getElem? (i := 1061) (by decide +kernel), List.mem_of_getElem? (i := 1062) (by decide +kernel)⟩
theorem lw_p45 : lw_okq (⟨"PeriodGatesModel", "referenceOf", "(I)J"⟩, 33) := ⟨⟨by decide +kernel, by decide +kernel⟩, List.mem_of_getElem? (i := 785) (by decide +kernel), List.mem_of_getElem? (i := 1069) (by decide +kernel), List.mem_of_getElem? (i := 1070) (by decide +kernel)⟩
theorem lw_p46 : lw_okq (⟨"PeriodGatesModel", "isGate", "(I)Z"⟩, 33) := ⟨⟨by decide +kernel, by decide +kernel⟩, List.mem_of_getElem? (i := 785) (by decide +kernel), List.mem_of_getElem? (i := 1085) (by decide +kernel), List.mem_of_getElem? (i := 1086) (by decide +kernel)⟩
theorem lw_p47 : lw_okq (⟨"PeriodGatesModel", "whereOf", "(II)I"⟩, 33) := ⟨⟨by decide +kernel, by decide +kernel⟩, List.mem_of_getElem? (i := 785) (by decide +kernel), List.mem_of_getElem? (i := 1089) (by decide +kernel), List.mem_of_getElem? (i := 1090) (by decide +kernel)⟩
def lw_privs_3 : List (MethodName × Nat) := [(⟨"PeriodGatesModel", "binOf", "(II)I"⟩, 33), (⟨"PeriodGatesModel", "firstOf", "(I)I"⟩, 33), (⟨"PeriodGatesModel", "widthOf", "(I)I"⟩, 33), (⟨"PeriodGatesModel", "denseOf", "(II)J"⟩, 33), (⟨"PeriodGatesModel", "worstNow", "()I"⟩, 33), (⟨"PeriodGatesModel", "modeNow", "()I"⟩, 33), (⟨"PeriodGatesModel", "isTyped", "(IIIII)Z"⟩, 33), (⟨"PeriodGatesModel", "seenOf", "(II)I"⟩, 33), (⟨"PeriodGatesModel", "finds", "()V"⟩, 33), (⟨"PeriodGatesModel", "partBy", "(II)J"⟩, 33), (⟨"PeriodGatesModel", "findsGaps", "()V"⟩, 33), (⟨"PeriodGatesModel", "boundOf", "(IZ)I"⟩, 33), (⟨"PeriodGatesModel", "stampOf", "(II)J"⟩, 33), (⟨"PeriodGatesModel", "referenceOf", "(I)J"⟩, 33), (⟨"PeriodGatesModel", "isGate", "(I)Z"⟩, 33), (⟨"PeriodGatesModel", "whereOf", "(II)I"⟩, 33)]
theorem lw_r3 : ∀ q ∈ lw_privs_3, lw_okq q := List.forall_mem_cons.mpr ⟨lw_p32, List.forall_mem_cons.mpr ⟨lw_p33, List.forall_mem_cons.mpr ⟨lw_p34, List.forall_mem_cons.mpr ⟨lw_p35, List.forall_mem_cons.mpr ⟨lw_p36, List.forall_mem_cons.mpr ⟨lw_p37, List.forall_mem_cons.mpr ⟨lw_p38, List.forall_mem_cons.mpr ⟨lw_p39, List.forall_mem_cons.mpr ⟨lw_p40, List.forall_mem_cons.mpr ⟨lw_p41, List.forall_mem_cons.mpr ⟨lw_p42, List.forall_mem_cons.mpr ⟨lw_p43, List.forall_mem_cons.mpr ⟨lw_p44, List.forall_mem_cons.mpr ⟨lw_p45, List.forall_mem_cons.mpr ⟨lw_p46, List.forall_mem_cons.mpr ⟨lw_p47, fun _ h => absurd h List.not_mem_nil⟩⟩⟩⟩⟩⟩⟩⟩⟩⟩⟩⟩⟩⟩⟩⟩
theorem lw_p48 : lw_okq (⟨"PeriodGatesModel", "opens", "(I)I"⟩, 33) := ⟨⟨by decide +kernel, by decide +kernel⟩, List.mem_of_getElem? (i := 785) (by decide +kernel), List.mem_of_getElem? (i := 1093) (by decide +kernel), List.mem_of_getElem? (i := 1094) (by decide +kernel)⟩
theorem lw_p49 : lw_okq (⟨"PeriodGatesModel", "closes", "(I)I"⟩, 33) := ⟨⟨by decide +kernel, by decide +kernel⟩, List.mem_of_getElem? (i := 785) (by decide +kernel), List.mem_of_getElem? (i := 1097) (by decide +kernel), List.mem_of_getElem? (i := 1098) (by decide +kernel)⟩
theorem lw_p50 : lw_okq (⟨"PeriodGatesModel", "periodsOf", "(I)I"⟩, 33) := ⟨⟨by decide +kernel, by decide +kernel⟩, List.mem_of_getElem? (i := 785) (by decide +kernel), List.mem_of_getElem? (i := 1101) (by decide +kernel), List.mem_of_getElem? (i := 1102) (by decide +kernel)⟩
theorem lw_p51 : lw_okq (⟨"PeriodGatesModel", "frequencyOf", "(III)J"⟩, 33) := ⟨⟨by decide +kernel, by decide +kernel⟩, List.mem_of_getElem? (i := 785) (by decide +kernel), List.mem_of_getElem? (i := 1109) (by decide +kernel), List.mem_of_getElem? (i := 1110) (by decide +kernel)⟩
theorem lw_p52 : lw_okq (⟨"PeriodGatesModel", "closingOf", "(I)I"⟩, 33) := ⟨⟨by decide +kernel, by decide +kernel⟩, List.mem_of_getElem? (i := 785) (by decide +kernel), List.mem_of_getElem? (i := 1117) (by decide +kernel), List.mem_of_getElem? (i := 1118) (by decide +kernel)⟩
theorem lw_p53 : lw_okq (⟨"PeriodGatesModel", "isAhead", "(II)Z"⟩, 33) := ⟨⟨by decide +kernel, by decide +kernel⟩, List.mem_of_getElem? (i := 785) (by decide +kernel), List.mem_of_getElem? (i := 1121) (by decide +kernel), List.mem_of_getElem? (i := 1122) (by decide +kernel)⟩
theorem lw_p54 : lw_okq (⟨"PeriodGatesModel", "chainOf", "(III)I"⟩, 33) := ⟨⟨by decide +kernel, by decide +kernel⟩, List.mem_of_getElem? (i := 785) (by decide +kernel), List.mem_of_getElem? (i := 1129) (by decide +kernel), List.mem_of_getElem? (i := 1130) (by decide +kernel)⟩
theorem lw_p55 : lw_okq (⟨"PeriodGatesModel", "nextBy", "(II)I"⟩, 33) := ⟨⟨by decide +kernel, by decide +kernel⟩, List.mem_of_getElem? (i := 785) (by decide +kernel), List.mem_of_getElem? (i := 1133) (by decide +kernel), List.mem_of_getElem? (i := 1134) (by decide +kernel)⟩
theorem lw_p56 : lw_okq (⟨"PeriodGatesModel", "isFit", "(II)Z"⟩, 33) := ⟨⟨by decide +kernel, by decide +kernel⟩, List.mem_of_getElem? (i := 785) (by decide +kernel), List.mem_of_getElem? (i := 1141) (by decide +kernel), List.mem_of_getElem? (i := 1142) (by decide +kernel)⟩
theorem lw_p57 : lw_okq (⟨"PeriodGatesModel", "fitOf", "(III)J"⟩, 33) := ⟨⟨by decide +kernel, by decide +kernel⟩, List.mem_of_getElem? (i := 785) (by decide +kernel), List.mem_of_getElem? (i := 1145) (by decide +kernel), List.mem_of_getElem? (i := 1146) (by decide +kernel)⟩
theorem lw_p58 : lw_okq (⟨"PeriodGatesModel", "sums", "(II)V"⟩, 33) := ⟨⟨by decide +kernel, by decide +kernel⟩, List.mem_of_getElem? (i := 785) (by decide +kernel), List.mem_of_getElem? (i := 1149) (by decide +kernel), List.mem_of_getElem? (i := 1150) (by decide +kernel)⟩
theorem lw_p59 : lw_okq (⟨"PeriodGatesModel", "offOf", "(II)I"⟩, 33) := ⟨⟨by decide +kernel, by decide +kernel⟩, List.mem_of_getElem? (i := 785) (by decide +kernel), List.mem_of_getElem? (i := 1157) (by decide +kernel), List.mem_of_getElem? (i := 1158) (by decide +kernel)⟩
theorem lw_p60 : lw_okq (⟨"PeriodGatesModel", "varianceOf", "(II)J"⟩, 33) := ⟨⟨by decide +kernel, by decide +kernel⟩, List.mem_of_getElem? (i := 785) (by decide +kernel), List.mem_of_getElem? (i := 1173) (by decide +kernel), List.mem_of_getElem? (i := 1174) (by decide +kernel)⟩
theorem lw_p61 : lw_okq (⟨"PeriodGatesModel", "squaresAt", "(I)J"⟩, 33) := ⟨⟨by decide +kernel, by decide +kernel⟩, List.mem_of_getElem? (i := 785) (by decide +kernel), List.mem_of_getElem? (i := 1177) (by decide +kernel), List.mem_of_getElem? (i := 1178) (by decide +kernel)⟩
theorem lw_p62 : lw_okq (⟨"PeriodGatesModel", "weightAt", "(I)J"⟩, 33) := ⟨⟨by decide +kernel, by decide +kernel⟩, List.mem_of_getElem? (i := 785) (by decide +kernel), List.mem_of_getElem? (i := 1181) (by decide +kernel), List.mem_of_getElem? (i := 1182) (by decide +kernel)⟩
theorem lw_p63 : lw_okq (⟨"PeriodGatesModel", "rankOf", "(I)I"⟩, 33) := ⟨⟨by decide +kernel, by decide +kernel⟩, List.mem_of_getElem? (i := 785) (by decide +kernel), List.mem_of_getElem? (i := 1189) (by decide +kernel), List.mem_of_getElem? (i := 1190) (by decide +kernel)⟩
def lw_privs_4 : List (MethodName × Nat) := [(⟨"PeriodGatesModel", "opens", "(I)I"⟩, 33), (⟨"PeriodGatesModel", "closes", "(I)I"⟩, 33), (⟨"PeriodGatesModel", "periodsOf", "(I)I"⟩, 33), (⟨"PeriodGatesModel", "frequencyOf", "(III)J"⟩, 33), (⟨"PeriodGatesModel", "closingOf", "(I)I"⟩, 33), (⟨"PeriodGatesModel", "isAhead", "(II)Z"⟩, 33), (⟨"PeriodGatesModel", "chainOf", "(III)I"⟩, 33), (⟨"PeriodGatesModel", "nextBy", "(II)I"⟩, 33), (⟨"PeriodGatesModel", "isFit", "(II)Z"⟩, 33), (⟨"PeriodGatesModel", "fitOf", "(III)J"⟩, 33), (⟨"PeriodGatesModel", "sums", "(II)V"⟩, 33), (⟨"PeriodGatesModel", "offOf", "(II)I"⟩, 33), (⟨"PeriodGatesModel", "varianceOf", "(II)J"⟩, 33), (⟨"PeriodGatesModel", "squaresAt", "(I)J"⟩, 33), (⟨"PeriodGatesModel", "weightAt", "(I)J"⟩, 33), (⟨"PeriodGatesModel", "rankOf", "(I)I"⟩, 33)]
theorem lw_r4 : ∀ q ∈ lw_privs_4, lw_okq q := List.forall_mem_cons.mpr ⟨lw_p48, List.forall_mem_cons.mpr ⟨lw_p49, List.forall_mem_cons.mpr ⟨lw_p50, List.forall_mem_cons.mpr ⟨lw_p51, List.forall_mem_cons.mpr ⟨lw_p52, List.forall_mem_cons.mpr ⟨lw_p53, List.forall_mem_cons.mpr ⟨lw_p54, List.forall_mem_cons.mpr ⟨lw_p55, List.forall_mem_cons.mpr ⟨lw_p56, List.forall_mem_cons.mpr ⟨lw_p57, List.forall_mem_cons.mpr ⟨lw_p58, List.forall_mem_cons.mpr ⟨lw_p59, List.forall_mem_cons.mpr ⟨lw_p60, List.forall_mem_cons.mpr ⟨lw_p61, List.forall_mem_cons.mpr ⟨lw_p62, List.forall_mem_cons.mpr ⟨lw_p63, fun _ h => absurd h List.not_mem_nil⟩⟩⟩⟩⟩⟩⟩⟩⟩⟩⟩⟩⟩⟩⟩⟩
theorem lw_p64 : lw_okq (⟨"PeriodGatesModel", "ranked", "()I"⟩, 33) := ⟨⟨by decide +kernel, by decide +kernel⟩, List.mem_of_getElem? (i := 785) (by decide +kernel), List.mem_of_getElem? (i := 1193) (by decide +kernel), List.mem_of_getElem? (i := 1194) (by decide +kernel)⟩
theorem lw_p65 : lw_okq (⟨"PeriodGatesModel", "isLess", "(II)Z"⟩, 33) := ⟨⟨by decide +kernel, by decide +kernel⟩, List.mem_of_getElem? (i := 785) (by decide +kernel), List.mem_of_getElem? (i := 1197) (by decide +kernel), List.mem_of_getElem? (i := 1198) (by decide +kernel)⟩
theorem lw_p66 : lw_okq (⟨"PeriodGatesModel", "meets", "(I)I"⟩, 33) := ⟨⟨by decide +kernel, by decide +kernel⟩, List.mem_of_getElem? (i := 785) (by decide +kernel), List.mem_of_getElem? (i := 1208) (by decide +kernel), List.mem_of_getElem? (i := 1209) (by decide +kernel)⟩
theorem lw_p67 : lw_okq (⟨"PeriodGatesModel", "hasItem", "(II)Z"⟩, 33) := ⟨⟨by decide +kernel, by decide +kernel⟩, List.mem_of_getElem? (i := 785) (by decide +kernel), List.mem_of_getElem? (i := 1220) (by decide +kernel), List.mem_of_getElem? (i := 1221) (by decide +kernel)⟩
theorem lw_p68 : lw_okq (⟨"PeriodGatesModel", "keeps", "(ID)V"⟩, 33) := ⟨⟨by decide +kernel, by decide +kernel⟩, List.mem_of_getElem? (i := 785) (by decide +kernel), List.mem_of_getElem? (i := 1227) (by decide +kernel), List.mem_of_getElem? (i := 1228) (by decide +kernel)⟩
theorem lw_p69 : lw_okq (⟨"PeriodGatesModel", "itemOf", "(II)J"⟩, 33) := ⟨⟨by decide +kernel, by decide +kernel⟩, List.mem_of_getElem? (i := 785) (by decide +kernel), List.mem_of_getElem? (i := 1239) (by decide +kernel), List.mem_of_getElem? (i := 1240) (by decide +kernel)⟩
theorem lw_p70 : lw_okq (⟨"PeriodGatesModel", "foundOf", "(II)I"⟩, 33) := ⟨⟨by decide +kernel, by decide +kernel⟩, List.mem_of_getElem? (i := 785) (by decide +kernel), List.mem_of_getElem? (i := 1255) (by decide +kernel), List.mem_of_getElem? (i := 1256) (by decide +kernel)⟩
theorem lw_p71 : lw_okq (⟨"PeriodGatesModel", "lostNow", "()I"⟩, 33) := ⟨⟨by decide +kernel, by decide +kernel⟩, List.mem_of_getElem? (i := 785) (by decide +kernel), List.mem_of_getElem? (i := 1263) (by decide +kernel), List.mem_of_getElem? (i := 1264) (by decide +kernel)⟩
theorem lw_p72 : lw_okq (⟨"PeriodGatesModel", "breaksNow", "()I"⟩, 33) := ⟨⟨by decide +kernel, by decide +kernel⟩, List.mem_of_getElem? (i := 785) (by decide +kernel), List.mem_of_getElem? (i := 1267) (by decide +kernel), List.mem_of_getElem? (i := 1268) (by decide +kernel)⟩
theorem lw_p73 : lw_okq (⟨"PeriodGatesModel", "binDigest", "(JI)J"⟩, 33) := ⟨⟨by decide +kernel, by decide +kernel⟩, List.mem_of_getElem? (i := 785) (by decide +kernel), List.mem_of_getElem? (i := 1278) (by decide +kernel), List.mem_of_getElem? (i := 1279) (by decide +kernel)⟩
theorem lw_p74 : lw_okq (⟨"PeriodGatesModel", "edgeDigest", "(JI)J"⟩, 33) := ⟨⟨by decide +kernel, by decide +kernel⟩, List.mem_of_getElem? (i := 785) (by decide +kernel), List.mem_of_getElem? (i := 1282) (by decide +kernel), List.mem_of_getElem? (i := 1283) (by decide +kernel)⟩
theorem lw_p75 : lw_okq (⟨"PeriodGatesModel", "gateDigest", "(JI)J"⟩, 33) := ⟨⟨by decide +kernel, by decide +kernel⟩, List.mem_of_getElem? (i := 785) (by decide +kernel), List.mem_of_getElem? (i := 1286) (by decide +kernel), List.mem_of_getElem? (i := 1287) (by decide +kernel)⟩
theorem lw_p76 : lw_okq (⟨"PeriodGatesModel", "chainDigest", "(J)J"⟩, 33) := ⟨⟨by decide +kernel, by decide +kernel⟩, List.mem_of_getElem? (i := 785) (by decide +kernel), List.mem_of_getElem? (i := 1290) (by decide +kernel), List.mem_of_getElem? (i := 1291) (by decide +kernel)⟩
def lw_privs_5 : List (MethodName × Nat) := [(⟨"PeriodGatesModel", "ranked", "()I"⟩, 33), (⟨"PeriodGatesModel", "isLess", "(II)Z"⟩, 33), (⟨"PeriodGatesModel", "meets", "(I)I"⟩, 33), (⟨"PeriodGatesModel", "hasItem", "(II)Z"⟩, 33), (⟨"PeriodGatesModel", "keeps", "(ID)V"⟩, 33), (⟨"PeriodGatesModel", "itemOf", "(II)J"⟩, 33), (⟨"PeriodGatesModel", "foundOf", "(II)I"⟩, 33), (⟨"PeriodGatesModel", "lostNow", "()I"⟩, 33), (⟨"PeriodGatesModel", "breaksNow", "()I"⟩, 33), (⟨"PeriodGatesModel", "binDigest", "(JI)J"⟩, 33), (⟨"PeriodGatesModel", "edgeDigest", "(JI)J"⟩, 33), (⟨"PeriodGatesModel", "gateDigest", "(JI)J"⟩, 33), (⟨"PeriodGatesModel", "chainDigest", "(J)J"⟩, 33)]
theorem lw_r5 : ∀ q ∈ lw_privs_5, lw_okq q := List.forall_mem_cons.mpr ⟨lw_p64, List.forall_mem_cons.mpr ⟨lw_p65, List.forall_mem_cons.mpr ⟨lw_p66, List.forall_mem_cons.mpr ⟨lw_p67, List.forall_mem_cons.mpr ⟨lw_p68, List.forall_mem_cons.mpr ⟨lw_p69, List.forall_mem_cons.mpr ⟨lw_p70, List.forall_mem_cons.mpr ⟨lw_p71, List.forall_mem_cons.mpr ⟨lw_p72, List.forall_mem_cons.mpr ⟨lw_p73, List.forall_mem_cons.mpr ⟨lw_p74, List.forall_mem_cons.mpr ⟨lw_p75, List.forall_mem_cons.mpr ⟨lw_p76, fun _ h => absurd h List.not_mem_nil⟩⟩⟩⟩⟩⟩⟩⟩⟩⟩⟩⟩⟩
def lw_privs : List (MethodName × Nat) := lw_privs_1 ++ (lw_privs_2 ++ (lw_privs_3 ++ (lw_privs_4 ++ (lw_privs_5))))
def lw_tbl : List Cond := k2_sels lw_privs ++ tables_1
theorem lw_privs_ok : ∀ q ∈ lw_privs, lw_okq q := by
  show ∀ q ∈ lw_privs_1 ++ (lw_privs_2 ++ (lw_privs_3 ++ (lw_privs_4 ++ (lw_privs_5)))), lw_okq q
  exact List.forall_mem_append.mpr ⟨lw_r1, List.forall_mem_append.mpr ⟨lw_r2, List.forall_mem_append.mpr ⟨lw_r3, List.forall_mem_append.mpr ⟨lw_r4, lw_r5⟩⟩⟩⟩
/-- the streams that the claim lets the run draw from -/
abbrev lw_cs : List Choice := [Jvm.Choice.named "NaN.bits"]
theorem lw_bits : nanBits ∈ lw_cs := by first | decide | exact List.mem_cons_self | simp [lw_cs, nanBits]
end
section
def RX0 : String := "PeriodGates$Bins"
def TX0 : u_T := fun k => match k with
  | 0 => ("PeriodGates$Bins", "starts", "[I", true)
  | 1 => ("PeriodGates$Bins", "hits", "[I", true)
  | 2 => ("PeriodGates$Bins", "size", "I", false)
  | _ => ("PeriodGates$Bins", "total", "I", false)
def tyX0 : Nat → FieldType := fun k => match k with
  | 0 => .array .int
  | 1 => .array .int
  | 2 => .int
  | _ => .int
abbrev wsX00 : List Cond := u_ws RX0 TX0 4
theorem nmX0 : ∀ a, a < 4 → ∀ b, b < 4 → a ≠ b → (TX0 a).2.1 ≠ (TX0 b).2.1 := by decide +kernel
theorem tyX0_ok : ∀ k, k < 4 → parseFieldDescriptor (TX0 k).2.2.1 = some (tyX0 k) := by decide +kernel
abbrev cX0_init : ByteArray := prog_2_method_1_code
def yX0_init : MethodName := ⟨RX0, "<init>", "()V"⟩
abbrev cX0_codeOf : ByteArray := prog_2_method_2_code
def yX0_codeOf : MethodName := ⟨RX0, "codeOf", "(I)I"⟩
abbrev cX0_endOf : ByteArray := prog_2_method_3_code
def yX0_endOf : MethodName := ⟨RX0, "endOf", "(I)I"⟩
abbrev cX0_widthOf : ByteArray := prog_2_method_4_code
def yX0_widthOf : MethodName := ⟨RX0, "widthOf", "(I)I"⟩
abbrev cX0_split : ByteArray := prog_2_method_5_code
def yX0_split : MethodName := ⟨RX0, "split", "(II)V"⟩
abbrev cX0_joinToPrevious : ByteArray := prog_2_method_6_code
def yX0_joinToPrevious : MethodName := ⟨RX0, "joinToPrevious", "(I)V"⟩
abbrev cX0_addHits : ByteArray := prog_2_method_7_code
def yX0_addHits : MethodName := ⟨RX0, "addHits", "(II)I"⟩
abbrev cX0_forgetHits : ByteArray := prog_2_method_8_code
def yX0_forgetHits : MethodName := ⟨RX0, "forgetHits", "()V"⟩
abbrev cX0_hitsBelow : ByteArray := prog_2_method_9_code
def yX0_hitsBelow : MethodName := ⟨RX0, "hitsBelow", "(I)I"⟩
abbrev cX0_farthest : ByteArray := prog_2_method_10_code
def yX0_farthest : MethodName := ⟨RX0, "farthest", "()I"⟩
def RX1 : String := "PeriodGates$Gates"
def TX1 : u_T := fun k => match k with
  | 0 => ("PeriodGates$Gates", "starts", "[I", true)
  | 1 => ("PeriodGates$Gates", "ends", "[I", true)
  | 2 => ("PeriodGates$Gates", "opens", "[I", true)
  | 3 => ("PeriodGates$Gates", "closes", "[I", true)
  | _ => ("PeriodGates$Gates", "size", "I", false)
def tyX1 : Nat → FieldType := fun k => match k with
  | 0 => .array .int
  | 1 => .array .int
  | 2 => .array .int
  | 3 => .array .int
  | _ => .int
abbrev wsX10 : List Cond := u_ws RX1 TX1 5
theorem nmX1 : ∀ a, a < 5 → ∀ b, b < 5 → a ≠ b → (TX1 a).2.1 ≠ (TX1 b).2.1 := by decide +kernel
theorem tyX1_ok : ∀ k, k < 5 → parseFieldDescriptor (TX1 k).2.2.1 = some (tyX1 k) := by decide +kernel
abbrev cX1_init : ByteArray := prog_3_method_1_code
def yX1_init : MethodName := ⟨RX1, "<init>", "()V"⟩
abbrev cX1_append : ByteArray := prog_3_method_2_code
def yX1_append : MethodName := ⟨RX1, "append", "(II)I"⟩
abbrev cX1_locate : ByteArray := prog_3_method_3_code
def yX1_locate : MethodName := ⟨RX1, "locate", "(LPeriodGates$Track;)V"⟩
abbrev cX1_closingAt : ByteArray := prog_3_method_4_code
def yX1_closingAt : MethodName := ⟨RX1, "closingAt", "(I)I"⟩
abbrev cX1_closesAhead : ByteArray := prog_3_method_5_code
def yX1_closesAhead : MethodName := ⟨RX1, "closesAhead", "(II)Z"⟩
def RX2 : String := "PeriodGates$Reading"
def TX2 : u_T := fun k => match k with
  | 0 => ("PeriodGates$Reading", "stamps", "[J", true)
  | 1 => ("PeriodGates$Reading", "lost", "[I", true)
  | 2 => ("PeriodGates$Reading", "breaks", "[Z", true)
  | 3 => ("PeriodGates$Reading", "places", "[I", true)
  | 4 => ("PeriodGates$Reading", "sortedGaps", "[J", true)
  | 5 => ("PeriodGates$Reading", "size", "I", false)
  | 6 => ("PeriodGates$Reading", "scale", "I", false)
  | 7 => ("PeriodGates$Reading", "reference", "J", false)
  | 8 => ("PeriodGates$Reading", "lostTogether", "I", false)
  | _ => ("PeriodGates$Reading", "breaksTogether", "I", false)
def tyX2 : Nat → FieldType := fun k => match k with
  | 0 => .array .long
  | 1 => .array .int
  | 2 => .array .boolean
  | 3 => .array .int
  | 4 => .array .long
  | 5 => .int
  | 6 => .int
  | 7 => .long
  | 8 => .int
  | _ => .int
abbrev wsX20 : List Cond := u_ws RX2 TX2 10
theorem nmX2 : ∀ a, a < 10 → ∀ b, b < 10 → a ≠ b → (TX2 a).2.1 ≠ (TX2 b).2.1 := by decide +kernel
theorem tyX2_ok : ∀ k, k < 10 → parseFieldDescriptor (TX2 k).2.2.1 = some (tyX2 k) := by decide +kernel
abbrev cX2_init : ByteArray := prog_4_method_1_code
def yX2_init : MethodName := ⟨RX2, "<init>", "()V"⟩
abbrev cX2_renewStamps : ByteArray := prog_4_method_2_code
def yX2_renewStamps : MethodName := ⟨RX2, "renewStamps", "(LPeriodGates$Track;LPeriodGates$Bins;I)V"⟩
abbrev cX2_middleOf : ByteArray := prog_4_method_3_code
def yX2_middleOf : MethodName := ⟨RX2, "middleOf", "(LPeriodGates$Bins;II)I"⟩
abbrev cX2_renewPlaces : ByteArray := prog_4_method_4_code
def yX2_renewPlaces : MethodName := ⟨RX2, "renewPlaces", "(II)V"⟩
abbrev cX2_judgeGap : ByteArray := prog_4_method_5_code
def yX2_judgeGap : MethodName := ⟨RX2, "judgeGap", "(I)V"⟩
abbrev cX2_gapBehind : ByteArray := prog_4_method_6_code
def yX2_gapBehind : MethodName := ⟨RX2, "gapBehind", "(I)J"⟩
abbrev cX2_medianGap : ByteArray := prog_4_method_7_code
def yX2_medianGap : MethodName := ⟨RX2, "medianGap", "()J"⟩
abbrev cX2_periods : ByteArray := prog_4_method_8_code
def yX2_periods : MethodName := ⟨RX2, "periods", "(II)I"⟩
abbrev cX2_sumOfPlaces : ByteArray := prog_4_method_9_code
def yX2_sumOfPlaces : MethodName := ⟨RX2, "sumOfPlaces", "(II)J"⟩
abbrev cX2_sumOfStamps : ByteArray := prog_4_method_10_code
def yX2_sumOfStamps : MethodName := ⟨RX2, "sumOfStamps", "(II)J"⟩
abbrev cX2_fitAbove : ByteArray := prog_4_method_11_code
def yX2_fitAbove : MethodName := ⟨RX2, "fitAbove", "(II)J"⟩
abbrev cX2_fitBelow : ByteArray := prog_4_method_12_code
def yX2_fitBelow : MethodName := ⟨RX2, "fitBelow", "(II)J"⟩
abbrev cX2_farthest : ByteArray := prog_4_method_13_code
def yX2_farthest : MethodName := ⟨RX2, "farthest", "(II)I"⟩
def RX3 : String := "PeriodGates$Sheet"
def TX3 : u_T := fun k => match k with
  | 0 => ("PeriodGates$Sheet", "wholes", "[J", true)
  | 1 => ("PeriodGates$Sheet", "reals", "[D", true)
  | 2 => ("PeriodGates$Sheet", "noNumber", "[Z", true)
  | 3 => ("PeriodGates$Sheet", "form", "I", false)
  | _ => ("PeriodGates$Sheet", "size", "I", false)
def tyX3 : Nat → FieldType := fun k => match k with
  | 0 => .array .long
  | 1 => .array .double
  | 2 => .array .boolean
  | 3 => .int
  | _ => .int
abbrev wsX30 : List Cond := u_ws RX3 TX3 5
theorem nmX3 : ∀ a, a < 5 → ∀ b, b < 5 → a ≠ b → (TX3 a).2.1 ≠ (TX3 b).2.1 := by decide +kernel
theorem tyX3_ok : ∀ k, k < 5 → parseFieldDescriptor (TX3 k).2.2.1 = some (tyX3 k) := by decide +kernel
abbrev cX3_init : ByteArray := prog_5_method_1_code
def yX3_init : MethodName := ⟨RX3, "<init>", "()V"⟩
abbrev cX3_isLost : ByteArray := prog_5_method_2_code
def yX3_isLost : MethodName := ⟨RX3, "isLost", "()Z"⟩
abbrev cX3_holdsReals : ByteArray := prog_5_method_3_code
def yX3_holdsReals : MethodName := ⟨RX3, "holdsReals", "()Z"⟩
abbrev cX3_has : ByteArray := prog_5_method_4_code
def yX3_has : MethodName := ⟨RX3, "has", "(I)Z"⟩
abbrev cX3_hasRange : ByteArray := prog_5_method_5_code
def yX3_hasRange : MethodName := ⟨RX3, "hasRange", "(II)Z"⟩
abbrev cX3_begin : ByteArray := prog_5_method_6_code
def yX3_begin : MethodName := ⟨RX3, "begin", "(II)V"⟩
abbrev cX3_store : ByteArray := prog_5_method_7_code
def yX3_store : MethodName := ⟨RX3, "store", "(II)V"⟩
abbrev cX3_told : ByteArray := prog_5_method_8_code
def yX3_told : MethodName := ⟨RX3, "told", "(I)J"⟩
abbrev cX3_take : ByteArray := prog_5_method_9_code
def yX3_take : MethodName := ⟨RX3, "take", "(LPeriodGates$Sheet;III)V"⟩
abbrev cX3_countNoNumbers : ByteArray := prog_5_method_10_code
def yX3_countNoNumbers : MethodName := ⟨RX3, "countNoNumbers", "()I"⟩
abbrev cX3_extreme : ByteArray := prog_5_method_11_code
def yX3_extreme : MethodName := ⟨RX3, "extreme", "(Z)I"⟩
abbrev cX3_isBeyond : ByteArray := prog_5_method_12_code
def yX3_isBeyond : MethodName := ⟨RX3, "isBeyond", "(DDZ)Z"⟩
def RX4 : String := "PeriodGates$Spans"
def TX4 : u_T := fun k => match k with
  | 0 => ("PeriodGates$Spans", "sums", "[J", true)
  | 1 => ("PeriodGates$Spans", "weights", "[J", true)
  | 2 => ("PeriodGates$Spans", "ranked", "[I", true)
  | _ => ("PeriodGates$Spans", "size", "I", false)
def tyX4 : Nat → FieldType := fun k => match k with
  | 0 => .array .long
  | 1 => .array .long
  | 2 => .array .int
  | _ => .int
abbrev wsX40 : List Cond := u_ws RX4 TX4 4
theorem nmX4 : ∀ a, a < 4 → ∀ b, b < 4 → a ≠ b → (TX4 a).2.1 ≠ (TX4 b).2.1 := by decide +kernel
theorem tyX4_ok : ∀ k, k < 4 → parseFieldDescriptor (TX4 k).2.2.1 = some (tyX4 k) := by decide +kernel
abbrev cX4_init : ByteArray := prog_6_method_1_code
def yX4_init : MethodName := ⟨RX4, "<init>", "()V"⟩
abbrev cX4_renewSums : ByteArray := prog_6_method_2_code
def yX4_renewSums : MethodName := ⟨RX4, "renewSums", "(LPeriodGates$Reading;)V"⟩
abbrev cX4_sumOfSquares : ByteArray := prog_6_method_3_code
def yX4_sumOfSquares : MethodName := ⟨RX4, "sumOfSquares", "([JII)J"⟩
abbrev cX4_placeByRank : ByteArray := prog_6_method_4_code
def yX4_placeByRank : MethodName := ⟨RX4, "placeByRank", "(I)V"⟩
abbrev cX4_isSteadier : ByteArray := prog_6_method_5_code
def yX4_isSteadier : MethodName := ⟨RX4, "isSteadier", "(II)Z"⟩
def RX5 : String := "PeriodGates$Track"
def TX5 : u_T := fun k => match k with
  | 0 => ("PeriodGates$Track", "times", "[I", true)
  | _ => ("PeriodGates$Track", "size", "I", false)
def tyX5 : Nat → FieldType := fun k => match k with
  | 0 => .array .int
  | _ => .int
abbrev wsX50 : List Cond := u_ws RX5 TX5 2
theorem nmX5 : ∀ a, a < 2 → ∀ b, b < 2 → a ≠ b → (TX5 a).2.1 ≠ (TX5 b).2.1 := by decide +kernel
theorem tyX5_ok : ∀ k, k < 2 → parseFieldDescriptor (TX5 k).2.2.1 = some (tyX5 k) := by decide +kernel
abbrev cX5_init : ByteArray := prog_7_method_1_code
def yX5_init : MethodName := ⟨RX5, "<init>", "()V"⟩
abbrev cX5_isFull : ByteArray := prog_7_method_2_code
def yX5_isFull : MethodName := ⟨RX5, "isFull", "()Z"⟩
abbrev cX5_firstFrom : ByteArray := prog_7_method_3_code
def yX5_firstFrom : MethodName := ⟨RX5, "firstFrom", "(I)I"⟩
abbrev cX5_holds : ByteArray := prog_7_method_4_code
def yX5_holds : MethodName := ⟨RX5, "holds", "(I)Z"⟩
abbrev cX5_insert : ByteArray := prog_7_method_5_code
def yX5_insert : MethodName := ⟨RX5, "insert", "(I)I"⟩
abbrev cX5_removeAt : ByteArray := prog_7_method_6_code
def yX5_removeAt : MethodName := ⟨RX5, "removeAt", "(I)I"⟩
abbrev cX5_coarseOf : ByteArray := prog_7_method_7_code
def yX5_coarseOf : MethodName := ⟨RX5, "coarseOf", "(I)I"⟩
abbrev cX5_fineOf : ByteArray := prog_7_method_8_code
def yX5_fineOf : MethodName := ⟨RX5, "fineOf", "(I)I"⟩
def RX6 : String := "PeriodGates"
def TX6 : u_T := fun k => match k with
  | 0 => ("PeriodGates", "track", "LPeriodGates$Track;", true)
  | 1 => ("PeriodGates", "bins", "LPeriodGates$Bins;", true)
  | 2 => ("PeriodGates", "gates", "LPeriodGates$Gates;", true)
  | 3 => ("PeriodGates", "reading", "LPeriodGates$Reading;", true)
  | 4 => ("PeriodGates", "spans", "LPeriodGates$Spans;", true)
  | 5 => ("PeriodGates", "sheets", "[LPeriodGates$Sheet;", true)
  | 6 => ("PeriodGates", "modeBytes", "[I", true)
  | 7 => ("PeriodGates", "modeSize", "I", false)
  | 8 => ("PeriodGates", "nominalPeriod", "I", false)
  | 9 => ("PeriodGates", "mending", "I", false)
  | 10 => ("PeriodGates", "latestFinding", "I", false)
  | _ => ("PeriodGates", "stale", "Z", false)
def tyX6 : Nat → FieldType := fun k => match k with
  | 0 => .object "PeriodGates$Track"
  | 1 => .object "PeriodGates$Bins"
  | 2 => .object "PeriodGates$Gates"
  | 3 => .object "PeriodGates$Reading"
  | 4 => .object "PeriodGates$Spans"
  | 5 => .array (.object "PeriodGates$Sheet")
  | 6 => .array .int
  | 7 => .int
  | 8 => .int
  | 9 => .int
  | 10 => .int
  | _ => .boolean
abbrev wsX60 : List Cond := u_ws RX6 TX6 12
theorem nmX6 : ∀ a, a < 12 → ∀ b, b < 12 → a ≠ b → (TX6 a).2.1 ≠ (TX6 b).2.1 := by decide +kernel
theorem tyX6_ok : ∀ k, k < 12 → parseFieldDescriptor (TX6 k).2.2.1 = some (tyX6 k) := by decide +kernel
abbrev cX6_init : ByteArray := prog_1_method_1_code
def yX6_init : MethodName := ⟨RX6, "<init>", "()V"⟩
abbrev cX6_edge : ByteArray := prog_1_method_2_code
def yX6_edge : MethodName := ⟨RX6, "edge", "(I)I"⟩
abbrev cX6_edges : ByteArray := prog_1_method_3_code
def yX6_edges : MethodName := ⟨RX6, "edges", "(III)I"⟩
abbrev cX6_gone : ByteArray := prog_1_method_4_code
def yX6_gone : MethodName := ⟨RX6, "gone", "(I)I"⟩
abbrev cX6_clear : ByteArray := prog_1_method_5_code
def yX6_clear : MethodName := ⟨RX6, "clear", "()I"⟩
abbrev cX6_cut : ByteArray := prog_1_method_6_code
def yX6_cut : MethodName := ⟨RX6, "cut", "(I)I"⟩
abbrev cX6_hit : ByteArray := prog_1_method_7_code
def yX6_hit : MethodName := ⟨RX6, "hit", "(II)I"⟩
abbrev cX6_sweep : ByteArray := prog_1_method_8_code
def yX6_sweep : MethodName := ⟨RX6, "sweep", "(II)I"⟩
abbrev cX6_fresh : ByteArray := prog_1_method_9_code
def yX6_fresh : MethodName := ⟨RX6, "fresh", "()I"⟩
abbrev cX6_bin : ByteArray := prog_1_method_10_code
def yX6_bin : MethodName := ⟨RX6, "bin", "(II)I"⟩
abbrev cX6_dense : ByteArray := prog_1_method_11_code
def yX6_dense : MethodName := ⟨RX6, "dense", "(II)J"⟩
abbrev cX6_worst : ByteArray := prog_1_method_12_code
def yX6_worst : MethodName := ⟨RX6, "worst", "()I"⟩
abbrev cX6_type : ByteArray := prog_1_method_13_code
def yX6_type : MethodName := ⟨RX6, "type", "(I)I"⟩
abbrev cX6_wipe : ByteArray := prog_1_method_14_code
def yX6_wipe : MethodName := ⟨RX6, "wipe", "()I"⟩
abbrev cX6_mode : ByteArray := prog_1_method_15_code
def yX6_mode : MethodName := ⟨RX6, "mode", "()I"⟩
abbrev cX6_nominal : ByteArray := prog_1_method_16_code
def yX6_nominal : MethodName := ⟨RX6, "nominal", "(I)I"⟩
abbrev cX6_mend : ByteArray := prog_1_method_17_code
def yX6_mend : MethodName := ⟨RX6, "mend", "(I)I"⟩
abbrev cX6_seen : ByteArray := prog_1_method_18_code
def yX6_seen : MethodName := ⟨RX6, "seen", "(II)I"⟩
abbrev cX6_stamp : ByteArray := prog_1_method_19_code
def yX6_stamp : MethodName := ⟨RX6, "stamp", "(II)J"⟩
abbrev cX6_reference : ByteArray := prog_1_method_20_code
def yX6_reference : MethodName := ⟨RX6, "reference", "(I)J"⟩
abbrev cX6_gate : ByteArray := prog_1_method_21_code
def yX6_gate : MethodName := ⟨RX6, "gate", "(II)I"⟩
abbrev cX6_back : ByteArray := prog_1_method_22_code
def yX6_back : MethodName := ⟨RX6, "back", "()I"⟩
abbrev cX6_where : ByteArray := prog_1_method_23_code
def yX6_where : MethodName := ⟨RX6, "where", "(II)I"⟩
abbrev cX6_frequency : ByteArray := prog_1_method_24_code
def yX6_frequency : MethodName := ⟨RX6, "frequency", "(III)J"⟩
abbrev cX6_closing : ByteArray := prog_1_method_25_code
def yX6_closing : MethodName := ⟨RX6, "closing", "(I)I"⟩
abbrev cX6_chain : ByteArray := prog_1_method_26_code
def yX6_chain : MethodName := ⟨RX6, "chain", "(III)I"⟩
abbrev cX6_fit : ByteArray := prog_1_method_27_code
def yX6_fit : MethodName := ⟨RX6, "fit", "(III)J"⟩
abbrev cX6_off : ByteArray := prog_1_method_28_code
def yX6_off : MethodName := ⟨RX6, "off", "(II)I"⟩
abbrev cX6_gain : ByteArray := prog_1_method_29_code
def yX6_gain : MethodName := ⟨RX6, "gain", "(II)J"⟩
abbrev cX6_variance : ByteArray := prog_1_method_30_code
def yX6_variance : MethodName := ⟨RX6, "variance", "(II)J"⟩
abbrev cX6_rank : ByteArray := prog_1_method_31_code
def yX6_rank : MethodName := ⟨RX6, "rank", "(I)I"⟩
abbrev cX6_sheet : ByteArray := prog_1_method_32_code
def yX6_sheet : MethodName := ⟨RX6, "sheet", "(III)I"⟩
abbrev cX6_lose : ByteArray := prog_1_method_33_code
def yX6_lose : MethodName := ⟨RX6, "lose", "(I)I"⟩
abbrev cX6_put : ByteArray := prog_1_method_34_code
def yX6_put : MethodName := ⟨RX6, "put", "(IIII)I"⟩
abbrev cX6_blank : ByteArray := prog_1_method_35_code
def yX6_blank : MethodName := ⟨RX6, "blank", "(II)I"⟩
abbrev cX6_get : ByteArray := prog_1_method_36_code
def yX6_get : MethodName := ⟨RX6, "get", "(II)J"⟩
abbrev cX6_copy : ByteArray := prog_1_method_37_code
def yX6_copy : MethodName := ⟨RX6, "copy", "(IIIII)I"⟩
abbrev cX6_write : ByteArray := prog_1_method_38_code
def yX6_write : MethodName := ⟨RX6, "write", "(I)I"⟩
abbrev cX6_found : ByteArray := prog_1_method_39_code
def yX6_found : MethodName := ⟨RX6, "found", "(II)I"⟩
abbrev cX6_count : ByteArray := prog_1_method_40_code
def yX6_count : MethodName := ⟨RX6, "count", "(I)I"⟩
abbrev cX6_digest : ByteArray := prog_1_method_41_code
def yX6_digest : MethodName := ⟨RX6, "digest", "()J"⟩
abbrev cX6_mix : ByteArray := prog_1_method_42_code
def yX6_mix : MethodName := ⟨RX6, "mix", "(JJ)J"⟩
abbrev cX6_mixBins : ByteArray := prog_1_method_43_code
def yX6_mixBins : MethodName := ⟨RX6, "mixBins", "(J)J"⟩
abbrev cX6_mixEdges : ByteArray := prog_1_method_44_code
def yX6_mixEdges : MethodName := ⟨RX6, "mixEdges", "(J)J"⟩
abbrev cX6_mixGates : ByteArray := prog_1_method_45_code
def yX6_mixGates : MethodName := ⟨RX6, "mixGates", "(J)J"⟩
abbrev cX6_mixChains : ByteArray := prog_1_method_46_code
def yX6_mixChains : MethodName := ⟨RX6, "mixChains", "(J)J"⟩
abbrev cX6_mixFit : ByteArray := prog_1_method_47_code
def yX6_mixFit : MethodName := ⟨RX6, "mixFit", "(J)J"⟩
abbrev cX6_mixSpans : ByteArray := prog_1_method_48_code
def yX6_mixSpans : MethodName := ⟨RX6, "mixSpans", "(J)J"⟩
abbrev cX6_isWithin : ByteArray := prog_1_method_49_code
def yX6_isWithin : MethodName := ⟨RX6, "isWithin", "(III)Z"⟩
abbrev cX6_isTime : ByteArray := prog_1_method_50_code
def yX6_isTime : MethodName := ⟨RX6, "isTime", "(I)Z"⟩
abbrev cX6_isFine : ByteArray := prog_1_method_51_code
def yX6_isFine : MethodName := ⟨RX6, "isFine", "(I)Z"⟩
abbrev cX6_isHalf : ByteArray := prog_1_method_52_code
def yX6_isHalf : MethodName := ⟨RX6, "isHalf", "(I)Z"⟩
abbrev cX6_isSheet : ByteArray := prog_1_method_53_code
def yX6_isSheet : MethodName := ⟨RX6, "isSheet", "(I)Z"⟩
abbrev cX6_isForm : ByteArray := prog_1_method_54_code
def yX6_isForm : MethodName := ⟨RX6, "isForm", "(I)Z"⟩
abbrev cX6_isEdge : ByteArray := prog_1_method_55_code
def yX6_isEdge : MethodName := ⟨RX6, "isEdge", "(I)Z"⟩
abbrev cX6_isEdgePair : ByteArray := prog_1_method_56_code
def yX6_isEdgePair : MethodName := ⟨RX6, "isEdgePair", "(II)Z"⟩
abbrev cX6_isLastEdge : ByteArray := prog_1_method_57_code
def yX6_isLastEdge : MethodName := ⟨RX6, "isLastEdge", "(I)Z"⟩
abbrev cX6_isBin : ByteArray := prog_1_method_58_code
def yX6_isBin : MethodName := ⟨RX6, "isBin", "(I)Z"⟩
abbrev cX6_isGate : ByteArray := prog_1_method_59_code
def yX6_isGate : MethodName := ⟨RX6, "isGate", "(I)Z"⟩
abbrev cX6_refusal : ByteArray := prog_1_method_60_code
def yX6_refusal : MethodName := ⟨RX6, "refusal", "(I)J"⟩
abbrev cX6_finding : ByteArray := prog_1_method_61_code
def yX6_finding : MethodName := ⟨RX6, "finding", "(I)I"⟩
abbrev cX6_lowest : ByteArray := prog_1_method_62_code
def yX6_lowest : MethodName := ⟨RX6, "lowest", "(JJI)J"⟩
abbrev cX6_commonDivisor : ByteArray := prog_1_method_63_code
def yX6_commonDivisor : MethodName := ⟨RX6, "commonDivisor", "(JJ)J"⟩
abbrev cX6_renew : ByteArray := prog_1_method_64_code
def yX6_renew : MethodName := ⟨RX6, "renew", "()V"⟩
abbrev cX6_modeReads : ByteArray := prog_1_method_65_code
def yX6_modeReads : MethodName := ⟨RX6, "modeReads", "(Ljava/lang/String;)Z"⟩
abbrev cX6_leastBound : ByteArray := prog_1_method_66_code
def yX6_leastBound : MethodName := ⟨RX6, "leastBound", "(I)I"⟩
abbrev cX6_greatestBound : ByteArray := prog_1_method_67_code
def yX6_greatestBound : MethodName := ⟨RX6, "greatestBound", "(I)I"⟩
abbrev cX6_lengthBetween : ByteArray := prog_1_method_68_code
def yX6_lengthBetween : MethodName := ⟨RX6, "lengthBetween", "(III)J"⟩
def RX7 : String := "PeriodGatesModel"
def TX7 : u_T := fun k => match k with
  | 0 => ("PeriodGatesModel", "times", "[I", true)
  | 1 => ("PeriodGatesModel", "many", "I", false)
  | 2 => ("PeriodGatesModel", "cuts", "[Z", true)
  | 3 => ("PeriodGatesModel", "hits", "[I", true)
  | 4 => ("PeriodGatesModel", "codes", "[I", true)
  | 5 => ("PeriodGatesModel", "firsts", "[I", true)
  | 6 => ("PeriodGatesModel", "typed", "[I", true)
  | 7 => ("PeriodGatesModel", "typedMany", "I", false)
  | 8 => ("PeriodGatesModel", "nominalNow", "I", false)
  | 9 => ("PeriodGatesModel", "mendNow", "I", false)
  | 10 => ("PeriodGatesModel", "tops", "[J", true)
  | 11 => ("PeriodGatesModel", "places", "[I", true)
  | 12 => ("PeriodGatesModel", "losts", "[I", true)
  | 13 => ("PeriodGatesModel", "breaks", "[Z", true)
  | 14 => ("PeriodGatesModel", "gaps", "[J", true)
  | 15 => ("PeriodGatesModel", "under", "J", false)
  | 16 => ("PeriodGatesModel", "median", "J", false)
  | 17 => ("PeriodGatesModel", "froms", "[I", true)
  | 18 => ("PeriodGatesModel", "tos", "[I", true)
  | 19 => ("PeriodGatesModel", "gates", "I", false)
  | 20 => ("PeriodGatesModel", "sumPlaces", "J", false)
  | 21 => ("PeriodGatesModel", "sumTops", "J", false)
  | 22 => ("PeriodGatesModel", "sumBoth", "J", false)
  | 23 => ("PeriodGatesModel", "sumSquares", "J", false)
  | 24 => ("PeriodGatesModel", "forms", "[I", true)
  | 25 => ("PeriodGatesModel", "sizes", "[I", true)
  | 26 => ("PeriodGatesModel", "wholes", "[J", true)
  | 27 => ("PeriodGatesModel", "numbers", "[D", true)
  | 28 => ("PeriodGatesModel", "blanks", "[Z", true)
  | 29 => ("PeriodGatesModel", "movedWholes", "[J", true)
  | 30 => ("PeriodGatesModel", "movedNumbers", "[D", true)
  | 31 => ("PeriodGatesModel", "movedBlanks", "[Z", true)
  | _ => ("PeriodGatesModel", "finding", "I", false)
def tyX7 : Nat → FieldType := fun k => match k with
  | 0 => .array .int
  | 1 => .int
  | 2 => .array .boolean
  | 3 => .array .int
  | 4 => .array .int
  | 5 => .array .int
  | 6 => .array .int
  | 7 => .int
  | 8 => .int
  | 9 => .int
  | 10 => .array .long
  | 11 => .array .int
  | 12 => .array .int
  | 13 => .array .boolean
  | 14 => .array .long
  | 15 => .long
  | 16 => .long
  | 17 => .array .int
  | 18 => .array .int
  | 19 => .int
  | 20 => .long
  | 21 => .long
  | 22 => .long
  | 23 => .long
  | 24 => .array .int
  | 25 => .array .int
  | 26 => .array .long
  | 27 => .array .double
  | 28 => .array .boolean
  | 29 => .array .long
  | 30 => .array .double
  | 31 => .array .boolean
  | _ => .int
abbrev wsX70 : List Cond := u_ws RX7 TX7 33
theorem nmX7 : ∀ a, a < 33 → ∀ b, b < 33 → a ≠ b → (TX7 a).2.1 ≠ (TX7 b).2.1 := by decide +kernel
theorem tyX7_ok : ∀ k, k < 33 → parseFieldDescriptor (TX7 k).2.2.1 = some (tyX7 k) := by decide +kernel
abbrev cX7_init : ByteArray := prog_9_method_1_code
def yX7_init : MethodName := ⟨RX7, "<init>", "()V"⟩
abbrev cX7_in : ByteArray := prog_9_method_3_code
def yX7_in : MethodName := ⟨RX7, "in", "(III)Z"⟩
abbrev cX7_no : ByteArray := prog_9_method_4_code
def yX7_no : MethodName := ⟨RX7, "no", "(I)J"⟩
abbrev cX7_partOf : ByteArray := prog_9_method_5_code
def yX7_partOf : MethodName := ⟨RX7, "partOf", "(JJI)J"⟩
abbrev cX7_placeFor : ByteArray := prog_9_method_6_code
def yX7_placeFor : MethodName := ⟨RX7, "placeFor", "(I)I"⟩
abbrev cX7_adds : ByteArray := prog_9_method_7_code
def yX7_adds : MethodName := ⟨RX7, "adds", "(I)I"⟩
abbrev cX7_edge : ByteArray := prog_9_method_8_code
def yX7_edge : MethodName := ⟨RX7, "edge", "(I)I"⟩
abbrev cX7_edges : ByteArray := prog_9_method_9_code
def yX7_edges : MethodName := ⟨RX7, "edges", "(III)I"⟩
abbrev cX7_isEdge : ByteArray := prog_9_method_10_code
def yX7_isEdge : MethodName := ⟨RX7, "isEdge", "(I)Z"⟩
abbrev cX7_gone : ByteArray := prog_9_method_11_code
def yX7_gone : MethodName := ⟨RX7, "gone", "(I)I"⟩
abbrev cX7_clear : ByteArray := prog_9_method_12_code
def yX7_clear : MethodName := ⟨RX7, "clear", "()I"⟩
abbrev cX7_learns : ByteArray := prog_9_method_13_code
def yX7_learns : MethodName := ⟨RX7, "learns", "()V"⟩
abbrev cX7_codeOf : ByteArray := prog_9_method_14_code
def yX7_codeOf : MethodName := ⟨RX7, "codeOf", "(I)I"⟩
abbrev cX7_bins : ByteArray := prog_9_method_15_code
def yX7_bins : MethodName := ⟨RX7, "bins", "()I"⟩
abbrev cX7_firstOf : ByteArray := prog_9_method_16_code
def yX7_firstOf : MethodName := ⟨RX7, "firstOf", "(I)I"⟩
abbrev cX7_widthOf : ByteArray := prog_9_method_17_code
def yX7_widthOf : MethodName := ⟨RX7, "widthOf", "(I)I"⟩
abbrev cX7_allHits : ByteArray := prog_9_method_18_code
def yX7_allHits : MethodName := ⟨RX7, "allHits", "()I"⟩
abbrev cX7_forgets : ByteArray := prog_9_method_19_code
def yX7_forgets : MethodName := ⟨RX7, "forgets", "()I"⟩
abbrev cX7_cut : ByteArray := prog_9_method_20_code
def yX7_cut : MethodName := ⟨RX7, "cut", "(I)I"⟩
abbrev cX7_hit : ByteArray := prog_9_method_21_code
def yX7_hit : MethodName := ⟨RX7, "hit", "(II)I"⟩
abbrev cX7_sweep : ByteArray := prog_9_method_22_code
def yX7_sweep : MethodName := ⟨RX7, "sweep", "(II)I"⟩
abbrev cX7_fresh : ByteArray := prog_9_method_23_code
def yX7_fresh : MethodName := ⟨RX7, "fresh", "()I"⟩
abbrev cX7_isBin : ByteArray := prog_9_method_24_code
def yX7_isBin : MethodName := ⟨RX7, "isBin", "(I)Z"⟩
abbrev cX7_binOf : ByteArray := prog_9_method_25_code
def yX7_binOf : MethodName := ⟨RX7, "binOf", "(II)I"⟩
abbrev cX7_bin : ByteArray := prog_9_method_26_code
def yX7_bin : MethodName := ⟨RX7, "bin", "(II)I"⟩
abbrev cX7_denseOf : ByteArray := prog_9_method_27_code
def yX7_denseOf : MethodName := ⟨RX7, "denseOf", "(II)J"⟩
abbrev cX7_dense : ByteArray := prog_9_method_28_code
def yX7_dense : MethodName := ⟨RX7, "dense", "(II)J"⟩
abbrev cX7_worstNow : ByteArray := prog_9_method_29_code
def yX7_worstNow : MethodName := ⟨RX7, "worstNow", "()I"⟩
abbrev cX7_worst : ByteArray := prog_9_method_30_code
def yX7_worst : MethodName := ⟨RX7, "worst", "()I"⟩
abbrev cX7_type : ByteArray := prog_9_method_31_code
def yX7_type : MethodName := ⟨RX7, "type", "(I)I"⟩
abbrev cX7_wipe : ByteArray := prog_9_method_32_code
def yX7_wipe : MethodName := ⟨RX7, "wipe", "()I"⟩
abbrev cX7_isTyped : ByteArray := prog_9_method_33_code
def yX7_isTyped : MethodName := ⟨RX7, "isTyped", "(IIIII)Z"⟩
abbrev cX7_modeNow : ByteArray := prog_9_method_34_code
def yX7_modeNow : MethodName := ⟨RX7, "modeNow", "()I"⟩
abbrev cX7_mode : ByteArray := prog_9_method_35_code
def yX7_mode : MethodName := ⟨RX7, "mode", "()I"⟩
abbrev cX7_nominal : ByteArray := prog_9_method_36_code
def yX7_nominal : MethodName := ⟨RX7, "nominal", "(I)I"⟩
abbrev cX7_mend : ByteArray := prog_9_method_37_code
def yX7_mend : MethodName := ⟨RX7, "mend", "(I)I"⟩
abbrev cX7_partBy : ByteArray := prog_9_method_38_code
def yX7_partBy : MethodName := ⟨RX7, "partBy", "(II)J"⟩
abbrev cX7_findsGaps : ByteArray := prog_9_method_39_code
def yX7_findsGaps : MethodName := ⟨RX7, "findsGaps", "()V"⟩
abbrev cX7_finds : ByteArray := prog_9_method_40_code
def yX7_finds : MethodName := ⟨RX7, "finds", "()V"⟩
abbrev cX7_boundOf : ByteArray := prog_9_method_41_code
def yX7_boundOf : MethodName := ⟨RX7, "boundOf", "(IZ)I"⟩
abbrev cX7_seenOf : ByteArray := prog_9_method_42_code
def yX7_seenOf : MethodName := ⟨RX7, "seenOf", "(II)I"⟩
abbrev cX7_seen : ByteArray := prog_9_method_43_code
def yX7_seen : MethodName := ⟨RX7, "seen", "(II)I"⟩
abbrev cX7_stampOf : ByteArray := prog_9_method_44_code
def yX7_stampOf : MethodName := ⟨RX7, "stampOf", "(II)J"⟩
abbrev cX7_stamp : ByteArray := prog_9_method_45_code
def yX7_stamp : MethodName := ⟨RX7, "stamp", "(II)J"⟩
abbrev cX7_referenceOf : ByteArray := prog_9_method_46_code
def yX7_referenceOf : MethodName := ⟨RX7, "referenceOf", "(I)J"⟩
abbrev cX7_reference : ByteArray := prog_9_method_47_code
def yX7_reference : MethodName := ⟨RX7, "reference", "(I)J"⟩
abbrev cX7_gate : ByteArray := prog_9_method_48_code
def yX7_gate : MethodName := ⟨RX7, "gate", "(II)I"⟩
abbrev cX7_back : ByteArray := prog_9_method_49_code
def yX7_back : MethodName := ⟨RX7, "back", "()I"⟩
abbrev cX7_isGate : ByteArray := prog_9_method_50_code
def yX7_isGate : MethodName := ⟨RX7, "isGate", "(I)Z"⟩
abbrev cX7_opens : ByteArray := prog_9_method_51_code
def yX7_opens : MethodName := ⟨RX7, "opens", "(I)I"⟩
abbrev cX7_closes : ByteArray := prog_9_method_52_code
def yX7_closes : MethodName := ⟨RX7, "closes", "(I)I"⟩
abbrev cX7_periodsOf : ByteArray := prog_9_method_53_code
def yX7_periodsOf : MethodName := ⟨RX7, "periodsOf", "(I)I"⟩
abbrev cX7_whereOf : ByteArray := prog_9_method_54_code
def yX7_whereOf : MethodName := ⟨RX7, "whereOf", "(II)I"⟩
abbrev cX7_where : ByteArray := prog_9_method_55_code
def yX7_where : MethodName := ⟨RX7, "where", "(II)I"⟩
abbrev cX7_frequencyOf : ByteArray := prog_9_method_56_code
def yX7_frequencyOf : MethodName := ⟨RX7, "frequencyOf", "(III)J"⟩
abbrev cX7_frequency : ByteArray := prog_9_method_57_code
def yX7_frequency : MethodName := ⟨RX7, "frequency", "(III)J"⟩
abbrev cX7_isAhead : ByteArray := prog_9_method_58_code
def yX7_isAhead : MethodName := ⟨RX7, "isAhead", "(II)Z"⟩
abbrev cX7_closingOf : ByteArray := prog_9_method_59_code
def yX7_closingOf : MethodName := ⟨RX7, "closingOf", "(I)I"⟩
abbrev cX7_closing : ByteArray := prog_9_method_60_code
def yX7_closing : MethodName := ⟨RX7, "closing", "(I)I"⟩
abbrev cX7_nextBy : ByteArray := prog_9_method_61_code
def yX7_nextBy : MethodName := ⟨RX7, "nextBy", "(II)I"⟩
abbrev cX7_chainOf : ByteArray := prog_9_method_62_code
def yX7_chainOf : MethodName := ⟨RX7, "chainOf", "(III)I"⟩
abbrev cX7_chain : ByteArray := prog_9_method_63_code
def yX7_chain : MethodName := ⟨RX7, "chain", "(III)I"⟩
abbrev cX7_sums : ByteArray := prog_9_method_64_code
def yX7_sums : MethodName := ⟨RX7, "sums", "(II)V"⟩
abbrev cX7_isFit : ByteArray := prog_9_method_65_code
def yX7_isFit : MethodName := ⟨RX7, "isFit", "(II)Z"⟩
abbrev cX7_fitOf : ByteArray := prog_9_method_66_code
def yX7_fitOf : MethodName := ⟨RX7, "fitOf", "(III)J"⟩
abbrev cX7_fit : ByteArray := prog_9_method_67_code
def yX7_fit : MethodName := ⟨RX7, "fit", "(III)J"⟩
abbrev cX7_offOf : ByteArray := prog_9_method_68_code
def yX7_offOf : MethodName := ⟨RX7, "offOf", "(II)I"⟩
abbrev cX7_off : ByteArray := prog_9_method_69_code
def yX7_off : MethodName := ⟨RX7, "off", "(II)I"⟩
abbrev cX7_gainOf : ByteArray := prog_9_method_70_code
def yX7_gainOf : MethodName := ⟨RX7, "gainOf", "(II)J"⟩
abbrev cX7_gain : ByteArray := prog_9_method_71_code
def yX7_gain : MethodName := ⟨RX7, "gain", "(II)J"⟩
abbrev cX7_squaresAt : ByteArray := prog_9_method_72_code
def yX7_squaresAt : MethodName := ⟨RX7, "squaresAt", "(I)J"⟩
abbrev cX7_weightAt : ByteArray := prog_9_method_73_code
def yX7_weightAt : MethodName := ⟨RX7, "weightAt", "(I)J"⟩
abbrev cX7_varianceOf : ByteArray := prog_9_method_74_code
def yX7_varianceOf : MethodName := ⟨RX7, "varianceOf", "(II)J"⟩
abbrev cX7_variance : ByteArray := prog_9_method_75_code
def yX7_variance : MethodName := ⟨RX7, "variance", "(II)J"⟩
abbrev cX7_ranked : ByteArray := prog_9_method_76_code
def yX7_ranked : MethodName := ⟨RX7, "ranked", "()I"⟩
abbrev cX7_isLess : ByteArray := prog_9_method_77_code
def yX7_isLess : MethodName := ⟨RX7, "isLess", "(II)Z"⟩
abbrev cX7_rankOf : ByteArray := prog_9_method_78_code
def yX7_rankOf : MethodName := ⟨RX7, "rankOf", "(I)I"⟩
abbrev cX7_rank : ByteArray := prog_9_method_79_code
def yX7_rank : MethodName := ⟨RX7, "rank", "(I)I"⟩
abbrev cX7_meets : ByteArray := prog_9_method_80_code
def yX7_meets : MethodName := ⟨RX7, "meets", "(I)I"⟩
abbrev cX7_isSheet : ByteArray := prog_9_method_81_code
def yX7_isSheet : MethodName := ⟨RX7, "isSheet", "(I)Z"⟩
abbrev cX7_sheet : ByteArray := prog_9_method_82_code
def yX7_sheet : MethodName := ⟨RX7, "sheet", "(III)I"⟩
abbrev cX7_lose : ByteArray := prog_9_method_83_code
def yX7_lose : MethodName := ⟨RX7, "lose", "(I)I"⟩
abbrev cX7_hasItem : ByteArray := prog_9_method_84_code
def yX7_hasItem : MethodName := ⟨RX7, "hasItem", "(II)Z"⟩
abbrev cX7_keeps : ByteArray := prog_9_method_85_code
def yX7_keeps : MethodName := ⟨RX7, "keeps", "(ID)V"⟩
abbrev cX7_put : ByteArray := prog_9_method_86_code
def yX7_put : MethodName := ⟨RX7, "put", "(IIII)I"⟩
abbrev cX7_blank : ByteArray := prog_9_method_87_code
def yX7_blank : MethodName := ⟨RX7, "blank", "(II)I"⟩
abbrev cX7_itemOf : ByteArray := prog_9_method_88_code
def yX7_itemOf : MethodName := ⟨RX7, "itemOf", "(II)J"⟩
abbrev cX7_get : ByteArray := prog_9_method_89_code
def yX7_get : MethodName := ⟨RX7, "get", "(II)J"⟩
abbrev cX7_copy : ByteArray := prog_9_method_90_code
def yX7_copy : MethodName := ⟨RX7, "copy", "(IIIII)I"⟩
abbrev cX7_write : ByteArray := prog_9_method_91_code
def yX7_write : MethodName := ⟨RX7, "write", "(I)I"⟩
abbrev cX7_foundOf : ByteArray := prog_9_method_92_code
def yX7_foundOf : MethodName := ⟨RX7, "foundOf", "(II)I"⟩
abbrev cX7_found : ByteArray := prog_9_method_93_code
def yX7_found : MethodName := ⟨RX7, "found", "(II)I"⟩
abbrev cX7_lostNow : ByteArray := prog_9_method_94_code
def yX7_lostNow : MethodName := ⟨RX7, "lostNow", "()I"⟩
abbrev cX7_breaksNow : ByteArray := prog_9_method_95_code
def yX7_breaksNow : MethodName := ⟨RX7, "breaksNow", "()I"⟩
abbrev cX7_count : ByteArray := prog_9_method_96_code
def yX7_count : MethodName := ⟨RX7, "count", "(I)I"⟩
abbrev cX7_binDigest : ByteArray := prog_9_method_97_code
def yX7_binDigest : MethodName := ⟨RX7, "binDigest", "(JI)J"⟩
abbrev cX7_edgeDigest : ByteArray := prog_9_method_98_code
def yX7_edgeDigest : MethodName := ⟨RX7, "edgeDigest", "(JI)J"⟩
abbrev cX7_gateDigest : ByteArray := prog_9_method_99_code
def yX7_gateDigest : MethodName := ⟨RX7, "gateDigest", "(JI)J"⟩
abbrev cX7_chainDigest : ByteArray := prog_9_method_100_code
def yX7_chainDigest : MethodName := ⟨RX7, "chainDigest", "(J)J"⟩
abbrev cX7_digest : ByteArray := prog_9_method_101_code
def yX7_digest : MethodName := ⟨RX7, "digest", "()J"⟩
def RJ9 : String := "java/lang/Math"
def TJ9 : u_T := fun k => match k with
  | _ => ("", "", "", false)
def tyJ9 : Nat → FieldType := fun k => match k with
  | _ => .int
abbrev wsJ90 : List Cond := u_ws RJ9 TJ9 0
theorem nmJ9 : ∀ a, a < 0 → ∀ b, b < 0 → a ≠ b → (TJ9 a).2.1 ≠ (TJ9 b).2.1 := by decide +kernel
theorem tyJ9_ok : ∀ k, k < 0 → parseFieldDescriptor (TJ9 k).2.2.1 = some (tyJ9 k) := by decide +kernel
abbrev cJ9_abs_0f7a4 : ByteArray := prog_10_method_59_code
def yJ9_abs_0f7a4 : MethodName := ⟨RJ9, "abs", "(I)I"⟩
abbrev cJ9_abs_067f4 : ByteArray := prog_10_method_61_code
def yJ9_abs_067f4 : MethodName := ⟨RJ9, "abs", "(J)J"⟩
abbrev cJ9_max_7cf53 : ByteArray := prog_10_method_65_code
def yJ9_max_7cf53 : MethodName := ⟨RJ9, "max", "(II)I"⟩
abbrev cJ9_max_f86c9 : ByteArray := prog_10_method_66_code
def yJ9_max_f86c9 : MethodName := ⟨RJ9, "max", "(JJ)J"⟩
abbrev cJ9_min_7cf53 : ByteArray := prog_10_method_69_code
def yJ9_min_7cf53 : MethodName := ⟨RJ9, "min", "(II)I"⟩
abbrev cJ9_min_f86c9 : ByteArray := prog_10_method_70_code
def yJ9_min_f86c9 : MethodName := ⟨RJ9, "min", "(JJ)J"⟩
def RJ0 : String := "java/lang/String"
def TJ0 : u_T := fun k => match k with
  | _ => ("", "", "", false)
def tyJ0 : Nat → FieldType := fun k => match k with
  | _ => .int
abbrev wsJ00 : List Cond := u_ws RJ0 TJ0 0
theorem nmJ0 : ∀ a, a < 0 → ∀ b, b < 0 → a ≠ b → (TJ0 a).2.1 ≠ (TJ0 b).2.1 := by decide +kernel
theorem tyJ0_ok : ∀ k, k < 0 → parseFieldDescriptor (TJ0 k).2.2.1 = some (tyJ0 k) := by decide +kernel
abbrev cJ0_length_8abf5 : ByteArray := prog_11_method_54_code
def yJ0_length_8abf5 : MethodName := ⟨RJ0, "length", "()I"⟩
abbrev cJ0_charAt_5068e : ByteArray := prog_11_method_56_code
def yJ0_charAt_5068e : MethodName := ⟨RJ0, "charAt", "(I)C"⟩
abbrev cJ0_coder_7d493 : ByteArray := prog_11_method_152_code
def yJ0_coder_7d493 : MethodName := ⟨RJ0, "coder", "()B"⟩
abbrev cJ0_isLatin1_aae02 : ByteArray := prog_11_method_154_code
def yJ0_isLatin1_aae02 : MethodName := ⟨RJ0, "isLatin1", "()Z"⟩
abbrev cJ0_checkIndex_df160 : ByteArray := prog_11_method_155_code
def yJ0_checkIndex_df160 : MethodName := ⟨RJ0, "checkIndex", "(II)V"⟩
def RJ1 : String := "java/lang/StringLatin1"
def TJ1 : u_T := fun k => match k with
  | _ => ("", "", "", false)
def tyJ1 : Nat → FieldType := fun k => match k with
  | _ => .int
abbrev wsJ10 : List Cond := u_ws RJ1 TJ1 0
theorem nmJ1 : ∀ a, a < 0 → ∀ b, b < 0 → a ≠ b → (TJ1 a).2.1 ≠ (TJ1 b).2.1 := by decide +kernel
theorem tyJ1_ok : ∀ k, k < 0 → parseFieldDescriptor (TJ1 k).2.2.1 = some (tyJ1 k) := by decide +kernel
abbrev cJ1_charAt_3b067 : ByteArray := prog_12_method_2_code
def yJ1_charAt_3b067 : MethodName := ⟨RJ1, "charAt", "([BI)C"⟩
def RJ2 : String := "java/lang/StringUTF16"
def TJ2 : u_T := fun k => match k with
  | _ => ("", "", "", false)
def tyJ2 : Nat → FieldType := fun k => match k with
  | _ => .int
abbrev wsJ20 : List Cond := u_ws RJ2 TJ2 0
theorem nmJ2 : ∀ a, a < 0 → ∀ b, b < 0 → a ≠ b → (TJ2 a).2.1 ≠ (TJ2 b).2.1 := by decide +kernel
theorem tyJ2_ok : ∀ k, k < 0 → parseFieldDescriptor (TJ2 k).2.2.1 = some (tyJ2 k) := by decide +kernel
abbrev cJ2_getChar_3b067 : ByteArray := prog_13_method_5_code
def yJ2_getChar_3b067 : MethodName := ⟨RJ2, "getChar", "([BI)C"⟩
abbrev cJ2_length_9d52b : ByteArray := prog_13_method_6_code
def yJ2_length_9d52b : MethodName := ⟨RJ2, "length", "([B)I"⟩
abbrev cJ2_charAt_3b067 : ByteArray := prog_13_method_83_code
def yJ2_charAt_3b067 : MethodName := ⟨RJ2, "charAt", "([BI)C"⟩
abbrev cJ2_checkIndex_2214a : ByteArray := prog_13_method_91_code
def yJ2_checkIndex_2214a : MethodName := ⟨RJ2, "checkIndex", "(I[B)V"⟩
def RJ3 : String := "jdk/internal/util/Preconditions"
def TJ3 : u_T := fun k => match k with
  | _ => ("", "", "", false)
def tyJ3 : Nat → FieldType := fun k => match k with
  | _ => .int
abbrev wsJ30 : List Cond := u_ws RJ3 TJ3 0
theorem nmJ3 : ∀ a, a < 0 → ∀ b, b < 0 → a ≠ b → (TJ3 a).2.1 ≠ (TJ3 b).2.1 := by decide +kernel
theorem tyJ3_ok : ∀ k, k < 0 → parseFieldDescriptor (TJ3 k).2.2.1 = some (tyJ3 k) := by decide +kernel
abbrev cJ3_checkIndex_8e157 : ByteArray := prog_14_method_11_code
def yJ3_checkIndex_8e157 : MethodName := ⟨RJ3, "checkIndex", "(IILjava/util/function/BiFunction;)I"⟩
def RL : String := "PeriodGatesLaw"
abbrev cL_law : ByteArray := code
def yL_law : MethodName := ⟨RL, "law", "([I)Z"⟩
abbrev vwCl : List vw_C := [(RX0, TX0, 4), (RX1, TX1, 5), (RX2, TX2, 10), (RX3, TX3, 5), (RX4, TX4, 4), (RX5, TX5, 2), (RX6, TX6, 12), (RX7, TX7, 33)]
end
section
theorem dX0_init_0 : decode cX0_init 0 = .ok (.aload_n 0, 1) := by decide +kernel
theorem dX0_init_1 : decode cX0_init 1 = .ok (.invokespecial 3, 3) := by decide +kernel
theorem dX0_init_4 : decode cX0_init 4 = .ok (.aload_n 0, 1) := by decide +kernel
theorem dX0_init_5 : decode cX0_init 5 = .ok (.bipush 12, 2) := by decide +kernel
theorem dX0_init_7 : decode cX0_init 7 = .ok (.newarray .int, 2) := by decide +kernel
theorem dX0_init_9 : decode cX0_init 9 = .ok (.putfield 9, 3) := by decide +kernel
theorem dX0_init_12 : decode cX0_init 12 = .ok (.aload_n 0, 1) := by decide +kernel
theorem dX0_init_13 : decode cX0_init 13 = .ok (.bipush 12, 2) := by decide +kernel
theorem dX0_init_15 : decode cX0_init 15 = .ok (.newarray .int, 2) := by decide +kernel
theorem dX0_init_17 : decode cX0_init 17 = .ok (.putfield 15, 3) := by decide +kernel
theorem dX0_init_20 : decode cX0_init 20 = .ok (.aload_n 0, 1) := by decide +kernel
theorem dX0_init_21 : decode cX0_init 21 = .ok (.iconst 1, 1) := by decide +kernel
theorem dX0_init_22 : decode cX0_init 22 = .ok (.putfield 18, 3) := by decide +kernel
theorem dX0_init_25 : decode cX0_init 25 = .ok (.aload_n 0, 1) := by decide +kernel
theorem dX0_init_26 : decode cX0_init 26 = .ok (.iconst 0, 1) := by decide +kernel
theorem dX0_init_27 : decode cX0_init 27 = .ok (.putfield 22, 3) := by decide +kernel
theorem dX0_init_30 : decode cX0_init 30 = .ok (.return_, 1) := by decide +kernel
theorem dX0_codeOf_0 : decode cX0_codeOf 0 = .ok (.iconst 0, 1) := by decide +kernel
theorem dX0_codeOf_1 : decode cX0_codeOf 1 = .ok (.istore_n 2, 1) := by decide +kernel
theorem dX0_codeOf_2 : decode cX0_codeOf 2 = .ok (.iconst 1, 1) := by decide +kernel
theorem dX0_codeOf_3 : decode cX0_codeOf 3 = .ok (.istore_n 3, 1) := by decide +kernel
theorem dX0_codeOf_4 : decode cX0_codeOf 4 = .ok (.iload_n 3, 1) := by decide +kernel
theorem dX0_codeOf_5 : decode cX0_codeOf 5 = .ok (.aload_n 0, 1) := by decide +kernel
theorem dX0_codeOf_6 : decode cX0_codeOf 6 = .ok (.getfield 18, 3) := by decide +kernel
theorem dX0_codeOf_9 : decode cX0_codeOf 9 = .ok (.if_icmp .ge 21, 3) := by decide +kernel
theorem dX0_codeOf_12 : decode cX0_codeOf 12 = .ok (.aload_n 0, 1) := by decide +kernel
theorem dX0_codeOf_13 : decode cX0_codeOf 13 = .ok (.getfield 9, 3) := by decide +kernel
theorem dX0_codeOf_16 : decode cX0_codeOf 16 = .ok (.iload_n 3, 1) := by decide +kernel
theorem dX0_codeOf_17 : decode cX0_codeOf 17 = .ok (.iaload, 1) := by decide +kernel
theorem dX0_codeOf_18 : decode cX0_codeOf 18 = .ok (.iload_n 1, 1) := by decide +kernel
theorem dX0_codeOf_19 : decode cX0_codeOf 19 = .ok (.if_icmp .gt 5, 3) := by decide +kernel
theorem dX0_codeOf_22 : decode cX0_codeOf 22 = .ok (.iload_n 3, 1) := by decide +kernel
theorem dX0_codeOf_23 : decode cX0_codeOf 23 = .ok (.istore_n 2, 1) := by decide +kernel
theorem dX0_codeOf_24 : decode cX0_codeOf 24 = .ok (.iinc 3 1, 3) := by decide +kernel
theorem dX0_codeOf_27 : decode cX0_codeOf 27 = .ok (.goto (-23), 3) := by decide +kernel
theorem dX0_codeOf_30 : decode cX0_codeOf 30 = .ok (.iload_n 2, 1) := by decide +kernel
theorem dX0_codeOf_31 : decode cX0_codeOf 31 = .ok (.ireturn, 1) := by decide +kernel
theorem dX0_endOf_0 : decode cX0_endOf 0 = .ok (.iload_n 1, 1) := by decide +kernel
theorem dX0_endOf_1 : decode cX0_endOf 1 = .ok (.iconst 1, 1) := by decide +kernel
theorem dX0_endOf_2 : decode cX0_endOf 2 = .ok (.iadd, 1) := by decide +kernel
theorem dX0_endOf_3 : decode cX0_endOf 3 = .ok (.aload_n 0, 1) := by decide +kernel
theorem dX0_endOf_4 : decode cX0_endOf 4 = .ok (.getfield 18, 3) := by decide +kernel
theorem dX0_endOf_7 : decode cX0_endOf 7 = .ok (.if_icmp .ge 14, 3) := by decide +kernel
theorem dX0_endOf_10 : decode cX0_endOf 10 = .ok (.aload_n 0, 1) := by decide +kernel
theorem dX0_endOf_11 : decode cX0_endOf 11 = .ok (.getfield 9, 3) := by decide +kernel
theorem dX0_endOf_14 : decode cX0_endOf 14 = .ok (.iload_n 1, 1) := by decide +kernel
theorem dX0_endOf_15 : decode cX0_endOf 15 = .ok (.iconst 1, 1) := by decide +kernel
theorem dX0_endOf_16 : decode cX0_endOf 16 = .ok (.iadd, 1) := by decide +kernel
theorem dX0_endOf_17 : decode cX0_endOf 17 = .ok (.iaload, 1) := by decide +kernel
theorem dX0_endOf_18 : decode cX0_endOf 18 = .ok (.goto 5, 3) := by decide +kernel
theorem dX0_endOf_21 : decode cX0_endOf 21 = .ok (.bipush 60, 2) := by decide +kernel
theorem dX0_endOf_23 : decode cX0_endOf 23 = .ok (.ireturn, 1) := by decide +kernel
theorem dX0_widthOf_0 : decode cX0_widthOf 0 = .ok (.aload_n 0, 1) := by decide +kernel
theorem dX0_widthOf_1 : decode cX0_widthOf 1 = .ok (.iload_n 1, 1) := by decide +kernel
theorem dX0_widthOf_2 : decode cX0_widthOf 2 = .ok (.invokevirtual 25, 3) := by decide +kernel
theorem dX0_widthOf_5 : decode cX0_widthOf 5 = .ok (.aload_n 0, 1) := by decide +kernel
theorem dX0_widthOf_6 : decode cX0_widthOf 6 = .ok (.getfield 9, 3) := by decide +kernel
theorem dX0_widthOf_9 : decode cX0_widthOf 9 = .ok (.iload_n 1, 1) := by decide +kernel
theorem dX0_widthOf_10 : decode cX0_widthOf 10 = .ok (.iaload, 1) := by decide +kernel
theorem dX0_widthOf_11 : decode cX0_widthOf 11 = .ok (.isub, 1) := by decide +kernel
theorem dX0_widthOf_12 : decode cX0_widthOf 12 = .ok (.ireturn, 1) := by decide +kernel
theorem dX0_split_0 : decode cX0_split 0 = .ok (.aload_n 0, 1) := by decide +kernel
theorem dX0_split_1 : decode cX0_split 1 = .ok (.getfield 18, 3) := by decide +kernel
theorem dX0_split_4 : decode cX0_split 4 = .ok (.istore_n 3, 1) := by decide +kernel
theorem dX0_split_5 : decode cX0_split 5 = .ok (.iload_n 3, 1) := by decide +kernel
theorem dX0_split_6 : decode cX0_split 6 = .ok (.iload_n 1, 1) := by decide +kernel
theorem dX0_split_7 : decode cX0_split 7 = .ok (.iconst 1, 1) := by decide +kernel
theorem dX0_split_8 : decode cX0_split 8 = .ok (.iadd, 1) := by decide +kernel
theorem dX0_split_9 : decode cX0_split 9 = .ok (.if_icmp .le 23, 3) := by decide +kernel
theorem dX0_split_12 : decode cX0_split 12 = .ok (.aload_n 0, 1) := by decide +kernel
theorem dX0_split_13 : decode cX0_split 13 = .ok (.getfield 9, 3) := by decide +kernel
theorem dX0_split_16 : decode cX0_split 16 = .ok (.iload_n 3, 1) := by decide +kernel
theorem dX0_split_17 : decode cX0_split 17 = .ok (.aload_n 0, 1) := by decide +kernel
theorem dX0_split_18 : decode cX0_split 18 = .ok (.getfield 9, 3) := by decide +kernel
theorem dX0_split_21 : decode cX0_split 21 = .ok (.iload_n 3, 1) := by decide +kernel
theorem dX0_split_22 : decode cX0_split 22 = .ok (.iconst 1, 1) := by decide +kernel
theorem dX0_split_23 : decode cX0_split 23 = .ok (.isub, 1) := by decide +kernel
theorem dX0_split_24 : decode cX0_split 24 = .ok (.iaload, 1) := by decide +kernel
theorem dX0_split_25 : decode cX0_split 25 = .ok (.iastore, 1) := by decide +kernel
theorem dX0_split_26 : decode cX0_split 26 = .ok (.iinc 3 (-1), 3) := by decide +kernel
theorem dX0_split_29 : decode cX0_split 29 = .ok (.goto (-24), 3) := by decide +kernel
theorem dX0_split_32 : decode cX0_split 32 = .ok (.aload_n 0, 1) := by decide +kernel
theorem dX0_split_33 : decode cX0_split 33 = .ok (.getfield 9, 3) := by decide +kernel
theorem dX0_split_36 : decode cX0_split 36 = .ok (.iload_n 1, 1) := by decide +kernel
theorem dX0_split_37 : decode cX0_split 37 = .ok (.iconst 1, 1) := by decide +kernel
theorem dX0_split_38 : decode cX0_split 38 = .ok (.iadd, 1) := by decide +kernel
theorem dX0_split_39 : decode cX0_split 39 = .ok (.iload_n 2, 1) := by decide +kernel
theorem dX0_split_40 : decode cX0_split 40 = .ok (.iastore, 1) := by decide +kernel
theorem dX0_split_41 : decode cX0_split 41 = .ok (.aload_n 0, 1) := by decide +kernel
theorem dX0_split_42 : decode cX0_split 42 = .ok (.dup, 1) := by decide +kernel
theorem dX0_split_43 : decode cX0_split 43 = .ok (.getfield 18, 3) := by decide +kernel
theorem dX0_split_46 : decode cX0_split 46 = .ok (.iconst 1, 1) := by decide +kernel
theorem dX0_split_47 : decode cX0_split 47 = .ok (.iadd, 1) := by decide +kernel
theorem dX0_split_48 : decode cX0_split 48 = .ok (.putfield 18, 3) := by decide +kernel
theorem dX0_split_51 : decode cX0_split 51 = .ok (.aload_n 0, 1) := by decide +kernel
theorem dX0_split_52 : decode cX0_split 52 = .ok (.invokevirtual 29, 3) := by decide +kernel
theorem dX0_split_55 : decode cX0_split 55 = .ok (.return_, 1) := by decide +kernel
theorem dX0_joinToPrevious_0 : decode cX0_joinToPrevious 0 = .ok (.aload_n 0, 1) := by decide +kernel
theorem dX0_joinToPrevious_1 : decode cX0_joinToPrevious 1 = .ok (.dup, 1) := by decide +kernel
theorem dX0_joinToPrevious_2 : decode cX0_joinToPrevious 2 = .ok (.getfield 18, 3) := by decide +kernel
theorem dX0_joinToPrevious_5 : decode cX0_joinToPrevious 5 = .ok (.iconst 1, 1) := by decide +kernel
theorem dX0_joinToPrevious_6 : decode cX0_joinToPrevious 6 = .ok (.isub, 1) := by decide +kernel
theorem dX0_joinToPrevious_7 : decode cX0_joinToPrevious 7 = .ok (.putfield 18, 3) := by decide +kernel
theorem dX0_joinToPrevious_10 : decode cX0_joinToPrevious 10 = .ok (.iload_n 1, 1) := by decide +kernel
theorem dX0_joinToPrevious_11 : decode cX0_joinToPrevious 11 = .ok (.istore_n 2, 1) := by decide +kernel
theorem dX0_joinToPrevious_12 : decode cX0_joinToPrevious 12 = .ok (.iload_n 2, 1) := by decide +kernel
theorem dX0_joinToPrevious_13 : decode cX0_joinToPrevious 13 = .ok (.aload_n 0, 1) := by decide +kernel
theorem dX0_joinToPrevious_14 : decode cX0_joinToPrevious 14 = .ok (.getfield 18, 3) := by decide +kernel
theorem dX0_joinToPrevious_17 : decode cX0_joinToPrevious 17 = .ok (.if_icmp .ge 23, 3) := by decide +kernel
theorem dX0_joinToPrevious_20 : decode cX0_joinToPrevious 20 = .ok (.aload_n 0, 1) := by decide +kernel
theorem dX0_joinToPrevious_21 : decode cX0_joinToPrevious 21 = .ok (.getfield 9, 3) := by decide +kernel
theorem dX0_joinToPrevious_24 : decode cX0_joinToPrevious 24 = .ok (.iload_n 2, 1) := by decide +kernel
theorem dX0_joinToPrevious_25 : decode cX0_joinToPrevious 25 = .ok (.aload_n 0, 1) := by decide +kernel
theorem dX0_joinToPrevious_26 : decode cX0_joinToPrevious 26 = .ok (.getfield 9, 3) := by decide +kernel
theorem dX0_joinToPrevious_29 : decode cX0_joinToPrevious 29 = .ok (.iload_n 2, 1) := by decide +kernel
theorem dX0_joinToPrevious_30 : decode cX0_joinToPrevious 30 = .ok (.iconst 1, 1) := by decide +kernel
theorem dX0_joinToPrevious_31 : decode cX0_joinToPrevious 31 = .ok (.iadd, 1) := by decide +kernel
theorem dX0_joinToPrevious_32 : decode cX0_joinToPrevious 32 = .ok (.iaload, 1) := by decide +kernel
theorem dX0_joinToPrevious_33 : decode cX0_joinToPrevious 33 = .ok (.iastore, 1) := by decide +kernel
theorem dX0_joinToPrevious_34 : decode cX0_joinToPrevious 34 = .ok (.iinc 2 1, 3) := by decide +kernel
theorem dX0_joinToPrevious_37 : decode cX0_joinToPrevious 37 = .ok (.goto (-25), 3) := by decide +kernel
theorem dX0_joinToPrevious_40 : decode cX0_joinToPrevious 40 = .ok (.aload_n 0, 1) := by decide +kernel
theorem dX0_joinToPrevious_41 : decode cX0_joinToPrevious 41 = .ok (.invokevirtual 29, 3) := by decide +kernel
theorem dX0_joinToPrevious_44 : decode cX0_joinToPrevious 44 = .ok (.return_, 1) := by decide +kernel
theorem dX0_addHits_0 : decode cX0_addHits 0 = .ok (.aload_n 0, 1) := by decide +kernel
theorem dX0_addHits_1 : decode cX0_addHits 1 = .ok (.iload_n 1, 1) := by decide +kernel
theorem dX0_addHits_2 : decode cX0_addHits 2 = .ok (.invokevirtual 32, 3) := by decide +kernel
theorem dX0_addHits_5 : decode cX0_addHits 5 = .ok (.istore_n 3, 1) := by decide +kernel
theorem dX0_addHits_6 : decode cX0_addHits 6 = .ok (.aload_n 0, 1) := by decide +kernel
theorem dX0_addHits_7 : decode cX0_addHits 7 = .ok (.getfield 15, 3) := by decide +kernel
theorem dX0_addHits_10 : decode cX0_addHits 10 = .ok (.iload_n 3, 1) := by decide +kernel
theorem dX0_addHits_11 : decode cX0_addHits 11 = .ok (.dup2, 1) := by decide +kernel
theorem dX0_addHits_12 : decode cX0_addHits 12 = .ok (.iaload, 1) := by decide +kernel
theorem dX0_addHits_13 : decode cX0_addHits 13 = .ok (.iload_n 2, 1) := by decide +kernel
theorem dX0_addHits_14 : decode cX0_addHits 14 = .ok (.iadd, 1) := by decide +kernel
theorem dX0_addHits_15 : decode cX0_addHits 15 = .ok (.iastore, 1) := by decide +kernel
theorem dX0_addHits_16 : decode cX0_addHits 16 = .ok (.aload_n 0, 1) := by decide +kernel
theorem dX0_addHits_17 : decode cX0_addHits 17 = .ok (.dup, 1) := by decide +kernel
theorem dX0_addHits_18 : decode cX0_addHits 18 = .ok (.getfield 22, 3) := by decide +kernel
theorem dX0_addHits_21 : decode cX0_addHits 21 = .ok (.iload_n 2, 1) := by decide +kernel
theorem dX0_addHits_22 : decode cX0_addHits 22 = .ok (.iadd, 1) := by decide +kernel
theorem dX0_addHits_23 : decode cX0_addHits 23 = .ok (.putfield 22, 3) := by decide +kernel
theorem dX0_addHits_26 : decode cX0_addHits 26 = .ok (.aload_n 0, 1) := by decide +kernel
theorem dX0_addHits_27 : decode cX0_addHits 27 = .ok (.getfield 15, 3) := by decide +kernel
theorem dX0_addHits_30 : decode cX0_addHits 30 = .ok (.iload_n 3, 1) := by decide +kernel
theorem dX0_addHits_31 : decode cX0_addHits 31 = .ok (.iaload, 1) := by decide +kernel
theorem dX0_addHits_32 : decode cX0_addHits 32 = .ok (.ireturn, 1) := by decide +kernel
theorem dX0_forgetHits_0 : decode cX0_forgetHits 0 = .ok (.iconst 0, 1) := by decide +kernel
theorem dX0_forgetHits_1 : decode cX0_forgetHits 1 = .ok (.istore_n 1, 1) := by decide +kernel
theorem dX0_forgetHits_2 : decode cX0_forgetHits 2 = .ok (.iload_n 1, 1) := by decide +kernel
theorem dX0_forgetHits_3 : decode cX0_forgetHits 3 = .ok (.bipush 12, 2) := by decide +kernel
theorem dX0_forgetHits_5 : decode cX0_forgetHits 5 = .ok (.if_icmp .ge 16, 3) := by decide +kernel
theorem dX0_forgetHits_8 : decode cX0_forgetHits 8 = .ok (.aload_n 0, 1) := by decide +kernel
theorem dX0_forgetHits_9 : decode cX0_forgetHits 9 = .ok (.getfield 15, 3) := by decide +kernel
theorem dX0_forgetHits_12 : decode cX0_forgetHits 12 = .ok (.iload_n 1, 1) := by decide +kernel
theorem dX0_forgetHits_13 : decode cX0_forgetHits 13 = .ok (.iconst 0, 1) := by decide +kernel
theorem dX0_forgetHits_14 : decode cX0_forgetHits 14 = .ok (.iastore, 1) := by decide +kernel
theorem dX0_forgetHits_15 : decode cX0_forgetHits 15 = .ok (.iinc 1 1, 3) := by decide +kernel
theorem dX0_forgetHits_18 : decode cX0_forgetHits 18 = .ok (.goto (-16), 3) := by decide +kernel
theorem dX0_forgetHits_21 : decode cX0_forgetHits 21 = .ok (.aload_n 0, 1) := by decide +kernel
theorem dX0_forgetHits_22 : decode cX0_forgetHits 22 = .ok (.iconst 0, 1) := by decide +kernel
theorem dX0_forgetHits_23 : decode cX0_forgetHits 23 = .ok (.putfield 22, 3) := by decide +kernel
theorem dX0_forgetHits_26 : decode cX0_forgetHits 26 = .ok (.return_, 1) := by decide +kernel
theorem dX0_hitsBelow_0 : decode cX0_hitsBelow 0 = .ok (.iconst 0, 1) := by decide +kernel
theorem dX0_hitsBelow_1 : decode cX0_hitsBelow 1 = .ok (.istore_n 2, 1) := by decide +kernel
theorem dX0_hitsBelow_2 : decode cX0_hitsBelow 2 = .ok (.iconst 0, 1) := by decide +kernel
theorem dX0_hitsBelow_3 : decode cX0_hitsBelow 3 = .ok (.istore_n 3, 1) := by decide +kernel
theorem dX0_hitsBelow_4 : decode cX0_hitsBelow 4 = .ok (.iload_n 3, 1) := by decide +kernel
theorem dX0_hitsBelow_5 : decode cX0_hitsBelow 5 = .ok (.iload_n 1, 1) := by decide +kernel
theorem dX0_hitsBelow_6 : decode cX0_hitsBelow 6 = .ok (.if_icmp .ge 18, 3) := by decide +kernel
theorem dX0_hitsBelow_9 : decode cX0_hitsBelow 9 = .ok (.iload_n 2, 1) := by decide +kernel
theorem dX0_hitsBelow_10 : decode cX0_hitsBelow 10 = .ok (.aload_n 0, 1) := by decide +kernel
theorem dX0_hitsBelow_11 : decode cX0_hitsBelow 11 = .ok (.getfield 15, 3) := by decide +kernel
theorem dX0_hitsBelow_14 : decode cX0_hitsBelow 14 = .ok (.iload_n 3, 1) := by decide +kernel
theorem dX0_hitsBelow_15 : decode cX0_hitsBelow 15 = .ok (.iaload, 1) := by decide +kernel
theorem dX0_hitsBelow_16 : decode cX0_hitsBelow 16 = .ok (.iadd, 1) := by decide +kernel
theorem dX0_hitsBelow_17 : decode cX0_hitsBelow 17 = .ok (.istore_n 2, 1) := by decide +kernel
theorem dX0_hitsBelow_18 : decode cX0_hitsBelow 18 = .ok (.iinc 3 1, 3) := by decide +kernel
theorem dX0_hitsBelow_21 : decode cX0_hitsBelow 21 = .ok (.goto (-17), 3) := by decide +kernel
theorem dX0_hitsBelow_24 : decode cX0_hitsBelow 24 = .ok (.iload_n 2, 1) := by decide +kernel
theorem dX0_hitsBelow_25 : decode cX0_hitsBelow 25 = .ok (.ireturn, 1) := by decide +kernel
theorem dX0_farthest_0 : decode cX0_farthest 0 = .ok (.iconst 0, 1) := by decide +kernel
theorem dX0_farthest_1 : decode cX0_farthest 1 = .ok (.istore_n 1, 1) := by decide +kernel
theorem dX0_farthest_2 : decode cX0_farthest 2 = .ok (.iconst (-1), 1) := by decide +kernel
theorem dX0_farthest_3 : decode cX0_farthest 3 = .ok (.istore_n 2, 1) := by decide +kernel
theorem dX0_farthest_4 : decode cX0_farthest 4 = .ok (.iconst 0, 1) := by decide +kernel
theorem dX0_farthest_5 : decode cX0_farthest 5 = .ok (.istore_n 3, 1) := by decide +kernel
theorem dX0_farthest_6 : decode cX0_farthest 6 = .ok (.iload_n 3, 1) := by decide +kernel
theorem dX0_farthest_7 : decode cX0_farthest 7 = .ok (.aload_n 0, 1) := by decide +kernel
theorem dX0_farthest_8 : decode cX0_farthest 8 = .ok (.getfield 18, 3) := by decide +kernel
theorem dX0_farthest_11 : decode cX0_farthest 11 = .ok (.if_icmp .ge 45, 3) := by decide +kernel
theorem dX0_farthest_14 : decode cX0_farthest 14 = .ok (.bipush 60, 2) := by decide +kernel
theorem dX0_farthest_16 : decode cX0_farthest 16 = .ok (.aload_n 0, 1) := by decide +kernel
theorem dX0_farthest_17 : decode cX0_farthest 17 = .ok (.getfield 15, 3) := by decide +kernel
theorem dX0_farthest_20 : decode cX0_farthest 20 = .ok (.iload_n 3, 1) := by decide +kernel
theorem dX0_farthest_21 : decode cX0_farthest 21 = .ok (.iaload, 1) := by decide +kernel
theorem dX0_farthest_22 : decode cX0_farthest 22 = .ok (.imul, 1) := by decide +kernel
theorem dX0_farthest_23 : decode cX0_farthest 23 = .ok (.aload_n 0, 1) := by decide +kernel
theorem dX0_farthest_24 : decode cX0_farthest 24 = .ok (.iload_n 3, 1) := by decide +kernel
theorem dX0_farthest_25 : decode cX0_farthest 25 = .ok (.invokevirtual 35, 3) := by decide +kernel
theorem dX0_farthest_28 : decode cX0_farthest 28 = .ok (.aload_n 0, 1) := by decide +kernel
theorem dX0_farthest_29 : decode cX0_farthest 29 = .ok (.getfield 22, 3) := by decide +kernel
theorem dX0_farthest_32 : decode cX0_farthest 32 = .ok (.imul, 1) := by decide +kernel
theorem dX0_farthest_33 : decode cX0_farthest 33 = .ok (.isub, 1) := by decide +kernel
theorem dX0_farthest_34 : decode cX0_farthest 34 = .ok (.invokestatic 38, 3) := by decide +kernel
theorem dX0_farthest_37 : decode cX0_farthest 37 = .ok (.istore 4, 2) := by decide +kernel
theorem dX0_farthest_39 : decode cX0_farthest 39 = .ok (.iload 4, 2) := by decide +kernel
theorem dX0_farthest_41 : decode cX0_farthest 41 = .ok (.iload_n 2, 1) := by decide +kernel
theorem dX0_farthest_42 : decode cX0_farthest 42 = .ok (.if_icmp .le 8, 3) := by decide +kernel
theorem dX0_farthest_45 : decode cX0_farthest 45 = .ok (.iload 4, 2) := by decide +kernel
theorem dX0_farthest_47 : decode cX0_farthest 47 = .ok (.istore_n 2, 1) := by decide +kernel
theorem dX0_farthest_48 : decode cX0_farthest 48 = .ok (.iload_n 3, 1) := by decide +kernel
theorem dX0_farthest_49 : decode cX0_farthest 49 = .ok (.istore_n 1, 1) := by decide +kernel
theorem dX0_farthest_50 : decode cX0_farthest 50 = .ok (.iinc 3 1, 3) := by decide +kernel
theorem dX0_farthest_53 : decode cX0_farthest 53 = .ok (.goto (-47), 3) := by decide +kernel
theorem dX0_farthest_56 : decode cX0_farthest 56 = .ok (.iload_n 1, 1) := by decide +kernel
theorem dX0_farthest_57 : decode cX0_farthest 57 = .ok (.ireturn, 1) := by decide +kernel
theorem dX1_init_0 : decode cX1_init 0 = .ok (.aload_n 0, 1) := by decide +kernel
theorem dX1_init_1 : decode cX1_init 1 = .ok (.invokespecial 3, 3) := by decide +kernel
theorem dX1_init_4 : decode cX1_init 4 = .ok (.aload_n 0, 1) := by decide +kernel
theorem dX1_init_5 : decode cX1_init 5 = .ok (.bipush 8, 2) := by decide +kernel
theorem dX1_init_7 : decode cX1_init 7 = .ok (.newarray .int, 2) := by decide +kernel
theorem dX1_init_9 : decode cX1_init 9 = .ok (.putfield 9, 3) := by decide +kernel
theorem dX1_init_12 : decode cX1_init 12 = .ok (.aload_n 0, 1) := by decide +kernel
theorem dX1_init_13 : decode cX1_init 13 = .ok (.bipush 8, 2) := by decide +kernel
theorem dX1_init_15 : decode cX1_init 15 = .ok (.newarray .int, 2) := by decide +kernel
theorem dX1_init_17 : decode cX1_init 17 = .ok (.putfield 15, 3) := by decide +kernel
theorem dX1_init_20 : decode cX1_init 20 = .ok (.aload_n 0, 1) := by decide +kernel
theorem dX1_init_21 : decode cX1_init 21 = .ok (.bipush 8, 2) := by decide +kernel
theorem dX1_init_23 : decode cX1_init 23 = .ok (.newarray .int, 2) := by decide +kernel
theorem dX1_init_25 : decode cX1_init 25 = .ok (.putfield 18, 3) := by decide +kernel
theorem dX1_init_28 : decode cX1_init 28 = .ok (.aload_n 0, 1) := by decide +kernel
theorem dX1_init_29 : decode cX1_init 29 = .ok (.bipush 8, 2) := by decide +kernel
theorem dX1_init_31 : decode cX1_init 31 = .ok (.newarray .int, 2) := by decide +kernel
theorem dX1_init_33 : decode cX1_init 33 = .ok (.putfield 21, 3) := by decide +kernel
theorem dX1_init_36 : decode cX1_init 36 = .ok (.aload_n 0, 1) := by decide +kernel
theorem dX1_init_37 : decode cX1_init 37 = .ok (.iconst 0, 1) := by decide +kernel
theorem dX1_init_38 : decode cX1_init 38 = .ok (.putfield 24, 3) := by decide +kernel
theorem dX1_init_41 : decode cX1_init 41 = .ok (.return_, 1) := by decide +kernel
theorem dX1_append_0 : decode cX1_append 0 = .ok (.aload_n 0, 1) := by decide +kernel
theorem dX1_append_1 : decode cX1_append 1 = .ok (.getfield 9, 3) := by decide +kernel
theorem dX1_append_4 : decode cX1_append 4 = .ok (.aload_n 0, 1) := by decide +kernel
theorem dX1_append_5 : decode cX1_append 5 = .ok (.getfield 24, 3) := by decide +kernel
theorem dX1_append_8 : decode cX1_append 8 = .ok (.iload_n 1, 1) := by decide +kernel
theorem dX1_append_9 : decode cX1_append 9 = .ok (.iastore, 1) := by decide +kernel
theorem dX1_append_10 : decode cX1_append 10 = .ok (.aload_n 0, 1) := by decide +kernel
theorem dX1_append_11 : decode cX1_append 11 = .ok (.getfield 15, 3) := by decide +kernel
theorem dX1_append_14 : decode cX1_append 14 = .ok (.aload_n 0, 1) := by decide +kernel
theorem dX1_append_15 : decode cX1_append 15 = .ok (.getfield 24, 3) := by decide +kernel
theorem dX1_append_18 : decode cX1_append 18 = .ok (.iload_n 2, 1) := by decide +kernel
theorem dX1_append_19 : decode cX1_append 19 = .ok (.iastore, 1) := by decide +kernel
theorem dX1_append_20 : decode cX1_append 20 = .ok (.aload_n 0, 1) := by decide +kernel
theorem dX1_append_21 : decode cX1_append 21 = .ok (.dup, 1) := by decide +kernel
theorem dX1_append_22 : decode cX1_append 22 = .ok (.getfield 24, 3) := by decide +kernel
theorem dX1_append_25 : decode cX1_append 25 = .ok (.iconst 1, 1) := by decide +kernel
theorem dX1_append_26 : decode cX1_append 26 = .ok (.iadd, 1) := by decide +kernel
theorem dX1_append_27 : decode cX1_append 27 = .ok (.putfield 24, 3) := by decide +kernel
theorem dX1_append_30 : decode cX1_append 30 = .ok (.aload_n 0, 1) := by decide +kernel
theorem dX1_append_31 : decode cX1_append 31 = .ok (.getfield 24, 3) := by decide +kernel
theorem dX1_append_34 : decode cX1_append 34 = .ok (.iconst 1, 1) := by decide +kernel
theorem dX1_append_35 : decode cX1_append 35 = .ok (.isub, 1) := by decide +kernel
theorem dX1_append_36 : decode cX1_append 36 = .ok (.ireturn, 1) := by decide +kernel
theorem dX1_locate_0 : decode cX1_locate 0 = .ok (.iconst 0, 1) := by decide +kernel
theorem dX1_locate_1 : decode cX1_locate 1 = .ok (.istore_n 2, 1) := by decide +kernel
theorem dX1_locate_2 : decode cX1_locate 2 = .ok (.iload_n 2, 1) := by decide +kernel
theorem dX1_locate_3 : decode cX1_locate 3 = .ok (.aload_n 0, 1) := by decide +kernel
theorem dX1_locate_4 : decode cX1_locate 4 = .ok (.getfield 24, 3) := by decide +kernel
theorem dX1_locate_7 : decode cX1_locate 7 = .ok (.if_icmp .ge 78, 3) := by decide +kernel
theorem dX1_locate_10 : decode cX1_locate 10 = .ok (.aload_n 1, 1) := by decide +kernel
theorem dX1_locate_11 : decode cX1_locate 11 = .ok (.aload_n 0, 1) := by decide +kernel
theorem dX1_locate_12 : decode cX1_locate 12 = .ok (.getfield 9, 3) := by decide +kernel
theorem dX1_locate_15 : decode cX1_locate 15 = .ok (.iload_n 2, 1) := by decide +kernel
theorem dX1_locate_16 : decode cX1_locate 16 = .ok (.iaload, 1) := by decide +kernel
theorem dX1_locate_17 : decode cX1_locate 17 = .ok (.invokevirtual 28, 3) := by decide +kernel
theorem dX1_locate_20 : decode cX1_locate 20 = .ok (.istore_n 3, 1) := by decide +kernel
theorem dX1_locate_21 : decode cX1_locate 21 = .ok (.aload_n 1, 1) := by decide +kernel
theorem dX1_locate_22 : decode cX1_locate 22 = .ok (.aload_n 0, 1) := by decide +kernel
theorem dX1_locate_23 : decode cX1_locate 23 = .ok (.getfield 15, 3) := by decide +kernel
theorem dX1_locate_26 : decode cX1_locate 26 = .ok (.iload_n 2, 1) := by decide +kernel
theorem dX1_locate_27 : decode cX1_locate 27 = .ok (.iaload, 1) := by decide +kernel
theorem dX1_locate_28 : decode cX1_locate 28 = .ok (.invokevirtual 28, 3) := by decide +kernel
theorem dX1_locate_31 : decode cX1_locate 31 = .ok (.istore 4, 2) := by decide +kernel
theorem dX1_locate_33 : decode cX1_locate 33 = .ok (.aload_n 0, 1) := by decide +kernel
theorem dX1_locate_34 : decode cX1_locate 34 = .ok (.getfield 18, 3) := by decide +kernel
theorem dX1_locate_37 : decode cX1_locate 37 = .ok (.iload_n 2, 1) := by decide +kernel
theorem dX1_locate_38 : decode cX1_locate 38 = .ok (.iload_n 3, 1) := by decide +kernel
theorem dX1_locate_39 : decode cX1_locate 39 = .ok (.aload_n 1, 1) := by decide +kernel
theorem dX1_locate_40 : decode cX1_locate 40 = .ok (.getfield 34, 3) := by decide +kernel
theorem dX1_locate_43 : decode cX1_locate 43 = .ok (.if_icmp .ge 7, 3) := by decide +kernel
theorem dX1_locate_46 : decode cX1_locate 46 = .ok (.iload_n 3, 1) := by decide +kernel
theorem dX1_locate_47 : decode cX1_locate 47 = .ok (.goto 4, 3) := by decide +kernel
theorem dX1_locate_50 : decode cX1_locate 50 = .ok (.iconst (-1), 1) := by decide +kernel
theorem dX1_locate_51 : decode cX1_locate 51 = .ok (.iastore, 1) := by decide +kernel
theorem dX1_locate_52 : decode cX1_locate 52 = .ok (.aload_n 0, 1) := by decide +kernel
theorem dX1_locate_53 : decode cX1_locate 53 = .ok (.getfield 21, 3) := by decide +kernel
theorem dX1_locate_56 : decode cX1_locate 56 = .ok (.iload_n 2, 1) := by decide +kernel
theorem dX1_locate_57 : decode cX1_locate 57 = .ok (.iload 4, 2) := by decide +kernel
theorem dX1_locate_59 : decode cX1_locate 59 = .ok (.aload_n 1, 1) := by decide +kernel
theorem dX1_locate_60 : decode cX1_locate 60 = .ok (.getfield 34, 3) := by decide +kernel
theorem dX1_locate_63 : decode cX1_locate 63 = .ok (.if_icmp .ge 14, 3) := by decide +kernel
theorem dX1_locate_66 : decode cX1_locate 66 = .ok (.iload 4, 2) := by decide +kernel
theorem dX1_locate_68 : decode cX1_locate 68 = .ok (.iload_n 3, 1) := by decide +kernel
theorem dX1_locate_69 : decode cX1_locate 69 = .ok (.if_icmp .le 8, 3) := by decide +kernel
theorem dX1_locate_72 : decode cX1_locate 72 = .ok (.iload 4, 2) := by decide +kernel
theorem dX1_locate_74 : decode cX1_locate 74 = .ok (.goto 4, 3) := by decide +kernel
theorem dX1_locate_77 : decode cX1_locate 77 = .ok (.iconst (-1), 1) := by decide +kernel
theorem dX1_locate_78 : decode cX1_locate 78 = .ok (.iastore, 1) := by decide +kernel
theorem dX1_locate_79 : decode cX1_locate 79 = .ok (.iinc 2 1, 3) := by decide +kernel
theorem dX1_locate_82 : decode cX1_locate 82 = .ok (.goto (-80), 3) := by decide +kernel
theorem dX1_locate_85 : decode cX1_locate 85 = .ok (.return_, 1) := by decide +kernel
theorem dX1_closingAt_0 : decode cX1_closingAt 0 = .ok (.iconst 0, 1) := by decide +kernel
theorem dX1_closingAt_1 : decode cX1_closingAt 1 = .ok (.istore_n 2, 1) := by decide +kernel
theorem dX1_closingAt_2 : decode cX1_closingAt 2 = .ok (.iload_n 2, 1) := by decide +kernel
theorem dX1_closingAt_3 : decode cX1_closingAt 3 = .ok (.aload_n 0, 1) := by decide +kernel
theorem dX1_closingAt_4 : decode cX1_closingAt 4 = .ok (.getfield 24, 3) := by decide +kernel
theorem dX1_closingAt_7 : decode cX1_closingAt 7 = .ok (.if_icmp .ge 49, 3) := by decide +kernel
theorem dX1_closingAt_10 : decode cX1_closingAt 10 = .ok (.iconst 0, 1) := by decide +kernel
theorem dX1_closingAt_11 : decode cX1_closingAt 11 = .ok (.istore_n 3, 1) := by decide +kernel
theorem dX1_closingAt_12 : decode cX1_closingAt 12 = .ok (.iconst 0, 1) := by decide +kernel
theorem dX1_closingAt_13 : decode cX1_closingAt 13 = .ok (.istore 4, 2) := by decide +kernel
theorem dX1_closingAt_15 : decode cX1_closingAt 15 = .ok (.iload 4, 2) := by decide +kernel
theorem dX1_closingAt_17 : decode cX1_closingAt 17 = .ok (.aload_n 0, 1) := by decide +kernel
theorem dX1_closingAt_18 : decode cX1_closingAt 18 = .ok (.getfield 24, 3) := by decide +kernel
theorem dX1_closingAt_21 : decode cX1_closingAt 21 = .ok (.if_icmp .ge 22, 3) := by decide +kernel
theorem dX1_closingAt_24 : decode cX1_closingAt 24 = .ok (.aload_n 0, 1) := by decide +kernel
theorem dX1_closingAt_25 : decode cX1_closingAt 25 = .ok (.iload 4, 2) := by decide +kernel
theorem dX1_closingAt_27 : decode cX1_closingAt 27 = .ok (.iload_n 2, 1) := by decide +kernel
theorem dX1_closingAt_28 : decode cX1_closingAt 28 = .ok (.invokevirtual 35, 3) := by decide +kernel
theorem dX1_closingAt_31 : decode cX1_closingAt 31 = .ok (.ifCond .eq 6, 3) := by decide +kernel
theorem dX1_closingAt_34 : decode cX1_closingAt 34 = .ok (.iinc 3 1, 3) := by decide +kernel
theorem dX1_closingAt_37 : decode cX1_closingAt 37 = .ok (.iinc 4 1, 3) := by decide +kernel
theorem dX1_closingAt_40 : decode cX1_closingAt 40 = .ok (.goto (-25), 3) := by decide +kernel
theorem dX1_closingAt_43 : decode cX1_closingAt 43 = .ok (.iload_n 3, 1) := by decide +kernel
theorem dX1_closingAt_44 : decode cX1_closingAt 44 = .ok (.iload_n 1, 1) := by decide +kernel
theorem dX1_closingAt_45 : decode cX1_closingAt 45 = .ok (.if_icmp .ne 5, 3) := by decide +kernel
theorem dX1_closingAt_48 : decode cX1_closingAt 48 = .ok (.iload_n 2, 1) := by decide +kernel
theorem dX1_closingAt_49 : decode cX1_closingAt 49 = .ok (.ireturn, 1) := by decide +kernel
theorem dX1_closingAt_50 : decode cX1_closingAt 50 = .ok (.iinc 2 1, 3) := by decide +kernel
theorem dX1_closingAt_53 : decode cX1_closingAt 53 = .ok (.goto (-51), 3) := by decide +kernel
theorem dX1_closingAt_56 : decode cX1_closingAt 56 = .ok (.iconst (-1), 1) := by decide +kernel
theorem dX1_closingAt_57 : decode cX1_closingAt 57 = .ok (.ireturn, 1) := by decide +kernel
theorem dX1_closesAhead_0 : decode cX1_closesAhead 0 = .ok (.aload_n 0, 1) := by decide +kernel
theorem dX1_closesAhead_1 : decode cX1_closesAhead 1 = .ok (.getfield 21, 3) := by decide +kernel
theorem dX1_closesAhead_4 : decode cX1_closesAhead 4 = .ok (.iload_n 1, 1) := by decide +kernel
theorem dX1_closesAhead_5 : decode cX1_closesAhead 5 = .ok (.iaload, 1) := by decide +kernel
theorem dX1_closesAhead_6 : decode cX1_closesAhead 6 = .ok (.aload_n 0, 1) := by decide +kernel
theorem dX1_closesAhead_7 : decode cX1_closesAhead 7 = .ok (.getfield 21, 3) := by decide +kernel
theorem dX1_closesAhead_10 : decode cX1_closesAhead 10 = .ok (.iload_n 2, 1) := by decide +kernel
theorem dX1_closesAhead_11 : decode cX1_closesAhead 11 = .ok (.iaload, 1) := by decide +kernel
theorem dX1_closesAhead_12 : decode cX1_closesAhead 12 = .ok (.if_icmp .eq 44, 3) := by decide +kernel
theorem dX1_closesAhead_15 : decode cX1_closesAhead 15 = .ok (.aload_n 0, 1) := by decide +kernel
theorem dX1_closesAhead_16 : decode cX1_closesAhead 16 = .ok (.getfield 21, 3) := by decide +kernel
theorem dX1_closesAhead_19 : decode cX1_closesAhead 19 = .ok (.iload_n 2, 1) := by decide +kernel
theorem dX1_closesAhead_20 : decode cX1_closesAhead 20 = .ok (.iaload, 1) := by decide +kernel
theorem dX1_closesAhead_21 : decode cX1_closesAhead 21 = .ok (.iconst (-1), 1) := by decide +kernel
theorem dX1_closesAhead_22 : decode cX1_closesAhead 22 = .ok (.if_icmp .eq 28, 3) := by decide +kernel
theorem dX1_closesAhead_25 : decode cX1_closesAhead 25 = .ok (.aload_n 0, 1) := by decide +kernel
theorem dX1_closesAhead_26 : decode cX1_closesAhead 26 = .ok (.getfield 21, 3) := by decide +kernel
theorem dX1_closesAhead_29 : decode cX1_closesAhead 29 = .ok (.iload_n 1, 1) := by decide +kernel
theorem dX1_closesAhead_30 : decode cX1_closesAhead 30 = .ok (.iaload, 1) := by decide +kernel
theorem dX1_closesAhead_31 : decode cX1_closesAhead 31 = .ok (.iconst (-1), 1) := by decide +kernel
theorem dX1_closesAhead_32 : decode cX1_closesAhead 32 = .ok (.if_icmp .eq 22, 3) := by decide +kernel
theorem dX1_closesAhead_35 : decode cX1_closesAhead 35 = .ok (.aload_n 0, 1) := by decide +kernel
theorem dX1_closesAhead_36 : decode cX1_closesAhead 36 = .ok (.getfield 21, 3) := by decide +kernel
theorem dX1_closesAhead_39 : decode cX1_closesAhead 39 = .ok (.iload_n 1, 1) := by decide +kernel
theorem dX1_closesAhead_40 : decode cX1_closesAhead 40 = .ok (.iaload, 1) := by decide +kernel
theorem dX1_closesAhead_41 : decode cX1_closesAhead 41 = .ok (.aload_n 0, 1) := by decide +kernel
theorem dX1_closesAhead_42 : decode cX1_closesAhead 42 = .ok (.getfield 21, 3) := by decide +kernel
theorem dX1_closesAhead_45 : decode cX1_closesAhead 45 = .ok (.iload_n 2, 1) := by decide +kernel
theorem dX1_closesAhead_46 : decode cX1_closesAhead 46 = .ok (.iaload, 1) := by decide +kernel
theorem dX1_closesAhead_47 : decode cX1_closesAhead 47 = .ok (.if_icmp .ge 7, 3) := by decide +kernel
theorem dX1_closesAhead_50 : decode cX1_closesAhead 50 = .ok (.iconst 1, 1) := by decide +kernel
theorem dX1_closesAhead_51 : decode cX1_closesAhead 51 = .ok (.goto 4, 3) := by decide +kernel
theorem dX1_closesAhead_54 : decode cX1_closesAhead 54 = .ok (.iconst 0, 1) := by decide +kernel
theorem dX1_closesAhead_55 : decode cX1_closesAhead 55 = .ok (.ireturn, 1) := by decide +kernel
theorem dX1_closesAhead_56 : decode cX1_closesAhead 56 = .ok (.aload_n 0, 1) := by decide +kernel
theorem dX1_closesAhead_57 : decode cX1_closesAhead 57 = .ok (.getfield 21, 3) := by decide +kernel
theorem dX1_closesAhead_60 : decode cX1_closesAhead 60 = .ok (.iload_n 1, 1) := by decide +kernel
theorem dX1_closesAhead_61 : decode cX1_closesAhead 61 = .ok (.iaload, 1) := by decide +kernel
theorem dX1_closesAhead_62 : decode cX1_closesAhead 62 = .ok (.iconst (-1), 1) := by decide +kernel
theorem dX1_closesAhead_63 : decode cX1_closesAhead 63 = .ok (.if_icmp .eq 39, 3) := by decide +kernel
theorem dX1_closesAhead_66 : decode cX1_closesAhead 66 = .ok (.aload_n 0, 1) := by decide +kernel
theorem dX1_closesAhead_67 : decode cX1_closesAhead 67 = .ok (.getfield 18, 3) := by decide +kernel
theorem dX1_closesAhead_70 : decode cX1_closesAhead 70 = .ok (.iload_n 1, 1) := by decide +kernel
theorem dX1_closesAhead_71 : decode cX1_closesAhead 71 = .ok (.iaload, 1) := by decide +kernel
theorem dX1_closesAhead_72 : decode cX1_closesAhead 72 = .ok (.aload_n 0, 1) := by decide +kernel
theorem dX1_closesAhead_73 : decode cX1_closesAhead 73 = .ok (.getfield 18, 3) := by decide +kernel
theorem dX1_closesAhead_76 : decode cX1_closesAhead 76 = .ok (.iload_n 2, 1) := by decide +kernel
theorem dX1_closesAhead_77 : decode cX1_closesAhead 77 = .ok (.iaload, 1) := by decide +kernel
theorem dX1_closesAhead_78 : decode cX1_closesAhead 78 = .ok (.if_icmp .eq 24, 3) := by decide +kernel
theorem dX1_closesAhead_81 : decode cX1_closesAhead 81 = .ok (.aload_n 0, 1) := by decide +kernel
theorem dX1_closesAhead_82 : decode cX1_closesAhead 82 = .ok (.getfield 18, 3) := by decide +kernel
theorem dX1_closesAhead_85 : decode cX1_closesAhead 85 = .ok (.iload_n 1, 1) := by decide +kernel
theorem dX1_closesAhead_86 : decode cX1_closesAhead 86 = .ok (.iaload, 1) := by decide +kernel
theorem dX1_closesAhead_87 : decode cX1_closesAhead 87 = .ok (.aload_n 0, 1) := by decide +kernel
theorem dX1_closesAhead_88 : decode cX1_closesAhead 88 = .ok (.getfield 18, 3) := by decide +kernel
theorem dX1_closesAhead_91 : decode cX1_closesAhead 91 = .ok (.iload_n 2, 1) := by decide +kernel
theorem dX1_closesAhead_92 : decode cX1_closesAhead 92 = .ok (.iaload, 1) := by decide +kernel
theorem dX1_closesAhead_93 : decode cX1_closesAhead 93 = .ok (.if_icmp .ge 7, 3) := by decide +kernel
theorem dX1_closesAhead_96 : decode cX1_closesAhead 96 = .ok (.iconst 1, 1) := by decide +kernel
theorem dX1_closesAhead_97 : decode cX1_closesAhead 97 = .ok (.goto 4, 3) := by decide +kernel
theorem dX1_closesAhead_100 : decode cX1_closesAhead 100 = .ok (.iconst 0, 1) := by decide +kernel
theorem dX1_closesAhead_101 : decode cX1_closesAhead 101 = .ok (.ireturn, 1) := by decide +kernel
theorem dX1_closesAhead_102 : decode cX1_closesAhead 102 = .ok (.iload_n 1, 1) := by decide +kernel
theorem dX1_closesAhead_103 : decode cX1_closesAhead 103 = .ok (.iload_n 2, 1) := by decide +kernel
theorem dX1_closesAhead_104 : decode cX1_closesAhead 104 = .ok (.if_icmp .ge 7, 3) := by decide +kernel
theorem dX1_closesAhead_107 : decode cX1_closesAhead 107 = .ok (.iconst 1, 1) := by decide +kernel
theorem dX1_closesAhead_108 : decode cX1_closesAhead 108 = .ok (.goto 4, 3) := by decide +kernel
theorem dX1_closesAhead_111 : decode cX1_closesAhead 111 = .ok (.iconst 0, 1) := by decide +kernel
theorem dX1_closesAhead_112 : decode cX1_closesAhead 112 = .ok (.ireturn, 1) := by decide +kernel
theorem dX2_init_0 : decode cX2_init 0 = .ok (.aload_n 0, 1) := by decide +kernel
theorem dX2_init_1 : decode cX2_init 1 = .ok (.invokespecial 3, 3) := by decide +kernel
theorem dX2_init_4 : decode cX2_init 4 = .ok (.aload_n 0, 1) := by decide +kernel
theorem dX2_init_5 : decode cX2_init 5 = .ok (.bipush 32, 2) := by decide +kernel
theorem dX2_init_7 : decode cX2_init 7 = .ok (.newarray .long, 2) := by decide +kernel
theorem dX2_init_9 : decode cX2_init 9 = .ok (.putfield 9, 3) := by decide +kernel
theorem dX2_init_12 : decode cX2_init 12 = .ok (.aload_n 0, 1) := by decide +kernel
theorem dX2_init_13 : decode cX2_init 13 = .ok (.bipush 32, 2) := by decide +kernel
theorem dX2_init_15 : decode cX2_init 15 = .ok (.newarray .int, 2) := by decide +kernel
theorem dX2_init_17 : decode cX2_init 17 = .ok (.putfield 15, 3) := by decide +kernel
theorem dX2_init_20 : decode cX2_init 20 = .ok (.aload_n 0, 1) := by decide +kernel
theorem dX2_init_21 : decode cX2_init 21 = .ok (.bipush 32, 2) := by decide +kernel
theorem dX2_init_23 : decode cX2_init 23 = .ok (.newarray .boolean, 2) := by decide +kernel
theorem dX2_init_25 : decode cX2_init 25 = .ok (.putfield 19, 3) := by decide +kernel
theorem dX2_init_28 : decode cX2_init 28 = .ok (.aload_n 0, 1) := by decide +kernel
theorem dX2_init_29 : decode cX2_init 29 = .ok (.bipush 32, 2) := by decide +kernel
theorem dX2_init_31 : decode cX2_init 31 = .ok (.newarray .int, 2) := by decide +kernel
theorem dX2_init_33 : decode cX2_init 33 = .ok (.putfield 23, 3) := by decide +kernel
theorem dX2_init_36 : decode cX2_init 36 = .ok (.aload_n 0, 1) := by decide +kernel
theorem dX2_init_37 : decode cX2_init 37 = .ok (.bipush 32, 2) := by decide +kernel
theorem dX2_init_39 : decode cX2_init 39 = .ok (.newarray .long, 2) := by decide +kernel
theorem dX2_init_41 : decode cX2_init 41 = .ok (.putfield 26, 3) := by decide +kernel
theorem dX2_init_44 : decode cX2_init 44 = .ok (.aload_n 0, 1) := by decide +kernel
theorem dX2_init_45 : decode cX2_init 45 = .ok (.iconst 0, 1) := by decide +kernel
theorem dX2_init_46 : decode cX2_init 46 = .ok (.putfield 29, 3) := by decide +kernel
theorem dX2_init_49 : decode cX2_init 49 = .ok (.aload_n 0, 1) := by decide +kernel
theorem dX2_init_50 : decode cX2_init 50 = .ok (.iconst 1, 1) := by decide +kernel
theorem dX2_init_51 : decode cX2_init 51 = .ok (.putfield 33, 3) := by decide +kernel
theorem dX2_init_54 : decode cX2_init 54 = .ok (.aload_n 0, 1) := by decide +kernel
theorem dX2_init_55 : decode cX2_init 55 = .ok (.lconst 0, 1) := by decide +kernel
theorem dX2_init_56 : decode cX2_init 56 = .ok (.putfield 36, 3) := by decide +kernel
theorem dX2_init_59 : decode cX2_init 59 = .ok (.aload_n 0, 1) := by decide +kernel
theorem dX2_init_60 : decode cX2_init 60 = .ok (.iconst 0, 1) := by decide +kernel
theorem dX2_init_61 : decode cX2_init 61 = .ok (.putfield 40, 3) := by decide +kernel
theorem dX2_init_64 : decode cX2_init 64 = .ok (.aload_n 0, 1) := by decide +kernel
theorem dX2_init_65 : decode cX2_init 65 = .ok (.iconst 0, 1) := by decide +kernel
theorem dX2_init_66 : decode cX2_init 66 = .ok (.putfield 43, 3) := by decide +kernel
theorem dX2_init_69 : decode cX2_init 69 = .ok (.return_, 1) := by decide +kernel
theorem dX2_renewStamps_0 : decode cX2_renewStamps 0 = .ok (.iload_n 3, 1) := by decide +kernel
theorem dX2_renewStamps_1 : decode cX2_renewStamps 1 = .ok (.iconst 1, 1) := by decide +kernel
theorem dX2_renewStamps_2 : decode cX2_renewStamps 2 = .ok (.if_icmp .ne 14, 3) := by decide +kernel
theorem dX2_renewStamps_5 : decode cX2_renewStamps 5 = .ok (.aload_n 2, 1) := by decide +kernel
theorem dX2_renewStamps_6 : decode cX2_renewStamps 6 = .ok (.getfield 46, 3) := by decide +kernel
theorem dX2_renewStamps_9 : decode cX2_renewStamps 9 = .ok (.ifCond .ne 7, 3) := by decide +kernel
theorem dX2_renewStamps_12 : decode cX2_renewStamps 12 = .ok (.iconst 0, 1) := by decide +kernel
theorem dX2_renewStamps_13 : decode cX2_renewStamps 13 = .ok (.goto 4, 3) := by decide +kernel
theorem dX2_renewStamps_16 : decode cX2_renewStamps 16 = .ok (.iload_n 3, 1) := by decide +kernel
theorem dX2_renewStamps_17 : decode cX2_renewStamps 17 = .ok (.istore 4, 2) := by decide +kernel
theorem dX2_renewStamps_19 : decode cX2_renewStamps 19 = .ok (.aload_n 0, 1) := by decide +kernel
theorem dX2_renewStamps_20 : decode cX2_renewStamps 20 = .ok (.iload 4, 2) := by decide +kernel
theorem dX2_renewStamps_22 : decode cX2_renewStamps 22 = .ok (.iconst 2, 1) := by decide +kernel
theorem dX2_renewStamps_23 : decode cX2_renewStamps 23 = .ok (.if_icmp .ne 7, 3) := by decide +kernel
theorem dX2_renewStamps_26 : decode cX2_renewStamps 26 = .ok (.iconst 2, 1) := by decide +kernel
theorem dX2_renewStamps_27 : decode cX2_renewStamps 27 = .ok (.goto 20, 3) := by decide +kernel
theorem dX2_renewStamps_30 : decode cX2_renewStamps 30 = .ok (.iload 4, 2) := by decide +kernel
theorem dX2_renewStamps_32 : decode cX2_renewStamps 32 = .ok (.iconst 1, 1) := by decide +kernel
theorem dX2_renewStamps_33 : decode cX2_renewStamps 33 = .ok (.if_icmp .ne 10, 3) := by decide +kernel
theorem dX2_renewStamps_36 : decode cX2_renewStamps 36 = .ok (.aload_n 2, 1) := by decide +kernel
theorem dX2_renewStamps_37 : decode cX2_renewStamps 37 = .ok (.getfield 46, 3) := by decide +kernel
theorem dX2_renewStamps_40 : decode cX2_renewStamps 40 = .ok (.goto 7, 3) := by decide +kernel
theorem dX2_renewStamps_43 : decode cX2_renewStamps 43 = .ok (.aload_n 2, 1) := by decide +kernel
theorem dX2_renewStamps_44 : decode cX2_renewStamps 44 = .ok (.getfield 51, 3) := by decide +kernel
theorem dX2_renewStamps_47 : decode cX2_renewStamps 47 = .ok (.putfield 33, 3) := by decide +kernel
theorem dX2_renewStamps_50 : decode cX2_renewStamps 50 = .ok (.aload_n 0, 1) := by decide +kernel
theorem dX2_renewStamps_51 : decode cX2_renewStamps 51 = .ok (.aload_n 1, 1) := by decide +kernel
theorem dX2_renewStamps_52 : decode cX2_renewStamps 52 = .ok (.getfield 52, 3) := by decide +kernel
theorem dX2_renewStamps_55 : decode cX2_renewStamps 55 = .ok (.putfield 29, 3) := by decide +kernel
theorem dX2_renewStamps_58 : decode cX2_renewStamps 58 = .ok (.iconst 0, 1) := by decide +kernel
theorem dX2_renewStamps_59 : decode cX2_renewStamps 59 = .ok (.istore 5, 2) := by decide +kernel
theorem dX2_renewStamps_61 : decode cX2_renewStamps 61 = .ok (.iload 5, 2) := by decide +kernel
theorem dX2_renewStamps_63 : decode cX2_renewStamps 63 = .ok (.aload_n 0, 1) := by decide +kernel
theorem dX2_renewStamps_64 : decode cX2_renewStamps 64 = .ok (.getfield 29, 3) := by decide +kernel
theorem dX2_renewStamps_67 : decode cX2_renewStamps 67 = .ok (.if_icmp .ge 55, 3) := by decide +kernel
theorem dX2_renewStamps_70 : decode cX2_renewStamps 70 = .ok (.aload_n 2, 1) := by decide +kernel
theorem dX2_renewStamps_71 : decode cX2_renewStamps 71 = .ok (.aload_n 2, 1) := by decide +kernel
theorem dX2_renewStamps_72 : decode cX2_renewStamps 72 = .ok (.aload_n 1, 1) := by decide +kernel
theorem dX2_renewStamps_73 : decode cX2_renewStamps 73 = .ok (.iload 5, 2) := by decide +kernel
theorem dX2_renewStamps_75 : decode cX2_renewStamps 75 = .ok (.invokevirtual 55, 3) := by decide +kernel
theorem dX2_renewStamps_78 : decode cX2_renewStamps 78 = .ok (.invokevirtual 59, 3) := by decide +kernel
theorem dX2_renewStamps_81 : decode cX2_renewStamps 81 = .ok (.iload 4, 2) := by decide +kernel
theorem dX2_renewStamps_83 : decode cX2_renewStamps 83 = .ok (.invokestatic 62, 3) := by decide +kernel
theorem dX2_renewStamps_86 : decode cX2_renewStamps 86 = .ok (.istore 6, 2) := by decide +kernel
theorem dX2_renewStamps_88 : decode cX2_renewStamps 88 = .ok (.aload_n 0, 1) := by decide +kernel
theorem dX2_renewStamps_89 : decode cX2_renewStamps 89 = .ok (.getfield 9, 3) := by decide +kernel
theorem dX2_renewStamps_92 : decode cX2_renewStamps 92 = .ok (.iload 5, 2) := by decide +kernel
theorem dX2_renewStamps_94 : decode cX2_renewStamps 94 = .ok (.ldc2_w 66, 3) := by decide +kernel
theorem dX2_renewStamps_97 : decode cX2_renewStamps 97 = .ok (.aload_n 1, 1) := by decide +kernel
theorem dX2_renewStamps_98 : decode cX2_renewStamps 98 = .ok (.iload 5, 2) := by decide +kernel
theorem dX2_renewStamps_100 : decode cX2_renewStamps 100 = .ok (.invokevirtual 68, 3) := by decide +kernel
theorem dX2_renewStamps_103 : decode cX2_renewStamps 103 = .ok (.i2l, 1) := by decide +kernel
theorem dX2_renewStamps_104 : decode cX2_renewStamps 104 = .ok (.lmul, 1) := by decide +kernel
theorem dX2_renewStamps_105 : decode cX2_renewStamps 105 = .ok (.aload_n 0, 1) := by decide +kernel
theorem dX2_renewStamps_106 : decode cX2_renewStamps 106 = .ok (.getfield 33, 3) := by decide +kernel
theorem dX2_renewStamps_109 : decode cX2_renewStamps 109 = .ok (.i2l, 1) := by decide +kernel
theorem dX2_renewStamps_110 : decode cX2_renewStamps 110 = .ok (.lmul, 1) := by decide +kernel
theorem dX2_renewStamps_111 : decode cX2_renewStamps 111 = .ok (.iload 6, 2) := by decide +kernel
theorem dX2_renewStamps_113 : decode cX2_renewStamps 113 = .ok (.i2l, 1) := by decide +kernel
theorem dX2_renewStamps_114 : decode cX2_renewStamps 114 = .ok (.ladd, 1) := by decide +kernel
theorem dX2_renewStamps_115 : decode cX2_renewStamps 115 = .ok (.lastore, 1) := by decide +kernel
theorem dX2_renewStamps_116 : decode cX2_renewStamps 116 = .ok (.iinc 5 1, 3) := by decide +kernel
theorem dX2_renewStamps_119 : decode cX2_renewStamps 119 = .ok (.goto (-58), 3) := by decide +kernel
theorem dX2_renewStamps_122 : decode cX2_renewStamps 122 = .ok (.return_, 1) := by decide +kernel
theorem dX2_middleOf_0 : decode cX2_middleOf 0 = .ok (.iload_n 2, 1) := by decide +kernel
theorem dX2_middleOf_1 : decode cX2_middleOf 1 = .ok (.iconst 2, 1) := by decide +kernel
theorem dX2_middleOf_2 : decode cX2_middleOf 2 = .ok (.if_icmp .ne 16, 3) := by decide +kernel
theorem dX2_middleOf_5 : decode cX2_middleOf 5 = .ok (.aload_n 0, 1) := by decide +kernel
theorem dX2_middleOf_6 : decode cX2_middleOf 6 = .ok (.getfield 71, 3) := by decide +kernel
theorem dX2_middleOf_9 : decode cX2_middleOf 9 = .ok (.iload_n 1, 1) := by decide +kernel
theorem dX2_middleOf_10 : decode cX2_middleOf 10 = .ok (.iaload, 1) := by decide +kernel
theorem dX2_middleOf_11 : decode cX2_middleOf 11 = .ok (.aload_n 0, 1) := by decide +kernel
theorem dX2_middleOf_12 : decode cX2_middleOf 12 = .ok (.iload_n 1, 1) := by decide +kernel
theorem dX2_middleOf_13 : decode cX2_middleOf 13 = .ok (.invokevirtual 74, 3) := by decide +kernel
theorem dX2_middleOf_16 : decode cX2_middleOf 16 = .ok (.iadd, 1) := by decide +kernel
theorem dX2_middleOf_17 : decode cX2_middleOf 17 = .ok (.ireturn, 1) := by decide +kernel
theorem dX2_middleOf_18 : decode cX2_middleOf 18 = .ok (.iload_n 2, 1) := by decide +kernel
theorem dX2_middleOf_19 : decode cX2_middleOf 19 = .ok (.iconst 1, 1) := by decide +kernel
theorem dX2_middleOf_20 : decode cX2_middleOf 20 = .ok (.if_icmp .ne 20, 3) := by decide +kernel
theorem dX2_middleOf_23 : decode cX2_middleOf 23 = .ok (.iconst 2, 1) := by decide +kernel
theorem dX2_middleOf_24 : decode cX2_middleOf 24 = .ok (.aload_n 0, 1) := by decide +kernel
theorem dX2_middleOf_25 : decode cX2_middleOf 25 = .ok (.iload_n 1, 1) := by decide +kernel
theorem dX2_middleOf_26 : decode cX2_middleOf 26 = .ok (.invokevirtual 77, 3) := by decide +kernel
theorem dX2_middleOf_29 : decode cX2_middleOf 29 = .ok (.imul, 1) := by decide +kernel
theorem dX2_middleOf_30 : decode cX2_middleOf 30 = .ok (.aload_n 0, 1) := by decide +kernel
theorem dX2_middleOf_31 : decode cX2_middleOf 31 = .ok (.getfield 80, 3) := by decide +kernel
theorem dX2_middleOf_34 : decode cX2_middleOf 34 = .ok (.iload_n 1, 1) := by decide +kernel
theorem dX2_middleOf_35 : decode cX2_middleOf 35 = .ok (.iaload, 1) := by decide +kernel
theorem dX2_middleOf_36 : decode cX2_middleOf 36 = .ok (.iadd, 1) := by decide +kernel
theorem dX2_middleOf_37 : decode cX2_middleOf 37 = .ok (.goto 8, 3) := by decide +kernel
theorem dX2_middleOf_40 : decode cX2_middleOf 40 = .ok (.iconst 2, 1) := by decide +kernel
theorem dX2_middleOf_41 : decode cX2_middleOf 41 = .ok (.iload_n 1, 1) := by decide +kernel
theorem dX2_middleOf_42 : decode cX2_middleOf 42 = .ok (.imul, 1) := by decide +kernel
theorem dX2_middleOf_43 : decode cX2_middleOf 43 = .ok (.iconst 1, 1) := by decide +kernel
theorem dX2_middleOf_44 : decode cX2_middleOf 44 = .ok (.iadd, 1) := by decide +kernel
theorem dX2_middleOf_45 : decode cX2_middleOf 45 = .ok (.istore_n 3, 1) := by decide +kernel
theorem dX2_middleOf_46 : decode cX2_middleOf 46 = .ok (.bipush 30, 2) := by decide +kernel
theorem dX2_middleOf_48 : decode cX2_middleOf 48 = .ok (.iload_n 3, 1) := by decide +kernel
theorem dX2_middleOf_49 : decode cX2_middleOf 49 = .ok (.imul, 1) := by decide +kernel
theorem dX2_middleOf_50 : decode cX2_middleOf 50 = .ok (.ireturn, 1) := by decide +kernel
theorem dX2_renewPlaces_0 : decode cX2_renewPlaces 0 = .ok (.aload_n 0, 1) := by decide +kernel
theorem dX2_renewPlaces_1 : decode cX2_renewPlaces 1 = .ok (.iload_n 1, 1) := by decide +kernel
theorem dX2_renewPlaces_2 : decode cX2_renewPlaces 2 = .ok (.ifCond .le 14, 3) := by decide +kernel
theorem dX2_renewPlaces_5 : decode cX2_renewPlaces 5 = .ok (.iload_n 1, 1) := by decide +kernel
theorem dX2_renewPlaces_6 : decode cX2_renewPlaces 6 = .ok (.i2l, 1) := by decide +kernel
theorem dX2_renewPlaces_7 : decode cX2_renewPlaces 7 = .ok (.aload_n 0, 1) := by decide +kernel
theorem dX2_renewPlaces_8 : decode cX2_renewPlaces 8 = .ok (.getfield 33, 3) := by decide +kernel
theorem dX2_renewPlaces_11 : decode cX2_renewPlaces 11 = .ok (.i2l, 1) := by decide +kernel
theorem dX2_renewPlaces_12 : decode cX2_renewPlaces 12 = .ok (.lmul, 1) := by decide +kernel
theorem dX2_renewPlaces_13 : decode cX2_renewPlaces 13 = .ok (.goto 7, 3) := by decide +kernel
theorem dX2_renewPlaces_16 : decode cX2_renewPlaces 16 = .ok (.aload_n 0, 1) := by decide +kernel
theorem dX2_renewPlaces_17 : decode cX2_renewPlaces 17 = .ok (.invokevirtual 83, 3) := by decide +kernel
theorem dX2_renewPlaces_20 : decode cX2_renewPlaces 20 = .ok (.putfield 36, 3) := by decide +kernel
theorem dX2_renewPlaces_23 : decode cX2_renewPlaces 23 = .ok (.aload_n 0, 1) := by decide +kernel
theorem dX2_renewPlaces_24 : decode cX2_renewPlaces 24 = .ok (.iconst 0, 1) := by decide +kernel
theorem dX2_renewPlaces_25 : decode cX2_renewPlaces 25 = .ok (.putfield 40, 3) := by decide +kernel
theorem dX2_renewPlaces_28 : decode cX2_renewPlaces 28 = .ok (.aload_n 0, 1) := by decide +kernel
theorem dX2_renewPlaces_29 : decode cX2_renewPlaces 29 = .ok (.iconst 0, 1) := by decide +kernel
theorem dX2_renewPlaces_30 : decode cX2_renewPlaces 30 = .ok (.putfield 43, 3) := by decide +kernel
theorem dX2_renewPlaces_33 : decode cX2_renewPlaces 33 = .ok (.iconst 0, 1) := by decide +kernel
theorem dX2_renewPlaces_34 : decode cX2_renewPlaces 34 = .ok (.istore_n 3, 1) := by decide +kernel
theorem dX2_renewPlaces_35 : decode cX2_renewPlaces 35 = .ok (.iload_n 3, 1) := by decide +kernel
theorem dX2_renewPlaces_36 : decode cX2_renewPlaces 36 = .ok (.aload_n 0, 1) := by decide +kernel
theorem dX2_renewPlaces_37 : decode cX2_renewPlaces 37 = .ok (.getfield 29, 3) := by decide +kernel
theorem dX2_renewPlaces_40 : decode cX2_renewPlaces 40 = .ok (.if_icmp .ge 45, 3) := by decide +kernel
theorem dX2_renewPlaces_43 : decode cX2_renewPlaces 43 = .ok (.aload_n 0, 1) := by decide +kernel
theorem dX2_renewPlaces_44 : decode cX2_renewPlaces 44 = .ok (.getfield 23, 3) := by decide +kernel
theorem dX2_renewPlaces_47 : decode cX2_renewPlaces 47 = .ok (.iload_n 3, 1) := by decide +kernel
theorem dX2_renewPlaces_48 : decode cX2_renewPlaces 48 = .ok (.iload_n 2, 1) := by decide +kernel
theorem dX2_renewPlaces_49 : decode cX2_renewPlaces 49 = .ok (.iconst 1, 1) := by decide +kernel
theorem dX2_renewPlaces_50 : decode cX2_renewPlaces 50 = .ok (.if_icmp .ne 12, 3) := by decide +kernel
theorem dX2_renewPlaces_53 : decode cX2_renewPlaces 53 = .ok (.iload_n 3, 1) := by decide +kernel
theorem dX2_renewPlaces_54 : decode cX2_renewPlaces 54 = .ok (.aload_n 0, 1) := by decide +kernel
theorem dX2_renewPlaces_55 : decode cX2_renewPlaces 55 = .ok (.getfield 40, 3) := by decide +kernel
theorem dX2_renewPlaces_58 : decode cX2_renewPlaces 58 = .ok (.iadd, 1) := by decide +kernel
theorem dX2_renewPlaces_59 : decode cX2_renewPlaces 59 = .ok (.goto 4, 3) := by decide +kernel
theorem dX2_renewPlaces_62 : decode cX2_renewPlaces 62 = .ok (.iload_n 3, 1) := by decide +kernel
theorem dX2_renewPlaces_63 : decode cX2_renewPlaces 63 = .ok (.iastore, 1) := by decide +kernel
theorem dX2_renewPlaces_64 : decode cX2_renewPlaces 64 = .ok (.iload_n 3, 1) := by decide +kernel
theorem dX2_renewPlaces_65 : decode cX2_renewPlaces 65 = .ok (.iconst 1, 1) := by decide +kernel
theorem dX2_renewPlaces_66 : decode cX2_renewPlaces 66 = .ok (.iadd, 1) := by decide +kernel
theorem dX2_renewPlaces_67 : decode cX2_renewPlaces 67 = .ok (.aload_n 0, 1) := by decide +kernel
theorem dX2_renewPlaces_68 : decode cX2_renewPlaces 68 = .ok (.getfield 29, 3) := by decide +kernel
theorem dX2_renewPlaces_71 : decode cX2_renewPlaces 71 = .ok (.if_icmp .ge 8, 3) := by decide +kernel
theorem dX2_renewPlaces_74 : decode cX2_renewPlaces 74 = .ok (.aload_n 0, 1) := by decide +kernel
theorem dX2_renewPlaces_75 : decode cX2_renewPlaces 75 = .ok (.iload_n 3, 1) := by decide +kernel
theorem dX2_renewPlaces_76 : decode cX2_renewPlaces 76 = .ok (.invokevirtual 87, 3) := by decide +kernel
theorem dX2_renewPlaces_79 : decode cX2_renewPlaces 79 = .ok (.iinc 3 1, 3) := by decide +kernel
theorem dX2_renewPlaces_82 : decode cX2_renewPlaces 82 = .ok (.goto (-47), 3) := by decide +kernel
theorem dX2_renewPlaces_85 : decode cX2_renewPlaces 85 = .ok (.return_, 1) := by decide +kernel
theorem dX2_judgeGap_0 : decode cX2_judgeGap 0 = .ok (.lconst 0, 1) := by decide +kernel
theorem dX2_judgeGap_1 : decode cX2_judgeGap 1 = .ok (.lstore_n 2, 1) := by decide +kernel
theorem dX2_judgeGap_2 : decode cX2_judgeGap 2 = .ok (.aload_n 0, 1) := by decide +kernel
theorem dX2_judgeGap_3 : decode cX2_judgeGap 3 = .ok (.getfield 36, 3) := by decide +kernel
theorem dX2_judgeGap_6 : decode cX2_judgeGap 6 = .ok (.lconst 0, 1) := by decide +kernel
theorem dX2_judgeGap_7 : decode cX2_judgeGap 7 = .ok (.lcmp, 1) := by decide +kernel
theorem dX2_judgeGap_8 : decode cX2_judgeGap 8 = .ok (.ifCond .le 29, 3) := by decide +kernel
theorem dX2_judgeGap_11 : decode cX2_judgeGap 11 = .ok (.ldc2_w 91, 3) := by decide +kernel
theorem dX2_judgeGap_14 : decode cX2_judgeGap 14 = .ok (.aload_n 0, 1) := by decide +kernel
theorem dX2_judgeGap_15 : decode cX2_judgeGap 15 = .ok (.iload_n 1, 1) := by decide +kernel
theorem dX2_judgeGap_16 : decode cX2_judgeGap 16 = .ok (.invokevirtual 93, 3) := by decide +kernel
theorem dX2_judgeGap_19 : decode cX2_judgeGap 19 = .ok (.lmul, 1) := by decide +kernel
theorem dX2_judgeGap_20 : decode cX2_judgeGap 20 = .ok (.aload_n 0, 1) := by decide +kernel
theorem dX2_judgeGap_21 : decode cX2_judgeGap 21 = .ok (.getfield 36, 3) := by decide +kernel
theorem dX2_judgeGap_24 : decode cX2_judgeGap 24 = .ok (.ladd, 1) := by decide +kernel
theorem dX2_judgeGap_25 : decode cX2_judgeGap 25 = .ok (.ldc2_w 91, 3) := by decide +kernel
theorem dX2_judgeGap_28 : decode cX2_judgeGap 28 = .ok (.aload_n 0, 1) := by decide +kernel
theorem dX2_judgeGap_29 : decode cX2_judgeGap 29 = .ok (.getfield 36, 3) := by decide +kernel
theorem dX2_judgeGap_32 : decode cX2_judgeGap 32 = .ok (.lmul, 1) := by decide +kernel
theorem dX2_judgeGap_33 : decode cX2_judgeGap 33 = .ok (.ldiv, 1) := by decide +kernel
theorem dX2_judgeGap_34 : decode cX2_judgeGap 34 = .ok (.lconst 1, 1) := by decide +kernel
theorem dX2_judgeGap_35 : decode cX2_judgeGap 35 = .ok (.lsub, 1) := by decide +kernel
theorem dX2_judgeGap_36 : decode cX2_judgeGap 36 = .ok (.lstore_n 2, 1) := by decide +kernel
theorem dX2_judgeGap_37 : decode cX2_judgeGap 37 = .ok (.aload_n 0, 1) := by decide +kernel
theorem dX2_judgeGap_38 : decode cX2_judgeGap 38 = .ok (.getfield 19, 3) := by decide +kernel
theorem dX2_judgeGap_41 : decode cX2_judgeGap 41 = .ok (.iload_n 1, 1) := by decide +kernel
theorem dX2_judgeGap_42 : decode cX2_judgeGap 42 = .ok (.lload_n 2, 1) := by decide +kernel
theorem dX2_judgeGap_43 : decode cX2_judgeGap 43 = .ok (.ldc2_w 97, 3) := by decide +kernel
theorem dX2_judgeGap_46 : decode cX2_judgeGap 46 = .ok (.lcmp, 1) := by decide +kernel
theorem dX2_judgeGap_47 : decode cX2_judgeGap 47 = .ok (.ifCond .le 7, 3) := by decide +kernel
theorem dX2_judgeGap_50 : decode cX2_judgeGap 50 = .ok (.iconst 1, 1) := by decide +kernel
theorem dX2_judgeGap_51 : decode cX2_judgeGap 51 = .ok (.goto 4, 3) := by decide +kernel
theorem dX2_judgeGap_54 : decode cX2_judgeGap 54 = .ok (.iconst 0, 1) := by decide +kernel
theorem dX2_judgeGap_55 : decode cX2_judgeGap 55 = .ok (.bastore, 1) := by decide +kernel
theorem dX2_judgeGap_56 : decode cX2_judgeGap 56 = .ok (.aload_n 0, 1) := by decide +kernel
theorem dX2_judgeGap_57 : decode cX2_judgeGap 57 = .ok (.getfield 15, 3) := by decide +kernel
theorem dX2_judgeGap_60 : decode cX2_judgeGap 60 = .ok (.iload_n 1, 1) := by decide +kernel
theorem dX2_judgeGap_61 : decode cX2_judgeGap 61 = .ok (.lconst 0, 1) := by decide +kernel
theorem dX2_judgeGap_62 : decode cX2_judgeGap 62 = .ok (.ldc2_w 97, 3) := by decide +kernel
theorem dX2_judgeGap_65 : decode cX2_judgeGap 65 = .ok (.lload_n 2, 1) := by decide +kernel
theorem dX2_judgeGap_66 : decode cX2_judgeGap 66 = .ok (.invokestatic 99, 3) := by decide +kernel
theorem dX2_judgeGap_69 : decode cX2_judgeGap 69 = .ok (.invokestatic 105, 3) := by decide +kernel
theorem dX2_judgeGap_72 : decode cX2_judgeGap 72 = .ok (.l2i, 1) := by decide +kernel
theorem dX2_judgeGap_73 : decode cX2_judgeGap 73 = .ok (.iastore, 1) := by decide +kernel
theorem dX2_judgeGap_74 : decode cX2_judgeGap 74 = .ok (.aload_n 0, 1) := by decide +kernel
theorem dX2_judgeGap_75 : decode cX2_judgeGap 75 = .ok (.dup, 1) := by decide +kernel
theorem dX2_judgeGap_76 : decode cX2_judgeGap 76 = .ok (.getfield 40, 3) := by decide +kernel
theorem dX2_judgeGap_79 : decode cX2_judgeGap 79 = .ok (.aload_n 0, 1) := by decide +kernel
theorem dX2_judgeGap_80 : decode cX2_judgeGap 80 = .ok (.getfield 15, 3) := by decide +kernel
theorem dX2_judgeGap_83 : decode cX2_judgeGap 83 = .ok (.iload_n 1, 1) := by decide +kernel
theorem dX2_judgeGap_84 : decode cX2_judgeGap 84 = .ok (.iaload, 1) := by decide +kernel
theorem dX2_judgeGap_85 : decode cX2_judgeGap 85 = .ok (.iadd, 1) := by decide +kernel
theorem dX2_judgeGap_86 : decode cX2_judgeGap 86 = .ok (.putfield 40, 3) := by decide +kernel
theorem dX2_judgeGap_89 : decode cX2_judgeGap 89 = .ok (.aload_n 0, 1) := by decide +kernel
theorem dX2_judgeGap_90 : decode cX2_judgeGap 90 = .ok (.dup, 1) := by decide +kernel
theorem dX2_judgeGap_91 : decode cX2_judgeGap 91 = .ok (.getfield 43, 3) := by decide +kernel
theorem dX2_judgeGap_94 : decode cX2_judgeGap 94 = .ok (.aload_n 0, 1) := by decide +kernel
theorem dX2_judgeGap_95 : decode cX2_judgeGap 95 = .ok (.getfield 19, 3) := by decide +kernel
theorem dX2_judgeGap_98 : decode cX2_judgeGap 98 = .ok (.iload_n 1, 1) := by decide +kernel
theorem dX2_judgeGap_99 : decode cX2_judgeGap 99 = .ok (.baload, 1) := by decide +kernel
theorem dX2_judgeGap_100 : decode cX2_judgeGap 100 = .ok (.ifCond .eq 7, 3) := by decide +kernel
theorem dX2_judgeGap_103 : decode cX2_judgeGap 103 = .ok (.iconst 1, 1) := by decide +kernel
theorem dX2_judgeGap_104 : decode cX2_judgeGap 104 = .ok (.goto 4, 3) := by decide +kernel
theorem dX2_judgeGap_107 : decode cX2_judgeGap 107 = .ok (.iconst 0, 1) := by decide +kernel
theorem dX2_judgeGap_108 : decode cX2_judgeGap 108 = .ok (.iadd, 1) := by decide +kernel
theorem dX2_judgeGap_109 : decode cX2_judgeGap 109 = .ok (.putfield 43, 3) := by decide +kernel
theorem dX2_judgeGap_112 : decode cX2_judgeGap 112 = .ok (.return_, 1) := by decide +kernel
theorem dX2_gapBehind_0 : decode cX2_gapBehind 0 = .ok (.aload_n 0, 1) := by decide +kernel
theorem dX2_gapBehind_1 : decode cX2_gapBehind 1 = .ok (.getfield 9, 3) := by decide +kernel
theorem dX2_gapBehind_4 : decode cX2_gapBehind 4 = .ok (.iload_n 1, 1) := by decide +kernel
theorem dX2_gapBehind_5 : decode cX2_gapBehind 5 = .ok (.iconst 1, 1) := by decide +kernel
theorem dX2_gapBehind_6 : decode cX2_gapBehind 6 = .ok (.iadd, 1) := by decide +kernel
theorem dX2_gapBehind_7 : decode cX2_gapBehind 7 = .ok (.laload, 1) := by decide +kernel
theorem dX2_gapBehind_8 : decode cX2_gapBehind 8 = .ok (.aload_n 0, 1) := by decide +kernel
theorem dX2_gapBehind_9 : decode cX2_gapBehind 9 = .ok (.getfield 9, 3) := by decide +kernel
theorem dX2_gapBehind_12 : decode cX2_gapBehind 12 = .ok (.iload_n 1, 1) := by decide +kernel
theorem dX2_gapBehind_13 : decode cX2_gapBehind 13 = .ok (.laload, 1) := by decide +kernel
theorem dX2_gapBehind_14 : decode cX2_gapBehind 14 = .ok (.lsub, 1) := by decide +kernel
theorem dX2_gapBehind_15 : decode cX2_gapBehind 15 = .ok (.lreturn, 1) := by decide +kernel
theorem dX2_medianGap_0 : decode cX2_medianGap 0 = .ok (.aload_n 0, 1) := by decide +kernel
theorem dX2_medianGap_1 : decode cX2_medianGap 1 = .ok (.getfield 29, 3) := by decide +kernel
theorem dX2_medianGap_4 : decode cX2_medianGap 4 = .ok (.iconst 1, 1) := by decide +kernel
theorem dX2_medianGap_5 : decode cX2_medianGap 5 = .ok (.isub, 1) := by decide +kernel
theorem dX2_medianGap_6 : decode cX2_medianGap 6 = .ok (.istore_n 1, 1) := by decide +kernel
theorem dX2_medianGap_7 : decode cX2_medianGap 7 = .ok (.iload_n 1, 1) := by decide +kernel
theorem dX2_medianGap_8 : decode cX2_medianGap 8 = .ok (.iconst 1, 1) := by decide +kernel
theorem dX2_medianGap_9 : decode cX2_medianGap 9 = .ok (.if_icmp .ge 5, 3) := by decide +kernel
theorem dX2_medianGap_12 : decode cX2_medianGap 12 = .ok (.lconst 0, 1) := by decide +kernel
theorem dX2_medianGap_13 : decode cX2_medianGap 13 = .ok (.lreturn, 1) := by decide +kernel
theorem dX2_medianGap_14 : decode cX2_medianGap 14 = .ok (.iconst 0, 1) := by decide +kernel
theorem dX2_medianGap_15 : decode cX2_medianGap 15 = .ok (.istore_n 2, 1) := by decide +kernel
theorem dX2_medianGap_16 : decode cX2_medianGap 16 = .ok (.iload_n 2, 1) := by decide +kernel
theorem dX2_medianGap_17 : decode cX2_medianGap 17 = .ok (.iload_n 1, 1) := by decide +kernel
theorem dX2_medianGap_18 : decode cX2_medianGap 18 = .ok (.if_icmp .ge 67, 3) := by decide +kernel
theorem dX2_medianGap_21 : decode cX2_medianGap 21 = .ok (.aload_n 0, 1) := by decide +kernel
theorem dX2_medianGap_22 : decode cX2_medianGap 22 = .ok (.iload_n 2, 1) := by decide +kernel
theorem dX2_medianGap_23 : decode cX2_medianGap 23 = .ok (.invokevirtual 93, 3) := by decide +kernel
theorem dX2_medianGap_26 : decode cX2_medianGap 26 = .ok (.lstore_n 3, 1) := by decide +kernel
theorem dX2_medianGap_27 : decode cX2_medianGap 27 = .ok (.iload_n 2, 1) := by decide +kernel
theorem dX2_medianGap_28 : decode cX2_medianGap 28 = .ok (.istore 5, 2) := by decide +kernel
theorem dX2_medianGap_30 : decode cX2_medianGap 30 = .ok (.iload 5, 2) := by decide +kernel
theorem dX2_medianGap_32 : decode cX2_medianGap 32 = .ok (.ifCond .le 39, 3) := by decide +kernel
theorem dX2_medianGap_35 : decode cX2_medianGap 35 = .ok (.aload_n 0, 1) := by decide +kernel
theorem dX2_medianGap_36 : decode cX2_medianGap 36 = .ok (.getfield 26, 3) := by decide +kernel
theorem dX2_medianGap_39 : decode cX2_medianGap 39 = .ok (.iload 5, 2) := by decide +kernel
theorem dX2_medianGap_41 : decode cX2_medianGap 41 = .ok (.iconst 1, 1) := by decide +kernel
theorem dX2_medianGap_42 : decode cX2_medianGap 42 = .ok (.isub, 1) := by decide +kernel
theorem dX2_medianGap_43 : decode cX2_medianGap 43 = .ok (.laload, 1) := by decide +kernel
theorem dX2_medianGap_44 : decode cX2_medianGap 44 = .ok (.lload_n 3, 1) := by decide +kernel
theorem dX2_medianGap_45 : decode cX2_medianGap 45 = .ok (.lcmp, 1) := by decide +kernel
theorem dX2_medianGap_46 : decode cX2_medianGap 46 = .ok (.ifCond .le 25, 3) := by decide +kernel
theorem dX2_medianGap_49 : decode cX2_medianGap 49 = .ok (.aload_n 0, 1) := by decide +kernel
theorem dX2_medianGap_50 : decode cX2_medianGap 50 = .ok (.getfield 26, 3) := by decide +kernel
theorem dX2_medianGap_53 : decode cX2_medianGap 53 = .ok (.iload 5, 2) := by decide +kernel
theorem dX2_medianGap_55 : decode cX2_medianGap 55 = .ok (.aload_n 0, 1) := by decide +kernel
theorem dX2_medianGap_56 : decode cX2_medianGap 56 = .ok (.getfield 26, 3) := by decide +kernel
theorem dX2_medianGap_59 : decode cX2_medianGap 59 = .ok (.iload 5, 2) := by decide +kernel
theorem dX2_medianGap_61 : decode cX2_medianGap 61 = .ok (.iconst 1, 1) := by decide +kernel
theorem dX2_medianGap_62 : decode cX2_medianGap 62 = .ok (.isub, 1) := by decide +kernel
theorem dX2_medianGap_63 : decode cX2_medianGap 63 = .ok (.laload, 1) := by decide +kernel
theorem dX2_medianGap_64 : decode cX2_medianGap 64 = .ok (.lastore, 1) := by decide +kernel
theorem dX2_medianGap_65 : decode cX2_medianGap 65 = .ok (.iinc 5 (-1), 3) := by decide +kernel
theorem dX2_medianGap_68 : decode cX2_medianGap 68 = .ok (.goto (-38), 3) := by decide +kernel
theorem dX2_medianGap_71 : decode cX2_medianGap 71 = .ok (.aload_n 0, 1) := by decide +kernel
theorem dX2_medianGap_72 : decode cX2_medianGap 72 = .ok (.getfield 26, 3) := by decide +kernel
theorem dX2_medianGap_75 : decode cX2_medianGap 75 = .ok (.iload 5, 2) := by decide +kernel
theorem dX2_medianGap_77 : decode cX2_medianGap 77 = .ok (.lload_n 3, 1) := by decide +kernel
theorem dX2_medianGap_78 : decode cX2_medianGap 78 = .ok (.lastore, 1) := by decide +kernel
theorem dX2_medianGap_79 : decode cX2_medianGap 79 = .ok (.iinc 2 1, 3) := by decide +kernel
theorem dX2_medianGap_82 : decode cX2_medianGap 82 = .ok (.goto (-66), 3) := by decide +kernel
theorem dX2_medianGap_85 : decode cX2_medianGap 85 = .ok (.aload_n 0, 1) := by decide +kernel
theorem dX2_medianGap_86 : decode cX2_medianGap 86 = .ok (.getfield 26, 3) := by decide +kernel
theorem dX2_medianGap_89 : decode cX2_medianGap 89 = .ok (.iload_n 1, 1) := by decide +kernel
theorem dX2_medianGap_90 : decode cX2_medianGap 90 = .ok (.iconst 1, 1) := by decide +kernel
theorem dX2_medianGap_91 : decode cX2_medianGap 91 = .ok (.isub, 1) := by decide +kernel
theorem dX2_medianGap_92 : decode cX2_medianGap 92 = .ok (.iconst 2, 1) := by decide +kernel
theorem dX2_medianGap_93 : decode cX2_medianGap 93 = .ok (.idiv, 1) := by decide +kernel
theorem dX2_medianGap_94 : decode cX2_medianGap 94 = .ok (.laload, 1) := by decide +kernel
theorem dX2_medianGap_95 : decode cX2_medianGap 95 = .ok (.lreturn, 1) := by decide +kernel
theorem dX2_periods_0 : decode cX2_periods 0 = .ok (.aload_n 0, 1) := by decide +kernel
theorem dX2_periods_1 : decode cX2_periods 1 = .ok (.getfield 23, 3) := by decide +kernel
theorem dX2_periods_4 : decode cX2_periods 4 = .ok (.iload_n 2, 1) := by decide +kernel
theorem dX2_periods_5 : decode cX2_periods 5 = .ok (.iaload, 1) := by decide +kernel
theorem dX2_periods_6 : decode cX2_periods 6 = .ok (.aload_n 0, 1) := by decide +kernel
theorem dX2_periods_7 : decode cX2_periods 7 = .ok (.getfield 23, 3) := by decide +kernel
theorem dX2_periods_10 : decode cX2_periods 10 = .ok (.iload_n 1, 1) := by decide +kernel
theorem dX2_periods_11 : decode cX2_periods 11 = .ok (.iaload, 1) := by decide +kernel
theorem dX2_periods_12 : decode cX2_periods 12 = .ok (.isub, 1) := by decide +kernel
theorem dX2_periods_13 : decode cX2_periods 13 = .ok (.ireturn, 1) := by decide +kernel
theorem dX2_sumOfPlaces_0 : decode cX2_sumOfPlaces 0 = .ok (.lconst 0, 1) := by decide +kernel
theorem dX2_sumOfPlaces_1 : decode cX2_sumOfPlaces 1 = .ok (.lstore_n 3, 1) := by decide +kernel
theorem dX2_sumOfPlaces_2 : decode cX2_sumOfPlaces 2 = .ok (.iload_n 1, 1) := by decide +kernel
theorem dX2_sumOfPlaces_3 : decode cX2_sumOfPlaces 3 = .ok (.istore 5, 2) := by decide +kernel
theorem dX2_sumOfPlaces_5 : decode cX2_sumOfPlaces 5 = .ok (.iload 5, 2) := by decide +kernel
theorem dX2_sumOfPlaces_7 : decode cX2_sumOfPlaces 7 = .ok (.iload_n 2, 1) := by decide +kernel
theorem dX2_sumOfPlaces_8 : decode cX2_sumOfPlaces 8 = .ok (.if_icmp .gt 20, 3) := by decide +kernel
theorem dX2_sumOfPlaces_11 : decode cX2_sumOfPlaces 11 = .ok (.lload_n 3, 1) := by decide +kernel
theorem dX2_sumOfPlaces_12 : decode cX2_sumOfPlaces 12 = .ok (.aload_n 0, 1) := by decide +kernel
theorem dX2_sumOfPlaces_13 : decode cX2_sumOfPlaces 13 = .ok (.getfield 23, 3) := by decide +kernel
theorem dX2_sumOfPlaces_16 : decode cX2_sumOfPlaces 16 = .ok (.iload 5, 2) := by decide +kernel
theorem dX2_sumOfPlaces_18 : decode cX2_sumOfPlaces 18 = .ok (.iaload, 1) := by decide +kernel
theorem dX2_sumOfPlaces_19 : decode cX2_sumOfPlaces 19 = .ok (.i2l, 1) := by decide +kernel
theorem dX2_sumOfPlaces_20 : decode cX2_sumOfPlaces 20 = .ok (.ladd, 1) := by decide +kernel
theorem dX2_sumOfPlaces_21 : decode cX2_sumOfPlaces 21 = .ok (.lstore_n 3, 1) := by decide +kernel
theorem dX2_sumOfPlaces_22 : decode cX2_sumOfPlaces 22 = .ok (.iinc 5 1, 3) := by decide +kernel
theorem dX2_sumOfPlaces_25 : decode cX2_sumOfPlaces 25 = .ok (.goto (-20), 3) := by decide +kernel
theorem dX2_sumOfPlaces_28 : decode cX2_sumOfPlaces 28 = .ok (.lload_n 3, 1) := by decide +kernel
theorem dX2_sumOfPlaces_29 : decode cX2_sumOfPlaces 29 = .ok (.lreturn, 1) := by decide +kernel
theorem dX2_sumOfStamps_0 : decode cX2_sumOfStamps 0 = .ok (.lconst 0, 1) := by decide +kernel
theorem dX2_sumOfStamps_1 : decode cX2_sumOfStamps 1 = .ok (.lstore_n 3, 1) := by decide +kernel
theorem dX2_sumOfStamps_2 : decode cX2_sumOfStamps 2 = .ok (.iload_n 1, 1) := by decide +kernel
theorem dX2_sumOfStamps_3 : decode cX2_sumOfStamps 3 = .ok (.istore 5, 2) := by decide +kernel
theorem dX2_sumOfStamps_5 : decode cX2_sumOfStamps 5 = .ok (.iload 5, 2) := by decide +kernel
theorem dX2_sumOfStamps_7 : decode cX2_sumOfStamps 7 = .ok (.iload_n 2, 1) := by decide +kernel
theorem dX2_sumOfStamps_8 : decode cX2_sumOfStamps 8 = .ok (.if_icmp .gt 19, 3) := by decide +kernel
theorem dX2_sumOfStamps_11 : decode cX2_sumOfStamps 11 = .ok (.lload_n 3, 1) := by decide +kernel
theorem dX2_sumOfStamps_12 : decode cX2_sumOfStamps 12 = .ok (.aload_n 0, 1) := by decide +kernel
theorem dX2_sumOfStamps_13 : decode cX2_sumOfStamps 13 = .ok (.getfield 9, 3) := by decide +kernel
theorem dX2_sumOfStamps_16 : decode cX2_sumOfStamps 16 = .ok (.iload 5, 2) := by decide +kernel
theorem dX2_sumOfStamps_18 : decode cX2_sumOfStamps 18 = .ok (.laload, 1) := by decide +kernel
theorem dX2_sumOfStamps_19 : decode cX2_sumOfStamps 19 = .ok (.ladd, 1) := by decide +kernel
theorem dX2_sumOfStamps_20 : decode cX2_sumOfStamps 20 = .ok (.lstore_n 3, 1) := by decide +kernel
theorem dX2_sumOfStamps_21 : decode cX2_sumOfStamps 21 = .ok (.iinc 5 1, 3) := by decide +kernel
theorem dX2_sumOfStamps_24 : decode cX2_sumOfStamps 24 = .ok (.goto (-19), 3) := by decide +kernel
theorem dX2_sumOfStamps_27 : decode cX2_sumOfStamps 27 = .ok (.lload_n 3, 1) := by decide +kernel
theorem dX2_sumOfStamps_28 : decode cX2_sumOfStamps 28 = .ok (.lreturn, 1) := by decide +kernel
theorem dX2_fitAbove_0 : decode cX2_fitAbove 0 = .ok (.lconst 0, 1) := by decide +kernel
theorem dX2_fitAbove_1 : decode cX2_fitAbove 1 = .ok (.lstore_n 3, 1) := by decide +kernel
theorem dX2_fitAbove_2 : decode cX2_fitAbove 2 = .ok (.iload_n 1, 1) := by decide +kernel
theorem dX2_fitAbove_3 : decode cX2_fitAbove 3 = .ok (.istore 5, 2) := by decide +kernel
theorem dX2_fitAbove_5 : decode cX2_fitAbove 5 = .ok (.iload 5, 2) := by decide +kernel
theorem dX2_fitAbove_7 : decode cX2_fitAbove 7 = .ok (.iload_n 2, 1) := by decide +kernel
theorem dX2_fitAbove_8 : decode cX2_fitAbove 8 = .ok (.if_icmp .gt 28, 3) := by decide +kernel
theorem dX2_fitAbove_11 : decode cX2_fitAbove 11 = .ok (.lload_n 3, 1) := by decide +kernel
theorem dX2_fitAbove_12 : decode cX2_fitAbove 12 = .ok (.aload_n 0, 1) := by decide +kernel
theorem dX2_fitAbove_13 : decode cX2_fitAbove 13 = .ok (.getfield 23, 3) := by decide +kernel
theorem dX2_fitAbove_16 : decode cX2_fitAbove 16 = .ok (.iload 5, 2) := by decide +kernel
theorem dX2_fitAbove_18 : decode cX2_fitAbove 18 = .ok (.iaload, 1) := by decide +kernel
theorem dX2_fitAbove_19 : decode cX2_fitAbove 19 = .ok (.i2l, 1) := by decide +kernel
theorem dX2_fitAbove_20 : decode cX2_fitAbove 20 = .ok (.aload_n 0, 1) := by decide +kernel
theorem dX2_fitAbove_21 : decode cX2_fitAbove 21 = .ok (.getfield 9, 3) := by decide +kernel
theorem dX2_fitAbove_24 : decode cX2_fitAbove 24 = .ok (.iload 5, 2) := by decide +kernel
theorem dX2_fitAbove_26 : decode cX2_fitAbove 26 = .ok (.laload, 1) := by decide +kernel
theorem dX2_fitAbove_27 : decode cX2_fitAbove 27 = .ok (.lmul, 1) := by decide +kernel
theorem dX2_fitAbove_28 : decode cX2_fitAbove 28 = .ok (.ladd, 1) := by decide +kernel
theorem dX2_fitAbove_29 : decode cX2_fitAbove 29 = .ok (.lstore_n 3, 1) := by decide +kernel
theorem dX2_fitAbove_30 : decode cX2_fitAbove 30 = .ok (.iinc 5 1, 3) := by decide +kernel
theorem dX2_fitAbove_33 : decode cX2_fitAbove 33 = .ok (.goto (-28), 3) := by decide +kernel
theorem dX2_fitAbove_36 : decode cX2_fitAbove 36 = .ok (.iload_n 2, 1) := by decide +kernel
theorem dX2_fitAbove_37 : decode cX2_fitAbove 37 = .ok (.iload_n 1, 1) := by decide +kernel
theorem dX2_fitAbove_38 : decode cX2_fitAbove 38 = .ok (.isub, 1) := by decide +kernel
theorem dX2_fitAbove_39 : decode cX2_fitAbove 39 = .ok (.iconst 1, 1) := by decide +kernel
theorem dX2_fitAbove_40 : decode cX2_fitAbove 40 = .ok (.iadd, 1) := by decide +kernel
theorem dX2_fitAbove_41 : decode cX2_fitAbove 41 = .ok (.i2l, 1) := by decide +kernel
theorem dX2_fitAbove_42 : decode cX2_fitAbove 42 = .ok (.lload_n 3, 1) := by decide +kernel
theorem dX2_fitAbove_43 : decode cX2_fitAbove 43 = .ok (.lmul, 1) := by decide +kernel
theorem dX2_fitAbove_44 : decode cX2_fitAbove 44 = .ok (.aload_n 0, 1) := by decide +kernel
theorem dX2_fitAbove_45 : decode cX2_fitAbove 45 = .ok (.iload_n 1, 1) := by decide +kernel
theorem dX2_fitAbove_46 : decode cX2_fitAbove 46 = .ok (.iload_n 2, 1) := by decide +kernel
theorem dX2_fitAbove_47 : decode cX2_fitAbove 47 = .ok (.invokevirtual 108, 3) := by decide +kernel
theorem dX2_fitAbove_50 : decode cX2_fitAbove 50 = .ok (.aload_n 0, 1) := by decide +kernel
theorem dX2_fitAbove_51 : decode cX2_fitAbove 51 = .ok (.iload_n 1, 1) := by decide +kernel
theorem dX2_fitAbove_52 : decode cX2_fitAbove 52 = .ok (.iload_n 2, 1) := by decide +kernel
theorem dX2_fitAbove_53 : decode cX2_fitAbove 53 = .ok (.invokevirtual 112, 3) := by decide +kernel
theorem dX2_fitAbove_56 : decode cX2_fitAbove 56 = .ok (.lmul, 1) := by decide +kernel
theorem dX2_fitAbove_57 : decode cX2_fitAbove 57 = .ok (.lsub, 1) := by decide +kernel
theorem dX2_fitAbove_58 : decode cX2_fitAbove 58 = .ok (.lreturn, 1) := by decide +kernel
theorem dX2_fitBelow_0 : decode cX2_fitBelow 0 = .ok (.lconst 0, 1) := by decide +kernel
theorem dX2_fitBelow_1 : decode cX2_fitBelow 1 = .ok (.lstore_n 3, 1) := by decide +kernel
theorem dX2_fitBelow_2 : decode cX2_fitBelow 2 = .ok (.iload_n 1, 1) := by decide +kernel
theorem dX2_fitBelow_3 : decode cX2_fitBelow 3 = .ok (.istore 5, 2) := by decide +kernel
theorem dX2_fitBelow_5 : decode cX2_fitBelow 5 = .ok (.iload 5, 2) := by decide +kernel
theorem dX2_fitBelow_7 : decode cX2_fitBelow 7 = .ok (.iload_n 2, 1) := by decide +kernel
theorem dX2_fitBelow_8 : decode cX2_fitBelow 8 = .ok (.if_icmp .gt 29, 3) := by decide +kernel
theorem dX2_fitBelow_11 : decode cX2_fitBelow 11 = .ok (.lload_n 3, 1) := by decide +kernel
theorem dX2_fitBelow_12 : decode cX2_fitBelow 12 = .ok (.aload_n 0, 1) := by decide +kernel
theorem dX2_fitBelow_13 : decode cX2_fitBelow 13 = .ok (.getfield 23, 3) := by decide +kernel
theorem dX2_fitBelow_16 : decode cX2_fitBelow 16 = .ok (.iload 5, 2) := by decide +kernel
theorem dX2_fitBelow_18 : decode cX2_fitBelow 18 = .ok (.iaload, 1) := by decide +kernel
theorem dX2_fitBelow_19 : decode cX2_fitBelow 19 = .ok (.i2l, 1) := by decide +kernel
theorem dX2_fitBelow_20 : decode cX2_fitBelow 20 = .ok (.aload_n 0, 1) := by decide +kernel
theorem dX2_fitBelow_21 : decode cX2_fitBelow 21 = .ok (.getfield 23, 3) := by decide +kernel
theorem dX2_fitBelow_24 : decode cX2_fitBelow 24 = .ok (.iload 5, 2) := by decide +kernel
theorem dX2_fitBelow_26 : decode cX2_fitBelow 26 = .ok (.iaload, 1) := by decide +kernel
theorem dX2_fitBelow_27 : decode cX2_fitBelow 27 = .ok (.i2l, 1) := by decide +kernel
theorem dX2_fitBelow_28 : decode cX2_fitBelow 28 = .ok (.lmul, 1) := by decide +kernel
theorem dX2_fitBelow_29 : decode cX2_fitBelow 29 = .ok (.ladd, 1) := by decide +kernel
theorem dX2_fitBelow_30 : decode cX2_fitBelow 30 = .ok (.lstore_n 3, 1) := by decide +kernel
theorem dX2_fitBelow_31 : decode cX2_fitBelow 31 = .ok (.iinc 5 1, 3) := by decide +kernel
theorem dX2_fitBelow_34 : decode cX2_fitBelow 34 = .ok (.goto (-29), 3) := by decide +kernel
theorem dX2_fitBelow_37 : decode cX2_fitBelow 37 = .ok (.aload_n 0, 1) := by decide +kernel
theorem dX2_fitBelow_38 : decode cX2_fitBelow 38 = .ok (.iload_n 1, 1) := by decide +kernel
theorem dX2_fitBelow_39 : decode cX2_fitBelow 39 = .ok (.iload_n 2, 1) := by decide +kernel
theorem dX2_fitBelow_40 : decode cX2_fitBelow 40 = .ok (.invokevirtual 108, 3) := by decide +kernel
theorem dX2_fitBelow_43 : decode cX2_fitBelow 43 = .ok (.lstore 5, 2) := by decide +kernel
theorem dX2_fitBelow_45 : decode cX2_fitBelow 45 = .ok (.iload_n 2, 1) := by decide +kernel
theorem dX2_fitBelow_46 : decode cX2_fitBelow 46 = .ok (.iload_n 1, 1) := by decide +kernel
theorem dX2_fitBelow_47 : decode cX2_fitBelow 47 = .ok (.isub, 1) := by decide +kernel
theorem dX2_fitBelow_48 : decode cX2_fitBelow 48 = .ok (.iconst 1, 1) := by decide +kernel
theorem dX2_fitBelow_49 : decode cX2_fitBelow 49 = .ok (.iadd, 1) := by decide +kernel
theorem dX2_fitBelow_50 : decode cX2_fitBelow 50 = .ok (.i2l, 1) := by decide +kernel
theorem dX2_fitBelow_51 : decode cX2_fitBelow 51 = .ok (.lload_n 3, 1) := by decide +kernel
theorem dX2_fitBelow_52 : decode cX2_fitBelow 52 = .ok (.lmul, 1) := by decide +kernel
theorem dX2_fitBelow_53 : decode cX2_fitBelow 53 = .ok (.lload 5, 2) := by decide +kernel
theorem dX2_fitBelow_55 : decode cX2_fitBelow 55 = .ok (.lload 5, 2) := by decide +kernel
theorem dX2_fitBelow_57 : decode cX2_fitBelow 57 = .ok (.lmul, 1) := by decide +kernel
theorem dX2_fitBelow_58 : decode cX2_fitBelow 58 = .ok (.lsub, 1) := by decide +kernel
theorem dX2_fitBelow_59 : decode cX2_fitBelow 59 = .ok (.lreturn, 1) := by decide +kernel
theorem dX2_farthest_0 : decode cX2_farthest 0 = .ok (.iload_n 2, 1) := by decide +kernel
theorem dX2_farthest_1 : decode cX2_farthest 1 = .ok (.iload_n 1, 1) := by decide +kernel
theorem dX2_farthest_2 : decode cX2_farthest 2 = .ok (.isub, 1) := by decide +kernel
theorem dX2_farthest_3 : decode cX2_farthest 3 = .ok (.iconst 1, 1) := by decide +kernel
theorem dX2_farthest_4 : decode cX2_farthest 4 = .ok (.iadd, 1) := by decide +kernel
theorem dX2_farthest_5 : decode cX2_farthest 5 = .ok (.i2l, 1) := by decide +kernel
theorem dX2_farthest_6 : decode cX2_farthest 6 = .ok (.lstore_n 3, 1) := by decide +kernel
theorem dX2_farthest_7 : decode cX2_farthest 7 = .ok (.aload_n 0, 1) := by decide +kernel
theorem dX2_farthest_8 : decode cX2_farthest 8 = .ok (.iload_n 1, 1) := by decide +kernel
theorem dX2_farthest_9 : decode cX2_farthest 9 = .ok (.iload_n 2, 1) := by decide +kernel
theorem dX2_farthest_10 : decode cX2_farthest 10 = .ok (.invokevirtual 115, 3) := by decide +kernel
theorem dX2_farthest_13 : decode cX2_farthest 13 = .ok (.lstore 5, 2) := by decide +kernel
theorem dX2_farthest_15 : decode cX2_farthest 15 = .ok (.aload_n 0, 1) := by decide +kernel
theorem dX2_farthest_16 : decode cX2_farthest 16 = .ok (.iload_n 1, 1) := by decide +kernel
theorem dX2_farthest_17 : decode cX2_farthest 17 = .ok (.iload_n 2, 1) := by decide +kernel
theorem dX2_farthest_18 : decode cX2_farthest 18 = .ok (.invokevirtual 118, 3) := by decide +kernel
theorem dX2_farthest_21 : decode cX2_farthest 21 = .ok (.lstore 7, 2) := by decide +kernel
theorem dX2_farthest_23 : decode cX2_farthest 23 = .ok (.aload_n 0, 1) := by decide +kernel
theorem dX2_farthest_24 : decode cX2_farthest 24 = .ok (.iload_n 1, 1) := by decide +kernel
theorem dX2_farthest_25 : decode cX2_farthest 25 = .ok (.iload_n 2, 1) := by decide +kernel
theorem dX2_farthest_26 : decode cX2_farthest 26 = .ok (.invokevirtual 108, 3) := by decide +kernel
theorem dX2_farthest_29 : decode cX2_farthest 29 = .ok (.lstore 9, 2) := by decide +kernel
theorem dX2_farthest_31 : decode cX2_farthest 31 = .ok (.aload_n 0, 1) := by decide +kernel
theorem dX2_farthest_32 : decode cX2_farthest 32 = .ok (.iload_n 1, 1) := by decide +kernel
theorem dX2_farthest_33 : decode cX2_farthest 33 = .ok (.iload_n 2, 1) := by decide +kernel
theorem dX2_farthest_34 : decode cX2_farthest 34 = .ok (.invokevirtual 112, 3) := by decide +kernel
theorem dX2_farthest_37 : decode cX2_farthest 37 = .ok (.lstore 11, 2) := by decide +kernel
theorem dX2_farthest_39 : decode cX2_farthest 39 = .ok (.iload_n 1, 1) := by decide +kernel
theorem dX2_farthest_40 : decode cX2_farthest 40 = .ok (.istore 13, 2) := by decide +kernel
theorem dX2_farthest_42 : decode cX2_farthest 42 = .ok (.ldc2_w 121, 3) := by decide +kernel
theorem dX2_farthest_45 : decode cX2_farthest 45 = .ok (.lstore 14, 2) := by decide +kernel
theorem dX2_farthest_47 : decode cX2_farthest 47 = .ok (.iload_n 1, 1) := by decide +kernel
theorem dX2_farthest_48 : decode cX2_farthest 48 = .ok (.istore 16, 2) := by decide +kernel
theorem dX2_farthest_50 : decode cX2_farthest 50 = .ok (.iload 16, 2) := by decide +kernel
theorem dX2_farthest_52 : decode cX2_farthest 52 = .ok (.iload_n 2, 1) := by decide +kernel
theorem dX2_farthest_53 : decode cX2_farthest 53 = .ok (.if_icmp .gt 66, 3) := by decide +kernel
theorem dX2_farthest_56 : decode cX2_farthest 56 = .ok (.lload 5, 2) := by decide +kernel
theorem dX2_farthest_58 : decode cX2_farthest 58 = .ok (.lload_n 3, 1) := by decide +kernel
theorem dX2_farthest_59 : decode cX2_farthest 59 = .ok (.aload_n 0, 1) := by decide +kernel
theorem dX2_farthest_60 : decode cX2_farthest 60 = .ok (.getfield 23, 3) := by decide +kernel
theorem dX2_farthest_63 : decode cX2_farthest 63 = .ok (.iload 16, 2) := by decide +kernel
theorem dX2_farthest_65 : decode cX2_farthest 65 = .ok (.iaload, 1) := by decide +kernel
theorem dX2_farthest_66 : decode cX2_farthest 66 = .ok (.i2l, 1) := by decide +kernel
theorem dX2_farthest_67 : decode cX2_farthest 67 = .ok (.lmul, 1) := by decide +kernel
theorem dX2_farthest_68 : decode cX2_farthest 68 = .ok (.lload 9, 2) := by decide +kernel
theorem dX2_farthest_70 : decode cX2_farthest 70 = .ok (.lsub, 1) := by decide +kernel
theorem dX2_farthest_71 : decode cX2_farthest 71 = .ok (.lmul, 1) := by decide +kernel
theorem dX2_farthest_72 : decode cX2_farthest 72 = .ok (.lstore 17, 2) := by decide +kernel
theorem dX2_farthest_74 : decode cX2_farthest 74 = .ok (.lload 7, 2) := by decide +kernel
theorem dX2_farthest_76 : decode cX2_farthest 76 = .ok (.lload_n 3, 1) := by decide +kernel
theorem dX2_farthest_77 : decode cX2_farthest 77 = .ok (.aload_n 0, 1) := by decide +kernel
theorem dX2_farthest_78 : decode cX2_farthest 78 = .ok (.getfield 9, 3) := by decide +kernel
theorem dX2_farthest_81 : decode cX2_farthest 81 = .ok (.iload 16, 2) := by decide +kernel
theorem dX2_farthest_83 : decode cX2_farthest 83 = .ok (.laload, 1) := by decide +kernel
theorem dX2_farthest_84 : decode cX2_farthest 84 = .ok (.lmul, 1) := by decide +kernel
theorem dX2_farthest_85 : decode cX2_farthest 85 = .ok (.lload 11, 2) := by decide +kernel
theorem dX2_farthest_87 : decode cX2_farthest 87 = .ok (.lsub, 1) := by decide +kernel
theorem dX2_farthest_88 : decode cX2_farthest 88 = .ok (.lmul, 1) := by decide +kernel
theorem dX2_farthest_89 : decode cX2_farthest 89 = .ok (.lload 17, 2) := by decide +kernel
theorem dX2_farthest_91 : decode cX2_farthest 91 = .ok (.lsub, 1) := by decide +kernel
theorem dX2_farthest_92 : decode cX2_farthest 92 = .ok (.invokestatic 123, 3) := by decide +kernel
theorem dX2_farthest_95 : decode cX2_farthest 95 = .ok (.lstore 19, 2) := by decide +kernel
theorem dX2_farthest_97 : decode cX2_farthest 97 = .ok (.lload 19, 2) := by decide +kernel
theorem dX2_farthest_99 : decode cX2_farthest 99 = .ok (.lload 14, 2) := by decide +kernel
theorem dX2_farthest_101 : decode cX2_farthest 101 = .ok (.lcmp, 1) := by decide +kernel
theorem dX2_farthest_102 : decode cX2_farthest 102 = .ok (.ifCond .le 11, 3) := by decide +kernel
theorem dX2_farthest_105 : decode cX2_farthest 105 = .ok (.lload 19, 2) := by decide +kernel
theorem dX2_farthest_107 : decode cX2_farthest 107 = .ok (.lstore 14, 2) := by decide +kernel
theorem dX2_farthest_109 : decode cX2_farthest 109 = .ok (.iload 16, 2) := by decide +kernel
theorem dX2_farthest_111 : decode cX2_farthest 111 = .ok (.istore 13, 2) := by decide +kernel
theorem dX2_farthest_113 : decode cX2_farthest 113 = .ok (.iinc 16 1, 3) := by decide +kernel
theorem dX2_farthest_116 : decode cX2_farthest 116 = .ok (.goto (-66), 3) := by decide +kernel
theorem dX2_farthest_119 : decode cX2_farthest 119 = .ok (.iload 13, 2) := by decide +kernel
theorem dX2_farthest_121 : decode cX2_farthest 121 = .ok (.ireturn, 1) := by decide +kernel
theorem dX3_init_0 : decode cX3_init 0 = .ok (.aload_n 0, 1) := by decide +kernel
theorem dX3_init_1 : decode cX3_init 1 = .ok (.invokespecial 3, 3) := by decide +kernel
theorem dX3_init_4 : decode cX3_init 4 = .ok (.aload_n 0, 1) := by decide +kernel
theorem dX3_init_5 : decode cX3_init 5 = .ok (.bipush 40, 2) := by decide +kernel
theorem dX3_init_7 : decode cX3_init 7 = .ok (.newarray .long, 2) := by decide +kernel
theorem dX3_init_9 : decode cX3_init 9 = .ok (.putfield 9, 3) := by decide +kernel
theorem dX3_init_12 : decode cX3_init 12 = .ok (.aload_n 0, 1) := by decide +kernel
theorem dX3_init_13 : decode cX3_init 13 = .ok (.bipush 40, 2) := by decide +kernel
theorem dX3_init_15 : decode cX3_init 15 = .ok (.newarray .double, 2) := by decide +kernel
theorem dX3_init_17 : decode cX3_init 17 = .ok (.putfield 15, 3) := by decide +kernel
theorem dX3_init_20 : decode cX3_init 20 = .ok (.aload_n 0, 1) := by decide +kernel
theorem dX3_init_21 : decode cX3_init 21 = .ok (.bipush 40, 2) := by decide +kernel
theorem dX3_init_23 : decode cX3_init 23 = .ok (.newarray .boolean, 2) := by decide +kernel
theorem dX3_init_25 : decode cX3_init 25 = .ok (.putfield 19, 3) := by decide +kernel
theorem dX3_init_28 : decode cX3_init 28 = .ok (.aload_n 0, 1) := by decide +kernel
theorem dX3_init_29 : decode cX3_init 29 = .ok (.iconst (-1), 1) := by decide +kernel
theorem dX3_init_30 : decode cX3_init 30 = .ok (.putfield 23, 3) := by decide +kernel
theorem dX3_init_33 : decode cX3_init 33 = .ok (.aload_n 0, 1) := by decide +kernel
theorem dX3_init_34 : decode cX3_init 34 = .ok (.iconst 0, 1) := by decide +kernel
theorem dX3_init_35 : decode cX3_init 35 = .ok (.putfield 27, 3) := by decide +kernel
theorem dX3_init_38 : decode cX3_init 38 = .ok (.return_, 1) := by decide +kernel
theorem dX3_isLost_0 : decode cX3_isLost 0 = .ok (.aload_n 0, 1) := by decide +kernel
theorem dX3_isLost_1 : decode cX3_isLost 1 = .ok (.getfield 23, 3) := by decide +kernel
theorem dX3_isLost_4 : decode cX3_isLost 4 = .ok (.iconst (-1), 1) := by decide +kernel
theorem dX3_isLost_5 : decode cX3_isLost 5 = .ok (.if_icmp .ne 7, 3) := by decide +kernel
theorem dX3_isLost_8 : decode cX3_isLost 8 = .ok (.iconst 1, 1) := by decide +kernel
theorem dX3_isLost_9 : decode cX3_isLost 9 = .ok (.goto 4, 3) := by decide +kernel
theorem dX3_isLost_12 : decode cX3_isLost 12 = .ok (.iconst 0, 1) := by decide +kernel
theorem dX3_isLost_13 : decode cX3_isLost 13 = .ok (.ireturn, 1) := by decide +kernel
theorem dX3_holdsReals_0 : decode cX3_holdsReals 0 = .ok (.aload_n 0, 1) := by decide +kernel
theorem dX3_holdsReals_1 : decode cX3_holdsReals 1 = .ok (.getfield 23, 3) := by decide +kernel
theorem dX3_holdsReals_4 : decode cX3_holdsReals 4 = .ok (.iconst 2, 1) := by decide +kernel
theorem dX3_holdsReals_5 : decode cX3_holdsReals 5 = .ok (.if_icmp .eq 11, 3) := by decide +kernel
theorem dX3_holdsReals_8 : decode cX3_holdsReals 8 = .ok (.aload_n 0, 1) := by decide +kernel
theorem dX3_holdsReals_9 : decode cX3_holdsReals 9 = .ok (.getfield 23, 3) := by decide +kernel
theorem dX3_holdsReals_12 : decode cX3_holdsReals 12 = .ok (.iconst 3, 1) := by decide +kernel
theorem dX3_holdsReals_13 : decode cX3_holdsReals 13 = .ok (.if_icmp .ne 7, 3) := by decide +kernel
theorem dX3_holdsReals_16 : decode cX3_holdsReals 16 = .ok (.iconst 1, 1) := by decide +kernel
theorem dX3_holdsReals_17 : decode cX3_holdsReals 17 = .ok (.goto 4, 3) := by decide +kernel
theorem dX3_holdsReals_20 : decode cX3_holdsReals 20 = .ok (.iconst 0, 1) := by decide +kernel
theorem dX3_holdsReals_21 : decode cX3_holdsReals 21 = .ok (.ireturn, 1) := by decide +kernel
theorem dX3_has_0 : decode cX3_has 0 = .ok (.iload_n 1, 1) := by decide +kernel
theorem dX3_has_1 : decode cX3_has 1 = .ok (.ifCond .lt 15, 3) := by decide +kernel
theorem dX3_has_4 : decode cX3_has 4 = .ok (.iload_n 1, 1) := by decide +kernel
theorem dX3_has_5 : decode cX3_has 5 = .ok (.aload_n 0, 1) := by decide +kernel
theorem dX3_has_6 : decode cX3_has 6 = .ok (.getfield 27, 3) := by decide +kernel
theorem dX3_has_9 : decode cX3_has 9 = .ok (.if_icmp .ge 7, 3) := by decide +kernel
theorem dX3_has_12 : decode cX3_has 12 = .ok (.iconst 1, 1) := by decide +kernel
theorem dX3_has_13 : decode cX3_has 13 = .ok (.goto 4, 3) := by decide +kernel
theorem dX3_has_16 : decode cX3_has 16 = .ok (.iconst 0, 1) := by decide +kernel
theorem dX3_has_17 : decode cX3_has 17 = .ok (.ireturn, 1) := by decide +kernel
theorem dX3_hasRange_0 : decode cX3_hasRange 0 = .ok (.iload_n 1, 1) := by decide +kernel
theorem dX3_hasRange_1 : decode cX3_hasRange 1 = .ok (.ifCond .lt 29, 3) := by decide +kernel
theorem dX3_hasRange_4 : decode cX3_hasRange 4 = .ok (.iload_n 2, 1) := by decide +kernel
theorem dX3_hasRange_5 : decode cX3_hasRange 5 = .ok (.ifCond .lt 25, 3) := by decide +kernel
theorem dX3_hasRange_8 : decode cX3_hasRange 8 = .ok (.iload_n 1, 1) := by decide +kernel
theorem dX3_hasRange_9 : decode cX3_hasRange 9 = .ok (.aload_n 0, 1) := by decide +kernel
theorem dX3_hasRange_10 : decode cX3_hasRange 10 = .ok (.getfield 27, 3) := by decide +kernel
theorem dX3_hasRange_13 : decode cX3_hasRange 13 = .ok (.if_icmp .gt 17, 3) := by decide +kernel
theorem dX3_hasRange_16 : decode cX3_hasRange 16 = .ok (.iload_n 2, 1) := by decide +kernel
theorem dX3_hasRange_17 : decode cX3_hasRange 17 = .ok (.aload_n 0, 1) := by decide +kernel
theorem dX3_hasRange_18 : decode cX3_hasRange 18 = .ok (.getfield 27, 3) := by decide +kernel
theorem dX3_hasRange_21 : decode cX3_hasRange 21 = .ok (.iload_n 1, 1) := by decide +kernel
theorem dX3_hasRange_22 : decode cX3_hasRange 22 = .ok (.isub, 1) := by decide +kernel
theorem dX3_hasRange_23 : decode cX3_hasRange 23 = .ok (.if_icmp .gt 7, 3) := by decide +kernel
theorem dX3_hasRange_26 : decode cX3_hasRange 26 = .ok (.iconst 1, 1) := by decide +kernel
theorem dX3_hasRange_27 : decode cX3_hasRange 27 = .ok (.goto 4, 3) := by decide +kernel
theorem dX3_hasRange_30 : decode cX3_hasRange 30 = .ok (.iconst 0, 1) := by decide +kernel
theorem dX3_hasRange_31 : decode cX3_hasRange 31 = .ok (.ireturn, 1) := by decide +kernel
theorem dX3_begin_0 : decode cX3_begin 0 = .ok (.aload_n 0, 1) := by decide +kernel
theorem dX3_begin_1 : decode cX3_begin 1 = .ok (.iload_n 1, 1) := by decide +kernel
theorem dX3_begin_2 : decode cX3_begin 2 = .ok (.putfield 23, 3) := by decide +kernel
theorem dX3_begin_5 : decode cX3_begin 5 = .ok (.aload_n 0, 1) := by decide +kernel
theorem dX3_begin_6 : decode cX3_begin 6 = .ok (.iload_n 2, 1) := by decide +kernel
theorem dX3_begin_7 : decode cX3_begin 7 = .ok (.putfield 27, 3) := by decide +kernel
theorem dX3_begin_10 : decode cX3_begin 10 = .ok (.iconst 0, 1) := by decide +kernel
theorem dX3_begin_11 : decode cX3_begin 11 = .ok (.istore_n 3, 1) := by decide +kernel
theorem dX3_begin_12 : decode cX3_begin 12 = .ok (.iload_n 3, 1) := by decide +kernel
theorem dX3_begin_13 : decode cX3_begin 13 = .ok (.bipush 40, 2) := by decide +kernel
theorem dX3_begin_15 : decode cX3_begin 15 = .ok (.if_icmp .ge 30, 3) := by decide +kernel
theorem dX3_begin_18 : decode cX3_begin 18 = .ok (.aload_n 0, 1) := by decide +kernel
theorem dX3_begin_19 : decode cX3_begin 19 = .ok (.getfield 9, 3) := by decide +kernel
theorem dX3_begin_22 : decode cX3_begin 22 = .ok (.iload_n 3, 1) := by decide +kernel
theorem dX3_begin_23 : decode cX3_begin 23 = .ok (.lconst 0, 1) := by decide +kernel
theorem dX3_begin_24 : decode cX3_begin 24 = .ok (.lastore, 1) := by decide +kernel
theorem dX3_begin_25 : decode cX3_begin 25 = .ok (.aload_n 0, 1) := by decide +kernel
theorem dX3_begin_26 : decode cX3_begin 26 = .ok (.getfield 15, 3) := by decide +kernel
theorem dX3_begin_29 : decode cX3_begin 29 = .ok (.iload_n 3, 1) := by decide +kernel
theorem dX3_begin_30 : decode cX3_begin 30 = .ok (.dconst 0, 1) := by decide +kernel
theorem dX3_begin_31 : decode cX3_begin 31 = .ok (.dastore, 1) := by decide +kernel
theorem dX3_begin_32 : decode cX3_begin 32 = .ok (.aload_n 0, 1) := by decide +kernel
theorem dX3_begin_33 : decode cX3_begin 33 = .ok (.getfield 19, 3) := by decide +kernel
theorem dX3_begin_36 : decode cX3_begin 36 = .ok (.iload_n 3, 1) := by decide +kernel
theorem dX3_begin_37 : decode cX3_begin 37 = .ok (.iconst 0, 1) := by decide +kernel
theorem dX3_begin_38 : decode cX3_begin 38 = .ok (.bastore, 1) := by decide +kernel
theorem dX3_begin_39 : decode cX3_begin 39 = .ok (.iinc 3 1, 3) := by decide +kernel
theorem dX3_begin_42 : decode cX3_begin 42 = .ok (.goto (-30), 3) := by decide +kernel
theorem dX3_begin_45 : decode cX3_begin 45 = .ok (.return_, 1) := by decide +kernel
theorem dX3_store_0 : decode cX3_store 0 = .ok (.aload_n 0, 1) := by decide +kernel
theorem dX3_store_1 : decode cX3_store 1 = .ok (.getfield 19, 3) := by decide +kernel
theorem dX3_store_4 : decode cX3_store 4 = .ok (.iload_n 1, 1) := by decide +kernel
theorem dX3_store_5 : decode cX3_store 5 = .ok (.iconst 0, 1) := by decide +kernel
theorem dX3_store_6 : decode cX3_store 6 = .ok (.bastore, 1) := by decide +kernel
theorem dX3_store_7 : decode cX3_store 7 = .ok (.aload_n 0, 1) := by decide +kernel
theorem dX3_store_8 : decode cX3_store 8 = .ok (.getfield 23, 3) := by decide +kernel
theorem dX3_store_11 : decode cX3_store 11 = .ok (.tableswitch 66 0 2 #[25, 36, 51], 25) := by decide +kernel
theorem dX3_store_36 : decode cX3_store 36 = .ok (.aload_n 0, 1) := by decide +kernel
theorem dX3_store_37 : decode cX3_store 37 = .ok (.getfield 9, 3) := by decide +kernel
theorem dX3_store_40 : decode cX3_store 40 = .ok (.iload_n 1, 1) := by decide +kernel
theorem dX3_store_41 : decode cX3_store 41 = .ok (.iload_n 2, 1) := by decide +kernel
theorem dX3_store_42 : decode cX3_store 42 = .ok (.i2l, 1) := by decide +kernel
theorem dX3_store_43 : decode cX3_store 43 = .ok (.lastore, 1) := by decide +kernel
theorem dX3_store_44 : decode cX3_store 44 = .ok (.goto 45, 3) := by decide +kernel
theorem dX3_store_47 : decode cX3_store 47 = .ok (.aload_n 0, 1) := by decide +kernel
theorem dX3_store_48 : decode cX3_store 48 = .ok (.getfield 9, 3) := by decide +kernel
theorem dX3_store_51 : decode cX3_store 51 = .ok (.iload_n 1, 1) := by decide +kernel
theorem dX3_store_52 : decode cX3_store 52 = .ok (.iload_n 2, 1) := by decide +kernel
theorem dX3_store_53 : decode cX3_store 53 = .ok (.i2l, 1) := by decide +kernel
theorem dX3_store_54 : decode cX3_store 54 = .ok (.ldc2_w 30, 3) := by decide +kernel
theorem dX3_store_57 : decode cX3_store 57 = .ok (.lmul, 1) := by decide +kernel
theorem dX3_store_58 : decode cX3_store 58 = .ok (.lastore, 1) := by decide +kernel
theorem dX3_store_59 : decode cX3_store 59 = .ok (.goto 30, 3) := by decide +kernel
theorem dX3_store_62 : decode cX3_store 62 = .ok (.aload_n 0, 1) := by decide +kernel
theorem dX3_store_63 : decode cX3_store 63 = .ok (.getfield 15, 3) := by decide +kernel
theorem dX3_store_66 : decode cX3_store 66 = .ok (.iload_n 1, 1) := by decide +kernel
theorem dX3_store_67 : decode cX3_store 67 = .ok (.iload_n 2, 1) := by decide +kernel
theorem dX3_store_68 : decode cX3_store 68 = .ok (.i2f, 1) := by decide +kernel
theorem dX3_store_69 : decode cX3_store 69 = .ok (.ldc 32, 2) := by decide +kernel
theorem dX3_store_71 : decode cX3_store 71 = .ok (.fdiv, 1) := by decide +kernel
theorem dX3_store_72 : decode cX3_store 72 = .ok (.f2d, 1) := by decide +kernel
theorem dX3_store_73 : decode cX3_store 73 = .ok (.dastore, 1) := by decide +kernel
theorem dX3_store_74 : decode cX3_store 74 = .ok (.goto 15, 3) := by decide +kernel
theorem dX3_store_77 : decode cX3_store 77 = .ok (.aload_n 0, 1) := by decide +kernel
theorem dX3_store_78 : decode cX3_store 78 = .ok (.getfield 15, 3) := by decide +kernel
theorem dX3_store_81 : decode cX3_store 81 = .ok (.iload_n 1, 1) := by decide +kernel
theorem dX3_store_82 : decode cX3_store 82 = .ok (.iload_n 2, 1) := by decide +kernel
theorem dX3_store_83 : decode cX3_store 83 = .ok (.i2d, 1) := by decide +kernel
theorem dX3_store_84 : decode cX3_store 84 = .ok (.ldc2_w 33, 3) := by decide +kernel
theorem dX3_store_87 : decode cX3_store 87 = .ok (.ddiv, 1) := by decide +kernel
theorem dX3_store_88 : decode cX3_store 88 = .ok (.dastore, 1) := by decide +kernel
theorem dX3_store_89 : decode cX3_store 89 = .ok (.return_, 1) := by decide +kernel
theorem dX3_told_0 : decode cX3_told 0 = .ok (.aload_n 0, 1) := by decide +kernel
theorem dX3_told_1 : decode cX3_told 1 = .ok (.invokevirtual 35, 3) := by decide +kernel
theorem dX3_told_4 : decode cX3_told 4 = .ok (.ifCond .eq 17, 3) := by decide +kernel
theorem dX3_told_7 : decode cX3_told 7 = .ok (.ldc2_w 33, 3) := by decide +kernel
theorem dX3_told_10 : decode cX3_told 10 = .ok (.aload_n 0, 1) := by decide +kernel
theorem dX3_told_11 : decode cX3_told 11 = .ok (.getfield 15, 3) := by decide +kernel
theorem dX3_told_14 : decode cX3_told 14 = .ok (.iload_n 1, 1) := by decide +kernel
theorem dX3_told_15 : decode cX3_told 15 = .ok (.daload, 1) := by decide +kernel
theorem dX3_told_16 : decode cX3_told 16 = .ok (.dmul, 1) := by decide +kernel
theorem dX3_told_17 : decode cX3_told 17 = .ok (.d2l, 1) := by decide +kernel
theorem dX3_told_18 : decode cX3_told 18 = .ok (.goto 9, 3) := by decide +kernel
theorem dX3_told_21 : decode cX3_told 21 = .ok (.aload_n 0, 1) := by decide +kernel
theorem dX3_told_22 : decode cX3_told 22 = .ok (.getfield 9, 3) := by decide +kernel
theorem dX3_told_25 : decode cX3_told 25 = .ok (.iload_n 1, 1) := by decide +kernel
theorem dX3_told_26 : decode cX3_told 26 = .ok (.laload, 1) := by decide +kernel
theorem dX3_told_27 : decode cX3_told 27 = .ok (.lreturn, 1) := by decide +kernel
theorem dX3_take_0 : decode cX3_take 0 = .ok (.iconst 0, 1) := by decide +kernel
theorem dX3_take_1 : decode cX3_take 1 = .ok (.istore 5, 2) := by decide +kernel
theorem dX3_take_3 : decode cX3_take 3 = .ok (.iload 5, 2) := by decide +kernel
theorem dX3_take_5 : decode cX3_take 5 = .ok (.iload 4, 2) := by decide +kernel
theorem dX3_take_7 : decode cX3_take 7 = .ok (.if_icmp .ge 82, 3) := by decide +kernel
theorem dX3_take_10 : decode cX3_take 10 = .ok (.iload_n 2, 1) := by decide +kernel
theorem dX3_take_11 : decode cX3_take 11 = .ok (.iload_n 3, 1) := by decide +kernel
theorem dX3_take_12 : decode cX3_take 12 = .ok (.if_icmp .ge 13, 3) := by decide +kernel
theorem dX3_take_15 : decode cX3_take 15 = .ok (.iload 4, 2) := by decide +kernel
theorem dX3_take_17 : decode cX3_take 17 = .ok (.iconst 1, 1) := by decide +kernel
theorem dX3_take_18 : decode cX3_take 18 = .ok (.isub, 1) := by decide +kernel
theorem dX3_take_19 : decode cX3_take 19 = .ok (.iload 5, 2) := by decide +kernel
theorem dX3_take_21 : decode cX3_take 21 = .ok (.isub, 1) := by decide +kernel
theorem dX3_take_22 : decode cX3_take 22 = .ok (.goto 5, 3) := by decide +kernel
theorem dX3_take_25 : decode cX3_take 25 = .ok (.iload 5, 2) := by decide +kernel
theorem dX3_take_27 : decode cX3_take 27 = .ok (.istore 6, 2) := by decide +kernel
theorem dX3_take_29 : decode cX3_take 29 = .ok (.aload_n 0, 1) := by decide +kernel
theorem dX3_take_30 : decode cX3_take 30 = .ok (.getfield 9, 3) := by decide +kernel
theorem dX3_take_33 : decode cX3_take 33 = .ok (.iload_n 3, 1) := by decide +kernel
theorem dX3_take_34 : decode cX3_take 34 = .ok (.iload 6, 2) := by decide +kernel
theorem dX3_take_36 : decode cX3_take 36 = .ok (.iadd, 1) := by decide +kernel
theorem dX3_take_37 : decode cX3_take 37 = .ok (.aload_n 1, 1) := by decide +kernel
theorem dX3_take_38 : decode cX3_take 38 = .ok (.getfield 9, 3) := by decide +kernel
theorem dX3_take_41 : decode cX3_take 41 = .ok (.iload_n 2, 1) := by decide +kernel
theorem dX3_take_42 : decode cX3_take 42 = .ok (.iload 6, 2) := by decide +kernel
theorem dX3_take_44 : decode cX3_take 44 = .ok (.iadd, 1) := by decide +kernel
theorem dX3_take_45 : decode cX3_take 45 = .ok (.laload, 1) := by decide +kernel
theorem dX3_take_46 : decode cX3_take 46 = .ok (.lastore, 1) := by decide +kernel
theorem dX3_take_47 : decode cX3_take 47 = .ok (.aload_n 0, 1) := by decide +kernel
theorem dX3_take_48 : decode cX3_take 48 = .ok (.getfield 15, 3) := by decide +kernel
theorem dX3_take_51 : decode cX3_take 51 = .ok (.iload_n 3, 1) := by decide +kernel
theorem dX3_take_52 : decode cX3_take 52 = .ok (.iload 6, 2) := by decide +kernel
theorem dX3_take_54 : decode cX3_take 54 = .ok (.iadd, 1) := by decide +kernel
theorem dX3_take_55 : decode cX3_take 55 = .ok (.aload_n 1, 1) := by decide +kernel
theorem dX3_take_56 : decode cX3_take 56 = .ok (.getfield 15, 3) := by decide +kernel
theorem dX3_take_59 : decode cX3_take 59 = .ok (.iload_n 2, 1) := by decide +kernel
theorem dX3_take_60 : decode cX3_take 60 = .ok (.iload 6, 2) := by decide +kernel
theorem dX3_take_62 : decode cX3_take 62 = .ok (.iadd, 1) := by decide +kernel
theorem dX3_take_63 : decode cX3_take 63 = .ok (.daload, 1) := by decide +kernel
theorem dX3_take_64 : decode cX3_take 64 = .ok (.dastore, 1) := by decide +kernel
theorem dX3_take_65 : decode cX3_take 65 = .ok (.aload_n 0, 1) := by decide +kernel
theorem dX3_take_66 : decode cX3_take 66 = .ok (.getfield 19, 3) := by decide +kernel
theorem dX3_take_69 : decode cX3_take 69 = .ok (.iload_n 3, 1) := by decide +kernel
theorem dX3_take_70 : decode cX3_take 70 = .ok (.iload 6, 2) := by decide +kernel
theorem dX3_take_72 : decode cX3_take 72 = .ok (.iadd, 1) := by decide +kernel
theorem dX3_take_73 : decode cX3_take 73 = .ok (.aload_n 1, 1) := by decide +kernel
theorem dX3_take_74 : decode cX3_take 74 = .ok (.getfield 19, 3) := by decide +kernel
theorem dX3_take_77 : decode cX3_take 77 = .ok (.iload_n 2, 1) := by decide +kernel
theorem dX3_take_78 : decode cX3_take 78 = .ok (.iload 6, 2) := by decide +kernel
theorem dX3_take_80 : decode cX3_take 80 = .ok (.iadd, 1) := by decide +kernel
theorem dX3_take_81 : decode cX3_take 81 = .ok (.baload, 1) := by decide +kernel
theorem dX3_take_82 : decode cX3_take 82 = .ok (.bastore, 1) := by decide +kernel
theorem dX3_take_83 : decode cX3_take 83 = .ok (.iinc 5 1, 3) := by decide +kernel
theorem dX3_take_86 : decode cX3_take 86 = .ok (.goto (-83), 3) := by decide +kernel
theorem dX3_take_89 : decode cX3_take 89 = .ok (.return_, 1) := by decide +kernel
theorem dX3_countNoNumbers_0 : decode cX3_countNoNumbers 0 = .ok (.iconst 0, 1) := by decide +kernel
theorem dX3_countNoNumbers_1 : decode cX3_countNoNumbers 1 = .ok (.istore_n 1, 1) := by decide +kernel
theorem dX3_countNoNumbers_2 : decode cX3_countNoNumbers 2 = .ok (.iconst 0, 1) := by decide +kernel
theorem dX3_countNoNumbers_3 : decode cX3_countNoNumbers 3 = .ok (.istore_n 2, 1) := by decide +kernel
theorem dX3_countNoNumbers_4 : decode cX3_countNoNumbers 4 = .ok (.iload_n 2, 1) := by decide +kernel
theorem dX3_countNoNumbers_5 : decode cX3_countNoNumbers 5 = .ok (.aload_n 0, 1) := by decide +kernel
theorem dX3_countNoNumbers_6 : decode cX3_countNoNumbers 6 = .ok (.getfield 27, 3) := by decide +kernel
theorem dX3_countNoNumbers_9 : decode cX3_countNoNumbers 9 = .ok (.if_icmp .ge 21, 3) := by decide +kernel
theorem dX3_countNoNumbers_12 : decode cX3_countNoNumbers 12 = .ok (.aload_n 0, 1) := by decide +kernel
theorem dX3_countNoNumbers_13 : decode cX3_countNoNumbers 13 = .ok (.getfield 19, 3) := by decide +kernel
theorem dX3_countNoNumbers_16 : decode cX3_countNoNumbers 16 = .ok (.iload_n 2, 1) := by decide +kernel
theorem dX3_countNoNumbers_17 : decode cX3_countNoNumbers 17 = .ok (.baload, 1) := by decide +kernel
theorem dX3_countNoNumbers_18 : decode cX3_countNoNumbers 18 = .ok (.ifCond .eq 6, 3) := by decide +kernel
theorem dX3_countNoNumbers_21 : decode cX3_countNoNumbers 21 = .ok (.iinc 1 1, 3) := by decide +kernel
theorem dX3_countNoNumbers_24 : decode cX3_countNoNumbers 24 = .ok (.iinc 2 1, 3) := by decide +kernel
theorem dX3_countNoNumbers_27 : decode cX3_countNoNumbers 27 = .ok (.goto (-23), 3) := by decide +kernel
theorem dX3_countNoNumbers_30 : decode cX3_countNoNumbers 30 = .ok (.iload_n 1, 1) := by decide +kernel
theorem dX3_countNoNumbers_31 : decode cX3_countNoNumbers 31 = .ok (.ireturn, 1) := by decide +kernel
theorem dX3_extreme_0 : decode cX3_extreme 0 = .ok (.iconst (-1), 1) := by decide +kernel
theorem dX3_extreme_1 : decode cX3_extreme 1 = .ok (.istore_n 2, 1) := by decide +kernel
theorem dX3_extreme_2 : decode cX3_extreme 2 = .ok (.iconst 0, 1) := by decide +kernel
theorem dX3_extreme_3 : decode cX3_extreme 3 = .ok (.istore_n 3, 1) := by decide +kernel
theorem dX3_extreme_4 : decode cX3_extreme 4 = .ok (.iload_n 3, 1) := by decide +kernel
theorem dX3_extreme_5 : decode cX3_extreme 5 = .ok (.aload_n 0, 1) := by decide +kernel
theorem dX3_extreme_6 : decode cX3_extreme 6 = .ok (.getfield 27, 3) := by decide +kernel
theorem dX3_extreme_9 : decode cX3_extreme 9 = .ok (.if_icmp .ge 44, 3) := by decide +kernel
theorem dX3_extreme_12 : decode cX3_extreme 12 = .ok (.aload_n 0, 1) := by decide +kernel
theorem dX3_extreme_13 : decode cX3_extreme 13 = .ok (.getfield 19, 3) := by decide +kernel
theorem dX3_extreme_16 : decode cX3_extreme 16 = .ok (.iload_n 3, 1) := by decide +kernel
theorem dX3_extreme_17 : decode cX3_extreme 17 = .ok (.baload, 1) := by decide +kernel
theorem dX3_extreme_18 : decode cX3_extreme 18 = .ok (.ifCond .ne 29, 3) := by decide +kernel
theorem dX3_extreme_21 : decode cX3_extreme 21 = .ok (.iload_n 2, 1) := by decide +kernel
theorem dX3_extreme_22 : decode cX3_extreme 22 = .ok (.iconst (-1), 1) := by decide +kernel
theorem dX3_extreme_23 : decode cX3_extreme 23 = .ok (.if_icmp .eq 22, 3) := by decide +kernel
theorem dX3_extreme_26 : decode cX3_extreme 26 = .ok (.aload_n 0, 1) := by decide +kernel
theorem dX3_extreme_27 : decode cX3_extreme 27 = .ok (.getfield 15, 3) := by decide +kernel
theorem dX3_extreme_30 : decode cX3_extreme 30 = .ok (.iload_n 3, 1) := by decide +kernel
theorem dX3_extreme_31 : decode cX3_extreme 31 = .ok (.daload, 1) := by decide +kernel
theorem dX3_extreme_32 : decode cX3_extreme 32 = .ok (.aload_n 0, 1) := by decide +kernel
theorem dX3_extreme_33 : decode cX3_extreme 33 = .ok (.getfield 15, 3) := by decide +kernel
theorem dX3_extreme_36 : decode cX3_extreme 36 = .ok (.iload_n 2, 1) := by decide +kernel
theorem dX3_extreme_37 : decode cX3_extreme 37 = .ok (.daload, 1) := by decide +kernel
theorem dX3_extreme_38 : decode cX3_extreme 38 = .ok (.iload_n 1, 1) := by decide +kernel
theorem dX3_extreme_39 : decode cX3_extreme 39 = .ok (.invokestatic 39, 3) := by decide +kernel
theorem dX3_extreme_42 : decode cX3_extreme 42 = .ok (.ifCond .eq 5, 3) := by decide +kernel
theorem dX3_extreme_45 : decode cX3_extreme 45 = .ok (.iload_n 3, 1) := by decide +kernel
theorem dX3_extreme_46 : decode cX3_extreme 46 = .ok (.istore_n 2, 1) := by decide +kernel
theorem dX3_extreme_47 : decode cX3_extreme 47 = .ok (.iinc 3 1, 3) := by decide +kernel
theorem dX3_extreme_50 : decode cX3_extreme 50 = .ok (.goto (-46), 3) := by decide +kernel
theorem dX3_extreme_53 : decode cX3_extreme 53 = .ok (.iload_n 2, 1) := by decide +kernel
theorem dX3_extreme_54 : decode cX3_extreme 54 = .ok (.ireturn, 1) := by decide +kernel
theorem dX3_isBeyond_0 : decode cX3_isBeyond 0 = .ok (.iload 4, 2) := by decide +kernel
theorem dX3_isBeyond_2 : decode cX3_isBeyond 2 = .ok (.ifCond .eq 17, 3) := by decide +kernel
theorem dX3_isBeyond_5 : decode cX3_isBeyond 5 = .ok (.dload_n 0, 1) := by decide +kernel
theorem dX3_isBeyond_6 : decode cX3_isBeyond 6 = .ok (.dload_n 2, 1) := by decide +kernel
theorem dX3_isBeyond_7 : decode cX3_isBeyond 7 = .ok (.dcmp .l, 1) := by decide +kernel
theorem dX3_isBeyond_8 : decode cX3_isBeyond 8 = .ok (.ifCond .le 7, 3) := by decide +kernel
theorem dX3_isBeyond_11 : decode cX3_isBeyond 11 = .ok (.iconst 1, 1) := by decide +kernel
theorem dX3_isBeyond_12 : decode cX3_isBeyond 12 = .ok (.goto 18, 3) := by decide +kernel
theorem dX3_isBeyond_15 : decode cX3_isBeyond 15 = .ok (.iconst 0, 1) := by decide +kernel
theorem dX3_isBeyond_16 : decode cX3_isBeyond 16 = .ok (.goto 14, 3) := by decide +kernel
theorem dX3_isBeyond_19 : decode cX3_isBeyond 19 = .ok (.dload_n 0, 1) := by decide +kernel
theorem dX3_isBeyond_20 : decode cX3_isBeyond 20 = .ok (.dload_n 2, 1) := by decide +kernel
theorem dX3_isBeyond_21 : decode cX3_isBeyond 21 = .ok (.dcmp .g, 1) := by decide +kernel
theorem dX3_isBeyond_22 : decode cX3_isBeyond 22 = .ok (.ifCond .ge 7, 3) := by decide +kernel
theorem dX3_isBeyond_25 : decode cX3_isBeyond 25 = .ok (.iconst 1, 1) := by decide +kernel
theorem dX3_isBeyond_26 : decode cX3_isBeyond 26 = .ok (.goto 4, 3) := by decide +kernel
theorem dX3_isBeyond_29 : decode cX3_isBeyond 29 = .ok (.iconst 0, 1) := by decide +kernel
theorem dX3_isBeyond_30 : decode cX3_isBeyond 30 = .ok (.ireturn, 1) := by decide +kernel
theorem dX4_init_0 : decode cX4_init 0 = .ok (.aload_n 0, 1) := by decide +kernel
theorem dX4_init_1 : decode cX4_init 1 = .ok (.invokespecial 3, 3) := by decide +kernel
theorem dX4_init_4 : decode cX4_init 4 = .ok (.aload_n 0, 1) := by decide +kernel
theorem dX4_init_5 : decode cX4_init 5 = .ok (.bipush 16, 2) := by decide +kernel
theorem dX4_init_7 : decode cX4_init 7 = .ok (.newarray .long, 2) := by decide +kernel
theorem dX4_init_9 : decode cX4_init 9 = .ok (.putfield 9, 3) := by decide +kernel
theorem dX4_init_12 : decode cX4_init 12 = .ok (.aload_n 0, 1) := by decide +kernel
theorem dX4_init_13 : decode cX4_init 13 = .ok (.bipush 16, 2) := by decide +kernel
theorem dX4_init_15 : decode cX4_init 15 = .ok (.newarray .long, 2) := by decide +kernel
theorem dX4_init_17 : decode cX4_init 17 = .ok (.putfield 15, 3) := by decide +kernel
theorem dX4_init_20 : decode cX4_init 20 = .ok (.aload_n 0, 1) := by decide +kernel
theorem dX4_init_21 : decode cX4_init 21 = .ok (.bipush 15, 2) := by decide +kernel
theorem dX4_init_23 : decode cX4_init 23 = .ok (.newarray .int, 2) := by decide +kernel
theorem dX4_init_25 : decode cX4_init 25 = .ok (.putfield 18, 3) := by decide +kernel
theorem dX4_init_28 : decode cX4_init 28 = .ok (.aload_n 0, 1) := by decide +kernel
theorem dX4_init_29 : decode cX4_init 29 = .ok (.iconst 0, 1) := by decide +kernel
theorem dX4_init_30 : decode cX4_init 30 = .ok (.putfield 22, 3) := by decide +kernel
theorem dX4_init_33 : decode cX4_init 33 = .ok (.return_, 1) := by decide +kernel
theorem dX4_renewSums_0 : decode cX4_renewSums 0 = .ok (.aload_n 0, 1) := by decide +kernel
theorem dX4_renewSums_1 : decode cX4_renewSums 1 = .ok (.iconst 0, 1) := by decide +kernel
theorem dX4_renewSums_2 : decode cX4_renewSums 2 = .ok (.bipush 15, 2) := by decide +kernel
theorem dX4_renewSums_4 : decode cX4_renewSums 4 = .ok (.aload_n 1, 1) := by decide +kernel
theorem dX4_renewSums_5 : decode cX4_renewSums 5 = .ok (.getfield 26, 3) := by decide +kernel
theorem dX4_renewSums_8 : decode cX4_renewSums 8 = .ok (.iconst 1, 1) := by decide +kernel
theorem dX4_renewSums_9 : decode cX4_renewSums 9 = .ok (.isub, 1) := by decide +kernel
theorem dX4_renewSums_10 : decode cX4_renewSums 10 = .ok (.iconst 2, 1) := by decide +kernel
theorem dX4_renewSums_11 : decode cX4_renewSums 11 = .ok (.idiv, 1) := by decide +kernel
theorem dX4_renewSums_12 : decode cX4_renewSums 12 = .ok (.invokestatic 29, 3) := by decide +kernel
theorem dX4_renewSums_15 : decode cX4_renewSums 15 = .ok (.invokestatic 35, 3) := by decide +kernel
theorem dX4_renewSums_18 : decode cX4_renewSums 18 = .ok (.putfield 22, 3) := by decide +kernel
theorem dX4_renewSums_21 : decode cX4_renewSums 21 = .ok (.iconst 1, 1) := by decide +kernel
theorem dX4_renewSums_22 : decode cX4_renewSums 22 = .ok (.istore_n 2, 1) := by decide +kernel
theorem dX4_renewSums_23 : decode cX4_renewSums 23 = .ok (.iload_n 2, 1) := by decide +kernel
theorem dX4_renewSums_24 : decode cX4_renewSums 24 = .ok (.aload_n 0, 1) := by decide +kernel
theorem dX4_renewSums_25 : decode cX4_renewSums 25 = .ok (.getfield 22, 3) := by decide +kernel
theorem dX4_renewSums_28 : decode cX4_renewSums 28 = .ok (.if_icmp .gt 52, 3) := by decide +kernel
theorem dX4_renewSums_31 : decode cX4_renewSums 31 = .ok (.aload_n 1, 1) := by decide +kernel
theorem dX4_renewSums_32 : decode cX4_renewSums 32 = .ok (.getfield 26, 3) := by decide +kernel
theorem dX4_renewSums_35 : decode cX4_renewSums 35 = .ok (.iconst 2, 1) := by decide +kernel
theorem dX4_renewSums_36 : decode cX4_renewSums 36 = .ok (.iload_n 2, 1) := by decide +kernel
theorem dX4_renewSums_37 : decode cX4_renewSums 37 = .ok (.imul, 1) := by decide +kernel
theorem dX4_renewSums_38 : decode cX4_renewSums 38 = .ok (.isub, 1) := by decide +kernel
theorem dX4_renewSums_39 : decode cX4_renewSums 39 = .ok (.istore_n 3, 1) := by decide +kernel
theorem dX4_renewSums_40 : decode cX4_renewSums 40 = .ok (.aload_n 0, 1) := by decide +kernel
theorem dX4_renewSums_41 : decode cX4_renewSums 41 = .ok (.getfield 9, 3) := by decide +kernel
theorem dX4_renewSums_44 : decode cX4_renewSums 44 = .ok (.iload_n 2, 1) := by decide +kernel
theorem dX4_renewSums_45 : decode cX4_renewSums 45 = .ok (.aload_n 1, 1) := by decide +kernel
theorem dX4_renewSums_46 : decode cX4_renewSums 46 = .ok (.getfield 38, 3) := by decide +kernel
theorem dX4_renewSums_49 : decode cX4_renewSums 49 = .ok (.iload_n 2, 1) := by decide +kernel
theorem dX4_renewSums_50 : decode cX4_renewSums 50 = .ok (.iload_n 3, 1) := by decide +kernel
theorem dX4_renewSums_51 : decode cX4_renewSums 51 = .ok (.invokestatic 41, 3) := by decide +kernel
theorem dX4_renewSums_54 : decode cX4_renewSums 54 = .ok (.lastore, 1) := by decide +kernel
theorem dX4_renewSums_55 : decode cX4_renewSums 55 = .ok (.aload_n 0, 1) := by decide +kernel
theorem dX4_renewSums_56 : decode cX4_renewSums 56 = .ok (.getfield 15, 3) := by decide +kernel
theorem dX4_renewSums_59 : decode cX4_renewSums 59 = .ok (.iload_n 2, 1) := by decide +kernel
theorem dX4_renewSums_60 : decode cX4_renewSums 60 = .ok (.iload_n 2, 1) := by decide +kernel
theorem dX4_renewSums_61 : decode cX4_renewSums 61 = .ok (.i2l, 1) := by decide +kernel
theorem dX4_renewSums_62 : decode cX4_renewSums 62 = .ok (.iload_n 2, 1) := by decide +kernel
theorem dX4_renewSums_63 : decode cX4_renewSums 63 = .ok (.i2l, 1) := by decide +kernel
theorem dX4_renewSums_64 : decode cX4_renewSums 64 = .ok (.lmul, 1) := by decide +kernel
theorem dX4_renewSums_65 : decode cX4_renewSums 65 = .ok (.iload_n 3, 1) := by decide +kernel
theorem dX4_renewSums_66 : decode cX4_renewSums 66 = .ok (.i2l, 1) := by decide +kernel
theorem dX4_renewSums_67 : decode cX4_renewSums 67 = .ok (.lmul, 1) := by decide +kernel
theorem dX4_renewSums_68 : decode cX4_renewSums 68 = .ok (.lastore, 1) := by decide +kernel
theorem dX4_renewSums_69 : decode cX4_renewSums 69 = .ok (.aload_n 0, 1) := by decide +kernel
theorem dX4_renewSums_70 : decode cX4_renewSums 70 = .ok (.iload_n 2, 1) := by decide +kernel
theorem dX4_renewSums_71 : decode cX4_renewSums 71 = .ok (.invokevirtual 45, 3) := by decide +kernel
theorem dX4_renewSums_74 : decode cX4_renewSums 74 = .ok (.iinc 2 1, 3) := by decide +kernel
theorem dX4_renewSums_77 : decode cX4_renewSums 77 = .ok (.goto (-54), 3) := by decide +kernel
theorem dX4_renewSums_80 : decode cX4_renewSums 80 = .ok (.return_, 1) := by decide +kernel
theorem dX4_sumOfSquares_0 : decode cX4_sumOfSquares 0 = .ok (.lconst 0, 1) := by decide +kernel
theorem dX4_sumOfSquares_1 : decode cX4_sumOfSquares 1 = .ok (.lstore_n 3, 1) := by decide +kernel
theorem dX4_sumOfSquares_2 : decode cX4_sumOfSquares 2 = .ok (.iconst 0, 1) := by decide +kernel
theorem dX4_sumOfSquares_3 : decode cX4_sumOfSquares 3 = .ok (.istore 5, 2) := by decide +kernel
theorem dX4_sumOfSquares_5 : decode cX4_sumOfSquares 5 = .ok (.iload 5, 2) := by decide +kernel
theorem dX4_sumOfSquares_7 : decode cX4_sumOfSquares 7 = .ok (.iload_n 2, 1) := by decide +kernel
theorem dX4_sumOfSquares_8 : decode cX4_sumOfSquares 8 = .ok (.if_icmp .ge 43, 3) := by decide +kernel
theorem dX4_sumOfSquares_11 : decode cX4_sumOfSquares 11 = .ok (.aload_n 0, 1) := by decide +kernel
theorem dX4_sumOfSquares_12 : decode cX4_sumOfSquares 12 = .ok (.iload 5, 2) := by decide +kernel
theorem dX4_sumOfSquares_14 : decode cX4_sumOfSquares 14 = .ok (.iconst 2, 1) := by decide +kernel
theorem dX4_sumOfSquares_15 : decode cX4_sumOfSquares 15 = .ok (.iload_n 1, 1) := by decide +kernel
theorem dX4_sumOfSquares_16 : decode cX4_sumOfSquares 16 = .ok (.imul, 1) := by decide +kernel
theorem dX4_sumOfSquares_17 : decode cX4_sumOfSquares 17 = .ok (.iadd, 1) := by decide +kernel
theorem dX4_sumOfSquares_18 : decode cX4_sumOfSquares 18 = .ok (.laload, 1) := by decide +kernel
theorem dX4_sumOfSquares_19 : decode cX4_sumOfSquares 19 = .ok (.ldc2_w 49, 3) := by decide +kernel
theorem dX4_sumOfSquares_22 : decode cX4_sumOfSquares 22 = .ok (.aload_n 0, 1) := by decide +kernel
theorem dX4_sumOfSquares_23 : decode cX4_sumOfSquares 23 = .ok (.iload 5, 2) := by decide +kernel
theorem dX4_sumOfSquares_25 : decode cX4_sumOfSquares 25 = .ok (.iload_n 1, 1) := by decide +kernel
theorem dX4_sumOfSquares_26 : decode cX4_sumOfSquares 26 = .ok (.iadd, 1) := by decide +kernel
theorem dX4_sumOfSquares_27 : decode cX4_sumOfSquares 27 = .ok (.laload, 1) := by decide +kernel
theorem dX4_sumOfSquares_28 : decode cX4_sumOfSquares 28 = .ok (.lmul, 1) := by decide +kernel
theorem dX4_sumOfSquares_29 : decode cX4_sumOfSquares 29 = .ok (.lsub, 1) := by decide +kernel
theorem dX4_sumOfSquares_30 : decode cX4_sumOfSquares 30 = .ok (.aload_n 0, 1) := by decide +kernel
theorem dX4_sumOfSquares_31 : decode cX4_sumOfSquares 31 = .ok (.iload 5, 2) := by decide +kernel
theorem dX4_sumOfSquares_33 : decode cX4_sumOfSquares 33 = .ok (.laload, 1) := by decide +kernel
theorem dX4_sumOfSquares_34 : decode cX4_sumOfSquares 34 = .ok (.ladd, 1) := by decide +kernel
theorem dX4_sumOfSquares_35 : decode cX4_sumOfSquares 35 = .ok (.lstore 6, 2) := by decide +kernel
theorem dX4_sumOfSquares_37 : decode cX4_sumOfSquares 37 = .ok (.lload_n 3, 1) := by decide +kernel
theorem dX4_sumOfSquares_38 : decode cX4_sumOfSquares 38 = .ok (.lload 6, 2) := by decide +kernel
theorem dX4_sumOfSquares_40 : decode cX4_sumOfSquares 40 = .ok (.lload 6, 2) := by decide +kernel
theorem dX4_sumOfSquares_42 : decode cX4_sumOfSquares 42 = .ok (.lmul, 1) := by decide +kernel
theorem dX4_sumOfSquares_43 : decode cX4_sumOfSquares 43 = .ok (.ladd, 1) := by decide +kernel
theorem dX4_sumOfSquares_44 : decode cX4_sumOfSquares 44 = .ok (.lstore_n 3, 1) := by decide +kernel
theorem dX4_sumOfSquares_45 : decode cX4_sumOfSquares 45 = .ok (.iinc 5 1, 3) := by decide +kernel
theorem dX4_sumOfSquares_48 : decode cX4_sumOfSquares 48 = .ok (.goto (-43), 3) := by decide +kernel
theorem dX4_sumOfSquares_51 : decode cX4_sumOfSquares 51 = .ok (.lload_n 3, 1) := by decide +kernel
theorem dX4_sumOfSquares_52 : decode cX4_sumOfSquares 52 = .ok (.lreturn, 1) := by decide +kernel
theorem dX4_placeByRank_0 : decode cX4_placeByRank 0 = .ok (.iload_n 1, 1) := by decide +kernel
theorem dX4_placeByRank_1 : decode cX4_placeByRank 1 = .ok (.iconst 1, 1) := by decide +kernel
theorem dX4_placeByRank_2 : decode cX4_placeByRank 2 = .ok (.isub, 1) := by decide +kernel
theorem dX4_placeByRank_3 : decode cX4_placeByRank 3 = .ok (.istore_n 2, 1) := by decide +kernel
theorem dX4_placeByRank_4 : decode cX4_placeByRank 4 = .ok (.iload_n 2, 1) := by decide +kernel
theorem dX4_placeByRank_5 : decode cX4_placeByRank 5 = .ok (.ifCond .le 39, 3) := by decide +kernel
theorem dX4_placeByRank_8 : decode cX4_placeByRank 8 = .ok (.aload_n 0, 1) := by decide +kernel
theorem dX4_placeByRank_9 : decode cX4_placeByRank 9 = .ok (.iload_n 1, 1) := by decide +kernel
theorem dX4_placeByRank_10 : decode cX4_placeByRank 10 = .ok (.aload_n 0, 1) := by decide +kernel
theorem dX4_placeByRank_11 : decode cX4_placeByRank 11 = .ok (.getfield 18, 3) := by decide +kernel
theorem dX4_placeByRank_14 : decode cX4_placeByRank 14 = .ok (.iload_n 2, 1) := by decide +kernel
theorem dX4_placeByRank_15 : decode cX4_placeByRank 15 = .ok (.iconst 1, 1) := by decide +kernel
theorem dX4_placeByRank_16 : decode cX4_placeByRank 16 = .ok (.isub, 1) := by decide +kernel
theorem dX4_placeByRank_17 : decode cX4_placeByRank 17 = .ok (.iaload, 1) := by decide +kernel
theorem dX4_placeByRank_18 : decode cX4_placeByRank 18 = .ok (.invokevirtual 51, 3) := by decide +kernel
theorem dX4_placeByRank_21 : decode cX4_placeByRank 21 = .ok (.ifCond .eq 23, 3) := by decide +kernel
theorem dX4_placeByRank_24 : decode cX4_placeByRank 24 = .ok (.aload_n 0, 1) := by decide +kernel
theorem dX4_placeByRank_25 : decode cX4_placeByRank 25 = .ok (.getfield 18, 3) := by decide +kernel
theorem dX4_placeByRank_28 : decode cX4_placeByRank 28 = .ok (.iload_n 2, 1) := by decide +kernel
theorem dX4_placeByRank_29 : decode cX4_placeByRank 29 = .ok (.aload_n 0, 1) := by decide +kernel
theorem dX4_placeByRank_30 : decode cX4_placeByRank 30 = .ok (.getfield 18, 3) := by decide +kernel
theorem dX4_placeByRank_33 : decode cX4_placeByRank 33 = .ok (.iload_n 2, 1) := by decide +kernel
theorem dX4_placeByRank_34 : decode cX4_placeByRank 34 = .ok (.iconst 1, 1) := by decide +kernel
theorem dX4_placeByRank_35 : decode cX4_placeByRank 35 = .ok (.isub, 1) := by decide +kernel
theorem dX4_placeByRank_36 : decode cX4_placeByRank 36 = .ok (.iaload, 1) := by decide +kernel
theorem dX4_placeByRank_37 : decode cX4_placeByRank 37 = .ok (.iastore, 1) := by decide +kernel
theorem dX4_placeByRank_38 : decode cX4_placeByRank 38 = .ok (.iinc 2 (-1), 3) := by decide +kernel
theorem dX4_placeByRank_41 : decode cX4_placeByRank 41 = .ok (.goto (-37), 3) := by decide +kernel
theorem dX4_placeByRank_44 : decode cX4_placeByRank 44 = .ok (.aload_n 0, 1) := by decide +kernel
theorem dX4_placeByRank_45 : decode cX4_placeByRank 45 = .ok (.getfield 18, 3) := by decide +kernel
theorem dX4_placeByRank_48 : decode cX4_placeByRank 48 = .ok (.iload_n 2, 1) := by decide +kernel
theorem dX4_placeByRank_49 : decode cX4_placeByRank 49 = .ok (.iload_n 1, 1) := by decide +kernel
theorem dX4_placeByRank_50 : decode cX4_placeByRank 50 = .ok (.iastore, 1) := by decide +kernel
theorem dX4_placeByRank_51 : decode cX4_placeByRank 51 = .ok (.return_, 1) := by decide +kernel
theorem dX4_isSteadier_0 : decode cX4_isSteadier 0 = .ok (.aload_n 0, 1) := by decide +kernel
theorem dX4_isSteadier_1 : decode cX4_isSteadier 1 = .ok (.getfield 9, 3) := by decide +kernel
theorem dX4_isSteadier_4 : decode cX4_isSteadier 4 = .ok (.iload_n 1, 1) := by decide +kernel
theorem dX4_isSteadier_5 : decode cX4_isSteadier 5 = .ok (.laload, 1) := by decide +kernel
theorem dX4_isSteadier_6 : decode cX4_isSteadier 6 = .ok (.aload_n 0, 1) := by decide +kernel
theorem dX4_isSteadier_7 : decode cX4_isSteadier 7 = .ok (.getfield 15, 3) := by decide +kernel
theorem dX4_isSteadier_10 : decode cX4_isSteadier 10 = .ok (.iload_n 2, 1) := by decide +kernel
theorem dX4_isSteadier_11 : decode cX4_isSteadier 11 = .ok (.laload, 1) := by decide +kernel
theorem dX4_isSteadier_12 : decode cX4_isSteadier 12 = .ok (.lmul, 1) := by decide +kernel
theorem dX4_isSteadier_13 : decode cX4_isSteadier 13 = .ok (.aload_n 0, 1) := by decide +kernel
theorem dX4_isSteadier_14 : decode cX4_isSteadier 14 = .ok (.getfield 9, 3) := by decide +kernel
theorem dX4_isSteadier_17 : decode cX4_isSteadier 17 = .ok (.iload_n 2, 1) := by decide +kernel
theorem dX4_isSteadier_18 : decode cX4_isSteadier 18 = .ok (.laload, 1) := by decide +kernel
theorem dX4_isSteadier_19 : decode cX4_isSteadier 19 = .ok (.aload_n 0, 1) := by decide +kernel
theorem dX4_isSteadier_20 : decode cX4_isSteadier 20 = .ok (.getfield 15, 3) := by decide +kernel
theorem dX4_isSteadier_23 : decode cX4_isSteadier 23 = .ok (.iload_n 1, 1) := by decide +kernel
theorem dX4_isSteadier_24 : decode cX4_isSteadier 24 = .ok (.laload, 1) := by decide +kernel
theorem dX4_isSteadier_25 : decode cX4_isSteadier 25 = .ok (.lmul, 1) := by decide +kernel
theorem dX4_isSteadier_26 : decode cX4_isSteadier 26 = .ok (.lcmp, 1) := by decide +kernel
theorem dX4_isSteadier_27 : decode cX4_isSteadier 27 = .ok (.ifCond .ge 7, 3) := by decide +kernel
theorem dX4_isSteadier_30 : decode cX4_isSteadier 30 = .ok (.iconst 1, 1) := by decide +kernel
theorem dX4_isSteadier_31 : decode cX4_isSteadier 31 = .ok (.goto 4, 3) := by decide +kernel
theorem dX4_isSteadier_34 : decode cX4_isSteadier 34 = .ok (.iconst 0, 1) := by decide +kernel
theorem dX4_isSteadier_35 : decode cX4_isSteadier 35 = .ok (.ireturn, 1) := by decide +kernel
theorem dX5_init_0 : decode cX5_init 0 = .ok (.aload_n 0, 1) := by decide +kernel
theorem dX5_init_1 : decode cX5_init 1 = .ok (.invokespecial 3, 3) := by decide +kernel
theorem dX5_init_4 : decode cX5_init 4 = .ok (.aload_n 0, 1) := by decide +kernel
theorem dX5_init_5 : decode cX5_init 5 = .ok (.bipush 32, 2) := by decide +kernel
theorem dX5_init_7 : decode cX5_init 7 = .ok (.newarray .int, 2) := by decide +kernel
theorem dX5_init_9 : decode cX5_init 9 = .ok (.putfield 9, 3) := by decide +kernel
theorem dX5_init_12 : decode cX5_init 12 = .ok (.aload_n 0, 1) := by decide +kernel
theorem dX5_init_13 : decode cX5_init 13 = .ok (.iconst 0, 1) := by decide +kernel
theorem dX5_init_14 : decode cX5_init 14 = .ok (.putfield 15, 3) := by decide +kernel
theorem dX5_init_17 : decode cX5_init 17 = .ok (.return_, 1) := by decide +kernel
theorem dX5_isFull_0 : decode cX5_isFull 0 = .ok (.aload_n 0, 1) := by decide +kernel
theorem dX5_isFull_1 : decode cX5_isFull 1 = .ok (.getfield 15, 3) := by decide +kernel
theorem dX5_isFull_4 : decode cX5_isFull 4 = .ok (.bipush 32, 2) := by decide +kernel
theorem dX5_isFull_6 : decode cX5_isFull 6 = .ok (.if_icmp .lt 7, 3) := by decide +kernel
theorem dX5_isFull_9 : decode cX5_isFull 9 = .ok (.iconst 1, 1) := by decide +kernel
theorem dX5_isFull_10 : decode cX5_isFull 10 = .ok (.goto 4, 3) := by decide +kernel
theorem dX5_isFull_13 : decode cX5_isFull 13 = .ok (.iconst 0, 1) := by decide +kernel
theorem dX5_isFull_14 : decode cX5_isFull 14 = .ok (.ireturn, 1) := by decide +kernel
theorem dX5_firstFrom_0 : decode cX5_firstFrom 0 = .ok (.iconst 0, 1) := by decide +kernel
theorem dX5_firstFrom_1 : decode cX5_firstFrom 1 = .ok (.istore_n 2, 1) := by decide +kernel
theorem dX5_firstFrom_2 : decode cX5_firstFrom 2 = .ok (.iload_n 2, 1) := by decide +kernel
theorem dX5_firstFrom_3 : decode cX5_firstFrom 3 = .ok (.aload_n 0, 1) := by decide +kernel
theorem dX5_firstFrom_4 : decode cX5_firstFrom 4 = .ok (.getfield 15, 3) := by decide +kernel
theorem dX5_firstFrom_7 : decode cX5_firstFrom 7 = .ok (.if_icmp .ge 21, 3) := by decide +kernel
theorem dX5_firstFrom_10 : decode cX5_firstFrom 10 = .ok (.aload_n 0, 1) := by decide +kernel
theorem dX5_firstFrom_11 : decode cX5_firstFrom 11 = .ok (.getfield 9, 3) := by decide +kernel
theorem dX5_firstFrom_14 : decode cX5_firstFrom 14 = .ok (.iload_n 2, 1) := by decide +kernel
theorem dX5_firstFrom_15 : decode cX5_firstFrom 15 = .ok (.iaload, 1) := by decide +kernel
theorem dX5_firstFrom_16 : decode cX5_firstFrom 16 = .ok (.iload_n 1, 1) := by decide +kernel
theorem dX5_firstFrom_17 : decode cX5_firstFrom 17 = .ok (.if_icmp .lt 5, 3) := by decide +kernel
theorem dX5_firstFrom_20 : decode cX5_firstFrom 20 = .ok (.iload_n 2, 1) := by decide +kernel
theorem dX5_firstFrom_21 : decode cX5_firstFrom 21 = .ok (.ireturn, 1) := by decide +kernel
theorem dX5_firstFrom_22 : decode cX5_firstFrom 22 = .ok (.iinc 2 1, 3) := by decide +kernel
theorem dX5_firstFrom_25 : decode cX5_firstFrom 25 = .ok (.goto (-23), 3) := by decide +kernel
theorem dX5_firstFrom_28 : decode cX5_firstFrom 28 = .ok (.aload_n 0, 1) := by decide +kernel
theorem dX5_firstFrom_29 : decode cX5_firstFrom 29 = .ok (.getfield 15, 3) := by decide +kernel
theorem dX5_firstFrom_32 : decode cX5_firstFrom 32 = .ok (.ireturn, 1) := by decide +kernel
theorem dX5_holds_0 : decode cX5_holds 0 = .ok (.aload_n 0, 1) := by decide +kernel
theorem dX5_holds_1 : decode cX5_holds 1 = .ok (.iload_n 1, 1) := by decide +kernel
theorem dX5_holds_2 : decode cX5_holds 2 = .ok (.invokevirtual 19, 3) := by decide +kernel
theorem dX5_holds_5 : decode cX5_holds 5 = .ok (.istore_n 2, 1) := by decide +kernel
theorem dX5_holds_6 : decode cX5_holds 6 = .ok (.iload_n 2, 1) := by decide +kernel
theorem dX5_holds_7 : decode cX5_holds 7 = .ok (.aload_n 0, 1) := by decide +kernel
theorem dX5_holds_8 : decode cX5_holds 8 = .ok (.getfield 15, 3) := by decide +kernel
theorem dX5_holds_11 : decode cX5_holds 11 = .ok (.if_icmp .ge 17, 3) := by decide +kernel
theorem dX5_holds_14 : decode cX5_holds 14 = .ok (.aload_n 0, 1) := by decide +kernel
theorem dX5_holds_15 : decode cX5_holds 15 = .ok (.getfield 9, 3) := by decide +kernel
theorem dX5_holds_18 : decode cX5_holds 18 = .ok (.iload_n 2, 1) := by decide +kernel
theorem dX5_holds_19 : decode cX5_holds 19 = .ok (.iaload, 1) := by decide +kernel
theorem dX5_holds_20 : decode cX5_holds 20 = .ok (.iload_n 1, 1) := by decide +kernel
theorem dX5_holds_21 : decode cX5_holds 21 = .ok (.if_icmp .ne 7, 3) := by decide +kernel
theorem dX5_holds_24 : decode cX5_holds 24 = .ok (.iconst 1, 1) := by decide +kernel
theorem dX5_holds_25 : decode cX5_holds 25 = .ok (.goto 4, 3) := by decide +kernel
theorem dX5_holds_28 : decode cX5_holds 28 = .ok (.iconst 0, 1) := by decide +kernel
theorem dX5_holds_29 : decode cX5_holds 29 = .ok (.ireturn, 1) := by decide +kernel
theorem dX5_insert_0 : decode cX5_insert 0 = .ok (.aload_n 0, 1) := by decide +kernel
theorem dX5_insert_1 : decode cX5_insert 1 = .ok (.iload_n 1, 1) := by decide +kernel
theorem dX5_insert_2 : decode cX5_insert 2 = .ok (.invokevirtual 19, 3) := by decide +kernel
theorem dX5_insert_5 : decode cX5_insert 5 = .ok (.istore_n 2, 1) := by decide +kernel
theorem dX5_insert_6 : decode cX5_insert 6 = .ok (.aload_n 0, 1) := by decide +kernel
theorem dX5_insert_7 : decode cX5_insert 7 = .ok (.getfield 15, 3) := by decide +kernel
theorem dX5_insert_10 : decode cX5_insert 10 = .ok (.istore_n 3, 1) := by decide +kernel
theorem dX5_insert_11 : decode cX5_insert 11 = .ok (.iload_n 3, 1) := by decide +kernel
theorem dX5_insert_12 : decode cX5_insert 12 = .ok (.iload_n 2, 1) := by decide +kernel
theorem dX5_insert_13 : decode cX5_insert 13 = .ok (.if_icmp .le 23, 3) := by decide +kernel
theorem dX5_insert_16 : decode cX5_insert 16 = .ok (.aload_n 0, 1) := by decide +kernel
theorem dX5_insert_17 : decode cX5_insert 17 = .ok (.getfield 9, 3) := by decide +kernel
theorem dX5_insert_20 : decode cX5_insert 20 = .ok (.iload_n 3, 1) := by decide +kernel
theorem dX5_insert_21 : decode cX5_insert 21 = .ok (.aload_n 0, 1) := by decide +kernel
theorem dX5_insert_22 : decode cX5_insert 22 = .ok (.getfield 9, 3) := by decide +kernel
theorem dX5_insert_25 : decode cX5_insert 25 = .ok (.iload_n 3, 1) := by decide +kernel
theorem dX5_insert_26 : decode cX5_insert 26 = .ok (.iconst 1, 1) := by decide +kernel
theorem dX5_insert_27 : decode cX5_insert 27 = .ok (.isub, 1) := by decide +kernel
theorem dX5_insert_28 : decode cX5_insert 28 = .ok (.iaload, 1) := by decide +kernel
theorem dX5_insert_29 : decode cX5_insert 29 = .ok (.iastore, 1) := by decide +kernel
theorem dX5_insert_30 : decode cX5_insert 30 = .ok (.iinc 3 (-1), 3) := by decide +kernel
theorem dX5_insert_33 : decode cX5_insert 33 = .ok (.goto (-22), 3) := by decide +kernel
theorem dX5_insert_36 : decode cX5_insert 36 = .ok (.aload_n 0, 1) := by decide +kernel
theorem dX5_insert_37 : decode cX5_insert 37 = .ok (.getfield 9, 3) := by decide +kernel
theorem dX5_insert_40 : decode cX5_insert 40 = .ok (.iload_n 2, 1) := by decide +kernel
theorem dX5_insert_41 : decode cX5_insert 41 = .ok (.iload_n 1, 1) := by decide +kernel
theorem dX5_insert_42 : decode cX5_insert 42 = .ok (.iastore, 1) := by decide +kernel
theorem dX5_insert_43 : decode cX5_insert 43 = .ok (.aload_n 0, 1) := by decide +kernel
theorem dX5_insert_44 : decode cX5_insert 44 = .ok (.dup, 1) := by decide +kernel
theorem dX5_insert_45 : decode cX5_insert 45 = .ok (.getfield 15, 3) := by decide +kernel
theorem dX5_insert_48 : decode cX5_insert 48 = .ok (.iconst 1, 1) := by decide +kernel
theorem dX5_insert_49 : decode cX5_insert 49 = .ok (.iadd, 1) := by decide +kernel
theorem dX5_insert_50 : decode cX5_insert 50 = .ok (.putfield 15, 3) := by decide +kernel
theorem dX5_insert_53 : decode cX5_insert 53 = .ok (.iload_n 2, 1) := by decide +kernel
theorem dX5_insert_54 : decode cX5_insert 54 = .ok (.ireturn, 1) := by decide +kernel
theorem dX5_removeAt_0 : decode cX5_removeAt 0 = .ok (.aload_n 0, 1) := by decide +kernel
theorem dX5_removeAt_1 : decode cX5_removeAt 1 = .ok (.getfield 9, 3) := by decide +kernel
theorem dX5_removeAt_4 : decode cX5_removeAt 4 = .ok (.iload_n 1, 1) := by decide +kernel
theorem dX5_removeAt_5 : decode cX5_removeAt 5 = .ok (.iaload, 1) := by decide +kernel
theorem dX5_removeAt_6 : decode cX5_removeAt 6 = .ok (.istore_n 2, 1) := by decide +kernel
theorem dX5_removeAt_7 : decode cX5_removeAt 7 = .ok (.aload_n 0, 1) := by decide +kernel
theorem dX5_removeAt_8 : decode cX5_removeAt 8 = .ok (.dup, 1) := by decide +kernel
theorem dX5_removeAt_9 : decode cX5_removeAt 9 = .ok (.getfield 15, 3) := by decide +kernel
theorem dX5_removeAt_12 : decode cX5_removeAt 12 = .ok (.iconst 1, 1) := by decide +kernel
theorem dX5_removeAt_13 : decode cX5_removeAt 13 = .ok (.isub, 1) := by decide +kernel
theorem dX5_removeAt_14 : decode cX5_removeAt 14 = .ok (.putfield 15, 3) := by decide +kernel
theorem dX5_removeAt_17 : decode cX5_removeAt 17 = .ok (.iload_n 1, 1) := by decide +kernel
theorem dX5_removeAt_18 : decode cX5_removeAt 18 = .ok (.istore_n 3, 1) := by decide +kernel
theorem dX5_removeAt_19 : decode cX5_removeAt 19 = .ok (.iload_n 3, 1) := by decide +kernel
theorem dX5_removeAt_20 : decode cX5_removeAt 20 = .ok (.aload_n 0, 1) := by decide +kernel
theorem dX5_removeAt_21 : decode cX5_removeAt 21 = .ok (.getfield 15, 3) := by decide +kernel
theorem dX5_removeAt_24 : decode cX5_removeAt 24 = .ok (.if_icmp .ge 23, 3) := by decide +kernel
theorem dX5_removeAt_27 : decode cX5_removeAt 27 = .ok (.aload_n 0, 1) := by decide +kernel
theorem dX5_removeAt_28 : decode cX5_removeAt 28 = .ok (.getfield 9, 3) := by decide +kernel
theorem dX5_removeAt_31 : decode cX5_removeAt 31 = .ok (.iload_n 3, 1) := by decide +kernel
theorem dX5_removeAt_32 : decode cX5_removeAt 32 = .ok (.aload_n 0, 1) := by decide +kernel
theorem dX5_removeAt_33 : decode cX5_removeAt 33 = .ok (.getfield 9, 3) := by decide +kernel
theorem dX5_removeAt_36 : decode cX5_removeAt 36 = .ok (.iload_n 3, 1) := by decide +kernel
theorem dX5_removeAt_37 : decode cX5_removeAt 37 = .ok (.iconst 1, 1) := by decide +kernel
theorem dX5_removeAt_38 : decode cX5_removeAt 38 = .ok (.iadd, 1) := by decide +kernel
theorem dX5_removeAt_39 : decode cX5_removeAt 39 = .ok (.iaload, 1) := by decide +kernel
theorem dX5_removeAt_40 : decode cX5_removeAt 40 = .ok (.iastore, 1) := by decide +kernel
theorem dX5_removeAt_41 : decode cX5_removeAt 41 = .ok (.iinc 3 1, 3) := by decide +kernel
theorem dX5_removeAt_44 : decode cX5_removeAt 44 = .ok (.goto (-25), 3) := by decide +kernel
theorem dX5_removeAt_47 : decode cX5_removeAt 47 = .ok (.iload_n 2, 1) := by decide +kernel
theorem dX5_removeAt_48 : decode cX5_removeAt 48 = .ok (.ireturn, 1) := by decide +kernel
theorem dX5_coarseOf_0 : decode cX5_coarseOf 0 = .ok (.aload_n 0, 1) := by decide +kernel
theorem dX5_coarseOf_1 : decode cX5_coarseOf 1 = .ok (.getfield 9, 3) := by decide +kernel
theorem dX5_coarseOf_4 : decode cX5_coarseOf 4 = .ok (.iload_n 1, 1) := by decide +kernel
theorem dX5_coarseOf_5 : decode cX5_coarseOf 5 = .ok (.iaload, 1) := by decide +kernel
theorem dX5_coarseOf_6 : decode cX5_coarseOf 6 = .ok (.bipush 60, 2) := by decide +kernel
theorem dX5_coarseOf_8 : decode cX5_coarseOf 8 = .ok (.idiv, 1) := by decide +kernel
theorem dX5_coarseOf_9 : decode cX5_coarseOf 9 = .ok (.ireturn, 1) := by decide +kernel
theorem dX5_fineOf_0 : decode cX5_fineOf 0 = .ok (.aload_n 0, 1) := by decide +kernel
theorem dX5_fineOf_1 : decode cX5_fineOf 1 = .ok (.getfield 9, 3) := by decide +kernel
theorem dX5_fineOf_4 : decode cX5_fineOf 4 = .ok (.iload_n 1, 1) := by decide +kernel
theorem dX5_fineOf_5 : decode cX5_fineOf 5 = .ok (.iaload, 1) := by decide +kernel
theorem dX5_fineOf_6 : decode cX5_fineOf 6 = .ok (.bipush 60, 2) := by decide +kernel
theorem dX5_fineOf_8 : decode cX5_fineOf 8 = .ok (.irem, 1) := by decide +kernel
theorem dX5_fineOf_9 : decode cX5_fineOf 9 = .ok (.ireturn, 1) := by decide +kernel
theorem dJ9_abs_0f7a4_0 : decode cJ9_abs_0f7a4 0 = .ok (.iload_n 0, 1) := by decide +kernel
theorem dJ9_abs_0f7a4_1 : decode cJ9_abs_0f7a4 1 = .ok (.ifCond .ge 8, 3) := by decide +kernel
theorem dJ9_abs_0f7a4_4 : decode cJ9_abs_0f7a4 4 = .ok (.iload_n 0, 1) := by decide +kernel
theorem dJ9_abs_0f7a4_5 : decode cJ9_abs_0f7a4 5 = .ok (.ineg, 1) := by decide +kernel
theorem dJ9_abs_0f7a4_6 : decode cJ9_abs_0f7a4 6 = .ok (.goto 4, 3) := by decide +kernel
theorem dJ9_abs_0f7a4_9 : decode cJ9_abs_0f7a4 9 = .ok (.iload_n 0, 1) := by decide +kernel
theorem dJ9_abs_0f7a4_10 : decode cJ9_abs_0f7a4 10 = .ok (.ireturn, 1) := by decide +kernel
theorem dJ9_abs_067f4_0 : decode cJ9_abs_067f4 0 = .ok (.lload_n 0, 1) := by decide +kernel
theorem dJ9_abs_067f4_1 : decode cJ9_abs_067f4 1 = .ok (.lconst 0, 1) := by decide +kernel
theorem dJ9_abs_067f4_2 : decode cJ9_abs_067f4 2 = .ok (.lcmp, 1) := by decide +kernel
theorem dJ9_abs_067f4_3 : decode cJ9_abs_067f4 3 = .ok (.ifCond .ge 8, 3) := by decide +kernel
theorem dJ9_abs_067f4_6 : decode cJ9_abs_067f4 6 = .ok (.lload_n 0, 1) := by decide +kernel
theorem dJ9_abs_067f4_7 : decode cJ9_abs_067f4 7 = .ok (.lneg, 1) := by decide +kernel
theorem dJ9_abs_067f4_8 : decode cJ9_abs_067f4 8 = .ok (.goto 4, 3) := by decide +kernel
theorem dJ9_abs_067f4_11 : decode cJ9_abs_067f4 11 = .ok (.lload_n 0, 1) := by decide +kernel
theorem dJ9_abs_067f4_12 : decode cJ9_abs_067f4 12 = .ok (.lreturn, 1) := by decide +kernel
theorem dJ9_max_7cf53_0 : decode cJ9_max_7cf53 0 = .ok (.iload_n 0, 1) := by decide +kernel
theorem dJ9_max_7cf53_1 : decode cJ9_max_7cf53 1 = .ok (.iload_n 1, 1) := by decide +kernel
theorem dJ9_max_7cf53_2 : decode cJ9_max_7cf53 2 = .ok (.if_icmp .lt 7, 3) := by decide +kernel
theorem dJ9_max_7cf53_5 : decode cJ9_max_7cf53 5 = .ok (.iload_n 0, 1) := by decide +kernel
theorem dJ9_max_7cf53_6 : decode cJ9_max_7cf53 6 = .ok (.goto 4, 3) := by decide +kernel
theorem dJ9_max_7cf53_9 : decode cJ9_max_7cf53 9 = .ok (.iload_n 1, 1) := by decide +kernel
theorem dJ9_max_7cf53_10 : decode cJ9_max_7cf53 10 = .ok (.ireturn, 1) := by decide +kernel
theorem dJ9_max_f86c9_0 : decode cJ9_max_f86c9 0 = .ok (.lload_n 0, 1) := by decide +kernel
theorem dJ9_max_f86c9_1 : decode cJ9_max_f86c9 1 = .ok (.lload_n 2, 1) := by decide +kernel
theorem dJ9_max_f86c9_2 : decode cJ9_max_f86c9 2 = .ok (.lcmp, 1) := by decide +kernel
theorem dJ9_max_f86c9_3 : decode cJ9_max_f86c9 3 = .ok (.ifCond .lt 7, 3) := by decide +kernel
theorem dJ9_max_f86c9_6 : decode cJ9_max_f86c9 6 = .ok (.lload_n 0, 1) := by decide +kernel
theorem dJ9_max_f86c9_7 : decode cJ9_max_f86c9 7 = .ok (.goto 4, 3) := by decide +kernel
theorem dJ9_max_f86c9_10 : decode cJ9_max_f86c9 10 = .ok (.lload_n 2, 1) := by decide +kernel
theorem dJ9_max_f86c9_11 : decode cJ9_max_f86c9 11 = .ok (.lreturn, 1) := by decide +kernel
theorem dJ9_min_7cf53_0 : decode cJ9_min_7cf53 0 = .ok (.iload_n 0, 1) := by decide +kernel
theorem dJ9_min_7cf53_1 : decode cJ9_min_7cf53 1 = .ok (.iload_n 1, 1) := by decide +kernel
theorem dJ9_min_7cf53_2 : decode cJ9_min_7cf53 2 = .ok (.if_icmp .gt 7, 3) := by decide +kernel
theorem dJ9_min_7cf53_5 : decode cJ9_min_7cf53 5 = .ok (.iload_n 0, 1) := by decide +kernel
theorem dJ9_min_7cf53_6 : decode cJ9_min_7cf53 6 = .ok (.goto 4, 3) := by decide +kernel
theorem dJ9_min_7cf53_9 : decode cJ9_min_7cf53 9 = .ok (.iload_n 1, 1) := by decide +kernel
theorem dJ9_min_7cf53_10 : decode cJ9_min_7cf53 10 = .ok (.ireturn, 1) := by decide +kernel
theorem dJ9_min_f86c9_0 : decode cJ9_min_f86c9 0 = .ok (.lload_n 0, 1) := by decide +kernel
theorem dJ9_min_f86c9_1 : decode cJ9_min_f86c9 1 = .ok (.lload_n 2, 1) := by decide +kernel
theorem dJ9_min_f86c9_2 : decode cJ9_min_f86c9 2 = .ok (.lcmp, 1) := by decide +kernel
theorem dJ9_min_f86c9_3 : decode cJ9_min_f86c9 3 = .ok (.ifCond .gt 7, 3) := by decide +kernel
theorem dJ9_min_f86c9_6 : decode cJ9_min_f86c9 6 = .ok (.lload_n 0, 1) := by decide +kernel
theorem dJ9_min_f86c9_7 : decode cJ9_min_f86c9 7 = .ok (.goto 4, 3) := by decide +kernel
theorem dJ9_min_f86c9_10 : decode cJ9_min_f86c9 10 = .ok (.lload_n 2, 1) := by decide +kernel
theorem dJ9_min_f86c9_11 : decode cJ9_min_f86c9 11 = .ok (.lreturn, 1) := by decide +kernel
theorem dJ0_length_8abf5_0 : decode cJ0_length_8abf5 0 = .ok (.aload_n 0, 1) := by decide +kernel
theorem dJ0_length_8abf5_1 : decode cJ0_length_8abf5 1 = .ok (.getfield 9, 3) := by decide +kernel
theorem dJ0_length_8abf5_4 : decode cJ0_length_8abf5 4 = .ok (.arraylength, 1) := by decide +kernel
theorem dJ0_length_8abf5_5 : decode cJ0_length_8abf5 5 = .ok (.aload_n 0, 1) := by decide +kernel
theorem dJ0_length_8abf5_6 : decode cJ0_length_8abf5 6 = .ok (.invokevirtual 335, 3) := by decide +kernel
theorem dJ0_length_8abf5_9 : decode cJ0_length_8abf5 9 = .ok (.ishr, 1) := by decide +kernel
theorem dJ0_length_8abf5_10 : decode cJ0_length_8abf5 10 = .ok (.ireturn, 1) := by decide +kernel
theorem dJ0_charAt_5068e_0 : decode cJ0_charAt_5068e 0 = .ok (.aload_n 0, 1) := by decide +kernel
theorem dJ0_charAt_5068e_1 : decode cJ0_charAt_5068e 1 = .ok (.invokevirtual 492, 3) := by decide +kernel
theorem dJ0_charAt_5068e_4 : decode cJ0_charAt_5068e 4 = .ok (.ifCond .eq 12, 3) := by decide +kernel
theorem dJ0_charAt_5068e_7 : decode cJ0_charAt_5068e 7 = .ok (.aload_n 0, 1) := by decide +kernel
theorem dJ0_charAt_5068e_8 : decode cJ0_charAt_5068e 8 = .ok (.getfield 9, 3) := by decide +kernel
theorem dJ0_charAt_5068e_11 : decode cJ0_charAt_5068e 11 = .ok (.iload_n 1, 1) := by decide +kernel
theorem dJ0_charAt_5068e_12 : decode cJ0_charAt_5068e 12 = .ok (.invokestatic 495, 3) := by decide +kernel
theorem dJ0_charAt_5068e_15 : decode cJ0_charAt_5068e 15 = .ok (.ireturn, 1) := by decide +kernel
theorem dJ0_charAt_5068e_16 : decode cJ0_charAt_5068e 16 = .ok (.aload_n 0, 1) := by decide +kernel
theorem dJ0_charAt_5068e_17 : decode cJ0_charAt_5068e 17 = .ok (.getfield 9, 3) := by decide +kernel
theorem dJ0_charAt_5068e_20 : decode cJ0_charAt_5068e 20 = .ok (.iload_n 1, 1) := by decide +kernel
theorem dJ0_charAt_5068e_21 : decode cJ0_charAt_5068e 21 = .ok (.invokestatic 498, 3) := by decide +kernel
theorem dJ0_charAt_5068e_24 : decode cJ0_charAt_5068e 24 = .ok (.ireturn, 1) := by decide +kernel
theorem dJ0_coder_7d493_0 : decode cJ0_coder_7d493 0 = .ok (.getstatic 38, 3) := by decide +kernel
theorem dJ0_coder_7d493_3 : decode cJ0_coder_7d493 3 = .ok (.ifCond .eq 10, 3) := by decide +kernel
theorem dJ0_coder_7d493_6 : decode cJ0_coder_7d493 6 = .ok (.aload_n 0, 1) := by decide +kernel
theorem dJ0_coder_7d493_7 : decode cJ0_coder_7d493 7 = .ok (.getfield 15, 3) := by decide +kernel
theorem dJ0_coder_7d493_10 : decode cJ0_coder_7d493 10 = .ok (.goto 4, 3) := by decide +kernel
theorem dJ0_coder_7d493_13 : decode cJ0_coder_7d493 13 = .ok (.iconst 1, 1) := by decide +kernel
theorem dJ0_coder_7d493_14 : decode cJ0_coder_7d493 14 = .ok (.ireturn, 1) := by decide +kernel
theorem dJ0_isLatin1_aae02_0 : decode cJ0_isLatin1_aae02 0 = .ok (.getstatic 38, 3) := by decide +kernel
theorem dJ0_isLatin1_aae02_3 : decode cJ0_isLatin1_aae02 3 = .ok (.ifCond .eq 14, 3) := by decide +kernel
theorem dJ0_isLatin1_aae02_6 : decode cJ0_isLatin1_aae02 6 = .ok (.aload_n 0, 1) := by decide +kernel
theorem dJ0_isLatin1_aae02_7 : decode cJ0_isLatin1_aae02 7 = .ok (.getfield 15, 3) := by decide +kernel
theorem dJ0_isLatin1_aae02_10 : decode cJ0_isLatin1_aae02 10 = .ok (.ifCond .ne 7, 3) := by decide +kernel
theorem dJ0_isLatin1_aae02_13 : decode cJ0_isLatin1_aae02 13 = .ok (.iconst 1, 1) := by decide +kernel
theorem dJ0_isLatin1_aae02_14 : decode cJ0_isLatin1_aae02 14 = .ok (.goto 4, 3) := by decide +kernel
theorem dJ0_isLatin1_aae02_17 : decode cJ0_isLatin1_aae02 17 = .ok (.iconst 0, 1) := by decide +kernel
theorem dJ0_isLatin1_aae02_18 : decode cJ0_isLatin1_aae02 18 = .ok (.ireturn, 1) := by decide +kernel
theorem dJ0_checkIndex_df160_0 : decode cJ0_checkIndex_df160 0 = .ok (.iload_n 0, 1) := by decide +kernel
theorem dJ0_checkIndex_df160_1 : decode cJ0_checkIndex_df160 1 = .ok (.iload_n 1, 1) := by decide +kernel
theorem dJ0_checkIndex_df160_2 : decode cJ0_checkIndex_df160 2 = .ok (.getstatic 1053, 3) := by decide +kernel
theorem dJ0_checkIndex_df160_5 : decode cJ0_checkIndex_df160 5 = .ok (.invokestatic 1059, 3) := by decide +kernel
theorem dJ0_checkIndex_df160_8 : decode cJ0_checkIndex_df160 8 = .ok (.pop, 1) := by decide +kernel
theorem dJ0_checkIndex_df160_9 : decode cJ0_checkIndex_df160 9 = .ok (.return_, 1) := by decide +kernel
theorem dJ1_charAt_3b067_0 : decode cJ1_charAt_3b067 0 = .ok (.iload_n 1, 1) := by decide +kernel
theorem dJ1_charAt_3b067_1 : decode cJ1_charAt_3b067 1 = .ok (.aload_n 0, 1) := by decide +kernel
theorem dJ1_charAt_3b067_2 : decode cJ1_charAt_3b067 2 = .ok (.arraylength, 1) := by decide +kernel
theorem dJ1_charAt_3b067_3 : decode cJ1_charAt_3b067 3 = .ok (.invokestatic 9, 3) := by decide +kernel
theorem dJ1_charAt_3b067_6 : decode cJ1_charAt_3b067 6 = .ok (.aload_n 0, 1) := by decide +kernel
theorem dJ1_charAt_3b067_7 : decode cJ1_charAt_3b067 7 = .ok (.iload_n 1, 1) := by decide +kernel
theorem dJ1_charAt_3b067_8 : decode cJ1_charAt_3b067 8 = .ok (.baload, 1) := by decide +kernel
theorem dJ1_charAt_3b067_9 : decode cJ1_charAt_3b067 9 = .ok (.sipush 255, 3) := by decide +kernel
theorem dJ1_charAt_3b067_12 : decode cJ1_charAt_3b067 12 = .ok (.iand, 1) := by decide +kernel
theorem dJ1_charAt_3b067_13 : decode cJ1_charAt_3b067 13 = .ok (.i2c, 1) := by decide +kernel
theorem dJ1_charAt_3b067_14 : decode cJ1_charAt_3b067 14 = .ok (.ireturn, 1) := by decide +kernel
theorem dJ2_getChar_3b067_0 : decode cJ2_getChar_3b067 0 = .ok (.getstatic 44, 3) := by decide +kernel
theorem dJ2_getChar_3b067_3 : decode cJ2_getChar_3b067 3 = .ok (.ifCond .ne 25, 3) := by decide +kernel
theorem dJ2_getChar_3b067_6 : decode cJ2_getChar_3b067 6 = .ok (.iload_n 1, 1) := by decide +kernel
theorem dJ2_getChar_3b067_7 : decode cJ2_getChar_3b067 7 = .ok (.ifCond .lt 11, 3) := by decide +kernel
theorem dJ2_getChar_3b067_10 : decode cJ2_getChar_3b067 10 = .ok (.iload_n 1, 1) := by decide +kernel
theorem dJ2_getChar_3b067_11 : decode cJ2_getChar_3b067 11 = .ok (.aload_n 0, 1) := by decide +kernel
theorem dJ2_getChar_3b067_12 : decode cJ2_getChar_3b067 12 = .ok (.invokestatic 48, 3) := by decide +kernel
theorem dJ2_getChar_3b067_15 : decode cJ2_getChar_3b067 15 = .ok (.if_icmp .lt 13, 3) := by decide +kernel
theorem dJ2_getChar_3b067_18 : decode cJ2_getChar_3b067 18 = .ok (.new 52, 3) := by decide +kernel
theorem dJ2_getChar_3b067_21 : decode cJ2_getChar_3b067 21 = .ok (.dup, 1) := by decide +kernel
theorem dJ2_getChar_3b067_22 : decode cJ2_getChar_3b067 22 = .ok (.ldc 54, 2) := by decide +kernel
theorem dJ2_getChar_3b067_24 : decode cJ2_getChar_3b067 24 = .ok (.invokespecial 56, 3) := by decide +kernel
theorem dJ2_getChar_3b067_27 : decode cJ2_getChar_3b067 27 = .ok (.athrow, 1) := by decide +kernel
theorem dJ2_getChar_3b067_28 : decode cJ2_getChar_3b067 28 = .ok (.iload_n 1, 1) := by decide +kernel
theorem dJ2_getChar_3b067_29 : decode cJ2_getChar_3b067 29 = .ok (.iconst 1, 1) := by decide +kernel
theorem dJ2_getChar_3b067_30 : decode cJ2_getChar_3b067 30 = .ok (.ishl, 1) := by decide +kernel
theorem dJ2_getChar_3b067_31 : decode cJ2_getChar_3b067 31 = .ok (.istore_n 1, 1) := by decide +kernel
theorem dJ2_getChar_3b067_32 : decode cJ2_getChar_3b067 32 = .ok (.aload_n 0, 1) := by decide +kernel
theorem dJ2_getChar_3b067_33 : decode cJ2_getChar_3b067 33 = .ok (.iload_n 1, 1) := by decide +kernel
theorem dJ2_getChar_3b067_34 : decode cJ2_getChar_3b067 34 = .ok (.iinc 1 1, 3) := by decide +kernel
theorem dJ2_getChar_3b067_37 : decode cJ2_getChar_3b067 37 = .ok (.baload, 1) := by decide +kernel
theorem dJ2_getChar_3b067_38 : decode cJ2_getChar_3b067 38 = .ok (.sipush 255, 3) := by decide +kernel
theorem dJ2_getChar_3b067_41 : decode cJ2_getChar_3b067 41 = .ok (.iand, 1) := by decide +kernel
theorem dJ2_getChar_3b067_42 : decode cJ2_getChar_3b067 42 = .ok (.getstatic 59, 3) := by decide +kernel
theorem dJ2_getChar_3b067_45 : decode cJ2_getChar_3b067 45 = .ok (.ishl, 1) := by decide +kernel
theorem dJ2_getChar_3b067_46 : decode cJ2_getChar_3b067 46 = .ok (.aload_n 0, 1) := by decide +kernel
theorem dJ2_getChar_3b067_47 : decode cJ2_getChar_3b067 47 = .ok (.iload_n 1, 1) := by decide +kernel
theorem dJ2_getChar_3b067_48 : decode cJ2_getChar_3b067 48 = .ok (.baload, 1) := by decide +kernel
theorem dJ2_getChar_3b067_49 : decode cJ2_getChar_3b067 49 = .ok (.sipush 255, 3) := by decide +kernel
theorem dJ2_getChar_3b067_52 : decode cJ2_getChar_3b067 52 = .ok (.iand, 1) := by decide +kernel
theorem dJ2_getChar_3b067_53 : decode cJ2_getChar_3b067 53 = .ok (.getstatic 63, 3) := by decide +kernel
theorem dJ2_getChar_3b067_56 : decode cJ2_getChar_3b067 56 = .ok (.ishl, 1) := by decide +kernel
theorem dJ2_getChar_3b067_57 : decode cJ2_getChar_3b067 57 = .ok (.ior, 1) := by decide +kernel
theorem dJ2_getChar_3b067_58 : decode cJ2_getChar_3b067 58 = .ok (.i2c, 1) := by decide +kernel
theorem dJ2_getChar_3b067_59 : decode cJ2_getChar_3b067 59 = .ok (.ireturn, 1) := by decide +kernel
theorem dJ2_length_9d52b_0 : decode cJ2_length_9d52b 0 = .ok (.aload_n 0, 1) := by decide +kernel
theorem dJ2_length_9d52b_1 : decode cJ2_length_9d52b 1 = .ok (.arraylength, 1) := by decide +kernel
theorem dJ2_length_9d52b_2 : decode cJ2_length_9d52b 2 = .ok (.iconst 1, 1) := by decide +kernel
theorem dJ2_length_9d52b_3 : decode cJ2_length_9d52b 3 = .ok (.ishr, 1) := by decide +kernel
theorem dJ2_length_9d52b_4 : decode cJ2_length_9d52b 4 = .ok (.ireturn, 1) := by decide +kernel
theorem dJ2_charAt_3b067_0 : decode cJ2_charAt_3b067 0 = .ok (.iload_n 1, 1) := by decide +kernel
theorem dJ2_charAt_3b067_1 : decode cJ2_charAt_3b067 1 = .ok (.aload_n 0, 1) := by decide +kernel
theorem dJ2_charAt_3b067_2 : decode cJ2_charAt_3b067 2 = .ok (.invokestatic 67, 3) := by decide +kernel
theorem dJ2_charAt_3b067_5 : decode cJ2_charAt_3b067 5 = .ok (.aload_n 0, 1) := by decide +kernel
theorem dJ2_charAt_3b067_6 : decode cJ2_charAt_3b067 6 = .ok (.iload_n 1, 1) := by decide +kernel
theorem dJ2_charAt_3b067_7 : decode cJ2_charAt_3b067 7 = .ok (.invokestatic 71, 3) := by decide +kernel
theorem dJ2_charAt_3b067_10 : decode cJ2_charAt_3b067 10 = .ok (.ireturn, 1) := by decide +kernel
theorem dJ2_checkIndex_2214a_0 : decode cJ2_checkIndex_2214a 0 = .ok (.iload_n 0, 1) := by decide +kernel
theorem dJ2_checkIndex_2214a_1 : decode cJ2_checkIndex_2214a 1 = .ok (.aload_n 1, 1) := by decide +kernel
theorem dJ2_checkIndex_2214a_2 : decode cJ2_checkIndex_2214a 2 = .ok (.invokestatic 48, 3) := by decide +kernel
theorem dJ2_checkIndex_2214a_5 : decode cJ2_checkIndex_2214a 5 = .ok (.invokestatic 414, 3) := by decide +kernel
theorem dJ2_checkIndex_2214a_8 : decode cJ2_checkIndex_2214a 8 = .ok (.return_, 1) := by decide +kernel
theorem dJ3_checkIndex_8e157_0 : decode cJ3_checkIndex_8e157 0 = .ok (.iload_n 0, 1) := by decide +kernel
theorem dJ3_checkIndex_8e157_1 : decode cJ3_checkIndex_8e157 1 = .ok (.ifCond .lt 8, 3) := by decide +kernel
theorem dJ3_checkIndex_8e157_4 : decode cJ3_checkIndex_8e157 4 = .ok (.iload_n 0, 1) := by decide +kernel
theorem dJ3_checkIndex_8e157_5 : decode cJ3_checkIndex_8e157 5 = .ok (.iload_n 1, 1) := by decide +kernel
theorem dJ3_checkIndex_8e157_6 : decode cJ3_checkIndex_8e157 6 = .ok (.if_icmp .lt 10, 3) := by decide +kernel
theorem dJ3_checkIndex_8e157_9 : decode cJ3_checkIndex_8e157 9 = .ok (.aload_n 2, 1) := by decide +kernel
theorem dJ3_checkIndex_8e157_10 : decode cJ3_checkIndex_8e157 10 = .ok (.iload_n 0, 1) := by decide +kernel
theorem dJ3_checkIndex_8e157_11 : decode cJ3_checkIndex_8e157 11 = .ok (.iload_n 1, 1) := by decide +kernel
theorem dJ3_checkIndex_8e157_12 : decode cJ3_checkIndex_8e157 12 = .ok (.invokestatic 95, 3) := by decide +kernel
theorem dJ3_checkIndex_8e157_15 : decode cJ3_checkIndex_8e157 15 = .ok (.athrow, 1) := by decide +kernel
theorem dJ3_checkIndex_8e157_16 : decode cJ3_checkIndex_8e157 16 = .ok (.iload_n 0, 1) := by decide +kernel
theorem dJ3_checkIndex_8e157_17 : decode cJ3_checkIndex_8e157 17 = .ok (.ireturn, 1) := by decide +kernel
end
section
theorem dX6_init_0 : decode cX6_init 0 = .ok (.aload_n 0, 1) := by decide +kernel
theorem dX6_init_1 : decode cX6_init 1 = .ok (.invokespecial 1, 3) := by decide +kernel
theorem dX6_init_4 : decode cX6_init 4 = .ok (.aload_n 0, 1) := by decide +kernel
theorem dX6_init_5 : decode cX6_init 5 = .ok (.new 7, 3) := by decide +kernel
theorem dX6_init_8 : decode cX6_init 8 = .ok (.dup, 1) := by decide +kernel
theorem dX6_init_9 : decode cX6_init 9 = .ok (.invokespecial 9, 3) := by decide +kernel
theorem dX6_init_12 : decode cX6_init 12 = .ok (.putfield 10, 3) := by decide +kernel
theorem dX6_init_15 : decode cX6_init 15 = .ok (.aload_n 0, 1) := by decide +kernel
theorem dX6_init_16 : decode cX6_init 16 = .ok (.new 16, 3) := by decide +kernel
theorem dX6_init_19 : decode cX6_init 19 = .ok (.dup, 1) := by decide +kernel
theorem dX6_init_20 : decode cX6_init 20 = .ok (.invokespecial 18, 3) := by decide +kernel
theorem dX6_init_23 : decode cX6_init 23 = .ok (.putfield 19, 3) := by decide +kernel
theorem dX6_init_26 : decode cX6_init 26 = .ok (.aload_n 0, 1) := by decide +kernel
theorem dX6_init_27 : decode cX6_init 27 = .ok (.new 23, 3) := by decide +kernel
theorem dX6_init_30 : decode cX6_init 30 = .ok (.dup, 1) := by decide +kernel
theorem dX6_init_31 : decode cX6_init 31 = .ok (.invokespecial 25, 3) := by decide +kernel
theorem dX6_init_34 : decode cX6_init 34 = .ok (.putfield 26, 3) := by decide +kernel
theorem dX6_init_37 : decode cX6_init 37 = .ok (.aload_n 0, 1) := by decide +kernel
theorem dX6_init_38 : decode cX6_init 38 = .ok (.new 30, 3) := by decide +kernel
theorem dX6_init_41 : decode cX6_init 41 = .ok (.dup, 1) := by decide +kernel
theorem dX6_init_42 : decode cX6_init 42 = .ok (.invokespecial 32, 3) := by decide +kernel
theorem dX6_init_45 : decode cX6_init 45 = .ok (.putfield 33, 3) := by decide +kernel
theorem dX6_init_48 : decode cX6_init 48 = .ok (.aload_n 0, 1) := by decide +kernel
theorem dX6_init_49 : decode cX6_init 49 = .ok (.new 37, 3) := by decide +kernel
theorem dX6_init_52 : decode cX6_init 52 = .ok (.dup, 1) := by decide +kernel
theorem dX6_init_53 : decode cX6_init 53 = .ok (.invokespecial 39, 3) := by decide +kernel
theorem dX6_init_56 : decode cX6_init 56 = .ok (.putfield 40, 3) := by decide +kernel
theorem dX6_init_59 : decode cX6_init 59 = .ok (.aload_n 0, 1) := by decide +kernel
theorem dX6_init_60 : decode cX6_init 60 = .ok (.iconst 4, 1) := by decide +kernel
theorem dX6_init_61 : decode cX6_init 61 = .ok (.anewarray 44, 3) := by decide +kernel
theorem dX6_init_64 : decode cX6_init 64 = .ok (.putfield 46, 3) := by decide +kernel
theorem dX6_init_67 : decode cX6_init 67 = .ok (.aload_n 0, 1) := by decide +kernel
theorem dX6_init_68 : decode cX6_init 68 = .ok (.iconst 5, 1) := by decide +kernel
theorem dX6_init_69 : decode cX6_init 69 = .ok (.newarray .int, 2) := by decide +kernel
theorem dX6_init_71 : decode cX6_init 71 = .ok (.putfield 50, 3) := by decide +kernel
theorem dX6_init_74 : decode cX6_init 74 = .ok (.aload_n 0, 1) := by decide +kernel
theorem dX6_init_75 : decode cX6_init 75 = .ok (.iconst 0, 1) := by decide +kernel
theorem dX6_init_76 : decode cX6_init 76 = .ok (.putfield 54, 3) := by decide +kernel
theorem dX6_init_79 : decode cX6_init 79 = .ok (.aload_n 0, 1) := by decide +kernel
theorem dX6_init_80 : decode cX6_init 80 = .ok (.iconst 0, 1) := by decide +kernel
theorem dX6_init_81 : decode cX6_init 81 = .ok (.putfield 58, 3) := by decide +kernel
theorem dX6_init_84 : decode cX6_init 84 = .ok (.aload_n 0, 1) := by decide +kernel
theorem dX6_init_85 : decode cX6_init 85 = .ok (.iconst 0, 1) := by decide +kernel
theorem dX6_init_86 : decode cX6_init 86 = .ok (.putfield 61, 3) := by decide +kernel
theorem dX6_init_89 : decode cX6_init 89 = .ok (.aload_n 0, 1) := by decide +kernel
theorem dX6_init_90 : decode cX6_init 90 = .ok (.iconst 0, 1) := by decide +kernel
theorem dX6_init_91 : decode cX6_init 91 = .ok (.putfield 64, 3) := by decide +kernel
theorem dX6_init_94 : decode cX6_init 94 = .ok (.aload_n 0, 1) := by decide +kernel
theorem dX6_init_95 : decode cX6_init 95 = .ok (.iconst 1, 1) := by decide +kernel
theorem dX6_init_96 : decode cX6_init 96 = .ok (.putfield 67, 3) := by decide +kernel
theorem dX6_init_99 : decode cX6_init 99 = .ok (.iconst 0, 1) := by decide +kernel
theorem dX6_init_100 : decode cX6_init 100 = .ok (.istore_n 1, 1) := by decide +kernel
theorem dX6_init_101 : decode cX6_init 101 = .ok (.iload_n 1, 1) := by decide +kernel
theorem dX6_init_102 : decode cX6_init 102 = .ok (.iconst 4, 1) := by decide +kernel
theorem dX6_init_103 : decode cX6_init 103 = .ok (.if_icmp .ge 22, 3) := by decide +kernel
theorem dX6_init_106 : decode cX6_init 106 = .ok (.aload_n 0, 1) := by decide +kernel
theorem dX6_init_107 : decode cX6_init 107 = .ok (.getfield 46, 3) := by decide +kernel
theorem dX6_init_110 : decode cX6_init 110 = .ok (.iload_n 1, 1) := by decide +kernel
theorem dX6_init_111 : decode cX6_init 111 = .ok (.new 44, 3) := by decide +kernel
theorem dX6_init_114 : decode cX6_init 114 = .ok (.dup, 1) := by decide +kernel
theorem dX6_init_115 : decode cX6_init 115 = .ok (.invokespecial 71, 3) := by decide +kernel
theorem dX6_init_118 : decode cX6_init 118 = .ok (.aastore, 1) := by decide +kernel
theorem dX6_init_119 : decode cX6_init 119 = .ok (.iinc 1 1, 3) := by decide +kernel
theorem dX6_init_122 : decode cX6_init 122 = .ok (.goto (-21), 3) := by decide +kernel
theorem dX6_init_125 : decode cX6_init 125 = .ok (.return_, 1) := by decide +kernel
theorem dX6_edge_0 : decode cX6_edge 0 = .ok (.iload_n 1, 1) := by decide +kernel
theorem dX6_edge_1 : decode cX6_edge 1 = .ok (.invokestatic 72, 3) := by decide +kernel
theorem dX6_edge_4 : decode cX6_edge 4 = .ok (.ifCond .ne 6, 3) := by decide +kernel
theorem dX6_edge_7 : decode cX6_edge 7 = .ok (.bipush (-2), 2) := by decide +kernel
theorem dX6_edge_9 : decode cX6_edge 9 = .ok (.ireturn, 1) := by decide +kernel
theorem dX6_edge_10 : decode cX6_edge 10 = .ok (.aload_n 0, 1) := by decide +kernel
theorem dX6_edge_11 : decode cX6_edge 11 = .ok (.getfield 10, 3) := by decide +kernel
theorem dX6_edge_14 : decode cX6_edge 14 = .ok (.iload_n 1, 1) := by decide +kernel
theorem dX6_edge_15 : decode cX6_edge 15 = .ok (.invokevirtual 76, 3) := by decide +kernel
theorem dX6_edge_18 : decode cX6_edge 18 = .ok (.ifCond .eq 6, 3) := by decide +kernel
theorem dX6_edge_21 : decode cX6_edge 21 = .ok (.bipush (-3), 2) := by decide +kernel
theorem dX6_edge_23 : decode cX6_edge 23 = .ok (.ireturn, 1) := by decide +kernel
theorem dX6_edge_24 : decode cX6_edge 24 = .ok (.aload_n 0, 1) := by decide +kernel
theorem dX6_edge_25 : decode cX6_edge 25 = .ok (.getfield 10, 3) := by decide +kernel
theorem dX6_edge_28 : decode cX6_edge 28 = .ok (.invokevirtual 79, 3) := by decide +kernel
theorem dX6_edge_31 : decode cX6_edge 31 = .ok (.ifCond .eq 6, 3) := by decide +kernel
theorem dX6_edge_34 : decode cX6_edge 34 = .ok (.bipush (-4), 2) := by decide +kernel
theorem dX6_edge_36 : decode cX6_edge 36 = .ok (.ireturn, 1) := by decide +kernel
theorem dX6_edge_37 : decode cX6_edge 37 = .ok (.aload_n 0, 1) := by decide +kernel
theorem dX6_edge_38 : decode cX6_edge 38 = .ok (.iconst 1, 1) := by decide +kernel
theorem dX6_edge_39 : decode cX6_edge 39 = .ok (.putfield 67, 3) := by decide +kernel
theorem dX6_edge_42 : decode cX6_edge 42 = .ok (.aload_n 0, 1) := by decide +kernel
theorem dX6_edge_43 : decode cX6_edge 43 = .ok (.getfield 10, 3) := by decide +kernel
theorem dX6_edge_46 : decode cX6_edge 46 = .ok (.iload_n 1, 1) := by decide +kernel
theorem dX6_edge_47 : decode cX6_edge 47 = .ok (.invokevirtual 83, 3) := by decide +kernel
theorem dX6_edge_50 : decode cX6_edge 50 = .ok (.ireturn, 1) := by decide +kernel
theorem dX6_edges_0 : decode cX6_edges 0 = .ok (.iload_n 1, 1) := by decide +kernel
theorem dX6_edges_1 : decode cX6_edges 1 = .ok (.invokestatic 72, 3) := by decide +kernel
theorem dX6_edges_4 : decode cX6_edges 4 = .ok (.ifCond .eq 24, 3) := by decide +kernel
theorem dX6_edges_7 : decode cX6_edges 7 = .ok (.iload_n 2, 1) := by decide +kernel
theorem dX6_edges_8 : decode cX6_edges 8 = .ok (.iconst 1, 1) := by decide +kernel
theorem dX6_edges_9 : decode cX6_edges 9 = .ok (.sipush 600, 3) := by decide +kernel
theorem dX6_edges_12 : decode cX6_edges 12 = .ok (.invokestatic 87, 3) := by decide +kernel
theorem dX6_edges_15 : decode cX6_edges 15 = .ok (.ifCond .eq 13, 3) := by decide +kernel
theorem dX6_edges_18 : decode cX6_edges 18 = .ok (.iload_n 3, 1) := by decide +kernel
theorem dX6_edges_19 : decode cX6_edges 19 = .ok (.iconst 1, 1) := by decide +kernel
theorem dX6_edges_20 : decode cX6_edges 20 = .ok (.bipush 32, 2) := by decide +kernel
theorem dX6_edges_22 : decode cX6_edges 22 = .ok (.invokestatic 87, 3) := by decide +kernel
theorem dX6_edges_25 : decode cX6_edges 25 = .ok (.ifCond .ne 6, 3) := by decide +kernel
theorem dX6_edges_28 : decode cX6_edges 28 = .ok (.bipush (-2), 2) := by decide +kernel
theorem dX6_edges_30 : decode cX6_edges 30 = .ok (.ireturn, 1) := by decide +kernel
theorem dX6_edges_31 : decode cX6_edges 31 = .ok (.aload_n 0, 1) := by decide +kernel
theorem dX6_edges_32 : decode cX6_edges 32 = .ok (.iconst 1, 1) := by decide +kernel
theorem dX6_edges_33 : decode cX6_edges 33 = .ok (.putfield 67, 3) := by decide +kernel
theorem dX6_edges_36 : decode cX6_edges 36 = .ok (.iconst 0, 1) := by decide +kernel
theorem dX6_edges_37 : decode cX6_edges 37 = .ok (.istore 4, 2) := by decide +kernel
theorem dX6_edges_39 : decode cX6_edges 39 = .ok (.iload 4, 2) := by decide +kernel
theorem dX6_edges_41 : decode cX6_edges 41 = .ok (.iload_n 3, 1) := by decide +kernel
theorem dX6_edges_42 : decode cX6_edges 42 = .ok (.if_icmp .ge 60, 3) := by decide +kernel
theorem dX6_edges_45 : decode cX6_edges 45 = .ok (.iload_n 1, 1) := by decide +kernel
theorem dX6_edges_46 : decode cX6_edges 46 = .ok (.iload 4, 2) := by decide +kernel
theorem dX6_edges_48 : decode cX6_edges 48 = .ok (.iload_n 2, 1) := by decide +kernel
theorem dX6_edges_49 : decode cX6_edges 49 = .ok (.imul, 1) := by decide +kernel
theorem dX6_edges_50 : decode cX6_edges 50 = .ok (.iadd, 1) := by decide +kernel
theorem dX6_edges_51 : decode cX6_edges 51 = .ok (.istore 5, 2) := by decide +kernel
theorem dX6_edges_53 : decode cX6_edges 53 = .ok (.aload_n 0, 1) := by decide +kernel
theorem dX6_edges_54 : decode cX6_edges 54 = .ok (.getfield 10, 3) := by decide +kernel
theorem dX6_edges_57 : decode cX6_edges 57 = .ok (.invokevirtual 79, 3) := by decide +kernel
theorem dX6_edges_60 : decode cX6_edges 60 = .ok (.ifCond .ne 23, 3) := by decide +kernel
theorem dX6_edges_63 : decode cX6_edges 63 = .ok (.iload 5, 2) := by decide +kernel
theorem dX6_edges_65 : decode cX6_edges 65 = .ok (.invokestatic 72, 3) := by decide +kernel
theorem dX6_edges_68 : decode cX6_edges 68 = .ok (.ifCond .eq 15, 3) := by decide +kernel
theorem dX6_edges_71 : decode cX6_edges 71 = .ok (.aload_n 0, 1) := by decide +kernel
theorem dX6_edges_72 : decode cX6_edges 72 = .ok (.getfield 10, 3) := by decide +kernel
theorem dX6_edges_75 : decode cX6_edges 75 = .ok (.iload 5, 2) := by decide +kernel
theorem dX6_edges_77 : decode cX6_edges 77 = .ok (.invokevirtual 76, 3) := by decide +kernel
theorem dX6_edges_80 : decode cX6_edges 80 = .ok (.ifCond .eq 6, 3) := by decide +kernel
theorem dX6_edges_83 : decode cX6_edges 83 = .ok (.iload 4, 2) := by decide +kernel
theorem dX6_edges_85 : decode cX6_edges 85 = .ok (.ireturn, 1) := by decide +kernel
theorem dX6_edges_86 : decode cX6_edges 86 = .ok (.aload_n 0, 1) := by decide +kernel
theorem dX6_edges_87 : decode cX6_edges 87 = .ok (.getfield 10, 3) := by decide +kernel
theorem dX6_edges_90 : decode cX6_edges 90 = .ok (.iload 5, 2) := by decide +kernel
theorem dX6_edges_92 : decode cX6_edges 92 = .ok (.invokevirtual 83, 3) := by decide +kernel
theorem dX6_edges_95 : decode cX6_edges 95 = .ok (.pop, 1) := by decide +kernel
theorem dX6_edges_96 : decode cX6_edges 96 = .ok (.iinc 4 1, 3) := by decide +kernel
theorem dX6_edges_99 : decode cX6_edges 99 = .ok (.goto (-60), 3) := by decide +kernel
theorem dX6_edges_102 : decode cX6_edges 102 = .ok (.iload_n 3, 1) := by decide +kernel
theorem dX6_edges_103 : decode cX6_edges 103 = .ok (.ireturn, 1) := by decide +kernel
theorem dX6_gone_0 : decode cX6_gone 0 = .ok (.aload_n 0, 1) := by decide +kernel
theorem dX6_gone_1 : decode cX6_gone 1 = .ok (.iload_n 1, 1) := by decide +kernel
theorem dX6_gone_2 : decode cX6_gone 2 = .ok (.invokevirtual 91, 3) := by decide +kernel
theorem dX6_gone_5 : decode cX6_gone 5 = .ok (.ifCond .ne 6, 3) := by decide +kernel
theorem dX6_gone_8 : decode cX6_gone 8 = .ok (.bipush (-2), 2) := by decide +kernel
theorem dX6_gone_10 : decode cX6_gone 10 = .ok (.ireturn, 1) := by decide +kernel
theorem dX6_gone_11 : decode cX6_gone 11 = .ok (.aload_n 0, 1) := by decide +kernel
theorem dX6_gone_12 : decode cX6_gone 12 = .ok (.iconst 1, 1) := by decide +kernel
theorem dX6_gone_13 : decode cX6_gone 13 = .ok (.putfield 67, 3) := by decide +kernel
theorem dX6_gone_16 : decode cX6_gone 16 = .ok (.aload_n 0, 1) := by decide +kernel
theorem dX6_gone_17 : decode cX6_gone 17 = .ok (.getfield 10, 3) := by decide +kernel
theorem dX6_gone_20 : decode cX6_gone 20 = .ok (.iload_n 1, 1) := by decide +kernel
theorem dX6_gone_21 : decode cX6_gone 21 = .ok (.invokevirtual 94, 3) := by decide +kernel
theorem dX6_gone_24 : decode cX6_gone 24 = .ok (.ireturn, 1) := by decide +kernel
theorem dX6_clear_0 : decode cX6_clear 0 = .ok (.aload_n 0, 1) := by decide +kernel
theorem dX6_clear_1 : decode cX6_clear 1 = .ok (.getfield 10, 3) := by decide +kernel
theorem dX6_clear_4 : decode cX6_clear 4 = .ok (.getfield 97, 3) := by decide +kernel
theorem dX6_clear_7 : decode cX6_clear 7 = .ok (.istore_n 1, 1) := by decide +kernel
theorem dX6_clear_8 : decode cX6_clear 8 = .ok (.aload_n 0, 1) := by decide +kernel
theorem dX6_clear_9 : decode cX6_clear 9 = .ok (.getfield 10, 3) := by decide +kernel
theorem dX6_clear_12 : decode cX6_clear 12 = .ok (.iconst 0, 1) := by decide +kernel
theorem dX6_clear_13 : decode cX6_clear 13 = .ok (.putfield 97, 3) := by decide +kernel
theorem dX6_clear_16 : decode cX6_clear 16 = .ok (.aload_n 0, 1) := by decide +kernel
theorem dX6_clear_17 : decode cX6_clear 17 = .ok (.iconst 1, 1) := by decide +kernel
theorem dX6_clear_18 : decode cX6_clear 18 = .ok (.putfield 67, 3) := by decide +kernel
theorem dX6_clear_21 : decode cX6_clear 21 = .ok (.iload_n 1, 1) := by decide +kernel
theorem dX6_clear_22 : decode cX6_clear 22 = .ok (.ireturn, 1) := by decide +kernel
theorem dX6_cut_0 : decode cX6_cut 0 = .ok (.iload_n 1, 1) := by decide +kernel
theorem dX6_cut_1 : decode cX6_cut 1 = .ok (.iconst 1, 1) := by decide +kernel
theorem dX6_cut_2 : decode cX6_cut 2 = .ok (.bipush 59, 2) := by decide +kernel
theorem dX6_cut_4 : decode cX6_cut 4 = .ok (.invokestatic 87, 3) := by decide +kernel
theorem dX6_cut_7 : decode cX6_cut 7 = .ok (.ifCond .ne 6, 3) := by decide +kernel
theorem dX6_cut_10 : decode cX6_cut 10 = .ok (.bipush (-2), 2) := by decide +kernel
theorem dX6_cut_12 : decode cX6_cut 12 = .ok (.ireturn, 1) := by decide +kernel
theorem dX6_cut_13 : decode cX6_cut 13 = .ok (.aload_n 0, 1) := by decide +kernel
theorem dX6_cut_14 : decode cX6_cut 14 = .ok (.getfield 19, 3) := by decide +kernel
theorem dX6_cut_17 : decode cX6_cut 17 = .ok (.iload_n 1, 1) := by decide +kernel
theorem dX6_cut_18 : decode cX6_cut 18 = .ok (.invokevirtual 100, 3) := by decide +kernel
theorem dX6_cut_21 : decode cX6_cut 21 = .ok (.istore_n 2, 1) := by decide +kernel
theorem dX6_cut_22 : decode cX6_cut 22 = .ok (.aload_n 0, 1) := by decide +kernel
theorem dX6_cut_23 : decode cX6_cut 23 = .ok (.getfield 19, 3) := by decide +kernel
theorem dX6_cut_26 : decode cX6_cut 26 = .ok (.getfield 103, 3) := by decide +kernel
theorem dX6_cut_29 : decode cX6_cut 29 = .ok (.iload_n 2, 1) := by decide +kernel
theorem dX6_cut_30 : decode cX6_cut 30 = .ok (.iaload, 1) := by decide +kernel
theorem dX6_cut_31 : decode cX6_cut 31 = .ok (.iload_n 1, 1) := by decide +kernel
theorem dX6_cut_32 : decode cX6_cut 32 = .ok (.if_icmp .ne 14, 3) := by decide +kernel
theorem dX6_cut_35 : decode cX6_cut 35 = .ok (.aload_n 0, 1) := by decide +kernel
theorem dX6_cut_36 : decode cX6_cut 36 = .ok (.getfield 19, 3) := by decide +kernel
theorem dX6_cut_39 : decode cX6_cut 39 = .ok (.iload_n 2, 1) := by decide +kernel
theorem dX6_cut_40 : decode cX6_cut 40 = .ok (.invokevirtual 106, 3) := by decide +kernel
theorem dX6_cut_43 : decode cX6_cut 43 = .ok (.goto 30, 3) := by decide +kernel
theorem dX6_cut_46 : decode cX6_cut 46 = .ok (.aload_n 0, 1) := by decide +kernel
theorem dX6_cut_47 : decode cX6_cut 47 = .ok (.getfield 19, 3) := by decide +kernel
theorem dX6_cut_50 : decode cX6_cut 50 = .ok (.getfield 110, 3) := by decide +kernel
theorem dX6_cut_53 : decode cX6_cut 53 = .ok (.bipush 12, 2) := by decide +kernel
theorem dX6_cut_55 : decode cX6_cut 55 = .ok (.if_icmp .ge 15, 3) := by decide +kernel
theorem dX6_cut_58 : decode cX6_cut 58 = .ok (.aload_n 0, 1) := by decide +kernel
theorem dX6_cut_59 : decode cX6_cut 59 = .ok (.getfield 19, 3) := by decide +kernel
theorem dX6_cut_62 : decode cX6_cut 62 = .ok (.iload_n 2, 1) := by decide +kernel
theorem dX6_cut_63 : decode cX6_cut 63 = .ok (.iload_n 1, 1) := by decide +kernel
theorem dX6_cut_64 : decode cX6_cut 64 = .ok (.invokevirtual 111, 3) := by decide +kernel
theorem dX6_cut_67 : decode cX6_cut 67 = .ok (.goto 6, 3) := by decide +kernel
theorem dX6_cut_70 : decode cX6_cut 70 = .ok (.bipush (-4), 2) := by decide +kernel
theorem dX6_cut_72 : decode cX6_cut 72 = .ok (.ireturn, 1) := by decide +kernel
theorem dX6_cut_73 : decode cX6_cut 73 = .ok (.aload_n 0, 1) := by decide +kernel
theorem dX6_cut_74 : decode cX6_cut 74 = .ok (.iconst 1, 1) := by decide +kernel
theorem dX6_cut_75 : decode cX6_cut 75 = .ok (.putfield 67, 3) := by decide +kernel
theorem dX6_cut_78 : decode cX6_cut 78 = .ok (.aload_n 0, 1) := by decide +kernel
theorem dX6_cut_79 : decode cX6_cut 79 = .ok (.getfield 19, 3) := by decide +kernel
theorem dX6_cut_82 : decode cX6_cut 82 = .ok (.getfield 110, 3) := by decide +kernel
theorem dX6_cut_85 : decode cX6_cut 85 = .ok (.ireturn, 1) := by decide +kernel
theorem dX6_hit_0 : decode cX6_hit 0 = .ok (.iload_n 1, 1) := by decide +kernel
theorem dX6_hit_1 : decode cX6_hit 1 = .ok (.invokestatic 115, 3) := by decide +kernel
theorem dX6_hit_4 : decode cX6_hit 4 = .ok (.ifCond .eq 13, 3) := by decide +kernel
theorem dX6_hit_7 : decode cX6_hit 7 = .ok (.iload_n 2, 1) := by decide +kernel
theorem dX6_hit_8 : decode cX6_hit 8 = .ok (.iconst 1, 1) := by decide +kernel
theorem dX6_hit_9 : decode cX6_hit 9 = .ok (.bipush 99, 2) := by decide +kernel
theorem dX6_hit_11 : decode cX6_hit 11 = .ok (.invokestatic 87, 3) := by decide +kernel
theorem dX6_hit_14 : decode cX6_hit 14 = .ok (.ifCond .ne 6, 3) := by decide +kernel
theorem dX6_hit_17 : decode cX6_hit 17 = .ok (.bipush (-2), 2) := by decide +kernel
theorem dX6_hit_19 : decode cX6_hit 19 = .ok (.ireturn, 1) := by decide +kernel
theorem dX6_hit_20 : decode cX6_hit 20 = .ok (.aload_n 0, 1) := by decide +kernel
theorem dX6_hit_21 : decode cX6_hit 21 = .ok (.getfield 19, 3) := by decide +kernel
theorem dX6_hit_24 : decode cX6_hit 24 = .ok (.getfield 118, 3) := by decide +kernel
theorem dX6_hit_27 : decode cX6_hit 27 = .ok (.iload_n 2, 1) := by decide +kernel
theorem dX6_hit_28 : decode cX6_hit 28 = .ok (.iadd, 1) := by decide +kernel
theorem dX6_hit_29 : decode cX6_hit 29 = .ok (.sipush 400, 3) := by decide +kernel
theorem dX6_hit_32 : decode cX6_hit 32 = .ok (.if_icmp .le 6, 3) := by decide +kernel
theorem dX6_hit_35 : decode cX6_hit 35 = .ok (.bipush (-4), 2) := by decide +kernel
theorem dX6_hit_37 : decode cX6_hit 37 = .ok (.ireturn, 1) := by decide +kernel
theorem dX6_hit_38 : decode cX6_hit 38 = .ok (.aload_n 0, 1) := by decide +kernel
theorem dX6_hit_39 : decode cX6_hit 39 = .ok (.iconst 1, 1) := by decide +kernel
theorem dX6_hit_40 : decode cX6_hit 40 = .ok (.putfield 67, 3) := by decide +kernel
theorem dX6_hit_43 : decode cX6_hit 43 = .ok (.aload_n 0, 1) := by decide +kernel
theorem dX6_hit_44 : decode cX6_hit 44 = .ok (.getfield 19, 3) := by decide +kernel
theorem dX6_hit_47 : decode cX6_hit 47 = .ok (.iload_n 1, 1) := by decide +kernel
theorem dX6_hit_48 : decode cX6_hit 48 = .ok (.iload_n 2, 1) := by decide +kernel
theorem dX6_hit_49 : decode cX6_hit 49 = .ok (.invokevirtual 121, 3) := by decide +kernel
theorem dX6_hit_52 : decode cX6_hit 52 = .ok (.ireturn, 1) := by decide +kernel
theorem dX6_sweep_0 : decode cX6_sweep 0 = .ok (.iload_n 1, 1) := by decide +kernel
theorem dX6_sweep_1 : decode cX6_sweep 1 = .ok (.iconst 1, 1) := by decide +kernel
theorem dX6_sweep_2 : decode cX6_sweep 2 = .ok (.bipush 59, 2) := by decide +kernel
theorem dX6_sweep_4 : decode cX6_sweep 4 = .ok (.invokestatic 87, 3) := by decide +kernel
theorem dX6_sweep_7 : decode cX6_sweep 7 = .ok (.ifCond .eq 14, 3) := by decide +kernel
theorem dX6_sweep_10 : decode cX6_sweep 10 = .ok (.iload_n 2, 1) := by decide +kernel
theorem dX6_sweep_11 : decode cX6_sweep 11 = .ok (.iconst 1, 1) := by decide +kernel
theorem dX6_sweep_12 : decode cX6_sweep 12 = .ok (.sipush 400, 3) := by decide +kernel
theorem dX6_sweep_15 : decode cX6_sweep 15 = .ok (.invokestatic 87, 3) := by decide +kernel
theorem dX6_sweep_18 : decode cX6_sweep 18 = .ok (.ifCond .ne 6, 3) := by decide +kernel
theorem dX6_sweep_21 : decode cX6_sweep 21 = .ok (.bipush (-2), 2) := by decide +kernel
theorem dX6_sweep_23 : decode cX6_sweep 23 = .ok (.ireturn, 1) := by decide +kernel
theorem dX6_sweep_24 : decode cX6_sweep 24 = .ok (.aload_n 0, 1) := by decide +kernel
theorem dX6_sweep_25 : decode cX6_sweep 25 = .ok (.getfield 19, 3) := by decide +kernel
theorem dX6_sweep_28 : decode cX6_sweep 28 = .ok (.getfield 118, 3) := by decide +kernel
theorem dX6_sweep_31 : decode cX6_sweep 31 = .ok (.iload_n 2, 1) := by decide +kernel
theorem dX6_sweep_32 : decode cX6_sweep 32 = .ok (.iadd, 1) := by decide +kernel
theorem dX6_sweep_33 : decode cX6_sweep 33 = .ok (.sipush 400, 3) := by decide +kernel
theorem dX6_sweep_36 : decode cX6_sweep 36 = .ok (.if_icmp .le 6, 3) := by decide +kernel
theorem dX6_sweep_39 : decode cX6_sweep 39 = .ok (.bipush (-4), 2) := by decide +kernel
theorem dX6_sweep_41 : decode cX6_sweep 41 = .ok (.ireturn, 1) := by decide +kernel
theorem dX6_sweep_42 : decode cX6_sweep 42 = .ok (.aload_n 0, 1) := by decide +kernel
theorem dX6_sweep_43 : decode cX6_sweep 43 = .ok (.iconst 1, 1) := by decide +kernel
theorem dX6_sweep_44 : decode cX6_sweep 44 = .ok (.putfield 67, 3) := by decide +kernel
theorem dX6_sweep_47 : decode cX6_sweep 47 = .ok (.iconst 0, 1) := by decide +kernel
theorem dX6_sweep_48 : decode cX6_sweep 48 = .ok (.istore_n 3, 1) := by decide +kernel
theorem dX6_sweep_49 : decode cX6_sweep 49 = .ok (.iload_n 3, 1) := by decide +kernel
theorem dX6_sweep_50 : decode cX6_sweep 50 = .ok (.iload_n 2, 1) := by decide +kernel
theorem dX6_sweep_51 : decode cX6_sweep 51 = .ok (.if_icmp .ge 24, 3) := by decide +kernel
theorem dX6_sweep_54 : decode cX6_sweep 54 = .ok (.aload_n 0, 1) := by decide +kernel
theorem dX6_sweep_55 : decode cX6_sweep 55 = .ok (.getfield 19, 3) := by decide +kernel
theorem dX6_sweep_58 : decode cX6_sweep 58 = .ok (.iload_n 3, 1) := by decide +kernel
theorem dX6_sweep_59 : decode cX6_sweep 59 = .ok (.iload_n 1, 1) := by decide +kernel
theorem dX6_sweep_60 : decode cX6_sweep 60 = .ok (.imul, 1) := by decide +kernel
theorem dX6_sweep_61 : decode cX6_sweep 61 = .ok (.bipush 60, 2) := by decide +kernel
theorem dX6_sweep_63 : decode cX6_sweep 63 = .ok (.irem, 1) := by decide +kernel
theorem dX6_sweep_64 : decode cX6_sweep 64 = .ok (.iconst 1, 1) := by decide +kernel
theorem dX6_sweep_65 : decode cX6_sweep 65 = .ok (.invokevirtual 121, 3) := by decide +kernel
theorem dX6_sweep_68 : decode cX6_sweep 68 = .ok (.pop, 1) := by decide +kernel
theorem dX6_sweep_69 : decode cX6_sweep 69 = .ok (.iinc 3 1, 3) := by decide +kernel
theorem dX6_sweep_72 : decode cX6_sweep 72 = .ok (.goto (-23), 3) := by decide +kernel
theorem dX6_sweep_75 : decode cX6_sweep 75 = .ok (.aload_n 0, 1) := by decide +kernel
theorem dX6_sweep_76 : decode cX6_sweep 76 = .ok (.getfield 19, 3) := by decide +kernel
theorem dX6_sweep_79 : decode cX6_sweep 79 = .ok (.getfield 118, 3) := by decide +kernel
theorem dX6_sweep_82 : decode cX6_sweep 82 = .ok (.ireturn, 1) := by decide +kernel
theorem dX6_fresh_0 : decode cX6_fresh 0 = .ok (.aload_n 0, 1) := by decide +kernel
theorem dX6_fresh_1 : decode cX6_fresh 1 = .ok (.getfield 19, 3) := by decide +kernel
theorem dX6_fresh_4 : decode cX6_fresh 4 = .ok (.getfield 118, 3) := by decide +kernel
theorem dX6_fresh_7 : decode cX6_fresh 7 = .ok (.istore_n 1, 1) := by decide +kernel
theorem dX6_fresh_8 : decode cX6_fresh 8 = .ok (.aload_n 0, 1) := by decide +kernel
theorem dX6_fresh_9 : decode cX6_fresh 9 = .ok (.getfield 19, 3) := by decide +kernel
theorem dX6_fresh_12 : decode cX6_fresh 12 = .ok (.invokevirtual 125, 3) := by decide +kernel
theorem dX6_fresh_15 : decode cX6_fresh 15 = .ok (.aload_n 0, 1) := by decide +kernel
theorem dX6_fresh_16 : decode cX6_fresh 16 = .ok (.iconst 1, 1) := by decide +kernel
theorem dX6_fresh_17 : decode cX6_fresh 17 = .ok (.putfield 67, 3) := by decide +kernel
theorem dX6_fresh_20 : decode cX6_fresh 20 = .ok (.iload_n 1, 1) := by decide +kernel
theorem dX6_fresh_21 : decode cX6_fresh 21 = .ok (.ireturn, 1) := by decide +kernel
theorem dX6_bin_0 : decode cX6_bin 0 = .ok (.aload_n 0, 1) := by decide +kernel
theorem dX6_bin_1 : decode cX6_bin 1 = .ok (.iload_n 1, 1) := by decide +kernel
theorem dX6_bin_2 : decode cX6_bin 2 = .ok (.invokevirtual 128, 3) := by decide +kernel
theorem dX6_bin_5 : decode cX6_bin 5 = .ok (.ifCond .eq 12, 3) := by decide +kernel
theorem dX6_bin_8 : decode cX6_bin 8 = .ok (.iload_n 2, 1) := by decide +kernel
theorem dX6_bin_9 : decode cX6_bin 9 = .ok (.iconst 0, 1) := by decide +kernel
theorem dX6_bin_10 : decode cX6_bin 10 = .ok (.iconst 2, 1) := by decide +kernel
theorem dX6_bin_11 : decode cX6_bin 11 = .ok (.invokestatic 87, 3) := by decide +kernel
theorem dX6_bin_14 : decode cX6_bin 14 = .ok (.ifCond .ne 6, 3) := by decide +kernel
theorem dX6_bin_17 : decode cX6_bin 17 = .ok (.bipush (-2), 2) := by decide +kernel
theorem dX6_bin_19 : decode cX6_bin 19 = .ok (.ireturn, 1) := by decide +kernel
theorem dX6_bin_20 : decode cX6_bin 20 = .ok (.iload_n 2, 1) := by decide +kernel
theorem dX6_bin_21 : decode cX6_bin 21 = .ok (.ifCond .ne 13, 3) := by decide +kernel
theorem dX6_bin_24 : decode cX6_bin 24 = .ok (.aload_n 0, 1) := by decide +kernel
theorem dX6_bin_25 : decode cX6_bin 25 = .ok (.getfield 19, 3) := by decide +kernel
theorem dX6_bin_28 : decode cX6_bin 28 = .ok (.getfield 103, 3) := by decide +kernel
theorem dX6_bin_31 : decode cX6_bin 31 = .ok (.iload_n 1, 1) := by decide +kernel
theorem dX6_bin_32 : decode cX6_bin 32 = .ok (.iaload, 1) := by decide +kernel
theorem dX6_bin_33 : decode cX6_bin 33 = .ok (.ireturn, 1) := by decide +kernel
theorem dX6_bin_34 : decode cX6_bin 34 = .ok (.iload_n 2, 1) := by decide +kernel
theorem dX6_bin_35 : decode cX6_bin 35 = .ok (.iconst 1, 1) := by decide +kernel
theorem dX6_bin_36 : decode cX6_bin 36 = .ok (.if_icmp .ne 14, 3) := by decide +kernel
theorem dX6_bin_39 : decode cX6_bin 39 = .ok (.aload_n 0, 1) := by decide +kernel
theorem dX6_bin_40 : decode cX6_bin 40 = .ok (.getfield 19, 3) := by decide +kernel
theorem dX6_bin_43 : decode cX6_bin 43 = .ok (.iload_n 1, 1) := by decide +kernel
theorem dX6_bin_44 : decode cX6_bin 44 = .ok (.invokevirtual 131, 3) := by decide +kernel
theorem dX6_bin_47 : decode cX6_bin 47 = .ok (.goto 12, 3) := by decide +kernel
theorem dX6_bin_50 : decode cX6_bin 50 = .ok (.aload_n 0, 1) := by decide +kernel
theorem dX6_bin_51 : decode cX6_bin 51 = .ok (.getfield 19, 3) := by decide +kernel
theorem dX6_bin_54 : decode cX6_bin 54 = .ok (.getfield 134, 3) := by decide +kernel
theorem dX6_bin_57 : decode cX6_bin 57 = .ok (.iload_n 1, 1) := by decide +kernel
theorem dX6_bin_58 : decode cX6_bin 58 = .ok (.iaload, 1) := by decide +kernel
theorem dX6_bin_59 : decode cX6_bin 59 = .ok (.ireturn, 1) := by decide +kernel
theorem dX6_dense_0 : decode cX6_dense 0 = .ok (.aload_n 0, 1) := by decide +kernel
theorem dX6_dense_1 : decode cX6_dense 1 = .ok (.iload_n 1, 1) := by decide +kernel
theorem dX6_dense_2 : decode cX6_dense 2 = .ok (.invokevirtual 128, 3) := by decide +kernel
theorem dX6_dense_5 : decode cX6_dense 5 = .ok (.ifCond .eq 10, 3) := by decide +kernel
theorem dX6_dense_8 : decode cX6_dense 8 = .ok (.iload_n 2, 1) := by decide +kernel
theorem dX6_dense_9 : decode cX6_dense 9 = .ok (.invokestatic 137, 3) := by decide +kernel
theorem dX6_dense_12 : decode cX6_dense 12 = .ok (.ifCond .ne 9, 3) := by decide +kernel
theorem dX6_dense_15 : decode cX6_dense 15 = .ok (.bipush (-2), 2) := by decide +kernel
theorem dX6_dense_17 : decode cX6_dense 17 = .ok (.invokestatic 140, 3) := by decide +kernel
theorem dX6_dense_20 : decode cX6_dense 20 = .ok (.lreturn, 1) := by decide +kernel
theorem dX6_dense_21 : decode cX6_dense 21 = .ok (.aload_n 0, 1) := by decide +kernel
theorem dX6_dense_22 : decode cX6_dense 22 = .ok (.getfield 19, 3) := by decide +kernel
theorem dX6_dense_25 : decode cX6_dense 25 = .ok (.getfield 118, 3) := by decide +kernel
theorem dX6_dense_28 : decode cX6_dense 28 = .ok (.ifCond .ne 9, 3) := by decide +kernel
theorem dX6_dense_31 : decode cX6_dense 31 = .ok (.bipush (-3), 2) := by decide +kernel
theorem dX6_dense_33 : decode cX6_dense 33 = .ok (.invokestatic 140, 3) := by decide +kernel
theorem dX6_dense_36 : decode cX6_dense 36 = .ok (.lreturn, 1) := by decide +kernel
theorem dX6_dense_37 : decode cX6_dense 37 = .ok (.ldc2_w 144, 3) := by decide +kernel
theorem dX6_dense_40 : decode cX6_dense 40 = .ok (.aload_n 0, 1) := by decide +kernel
theorem dX6_dense_41 : decode cX6_dense 41 = .ok (.getfield 19, 3) := by decide +kernel
theorem dX6_dense_44 : decode cX6_dense 44 = .ok (.getfield 134, 3) := by decide +kernel
theorem dX6_dense_47 : decode cX6_dense 47 = .ok (.iload_n 1, 1) := by decide +kernel
theorem dX6_dense_48 : decode cX6_dense 48 = .ok (.iaload, 1) := by decide +kernel
theorem dX6_dense_49 : decode cX6_dense 49 = .ok (.i2l, 1) := by decide +kernel
theorem dX6_dense_50 : decode cX6_dense 50 = .ok (.lmul, 1) := by decide +kernel
theorem dX6_dense_51 : decode cX6_dense 51 = .ok (.aload_n 0, 1) := by decide +kernel
theorem dX6_dense_52 : decode cX6_dense 52 = .ok (.getfield 19, 3) := by decide +kernel
theorem dX6_dense_55 : decode cX6_dense 55 = .ok (.getfield 118, 3) := by decide +kernel
theorem dX6_dense_58 : decode cX6_dense 58 = .ok (.i2l, 1) := by decide +kernel
theorem dX6_dense_59 : decode cX6_dense 59 = .ok (.iload_n 2, 1) := by decide +kernel
theorem dX6_dense_60 : decode cX6_dense 60 = .ok (.invokestatic 146, 3) := by decide +kernel
theorem dX6_dense_63 : decode cX6_dense 63 = .ok (.lreturn, 1) := by decide +kernel
theorem dX6_worst_0 : decode cX6_worst 0 = .ok (.aload_n 0, 1) := by decide +kernel
theorem dX6_worst_1 : decode cX6_worst 1 = .ok (.getfield 19, 3) := by decide +kernel
theorem dX6_worst_4 : decode cX6_worst 4 = .ok (.getfield 118, 3) := by decide +kernel
theorem dX6_worst_7 : decode cX6_worst 7 = .ok (.ifCond .ne 8, 3) := by decide +kernel
theorem dX6_worst_10 : decode cX6_worst 10 = .ok (.bipush (-3), 2) := by decide +kernel
theorem dX6_worst_12 : decode cX6_worst 12 = .ok (.goto 10, 3) := by decide +kernel
theorem dX6_worst_15 : decode cX6_worst 15 = .ok (.aload_n 0, 1) := by decide +kernel
theorem dX6_worst_16 : decode cX6_worst 16 = .ok (.getfield 19, 3) := by decide +kernel
theorem dX6_worst_19 : decode cX6_worst 19 = .ok (.invokevirtual 150, 3) := by decide +kernel
theorem dX6_worst_22 : decode cX6_worst 22 = .ok (.ireturn, 1) := by decide +kernel
theorem dX6_type_0 : decode cX6_type 0 = .ok (.iload_n 1, 1) := by decide +kernel
theorem dX6_type_1 : decode cX6_type 1 = .ok (.iconst 0, 1) := by decide +kernel
theorem dX6_type_2 : decode cX6_type 2 = .ok (.sipush 255, 3) := by decide +kernel
theorem dX6_type_5 : decode cX6_type 5 = .ok (.invokestatic 87, 3) := by decide +kernel
theorem dX6_type_8 : decode cX6_type 8 = .ok (.ifCond .ne 6, 3) := by decide +kernel
theorem dX6_type_11 : decode cX6_type 11 = .ok (.bipush (-2), 2) := by decide +kernel
theorem dX6_type_13 : decode cX6_type 13 = .ok (.ireturn, 1) := by decide +kernel
theorem dX6_type_14 : decode cX6_type 14 = .ok (.aload_n 0, 1) := by decide +kernel
theorem dX6_type_15 : decode cX6_type 15 = .ok (.getfield 54, 3) := by decide +kernel
theorem dX6_type_18 : decode cX6_type 18 = .ok (.iconst 5, 1) := by decide +kernel
theorem dX6_type_19 : decode cX6_type 19 = .ok (.if_icmp .lt 6, 3) := by decide +kernel
theorem dX6_type_22 : decode cX6_type 22 = .ok (.bipush (-4), 2) := by decide +kernel
theorem dX6_type_24 : decode cX6_type 24 = .ok (.ireturn, 1) := by decide +kernel
theorem dX6_type_25 : decode cX6_type 25 = .ok (.aload_n 0, 1) := by decide +kernel
theorem dX6_type_26 : decode cX6_type 26 = .ok (.getfield 50, 3) := by decide +kernel
theorem dX6_type_29 : decode cX6_type 29 = .ok (.aload_n 0, 1) := by decide +kernel
theorem dX6_type_30 : decode cX6_type 30 = .ok (.getfield 54, 3) := by decide +kernel
theorem dX6_type_33 : decode cX6_type 33 = .ok (.iload_n 1, 1) := by decide +kernel
theorem dX6_type_34 : decode cX6_type 34 = .ok (.iastore, 1) := by decide +kernel
theorem dX6_type_35 : decode cX6_type 35 = .ok (.aload_n 0, 1) := by decide +kernel
theorem dX6_type_36 : decode cX6_type 36 = .ok (.dup, 1) := by decide +kernel
theorem dX6_type_37 : decode cX6_type 37 = .ok (.getfield 54, 3) := by decide +kernel
theorem dX6_type_40 : decode cX6_type 40 = .ok (.iconst 1, 1) := by decide +kernel
theorem dX6_type_41 : decode cX6_type 41 = .ok (.iadd, 1) := by decide +kernel
theorem dX6_type_42 : decode cX6_type 42 = .ok (.putfield 54, 3) := by decide +kernel
theorem dX6_type_45 : decode cX6_type 45 = .ok (.aload_n 0, 1) := by decide +kernel
theorem dX6_type_46 : decode cX6_type 46 = .ok (.iconst 1, 1) := by decide +kernel
theorem dX6_type_47 : decode cX6_type 47 = .ok (.putfield 67, 3) := by decide +kernel
theorem dX6_type_50 : decode cX6_type 50 = .ok (.aload_n 0, 1) := by decide +kernel
theorem dX6_type_51 : decode cX6_type 51 = .ok (.getfield 54, 3) := by decide +kernel
theorem dX6_type_54 : decode cX6_type 54 = .ok (.ireturn, 1) := by decide +kernel
theorem dX6_wipe_0 : decode cX6_wipe 0 = .ok (.aload_n 0, 1) := by decide +kernel
theorem dX6_wipe_1 : decode cX6_wipe 1 = .ok (.getfield 54, 3) := by decide +kernel
theorem dX6_wipe_4 : decode cX6_wipe 4 = .ok (.istore_n 1, 1) := by decide +kernel
theorem dX6_wipe_5 : decode cX6_wipe 5 = .ok (.aload_n 0, 1) := by decide +kernel
theorem dX6_wipe_6 : decode cX6_wipe 6 = .ok (.iconst 0, 1) := by decide +kernel
theorem dX6_wipe_7 : decode cX6_wipe 7 = .ok (.putfield 54, 3) := by decide +kernel
theorem dX6_wipe_10 : decode cX6_wipe 10 = .ok (.aload_n 0, 1) := by decide +kernel
theorem dX6_wipe_11 : decode cX6_wipe 11 = .ok (.iconst 1, 1) := by decide +kernel
theorem dX6_wipe_12 : decode cX6_wipe 12 = .ok (.putfield 67, 3) := by decide +kernel
theorem dX6_wipe_15 : decode cX6_wipe 15 = .ok (.iload_n 1, 1) := by decide +kernel
theorem dX6_wipe_16 : decode cX6_wipe 16 = .ok (.ireturn, 1) := by decide +kernel
theorem dX6_mode_0 : decode cX6_mode 0 = .ok (.aload_n 0, 1) := by decide +kernel
theorem dX6_mode_1 : decode cX6_mode 1 = .ok (.ldc 154, 2) := by decide +kernel
theorem dX6_mode_3 : decode cX6_mode 3 = .ok (.invokevirtual 156, 3) := by decide +kernel
theorem dX6_mode_6 : decode cX6_mode 6 = .ok (.ifCond .eq 5, 3) := by decide +kernel
theorem dX6_mode_9 : decode cX6_mode 9 = .ok (.iconst 1, 1) := by decide +kernel
theorem dX6_mode_10 : decode cX6_mode 10 = .ok (.ireturn, 1) := by decide +kernel
theorem dX6_mode_11 : decode cX6_mode 11 = .ok (.aload_n 0, 1) := by decide +kernel
theorem dX6_mode_12 : decode cX6_mode 12 = .ok (.ldc 160, 2) := by decide +kernel
theorem dX6_mode_14 : decode cX6_mode 14 = .ok (.invokevirtual 156, 3) := by decide +kernel
theorem dX6_mode_17 : decode cX6_mode 17 = .ok (.ifCond .eq 7, 3) := by decide +kernel
theorem dX6_mode_20 : decode cX6_mode 20 = .ok (.iconst 2, 1) := by decide +kernel
theorem dX6_mode_21 : decode cX6_mode 21 = .ok (.goto 4, 3) := by decide +kernel
theorem dX6_mode_24 : decode cX6_mode 24 = .ok (.iconst 0, 1) := by decide +kernel
theorem dX6_mode_25 : decode cX6_mode 25 = .ok (.ireturn, 1) := by decide +kernel
theorem dX6_nominal_0 : decode cX6_nominal 0 = .ok (.iload_n 1, 1) := by decide +kernel
theorem dX6_nominal_1 : decode cX6_nominal 1 = .ok (.iconst 0, 1) := by decide +kernel
theorem dX6_nominal_2 : decode cX6_nominal 2 = .ok (.sipush 600, 3) := by decide +kernel
theorem dX6_nominal_5 : decode cX6_nominal 5 = .ok (.invokestatic 87, 3) := by decide +kernel
theorem dX6_nominal_8 : decode cX6_nominal 8 = .ok (.ifCond .ne 6, 3) := by decide +kernel
theorem dX6_nominal_11 : decode cX6_nominal 11 = .ok (.bipush (-2), 2) := by decide +kernel
theorem dX6_nominal_13 : decode cX6_nominal 13 = .ok (.ireturn, 1) := by decide +kernel
theorem dX6_nominal_14 : decode cX6_nominal 14 = .ok (.aload_n 0, 1) := by decide +kernel
theorem dX6_nominal_15 : decode cX6_nominal 15 = .ok (.getfield 58, 3) := by decide +kernel
theorem dX6_nominal_18 : decode cX6_nominal 18 = .ok (.istore_n 2, 1) := by decide +kernel
theorem dX6_nominal_19 : decode cX6_nominal 19 = .ok (.aload_n 0, 1) := by decide +kernel
theorem dX6_nominal_20 : decode cX6_nominal 20 = .ok (.iload_n 1, 1) := by decide +kernel
theorem dX6_nominal_21 : decode cX6_nominal 21 = .ok (.putfield 58, 3) := by decide +kernel
theorem dX6_nominal_24 : decode cX6_nominal 24 = .ok (.aload_n 0, 1) := by decide +kernel
theorem dX6_nominal_25 : decode cX6_nominal 25 = .ok (.iconst 1, 1) := by decide +kernel
theorem dX6_nominal_26 : decode cX6_nominal 26 = .ok (.putfield 67, 3) := by decide +kernel
theorem dX6_nominal_29 : decode cX6_nominal 29 = .ok (.iload_n 2, 1) := by decide +kernel
theorem dX6_nominal_30 : decode cX6_nominal 30 = .ok (.ireturn, 1) := by decide +kernel
theorem dX6_mend_0 : decode cX6_mend 0 = .ok (.iload_n 1, 1) := by decide +kernel
theorem dX6_mend_1 : decode cX6_mend 1 = .ok (.iconst 0, 1) := by decide +kernel
theorem dX6_mend_2 : decode cX6_mend 2 = .ok (.iconst 1, 1) := by decide +kernel
theorem dX6_mend_3 : decode cX6_mend 3 = .ok (.invokestatic 87, 3) := by decide +kernel
theorem dX6_mend_6 : decode cX6_mend 6 = .ok (.ifCond .ne 6, 3) := by decide +kernel
theorem dX6_mend_9 : decode cX6_mend 9 = .ok (.bipush (-2), 2) := by decide +kernel
theorem dX6_mend_11 : decode cX6_mend 11 = .ok (.ireturn, 1) := by decide +kernel
theorem dX6_mend_12 : decode cX6_mend 12 = .ok (.aload_n 0, 1) := by decide +kernel
theorem dX6_mend_13 : decode cX6_mend 13 = .ok (.getfield 61, 3) := by decide +kernel
theorem dX6_mend_16 : decode cX6_mend 16 = .ok (.istore_n 2, 1) := by decide +kernel
theorem dX6_mend_17 : decode cX6_mend 17 = .ok (.aload_n 0, 1) := by decide +kernel
theorem dX6_mend_18 : decode cX6_mend 18 = .ok (.iload_n 1, 1) := by decide +kernel
theorem dX6_mend_19 : decode cX6_mend 19 = .ok (.putfield 61, 3) := by decide +kernel
theorem dX6_mend_22 : decode cX6_mend 22 = .ok (.aload_n 0, 1) := by decide +kernel
theorem dX6_mend_23 : decode cX6_mend 23 = .ok (.iconst 1, 1) := by decide +kernel
theorem dX6_mend_24 : decode cX6_mend 24 = .ok (.putfield 67, 3) := by decide +kernel
theorem dX6_mend_27 : decode cX6_mend 27 = .ok (.iload_n 2, 1) := by decide +kernel
theorem dX6_mend_28 : decode cX6_mend 28 = .ok (.ireturn, 1) := by decide +kernel
theorem dX6_seen_0 : decode cX6_seen 0 = .ok (.aload_n 0, 1) := by decide +kernel
theorem dX6_seen_1 : decode cX6_seen 1 = .ok (.iload_n 1, 1) := by decide +kernel
theorem dX6_seen_2 : decode cX6_seen 2 = .ok (.invokevirtual 91, 3) := by decide +kernel
theorem dX6_seen_5 : decode cX6_seen 5 = .ok (.ifCond .eq 13, 3) := by decide +kernel
theorem dX6_seen_8 : decode cX6_seen 8 = .ok (.iload_n 2, 1) := by decide +kernel
theorem dX6_seen_9 : decode cX6_seen 9 = .ok (.iconst 0, 1) := by decide +kernel
theorem dX6_seen_10 : decode cX6_seen 10 = .ok (.bipush 7, 2) := by decide +kernel
theorem dX6_seen_12 : decode cX6_seen 12 = .ok (.invokestatic 87, 3) := by decide +kernel
theorem dX6_seen_15 : decode cX6_seen 15 = .ok (.ifCond .ne 6, 3) := by decide +kernel
theorem dX6_seen_18 : decode cX6_seen 18 = .ok (.bipush (-2), 2) := by decide +kernel
theorem dX6_seen_20 : decode cX6_seen 20 = .ok (.ireturn, 1) := by decide +kernel
theorem dX6_seen_21 : decode cX6_seen 21 = .ok (.aload_n 0, 1) := by decide +kernel
theorem dX6_seen_22 : decode cX6_seen 22 = .ok (.invokevirtual 162, 3) := by decide +kernel
theorem dX6_seen_25 : decode cX6_seen 25 = .ok (.iload_n 2, 1) := by decide +kernel
theorem dX6_seen_26 : decode cX6_seen 26 = .ok (.tableswitch 121 0 6 #[42, 52, 61, 77, 83, 89, 99], 42) := by decide +kernel
theorem dX6_seen_68 : decode cX6_seen 68 = .ok (.aload_n 0, 1) := by decide +kernel
theorem dX6_seen_69 : decode cX6_seen 69 = .ok (.getfield 10, 3) := by decide +kernel
theorem dX6_seen_72 : decode cX6_seen 72 = .ok (.getfield 165, 3) := by decide +kernel
theorem dX6_seen_75 : decode cX6_seen 75 = .ok (.iload_n 1, 1) := by decide +kernel
theorem dX6_seen_76 : decode cX6_seen 76 = .ok (.iaload, 1) := by decide +kernel
theorem dX6_seen_77 : decode cX6_seen 77 = .ok (.ireturn, 1) := by decide +kernel
theorem dX6_seen_78 : decode cX6_seen 78 = .ok (.aload_n 0, 1) := by decide +kernel
theorem dX6_seen_79 : decode cX6_seen 79 = .ok (.getfield 10, 3) := by decide +kernel
theorem dX6_seen_82 : decode cX6_seen 82 = .ok (.iload_n 1, 1) := by decide +kernel
theorem dX6_seen_83 : decode cX6_seen 83 = .ok (.invokevirtual 168, 3) := by decide +kernel
theorem dX6_seen_86 : decode cX6_seen 86 = .ok (.ireturn, 1) := by decide +kernel
theorem dX6_seen_87 : decode cX6_seen 87 = .ok (.aload_n 0, 1) := by decide +kernel
theorem dX6_seen_88 : decode cX6_seen 88 = .ok (.getfield 19, 3) := by decide +kernel
theorem dX6_seen_91 : decode cX6_seen 91 = .ok (.aload_n 0, 1) := by decide +kernel
theorem dX6_seen_92 : decode cX6_seen 92 = .ok (.getfield 10, 3) := by decide +kernel
theorem dX6_seen_95 : decode cX6_seen 95 = .ok (.iload_n 1, 1) := by decide +kernel
theorem dX6_seen_96 : decode cX6_seen 96 = .ok (.invokevirtual 171, 3) := by decide +kernel
theorem dX6_seen_99 : decode cX6_seen 99 = .ok (.invokevirtual 100, 3) := by decide +kernel
theorem dX6_seen_102 : decode cX6_seen 102 = .ok (.ireturn, 1) := by decide +kernel
theorem dX6_seen_103 : decode cX6_seen 103 = .ok (.aload_n 0, 1) := by decide +kernel
theorem dX6_seen_104 : decode cX6_seen 104 = .ok (.iload_n 1, 1) := by decide +kernel
theorem dX6_seen_105 : decode cX6_seen 105 = .ok (.invokevirtual 174, 3) := by decide +kernel
theorem dX6_seen_108 : decode cX6_seen 108 = .ok (.ireturn, 1) := by decide +kernel
theorem dX6_seen_109 : decode cX6_seen 109 = .ok (.aload_n 0, 1) := by decide +kernel
theorem dX6_seen_110 : decode cX6_seen 110 = .ok (.iload_n 1, 1) := by decide +kernel
theorem dX6_seen_111 : decode cX6_seen 111 = .ok (.invokevirtual 177, 3) := by decide +kernel
theorem dX6_seen_114 : decode cX6_seen 114 = .ok (.ireturn, 1) := by decide +kernel
theorem dX6_seen_115 : decode cX6_seen 115 = .ok (.aload_n 0, 1) := by decide +kernel
theorem dX6_seen_116 : decode cX6_seen 116 = .ok (.getfield 33, 3) := by decide +kernel
theorem dX6_seen_119 : decode cX6_seen 119 = .ok (.getfield 180, 3) := by decide +kernel
theorem dX6_seen_122 : decode cX6_seen 122 = .ok (.iload_n 1, 1) := by decide +kernel
theorem dX6_seen_123 : decode cX6_seen 123 = .ok (.iaload, 1) := by decide +kernel
theorem dX6_seen_124 : decode cX6_seen 124 = .ok (.ireturn, 1) := by decide +kernel
theorem dX6_seen_125 : decode cX6_seen 125 = .ok (.aload_n 0, 1) := by decide +kernel
theorem dX6_seen_126 : decode cX6_seen 126 = .ok (.iload_n 1, 1) := by decide +kernel
theorem dX6_seen_127 : decode cX6_seen 127 = .ok (.invokevirtual 183, 3) := by decide +kernel
theorem dX6_seen_130 : decode cX6_seen 130 = .ok (.ifCond .eq 7, 3) := by decide +kernel
theorem dX6_seen_133 : decode cX6_seen 133 = .ok (.iconst (-1), 1) := by decide +kernel
theorem dX6_seen_134 : decode cX6_seen 134 = .ok (.goto 12, 3) := by decide +kernel
theorem dX6_seen_137 : decode cX6_seen 137 = .ok (.aload_n 0, 1) := by decide +kernel
theorem dX6_seen_138 : decode cX6_seen 138 = .ok (.getfield 33, 3) := by decide +kernel
theorem dX6_seen_141 : decode cX6_seen 141 = .ok (.getfield 186, 3) := by decide +kernel
theorem dX6_seen_144 : decode cX6_seen 144 = .ok (.iload_n 1, 1) := by decide +kernel
theorem dX6_seen_145 : decode cX6_seen 145 = .ok (.iaload, 1) := by decide +kernel
theorem dX6_seen_146 : decode cX6_seen 146 = .ok (.ireturn, 1) := by decide +kernel
theorem dX6_seen_147 : decode cX6_seen 147 = .ok (.aload_n 0, 1) := by decide +kernel
theorem dX6_seen_148 : decode cX6_seen 148 = .ok (.iload_n 1, 1) := by decide +kernel
theorem dX6_seen_149 : decode cX6_seen 149 = .ok (.invokevirtual 183, 3) := by decide +kernel
theorem dX6_seen_152 : decode cX6_seen 152 = .ok (.ifCond .ne 19, 3) := by decide +kernel
theorem dX6_seen_155 : decode cX6_seen 155 = .ok (.aload_n 0, 1) := by decide +kernel
theorem dX6_seen_156 : decode cX6_seen 156 = .ok (.getfield 33, 3) := by decide +kernel
theorem dX6_seen_159 : decode cX6_seen 159 = .ok (.getfield 189, 3) := by decide +kernel
theorem dX6_seen_162 : decode cX6_seen 162 = .ok (.iload_n 1, 1) := by decide +kernel
theorem dX6_seen_163 : decode cX6_seen 163 = .ok (.baload, 1) := by decide +kernel
theorem dX6_seen_164 : decode cX6_seen 164 = .ok (.ifCond .eq 7, 3) := by decide +kernel
theorem dX6_seen_167 : decode cX6_seen 167 = .ok (.iconst 1, 1) := by decide +kernel
theorem dX6_seen_168 : decode cX6_seen 168 = .ok (.goto 4, 3) := by decide +kernel
theorem dX6_seen_171 : decode cX6_seen 171 = .ok (.iconst 0, 1) := by decide +kernel
theorem dX6_seen_172 : decode cX6_seen 172 = .ok (.ireturn, 1) := by decide +kernel
theorem dX6_stamp_0 : decode cX6_stamp 0 = .ok (.aload_n 0, 1) := by decide +kernel
theorem dX6_stamp_1 : decode cX6_stamp 1 = .ok (.iload_n 1, 1) := by decide +kernel
theorem dX6_stamp_2 : decode cX6_stamp 2 = .ok (.invokevirtual 91, 3) := by decide +kernel
theorem dX6_stamp_5 : decode cX6_stamp 5 = .ok (.ifCond .eq 10, 3) := by decide +kernel
theorem dX6_stamp_8 : decode cX6_stamp 8 = .ok (.iload_n 2, 1) := by decide +kernel
theorem dX6_stamp_9 : decode cX6_stamp 9 = .ok (.invokestatic 137, 3) := by decide +kernel
theorem dX6_stamp_12 : decode cX6_stamp 12 = .ok (.ifCond .ne 9, 3) := by decide +kernel
theorem dX6_stamp_15 : decode cX6_stamp 15 = .ok (.bipush (-2), 2) := by decide +kernel
theorem dX6_stamp_17 : decode cX6_stamp 17 = .ok (.invokestatic 140, 3) := by decide +kernel
theorem dX6_stamp_20 : decode cX6_stamp 20 = .ok (.lreturn, 1) := by decide +kernel
theorem dX6_stamp_21 : decode cX6_stamp 21 = .ok (.aload_n 0, 1) := by decide +kernel
theorem dX6_stamp_22 : decode cX6_stamp 22 = .ok (.invokevirtual 162, 3) := by decide +kernel
theorem dX6_stamp_25 : decode cX6_stamp 25 = .ok (.aload_n 0, 1) := by decide +kernel
theorem dX6_stamp_26 : decode cX6_stamp 26 = .ok (.getfield 33, 3) := by decide +kernel
theorem dX6_stamp_29 : decode cX6_stamp 29 = .ok (.getfield 193, 3) := by decide +kernel
theorem dX6_stamp_32 : decode cX6_stamp 32 = .ok (.iload_n 1, 1) := by decide +kernel
theorem dX6_stamp_33 : decode cX6_stamp 33 = .ok (.laload, 1) := by decide +kernel
theorem dX6_stamp_34 : decode cX6_stamp 34 = .ok (.aload_n 0, 1) := by decide +kernel
theorem dX6_stamp_35 : decode cX6_stamp 35 = .ok (.getfield 33, 3) := by decide +kernel
theorem dX6_stamp_38 : decode cX6_stamp 38 = .ok (.getfield 197, 3) := by decide +kernel
theorem dX6_stamp_41 : decode cX6_stamp 41 = .ok (.i2l, 1) := by decide +kernel
theorem dX6_stamp_42 : decode cX6_stamp 42 = .ok (.iload_n 2, 1) := by decide +kernel
theorem dX6_stamp_43 : decode cX6_stamp 43 = .ok (.invokestatic 146, 3) := by decide +kernel
theorem dX6_stamp_46 : decode cX6_stamp 46 = .ok (.lreturn, 1) := by decide +kernel
theorem dX6_reference_0 : decode cX6_reference 0 = .ok (.iload_n 1, 1) := by decide +kernel
theorem dX6_reference_1 : decode cX6_reference 1 = .ok (.invokestatic 137, 3) := by decide +kernel
theorem dX6_reference_4 : decode cX6_reference 4 = .ok (.ifCond .ne 9, 3) := by decide +kernel
theorem dX6_reference_7 : decode cX6_reference 7 = .ok (.bipush (-2), 2) := by decide +kernel
theorem dX6_reference_9 : decode cX6_reference 9 = .ok (.invokestatic 140, 3) := by decide +kernel
theorem dX6_reference_12 : decode cX6_reference 12 = .ok (.lreturn, 1) := by decide +kernel
theorem dX6_reference_13 : decode cX6_reference 13 = .ok (.aload_n 0, 1) := by decide +kernel
theorem dX6_reference_14 : decode cX6_reference 14 = .ok (.getfield 58, 3) := by decide +kernel
theorem dX6_reference_17 : decode cX6_reference 17 = .ok (.ifCond .ne 20, 3) := by decide +kernel
theorem dX6_reference_20 : decode cX6_reference 20 = .ok (.aload_n 0, 1) := by decide +kernel
theorem dX6_reference_21 : decode cX6_reference 21 = .ok (.getfield 10, 3) := by decide +kernel
theorem dX6_reference_24 : decode cX6_reference 24 = .ok (.getfield 97, 3) := by decide +kernel
theorem dX6_reference_27 : decode cX6_reference 27 = .ok (.iconst 2, 1) := by decide +kernel
theorem dX6_reference_28 : decode cX6_reference 28 = .ok (.if_icmp .ge 9, 3) := by decide +kernel
theorem dX6_reference_31 : decode cX6_reference 31 = .ok (.bipush (-3), 2) := by decide +kernel
theorem dX6_reference_33 : decode cX6_reference 33 = .ok (.invokestatic 140, 3) := by decide +kernel
theorem dX6_reference_36 : decode cX6_reference 36 = .ok (.lreturn, 1) := by decide +kernel
theorem dX6_reference_37 : decode cX6_reference 37 = .ok (.aload_n 0, 1) := by decide +kernel
theorem dX6_reference_38 : decode cX6_reference 38 = .ok (.invokevirtual 162, 3) := by decide +kernel
theorem dX6_reference_41 : decode cX6_reference 41 = .ok (.aload_n 0, 1) := by decide +kernel
theorem dX6_reference_42 : decode cX6_reference 42 = .ok (.getfield 33, 3) := by decide +kernel
theorem dX6_reference_45 : decode cX6_reference 45 = .ok (.getfield 200, 3) := by decide +kernel
theorem dX6_reference_48 : decode cX6_reference 48 = .ok (.aload_n 0, 1) := by decide +kernel
theorem dX6_reference_49 : decode cX6_reference 49 = .ok (.getfield 33, 3) := by decide +kernel
theorem dX6_reference_52 : decode cX6_reference 52 = .ok (.getfield 197, 3) := by decide +kernel
theorem dX6_reference_55 : decode cX6_reference 55 = .ok (.i2l, 1) := by decide +kernel
theorem dX6_reference_56 : decode cX6_reference 56 = .ok (.iload_n 1, 1) := by decide +kernel
theorem dX6_reference_57 : decode cX6_reference 57 = .ok (.invokestatic 146, 3) := by decide +kernel
theorem dX6_reference_60 : decode cX6_reference 60 = .ok (.lreturn, 1) := by decide +kernel
theorem dX6_gate_0 : decode cX6_gate 0 = .ok (.iload_n 1, 1) := by decide +kernel
theorem dX6_gate_1 : decode cX6_gate 1 = .ok (.invokestatic 72, 3) := by decide +kernel
theorem dX6_gate_4 : decode cX6_gate 4 = .ok (.ifCond .eq 15, 3) := by decide +kernel
theorem dX6_gate_7 : decode cX6_gate 7 = .ok (.iload_n 2, 1) := by decide +kernel
theorem dX6_gate_8 : decode cX6_gate 8 = .ok (.invokestatic 72, 3) := by decide +kernel
theorem dX6_gate_11 : decode cX6_gate 11 = .ok (.ifCond .eq 8, 3) := by decide +kernel
theorem dX6_gate_14 : decode cX6_gate 14 = .ok (.iload_n 1, 1) := by decide +kernel
theorem dX6_gate_15 : decode cX6_gate 15 = .ok (.iload_n 2, 1) := by decide +kernel
theorem dX6_gate_16 : decode cX6_gate 16 = .ok (.if_icmp .lt 6, 3) := by decide +kernel
theorem dX6_gate_19 : decode cX6_gate 19 = .ok (.bipush (-2), 2) := by decide +kernel
theorem dX6_gate_21 : decode cX6_gate 21 = .ok (.ireturn, 1) := by decide +kernel
theorem dX6_gate_22 : decode cX6_gate 22 = .ok (.aload_n 0, 1) := by decide +kernel
theorem dX6_gate_23 : decode cX6_gate 23 = .ok (.getfield 26, 3) := by decide +kernel
theorem dX6_gate_26 : decode cX6_gate 26 = .ok (.getfield 204, 3) := by decide +kernel
theorem dX6_gate_29 : decode cX6_gate 29 = .ok (.bipush 8, 2) := by decide +kernel
theorem dX6_gate_31 : decode cX6_gate 31 = .ok (.if_icmp .lt 6, 3) := by decide +kernel
theorem dX6_gate_34 : decode cX6_gate 34 = .ok (.bipush (-4), 2) := by decide +kernel
theorem dX6_gate_36 : decode cX6_gate 36 = .ok (.ireturn, 1) := by decide +kernel
theorem dX6_gate_37 : decode cX6_gate 37 = .ok (.aload_n 0, 1) := by decide +kernel
theorem dX6_gate_38 : decode cX6_gate 38 = .ok (.iconst 1, 1) := by decide +kernel
theorem dX6_gate_39 : decode cX6_gate 39 = .ok (.putfield 67, 3) := by decide +kernel
theorem dX6_gate_42 : decode cX6_gate 42 = .ok (.aload_n 0, 1) := by decide +kernel
theorem dX6_gate_43 : decode cX6_gate 43 = .ok (.getfield 26, 3) := by decide +kernel
theorem dX6_gate_46 : decode cX6_gate 46 = .ok (.iload_n 1, 1) := by decide +kernel
theorem dX6_gate_47 : decode cX6_gate 47 = .ok (.iload_n 2, 1) := by decide +kernel
theorem dX6_gate_48 : decode cX6_gate 48 = .ok (.invokevirtual 205, 3) := by decide +kernel
theorem dX6_gate_51 : decode cX6_gate 51 = .ok (.ireturn, 1) := by decide +kernel
theorem dX6_back_0 : decode cX6_back 0 = .ok (.aload_n 0, 1) := by decide +kernel
theorem dX6_back_1 : decode cX6_back 1 = .ok (.getfield 26, 3) := by decide +kernel
theorem dX6_back_4 : decode cX6_back 4 = .ok (.getfield 204, 3) := by decide +kernel
theorem dX6_back_7 : decode cX6_back 7 = .ok (.ifCond .ne 6, 3) := by decide +kernel
theorem dX6_back_10 : decode cX6_back 10 = .ok (.bipush (-3), 2) := by decide +kernel
theorem dX6_back_12 : decode cX6_back 12 = .ok (.ireturn, 1) := by decide +kernel
theorem dX6_back_13 : decode cX6_back 13 = .ok (.aload_n 0, 1) := by decide +kernel
theorem dX6_back_14 : decode cX6_back 14 = .ok (.getfield 26, 3) := by decide +kernel
theorem dX6_back_17 : decode cX6_back 17 = .ok (.dup, 1) := by decide +kernel
theorem dX6_back_18 : decode cX6_back 18 = .ok (.getfield 204, 3) := by decide +kernel
theorem dX6_back_21 : decode cX6_back 21 = .ok (.iconst 1, 1) := by decide +kernel
theorem dX6_back_22 : decode cX6_back 22 = .ok (.isub, 1) := by decide +kernel
theorem dX6_back_23 : decode cX6_back 23 = .ok (.putfield 204, 3) := by decide +kernel
theorem dX6_back_26 : decode cX6_back 26 = .ok (.aload_n 0, 1) := by decide +kernel
theorem dX6_back_27 : decode cX6_back 27 = .ok (.iconst 1, 1) := by decide +kernel
theorem dX6_back_28 : decode cX6_back 28 = .ok (.putfield 67, 3) := by decide +kernel
theorem dX6_back_31 : decode cX6_back 31 = .ok (.aload_n 0, 1) := by decide +kernel
theorem dX6_back_32 : decode cX6_back 32 = .ok (.getfield 26, 3) := by decide +kernel
theorem dX6_back_35 : decode cX6_back 35 = .ok (.getfield 204, 3) := by decide +kernel
theorem dX6_back_38 : decode cX6_back 38 = .ok (.ireturn, 1) := by decide +kernel
theorem dX6_where_0 : decode cX6_where 0 = .ok (.aload_n 0, 1) := by decide +kernel
theorem dX6_where_1 : decode cX6_where 1 = .ok (.iload_n 1, 1) := by decide +kernel
theorem dX6_where_2 : decode cX6_where 2 = .ok (.invokevirtual 208, 3) := by decide +kernel
theorem dX6_where_5 : decode cX6_where 5 = .ok (.ifCond .eq 12, 3) := by decide +kernel
theorem dX6_where_8 : decode cX6_where 8 = .ok (.iload_n 2, 1) := by decide +kernel
theorem dX6_where_9 : decode cX6_where 9 = .ok (.iconst 0, 1) := by decide +kernel
theorem dX6_where_10 : decode cX6_where 10 = .ok (.iconst 2, 1) := by decide +kernel
theorem dX6_where_11 : decode cX6_where 11 = .ok (.invokestatic 87, 3) := by decide +kernel
theorem dX6_where_14 : decode cX6_where 14 = .ok (.ifCond .ne 6, 3) := by decide +kernel
theorem dX6_where_17 : decode cX6_where 17 = .ok (.bipush (-2), 2) := by decide +kernel
theorem dX6_where_19 : decode cX6_where 19 = .ok (.ireturn, 1) := by decide +kernel
theorem dX6_where_20 : decode cX6_where 20 = .ok (.aload_n 0, 1) := by decide +kernel
theorem dX6_where_21 : decode cX6_where 21 = .ok (.invokevirtual 162, 3) := by decide +kernel
theorem dX6_where_24 : decode cX6_where 24 = .ok (.aload_n 0, 1) := by decide +kernel
theorem dX6_where_25 : decode cX6_where 25 = .ok (.getfield 26, 3) := by decide +kernel
theorem dX6_where_28 : decode cX6_where 28 = .ok (.getfield 211, 3) := by decide +kernel
theorem dX6_where_31 : decode cX6_where 31 = .ok (.iload_n 1, 1) := by decide +kernel
theorem dX6_where_32 : decode cX6_where 32 = .ok (.iaload, 1) := by decide +kernel
theorem dX6_where_33 : decode cX6_where 33 = .ok (.istore_n 3, 1) := by decide +kernel
theorem dX6_where_34 : decode cX6_where 34 = .ok (.aload_n 0, 1) := by decide +kernel
theorem dX6_where_35 : decode cX6_where 35 = .ok (.getfield 26, 3) := by decide +kernel
theorem dX6_where_38 : decode cX6_where 38 = .ok (.getfield 214, 3) := by decide +kernel
theorem dX6_where_41 : decode cX6_where 41 = .ok (.iload_n 1, 1) := by decide +kernel
theorem dX6_where_42 : decode cX6_where 42 = .ok (.iaload, 1) := by decide +kernel
theorem dX6_where_43 : decode cX6_where 43 = .ok (.istore 4, 2) := by decide +kernel
theorem dX6_where_45 : decode cX6_where 45 = .ok (.iload_n 2, 1) := by decide +kernel
theorem dX6_where_46 : decode cX6_where 46 = .ok (.iconst 2, 1) := by decide +kernel
theorem dX6_where_47 : decode cX6_where 47 = .ok (.if_icmp .ne 24, 3) := by decide +kernel
theorem dX6_where_50 : decode cX6_where 50 = .ok (.iload 4, 2) := by decide +kernel
theorem dX6_where_52 : decode cX6_where 52 = .ok (.iconst (-1), 1) := by decide +kernel
theorem dX6_where_53 : decode cX6_where 53 = .ok (.if_icmp .ne 7, 3) := by decide +kernel
theorem dX6_where_56 : decode cX6_where 56 = .ok (.iconst (-1), 1) := by decide +kernel
theorem dX6_where_57 : decode cX6_where 57 = .ok (.goto 13, 3) := by decide +kernel
theorem dX6_where_60 : decode cX6_where 60 = .ok (.aload_n 0, 1) := by decide +kernel
theorem dX6_where_61 : decode cX6_where 61 = .ok (.getfield 33, 3) := by decide +kernel
theorem dX6_where_64 : decode cX6_where 64 = .ok (.iload_n 3, 1) := by decide +kernel
theorem dX6_where_65 : decode cX6_where 65 = .ok (.iload 4, 2) := by decide +kernel
theorem dX6_where_67 : decode cX6_where 67 = .ok (.invokevirtual 217, 3) := by decide +kernel
theorem dX6_where_70 : decode cX6_where 70 = .ok (.ireturn, 1) := by decide +kernel
theorem dX6_where_71 : decode cX6_where 71 = .ok (.iload_n 2, 1) := by decide +kernel
theorem dX6_where_72 : decode cX6_where 72 = .ok (.ifCond .ne 7, 3) := by decide +kernel
theorem dX6_where_75 : decode cX6_where 75 = .ok (.iload_n 3, 1) := by decide +kernel
theorem dX6_where_76 : decode cX6_where 76 = .ok (.goto 5, 3) := by decide +kernel
theorem dX6_where_79 : decode cX6_where 79 = .ok (.iload 4, 2) := by decide +kernel
theorem dX6_where_81 : decode cX6_where 81 = .ok (.ireturn, 1) := by decide +kernel
theorem dX6_frequency_0 : decode cX6_frequency 0 = .ok (.aload_n 0, 1) := by decide +kernel
theorem dX6_frequency_1 : decode cX6_frequency 1 = .ok (.iload_n 1, 1) := by decide +kernel
theorem dX6_frequency_2 : decode cX6_frequency 2 = .ok (.invokevirtual 208, 3) := by decide +kernel
theorem dX6_frequency_5 : decode cX6_frequency 5 = .ok (.ifCond .eq 19, 3) := by decide +kernel
theorem dX6_frequency_8 : decode cX6_frequency 8 = .ok (.iload_n 2, 1) := by decide +kernel
theorem dX6_frequency_9 : decode cX6_frequency 9 = .ok (.iconst 0, 1) := by decide +kernel
theorem dX6_frequency_10 : decode cX6_frequency 10 = .ok (.iconst 3, 1) := by decide +kernel
theorem dX6_frequency_11 : decode cX6_frequency 11 = .ok (.invokestatic 87, 3) := by decide +kernel
theorem dX6_frequency_14 : decode cX6_frequency 14 = .ok (.ifCond .eq 10, 3) := by decide +kernel
theorem dX6_frequency_17 : decode cX6_frequency 17 = .ok (.iload_n 3, 1) := by decide +kernel
theorem dX6_frequency_18 : decode cX6_frequency 18 = .ok (.invokestatic 137, 3) := by decide +kernel
theorem dX6_frequency_21 : decode cX6_frequency 21 = .ok (.ifCond .ne 9, 3) := by decide +kernel
theorem dX6_frequency_24 : decode cX6_frequency 24 = .ok (.bipush (-2), 2) := by decide +kernel
theorem dX6_frequency_26 : decode cX6_frequency 26 = .ok (.invokestatic 140, 3) := by decide +kernel
theorem dX6_frequency_29 : decode cX6_frequency 29 = .ok (.lreturn, 1) := by decide +kernel
theorem dX6_frequency_30 : decode cX6_frequency 30 = .ok (.aload_n 0, 1) := by decide +kernel
theorem dX6_frequency_31 : decode cX6_frequency 31 = .ok (.invokevirtual 162, 3) := by decide +kernel
theorem dX6_frequency_34 : decode cX6_frequency 34 = .ok (.aload_n 0, 1) := by decide +kernel
theorem dX6_frequency_35 : decode cX6_frequency 35 = .ok (.getfield 26, 3) := by decide +kernel
theorem dX6_frequency_38 : decode cX6_frequency 38 = .ok (.getfield 211, 3) := by decide +kernel
theorem dX6_frequency_41 : decode cX6_frequency 41 = .ok (.iload_n 1, 1) := by decide +kernel
theorem dX6_frequency_42 : decode cX6_frequency 42 = .ok (.iaload, 1) := by decide +kernel
theorem dX6_frequency_43 : decode cX6_frequency 43 = .ok (.istore 4, 2) := by decide +kernel
theorem dX6_frequency_45 : decode cX6_frequency 45 = .ok (.aload_n 0, 1) := by decide +kernel
theorem dX6_frequency_46 : decode cX6_frequency 46 = .ok (.getfield 26, 3) := by decide +kernel
theorem dX6_frequency_49 : decode cX6_frequency 49 = .ok (.getfield 214, 3) := by decide +kernel
theorem dX6_frequency_52 : decode cX6_frequency 52 = .ok (.iload_n 1, 1) := by decide +kernel
theorem dX6_frequency_53 : decode cX6_frequency 53 = .ok (.iaload, 1) := by decide +kernel
theorem dX6_frequency_54 : decode cX6_frequency 54 = .ok (.istore 5, 2) := by decide +kernel
theorem dX6_frequency_56 : decode cX6_frequency 56 = .ok (.iload 5, 2) := by decide +kernel
theorem dX6_frequency_58 : decode cX6_frequency 58 = .ok (.iconst (-1), 1) := by decide +kernel
theorem dX6_frequency_59 : decode cX6_frequency 59 = .ok (.if_icmp .ne 9, 3) := by decide +kernel
theorem dX6_frequency_62 : decode cX6_frequency 62 = .ok (.bipush (-3), 2) := by decide +kernel
theorem dX6_frequency_64 : decode cX6_frequency 64 = .ok (.invokestatic 140, 3) := by decide +kernel
theorem dX6_frequency_67 : decode cX6_frequency 67 = .ok (.lreturn, 1) := by decide +kernel
theorem dX6_frequency_68 : decode cX6_frequency 68 = .ok (.aload_n 0, 1) := by decide +kernel
theorem dX6_frequency_69 : decode cX6_frequency 69 = .ok (.iload 4, 2) := by decide +kernel
theorem dX6_frequency_71 : decode cX6_frequency 71 = .ok (.iload 5, 2) := by decide +kernel
theorem dX6_frequency_73 : decode cX6_frequency 73 = .ok (.iload_n 2, 1) := by decide +kernel
theorem dX6_frequency_74 : decode cX6_frequency 74 = .ok (.invokevirtual 220, 3) := by decide +kernel
theorem dX6_frequency_77 : decode cX6_frequency 77 = .ok (.lstore 6, 2) := by decide +kernel
theorem dX6_frequency_79 : decode cX6_frequency 79 = .ok (.lload 6, 2) := by decide +kernel
theorem dX6_frequency_81 : decode cX6_frequency 81 = .ok (.lconst 0, 1) := by decide +kernel
theorem dX6_frequency_82 : decode cX6_frequency 82 = .ok (.lcmp, 1) := by decide +kernel
theorem dX6_frequency_83 : decode cX6_frequency 83 = .ok (.ifCond .gt 9, 3) := by decide +kernel
theorem dX6_frequency_86 : decode cX6_frequency 86 = .ok (.bipush (-3), 2) := by decide +kernel
theorem dX6_frequency_88 : decode cX6_frequency 88 = .ok (.invokestatic 140, 3) := by decide +kernel
theorem dX6_frequency_91 : decode cX6_frequency 91 = .ok (.lreturn, 1) := by decide +kernel
theorem dX6_frequency_92 : decode cX6_frequency 92 = .ok (.aload_n 0, 1) := by decide +kernel
theorem dX6_frequency_93 : decode cX6_frequency 93 = .ok (.getfield 33, 3) := by decide +kernel
theorem dX6_frequency_96 : decode cX6_frequency 96 = .ok (.iload 4, 2) := by decide +kernel
theorem dX6_frequency_98 : decode cX6_frequency 98 = .ok (.iload 5, 2) := by decide +kernel
theorem dX6_frequency_100 : decode cX6_frequency 100 = .ok (.invokevirtual 217, 3) := by decide +kernel
theorem dX6_frequency_103 : decode cX6_frequency 103 = .ok (.i2l, 1) := by decide +kernel
theorem dX6_frequency_104 : decode cX6_frequency 104 = .ok (.lstore 8, 2) := by decide +kernel
theorem dX6_frequency_106 : decode cX6_frequency 106 = .ok (.iload_n 2, 1) := by decide +kernel
theorem dX6_frequency_107 : decode cX6_frequency 107 = .ok (.ifCond .ne 17, 3) := by decide +kernel
theorem dX6_frequency_110 : decode cX6_frequency 110 = .ok (.lload 8, 2) := by decide +kernel
theorem dX6_frequency_112 : decode cX6_frequency 112 = .ok (.aload_n 0, 1) := by decide +kernel
theorem dX6_frequency_113 : decode cX6_frequency 113 = .ok (.getfield 33, 3) := by decide +kernel
theorem dX6_frequency_116 : decode cX6_frequency 116 = .ok (.getfield 197, 3) := by decide +kernel
theorem dX6_frequency_119 : decode cX6_frequency 119 = .ok (.i2l, 1) := by decide +kernel
theorem dX6_frequency_120 : decode cX6_frequency 120 = .ok (.lmul, 1) := by decide +kernel
theorem dX6_frequency_121 : decode cX6_frequency 121 = .ok (.goto 5, 3) := by decide +kernel
theorem dX6_frequency_124 : decode cX6_frequency 124 = .ok (.lload 8, 2) := by decide +kernel
theorem dX6_frequency_126 : decode cX6_frequency 126 = .ok (.lload 6, 2) := by decide +kernel
theorem dX6_frequency_128 : decode cX6_frequency 128 = .ok (.iload_n 3, 1) := by decide +kernel
theorem dX6_frequency_129 : decode cX6_frequency 129 = .ok (.invokestatic 146, 3) := by decide +kernel
theorem dX6_frequency_132 : decode cX6_frequency 132 = .ok (.lreturn, 1) := by decide +kernel
theorem dX6_closing_0 : decode cX6_closing 0 = .ok (.aload_n 0, 1) := by decide +kernel
theorem dX6_closing_1 : decode cX6_closing 1 = .ok (.iload_n 1, 1) := by decide +kernel
theorem dX6_closing_2 : decode cX6_closing 2 = .ok (.invokevirtual 208, 3) := by decide +kernel
theorem dX6_closing_5 : decode cX6_closing 5 = .ok (.ifCond .ne 6, 3) := by decide +kernel
theorem dX6_closing_8 : decode cX6_closing 8 = .ok (.bipush (-2), 2) := by decide +kernel
theorem dX6_closing_10 : decode cX6_closing 10 = .ok (.ireturn, 1) := by decide +kernel
theorem dX6_closing_11 : decode cX6_closing 11 = .ok (.aload_n 0, 1) := by decide +kernel
theorem dX6_closing_12 : decode cX6_closing 12 = .ok (.invokevirtual 162, 3) := by decide +kernel
theorem dX6_closing_15 : decode cX6_closing 15 = .ok (.aload_n 0, 1) := by decide +kernel
theorem dX6_closing_16 : decode cX6_closing 16 = .ok (.getfield 26, 3) := by decide +kernel
theorem dX6_closing_19 : decode cX6_closing 19 = .ok (.iload_n 1, 1) := by decide +kernel
theorem dX6_closing_20 : decode cX6_closing 20 = .ok (.invokevirtual 224, 3) := by decide +kernel
theorem dX6_closing_23 : decode cX6_closing 23 = .ok (.ireturn, 1) := by decide +kernel
theorem dX6_chain_0 : decode cX6_chain 0 = .ok (.iload_n 1, 1) := by decide +kernel
theorem dX6_chain_1 : decode cX6_chain 1 = .ok (.iconst 1, 1) := by decide +kernel
theorem dX6_chain_2 : decode cX6_chain 2 = .ok (.bipush 99, 2) := by decide +kernel
theorem dX6_chain_4 : decode cX6_chain 4 = .ok (.invokestatic 87, 3) := by decide +kernel
theorem dX6_chain_7 : decode cX6_chain 7 = .ok (.ifCond .eq 12, 3) := by decide +kernel
theorem dX6_chain_10 : decode cX6_chain 10 = .ok (.iload_n 3, 1) := by decide +kernel
theorem dX6_chain_11 : decode cX6_chain 11 = .ok (.iconst 0, 1) := by decide +kernel
theorem dX6_chain_12 : decode cX6_chain 12 = .ok (.iconst 4, 1) := by decide +kernel
theorem dX6_chain_13 : decode cX6_chain 13 = .ok (.invokestatic 87, 3) := by decide +kernel
theorem dX6_chain_16 : decode cX6_chain 16 = .ok (.ifCond .ne 6, 3) := by decide +kernel
theorem dX6_chain_19 : decode cX6_chain 19 = .ok (.bipush (-2), 2) := by decide +kernel
theorem dX6_chain_21 : decode cX6_chain 21 = .ok (.ireturn, 1) := by decide +kernel
theorem dX6_chain_22 : decode cX6_chain 22 = .ok (.aload_n 0, 1) := by decide +kernel
theorem dX6_chain_23 : decode cX6_chain 23 = .ok (.invokevirtual 162, 3) := by decide +kernel
theorem dX6_chain_26 : decode cX6_chain 26 = .ok (.iconst 0, 1) := by decide +kernel
theorem dX6_chain_27 : decode cX6_chain 27 = .ok (.istore 4, 2) := by decide +kernel
theorem dX6_chain_29 : decode cX6_chain 29 = .ok (.iconst 0, 1) := by decide +kernel
theorem dX6_chain_30 : decode cX6_chain 30 = .ok (.istore 5, 2) := by decide +kernel
theorem dX6_chain_32 : decode cX6_chain 32 = .ok (.iconst 0, 1) := by decide +kernel
theorem dX6_chain_33 : decode cX6_chain 33 = .ok (.istore 6, 2) := by decide +kernel
theorem dX6_chain_35 : decode cX6_chain 35 = .ok (.iconst 1, 1) := by decide +kernel
theorem dX6_chain_36 : decode cX6_chain 36 = .ok (.istore 7, 2) := by decide +kernel
theorem dX6_chain_38 : decode cX6_chain 38 = .ok (.iload 7, 2) := by decide +kernel
theorem dX6_chain_40 : decode cX6_chain 40 = .ok (.aload_n 0, 1) := by decide +kernel
theorem dX6_chain_41 : decode cX6_chain 41 = .ok (.getfield 10, 3) := by decide +kernel
theorem dX6_chain_44 : decode cX6_chain 44 = .ok (.getfield 97, 3) := by decide +kernel
theorem dX6_chain_47 : decode cX6_chain 47 = .ok (.if_icmp .ge 92, 3) := by decide +kernel
theorem dX6_chain_50 : decode cX6_chain 50 = .ok (.aload_n 0, 1) := by decide +kernel
theorem dX6_chain_51 : decode cX6_chain 51 = .ok (.getfield 10, 3) := by decide +kernel
theorem dX6_chain_54 : decode cX6_chain 54 = .ok (.iload 7, 2) := by decide +kernel
theorem dX6_chain_56 : decode cX6_chain 56 = .ok (.invokevirtual 168, 3) := by decide +kernel
theorem dX6_chain_59 : decode cX6_chain 59 = .ok (.aload_n 0, 1) := by decide +kernel
theorem dX6_chain_60 : decode cX6_chain 60 = .ok (.getfield 10, 3) := by decide +kernel
theorem dX6_chain_63 : decode cX6_chain 63 = .ok (.iload 4, 2) := by decide +kernel
theorem dX6_chain_65 : decode cX6_chain 65 = .ok (.invokevirtual 168, 3) := by decide +kernel
theorem dX6_chain_68 : decode cX6_chain 68 = .ok (.isub, 1) := by decide +kernel
theorem dX6_chain_69 : decode cX6_chain 69 = .ok (.iload_n 1, 1) := by decide +kernel
theorem dX6_chain_70 : decode cX6_chain 70 = .ok (.if_icmp .lt 63, 3) := by decide +kernel
theorem dX6_chain_73 : decode cX6_chain 73 = .ok (.aload_n 0, 1) := by decide +kernel
theorem dX6_chain_74 : decode cX6_chain 74 = .ok (.getfield 33, 3) := by decide +kernel
theorem dX6_chain_77 : decode cX6_chain 77 = .ok (.iload 4, 2) := by decide +kernel
theorem dX6_chain_79 : decode cX6_chain 79 = .ok (.iload 7, 2) := by decide +kernel
theorem dX6_chain_81 : decode cX6_chain 81 = .ok (.invokevirtual 217, 3) := by decide +kernel
theorem dX6_chain_84 : decode cX6_chain 84 = .ok (.istore 8, 2) := by decide +kernel
theorem dX6_chain_86 : decode cX6_chain 86 = .ok (.iload_n 3, 1) := by decide +kernel
theorem dX6_chain_87 : decode cX6_chain 87 = .ok (.iconst 2, 1) := by decide +kernel
theorem dX6_chain_88 : decode cX6_chain 88 = .ok (.if_icmp .gt 31, 3) := by decide +kernel
theorem dX6_chain_91 : decode cX6_chain 91 = .ok (.iload 5, 2) := by decide +kernel
theorem dX6_chain_93 : decode cX6_chain 93 = .ok (.iload_n 2, 1) := by decide +kernel
theorem dX6_chain_94 : decode cX6_chain 94 = .ok (.if_icmp .ne 25, 3) := by decide +kernel
theorem dX6_chain_97 : decode cX6_chain 97 = .ok (.iload_n 3, 1) := by decide +kernel
theorem dX6_chain_98 : decode cX6_chain 98 = .ok (.ifCond .ne 8, 3) := by decide +kernel
theorem dX6_chain_101 : decode cX6_chain 101 = .ok (.iload 4, 2) := by decide +kernel
theorem dX6_chain_103 : decode cX6_chain 103 = .ok (.goto 15, 3) := by decide +kernel
theorem dX6_chain_106 : decode cX6_chain 106 = .ok (.iload_n 3, 1) := by decide +kernel
theorem dX6_chain_107 : decode cX6_chain 107 = .ok (.iconst 1, 1) := by decide +kernel
theorem dX6_chain_108 : decode cX6_chain 108 = .ok (.if_icmp .ne 8, 3) := by decide +kernel
theorem dX6_chain_111 : decode cX6_chain 111 = .ok (.iload 7, 2) := by decide +kernel
theorem dX6_chain_113 : decode cX6_chain 113 = .ok (.goto 5, 3) := by decide +kernel
theorem dX6_chain_116 : decode cX6_chain 116 = .ok (.iload 8, 2) := by decide +kernel
theorem dX6_chain_118 : decode cX6_chain 118 = .ok (.ireturn, 1) := by decide +kernel
theorem dX6_chain_119 : decode cX6_chain 119 = .ok (.iload 6, 2) := by decide +kernel
theorem dX6_chain_121 : decode cX6_chain 121 = .ok (.iload 8, 2) := by decide +kernel
theorem dX6_chain_123 : decode cX6_chain 123 = .ok (.iadd, 1) := by decide +kernel
theorem dX6_chain_124 : decode cX6_chain 124 = .ok (.istore 6, 2) := by decide +kernel
theorem dX6_chain_126 : decode cX6_chain 126 = .ok (.iinc 5 1, 3) := by decide +kernel
theorem dX6_chain_129 : decode cX6_chain 129 = .ok (.iload 7, 2) := by decide +kernel
theorem dX6_chain_131 : decode cX6_chain 131 = .ok (.istore 4, 2) := by decide +kernel
theorem dX6_chain_133 : decode cX6_chain 133 = .ok (.iinc 7 1, 3) := by decide +kernel
theorem dX6_chain_136 : decode cX6_chain 136 = .ok (.goto (-98), 3) := by decide +kernel
theorem dX6_chain_139 : decode cX6_chain 139 = .ok (.iload_n 3, 1) := by decide +kernel
theorem dX6_chain_140 : decode cX6_chain 140 = .ok (.iconst 2, 1) := by decide +kernel
theorem dX6_chain_141 : decode cX6_chain 141 = .ok (.if_icmp .gt 6, 3) := by decide +kernel
theorem dX6_chain_144 : decode cX6_chain 144 = .ok (.bipush (-2), 2) := by decide +kernel
theorem dX6_chain_146 : decode cX6_chain 146 = .ok (.ireturn, 1) := by decide +kernel
theorem dX6_chain_147 : decode cX6_chain 147 = .ok (.iload_n 3, 1) := by decide +kernel
theorem dX6_chain_148 : decode cX6_chain 148 = .ok (.iconst 3, 1) := by decide +kernel
theorem dX6_chain_149 : decode cX6_chain 149 = .ok (.if_icmp .ne 8, 3) := by decide +kernel
theorem dX6_chain_152 : decode cX6_chain 152 = .ok (.iload 5, 2) := by decide +kernel
theorem dX6_chain_154 : decode cX6_chain 154 = .ok (.goto 5, 3) := by decide +kernel
theorem dX6_chain_157 : decode cX6_chain 157 = .ok (.iload 6, 2) := by decide +kernel
theorem dX6_chain_159 : decode cX6_chain 159 = .ok (.ireturn, 1) := by decide +kernel
theorem dX6_fit_0 : decode cX6_fit 0 = .ok (.aload_n 0, 1) := by decide +kernel
theorem dX6_fit_1 : decode cX6_fit 1 = .ok (.iload_n 1, 1) := by decide +kernel
theorem dX6_fit_2 : decode cX6_fit 2 = .ok (.iload_n 2, 1) := by decide +kernel
theorem dX6_fit_3 : decode cX6_fit 3 = .ok (.invokevirtual 227, 3) := by decide +kernel
theorem dX6_fit_6 : decode cX6_fit 6 = .ok (.ifCond .eq 10, 3) := by decide +kernel
theorem dX6_fit_9 : decode cX6_fit 9 = .ok (.iload_n 3, 1) := by decide +kernel
theorem dX6_fit_10 : decode cX6_fit 10 = .ok (.invokestatic 137, 3) := by decide +kernel
theorem dX6_fit_13 : decode cX6_fit 13 = .ok (.ifCond .ne 9, 3) := by decide +kernel
theorem dX6_fit_16 : decode cX6_fit 16 = .ok (.bipush (-2), 2) := by decide +kernel
theorem dX6_fit_18 : decode cX6_fit 18 = .ok (.invokestatic 140, 3) := by decide +kernel
theorem dX6_fit_21 : decode cX6_fit 21 = .ok (.lreturn, 1) := by decide +kernel
theorem dX6_fit_22 : decode cX6_fit 22 = .ok (.aload_n 0, 1) := by decide +kernel
theorem dX6_fit_23 : decode cX6_fit 23 = .ok (.invokevirtual 162, 3) := by decide +kernel
theorem dX6_fit_26 : decode cX6_fit 26 = .ok (.aload_n 0, 1) := by decide +kernel
theorem dX6_fit_27 : decode cX6_fit 27 = .ok (.getfield 33, 3) := by decide +kernel
theorem dX6_fit_30 : decode cX6_fit 30 = .ok (.iload_n 1, 1) := by decide +kernel
theorem dX6_fit_31 : decode cX6_fit 31 = .ok (.iload_n 2, 1) := by decide +kernel
theorem dX6_fit_32 : decode cX6_fit 32 = .ok (.invokevirtual 231, 3) := by decide +kernel
theorem dX6_fit_35 : decode cX6_fit 35 = .ok (.aload_n 0, 1) := by decide +kernel
theorem dX6_fit_36 : decode cX6_fit 36 = .ok (.getfield 33, 3) := by decide +kernel
theorem dX6_fit_39 : decode cX6_fit 39 = .ok (.iload_n 1, 1) := by decide +kernel
theorem dX6_fit_40 : decode cX6_fit 40 = .ok (.iload_n 2, 1) := by decide +kernel
theorem dX6_fit_41 : decode cX6_fit 41 = .ok (.invokevirtual 235, 3) := by decide +kernel
theorem dX6_fit_44 : decode cX6_fit 44 = .ok (.aload_n 0, 1) := by decide +kernel
theorem dX6_fit_45 : decode cX6_fit 45 = .ok (.getfield 33, 3) := by decide +kernel
theorem dX6_fit_48 : decode cX6_fit 48 = .ok (.getfield 197, 3) := by decide +kernel
theorem dX6_fit_51 : decode cX6_fit 51 = .ok (.i2l, 1) := by decide +kernel
theorem dX6_fit_52 : decode cX6_fit 52 = .ok (.lmul, 1) := by decide +kernel
theorem dX6_fit_53 : decode cX6_fit 53 = .ok (.iload_n 3, 1) := by decide +kernel
theorem dX6_fit_54 : decode cX6_fit 54 = .ok (.invokestatic 146, 3) := by decide +kernel
theorem dX6_fit_57 : decode cX6_fit 57 = .ok (.lreturn, 1) := by decide +kernel
theorem dX6_off_0 : decode cX6_off 0 = .ok (.aload_n 0, 1) := by decide +kernel
theorem dX6_off_1 : decode cX6_off 1 = .ok (.iload_n 1, 1) := by decide +kernel
theorem dX6_off_2 : decode cX6_off 2 = .ok (.iload_n 2, 1) := by decide +kernel
theorem dX6_off_3 : decode cX6_off 3 = .ok (.invokevirtual 227, 3) := by decide +kernel
theorem dX6_off_6 : decode cX6_off 6 = .ok (.ifCond .ne 6, 3) := by decide +kernel
theorem dX6_off_9 : decode cX6_off 9 = .ok (.bipush (-2), 2) := by decide +kernel
theorem dX6_off_11 : decode cX6_off 11 = .ok (.ireturn, 1) := by decide +kernel
theorem dX6_off_12 : decode cX6_off 12 = .ok (.aload_n 0, 1) := by decide +kernel
theorem dX6_off_13 : decode cX6_off 13 = .ok (.invokevirtual 162, 3) := by decide +kernel
theorem dX6_off_16 : decode cX6_off 16 = .ok (.aload_n 0, 1) := by decide +kernel
theorem dX6_off_17 : decode cX6_off 17 = .ok (.getfield 33, 3) := by decide +kernel
theorem dX6_off_20 : decode cX6_off 20 = .ok (.iload_n 1, 1) := by decide +kernel
theorem dX6_off_21 : decode cX6_off 21 = .ok (.iload_n 2, 1) := by decide +kernel
theorem dX6_off_22 : decode cX6_off 22 = .ok (.invokevirtual 238, 3) := by decide +kernel
theorem dX6_off_25 : decode cX6_off 25 = .ok (.ireturn, 1) := by decide +kernel
theorem dX6_gain_0 : decode cX6_gain 0 = .ok (.iload_n 1, 1) := by decide +kernel
theorem dX6_gain_1 : decode cX6_gain 1 = .ok (.iconst 3, 1) := by decide +kernel
theorem dX6_gain_2 : decode cX6_gain 2 = .ok (.bipush 32, 2) := by decide +kernel
theorem dX6_gain_4 : decode cX6_gain 4 = .ok (.invokestatic 87, 3) := by decide +kernel
theorem dX6_gain_7 : decode cX6_gain 7 = .ok (.ifCond .eq 10, 3) := by decide +kernel
theorem dX6_gain_10 : decode cX6_gain 10 = .ok (.iload_n 2, 1) := by decide +kernel
theorem dX6_gain_11 : decode cX6_gain 11 = .ok (.invokestatic 137, 3) := by decide +kernel
theorem dX6_gain_14 : decode cX6_gain 14 = .ok (.ifCond .ne 9, 3) := by decide +kernel
theorem dX6_gain_17 : decode cX6_gain 17 = .ok (.bipush (-2), 2) := by decide +kernel
theorem dX6_gain_19 : decode cX6_gain 19 = .ok (.invokestatic 140, 3) := by decide +kernel
theorem dX6_gain_22 : decode cX6_gain 22 = .ok (.lreturn, 1) := by decide +kernel
theorem dX6_gain_23 : decode cX6_gain 23 = .ok (.iload_n 1, 1) := by decide +kernel
theorem dX6_gain_24 : decode cX6_gain 24 = .ok (.i2l, 1) := by decide +kernel
theorem dX6_gain_25 : decode cX6_gain 25 = .ok (.iload_n 1, 1) := by decide +kernel
theorem dX6_gain_26 : decode cX6_gain 26 = .ok (.iconst 1, 1) := by decide +kernel
theorem dX6_gain_27 : decode cX6_gain 27 = .ok (.iadd, 1) := by decide +kernel
theorem dX6_gain_28 : decode cX6_gain 28 = .ok (.i2l, 1) := by decide +kernel
theorem dX6_gain_29 : decode cX6_gain 29 = .ok (.lmul, 1) := by decide +kernel
theorem dX6_gain_30 : decode cX6_gain 30 = .ok (.ldc2_w 240, 3) := by decide +kernel
theorem dX6_gain_33 : decode cX6_gain 33 = .ok (.iload_n 1, 1) := by decide +kernel
theorem dX6_gain_34 : decode cX6_gain 34 = .ok (.iconst 1, 1) := by decide +kernel
theorem dX6_gain_35 : decode cX6_gain 35 = .ok (.isub, 1) := by decide +kernel
theorem dX6_gain_36 : decode cX6_gain 36 = .ok (.i2l, 1) := by decide +kernel
theorem dX6_gain_37 : decode cX6_gain 37 = .ok (.lmul, 1) := by decide +kernel
theorem dX6_gain_38 : decode cX6_gain 38 = .ok (.iload_n 2, 1) := by decide +kernel
theorem dX6_gain_39 : decode cX6_gain 39 = .ok (.invokestatic 146, 3) := by decide +kernel
theorem dX6_gain_42 : decode cX6_gain 42 = .ok (.lreturn, 1) := by decide +kernel
theorem dX6_variance_0 : decode cX6_variance 0 = .ok (.iload_n 1, 1) := by decide +kernel
theorem dX6_variance_1 : decode cX6_variance 1 = .ok (.iconst 1, 1) := by decide +kernel
theorem dX6_variance_2 : decode cX6_variance 2 = .ok (.bipush 15, 2) := by decide +kernel
theorem dX6_variance_4 : decode cX6_variance 4 = .ok (.invokestatic 87, 3) := by decide +kernel
theorem dX6_variance_7 : decode cX6_variance 7 = .ok (.ifCond .eq 10, 3) := by decide +kernel
theorem dX6_variance_10 : decode cX6_variance 10 = .ok (.iload_n 2, 1) := by decide +kernel
theorem dX6_variance_11 : decode cX6_variance 11 = .ok (.invokestatic 137, 3) := by decide +kernel
theorem dX6_variance_14 : decode cX6_variance 14 = .ok (.ifCond .ne 9, 3) := by decide +kernel
theorem dX6_variance_17 : decode cX6_variance 17 = .ok (.bipush (-2), 2) := by decide +kernel
theorem dX6_variance_19 : decode cX6_variance 19 = .ok (.invokestatic 140, 3) := by decide +kernel
theorem dX6_variance_22 : decode cX6_variance 22 = .ok (.lreturn, 1) := by decide +kernel
theorem dX6_variance_23 : decode cX6_variance 23 = .ok (.aload_n 0, 1) := by decide +kernel
theorem dX6_variance_24 : decode cX6_variance 24 = .ok (.invokevirtual 162, 3) := by decide +kernel
theorem dX6_variance_27 : decode cX6_variance 27 = .ok (.iload_n 1, 1) := by decide +kernel
theorem dX6_variance_28 : decode cX6_variance 28 = .ok (.aload_n 0, 1) := by decide +kernel
theorem dX6_variance_29 : decode cX6_variance 29 = .ok (.getfield 40, 3) := by decide +kernel
theorem dX6_variance_32 : decode cX6_variance 32 = .ok (.getfield 242, 3) := by decide +kernel
theorem dX6_variance_35 : decode cX6_variance 35 = .ok (.if_icmp .le 9, 3) := by decide +kernel
theorem dX6_variance_38 : decode cX6_variance 38 = .ok (.bipush (-3), 2) := by decide +kernel
theorem dX6_variance_40 : decode cX6_variance 40 = .ok (.invokestatic 140, 3) := by decide +kernel
theorem dX6_variance_43 : decode cX6_variance 43 = .ok (.lreturn, 1) := by decide +kernel
theorem dX6_variance_44 : decode cX6_variance 44 = .ok (.aload_n 0, 1) := by decide +kernel
theorem dX6_variance_45 : decode cX6_variance 45 = .ok (.getfield 33, 3) := by decide +kernel
theorem dX6_variance_48 : decode cX6_variance 48 = .ok (.getfield 197, 3) := by decide +kernel
theorem dX6_variance_51 : decode cX6_variance 51 = .ok (.i2l, 1) := by decide +kernel
theorem dX6_variance_52 : decode cX6_variance 52 = .ok (.lstore_n 3, 1) := by decide +kernel
theorem dX6_variance_53 : decode cX6_variance 53 = .ok (.aload_n 0, 1) := by decide +kernel
theorem dX6_variance_54 : decode cX6_variance 54 = .ok (.getfield 40, 3) := by decide +kernel
theorem dX6_variance_57 : decode cX6_variance 57 = .ok (.getfield 243, 3) := by decide +kernel
theorem dX6_variance_60 : decode cX6_variance 60 = .ok (.iload_n 1, 1) := by decide +kernel
theorem dX6_variance_61 : decode cX6_variance 61 = .ok (.laload, 1) := by decide +kernel
theorem dX6_variance_62 : decode cX6_variance 62 = .ok (.ldc2_w 246, 3) := by decide +kernel
theorem dX6_variance_65 : decode cX6_variance 65 = .ok (.aload_n 0, 1) := by decide +kernel
theorem dX6_variance_66 : decode cX6_variance 66 = .ok (.getfield 40, 3) := by decide +kernel
theorem dX6_variance_69 : decode cX6_variance 69 = .ok (.getfield 248, 3) := by decide +kernel
theorem dX6_variance_72 : decode cX6_variance 72 = .ok (.iload_n 1, 1) := by decide +kernel
theorem dX6_variance_73 : decode cX6_variance 73 = .ok (.laload, 1) := by decide +kernel
theorem dX6_variance_74 : decode cX6_variance 74 = .ok (.lmul, 1) := by decide +kernel
theorem dX6_variance_75 : decode cX6_variance 75 = .ok (.lload_n 3, 1) := by decide +kernel
theorem dX6_variance_76 : decode cX6_variance 76 = .ok (.lmul, 1) := by decide +kernel
theorem dX6_variance_77 : decode cX6_variance 77 = .ok (.lload_n 3, 1) := by decide +kernel
theorem dX6_variance_78 : decode cX6_variance 78 = .ok (.lmul, 1) := by decide +kernel
theorem dX6_variance_79 : decode cX6_variance 79 = .ok (.iload_n 2, 1) := by decide +kernel
theorem dX6_variance_80 : decode cX6_variance 80 = .ok (.invokestatic 146, 3) := by decide +kernel
theorem dX6_variance_83 : decode cX6_variance 83 = .ok (.lreturn, 1) := by decide +kernel
theorem dX6_rank_0 : decode cX6_rank 0 = .ok (.aload_n 0, 1) := by decide +kernel
theorem dX6_rank_1 : decode cX6_rank 1 = .ok (.invokevirtual 162, 3) := by decide +kernel
theorem dX6_rank_4 : decode cX6_rank 4 = .ok (.iload_n 1, 1) := by decide +kernel
theorem dX6_rank_5 : decode cX6_rank 5 = .ok (.iconst 0, 1) := by decide +kernel
theorem dX6_rank_6 : decode cX6_rank 6 = .ok (.aload_n 0, 1) := by decide +kernel
theorem dX6_rank_7 : decode cX6_rank 7 = .ok (.getfield 40, 3) := by decide +kernel
theorem dX6_rank_10 : decode cX6_rank 10 = .ok (.getfield 242, 3) := by decide +kernel
theorem dX6_rank_13 : decode cX6_rank 13 = .ok (.iconst 1, 1) := by decide +kernel
theorem dX6_rank_14 : decode cX6_rank 14 = .ok (.isub, 1) := by decide +kernel
theorem dX6_rank_15 : decode cX6_rank 15 = .ok (.invokestatic 87, 3) := by decide +kernel
theorem dX6_rank_18 : decode cX6_rank 18 = .ok (.ifCond .eq 15, 3) := by decide +kernel
theorem dX6_rank_21 : decode cX6_rank 21 = .ok (.aload_n 0, 1) := by decide +kernel
theorem dX6_rank_22 : decode cX6_rank 22 = .ok (.getfield 40, 3) := by decide +kernel
theorem dX6_rank_25 : decode cX6_rank 25 = .ok (.getfield 251, 3) := by decide +kernel
theorem dX6_rank_28 : decode cX6_rank 28 = .ok (.iload_n 1, 1) := by decide +kernel
theorem dX6_rank_29 : decode cX6_rank 29 = .ok (.iaload, 1) := by decide +kernel
theorem dX6_rank_30 : decode cX6_rank 30 = .ok (.goto 5, 3) := by decide +kernel
theorem dX6_rank_33 : decode cX6_rank 33 = .ok (.bipush (-2), 2) := by decide +kernel
theorem dX6_rank_35 : decode cX6_rank 35 = .ok (.ireturn, 1) := by decide +kernel
theorem dX6_sheet_0 : decode cX6_sheet 0 = .ok (.iload_n 1, 1) := by decide +kernel
theorem dX6_sheet_1 : decode cX6_sheet 1 = .ok (.invokestatic 254, 3) := by decide +kernel
theorem dX6_sheet_4 : decode cX6_sheet 4 = .ok (.ifCond .eq 16, 3) := by decide +kernel
theorem dX6_sheet_7 : decode cX6_sheet 7 = .ok (.iload_n 2, 1) := by decide +kernel
theorem dX6_sheet_8 : decode cX6_sheet 8 = .ok (.invokestatic 257, 3) := by decide +kernel
theorem dX6_sheet_11 : decode cX6_sheet 11 = .ok (.ifCond .eq 9, 3) := by decide +kernel
theorem dX6_sheet_14 : decode cX6_sheet 14 = .ok (.iload_n 3, 1) := by decide +kernel
theorem dX6_sheet_15 : decode cX6_sheet 15 = .ok (.bipush 40, 2) := by decide +kernel
theorem dX6_sheet_17 : decode cX6_sheet 17 = .ok (.if_icmp .le 6, 3) := by decide +kernel
theorem dX6_sheet_20 : decode cX6_sheet 20 = .ok (.bipush (-2), 2) := by decide +kernel
theorem dX6_sheet_22 : decode cX6_sheet 22 = .ok (.ireturn, 1) := by decide +kernel
theorem dX6_sheet_23 : decode cX6_sheet 23 = .ok (.iload_n 3, 1) := by decide +kernel
theorem dX6_sheet_24 : decode cX6_sheet 24 = .ok (.ifCond .ge 9, 3) := by decide +kernel
theorem dX6_sheet_27 : decode cX6_sheet 27 = .ok (.aload_n 0, 1) := by decide +kernel
theorem dX6_sheet_28 : decode cX6_sheet 28 = .ok (.iconst 5, 1) := by decide +kernel
theorem dX6_sheet_29 : decode cX6_sheet 29 = .ok (.invokevirtual 260, 3) := by decide +kernel
theorem dX6_sheet_32 : decode cX6_sheet 32 = .ok (.ireturn, 1) := by decide +kernel
theorem dX6_sheet_33 : decode cX6_sheet 33 = .ok (.aload_n 0, 1) := by decide +kernel
theorem dX6_sheet_34 : decode cX6_sheet 34 = .ok (.getfield 46, 3) := by decide +kernel
theorem dX6_sheet_37 : decode cX6_sheet 37 = .ok (.iload_n 1, 1) := by decide +kernel
theorem dX6_sheet_38 : decode cX6_sheet 38 = .ok (.aaload, 1) := by decide +kernel
theorem dX6_sheet_39 : decode cX6_sheet 39 = .ok (.iload_n 2, 1) := by decide +kernel
theorem dX6_sheet_40 : decode cX6_sheet 40 = .ok (.iload_n 3, 1) := by decide +kernel
theorem dX6_sheet_41 : decode cX6_sheet 41 = .ok (.invokevirtual 263, 3) := by decide +kernel
theorem dX6_sheet_44 : decode cX6_sheet 44 = .ok (.iload_n 3, 1) := by decide +kernel
theorem dX6_sheet_45 : decode cX6_sheet 45 = .ok (.ireturn, 1) := by decide +kernel
theorem dX6_lose_0 : decode cX6_lose 0 = .ok (.iload_n 1, 1) := by decide +kernel
theorem dX6_lose_1 : decode cX6_lose 1 = .ok (.invokestatic 254, 3) := by decide +kernel
theorem dX6_lose_4 : decode cX6_lose 4 = .ok (.ifCond .ne 6, 3) := by decide +kernel
theorem dX6_lose_7 : decode cX6_lose 7 = .ok (.bipush (-2), 2) := by decide +kernel
theorem dX6_lose_9 : decode cX6_lose 9 = .ok (.ireturn, 1) := by decide +kernel
theorem dX6_lose_10 : decode cX6_lose 10 = .ok (.aload_n 0, 1) := by decide +kernel
theorem dX6_lose_11 : decode cX6_lose 11 = .ok (.getfield 46, 3) := by decide +kernel
theorem dX6_lose_14 : decode cX6_lose 14 = .ok (.iload_n 1, 1) := by decide +kernel
theorem dX6_lose_15 : decode cX6_lose 15 = .ok (.aaload, 1) := by decide +kernel
theorem dX6_lose_16 : decode cX6_lose 16 = .ok (.astore_n 2, 1) := by decide +kernel
theorem dX6_lose_17 : decode cX6_lose 17 = .ok (.aload_n 2, 1) := by decide +kernel
theorem dX6_lose_18 : decode cX6_lose 18 = .ok (.invokevirtual 266, 3) := by decide +kernel
theorem dX6_lose_21 : decode cX6_lose 21 = .ok (.ifCond .eq 9, 3) := by decide +kernel
theorem dX6_lose_24 : decode cX6_lose 24 = .ok (.aload_n 0, 1) := by decide +kernel
theorem dX6_lose_25 : decode cX6_lose 25 = .ok (.iconst 1, 1) := by decide +kernel
theorem dX6_lose_26 : decode cX6_lose 26 = .ok (.invokevirtual 260, 3) := by decide +kernel
theorem dX6_lose_29 : decode cX6_lose 29 = .ok (.ireturn, 1) := by decide +kernel
theorem dX6_lose_30 : decode cX6_lose 30 = .ok (.aload_n 2, 1) := by decide +kernel
theorem dX6_lose_31 : decode cX6_lose 31 = .ok (.iconst (-1), 1) := by decide +kernel
theorem dX6_lose_32 : decode cX6_lose 32 = .ok (.putfield 269, 3) := by decide +kernel
theorem dX6_lose_35 : decode cX6_lose 35 = .ok (.aload_n 2, 1) := by decide +kernel
theorem dX6_lose_36 : decode cX6_lose 36 = .ok (.getfield 272, 3) := by decide +kernel
theorem dX6_lose_39 : decode cX6_lose 39 = .ok (.ireturn, 1) := by decide +kernel
theorem dX6_put_0 : decode cX6_put 0 = .ok (.iload_n 1, 1) := by decide +kernel
theorem dX6_put_1 : decode cX6_put 1 = .ok (.invokestatic 254, 3) := by decide +kernel
theorem dX6_put_4 : decode cX6_put 4 = .ok (.ifCond .eq 10, 3) := by decide +kernel
theorem dX6_put_7 : decode cX6_put 7 = .ok (.iload_n 2, 1) := by decide +kernel
theorem dX6_put_8 : decode cX6_put 8 = .ok (.invokestatic 257, 3) := by decide +kernel
theorem dX6_put_11 : decode cX6_put 11 = .ok (.ifCond .ne 6, 3) := by decide +kernel
theorem dX6_put_14 : decode cX6_put 14 = .ok (.bipush (-2), 2) := by decide +kernel
theorem dX6_put_16 : decode cX6_put 16 = .ok (.ireturn, 1) := by decide +kernel
theorem dX6_put_17 : decode cX6_put 17 = .ok (.aload_n 0, 1) := by decide +kernel
theorem dX6_put_18 : decode cX6_put 18 = .ok (.getfield 46, 3) := by decide +kernel
theorem dX6_put_21 : decode cX6_put 21 = .ok (.iload_n 1, 1) := by decide +kernel
theorem dX6_put_22 : decode cX6_put 22 = .ok (.aaload, 1) := by decide +kernel
theorem dX6_put_23 : decode cX6_put 23 = .ok (.astore 5, 2) := by decide +kernel
theorem dX6_put_25 : decode cX6_put 25 = .ok (.aload 5, 2) := by decide +kernel
theorem dX6_put_27 : decode cX6_put 27 = .ok (.invokevirtual 266, 3) := by decide +kernel
theorem dX6_put_30 : decode cX6_put 30 = .ok (.ifCond .eq 9, 3) := by decide +kernel
theorem dX6_put_33 : decode cX6_put 33 = .ok (.aload_n 0, 1) := by decide +kernel
theorem dX6_put_34 : decode cX6_put 34 = .ok (.iconst 1, 1) := by decide +kernel
theorem dX6_put_35 : decode cX6_put 35 = .ok (.invokevirtual 260, 3) := by decide +kernel
theorem dX6_put_38 : decode cX6_put 38 = .ok (.ireturn, 1) := by decide +kernel
theorem dX6_put_39 : decode cX6_put 39 = .ok (.aload 5, 2) := by decide +kernel
theorem dX6_put_41 : decode cX6_put 41 = .ok (.getfield 269, 3) := by decide +kernel
theorem dX6_put_44 : decode cX6_put 44 = .ok (.iload_n 2, 1) := by decide +kernel
theorem dX6_put_45 : decode cX6_put 45 = .ok (.if_icmp .eq 9, 3) := by decide +kernel
theorem dX6_put_48 : decode cX6_put 48 = .ok (.aload_n 0, 1) := by decide +kernel
theorem dX6_put_49 : decode cX6_put 49 = .ok (.iconst 3, 1) := by decide +kernel
theorem dX6_put_50 : decode cX6_put 50 = .ok (.invokevirtual 260, 3) := by decide +kernel
theorem dX6_put_53 : decode cX6_put 53 = .ok (.ireturn, 1) := by decide +kernel
theorem dX6_put_54 : decode cX6_put 54 = .ok (.aload 5, 2) := by decide +kernel
theorem dX6_put_56 : decode cX6_put 56 = .ok (.iload_n 3, 1) := by decide +kernel
theorem dX6_put_57 : decode cX6_put 57 = .ok (.invokevirtual 273, 3) := by decide +kernel
theorem dX6_put_60 : decode cX6_put 60 = .ok (.ifCond .ne 9, 3) := by decide +kernel
theorem dX6_put_63 : decode cX6_put 63 = .ok (.aload_n 0, 1) := by decide +kernel
theorem dX6_put_64 : decode cX6_put 64 = .ok (.iconst 2, 1) := by decide +kernel
theorem dX6_put_65 : decode cX6_put 65 = .ok (.invokevirtual 260, 3) := by decide +kernel
theorem dX6_put_68 : decode cX6_put 68 = .ok (.ireturn, 1) := by decide +kernel
theorem dX6_put_69 : decode cX6_put 69 = .ok (.aload 5, 2) := by decide +kernel
theorem dX6_put_71 : decode cX6_put 71 = .ok (.iload_n 3, 1) := by decide +kernel
theorem dX6_put_72 : decode cX6_put 72 = .ok (.iload 4, 2) := by decide +kernel
theorem dX6_put_74 : decode cX6_put 74 = .ok (.invokevirtual 276, 3) := by decide +kernel
theorem dX6_put_77 : decode cX6_put 77 = .ok (.iconst 1, 1) := by decide +kernel
theorem dX6_put_78 : decode cX6_put 78 = .ok (.ireturn, 1) := by decide +kernel
theorem dX6_blank_0 : decode cX6_blank 0 = .ok (.iload_n 1, 1) := by decide +kernel
theorem dX6_blank_1 : decode cX6_blank 1 = .ok (.invokestatic 254, 3) := by decide +kernel
theorem dX6_blank_4 : decode cX6_blank 4 = .ok (.ifCond .ne 6, 3) := by decide +kernel
theorem dX6_blank_7 : decode cX6_blank 7 = .ok (.bipush (-2), 2) := by decide +kernel
theorem dX6_blank_9 : decode cX6_blank 9 = .ok (.ireturn, 1) := by decide +kernel
theorem dX6_blank_10 : decode cX6_blank 10 = .ok (.aload_n 0, 1) := by decide +kernel
theorem dX6_blank_11 : decode cX6_blank 11 = .ok (.getfield 46, 3) := by decide +kernel
theorem dX6_blank_14 : decode cX6_blank 14 = .ok (.iload_n 1, 1) := by decide +kernel
theorem dX6_blank_15 : decode cX6_blank 15 = .ok (.aaload, 1) := by decide +kernel
theorem dX6_blank_16 : decode cX6_blank 16 = .ok (.astore_n 3, 1) := by decide +kernel
theorem dX6_blank_17 : decode cX6_blank 17 = .ok (.aload_n 3, 1) := by decide +kernel
theorem dX6_blank_18 : decode cX6_blank 18 = .ok (.invokevirtual 266, 3) := by decide +kernel
theorem dX6_blank_21 : decode cX6_blank 21 = .ok (.ifCond .eq 9, 3) := by decide +kernel
theorem dX6_blank_24 : decode cX6_blank 24 = .ok (.aload_n 0, 1) := by decide +kernel
theorem dX6_blank_25 : decode cX6_blank 25 = .ok (.iconst 1, 1) := by decide +kernel
theorem dX6_blank_26 : decode cX6_blank 26 = .ok (.invokevirtual 260, 3) := by decide +kernel
theorem dX6_blank_29 : decode cX6_blank 29 = .ok (.ireturn, 1) := by decide +kernel
theorem dX6_blank_30 : decode cX6_blank 30 = .ok (.aload_n 3, 1) := by decide +kernel
theorem dX6_blank_31 : decode cX6_blank 31 = .ok (.invokevirtual 279, 3) := by decide +kernel
theorem dX6_blank_34 : decode cX6_blank 34 = .ok (.ifCond .ne 9, 3) := by decide +kernel
theorem dX6_blank_37 : decode cX6_blank 37 = .ok (.aload_n 0, 1) := by decide +kernel
theorem dX6_blank_38 : decode cX6_blank 38 = .ok (.iconst 3, 1) := by decide +kernel
theorem dX6_blank_39 : decode cX6_blank 39 = .ok (.invokevirtual 260, 3) := by decide +kernel
theorem dX6_blank_42 : decode cX6_blank 42 = .ok (.ireturn, 1) := by decide +kernel
theorem dX6_blank_43 : decode cX6_blank 43 = .ok (.aload_n 3, 1) := by decide +kernel
theorem dX6_blank_44 : decode cX6_blank 44 = .ok (.iload_n 2, 1) := by decide +kernel
theorem dX6_blank_45 : decode cX6_blank 45 = .ok (.invokevirtual 273, 3) := by decide +kernel
theorem dX6_blank_48 : decode cX6_blank 48 = .ok (.ifCond .ne 9, 3) := by decide +kernel
theorem dX6_blank_51 : decode cX6_blank 51 = .ok (.aload_n 0, 1) := by decide +kernel
theorem dX6_blank_52 : decode cX6_blank 52 = .ok (.iconst 2, 1) := by decide +kernel
theorem dX6_blank_53 : decode cX6_blank 53 = .ok (.invokevirtual 260, 3) := by decide +kernel
theorem dX6_blank_56 : decode cX6_blank 56 = .ok (.ireturn, 1) := by decide +kernel
theorem dX6_blank_57 : decode cX6_blank 57 = .ok (.aload_n 3, 1) := by decide +kernel
theorem dX6_blank_58 : decode cX6_blank 58 = .ok (.getfield 282, 3) := by decide +kernel
theorem dX6_blank_61 : decode cX6_blank 61 = .ok (.iload_n 2, 1) := by decide +kernel
theorem dX6_blank_62 : decode cX6_blank 62 = .ok (.iconst 1, 1) := by decide +kernel
theorem dX6_blank_63 : decode cX6_blank 63 = .ok (.bastore, 1) := by decide +kernel
theorem dX6_blank_64 : decode cX6_blank 64 = .ok (.iconst 1, 1) := by decide +kernel
theorem dX6_blank_65 : decode cX6_blank 65 = .ok (.ireturn, 1) := by decide +kernel
theorem dX6_get_0 : decode cX6_get 0 = .ok (.iload_n 1, 1) := by decide +kernel
theorem dX6_get_1 : decode cX6_get 1 = .ok (.invokestatic 254, 3) := by decide +kernel
theorem dX6_get_4 : decode cX6_get 4 = .ok (.ifCond .ne 9, 3) := by decide +kernel
theorem dX6_get_7 : decode cX6_get 7 = .ok (.bipush (-2), 2) := by decide +kernel
theorem dX6_get_9 : decode cX6_get 9 = .ok (.invokestatic 140, 3) := by decide +kernel
theorem dX6_get_12 : decode cX6_get 12 = .ok (.lreturn, 1) := by decide +kernel
theorem dX6_get_13 : decode cX6_get 13 = .ok (.aload_n 0, 1) := by decide +kernel
theorem dX6_get_14 : decode cX6_get 14 = .ok (.getfield 46, 3) := by decide +kernel
theorem dX6_get_17 : decode cX6_get 17 = .ok (.iload_n 1, 1) := by decide +kernel
theorem dX6_get_18 : decode cX6_get 18 = .ok (.aaload, 1) := by decide +kernel
theorem dX6_get_19 : decode cX6_get 19 = .ok (.astore_n 3, 1) := by decide +kernel
theorem dX6_get_20 : decode cX6_get 20 = .ok (.aload_n 3, 1) := by decide +kernel
theorem dX6_get_21 : decode cX6_get 21 = .ok (.invokevirtual 266, 3) := by decide +kernel
theorem dX6_get_24 : decode cX6_get 24 = .ok (.ifCond .eq 12, 3) := by decide +kernel
theorem dX6_get_27 : decode cX6_get 27 = .ok (.aload_n 0, 1) := by decide +kernel
theorem dX6_get_28 : decode cX6_get 28 = .ok (.iconst 1, 1) := by decide +kernel
theorem dX6_get_29 : decode cX6_get 29 = .ok (.invokevirtual 260, 3) := by decide +kernel
theorem dX6_get_32 : decode cX6_get 32 = .ok (.invokestatic 140, 3) := by decide +kernel
theorem dX6_get_35 : decode cX6_get 35 = .ok (.lreturn, 1) := by decide +kernel
theorem dX6_get_36 : decode cX6_get 36 = .ok (.aload_n 3, 1) := by decide +kernel
theorem dX6_get_37 : decode cX6_get 37 = .ok (.iload_n 2, 1) := by decide +kernel
theorem dX6_get_38 : decode cX6_get 38 = .ok (.invokevirtual 273, 3) := by decide +kernel
theorem dX6_get_41 : decode cX6_get 41 = .ok (.ifCond .ne 12, 3) := by decide +kernel
theorem dX6_get_44 : decode cX6_get 44 = .ok (.aload_n 0, 1) := by decide +kernel
theorem dX6_get_45 : decode cX6_get 45 = .ok (.iconst 2, 1) := by decide +kernel
theorem dX6_get_46 : decode cX6_get 46 = .ok (.invokevirtual 260, 3) := by decide +kernel
theorem dX6_get_49 : decode cX6_get 49 = .ok (.invokestatic 140, 3) := by decide +kernel
theorem dX6_get_52 : decode cX6_get 52 = .ok (.lreturn, 1) := by decide +kernel
theorem dX6_get_53 : decode cX6_get 53 = .ok (.aload_n 3, 1) := by decide +kernel
theorem dX6_get_54 : decode cX6_get 54 = .ok (.getfield 282, 3) := by decide +kernel
theorem dX6_get_57 : decode cX6_get 57 = .ok (.iload_n 2, 1) := by decide +kernel
theorem dX6_get_58 : decode cX6_get 58 = .ok (.baload, 1) := by decide +kernel
theorem dX6_get_59 : decode cX6_get 59 = .ok (.ifCond .eq 10, 3) := by decide +kernel
theorem dX6_get_62 : decode cX6_get 62 = .ok (.iconst (-1), 1) := by decide +kernel
theorem dX6_get_63 : decode cX6_get 63 = .ok (.invokestatic 140, 3) := by decide +kernel
theorem dX6_get_66 : decode cX6_get 66 = .ok (.goto 8, 3) := by decide +kernel
theorem dX6_get_69 : decode cX6_get 69 = .ok (.aload_n 3, 1) := by decide +kernel
theorem dX6_get_70 : decode cX6_get 70 = .ok (.iload_n 2, 1) := by decide +kernel
theorem dX6_get_71 : decode cX6_get 71 = .ok (.invokevirtual 285, 3) := by decide +kernel
theorem dX6_get_74 : decode cX6_get 74 = .ok (.lreturn, 1) := by decide +kernel
theorem dX6_copy_0 : decode cX6_copy 0 = .ok (.iload_n 1, 1) := by decide +kernel
theorem dX6_copy_1 : decode cX6_copy 1 = .ok (.invokestatic 254, 3) := by decide +kernel
theorem dX6_copy_4 : decode cX6_copy 4 = .ok (.ifCond .eq 10, 3) := by decide +kernel
theorem dX6_copy_7 : decode cX6_copy 7 = .ok (.iload_n 3, 1) := by decide +kernel
theorem dX6_copy_8 : decode cX6_copy 8 = .ok (.invokestatic 254, 3) := by decide +kernel
theorem dX6_copy_11 : decode cX6_copy 11 = .ok (.ifCond .ne 6, 3) := by decide +kernel
theorem dX6_copy_14 : decode cX6_copy 14 = .ok (.bipush (-2), 2) := by decide +kernel
theorem dX6_copy_16 : decode cX6_copy 16 = .ok (.ireturn, 1) := by decide +kernel
theorem dX6_copy_17 : decode cX6_copy 17 = .ok (.aload_n 0, 1) := by decide +kernel
theorem dX6_copy_18 : decode cX6_copy 18 = .ok (.getfield 46, 3) := by decide +kernel
theorem dX6_copy_21 : decode cX6_copy 21 = .ok (.iload_n 1, 1) := by decide +kernel
theorem dX6_copy_22 : decode cX6_copy 22 = .ok (.aaload, 1) := by decide +kernel
theorem dX6_copy_23 : decode cX6_copy 23 = .ok (.astore 6, 2) := by decide +kernel
theorem dX6_copy_25 : decode cX6_copy 25 = .ok (.aload_n 0, 1) := by decide +kernel
theorem dX6_copy_26 : decode cX6_copy 26 = .ok (.getfield 46, 3) := by decide +kernel
theorem dX6_copy_29 : decode cX6_copy 29 = .ok (.iload_n 3, 1) := by decide +kernel
theorem dX6_copy_30 : decode cX6_copy 30 = .ok (.aaload, 1) := by decide +kernel
theorem dX6_copy_31 : decode cX6_copy 31 = .ok (.astore 7, 2) := by decide +kernel
theorem dX6_copy_33 : decode cX6_copy 33 = .ok (.aload 6, 2) := by decide +kernel
theorem dX6_copy_35 : decode cX6_copy 35 = .ok (.invokevirtual 266, 3) := by decide +kernel
theorem dX6_copy_38 : decode cX6_copy 38 = .ok (.ifCond .ne 11, 3) := by decide +kernel
theorem dX6_copy_41 : decode cX6_copy 41 = .ok (.aload 7, 2) := by decide +kernel
theorem dX6_copy_43 : decode cX6_copy 43 = .ok (.invokevirtual 266, 3) := by decide +kernel
theorem dX6_copy_46 : decode cX6_copy 46 = .ok (.ifCond .eq 9, 3) := by decide +kernel
theorem dX6_copy_49 : decode cX6_copy 49 = .ok (.aload_n 0, 1) := by decide +kernel
theorem dX6_copy_50 : decode cX6_copy 50 = .ok (.iconst 1, 1) := by decide +kernel
theorem dX6_copy_51 : decode cX6_copy 51 = .ok (.invokevirtual 260, 3) := by decide +kernel
theorem dX6_copy_54 : decode cX6_copy 54 = .ok (.ireturn, 1) := by decide +kernel
theorem dX6_copy_55 : decode cX6_copy 55 = .ok (.aload 6, 2) := by decide +kernel
theorem dX6_copy_57 : decode cX6_copy 57 = .ok (.getfield 269, 3) := by decide +kernel
theorem dX6_copy_60 : decode cX6_copy 60 = .ok (.aload 7, 2) := by decide +kernel
theorem dX6_copy_62 : decode cX6_copy 62 = .ok (.getfield 269, 3) := by decide +kernel
theorem dX6_copy_65 : decode cX6_copy 65 = .ok (.if_icmp .eq 9, 3) := by decide +kernel
theorem dX6_copy_68 : decode cX6_copy 68 = .ok (.aload_n 0, 1) := by decide +kernel
theorem dX6_copy_69 : decode cX6_copy 69 = .ok (.iconst 4, 1) := by decide +kernel
theorem dX6_copy_70 : decode cX6_copy 70 = .ok (.invokevirtual 260, 3) := by decide +kernel
theorem dX6_copy_73 : decode cX6_copy 73 = .ok (.ireturn, 1) := by decide +kernel
theorem dX6_copy_74 : decode cX6_copy 74 = .ok (.aload 6, 2) := by decide +kernel
theorem dX6_copy_76 : decode cX6_copy 76 = .ok (.iload_n 2, 1) := by decide +kernel
theorem dX6_copy_77 : decode cX6_copy 77 = .ok (.iload 5, 2) := by decide +kernel
theorem dX6_copy_79 : decode cX6_copy 79 = .ok (.invokevirtual 288, 3) := by decide +kernel
theorem dX6_copy_82 : decode cX6_copy 82 = .ok (.ifCond .eq 15, 3) := by decide +kernel
theorem dX6_copy_85 : decode cX6_copy 85 = .ok (.aload 7, 2) := by decide +kernel
theorem dX6_copy_87 : decode cX6_copy 87 = .ok (.iload 4, 2) := by decide +kernel
theorem dX6_copy_89 : decode cX6_copy 89 = .ok (.iload 5, 2) := by decide +kernel
theorem dX6_copy_91 : decode cX6_copy 91 = .ok (.invokevirtual 288, 3) := by decide +kernel
theorem dX6_copy_94 : decode cX6_copy 94 = .ok (.ifCond .ne 9, 3) := by decide +kernel
theorem dX6_copy_97 : decode cX6_copy 97 = .ok (.aload_n 0, 1) := by decide +kernel
theorem dX6_copy_98 : decode cX6_copy 98 = .ok (.iconst 2, 1) := by decide +kernel
theorem dX6_copy_99 : decode cX6_copy 99 = .ok (.invokevirtual 260, 3) := by decide +kernel
theorem dX6_copy_102 : decode cX6_copy 102 = .ok (.ireturn, 1) := by decide +kernel
theorem dX6_copy_103 : decode cX6_copy 103 = .ok (.aload 7, 2) := by decide +kernel
theorem dX6_copy_105 : decode cX6_copy 105 = .ok (.aload 6, 2) := by decide +kernel
theorem dX6_copy_107 : decode cX6_copy 107 = .ok (.iload_n 2, 1) := by decide +kernel
theorem dX6_copy_108 : decode cX6_copy 108 = .ok (.iload 4, 2) := by decide +kernel
theorem dX6_copy_110 : decode cX6_copy 110 = .ok (.iload 5, 2) := by decide +kernel
theorem dX6_copy_112 : decode cX6_copy 112 = .ok (.invokevirtual 291, 3) := by decide +kernel
theorem dX6_copy_115 : decode cX6_copy 115 = .ok (.iconst 1, 1) := by decide +kernel
theorem dX6_copy_116 : decode cX6_copy 116 = .ok (.ireturn, 1) := by decide +kernel
theorem dX6_write_0 : decode cX6_write 0 = .ok (.iload_n 1, 1) := by decide +kernel
theorem dX6_write_1 : decode cX6_write 1 = .ok (.invokestatic 254, 3) := by decide +kernel
theorem dX6_write_4 : decode cX6_write 4 = .ok (.ifCond .ne 6, 3) := by decide +kernel
theorem dX6_write_7 : decode cX6_write 7 = .ok (.bipush (-2), 2) := by decide +kernel
theorem dX6_write_9 : decode cX6_write 9 = .ok (.ireturn, 1) := by decide +kernel
theorem dX6_write_10 : decode cX6_write 10 = .ok (.aload_n 0, 1) := by decide +kernel
theorem dX6_write_11 : decode cX6_write 11 = .ok (.getfield 46, 3) := by decide +kernel
theorem dX6_write_14 : decode cX6_write 14 = .ok (.iload_n 1, 1) := by decide +kernel
theorem dX6_write_15 : decode cX6_write 15 = .ok (.aaload, 1) := by decide +kernel
theorem dX6_write_16 : decode cX6_write 16 = .ok (.astore_n 2, 1) := by decide +kernel
theorem dX6_write_17 : decode cX6_write 17 = .ok (.aload_n 2, 1) := by decide +kernel
theorem dX6_write_18 : decode cX6_write 18 = .ok (.invokevirtual 266, 3) := by decide +kernel
theorem dX6_write_21 : decode cX6_write 21 = .ok (.ifCond .eq 9, 3) := by decide +kernel
theorem dX6_write_24 : decode cX6_write 24 = .ok (.aload_n 0, 1) := by decide +kernel
theorem dX6_write_25 : decode cX6_write 25 = .ok (.iconst 1, 1) := by decide +kernel
theorem dX6_write_26 : decode cX6_write 26 = .ok (.invokevirtual 260, 3) := by decide +kernel
theorem dX6_write_29 : decode cX6_write 29 = .ok (.ireturn, 1) := by decide +kernel
theorem dX6_write_30 : decode cX6_write 30 = .ok (.aload_n 2, 1) := by decide +kernel
theorem dX6_write_31 : decode cX6_write 31 = .ok (.getfield 269, 3) := by decide +kernel
theorem dX6_write_34 : decode cX6_write 34 = .ok (.iconst 3, 1) := by decide +kernel
theorem dX6_write_35 : decode cX6_write 35 = .ok (.if_icmp .eq 9, 3) := by decide +kernel
theorem dX6_write_38 : decode cX6_write 38 = .ok (.aload_n 0, 1) := by decide +kernel
theorem dX6_write_39 : decode cX6_write 39 = .ok (.iconst 3, 1) := by decide +kernel
theorem dX6_write_40 : decode cX6_write 40 = .ok (.invokevirtual 260, 3) := by decide +kernel
theorem dX6_write_43 : decode cX6_write 43 = .ok (.ireturn, 1) := by decide +kernel
theorem dX6_write_44 : decode cX6_write 44 = .ok (.aload_n 0, 1) := by decide +kernel
theorem dX6_write_45 : decode cX6_write 45 = .ok (.invokevirtual 162, 3) := by decide +kernel
theorem dX6_write_48 : decode cX6_write 48 = .ok (.iconst 0, 1) := by decide +kernel
theorem dX6_write_49 : decode cX6_write 49 = .ok (.istore_n 3, 1) := by decide +kernel
theorem dX6_write_50 : decode cX6_write 50 = .ok (.iconst 1, 1) := by decide +kernel
theorem dX6_write_51 : decode cX6_write 51 = .ok (.istore 4, 2) := by decide +kernel
theorem dX6_write_53 : decode cX6_write 53 = .ok (.iload 4, 2) := by decide +kernel
theorem dX6_write_55 : decode cX6_write 55 = .ok (.bipush 15, 2) := by decide +kernel
theorem dX6_write_57 : decode cX6_write 57 = .ok (.if_icmp .gt 90, 3) := by decide +kernel
theorem dX6_write_60 : decode cX6_write 60 = .ok (.iload 4, 2) := by decide +kernel
theorem dX6_write_62 : decode cX6_write 62 = .ok (.aload_n 2, 1) := by decide +kernel
theorem dX6_write_63 : decode cX6_write 63 = .ok (.getfield 272, 3) := by decide +kernel
theorem dX6_write_66 : decode cX6_write 66 = .ok (.if_icmp .gt 81, 3) := by decide +kernel
theorem dX6_write_69 : decode cX6_write 69 = .ok (.iload 4, 2) := by decide +kernel
theorem dX6_write_71 : decode cX6_write 71 = .ok (.aload_n 0, 1) := by decide +kernel
theorem dX6_write_72 : decode cX6_write 72 = .ok (.getfield 40, 3) := by decide +kernel
theorem dX6_write_75 : decode cX6_write 75 = .ok (.getfield 242, 3) := by decide +kernel
theorem dX6_write_78 : decode cX6_write 78 = .ok (.if_icmp .gt 7, 3) := by decide +kernel
theorem dX6_write_81 : decode cX6_write 81 = .ok (.iconst 1, 1) := by decide +kernel
theorem dX6_write_82 : decode cX6_write 82 = .ok (.goto 4, 3) := by decide +kernel
theorem dX6_write_85 : decode cX6_write 85 = .ok (.iconst 0, 1) := by decide +kernel
theorem dX6_write_86 : decode cX6_write 86 = .ok (.istore 5, 2) := by decide +kernel
theorem dX6_write_88 : decode cX6_write 88 = .ok (.aload_n 2, 1) := by decide +kernel
theorem dX6_write_89 : decode cX6_write 89 = .ok (.getfield 282, 3) := by decide +kernel
theorem dX6_write_92 : decode cX6_write 92 = .ok (.iload 4, 2) := by decide +kernel
theorem dX6_write_94 : decode cX6_write 94 = .ok (.iconst 1, 1) := by decide +kernel
theorem dX6_write_95 : decode cX6_write 95 = .ok (.isub, 1) := by decide +kernel
theorem dX6_write_96 : decode cX6_write 96 = .ok (.iload 5, 2) := by decide +kernel
theorem dX6_write_98 : decode cX6_write 98 = .ok (.ifCond .ne 7, 3) := by decide +kernel
theorem dX6_write_101 : decode cX6_write 101 = .ok (.iconst 1, 1) := by decide +kernel
theorem dX6_write_102 : decode cX6_write 102 = .ok (.goto 4, 3) := by decide +kernel
theorem dX6_write_105 : decode cX6_write 105 = .ok (.iconst 0, 1) := by decide +kernel
theorem dX6_write_106 : decode cX6_write 106 = .ok (.bastore, 1) := by decide +kernel
theorem dX6_write_107 : decode cX6_write 107 = .ok (.iload 5, 2) := by decide +kernel
theorem dX6_write_109 : decode cX6_write 109 = .ok (.ifCond .eq 32, 3) := by decide +kernel
theorem dX6_write_112 : decode cX6_write 112 = .ok (.aload_n 2, 1) := by decide +kernel
theorem dX6_write_113 : decode cX6_write 113 = .ok (.getfield 295, 3) := by decide +kernel
theorem dX6_write_116 : decode cX6_write 116 = .ok (.iload 4, 2) := by decide +kernel
theorem dX6_write_118 : decode cX6_write 118 = .ok (.iconst 1, 1) := by decide +kernel
theorem dX6_write_119 : decode cX6_write 119 = .ok (.isub, 1) := by decide +kernel
theorem dX6_write_120 : decode cX6_write 120 = .ok (.aload_n 0, 1) := by decide +kernel
theorem dX6_write_121 : decode cX6_write 121 = .ok (.iload 4, 2) := by decide +kernel
theorem dX6_write_123 : decode cX6_write 123 = .ok (.iconst 0, 1) := by decide +kernel
theorem dX6_write_124 : decode cX6_write 124 = .ok (.invokevirtual 299, 3) := by decide +kernel
theorem dX6_write_127 : decode cX6_write 127 = .ok (.l2d, 1) := by decide +kernel
theorem dX6_write_128 : decode cX6_write 128 = .ok (.aload_n 0, 1) := by decide +kernel
theorem dX6_write_129 : decode cX6_write 129 = .ok (.iload 4, 2) := by decide +kernel
theorem dX6_write_131 : decode cX6_write 131 = .ok (.iconst 1, 1) := by decide +kernel
theorem dX6_write_132 : decode cX6_write 132 = .ok (.invokevirtual 299, 3) := by decide +kernel
theorem dX6_write_135 : decode cX6_write 135 = .ok (.l2d, 1) := by decide +kernel
theorem dX6_write_136 : decode cX6_write 136 = .ok (.ddiv, 1) := by decide +kernel
theorem dX6_write_137 : decode cX6_write 137 = .ok (.dastore, 1) := by decide +kernel
theorem dX6_write_138 : decode cX6_write 138 = .ok (.iinc 3 1, 3) := by decide +kernel
theorem dX6_write_141 : decode cX6_write 141 = .ok (.iinc 4 1, 3) := by decide +kernel
theorem dX6_write_144 : decode cX6_write 144 = .ok (.goto (-91), 3) := by decide +kernel
theorem dX6_write_147 : decode cX6_write 147 = .ok (.iload_n 3, 1) := by decide +kernel
theorem dX6_write_148 : decode cX6_write 148 = .ok (.ireturn, 1) := by decide +kernel
theorem dX6_found_0 : decode cX6_found 0 = .ok (.iload_n 1, 1) := by decide +kernel
theorem dX6_found_1 : decode cX6_found 1 = .ok (.invokestatic 254, 3) := by decide +kernel
theorem dX6_found_4 : decode cX6_found 4 = .ok (.ifCond .eq 12, 3) := by decide +kernel
theorem dX6_found_7 : decode cX6_found 7 = .ok (.iload_n 2, 1) := by decide +kernel
theorem dX6_found_8 : decode cX6_found 8 = .ok (.iconst 0, 1) := by decide +kernel
theorem dX6_found_9 : decode cX6_found 9 = .ok (.iconst 2, 1) := by decide +kernel
theorem dX6_found_10 : decode cX6_found 10 = .ok (.invokestatic 87, 3) := by decide +kernel
theorem dX6_found_13 : decode cX6_found 13 = .ok (.ifCond .ne 6, 3) := by decide +kernel
theorem dX6_found_16 : decode cX6_found 16 = .ok (.bipush (-2), 2) := by decide +kernel
theorem dX6_found_18 : decode cX6_found 18 = .ok (.ireturn, 1) := by decide +kernel
theorem dX6_found_19 : decode cX6_found 19 = .ok (.aload_n 0, 1) := by decide +kernel
theorem dX6_found_20 : decode cX6_found 20 = .ok (.getfield 46, 3) := by decide +kernel
theorem dX6_found_23 : decode cX6_found 23 = .ok (.iload_n 1, 1) := by decide +kernel
theorem dX6_found_24 : decode cX6_found 24 = .ok (.aaload, 1) := by decide +kernel
theorem dX6_found_25 : decode cX6_found 25 = .ok (.astore_n 3, 1) := by decide +kernel
theorem dX6_found_26 : decode cX6_found 26 = .ok (.aload_n 3, 1) := by decide +kernel
theorem dX6_found_27 : decode cX6_found 27 = .ok (.invokevirtual 266, 3) := by decide +kernel
theorem dX6_found_30 : decode cX6_found 30 = .ok (.ifCond .eq 9, 3) := by decide +kernel
theorem dX6_found_33 : decode cX6_found 33 = .ok (.aload_n 0, 1) := by decide +kernel
theorem dX6_found_34 : decode cX6_found 34 = .ok (.iconst 1, 1) := by decide +kernel
theorem dX6_found_35 : decode cX6_found 35 = .ok (.invokevirtual 260, 3) := by decide +kernel
theorem dX6_found_38 : decode cX6_found 38 = .ok (.ireturn, 1) := by decide +kernel
theorem dX6_found_39 : decode cX6_found 39 = .ok (.aload_n 3, 1) := by decide +kernel
theorem dX6_found_40 : decode cX6_found 40 = .ok (.invokevirtual 279, 3) := by decide +kernel
theorem dX6_found_43 : decode cX6_found 43 = .ok (.ifCond .ne 9, 3) := by decide +kernel
theorem dX6_found_46 : decode cX6_found 46 = .ok (.aload_n 0, 1) := by decide +kernel
theorem dX6_found_47 : decode cX6_found 47 = .ok (.iconst 3, 1) := by decide +kernel
theorem dX6_found_48 : decode cX6_found 48 = .ok (.invokevirtual 260, 3) := by decide +kernel
theorem dX6_found_51 : decode cX6_found 51 = .ok (.ireturn, 1) := by decide +kernel
theorem dX6_found_52 : decode cX6_found 52 = .ok (.iload_n 2, 1) := by decide +kernel
theorem dX6_found_53 : decode cX6_found 53 = .ok (.iconst 2, 1) := by decide +kernel
theorem dX6_found_54 : decode cX6_found 54 = .ok (.if_icmp .ne 10, 3) := by decide +kernel
theorem dX6_found_57 : decode cX6_found 57 = .ok (.aload_n 3, 1) := by decide +kernel
theorem dX6_found_58 : decode cX6_found 58 = .ok (.invokevirtual 302, 3) := by decide +kernel
theorem dX6_found_61 : decode cX6_found 61 = .ok (.goto 17, 3) := by decide +kernel
theorem dX6_found_64 : decode cX6_found 64 = .ok (.aload_n 3, 1) := by decide +kernel
theorem dX6_found_65 : decode cX6_found 65 = .ok (.iload_n 2, 1) := by decide +kernel
theorem dX6_found_66 : decode cX6_found 66 = .ok (.iconst 1, 1) := by decide +kernel
theorem dX6_found_67 : decode cX6_found 67 = .ok (.if_icmp .ne 7, 3) := by decide +kernel
theorem dX6_found_70 : decode cX6_found 70 = .ok (.iconst 1, 1) := by decide +kernel
theorem dX6_found_71 : decode cX6_found 71 = .ok (.goto 4, 3) := by decide +kernel
theorem dX6_found_74 : decode cX6_found 74 = .ok (.iconst 0, 1) := by decide +kernel
theorem dX6_found_75 : decode cX6_found 75 = .ok (.invokevirtual 305, 3) := by decide +kernel
theorem dX6_found_78 : decode cX6_found 78 = .ok (.ireturn, 1) := by decide +kernel
theorem dX6_count_0 : decode cX6_count 0 = .ok (.iload_n 1, 1) := by decide +kernel
theorem dX6_count_1 : decode cX6_count 1 = .ok (.iconst 0, 1) := by decide +kernel
theorem dX6_count_2 : decode cX6_count 2 = .ok (.bipush 8, 2) := by decide +kernel
theorem dX6_count_4 : decode cX6_count 4 = .ok (.invokestatic 87, 3) := by decide +kernel
theorem dX6_count_7 : decode cX6_count 7 = .ok (.ifCond .ne 6, 3) := by decide +kernel
theorem dX6_count_10 : decode cX6_count 10 = .ok (.bipush (-2), 2) := by decide +kernel
theorem dX6_count_12 : decode cX6_count 12 = .ok (.ireturn, 1) := by decide +kernel
theorem dX6_count_13 : decode cX6_count 13 = .ok (.aload_n 0, 1) := by decide +kernel
theorem dX6_count_14 : decode cX6_count 14 = .ok (.invokevirtual 162, 3) := by decide +kernel
theorem dX6_count_17 : decode cX6_count 17 = .ok (.iload_n 1, 1) := by decide +kernel
theorem dX6_count_18 : decode cX6_count 18 = .ok (.tableswitch 107 0 7 #[46, 54, 62, 70, 78, 86, 94, 102], 46) := by decide +kernel
theorem dX6_count_64 : decode cX6_count 64 = .ok (.aload_n 0, 1) := by decide +kernel
theorem dX6_count_65 : decode cX6_count 65 = .ok (.getfield 10, 3) := by decide +kernel
theorem dX6_count_68 : decode cX6_count 68 = .ok (.getfield 97, 3) := by decide +kernel
theorem dX6_count_71 : decode cX6_count 71 = .ok (.ireturn, 1) := by decide +kernel
theorem dX6_count_72 : decode cX6_count 72 = .ok (.aload_n 0, 1) := by decide +kernel
theorem dX6_count_73 : decode cX6_count 73 = .ok (.getfield 19, 3) := by decide +kernel
theorem dX6_count_76 : decode cX6_count 76 = .ok (.getfield 110, 3) := by decide +kernel
theorem dX6_count_79 : decode cX6_count 79 = .ok (.ireturn, 1) := by decide +kernel
theorem dX6_count_80 : decode cX6_count 80 = .ok (.aload_n 0, 1) := by decide +kernel
theorem dX6_count_81 : decode cX6_count 81 = .ok (.getfield 19, 3) := by decide +kernel
theorem dX6_count_84 : decode cX6_count 84 = .ok (.getfield 118, 3) := by decide +kernel
theorem dX6_count_87 : decode cX6_count 87 = .ok (.ireturn, 1) := by decide +kernel
theorem dX6_count_88 : decode cX6_count 88 = .ok (.aload_n 0, 1) := by decide +kernel
theorem dX6_count_89 : decode cX6_count 89 = .ok (.getfield 26, 3) := by decide +kernel
theorem dX6_count_92 : decode cX6_count 92 = .ok (.getfield 204, 3) := by decide +kernel
theorem dX6_count_95 : decode cX6_count 95 = .ok (.ireturn, 1) := by decide +kernel
theorem dX6_count_96 : decode cX6_count 96 = .ok (.aload_n 0, 1) := by decide +kernel
theorem dX6_count_97 : decode cX6_count 97 = .ok (.getfield 33, 3) := by decide +kernel
theorem dX6_count_100 : decode cX6_count 100 = .ok (.getfield 309, 3) := by decide +kernel
theorem dX6_count_103 : decode cX6_count 103 = .ok (.ireturn, 1) := by decide +kernel
theorem dX6_count_104 : decode cX6_count 104 = .ok (.aload_n 0, 1) := by decide +kernel
theorem dX6_count_105 : decode cX6_count 105 = .ok (.getfield 33, 3) := by decide +kernel
theorem dX6_count_108 : decode cX6_count 108 = .ok (.getfield 312, 3) := by decide +kernel
theorem dX6_count_111 : decode cX6_count 111 = .ok (.ireturn, 1) := by decide +kernel
theorem dX6_count_112 : decode cX6_count 112 = .ok (.aload_n 0, 1) := by decide +kernel
theorem dX6_count_113 : decode cX6_count 113 = .ok (.getfield 40, 3) := by decide +kernel
theorem dX6_count_116 : decode cX6_count 116 = .ok (.getfield 242, 3) := by decide +kernel
theorem dX6_count_119 : decode cX6_count 119 = .ok (.ireturn, 1) := by decide +kernel
theorem dX6_count_120 : decode cX6_count 120 = .ok (.aload_n 0, 1) := by decide +kernel
theorem dX6_count_121 : decode cX6_count 121 = .ok (.getfield 54, 3) := by decide +kernel
theorem dX6_count_124 : decode cX6_count 124 = .ok (.ireturn, 1) := by decide +kernel
theorem dX6_count_125 : decode cX6_count 125 = .ok (.aload_n 0, 1) := by decide +kernel
theorem dX6_count_126 : decode cX6_count 126 = .ok (.getfield 64, 3) := by decide +kernel
theorem dX6_count_129 : decode cX6_count 129 = .ok (.ireturn, 1) := by decide +kernel
theorem dX6_digest_0 : decode cX6_digest 0 = .ok (.ldc2_w 315, 3) := by decide +kernel
theorem dX6_digest_3 : decode cX6_digest 3 = .ok (.lstore_n 1, 1) := by decide +kernel
theorem dX6_digest_4 : decode cX6_digest 4 = .ok (.iconst 0, 1) := by decide +kernel
theorem dX6_digest_5 : decode cX6_digest 5 = .ok (.istore_n 3, 1) := by decide +kernel
theorem dX6_digest_6 : decode cX6_digest 6 = .ok (.iload_n 3, 1) := by decide +kernel
theorem dX6_digest_7 : decode cX6_digest 7 = .ok (.bipush 7, 2) := by decide +kernel
theorem dX6_digest_9 : decode cX6_digest 9 = .ok (.if_icmp .gt 20, 3) := by decide +kernel
theorem dX6_digest_12 : decode cX6_digest 12 = .ok (.lload_n 1, 1) := by decide +kernel
theorem dX6_digest_13 : decode cX6_digest 13 = .ok (.aload_n 0, 1) := by decide +kernel
theorem dX6_digest_14 : decode cX6_digest 14 = .ok (.iload_n 3, 1) := by decide +kernel
theorem dX6_digest_15 : decode cX6_digest 15 = .ok (.invokevirtual 317, 3) := by decide +kernel
theorem dX6_digest_18 : decode cX6_digest 18 = .ok (.i2l, 1) := by decide +kernel
theorem dX6_digest_19 : decode cX6_digest 19 = .ok (.invokestatic 320, 3) := by decide +kernel
theorem dX6_digest_22 : decode cX6_digest 22 = .ok (.lstore_n 1, 1) := by decide +kernel
theorem dX6_digest_23 : decode cX6_digest 23 = .ok (.iinc 3 1, 3) := by decide +kernel
theorem dX6_digest_26 : decode cX6_digest 26 = .ok (.goto (-20), 3) := by decide +kernel
theorem dX6_digest_29 : decode cX6_digest 29 = .ok (.lload_n 1, 1) := by decide +kernel
theorem dX6_digest_30 : decode cX6_digest 30 = .ok (.aload_n 0, 1) := by decide +kernel
theorem dX6_digest_31 : decode cX6_digest 31 = .ok (.invokevirtual 324, 3) := by decide +kernel
theorem dX6_digest_34 : decode cX6_digest 34 = .ok (.i2l, 1) := by decide +kernel
theorem dX6_digest_35 : decode cX6_digest 35 = .ok (.invokestatic 320, 3) := by decide +kernel
theorem dX6_digest_38 : decode cX6_digest 38 = .ok (.lstore_n 1, 1) := by decide +kernel
theorem dX6_digest_39 : decode cX6_digest 39 = .ok (.aload_n 0, 1) := by decide +kernel
theorem dX6_digest_40 : decode cX6_digest 40 = .ok (.lload_n 1, 1) := by decide +kernel
theorem dX6_digest_41 : decode cX6_digest 41 = .ok (.invokevirtual 327, 3) := by decide +kernel
theorem dX6_digest_44 : decode cX6_digest 44 = .ok (.lstore_n 1, 1) := by decide +kernel
theorem dX6_digest_45 : decode cX6_digest 45 = .ok (.lload_n 1, 1) := by decide +kernel
theorem dX6_digest_46 : decode cX6_digest 46 = .ok (.aload_n 0, 1) := by decide +kernel
theorem dX6_digest_47 : decode cX6_digest 47 = .ok (.invokevirtual 331, 3) := by decide +kernel
theorem dX6_digest_50 : decode cX6_digest 50 = .ok (.i2l, 1) := by decide +kernel
theorem dX6_digest_51 : decode cX6_digest 51 = .ok (.invokestatic 320, 3) := by decide +kernel
theorem dX6_digest_54 : decode cX6_digest 54 = .ok (.lstore_n 1, 1) := by decide +kernel
theorem dX6_digest_55 : decode cX6_digest 55 = .ok (.aload_n 0, 1) := by decide +kernel
theorem dX6_digest_56 : decode cX6_digest 56 = .ok (.lload_n 1, 1) := by decide +kernel
theorem dX6_digest_57 : decode cX6_digest 57 = .ok (.invokevirtual 334, 3) := by decide +kernel
theorem dX6_digest_60 : decode cX6_digest 60 = .ok (.lstore_n 1, 1) := by decide +kernel
theorem dX6_digest_61 : decode cX6_digest 61 = .ok (.lload_n 1, 1) := by decide +kernel
theorem dX6_digest_62 : decode cX6_digest 62 = .ok (.aload_n 0, 1) := by decide +kernel
theorem dX6_digest_63 : decode cX6_digest 63 = .ok (.iconst 0, 1) := by decide +kernel
theorem dX6_digest_64 : decode cX6_digest 64 = .ok (.invokevirtual 337, 3) := by decide +kernel
theorem dX6_digest_67 : decode cX6_digest 67 = .ok (.invokestatic 320, 3) := by decide +kernel
theorem dX6_digest_70 : decode cX6_digest 70 = .ok (.aload_n 0, 1) := by decide +kernel
theorem dX6_digest_71 : decode cX6_digest 71 = .ok (.iconst 1, 1) := by decide +kernel
theorem dX6_digest_72 : decode cX6_digest 72 = .ok (.invokevirtual 337, 3) := by decide +kernel
theorem dX6_digest_75 : decode cX6_digest 75 = .ok (.invokestatic 320, 3) := by decide +kernel
theorem dX6_digest_78 : decode cX6_digest 78 = .ok (.lstore_n 1, 1) := by decide +kernel
theorem dX6_digest_79 : decode cX6_digest 79 = .ok (.aload_n 0, 1) := by decide +kernel
theorem dX6_digest_80 : decode cX6_digest 80 = .ok (.lload_n 1, 1) := by decide +kernel
theorem dX6_digest_81 : decode cX6_digest 81 = .ok (.invokevirtual 339, 3) := by decide +kernel
theorem dX6_digest_84 : decode cX6_digest 84 = .ok (.lstore_n 1, 1) := by decide +kernel
theorem dX6_digest_85 : decode cX6_digest 85 = .ok (.aload_n 0, 1) := by decide +kernel
theorem dX6_digest_86 : decode cX6_digest 86 = .ok (.lload_n 1, 1) := by decide +kernel
theorem dX6_digest_87 : decode cX6_digest 87 = .ok (.invokevirtual 342, 3) := by decide +kernel
theorem dX6_digest_90 : decode cX6_digest 90 = .ok (.lstore_n 1, 1) := by decide +kernel
theorem dX6_digest_91 : decode cX6_digest 91 = .ok (.aload_n 0, 1) := by decide +kernel
theorem dX6_digest_92 : decode cX6_digest 92 = .ok (.lload_n 1, 1) := by decide +kernel
theorem dX6_digest_93 : decode cX6_digest 93 = .ok (.invokevirtual 345, 3) := by decide +kernel
theorem dX6_digest_96 : decode cX6_digest 96 = .ok (.lstore_n 1, 1) := by decide +kernel
theorem dX6_digest_97 : decode cX6_digest 97 = .ok (.lload_n 1, 1) := by decide +kernel
theorem dX6_digest_98 : decode cX6_digest 98 = .ok (.aload_n 0, 1) := by decide +kernel
theorem dX6_digest_99 : decode cX6_digest 99 = .ok (.iconst 5, 1) := by decide +kernel
theorem dX6_digest_100 : decode cX6_digest 100 = .ok (.iconst 0, 1) := by decide +kernel
theorem dX6_digest_101 : decode cX6_digest 101 = .ok (.invokevirtual 348, 3) := by decide +kernel
theorem dX6_digest_104 : decode cX6_digest 104 = .ok (.invokestatic 320, 3) := by decide +kernel
theorem dX6_digest_107 : decode cX6_digest 107 = .ok (.aload_n 0, 1) := by decide +kernel
theorem dX6_digest_108 : decode cX6_digest 108 = .ok (.iconst 5, 1) := by decide +kernel
theorem dX6_digest_109 : decode cX6_digest 109 = .ok (.iconst 1, 1) := by decide +kernel
theorem dX6_digest_110 : decode cX6_digest 110 = .ok (.invokevirtual 348, 3) := by decide +kernel
theorem dX6_digest_113 : decode cX6_digest 113 = .ok (.invokestatic 320, 3) := by decide +kernel
theorem dX6_digest_116 : decode cX6_digest 116 = .ok (.lstore_n 1, 1) := by decide +kernel
theorem dX6_digest_117 : decode cX6_digest 117 = .ok (.aload_n 0, 1) := by decide +kernel
theorem dX6_digest_118 : decode cX6_digest 118 = .ok (.lload_n 1, 1) := by decide +kernel
theorem dX6_digest_119 : decode cX6_digest 119 = .ok (.invokevirtual 351, 3) := by decide +kernel
theorem dX6_digest_122 : decode cX6_digest 122 = .ok (.lreturn, 1) := by decide +kernel
theorem dX6_mix_0 : decode cX6_mix 0 = .ok (.ldc2_w 354, 3) := by decide +kernel
theorem dX6_mix_3 : decode cX6_mix 3 = .ok (.lload_n 0, 1) := by decide +kernel
theorem dX6_mix_4 : decode cX6_mix 4 = .ok (.lmul, 1) := by decide +kernel
theorem dX6_mix_5 : decode cX6_mix 5 = .ok (.lload_n 2, 1) := by decide +kernel
theorem dX6_mix_6 : decode cX6_mix 6 = .ok (.ladd, 1) := by decide +kernel
theorem dX6_mix_7 : decode cX6_mix 7 = .ok (.lreturn, 1) := by decide +kernel
theorem dX6_mixBins_0 : decode cX6_mixBins 0 = .ok (.lload_n 1, 1) := by decide +kernel
theorem dX6_mixBins_1 : decode cX6_mixBins 1 = .ok (.lstore_n 3, 1) := by decide +kernel
theorem dX6_mixBins_2 : decode cX6_mixBins 2 = .ok (.iconst 0, 1) := by decide +kernel
theorem dX6_mixBins_3 : decode cX6_mixBins 3 = .ok (.istore 5, 2) := by decide +kernel
theorem dX6_mixBins_5 : decode cX6_mixBins 5 = .ok (.iload 5, 2) := by decide +kernel
theorem dX6_mixBins_7 : decode cX6_mixBins 7 = .ok (.aload_n 0, 1) := by decide +kernel
theorem dX6_mixBins_8 : decode cX6_mixBins 8 = .ok (.getfield 19, 3) := by decide +kernel
theorem dX6_mixBins_11 : decode cX6_mixBins 11 = .ok (.getfield 110, 3) := by decide +kernel
theorem dX6_mixBins_14 : decode cX6_mixBins 14 = .ok (.if_icmp .ge 60, 3) := by decide +kernel
theorem dX6_mixBins_17 : decode cX6_mixBins 17 = .ok (.iconst 0, 1) := by decide +kernel
theorem dX6_mixBins_18 : decode cX6_mixBins 18 = .ok (.istore 6, 2) := by decide +kernel
theorem dX6_mixBins_20 : decode cX6_mixBins 20 = .ok (.iload 6, 2) := by decide +kernel
theorem dX6_mixBins_22 : decode cX6_mixBins 22 = .ok (.iconst 2, 1) := by decide +kernel
theorem dX6_mixBins_23 : decode cX6_mixBins 23 = .ok (.if_icmp .gt 23, 3) := by decide +kernel
theorem dX6_mixBins_26 : decode cX6_mixBins 26 = .ok (.lload_n 3, 1) := by decide +kernel
theorem dX6_mixBins_27 : decode cX6_mixBins 27 = .ok (.aload_n 0, 1) := by decide +kernel
theorem dX6_mixBins_28 : decode cX6_mixBins 28 = .ok (.iload 5, 2) := by decide +kernel
theorem dX6_mixBins_30 : decode cX6_mixBins 30 = .ok (.iload 6, 2) := by decide +kernel
theorem dX6_mixBins_32 : decode cX6_mixBins 32 = .ok (.invokevirtual 356, 3) := by decide +kernel
theorem dX6_mixBins_35 : decode cX6_mixBins 35 = .ok (.i2l, 1) := by decide +kernel
theorem dX6_mixBins_36 : decode cX6_mixBins 36 = .ok (.invokestatic 320, 3) := by decide +kernel
theorem dX6_mixBins_39 : decode cX6_mixBins 39 = .ok (.lstore_n 3, 1) := by decide +kernel
theorem dX6_mixBins_40 : decode cX6_mixBins 40 = .ok (.iinc 6 1, 3) := by decide +kernel
theorem dX6_mixBins_43 : decode cX6_mixBins 43 = .ok (.goto (-23), 3) := by decide +kernel
theorem dX6_mixBins_46 : decode cX6_mixBins 46 = .ok (.lload_n 3, 1) := by decide +kernel
theorem dX6_mixBins_47 : decode cX6_mixBins 47 = .ok (.aload_n 0, 1) := by decide +kernel
theorem dX6_mixBins_48 : decode cX6_mixBins 48 = .ok (.iload 5, 2) := by decide +kernel
theorem dX6_mixBins_50 : decode cX6_mixBins 50 = .ok (.iconst 0, 1) := by decide +kernel
theorem dX6_mixBins_51 : decode cX6_mixBins 51 = .ok (.invokevirtual 359, 3) := by decide +kernel
theorem dX6_mixBins_54 : decode cX6_mixBins 54 = .ok (.invokestatic 320, 3) := by decide +kernel
theorem dX6_mixBins_57 : decode cX6_mixBins 57 = .ok (.aload_n 0, 1) := by decide +kernel
theorem dX6_mixBins_58 : decode cX6_mixBins 58 = .ok (.iload 5, 2) := by decide +kernel
theorem dX6_mixBins_60 : decode cX6_mixBins 60 = .ok (.iconst 1, 1) := by decide +kernel
theorem dX6_mixBins_61 : decode cX6_mixBins 61 = .ok (.invokevirtual 359, 3) := by decide +kernel
theorem dX6_mixBins_64 : decode cX6_mixBins 64 = .ok (.invokestatic 320, 3) := by decide +kernel
theorem dX6_mixBins_67 : decode cX6_mixBins 67 = .ok (.lstore_n 3, 1) := by decide +kernel
theorem dX6_mixBins_68 : decode cX6_mixBins 68 = .ok (.iinc 5 1, 3) := by decide +kernel
theorem dX6_mixBins_71 : decode cX6_mixBins 71 = .ok (.goto (-66), 3) := by decide +kernel
theorem dX6_mixBins_74 : decode cX6_mixBins 74 = .ok (.lload_n 3, 1) := by decide +kernel
theorem dX6_mixBins_75 : decode cX6_mixBins 75 = .ok (.lreturn, 1) := by decide +kernel
theorem dX6_mixEdges_0 : decode cX6_mixEdges 0 = .ok (.lload_n 1, 1) := by decide +kernel
theorem dX6_mixEdges_1 : decode cX6_mixEdges 1 = .ok (.lstore_n 3, 1) := by decide +kernel
theorem dX6_mixEdges_2 : decode cX6_mixEdges 2 = .ok (.iconst 0, 1) := by decide +kernel
theorem dX6_mixEdges_3 : decode cX6_mixEdges 3 = .ok (.istore 5, 2) := by decide +kernel
theorem dX6_mixEdges_5 : decode cX6_mixEdges 5 = .ok (.iload 5, 2) := by decide +kernel
theorem dX6_mixEdges_7 : decode cX6_mixEdges 7 = .ok (.aload_n 0, 1) := by decide +kernel
theorem dX6_mixEdges_8 : decode cX6_mixEdges 8 = .ok (.getfield 10, 3) := by decide +kernel
theorem dX6_mixEdges_11 : decode cX6_mixEdges 11 = .ok (.getfield 97, 3) := by decide +kernel
theorem dX6_mixEdges_14 : decode cX6_mixEdges 14 = .ok (.if_icmp .ge 61, 3) := by decide +kernel
theorem dX6_mixEdges_17 : decode cX6_mixEdges 17 = .ok (.iconst 0, 1) := by decide +kernel
theorem dX6_mixEdges_18 : decode cX6_mixEdges 18 = .ok (.istore 6, 2) := by decide +kernel
theorem dX6_mixEdges_20 : decode cX6_mixEdges 20 = .ok (.iload 6, 2) := by decide +kernel
theorem dX6_mixEdges_22 : decode cX6_mixEdges 22 = .ok (.bipush 7, 2) := by decide +kernel
theorem dX6_mixEdges_24 : decode cX6_mixEdges 24 = .ok (.if_icmp .gt 23, 3) := by decide +kernel
theorem dX6_mixEdges_27 : decode cX6_mixEdges 27 = .ok (.lload_n 3, 1) := by decide +kernel
theorem dX6_mixEdges_28 : decode cX6_mixEdges 28 = .ok (.aload_n 0, 1) := by decide +kernel
theorem dX6_mixEdges_29 : decode cX6_mixEdges 29 = .ok (.iload 5, 2) := by decide +kernel
theorem dX6_mixEdges_31 : decode cX6_mixEdges 31 = .ok (.iload 6, 2) := by decide +kernel
theorem dX6_mixEdges_33 : decode cX6_mixEdges 33 = .ok (.invokevirtual 361, 3) := by decide +kernel
theorem dX6_mixEdges_36 : decode cX6_mixEdges 36 = .ok (.i2l, 1) := by decide +kernel
theorem dX6_mixEdges_37 : decode cX6_mixEdges 37 = .ok (.invokestatic 320, 3) := by decide +kernel
theorem dX6_mixEdges_40 : decode cX6_mixEdges 40 = .ok (.lstore_n 3, 1) := by decide +kernel
theorem dX6_mixEdges_41 : decode cX6_mixEdges 41 = .ok (.iinc 6 1, 3) := by decide +kernel
theorem dX6_mixEdges_44 : decode cX6_mixEdges 44 = .ok (.goto (-24), 3) := by decide +kernel
theorem dX6_mixEdges_47 : decode cX6_mixEdges 47 = .ok (.lload_n 3, 1) := by decide +kernel
theorem dX6_mixEdges_48 : decode cX6_mixEdges 48 = .ok (.aload_n 0, 1) := by decide +kernel
theorem dX6_mixEdges_49 : decode cX6_mixEdges 49 = .ok (.iload 5, 2) := by decide +kernel
theorem dX6_mixEdges_51 : decode cX6_mixEdges 51 = .ok (.iconst 0, 1) := by decide +kernel
theorem dX6_mixEdges_52 : decode cX6_mixEdges 52 = .ok (.invokevirtual 364, 3) := by decide +kernel
theorem dX6_mixEdges_55 : decode cX6_mixEdges 55 = .ok (.invokestatic 320, 3) := by decide +kernel
theorem dX6_mixEdges_58 : decode cX6_mixEdges 58 = .ok (.aload_n 0, 1) := by decide +kernel
theorem dX6_mixEdges_59 : decode cX6_mixEdges 59 = .ok (.iload 5, 2) := by decide +kernel
theorem dX6_mixEdges_61 : decode cX6_mixEdges 61 = .ok (.iconst 1, 1) := by decide +kernel
theorem dX6_mixEdges_62 : decode cX6_mixEdges 62 = .ok (.invokevirtual 364, 3) := by decide +kernel
theorem dX6_mixEdges_65 : decode cX6_mixEdges 65 = .ok (.invokestatic 320, 3) := by decide +kernel
theorem dX6_mixEdges_68 : decode cX6_mixEdges 68 = .ok (.lstore_n 3, 1) := by decide +kernel
theorem dX6_mixEdges_69 : decode cX6_mixEdges 69 = .ok (.iinc 5 1, 3) := by decide +kernel
theorem dX6_mixEdges_72 : decode cX6_mixEdges 72 = .ok (.goto (-67), 3) := by decide +kernel
theorem dX6_mixEdges_75 : decode cX6_mixEdges 75 = .ok (.lload_n 3, 1) := by decide +kernel
theorem dX6_mixEdges_76 : decode cX6_mixEdges 76 = .ok (.lreturn, 1) := by decide +kernel
theorem dX6_mixGates_0 : decode cX6_mixGates 0 = .ok (.lload_n 1, 1) := by decide +kernel
theorem dX6_mixGates_1 : decode cX6_mixGates 1 = .ok (.lstore_n 3, 1) := by decide +kernel
theorem dX6_mixGates_2 : decode cX6_mixGates 2 = .ok (.iconst 0, 1) := by decide +kernel
theorem dX6_mixGates_3 : decode cX6_mixGates 3 = .ok (.istore 5, 2) := by decide +kernel
theorem dX6_mixGates_5 : decode cX6_mixGates 5 = .ok (.iload 5, 2) := by decide +kernel
theorem dX6_mixGates_7 : decode cX6_mixGates 7 = .ok (.aload_n 0, 1) := by decide +kernel
theorem dX6_mixGates_8 : decode cX6_mixGates 8 = .ok (.getfield 26, 3) := by decide +kernel
theorem dX6_mixGates_11 : decode cX6_mixGates 11 = .ok (.getfield 204, 3) := by decide +kernel
theorem dX6_mixGates_14 : decode cX6_mixGates 14 = .ok (.if_icmp .ge 91, 3) := by decide +kernel
theorem dX6_mixGates_17 : decode cX6_mixGates 17 = .ok (.iconst 0, 1) := by decide +kernel
theorem dX6_mixGates_18 : decode cX6_mixGates 18 = .ok (.istore 6, 2) := by decide +kernel
theorem dX6_mixGates_20 : decode cX6_mixGates 20 = .ok (.iload 6, 2) := by decide +kernel
theorem dX6_mixGates_22 : decode cX6_mixGates 22 = .ok (.iconst 2, 1) := by decide +kernel
theorem dX6_mixGates_23 : decode cX6_mixGates 23 = .ok (.if_icmp .gt 23, 3) := by decide +kernel
theorem dX6_mixGates_26 : decode cX6_mixGates 26 = .ok (.lload_n 3, 1) := by decide +kernel
theorem dX6_mixGates_27 : decode cX6_mixGates 27 = .ok (.aload_n 0, 1) := by decide +kernel
theorem dX6_mixGates_28 : decode cX6_mixGates 28 = .ok (.iload 5, 2) := by decide +kernel
theorem dX6_mixGates_30 : decode cX6_mixGates 30 = .ok (.iload 6, 2) := by decide +kernel
theorem dX6_mixGates_32 : decode cX6_mixGates 32 = .ok (.invokevirtual 367, 3) := by decide +kernel
theorem dX6_mixGates_35 : decode cX6_mixGates 35 = .ok (.i2l, 1) := by decide +kernel
theorem dX6_mixGates_36 : decode cX6_mixGates 36 = .ok (.invokestatic 320, 3) := by decide +kernel
theorem dX6_mixGates_39 : decode cX6_mixGates 39 = .ok (.lstore_n 3, 1) := by decide +kernel
theorem dX6_mixGates_40 : decode cX6_mixGates 40 = .ok (.iinc 6 1, 3) := by decide +kernel
theorem dX6_mixGates_43 : decode cX6_mixGates 43 = .ok (.goto (-23), 3) := by decide +kernel
theorem dX6_mixGates_46 : decode cX6_mixGates 46 = .ok (.iconst 0, 1) := by decide +kernel
theorem dX6_mixGates_47 : decode cX6_mixGates 47 = .ok (.istore 6, 2) := by decide +kernel
theorem dX6_mixGates_49 : decode cX6_mixGates 49 = .ok (.iload 6, 2) := by decide +kernel
theorem dX6_mixGates_51 : decode cX6_mixGates 51 = .ok (.iconst 3, 1) := by decide +kernel
theorem dX6_mixGates_52 : decode cX6_mixGates 52 = .ok (.if_icmp .gt 35, 3) := by decide +kernel
theorem dX6_mixGates_55 : decode cX6_mixGates 55 = .ok (.lload_n 3, 1) := by decide +kernel
theorem dX6_mixGates_56 : decode cX6_mixGates 56 = .ok (.aload_n 0, 1) := by decide +kernel
theorem dX6_mixGates_57 : decode cX6_mixGates 57 = .ok (.iload 5, 2) := by decide +kernel
theorem dX6_mixGates_59 : decode cX6_mixGates 59 = .ok (.iload 6, 2) := by decide +kernel
theorem dX6_mixGates_61 : decode cX6_mixGates 61 = .ok (.iconst 0, 1) := by decide +kernel
theorem dX6_mixGates_62 : decode cX6_mixGates 62 = .ok (.invokevirtual 370, 3) := by decide +kernel
theorem dX6_mixGates_65 : decode cX6_mixGates 65 = .ok (.invokestatic 320, 3) := by decide +kernel
theorem dX6_mixGates_68 : decode cX6_mixGates 68 = .ok (.aload_n 0, 1) := by decide +kernel
theorem dX6_mixGates_69 : decode cX6_mixGates 69 = .ok (.iload 5, 2) := by decide +kernel
theorem dX6_mixGates_71 : decode cX6_mixGates 71 = .ok (.iload 6, 2) := by decide +kernel
theorem dX6_mixGates_73 : decode cX6_mixGates 73 = .ok (.iconst 1, 1) := by decide +kernel
theorem dX6_mixGates_74 : decode cX6_mixGates 74 = .ok (.invokevirtual 370, 3) := by decide +kernel
theorem dX6_mixGates_77 : decode cX6_mixGates 77 = .ok (.invokestatic 320, 3) := by decide +kernel
theorem dX6_mixGates_80 : decode cX6_mixGates 80 = .ok (.lstore_n 3, 1) := by decide +kernel
theorem dX6_mixGates_81 : decode cX6_mixGates 81 = .ok (.iinc 6 1, 3) := by decide +kernel
theorem dX6_mixGates_84 : decode cX6_mixGates 84 = .ok (.goto (-35), 3) := by decide +kernel
theorem dX6_mixGates_87 : decode cX6_mixGates 87 = .ok (.lload_n 3, 1) := by decide +kernel
theorem dX6_mixGates_88 : decode cX6_mixGates 88 = .ok (.aload_n 0, 1) := by decide +kernel
theorem dX6_mixGates_89 : decode cX6_mixGates 89 = .ok (.iload 5, 2) := by decide +kernel
theorem dX6_mixGates_91 : decode cX6_mixGates 91 = .ok (.invokevirtual 373, 3) := by decide +kernel
theorem dX6_mixGates_94 : decode cX6_mixGates 94 = .ok (.i2l, 1) := by decide +kernel
theorem dX6_mixGates_95 : decode cX6_mixGates 95 = .ok (.invokestatic 320, 3) := by decide +kernel
theorem dX6_mixGates_98 : decode cX6_mixGates 98 = .ok (.lstore_n 3, 1) := by decide +kernel
theorem dX6_mixGates_99 : decode cX6_mixGates 99 = .ok (.iinc 5 1, 3) := by decide +kernel
theorem dX6_mixGates_102 : decode cX6_mixGates 102 = .ok (.goto (-97), 3) := by decide +kernel
theorem dX6_mixGates_105 : decode cX6_mixGates 105 = .ok (.lload_n 3, 1) := by decide +kernel
theorem dX6_mixGates_106 : decode cX6_mixGates 106 = .ok (.lreturn, 1) := by decide +kernel
theorem dX6_mixChains_0 : decode cX6_mixChains 0 = .ok (.lload_n 1, 1) := by decide +kernel
theorem dX6_mixChains_1 : decode cX6_mixChains 1 = .ok (.aload_n 0, 1) := by decide +kernel
theorem dX6_mixChains_2 : decode cX6_mixChains 2 = .ok (.iconst 3, 1) := by decide +kernel
theorem dX6_mixChains_3 : decode cX6_mixChains 3 = .ok (.iconst 0, 1) := by decide +kernel
theorem dX6_mixChains_4 : decode cX6_mixChains 4 = .ok (.iconst 3, 1) := by decide +kernel
theorem dX6_mixChains_5 : decode cX6_mixChains 5 = .ok (.invokevirtual 376, 3) := by decide +kernel
theorem dX6_mixChains_8 : decode cX6_mixChains 8 = .ok (.i2l, 1) := by decide +kernel
theorem dX6_mixChains_9 : decode cX6_mixChains 9 = .ok (.invokestatic 320, 3) := by decide +kernel
theorem dX6_mixChains_12 : decode cX6_mixChains 12 = .ok (.aload_n 0, 1) := by decide +kernel
theorem dX6_mixChains_13 : decode cX6_mixChains 13 = .ok (.iconst 3, 1) := by decide +kernel
theorem dX6_mixChains_14 : decode cX6_mixChains 14 = .ok (.iconst 0, 1) := by decide +kernel
theorem dX6_mixChains_15 : decode cX6_mixChains 15 = .ok (.iconst 4, 1) := by decide +kernel
theorem dX6_mixChains_16 : decode cX6_mixChains 16 = .ok (.invokevirtual 376, 3) := by decide +kernel
theorem dX6_mixChains_19 : decode cX6_mixChains 19 = .ok (.i2l, 1) := by decide +kernel
theorem dX6_mixChains_20 : decode cX6_mixChains 20 = .ok (.invokestatic 320, 3) := by decide +kernel
theorem dX6_mixChains_23 : decode cX6_mixChains 23 = .ok (.lstore_n 3, 1) := by decide +kernel
theorem dX6_mixChains_24 : decode cX6_mixChains 24 = .ok (.iconst 0, 1) := by decide +kernel
theorem dX6_mixChains_25 : decode cX6_mixChains 25 = .ok (.istore 5, 2) := by decide +kernel
theorem dX6_mixChains_27 : decode cX6_mixChains 27 = .ok (.iload 5, 2) := by decide +kernel
theorem dX6_mixChains_29 : decode cX6_mixChains 29 = .ok (.iconst 4, 1) := by decide +kernel
theorem dX6_mixChains_30 : decode cX6_mixChains 30 = .ok (.if_icmp .gt 24, 3) := by decide +kernel
theorem dX6_mixChains_33 : decode cX6_mixChains 33 = .ok (.lload_n 3, 1) := by decide +kernel
theorem dX6_mixChains_34 : decode cX6_mixChains 34 = .ok (.aload_n 0, 1) := by decide +kernel
theorem dX6_mixChains_35 : decode cX6_mixChains 35 = .ok (.bipush 7, 2) := by decide +kernel
theorem dX6_mixChains_37 : decode cX6_mixChains 37 = .ok (.iconst 1, 1) := by decide +kernel
theorem dX6_mixChains_38 : decode cX6_mixChains 38 = .ok (.iload 5, 2) := by decide +kernel
theorem dX6_mixChains_40 : decode cX6_mixChains 40 = .ok (.invokevirtual 376, 3) := by decide +kernel
theorem dX6_mixChains_43 : decode cX6_mixChains 43 = .ok (.i2l, 1) := by decide +kernel
theorem dX6_mixChains_44 : decode cX6_mixChains 44 = .ok (.invokestatic 320, 3) := by decide +kernel
theorem dX6_mixChains_47 : decode cX6_mixChains 47 = .ok (.lstore_n 3, 1) := by decide +kernel
theorem dX6_mixChains_48 : decode cX6_mixChains 48 = .ok (.iinc 5 1, 3) := by decide +kernel
theorem dX6_mixChains_51 : decode cX6_mixChains 51 = .ok (.goto (-24), 3) := by decide +kernel
theorem dX6_mixChains_54 : decode cX6_mixChains 54 = .ok (.lload_n 3, 1) := by decide +kernel
theorem dX6_mixChains_55 : decode cX6_mixChains 55 = .ok (.lreturn, 1) := by decide +kernel
theorem dX6_mixFit_0 : decode cX6_mixFit 0 = .ok (.aload_n 0, 1) := by decide +kernel
theorem dX6_mixFit_1 : decode cX6_mixFit 1 = .ok (.getfield 10, 3) := by decide +kernel
theorem dX6_mixFit_4 : decode cX6_mixFit 4 = .ok (.getfield 97, 3) := by decide +kernel
theorem dX6_mixFit_7 : decode cX6_mixFit 7 = .ok (.iconst 2, 1) := by decide +kernel
theorem dX6_mixFit_8 : decode cX6_mixFit 8 = .ok (.if_icmp .ge 5, 3) := by decide +kernel
theorem dX6_mixFit_11 : decode cX6_mixFit 11 = .ok (.lload_n 1, 1) := by decide +kernel
theorem dX6_mixFit_12 : decode cX6_mixFit 12 = .ok (.lreturn, 1) := by decide +kernel
theorem dX6_mixFit_13 : decode cX6_mixFit 13 = .ok (.aload_n 0, 1) := by decide +kernel
theorem dX6_mixFit_14 : decode cX6_mixFit 14 = .ok (.getfield 10, 3) := by decide +kernel
theorem dX6_mixFit_17 : decode cX6_mixFit 17 = .ok (.getfield 97, 3) := by decide +kernel
theorem dX6_mixFit_20 : decode cX6_mixFit 20 = .ok (.iconst 1, 1) := by decide +kernel
theorem dX6_mixFit_21 : decode cX6_mixFit 21 = .ok (.isub, 1) := by decide +kernel
theorem dX6_mixFit_22 : decode cX6_mixFit 22 = .ok (.istore_n 3, 1) := by decide +kernel
theorem dX6_mixFit_23 : decode cX6_mixFit 23 = .ok (.lload_n 1, 1) := by decide +kernel
theorem dX6_mixFit_24 : decode cX6_mixFit 24 = .ok (.aload_n 0, 1) := by decide +kernel
theorem dX6_mixFit_25 : decode cX6_mixFit 25 = .ok (.iconst 0, 1) := by decide +kernel
theorem dX6_mixFit_26 : decode cX6_mixFit 26 = .ok (.iload_n 3, 1) := by decide +kernel
theorem dX6_mixFit_27 : decode cX6_mixFit 27 = .ok (.iconst 0, 1) := by decide +kernel
theorem dX6_mixFit_28 : decode cX6_mixFit 28 = .ok (.invokevirtual 380, 3) := by decide +kernel
theorem dX6_mixFit_31 : decode cX6_mixFit 31 = .ok (.invokestatic 320, 3) := by decide +kernel
theorem dX6_mixFit_34 : decode cX6_mixFit 34 = .ok (.aload_n 0, 1) := by decide +kernel
theorem dX6_mixFit_35 : decode cX6_mixFit 35 = .ok (.iconst 0, 1) := by decide +kernel
theorem dX6_mixFit_36 : decode cX6_mixFit 36 = .ok (.iload_n 3, 1) := by decide +kernel
theorem dX6_mixFit_37 : decode cX6_mixFit 37 = .ok (.iconst 1, 1) := by decide +kernel
theorem dX6_mixFit_38 : decode cX6_mixFit 38 = .ok (.invokevirtual 380, 3) := by decide +kernel
theorem dX6_mixFit_41 : decode cX6_mixFit 41 = .ok (.invokestatic 320, 3) := by decide +kernel
theorem dX6_mixFit_44 : decode cX6_mixFit 44 = .ok (.aload_n 0, 1) := by decide +kernel
theorem dX6_mixFit_45 : decode cX6_mixFit 45 = .ok (.iconst 0, 1) := by decide +kernel
theorem dX6_mixFit_46 : decode cX6_mixFit 46 = .ok (.iload_n 3, 1) := by decide +kernel
theorem dX6_mixFit_47 : decode cX6_mixFit 47 = .ok (.invokevirtual 383, 3) := by decide +kernel
theorem dX6_mixFit_50 : decode cX6_mixFit 50 = .ok (.i2l, 1) := by decide +kernel
theorem dX6_mixFit_51 : decode cX6_mixFit 51 = .ok (.invokestatic 320, 3) := by decide +kernel
theorem dX6_mixFit_54 : decode cX6_mixFit 54 = .ok (.lreturn, 1) := by decide +kernel
theorem dX6_mixSpans_0 : decode cX6_mixSpans 0 = .ok (.lload_n 1, 1) := by decide +kernel
theorem dX6_mixSpans_1 : decode cX6_mixSpans 1 = .ok (.lstore_n 3, 1) := by decide +kernel
theorem dX6_mixSpans_2 : decode cX6_mixSpans 2 = .ok (.iconst 1, 1) := by decide +kernel
theorem dX6_mixSpans_3 : decode cX6_mixSpans 3 = .ok (.istore 5, 2) := by decide +kernel
theorem dX6_mixSpans_5 : decode cX6_mixSpans 5 = .ok (.iload 5, 2) := by decide +kernel
theorem dX6_mixSpans_7 : decode cX6_mixSpans 7 = .ok (.bipush 15, 2) := by decide +kernel
theorem dX6_mixSpans_9 : decode cX6_mixSpans 9 = .ok (.if_icmp .gt 31, 3) := by decide +kernel
theorem dX6_mixSpans_12 : decode cX6_mixSpans 12 = .ok (.lload_n 3, 1) := by decide +kernel
theorem dX6_mixSpans_13 : decode cX6_mixSpans 13 = .ok (.aload_n 0, 1) := by decide +kernel
theorem dX6_mixSpans_14 : decode cX6_mixSpans 14 = .ok (.iload 5, 2) := by decide +kernel
theorem dX6_mixSpans_16 : decode cX6_mixSpans 16 = .ok (.iconst 0, 1) := by decide +kernel
theorem dX6_mixSpans_17 : decode cX6_mixSpans 17 = .ok (.invokevirtual 299, 3) := by decide +kernel
theorem dX6_mixSpans_20 : decode cX6_mixSpans 20 = .ok (.invokestatic 320, 3) := by decide +kernel
theorem dX6_mixSpans_23 : decode cX6_mixSpans 23 = .ok (.aload_n 0, 1) := by decide +kernel
theorem dX6_mixSpans_24 : decode cX6_mixSpans 24 = .ok (.iload 5, 2) := by decide +kernel
theorem dX6_mixSpans_26 : decode cX6_mixSpans 26 = .ok (.iconst 1, 1) := by decide +kernel
theorem dX6_mixSpans_27 : decode cX6_mixSpans 27 = .ok (.invokevirtual 299, 3) := by decide +kernel
theorem dX6_mixSpans_30 : decode cX6_mixSpans 30 = .ok (.invokestatic 320, 3) := by decide +kernel
theorem dX6_mixSpans_33 : decode cX6_mixSpans 33 = .ok (.lstore_n 3, 1) := by decide +kernel
theorem dX6_mixSpans_34 : decode cX6_mixSpans 34 = .ok (.iinc 5 1, 3) := by decide +kernel
theorem dX6_mixSpans_37 : decode cX6_mixSpans 37 = .ok (.goto (-32), 3) := by decide +kernel
theorem dX6_mixSpans_40 : decode cX6_mixSpans 40 = .ok (.iconst 0, 1) := by decide +kernel
theorem dX6_mixSpans_41 : decode cX6_mixSpans 41 = .ok (.istore 5, 2) := by decide +kernel
theorem dX6_mixSpans_43 : decode cX6_mixSpans 43 = .ok (.iload 5, 2) := by decide +kernel
theorem dX6_mixSpans_45 : decode cX6_mixSpans 45 = .ok (.aload_n 0, 1) := by decide +kernel
theorem dX6_mixSpans_46 : decode cX6_mixSpans 46 = .ok (.getfield 40, 3) := by decide +kernel
theorem dX6_mixSpans_49 : decode cX6_mixSpans 49 = .ok (.getfield 242, 3) := by decide +kernel
theorem dX6_mixSpans_52 : decode cX6_mixSpans 52 = .ok (.if_icmp .ge 21, 3) := by decide +kernel
theorem dX6_mixSpans_55 : decode cX6_mixSpans 55 = .ok (.lload_n 3, 1) := by decide +kernel
theorem dX6_mixSpans_56 : decode cX6_mixSpans 56 = .ok (.aload_n 0, 1) := by decide +kernel
theorem dX6_mixSpans_57 : decode cX6_mixSpans 57 = .ok (.iload 5, 2) := by decide +kernel
theorem dX6_mixSpans_59 : decode cX6_mixSpans 59 = .ok (.invokevirtual 386, 3) := by decide +kernel
theorem dX6_mixSpans_62 : decode cX6_mixSpans 62 = .ok (.i2l, 1) := by decide +kernel
theorem dX6_mixSpans_63 : decode cX6_mixSpans 63 = .ok (.invokestatic 320, 3) := by decide +kernel
theorem dX6_mixSpans_66 : decode cX6_mixSpans 66 = .ok (.lstore_n 3, 1) := by decide +kernel
theorem dX6_mixSpans_67 : decode cX6_mixSpans 67 = .ok (.iinc 5 1, 3) := by decide +kernel
theorem dX6_mixSpans_70 : decode cX6_mixSpans 70 = .ok (.goto (-27), 3) := by decide +kernel
theorem dX6_mixSpans_73 : decode cX6_mixSpans 73 = .ok (.lload_n 3, 1) := by decide +kernel
theorem dX6_mixSpans_74 : decode cX6_mixSpans 74 = .ok (.lreturn, 1) := by decide +kernel
theorem dX6_isWithin_0 : decode cX6_isWithin 0 = .ok (.iload_n 0, 1) := by decide +kernel
theorem dX6_isWithin_1 : decode cX6_isWithin 1 = .ok (.iload_n 1, 1) := by decide +kernel
theorem dX6_isWithin_2 : decode cX6_isWithin 2 = .ok (.if_icmp .lt 12, 3) := by decide +kernel
theorem dX6_isWithin_5 : decode cX6_isWithin 5 = .ok (.iload_n 0, 1) := by decide +kernel
theorem dX6_isWithin_6 : decode cX6_isWithin 6 = .ok (.iload_n 2, 1) := by decide +kernel
theorem dX6_isWithin_7 : decode cX6_isWithin 7 = .ok (.if_icmp .gt 7, 3) := by decide +kernel
theorem dX6_isWithin_10 : decode cX6_isWithin 10 = .ok (.iconst 1, 1) := by decide +kernel
theorem dX6_isWithin_11 : decode cX6_isWithin 11 = .ok (.goto 4, 3) := by decide +kernel
theorem dX6_isWithin_14 : decode cX6_isWithin 14 = .ok (.iconst 0, 1) := by decide +kernel
theorem dX6_isWithin_15 : decode cX6_isWithin 15 = .ok (.ireturn, 1) := by decide +kernel
theorem dX6_isTime_0 : decode cX6_isTime 0 = .ok (.iload_n 0, 1) := by decide +kernel
theorem dX6_isTime_1 : decode cX6_isTime 1 = .ok (.iconst 0, 1) := by decide +kernel
theorem dX6_isTime_2 : decode cX6_isTime 2 = .ok (.sipush 5999, 3) := by decide +kernel
theorem dX6_isTime_5 : decode cX6_isTime 5 = .ok (.invokestatic 87, 3) := by decide +kernel
theorem dX6_isTime_8 : decode cX6_isTime 8 = .ok (.ireturn, 1) := by decide +kernel
theorem dX6_isFine_0 : decode cX6_isFine 0 = .ok (.iload_n 0, 1) := by decide +kernel
theorem dX6_isFine_1 : decode cX6_isFine 1 = .ok (.iconst 0, 1) := by decide +kernel
theorem dX6_isFine_2 : decode cX6_isFine 2 = .ok (.bipush 59, 2) := by decide +kernel
theorem dX6_isFine_4 : decode cX6_isFine 4 = .ok (.invokestatic 87, 3) := by decide +kernel
theorem dX6_isFine_7 : decode cX6_isFine 7 = .ok (.ireturn, 1) := by decide +kernel
theorem dX6_isHalf_0 : decode cX6_isHalf 0 = .ok (.iload_n 0, 1) := by decide +kernel
theorem dX6_isHalf_1 : decode cX6_isHalf 1 = .ok (.ifCond .eq 8, 3) := by decide +kernel
theorem dX6_isHalf_4 : decode cX6_isHalf 4 = .ok (.iload_n 0, 1) := by decide +kernel
theorem dX6_isHalf_5 : decode cX6_isHalf 5 = .ok (.iconst 1, 1) := by decide +kernel
theorem dX6_isHalf_6 : decode cX6_isHalf 6 = .ok (.if_icmp .ne 7, 3) := by decide +kernel
theorem dX6_isHalf_9 : decode cX6_isHalf 9 = .ok (.iconst 1, 1) := by decide +kernel
theorem dX6_isHalf_10 : decode cX6_isHalf 10 = .ok (.goto 4, 3) := by decide +kernel
theorem dX6_isHalf_13 : decode cX6_isHalf 13 = .ok (.iconst 0, 1) := by decide +kernel
theorem dX6_isHalf_14 : decode cX6_isHalf 14 = .ok (.ireturn, 1) := by decide +kernel
theorem dX6_isSheet_0 : decode cX6_isSheet 0 = .ok (.iload_n 0, 1) := by decide +kernel
theorem dX6_isSheet_1 : decode cX6_isSheet 1 = .ok (.iconst 0, 1) := by decide +kernel
theorem dX6_isSheet_2 : decode cX6_isSheet 2 = .ok (.iconst 3, 1) := by decide +kernel
theorem dX6_isSheet_3 : decode cX6_isSheet 3 = .ok (.invokestatic 87, 3) := by decide +kernel
theorem dX6_isSheet_6 : decode cX6_isSheet 6 = .ok (.ireturn, 1) := by decide +kernel
theorem dX6_isForm_0 : decode cX6_isForm 0 = .ok (.iload_n 0, 1) := by decide +kernel
theorem dX6_isForm_1 : decode cX6_isForm 1 = .ok (.iconst 0, 1) := by decide +kernel
theorem dX6_isForm_2 : decode cX6_isForm 2 = .ok (.iconst 3, 1) := by decide +kernel
theorem dX6_isForm_3 : decode cX6_isForm 3 = .ok (.invokestatic 87, 3) := by decide +kernel
theorem dX6_isForm_6 : decode cX6_isForm 6 = .ok (.ireturn, 1) := by decide +kernel
theorem dX6_isEdge_0 : decode cX6_isEdge 0 = .ok (.iload_n 1, 1) := by decide +kernel
theorem dX6_isEdge_1 : decode cX6_isEdge 1 = .ok (.iconst 0, 1) := by decide +kernel
theorem dX6_isEdge_2 : decode cX6_isEdge 2 = .ok (.aload_n 0, 1) := by decide +kernel
theorem dX6_isEdge_3 : decode cX6_isEdge 3 = .ok (.getfield 10, 3) := by decide +kernel
theorem dX6_isEdge_6 : decode cX6_isEdge 6 = .ok (.getfield 97, 3) := by decide +kernel
theorem dX6_isEdge_9 : decode cX6_isEdge 9 = .ok (.iconst 1, 1) := by decide +kernel
theorem dX6_isEdge_10 : decode cX6_isEdge 10 = .ok (.isub, 1) := by decide +kernel
theorem dX6_isEdge_11 : decode cX6_isEdge 11 = .ok (.invokestatic 87, 3) := by decide +kernel
theorem dX6_isEdge_14 : decode cX6_isEdge 14 = .ok (.ireturn, 1) := by decide +kernel
theorem dX6_isEdgePair_0 : decode cX6_isEdgePair 0 = .ok (.aload_n 0, 1) := by decide +kernel
theorem dX6_isEdgePair_1 : decode cX6_isEdgePair 1 = .ok (.iload_n 1, 1) := by decide +kernel
theorem dX6_isEdgePair_2 : decode cX6_isEdgePair 2 = .ok (.invokevirtual 91, 3) := by decide +kernel
theorem dX6_isEdgePair_5 : decode cX6_isEdgePair 5 = .ok (.ifCond .eq 20, 3) := by decide +kernel
theorem dX6_isEdgePair_8 : decode cX6_isEdgePair 8 = .ok (.aload_n 0, 1) := by decide +kernel
theorem dX6_isEdgePair_9 : decode cX6_isEdgePair 9 = .ok (.iload_n 2, 1) := by decide +kernel
theorem dX6_isEdgePair_10 : decode cX6_isEdgePair 10 = .ok (.invokevirtual 91, 3) := by decide +kernel
theorem dX6_isEdgePair_13 : decode cX6_isEdgePair 13 = .ok (.ifCond .eq 12, 3) := by decide +kernel
theorem dX6_isEdgePair_16 : decode cX6_isEdgePair 16 = .ok (.iload_n 1, 1) := by decide +kernel
theorem dX6_isEdgePair_17 : decode cX6_isEdgePair 17 = .ok (.iload_n 2, 1) := by decide +kernel
theorem dX6_isEdgePair_18 : decode cX6_isEdgePair 18 = .ok (.if_icmp .ge 7, 3) := by decide +kernel
theorem dX6_isEdgePair_21 : decode cX6_isEdgePair 21 = .ok (.iconst 1, 1) := by decide +kernel
theorem dX6_isEdgePair_22 : decode cX6_isEdgePair 22 = .ok (.goto 4, 3) := by decide +kernel
theorem dX6_isEdgePair_25 : decode cX6_isEdgePair 25 = .ok (.iconst 0, 1) := by decide +kernel
theorem dX6_isEdgePair_26 : decode cX6_isEdgePair 26 = .ok (.ireturn, 1) := by decide +kernel
theorem dX6_isLastEdge_0 : decode cX6_isLastEdge 0 = .ok (.iload_n 1, 1) := by decide +kernel
theorem dX6_isLastEdge_1 : decode cX6_isLastEdge 1 = .ok (.aload_n 0, 1) := by decide +kernel
theorem dX6_isLastEdge_2 : decode cX6_isLastEdge 2 = .ok (.getfield 10, 3) := by decide +kernel
theorem dX6_isLastEdge_5 : decode cX6_isLastEdge 5 = .ok (.getfield 97, 3) := by decide +kernel
theorem dX6_isLastEdge_8 : decode cX6_isLastEdge 8 = .ok (.iconst 1, 1) := by decide +kernel
theorem dX6_isLastEdge_9 : decode cX6_isLastEdge 9 = .ok (.isub, 1) := by decide +kernel
theorem dX6_isLastEdge_10 : decode cX6_isLastEdge 10 = .ok (.if_icmp .ne 7, 3) := by decide +kernel
theorem dX6_isLastEdge_13 : decode cX6_isLastEdge 13 = .ok (.iconst 1, 1) := by decide +kernel
theorem dX6_isLastEdge_14 : decode cX6_isLastEdge 14 = .ok (.goto 4, 3) := by decide +kernel
theorem dX6_isLastEdge_17 : decode cX6_isLastEdge 17 = .ok (.iconst 0, 1) := by decide +kernel
theorem dX6_isLastEdge_18 : decode cX6_isLastEdge 18 = .ok (.ireturn, 1) := by decide +kernel
theorem dX6_isBin_0 : decode cX6_isBin 0 = .ok (.iload_n 1, 1) := by decide +kernel
theorem dX6_isBin_1 : decode cX6_isBin 1 = .ok (.iconst 0, 1) := by decide +kernel
theorem dX6_isBin_2 : decode cX6_isBin 2 = .ok (.aload_n 0, 1) := by decide +kernel
theorem dX6_isBin_3 : decode cX6_isBin 3 = .ok (.getfield 19, 3) := by decide +kernel
theorem dX6_isBin_6 : decode cX6_isBin 6 = .ok (.getfield 110, 3) := by decide +kernel
theorem dX6_isBin_9 : decode cX6_isBin 9 = .ok (.iconst 1, 1) := by decide +kernel
theorem dX6_isBin_10 : decode cX6_isBin 10 = .ok (.isub, 1) := by decide +kernel
theorem dX6_isBin_11 : decode cX6_isBin 11 = .ok (.invokestatic 87, 3) := by decide +kernel
theorem dX6_isBin_14 : decode cX6_isBin 14 = .ok (.ireturn, 1) := by decide +kernel
theorem dX6_isGate_0 : decode cX6_isGate 0 = .ok (.iload_n 1, 1) := by decide +kernel
theorem dX6_isGate_1 : decode cX6_isGate 1 = .ok (.iconst 0, 1) := by decide +kernel
theorem dX6_isGate_2 : decode cX6_isGate 2 = .ok (.aload_n 0, 1) := by decide +kernel
theorem dX6_isGate_3 : decode cX6_isGate 3 = .ok (.getfield 26, 3) := by decide +kernel
theorem dX6_isGate_6 : decode cX6_isGate 6 = .ok (.getfield 204, 3) := by decide +kernel
theorem dX6_isGate_9 : decode cX6_isGate 9 = .ok (.iconst 1, 1) := by decide +kernel
theorem dX6_isGate_10 : decode cX6_isGate 10 = .ok (.isub, 1) := by decide +kernel
theorem dX6_isGate_11 : decode cX6_isGate 11 = .ok (.invokestatic 87, 3) := by decide +kernel
theorem dX6_isGate_14 : decode cX6_isGate 14 = .ok (.ireturn, 1) := by decide +kernel
theorem dX6_refusal_0 : decode cX6_refusal 0 = .ok (.ldc2_w 389, 3) := by decide +kernel
theorem dX6_refusal_3 : decode cX6_refusal 3 = .ok (.iload_n 0, 1) := by decide +kernel
theorem dX6_refusal_4 : decode cX6_refusal 4 = .ok (.i2l, 1) := by decide +kernel
theorem dX6_refusal_5 : decode cX6_refusal 5 = .ok (.lsub, 1) := by decide +kernel
theorem dX6_refusal_6 : decode cX6_refusal 6 = .ok (.lreturn, 1) := by decide +kernel
theorem dX6_finding_0 : decode cX6_finding 0 = .ok (.aload_n 0, 1) := by decide +kernel
theorem dX6_finding_1 : decode cX6_finding 1 = .ok (.iload_n 1, 1) := by decide +kernel
theorem dX6_finding_2 : decode cX6_finding 2 = .ok (.putfield 64, 3) := by decide +kernel
theorem dX6_finding_5 : decode cX6_finding 5 = .ok (.bipush (-10), 2) := by decide +kernel
theorem dX6_finding_7 : decode cX6_finding 7 = .ok (.iload_n 1, 1) := by decide +kernel
theorem dX6_finding_8 : decode cX6_finding 8 = .ok (.isub, 1) := by decide +kernel
theorem dX6_finding_9 : decode cX6_finding 9 = .ok (.ireturn, 1) := by decide +kernel
theorem dX6_lowest_0 : decode cX6_lowest 0 = .ok (.lload_n 0, 1) := by decide +kernel
theorem dX6_lowest_1 : decode cX6_lowest 1 = .ok (.lload_n 2, 1) := by decide +kernel
theorem dX6_lowest_2 : decode cX6_lowest 2 = .ok (.invokestatic 391, 3) := by decide +kernel
theorem dX6_lowest_5 : decode cX6_lowest 5 = .ok (.lstore 5, 2) := by decide +kernel
theorem dX6_lowest_7 : decode cX6_lowest 7 = .ok (.iload 4, 2) := by decide +kernel
theorem dX6_lowest_9 : decode cX6_lowest 9 = .ok (.ifCond .ne 7, 3) := by decide +kernel
theorem dX6_lowest_12 : decode cX6_lowest 12 = .ok (.lload_n 0, 1) := by decide +kernel
theorem dX6_lowest_13 : decode cX6_lowest 13 = .ok (.goto 4, 3) := by decide +kernel
theorem dX6_lowest_16 : decode cX6_lowest 16 = .ok (.lload_n 2, 1) := by decide +kernel
theorem dX6_lowest_17 : decode cX6_lowest 17 = .ok (.lstore 7, 2) := by decide +kernel
theorem dX6_lowest_19 : decode cX6_lowest 19 = .ok (.lload 5, 2) := by decide +kernel
theorem dX6_lowest_21 : decode cX6_lowest 21 = .ok (.lconst 1, 1) := by decide +kernel
theorem dX6_lowest_22 : decode cX6_lowest 22 = .ok (.lcmp, 1) := by decide +kernel
theorem dX6_lowest_23 : decode cX6_lowest 23 = .ok (.ifCond .le 11, 3) := by decide +kernel
theorem dX6_lowest_26 : decode cX6_lowest 26 = .ok (.lload 7, 2) := by decide +kernel
theorem dX6_lowest_28 : decode cX6_lowest 28 = .ok (.lload 5, 2) := by decide +kernel
theorem dX6_lowest_30 : decode cX6_lowest 30 = .ok (.ldiv, 1) := by decide +kernel
theorem dX6_lowest_31 : decode cX6_lowest 31 = .ok (.goto 5, 3) := by decide +kernel
theorem dX6_lowest_34 : decode cX6_lowest 34 = .ok (.lload 7, 2) := by decide +kernel
theorem dX6_lowest_36 : decode cX6_lowest 36 = .ok (.lreturn, 1) := by decide +kernel
theorem dX6_commonDivisor_0 : decode cX6_commonDivisor 0 = .ok (.lload_n 0, 1) := by decide +kernel
theorem dX6_commonDivisor_1 : decode cX6_commonDivisor 1 = .ok (.lstore 4, 2) := by decide +kernel
theorem dX6_commonDivisor_3 : decode cX6_commonDivisor 3 = .ok (.lload_n 2, 1) := by decide +kernel
theorem dX6_commonDivisor_4 : decode cX6_commonDivisor 4 = .ok (.lstore 6, 2) := by decide +kernel
theorem dX6_commonDivisor_6 : decode cX6_commonDivisor 6 = .ok (.iconst 0, 1) := by decide +kernel
theorem dX6_commonDivisor_7 : decode cX6_commonDivisor 7 = .ok (.istore 8, 2) := by decide +kernel
theorem dX6_commonDivisor_9 : decode cX6_commonDivisor 9 = .ok (.iload 8, 2) := by decide +kernel
theorem dX6_commonDivisor_11 : decode cX6_commonDivisor 11 = .ok (.bipush 100, 2) := by decide +kernel
theorem dX6_commonDivisor_13 : decode cX6_commonDivisor 13 = .ok (.if_icmp .ge 31, 3) := by decide +kernel
theorem dX6_commonDivisor_16 : decode cX6_commonDivisor 16 = .ok (.lload 6, 2) := by decide +kernel
theorem dX6_commonDivisor_18 : decode cX6_commonDivisor 18 = .ok (.lconst 0, 1) := by decide +kernel
theorem dX6_commonDivisor_19 : decode cX6_commonDivisor 19 = .ok (.lcmp, 1) := by decide +kernel
theorem dX6_commonDivisor_20 : decode cX6_commonDivisor 20 = .ok (.ifCond .eq 24, 3) := by decide +kernel
theorem dX6_commonDivisor_23 : decode cX6_commonDivisor 23 = .ok (.lload 4, 2) := by decide +kernel
theorem dX6_commonDivisor_25 : decode cX6_commonDivisor 25 = .ok (.lload 6, 2) := by decide +kernel
theorem dX6_commonDivisor_27 : decode cX6_commonDivisor 27 = .ok (.lrem, 1) := by decide +kernel
theorem dX6_commonDivisor_28 : decode cX6_commonDivisor 28 = .ok (.lstore 9, 2) := by decide +kernel
theorem dX6_commonDivisor_30 : decode cX6_commonDivisor 30 = .ok (.lload 6, 2) := by decide +kernel
theorem dX6_commonDivisor_32 : decode cX6_commonDivisor 32 = .ok (.lstore 4, 2) := by decide +kernel
theorem dX6_commonDivisor_34 : decode cX6_commonDivisor 34 = .ok (.lload 9, 2) := by decide +kernel
theorem dX6_commonDivisor_36 : decode cX6_commonDivisor 36 = .ok (.lstore 6, 2) := by decide +kernel
theorem dX6_commonDivisor_38 : decode cX6_commonDivisor 38 = .ok (.iinc 8 1, 3) := by decide +kernel
theorem dX6_commonDivisor_41 : decode cX6_commonDivisor 41 = .ok (.goto (-32), 3) := by decide +kernel
theorem dX6_commonDivisor_44 : decode cX6_commonDivisor 44 = .ok (.lload 4, 2) := by decide +kernel
theorem dX6_commonDivisor_46 : decode cX6_commonDivisor 46 = .ok (.lreturn, 1) := by decide +kernel
theorem dX6_renew_0 : decode cX6_renew 0 = .ok (.aload_n 0, 1) := by decide +kernel
theorem dX6_renew_1 : decode cX6_renew 1 = .ok (.getfield 67, 3) := by decide +kernel
theorem dX6_renew_4 : decode cX6_renew 4 = .ok (.ifCond .eq 64, 3) := by decide +kernel
theorem dX6_renew_7 : decode cX6_renew 7 = .ok (.aload_n 0, 1) := by decide +kernel
theorem dX6_renew_8 : decode cX6_renew 8 = .ok (.iconst 0, 1) := by decide +kernel
theorem dX6_renew_9 : decode cX6_renew 9 = .ok (.putfield 67, 3) := by decide +kernel
theorem dX6_renew_12 : decode cX6_renew 12 = .ok (.aload_n 0, 1) := by decide +kernel
theorem dX6_renew_13 : decode cX6_renew 13 = .ok (.getfield 33, 3) := by decide +kernel
theorem dX6_renew_16 : decode cX6_renew 16 = .ok (.aload_n 0, 1) := by decide +kernel
theorem dX6_renew_17 : decode cX6_renew 17 = .ok (.getfield 10, 3) := by decide +kernel
theorem dX6_renew_20 : decode cX6_renew 20 = .ok (.aload_n 0, 1) := by decide +kernel
theorem dX6_renew_21 : decode cX6_renew 21 = .ok (.getfield 19, 3) := by decide +kernel
theorem dX6_renew_24 : decode cX6_renew 24 = .ok (.aload_n 0, 1) := by decide +kernel
theorem dX6_renew_25 : decode cX6_renew 25 = .ok (.invokevirtual 324, 3) := by decide +kernel
theorem dX6_renew_28 : decode cX6_renew 28 = .ok (.invokevirtual 394, 3) := by decide +kernel
theorem dX6_renew_31 : decode cX6_renew 31 = .ok (.aload_n 0, 1) := by decide +kernel
theorem dX6_renew_32 : decode cX6_renew 32 = .ok (.getfield 33, 3) := by decide +kernel
theorem dX6_renew_35 : decode cX6_renew 35 = .ok (.aload_n 0, 1) := by decide +kernel
theorem dX6_renew_36 : decode cX6_renew 36 = .ok (.getfield 58, 3) := by decide +kernel
theorem dX6_renew_39 : decode cX6_renew 39 = .ok (.aload_n 0, 1) := by decide +kernel
theorem dX6_renew_40 : decode cX6_renew 40 = .ok (.getfield 61, 3) := by decide +kernel
theorem dX6_renew_43 : decode cX6_renew 43 = .ok (.invokevirtual 398, 3) := by decide +kernel
theorem dX6_renew_46 : decode cX6_renew 46 = .ok (.aload_n 0, 1) := by decide +kernel
theorem dX6_renew_47 : decode cX6_renew 47 = .ok (.getfield 26, 3) := by decide +kernel
theorem dX6_renew_50 : decode cX6_renew 50 = .ok (.aload_n 0, 1) := by decide +kernel
theorem dX6_renew_51 : decode cX6_renew 51 = .ok (.getfield 10, 3) := by decide +kernel
theorem dX6_renew_54 : decode cX6_renew 54 = .ok (.invokevirtual 401, 3) := by decide +kernel
theorem dX6_renew_57 : decode cX6_renew 57 = .ok (.aload_n 0, 1) := by decide +kernel
theorem dX6_renew_58 : decode cX6_renew 58 = .ok (.getfield 40, 3) := by decide +kernel
theorem dX6_renew_61 : decode cX6_renew 61 = .ok (.aload_n 0, 1) := by decide +kernel
theorem dX6_renew_62 : decode cX6_renew 62 = .ok (.getfield 33, 3) := by decide +kernel
theorem dX6_renew_65 : decode cX6_renew 65 = .ok (.invokevirtual 405, 3) := by decide +kernel
theorem dX6_renew_68 : decode cX6_renew 68 = .ok (.return_, 1) := by decide +kernel
theorem dX6_modeReads_0 : decode cX6_modeReads 0 = .ok (.aload_n 1, 1) := by decide +kernel
theorem dX6_modeReads_1 : decode cX6_modeReads 1 = .ok (.invokevirtual 409, 3) := by decide +kernel
theorem dX6_modeReads_4 : decode cX6_modeReads 4 = .ok (.aload_n 0, 1) := by decide +kernel
theorem dX6_modeReads_5 : decode cX6_modeReads 5 = .ok (.getfield 54, 3) := by decide +kernel
theorem dX6_modeReads_8 : decode cX6_modeReads 8 = .ok (.if_icmp .eq 5, 3) := by decide +kernel
theorem dX6_modeReads_11 : decode cX6_modeReads 11 = .ok (.iconst 0, 1) := by decide +kernel
theorem dX6_modeReads_12 : decode cX6_modeReads 12 = .ok (.ireturn, 1) := by decide +kernel
theorem dX6_modeReads_13 : decode cX6_modeReads 13 = .ok (.iconst 0, 1) := by decide +kernel
theorem dX6_modeReads_14 : decode cX6_modeReads 14 = .ok (.istore_n 2, 1) := by decide +kernel
theorem dX6_modeReads_15 : decode cX6_modeReads 15 = .ok (.iload_n 2, 1) := by decide +kernel
theorem dX6_modeReads_16 : decode cX6_modeReads 16 = .ok (.aload_n 0, 1) := by decide +kernel
theorem dX6_modeReads_17 : decode cX6_modeReads 17 = .ok (.getfield 54, 3) := by decide +kernel
theorem dX6_modeReads_20 : decode cX6_modeReads 20 = .ok (.if_icmp .ge 25, 3) := by decide +kernel
theorem dX6_modeReads_23 : decode cX6_modeReads 23 = .ok (.aload_n 1, 1) := by decide +kernel
theorem dX6_modeReads_24 : decode cX6_modeReads 24 = .ok (.iload_n 2, 1) := by decide +kernel
theorem dX6_modeReads_25 : decode cX6_modeReads 25 = .ok (.invokevirtual 414, 3) := by decide +kernel
theorem dX6_modeReads_28 : decode cX6_modeReads 28 = .ok (.aload_n 0, 1) := by decide +kernel
theorem dX6_modeReads_29 : decode cX6_modeReads 29 = .ok (.getfield 50, 3) := by decide +kernel
theorem dX6_modeReads_32 : decode cX6_modeReads 32 = .ok (.iload_n 2, 1) := by decide +kernel
theorem dX6_modeReads_33 : decode cX6_modeReads 33 = .ok (.iaload, 1) := by decide +kernel
theorem dX6_modeReads_34 : decode cX6_modeReads 34 = .ok (.if_icmp .eq 5, 3) := by decide +kernel
theorem dX6_modeReads_37 : decode cX6_modeReads 37 = .ok (.iconst 0, 1) := by decide +kernel
theorem dX6_modeReads_38 : decode cX6_modeReads 38 = .ok (.ireturn, 1) := by decide +kernel
theorem dX6_modeReads_39 : decode cX6_modeReads 39 = .ok (.iinc 2 1, 3) := by decide +kernel
theorem dX6_modeReads_42 : decode cX6_modeReads 42 = .ok (.goto (-27), 3) := by decide +kernel
theorem dX6_modeReads_45 : decode cX6_modeReads 45 = .ok (.iconst 1, 1) := by decide +kernel
theorem dX6_modeReads_46 : decode cX6_modeReads 46 = .ok (.ireturn, 1) := by decide +kernel
theorem dX6_leastBound_0 : decode cX6_leastBound 0 = .ok (.bipush 60, 2) := by decide +kernel
theorem dX6_leastBound_2 : decode cX6_leastBound 2 = .ok (.aload_n 0, 1) := by decide +kernel
theorem dX6_leastBound_3 : decode cX6_leastBound 3 = .ok (.getfield 10, 3) := by decide +kernel
theorem dX6_leastBound_6 : decode cX6_leastBound 6 = .ok (.iload_n 1, 1) := by decide +kernel
theorem dX6_leastBound_7 : decode cX6_leastBound 7 = .ok (.invokevirtual 168, 3) := by decide +kernel
theorem dX6_leastBound_10 : decode cX6_leastBound 10 = .ok (.imul, 1) := by decide +kernel
theorem dX6_leastBound_11 : decode cX6_leastBound 11 = .ok (.aload_n 0, 1) := by decide +kernel
theorem dX6_leastBound_12 : decode cX6_leastBound 12 = .ok (.getfield 19, 3) := by decide +kernel
theorem dX6_leastBound_15 : decode cX6_leastBound 15 = .ok (.getfield 103, 3) := by decide +kernel
theorem dX6_leastBound_18 : decode cX6_leastBound 18 = .ok (.aload_n 0, 1) := by decide +kernel
theorem dX6_leastBound_19 : decode cX6_leastBound 19 = .ok (.getfield 19, 3) := by decide +kernel
theorem dX6_leastBound_22 : decode cX6_leastBound 22 = .ok (.aload_n 0, 1) := by decide +kernel
theorem dX6_leastBound_23 : decode cX6_leastBound 23 = .ok (.getfield 10, 3) := by decide +kernel
theorem dX6_leastBound_26 : decode cX6_leastBound 26 = .ok (.iload_n 1, 1) := by decide +kernel
theorem dX6_leastBound_27 : decode cX6_leastBound 27 = .ok (.invokevirtual 171, 3) := by decide +kernel
theorem dX6_leastBound_30 : decode cX6_leastBound 30 = .ok (.invokevirtual 100, 3) := by decide +kernel
theorem dX6_leastBound_33 : decode cX6_leastBound 33 = .ok (.iaload, 1) := by decide +kernel
theorem dX6_leastBound_34 : decode cX6_leastBound 34 = .ok (.iadd, 1) := by decide +kernel
theorem dX6_leastBound_35 : decode cX6_leastBound 35 = .ok (.ireturn, 1) := by decide +kernel
theorem dX6_greatestBound_0 : decode cX6_greatestBound 0 = .ok (.bipush 60, 2) := by decide +kernel
theorem dX6_greatestBound_2 : decode cX6_greatestBound 2 = .ok (.aload_n 0, 1) := by decide +kernel
theorem dX6_greatestBound_3 : decode cX6_greatestBound 3 = .ok (.getfield 10, 3) := by decide +kernel
theorem dX6_greatestBound_6 : decode cX6_greatestBound 6 = .ok (.iload_n 1, 1) := by decide +kernel
theorem dX6_greatestBound_7 : decode cX6_greatestBound 7 = .ok (.invokevirtual 168, 3) := by decide +kernel
theorem dX6_greatestBound_10 : decode cX6_greatestBound 10 = .ok (.imul, 1) := by decide +kernel
theorem dX6_greatestBound_11 : decode cX6_greatestBound 11 = .ok (.aload_n 0, 1) := by decide +kernel
theorem dX6_greatestBound_12 : decode cX6_greatestBound 12 = .ok (.getfield 19, 3) := by decide +kernel
theorem dX6_greatestBound_15 : decode cX6_greatestBound 15 = .ok (.aload_n 0, 1) := by decide +kernel
theorem dX6_greatestBound_16 : decode cX6_greatestBound 16 = .ok (.getfield 19, 3) := by decide +kernel
theorem dX6_greatestBound_19 : decode cX6_greatestBound 19 = .ok (.aload_n 0, 1) := by decide +kernel
theorem dX6_greatestBound_20 : decode cX6_greatestBound 20 = .ok (.getfield 10, 3) := by decide +kernel
theorem dX6_greatestBound_23 : decode cX6_greatestBound 23 = .ok (.iload_n 1, 1) := by decide +kernel
theorem dX6_greatestBound_24 : decode cX6_greatestBound 24 = .ok (.invokevirtual 171, 3) := by decide +kernel
theorem dX6_greatestBound_27 : decode cX6_greatestBound 27 = .ok (.invokevirtual 100, 3) := by decide +kernel
theorem dX6_greatestBound_30 : decode cX6_greatestBound 30 = .ok (.invokevirtual 418, 3) := by decide +kernel
theorem dX6_greatestBound_33 : decode cX6_greatestBound 33 = .ok (.iadd, 1) := by decide +kernel
theorem dX6_greatestBound_34 : decode cX6_greatestBound 34 = .ok (.iconst 1, 1) := by decide +kernel
theorem dX6_greatestBound_35 : decode cX6_greatestBound 35 = .ok (.isub, 1) := by decide +kernel
theorem dX6_greatestBound_36 : decode cX6_greatestBound 36 = .ok (.ireturn, 1) := by decide +kernel
theorem dX6_lengthBetween_0 : decode cX6_lengthBetween 0 = .ok (.iload_n 3, 1) := by decide +kernel
theorem dX6_lengthBetween_1 : decode cX6_lengthBetween 1 = .ok (.tableswitch 73 0 2 #[27, 47, 60], 27) := by decide +kernel
theorem dX6_lengthBetween_28 : decode cX6_lengthBetween 28 = .ok (.aload_n 0, 1) := by decide +kernel
theorem dX6_lengthBetween_29 : decode cX6_lengthBetween 29 = .ok (.getfield 33, 3) := by decide +kernel
theorem dX6_lengthBetween_32 : decode cX6_lengthBetween 32 = .ok (.getfield 193, 3) := by decide +kernel
theorem dX6_lengthBetween_35 : decode cX6_lengthBetween 35 = .ok (.iload_n 2, 1) := by decide +kernel
theorem dX6_lengthBetween_36 : decode cX6_lengthBetween 36 = .ok (.laload, 1) := by decide +kernel
theorem dX6_lengthBetween_37 : decode cX6_lengthBetween 37 = .ok (.aload_n 0, 1) := by decide +kernel
theorem dX6_lengthBetween_38 : decode cX6_lengthBetween 38 = .ok (.getfield 33, 3) := by decide +kernel
theorem dX6_lengthBetween_41 : decode cX6_lengthBetween 41 = .ok (.getfield 193, 3) := by decide +kernel
theorem dX6_lengthBetween_44 : decode cX6_lengthBetween 44 = .ok (.iload_n 1, 1) := by decide +kernel
theorem dX6_lengthBetween_45 : decode cX6_lengthBetween 45 = .ok (.laload, 1) := by decide +kernel
theorem dX6_lengthBetween_46 : decode cX6_lengthBetween 46 = .ok (.lsub, 1) := by decide +kernel
theorem dX6_lengthBetween_47 : decode cX6_lengthBetween 47 = .ok (.lreturn, 1) := by decide +kernel
theorem dX6_lengthBetween_48 : decode cX6_lengthBetween 48 = .ok (.aload_n 0, 1) := by decide +kernel
theorem dX6_lengthBetween_49 : decode cX6_lengthBetween 49 = .ok (.iload_n 2, 1) := by decide +kernel
theorem dX6_lengthBetween_50 : decode cX6_lengthBetween 50 = .ok (.invokevirtual 177, 3) := by decide +kernel
theorem dX6_lengthBetween_53 : decode cX6_lengthBetween 53 = .ok (.aload_n 0, 1) := by decide +kernel
theorem dX6_lengthBetween_54 : decode cX6_lengthBetween 54 = .ok (.iload_n 1, 1) := by decide +kernel
theorem dX6_lengthBetween_55 : decode cX6_lengthBetween 55 = .ok (.invokevirtual 174, 3) := by decide +kernel
theorem dX6_lengthBetween_58 : decode cX6_lengthBetween 58 = .ok (.isub, 1) := by decide +kernel
theorem dX6_lengthBetween_59 : decode cX6_lengthBetween 59 = .ok (.i2l, 1) := by decide +kernel
theorem dX6_lengthBetween_60 : decode cX6_lengthBetween 60 = .ok (.lreturn, 1) := by decide +kernel
theorem dX6_lengthBetween_61 : decode cX6_lengthBetween 61 = .ok (.aload_n 0, 1) := by decide +kernel
theorem dX6_lengthBetween_62 : decode cX6_lengthBetween 62 = .ok (.iload_n 2, 1) := by decide +kernel
theorem dX6_lengthBetween_63 : decode cX6_lengthBetween 63 = .ok (.invokevirtual 174, 3) := by decide +kernel
theorem dX6_lengthBetween_66 : decode cX6_lengthBetween 66 = .ok (.aload_n 0, 1) := by decide +kernel
theorem dX6_lengthBetween_67 : decode cX6_lengthBetween 67 = .ok (.iload_n 1, 1) := by decide +kernel
theorem dX6_lengthBetween_68 : decode cX6_lengthBetween 68 = .ok (.invokevirtual 177, 3) := by decide +kernel
theorem dX6_lengthBetween_71 : decode cX6_lengthBetween 71 = .ok (.isub, 1) := by decide +kernel
theorem dX6_lengthBetween_72 : decode cX6_lengthBetween 72 = .ok (.i2l, 1) := by decide +kernel
theorem dX6_lengthBetween_73 : decode cX6_lengthBetween 73 = .ok (.lreturn, 1) := by decide +kernel
theorem dX6_lengthBetween_74 : decode cX6_lengthBetween 74 = .ok (.aload_n 0, 1) := by decide +kernel
theorem dX6_lengthBetween_75 : decode cX6_lengthBetween 75 = .ok (.getfield 10, 3) := by decide +kernel
theorem dX6_lengthBetween_78 : decode cX6_lengthBetween 78 = .ok (.getfield 165, 3) := by decide +kernel
theorem dX6_lengthBetween_81 : decode cX6_lengthBetween 81 = .ok (.iload_n 2, 1) := by decide +kernel
theorem dX6_lengthBetween_82 : decode cX6_lengthBetween 82 = .ok (.iaload, 1) := by decide +kernel
theorem dX6_lengthBetween_83 : decode cX6_lengthBetween 83 = .ok (.aload_n 0, 1) := by decide +kernel
theorem dX6_lengthBetween_84 : decode cX6_lengthBetween 84 = .ok (.getfield 10, 3) := by decide +kernel
theorem dX6_lengthBetween_87 : decode cX6_lengthBetween 87 = .ok (.getfield 165, 3) := by decide +kernel
theorem dX6_lengthBetween_90 : decode cX6_lengthBetween 90 = .ok (.iload_n 1, 1) := by decide +kernel
theorem dX6_lengthBetween_91 : decode cX6_lengthBetween 91 = .ok (.iaload, 1) := by decide +kernel
theorem dX6_lengthBetween_92 : decode cX6_lengthBetween 92 = .ok (.isub, 1) := by decide +kernel
theorem dX6_lengthBetween_93 : decode cX6_lengthBetween 93 = .ok (.i2l, 1) := by decide +kernel
theorem dX6_lengthBetween_94 : decode cX6_lengthBetween 94 = .ok (.lreturn, 1) := by decide +kernel
end
section
theorem dX7_init_0 : decode cX7_init 0 = .ok (.aload_n 0, 1) := by decide +kernel
theorem dX7_init_1 : decode cX7_init 1 = .ok (.invokespecial 1, 3) := by decide +kernel
theorem dX7_init_4 : decode cX7_init 4 = .ok (.aload_n 0, 1) := by decide +kernel
theorem dX7_init_5 : decode cX7_init 5 = .ok (.bipush 32, 2) := by decide +kernel
theorem dX7_init_7 : decode cX7_init 7 = .ok (.newarray .int, 2) := by decide +kernel
theorem dX7_init_9 : decode cX7_init 9 = .ok (.putfield 7, 3) := by decide +kernel
theorem dX7_init_12 : decode cX7_init 12 = .ok (.aload_n 0, 1) := by decide +kernel
theorem dX7_init_13 : decode cX7_init 13 = .ok (.bipush 60, 2) := by decide +kernel
theorem dX7_init_15 : decode cX7_init 15 = .ok (.newarray .boolean, 2) := by decide +kernel
theorem dX7_init_17 : decode cX7_init 17 = .ok (.putfield 13, 3) := by decide +kernel
theorem dX7_init_20 : decode cX7_init 20 = .ok (.aload_n 0, 1) := by decide +kernel
theorem dX7_init_21 : decode cX7_init 21 = .ok (.bipush 12, 2) := by decide +kernel
theorem dX7_init_23 : decode cX7_init 23 = .ok (.newarray .int, 2) := by decide +kernel
theorem dX7_init_25 : decode cX7_init 25 = .ok (.putfield 17, 3) := by decide +kernel
theorem dX7_init_28 : decode cX7_init 28 = .ok (.aload_n 0, 1) := by decide +kernel
theorem dX7_init_29 : decode cX7_init 29 = .ok (.bipush 60, 2) := by decide +kernel
theorem dX7_init_31 : decode cX7_init 31 = .ok (.newarray .int, 2) := by decide +kernel
theorem dX7_init_33 : decode cX7_init 33 = .ok (.putfield 20, 3) := by decide +kernel
theorem dX7_init_36 : decode cX7_init 36 = .ok (.aload_n 0, 1) := by decide +kernel
theorem dX7_init_37 : decode cX7_init 37 = .ok (.bipush 14, 2) := by decide +kernel
theorem dX7_init_39 : decode cX7_init 39 = .ok (.newarray .int, 2) := by decide +kernel
theorem dX7_init_41 : decode cX7_init 41 = .ok (.putfield 23, 3) := by decide +kernel
theorem dX7_init_44 : decode cX7_init 44 = .ok (.aload_n 0, 1) := by decide +kernel
theorem dX7_init_45 : decode cX7_init 45 = .ok (.iconst 5, 1) := by decide +kernel
theorem dX7_init_46 : decode cX7_init 46 = .ok (.newarray .int, 2) := by decide +kernel
theorem dX7_init_48 : decode cX7_init 48 = .ok (.putfield 26, 3) := by decide +kernel
theorem dX7_init_51 : decode cX7_init 51 = .ok (.aload_n 0, 1) := by decide +kernel
theorem dX7_init_52 : decode cX7_init 52 = .ok (.bipush 32, 2) := by decide +kernel
theorem dX7_init_54 : decode cX7_init 54 = .ok (.newarray .long, 2) := by decide +kernel
theorem dX7_init_56 : decode cX7_init 56 = .ok (.putfield 29, 3) := by decide +kernel
theorem dX7_init_59 : decode cX7_init 59 = .ok (.aload_n 0, 1) := by decide +kernel
theorem dX7_init_60 : decode cX7_init 60 = .ok (.bipush 32, 2) := by decide +kernel
theorem dX7_init_62 : decode cX7_init 62 = .ok (.newarray .int, 2) := by decide +kernel
theorem dX7_init_64 : decode cX7_init 64 = .ok (.putfield 33, 3) := by decide +kernel
theorem dX7_init_67 : decode cX7_init 67 = .ok (.aload_n 0, 1) := by decide +kernel
theorem dX7_init_68 : decode cX7_init 68 = .ok (.bipush 32, 2) := by decide +kernel
theorem dX7_init_70 : decode cX7_init 70 = .ok (.newarray .int, 2) := by decide +kernel
theorem dX7_init_72 : decode cX7_init 72 = .ok (.putfield 36, 3) := by decide +kernel
theorem dX7_init_75 : decode cX7_init 75 = .ok (.aload_n 0, 1) := by decide +kernel
theorem dX7_init_76 : decode cX7_init 76 = .ok (.bipush 32, 2) := by decide +kernel
theorem dX7_init_78 : decode cX7_init 78 = .ok (.newarray .boolean, 2) := by decide +kernel
theorem dX7_init_80 : decode cX7_init 80 = .ok (.putfield 39, 3) := by decide +kernel
theorem dX7_init_83 : decode cX7_init 83 = .ok (.aload_n 0, 1) := by decide +kernel
theorem dX7_init_84 : decode cX7_init 84 = .ok (.bipush 32, 2) := by decide +kernel
theorem dX7_init_86 : decode cX7_init 86 = .ok (.newarray .long, 2) := by decide +kernel
theorem dX7_init_88 : decode cX7_init 88 = .ok (.putfield 42, 3) := by decide +kernel
theorem dX7_init_91 : decode cX7_init 91 = .ok (.aload_n 0, 1) := by decide +kernel
theorem dX7_init_92 : decode cX7_init 92 = .ok (.bipush 8, 2) := by decide +kernel
theorem dX7_init_94 : decode cX7_init 94 = .ok (.newarray .int, 2) := by decide +kernel
theorem dX7_init_96 : decode cX7_init 96 = .ok (.putfield 45, 3) := by decide +kernel
theorem dX7_init_99 : decode cX7_init 99 = .ok (.aload_n 0, 1) := by decide +kernel
theorem dX7_init_100 : decode cX7_init 100 = .ok (.bipush 8, 2) := by decide +kernel
theorem dX7_init_102 : decode cX7_init 102 = .ok (.newarray .int, 2) := by decide +kernel
theorem dX7_init_104 : decode cX7_init 104 = .ok (.putfield 48, 3) := by decide +kernel
theorem dX7_init_107 : decode cX7_init 107 = .ok (.aload_n 0, 1) := by decide +kernel
theorem dX7_init_108 : decode cX7_init 108 = .ok (.iconst 4, 1) := by decide +kernel
theorem dX7_init_109 : decode cX7_init 109 = .ok (.newarray .int, 2) := by decide +kernel
theorem dX7_init_111 : decode cX7_init 111 = .ok (.putfield 51, 3) := by decide +kernel
theorem dX7_init_114 : decode cX7_init 114 = .ok (.aload_n 0, 1) := by decide +kernel
theorem dX7_init_115 : decode cX7_init 115 = .ok (.iconst 4, 1) := by decide +kernel
theorem dX7_init_116 : decode cX7_init 116 = .ok (.newarray .int, 2) := by decide +kernel
theorem dX7_init_118 : decode cX7_init 118 = .ok (.putfield 54, 3) := by decide +kernel
theorem dX7_init_121 : decode cX7_init 121 = .ok (.aload_n 0, 1) := by decide +kernel
theorem dX7_init_122 : decode cX7_init 122 = .ok (.sipush 160, 3) := by decide +kernel
theorem dX7_init_125 : decode cX7_init 125 = .ok (.newarray .long, 2) := by decide +kernel
theorem dX7_init_127 : decode cX7_init 127 = .ok (.putfield 57, 3) := by decide +kernel
theorem dX7_init_130 : decode cX7_init 130 = .ok (.aload_n 0, 1) := by decide +kernel
theorem dX7_init_131 : decode cX7_init 131 = .ok (.sipush 160, 3) := by decide +kernel
theorem dX7_init_134 : decode cX7_init 134 = .ok (.newarray .double, 2) := by decide +kernel
theorem dX7_init_136 : decode cX7_init 136 = .ok (.putfield 60, 3) := by decide +kernel
theorem dX7_init_139 : decode cX7_init 139 = .ok (.aload_n 0, 1) := by decide +kernel
theorem dX7_init_140 : decode cX7_init 140 = .ok (.sipush 160, 3) := by decide +kernel
theorem dX7_init_143 : decode cX7_init 143 = .ok (.newarray .boolean, 2) := by decide +kernel
theorem dX7_init_145 : decode cX7_init 145 = .ok (.putfield 64, 3) := by decide +kernel
theorem dX7_init_148 : decode cX7_init 148 = .ok (.aload_n 0, 1) := by decide +kernel
theorem dX7_init_149 : decode cX7_init 149 = .ok (.bipush 40, 2) := by decide +kernel
theorem dX7_init_151 : decode cX7_init 151 = .ok (.newarray .long, 2) := by decide +kernel
theorem dX7_init_153 : decode cX7_init 153 = .ok (.putfield 67, 3) := by decide +kernel
theorem dX7_init_156 : decode cX7_init 156 = .ok (.aload_n 0, 1) := by decide +kernel
theorem dX7_init_157 : decode cX7_init 157 = .ok (.bipush 40, 2) := by decide +kernel
theorem dX7_init_159 : decode cX7_init 159 = .ok (.newarray .double, 2) := by decide +kernel
theorem dX7_init_161 : decode cX7_init 161 = .ok (.putfield 70, 3) := by decide +kernel
theorem dX7_init_164 : decode cX7_init 164 = .ok (.aload_n 0, 1) := by decide +kernel
theorem dX7_init_165 : decode cX7_init 165 = .ok (.bipush 40, 2) := by decide +kernel
theorem dX7_init_167 : decode cX7_init 167 = .ok (.newarray .boolean, 2) := by decide +kernel
theorem dX7_init_169 : decode cX7_init 169 = .ok (.putfield 73, 3) := by decide +kernel
theorem dX7_init_172 : decode cX7_init 172 = .ok (.iconst 0, 1) := by decide +kernel
theorem dX7_init_173 : decode cX7_init 173 = .ok (.istore_n 1, 1) := by decide +kernel
theorem dX7_init_174 : decode cX7_init 174 = .ok (.iload_n 1, 1) := by decide +kernel
theorem dX7_init_175 : decode cX7_init 175 = .ok (.iconst 4, 1) := by decide +kernel
theorem dX7_init_176 : decode cX7_init 176 = .ok (.if_icmp .ge 16, 3) := by decide +kernel
theorem dX7_init_179 : decode cX7_init 179 = .ok (.aload_n 0, 1) := by decide +kernel
theorem dX7_init_180 : decode cX7_init 180 = .ok (.getfield 51, 3) := by decide +kernel
theorem dX7_init_183 : decode cX7_init 183 = .ok (.iload_n 1, 1) := by decide +kernel
theorem dX7_init_184 : decode cX7_init 184 = .ok (.iconst (-1), 1) := by decide +kernel
theorem dX7_init_185 : decode cX7_init 185 = .ok (.iastore, 1) := by decide +kernel
theorem dX7_init_186 : decode cX7_init 186 = .ok (.iinc 1 1, 3) := by decide +kernel
theorem dX7_init_189 : decode cX7_init 189 = .ok (.goto (-15), 3) := by decide +kernel
theorem dX7_init_192 : decode cX7_init 192 = .ok (.aload_n 0, 1) := by decide +kernel
theorem dX7_init_193 : decode cX7_init 193 = .ok (.invokevirtual 76, 3) := by decide +kernel
theorem dX7_init_196 : decode cX7_init 196 = .ok (.return_, 1) := by decide +kernel
theorem dX7_in_0 : decode cX7_in 0 = .ok (.iload_n 0, 1) := by decide +kernel
theorem dX7_in_1 : decode cX7_in 1 = .ok (.iload_n 1, 1) := by decide +kernel
theorem dX7_in_2 : decode cX7_in 2 = .ok (.if_icmp .lt 12, 3) := by decide +kernel
theorem dX7_in_5 : decode cX7_in 5 = .ok (.iload_n 0, 1) := by decide +kernel
theorem dX7_in_6 : decode cX7_in 6 = .ok (.iload_n 2, 1) := by decide +kernel
theorem dX7_in_7 : decode cX7_in 7 = .ok (.if_icmp .gt 7, 3) := by decide +kernel
theorem dX7_in_10 : decode cX7_in 10 = .ok (.iconst 1, 1) := by decide +kernel
theorem dX7_in_11 : decode cX7_in 11 = .ok (.goto 4, 3) := by decide +kernel
theorem dX7_in_14 : decode cX7_in 14 = .ok (.iconst 0, 1) := by decide +kernel
theorem dX7_in_15 : decode cX7_in 15 = .ok (.ireturn, 1) := by decide +kernel
theorem dX7_no_0 : decode cX7_no 0 = .ok (.ldc2_w 79, 3) := by decide +kernel
theorem dX7_no_3 : decode cX7_no 3 = .ok (.iload_n 0, 1) := by decide +kernel
theorem dX7_no_4 : decode cX7_no 4 = .ok (.i2l, 1) := by decide +kernel
theorem dX7_no_5 : decode cX7_no 5 = .ok (.lsub, 1) := by decide +kernel
theorem dX7_no_6 : decode cX7_no 6 = .ok (.lreturn, 1) := by decide +kernel
theorem dX7_partOf_0 : decode cX7_partOf 0 = .ok (.lload_n 0, 1) := by decide +kernel
theorem dX7_partOf_1 : decode cX7_partOf 1 = .ok (.lconst 0, 1) := by decide +kernel
theorem dX7_partOf_2 : decode cX7_partOf 2 = .ok (.lcmp, 1) := by decide +kernel
theorem dX7_partOf_3 : decode cX7_partOf 3 = .ok (.ifCond .ge 8, 3) := by decide +kernel
theorem dX7_partOf_6 : decode cX7_partOf 6 = .ok (.lload_n 0, 1) := by decide +kernel
theorem dX7_partOf_7 : decode cX7_partOf 7 = .ok (.lneg, 1) := by decide +kernel
theorem dX7_partOf_8 : decode cX7_partOf 8 = .ok (.goto 4, 3) := by decide +kernel
theorem dX7_partOf_11 : decode cX7_partOf 11 = .ok (.lload_n 0, 1) := by decide +kernel
theorem dX7_partOf_12 : decode cX7_partOf 12 = .ok (.lstore 5, 2) := by decide +kernel
theorem dX7_partOf_14 : decode cX7_partOf 14 = .ok (.lload_n 2, 1) := by decide +kernel
theorem dX7_partOf_15 : decode cX7_partOf 15 = .ok (.lstore 7, 2) := by decide +kernel
theorem dX7_partOf_17 : decode cX7_partOf 17 = .ok (.lload 7, 2) := by decide +kernel
theorem dX7_partOf_19 : decode cX7_partOf 19 = .ok (.lconst 0, 1) := by decide +kernel
theorem dX7_partOf_20 : decode cX7_partOf 20 = .ok (.lcmp, 1) := by decide +kernel
theorem dX7_partOf_21 : decode cX7_partOf 21 = .ok (.ifCond .eq 21, 3) := by decide +kernel
theorem dX7_partOf_24 : decode cX7_partOf 24 = .ok (.lload 5, 2) := by decide +kernel
theorem dX7_partOf_26 : decode cX7_partOf 26 = .ok (.lload 7, 2) := by decide +kernel
theorem dX7_partOf_28 : decode cX7_partOf 28 = .ok (.lrem, 1) := by decide +kernel
theorem dX7_partOf_29 : decode cX7_partOf 29 = .ok (.lstore 9, 2) := by decide +kernel
theorem dX7_partOf_31 : decode cX7_partOf 31 = .ok (.lload 7, 2) := by decide +kernel
theorem dX7_partOf_33 : decode cX7_partOf 33 = .ok (.lstore 5, 2) := by decide +kernel
theorem dX7_partOf_35 : decode cX7_partOf 35 = .ok (.lload 9, 2) := by decide +kernel
theorem dX7_partOf_37 : decode cX7_partOf 37 = .ok (.lstore 7, 2) := by decide +kernel
theorem dX7_partOf_39 : decode cX7_partOf 39 = .ok (.goto (-22), 3) := by decide +kernel
theorem dX7_partOf_42 : decode cX7_partOf 42 = .ok (.iload 4, 2) := by decide +kernel
theorem dX7_partOf_44 : decode cX7_partOf 44 = .ok (.ifCond .ne 10, 3) := by decide +kernel
theorem dX7_partOf_47 : decode cX7_partOf 47 = .ok (.lload_n 0, 1) := by decide +kernel
theorem dX7_partOf_48 : decode cX7_partOf 48 = .ok (.lload 5, 2) := by decide +kernel
theorem dX7_partOf_50 : decode cX7_partOf 50 = .ok (.ldiv, 1) := by decide +kernel
theorem dX7_partOf_51 : decode cX7_partOf 51 = .ok (.goto 7, 3) := by decide +kernel
theorem dX7_partOf_54 : decode cX7_partOf 54 = .ok (.lload_n 2, 1) := by decide +kernel
theorem dX7_partOf_55 : decode cX7_partOf 55 = .ok (.lload 5, 2) := by decide +kernel
theorem dX7_partOf_57 : decode cX7_partOf 57 = .ok (.ldiv, 1) := by decide +kernel
theorem dX7_partOf_58 : decode cX7_partOf 58 = .ok (.lreturn, 1) := by decide +kernel
theorem dX7_placeFor_0 : decode cX7_placeFor 0 = .ok (.iconst 0, 1) := by decide +kernel
theorem dX7_placeFor_1 : decode cX7_placeFor 1 = .ok (.istore_n 2, 1) := by decide +kernel
theorem dX7_placeFor_2 : decode cX7_placeFor 2 = .ok (.iload_n 2, 1) := by decide +kernel
theorem dX7_placeFor_3 : decode cX7_placeFor 3 = .ok (.aload_n 0, 1) := by decide +kernel
theorem dX7_placeFor_4 : decode cX7_placeFor 4 = .ok (.getfield 81, 3) := by decide +kernel
theorem dX7_placeFor_7 : decode cX7_placeFor 7 = .ok (.if_icmp .ge 19, 3) := by decide +kernel
theorem dX7_placeFor_10 : decode cX7_placeFor 10 = .ok (.aload_n 0, 1) := by decide +kernel
theorem dX7_placeFor_11 : decode cX7_placeFor 11 = .ok (.getfield 7, 3) := by decide +kernel
theorem dX7_placeFor_14 : decode cX7_placeFor 14 = .ok (.iload_n 2, 1) := by decide +kernel
theorem dX7_placeFor_15 : decode cX7_placeFor 15 = .ok (.iaload, 1) := by decide +kernel
theorem dX7_placeFor_16 : decode cX7_placeFor 16 = .ok (.iload_n 1, 1) := by decide +kernel
theorem dX7_placeFor_17 : decode cX7_placeFor 17 = .ok (.if_icmp .ge 9, 3) := by decide +kernel
theorem dX7_placeFor_20 : decode cX7_placeFor 20 = .ok (.iinc 2 1, 3) := by decide +kernel
theorem dX7_placeFor_23 : decode cX7_placeFor 23 = .ok (.goto (-21), 3) := by decide +kernel
theorem dX7_placeFor_26 : decode cX7_placeFor 26 = .ok (.iload_n 2, 1) := by decide +kernel
theorem dX7_placeFor_27 : decode cX7_placeFor 27 = .ok (.ireturn, 1) := by decide +kernel
theorem dX7_adds_0 : decode cX7_adds 0 = .ok (.iload_n 1, 1) := by decide +kernel
theorem dX7_adds_1 : decode cX7_adds 1 = .ok (.iconst 0, 1) := by decide +kernel
theorem dX7_adds_2 : decode cX7_adds 2 = .ok (.sipush 5999, 3) := by decide +kernel
theorem dX7_adds_5 : decode cX7_adds 5 = .ok (.invokestatic 85, 3) := by decide +kernel
theorem dX7_adds_8 : decode cX7_adds 8 = .ok (.ifCond .ne 6, 3) := by decide +kernel
theorem dX7_adds_11 : decode cX7_adds 11 = .ok (.bipush (-2), 2) := by decide +kernel
theorem dX7_adds_13 : decode cX7_adds 13 = .ok (.ireturn, 1) := by decide +kernel
theorem dX7_adds_14 : decode cX7_adds 14 = .ok (.aload_n 0, 1) := by decide +kernel
theorem dX7_adds_15 : decode cX7_adds 15 = .ok (.iload_n 1, 1) := by decide +kernel
theorem dX7_adds_16 : decode cX7_adds 16 = .ok (.invokevirtual 89, 3) := by decide +kernel
theorem dX7_adds_19 : decode cX7_adds 19 = .ok (.istore_n 2, 1) := by decide +kernel
theorem dX7_adds_20 : decode cX7_adds 20 = .ok (.iload_n 2, 1) := by decide +kernel
theorem dX7_adds_21 : decode cX7_adds 21 = .ok (.aload_n 0, 1) := by decide +kernel
theorem dX7_adds_22 : decode cX7_adds 22 = .ok (.getfield 81, 3) := by decide +kernel
theorem dX7_adds_25 : decode cX7_adds 25 = .ok (.if_icmp .ge 16, 3) := by decide +kernel
theorem dX7_adds_28 : decode cX7_adds 28 = .ok (.aload_n 0, 1) := by decide +kernel
theorem dX7_adds_29 : decode cX7_adds 29 = .ok (.getfield 7, 3) := by decide +kernel
theorem dX7_adds_32 : decode cX7_adds 32 = .ok (.iload_n 2, 1) := by decide +kernel
theorem dX7_adds_33 : decode cX7_adds 33 = .ok (.iaload, 1) := by decide +kernel
theorem dX7_adds_34 : decode cX7_adds 34 = .ok (.iload_n 1, 1) := by decide +kernel
theorem dX7_adds_35 : decode cX7_adds 35 = .ok (.if_icmp .ne 6, 3) := by decide +kernel
theorem dX7_adds_38 : decode cX7_adds 38 = .ok (.bipush (-3), 2) := by decide +kernel
theorem dX7_adds_40 : decode cX7_adds 40 = .ok (.ireturn, 1) := by decide +kernel
theorem dX7_adds_41 : decode cX7_adds 41 = .ok (.aload_n 0, 1) := by decide +kernel
theorem dX7_adds_42 : decode cX7_adds 42 = .ok (.getfield 81, 3) := by decide +kernel
theorem dX7_adds_45 : decode cX7_adds 45 = .ok (.bipush 32, 2) := by decide +kernel
theorem dX7_adds_47 : decode cX7_adds 47 = .ok (.if_icmp .ne 6, 3) := by decide +kernel
theorem dX7_adds_50 : decode cX7_adds 50 = .ok (.bipush (-4), 2) := by decide +kernel
theorem dX7_adds_52 : decode cX7_adds 52 = .ok (.ireturn, 1) := by decide +kernel
theorem dX7_adds_53 : decode cX7_adds 53 = .ok (.aload_n 0, 1) := by decide +kernel
theorem dX7_adds_54 : decode cX7_adds 54 = .ok (.getfield 81, 3) := by decide +kernel
theorem dX7_adds_57 : decode cX7_adds 57 = .ok (.istore_n 3, 1) := by decide +kernel
theorem dX7_adds_58 : decode cX7_adds 58 = .ok (.iload_n 3, 1) := by decide +kernel
theorem dX7_adds_59 : decode cX7_adds 59 = .ok (.iload_n 2, 1) := by decide +kernel
theorem dX7_adds_60 : decode cX7_adds 60 = .ok (.if_icmp .le 23, 3) := by decide +kernel
theorem dX7_adds_63 : decode cX7_adds 63 = .ok (.aload_n 0, 1) := by decide +kernel
theorem dX7_adds_64 : decode cX7_adds 64 = .ok (.getfield 7, 3) := by decide +kernel
theorem dX7_adds_67 : decode cX7_adds 67 = .ok (.iload_n 3, 1) := by decide +kernel
theorem dX7_adds_68 : decode cX7_adds 68 = .ok (.aload_n 0, 1) := by decide +kernel
theorem dX7_adds_69 : decode cX7_adds 69 = .ok (.getfield 7, 3) := by decide +kernel
theorem dX7_adds_72 : decode cX7_adds 72 = .ok (.iload_n 3, 1) := by decide +kernel
theorem dX7_adds_73 : decode cX7_adds 73 = .ok (.iconst 1, 1) := by decide +kernel
theorem dX7_adds_74 : decode cX7_adds 74 = .ok (.isub, 1) := by decide +kernel
theorem dX7_adds_75 : decode cX7_adds 75 = .ok (.iaload, 1) := by decide +kernel
theorem dX7_adds_76 : decode cX7_adds 76 = .ok (.iastore, 1) := by decide +kernel
theorem dX7_adds_77 : decode cX7_adds 77 = .ok (.iinc 3 (-1), 3) := by decide +kernel
theorem dX7_adds_80 : decode cX7_adds 80 = .ok (.goto (-22), 3) := by decide +kernel
theorem dX7_adds_83 : decode cX7_adds 83 = .ok (.aload_n 0, 1) := by decide +kernel
theorem dX7_adds_84 : decode cX7_adds 84 = .ok (.getfield 7, 3) := by decide +kernel
theorem dX7_adds_87 : decode cX7_adds 87 = .ok (.iload_n 2, 1) := by decide +kernel
theorem dX7_adds_88 : decode cX7_adds 88 = .ok (.iload_n 1, 1) := by decide +kernel
theorem dX7_adds_89 : decode cX7_adds 89 = .ok (.iastore, 1) := by decide +kernel
theorem dX7_adds_90 : decode cX7_adds 90 = .ok (.aload_n 0, 1) := by decide +kernel
theorem dX7_adds_91 : decode cX7_adds 91 = .ok (.dup, 1) := by decide +kernel
theorem dX7_adds_92 : decode cX7_adds 92 = .ok (.getfield 81, 3) := by decide +kernel
theorem dX7_adds_95 : decode cX7_adds 95 = .ok (.iconst 1, 1) := by decide +kernel
theorem dX7_adds_96 : decode cX7_adds 96 = .ok (.iadd, 1) := by decide +kernel
theorem dX7_adds_97 : decode cX7_adds 97 = .ok (.putfield 81, 3) := by decide +kernel
theorem dX7_adds_100 : decode cX7_adds 100 = .ok (.iload_n 2, 1) := by decide +kernel
theorem dX7_adds_101 : decode cX7_adds 101 = .ok (.ireturn, 1) := by decide +kernel
theorem dX7_edge_0 : decode cX7_edge 0 = .ok (.aload_n 0, 1) := by decide +kernel
theorem dX7_edge_1 : decode cX7_edge 1 = .ok (.iload_n 1, 1) := by decide +kernel
theorem dX7_edge_2 : decode cX7_edge 2 = .ok (.invokevirtual 93, 3) := by decide +kernel
theorem dX7_edge_5 : decode cX7_edge 5 = .ok (.ireturn, 1) := by decide +kernel
theorem dX7_edges_0 : decode cX7_edges 0 = .ok (.iload_n 1, 1) := by decide +kernel
theorem dX7_edges_1 : decode cX7_edges 1 = .ok (.iconst 0, 1) := by decide +kernel
theorem dX7_edges_2 : decode cX7_edges 2 = .ok (.sipush 5999, 3) := by decide +kernel
theorem dX7_edges_5 : decode cX7_edges 5 = .ok (.invokestatic 85, 3) := by decide +kernel
theorem dX7_edges_8 : decode cX7_edges 8 = .ok (.ifCond .eq 24, 3) := by decide +kernel
theorem dX7_edges_11 : decode cX7_edges 11 = .ok (.iload_n 2, 1) := by decide +kernel
theorem dX7_edges_12 : decode cX7_edges 12 = .ok (.iconst 1, 1) := by decide +kernel
theorem dX7_edges_13 : decode cX7_edges 13 = .ok (.sipush 600, 3) := by decide +kernel
theorem dX7_edges_16 : decode cX7_edges 16 = .ok (.invokestatic 85, 3) := by decide +kernel
theorem dX7_edges_19 : decode cX7_edges 19 = .ok (.ifCond .eq 13, 3) := by decide +kernel
theorem dX7_edges_22 : decode cX7_edges 22 = .ok (.iload_n 3, 1) := by decide +kernel
theorem dX7_edges_23 : decode cX7_edges 23 = .ok (.iconst 1, 1) := by decide +kernel
theorem dX7_edges_24 : decode cX7_edges 24 = .ok (.bipush 32, 2) := by decide +kernel
theorem dX7_edges_26 : decode cX7_edges 26 = .ok (.invokestatic 85, 3) := by decide +kernel
theorem dX7_edges_29 : decode cX7_edges 29 = .ok (.ifCond .ne 6, 3) := by decide +kernel
theorem dX7_edges_32 : decode cX7_edges 32 = .ok (.bipush (-2), 2) := by decide +kernel
theorem dX7_edges_34 : decode cX7_edges 34 = .ok (.ireturn, 1) := by decide +kernel
theorem dX7_edges_35 : decode cX7_edges 35 = .ok (.iconst 0, 1) := by decide +kernel
theorem dX7_edges_36 : decode cX7_edges 36 = .ok (.istore 4, 2) := by decide +kernel
theorem dX7_edges_38 : decode cX7_edges 38 = .ok (.iload 4, 2) := by decide +kernel
theorem dX7_edges_40 : decode cX7_edges 40 = .ok (.iload_n 3, 1) := by decide +kernel
theorem dX7_edges_41 : decode cX7_edges 41 = .ok (.if_icmp .ge 22, 3) := by decide +kernel
theorem dX7_edges_44 : decode cX7_edges 44 = .ok (.aload_n 0, 1) := by decide +kernel
theorem dX7_edges_45 : decode cX7_edges 45 = .ok (.iload_n 1, 1) := by decide +kernel
theorem dX7_edges_46 : decode cX7_edges 46 = .ok (.iload_n 2, 1) := by decide +kernel
theorem dX7_edges_47 : decode cX7_edges 47 = .ok (.iload 4, 2) := by decide +kernel
theorem dX7_edges_49 : decode cX7_edges 49 = .ok (.imul, 1) := by decide +kernel
theorem dX7_edges_50 : decode cX7_edges 50 = .ok (.iadd, 1) := by decide +kernel
theorem dX7_edges_51 : decode cX7_edges 51 = .ok (.invokevirtual 93, 3) := by decide +kernel
theorem dX7_edges_54 : decode cX7_edges 54 = .ok (.ifCond .lt 9, 3) := by decide +kernel
theorem dX7_edges_57 : decode cX7_edges 57 = .ok (.iinc 4 1, 3) := by decide +kernel
theorem dX7_edges_60 : decode cX7_edges 60 = .ok (.goto (-22), 3) := by decide +kernel
theorem dX7_edges_63 : decode cX7_edges 63 = .ok (.iload 4, 2) := by decide +kernel
theorem dX7_edges_65 : decode cX7_edges 65 = .ok (.ireturn, 1) := by decide +kernel
theorem dX7_isEdge_0 : decode cX7_isEdge 0 = .ok (.iload_n 1, 1) := by decide +kernel
theorem dX7_isEdge_1 : decode cX7_isEdge 1 = .ok (.iconst 0, 1) := by decide +kernel
theorem dX7_isEdge_2 : decode cX7_isEdge 2 = .ok (.aload_n 0, 1) := by decide +kernel
theorem dX7_isEdge_3 : decode cX7_isEdge 3 = .ok (.getfield 81, 3) := by decide +kernel
theorem dX7_isEdge_6 : decode cX7_isEdge 6 = .ok (.iconst 1, 1) := by decide +kernel
theorem dX7_isEdge_7 : decode cX7_isEdge 7 = .ok (.isub, 1) := by decide +kernel
theorem dX7_isEdge_8 : decode cX7_isEdge 8 = .ok (.invokestatic 85, 3) := by decide +kernel
theorem dX7_isEdge_11 : decode cX7_isEdge 11 = .ok (.ireturn, 1) := by decide +kernel
theorem dX7_gone_0 : decode cX7_gone 0 = .ok (.aload_n 0, 1) := by decide +kernel
theorem dX7_gone_1 : decode cX7_gone 1 = .ok (.iload_n 1, 1) := by decide +kernel
theorem dX7_gone_2 : decode cX7_gone 2 = .ok (.invokevirtual 96, 3) := by decide +kernel
theorem dX7_gone_5 : decode cX7_gone 5 = .ok (.ifCond .ne 6, 3) := by decide +kernel
theorem dX7_gone_8 : decode cX7_gone 8 = .ok (.bipush (-2), 2) := by decide +kernel
theorem dX7_gone_10 : decode cX7_gone 10 = .ok (.ireturn, 1) := by decide +kernel
theorem dX7_gone_11 : decode cX7_gone 11 = .ok (.aload_n 0, 1) := by decide +kernel
theorem dX7_gone_12 : decode cX7_gone 12 = .ok (.getfield 7, 3) := by decide +kernel
theorem dX7_gone_15 : decode cX7_gone 15 = .ok (.iload_n 1, 1) := by decide +kernel
theorem dX7_gone_16 : decode cX7_gone 16 = .ok (.iaload, 1) := by decide +kernel
theorem dX7_gone_17 : decode cX7_gone 17 = .ok (.istore_n 2, 1) := by decide +kernel
theorem dX7_gone_18 : decode cX7_gone 18 = .ok (.aload_n 0, 1) := by decide +kernel
theorem dX7_gone_19 : decode cX7_gone 19 = .ok (.dup, 1) := by decide +kernel
theorem dX7_gone_20 : decode cX7_gone 20 = .ok (.getfield 81, 3) := by decide +kernel
theorem dX7_gone_23 : decode cX7_gone 23 = .ok (.iconst 1, 1) := by decide +kernel
theorem dX7_gone_24 : decode cX7_gone 24 = .ok (.isub, 1) := by decide +kernel
theorem dX7_gone_25 : decode cX7_gone 25 = .ok (.putfield 81, 3) := by decide +kernel
theorem dX7_gone_28 : decode cX7_gone 28 = .ok (.iload_n 1, 1) := by decide +kernel
theorem dX7_gone_29 : decode cX7_gone 29 = .ok (.istore_n 3, 1) := by decide +kernel
theorem dX7_gone_30 : decode cX7_gone 30 = .ok (.iload_n 3, 1) := by decide +kernel
theorem dX7_gone_31 : decode cX7_gone 31 = .ok (.aload_n 0, 1) := by decide +kernel
theorem dX7_gone_32 : decode cX7_gone 32 = .ok (.getfield 81, 3) := by decide +kernel
theorem dX7_gone_35 : decode cX7_gone 35 = .ok (.if_icmp .ge 23, 3) := by decide +kernel
theorem dX7_gone_38 : decode cX7_gone 38 = .ok (.aload_n 0, 1) := by decide +kernel
theorem dX7_gone_39 : decode cX7_gone 39 = .ok (.getfield 7, 3) := by decide +kernel
theorem dX7_gone_42 : decode cX7_gone 42 = .ok (.iload_n 3, 1) := by decide +kernel
theorem dX7_gone_43 : decode cX7_gone 43 = .ok (.aload_n 0, 1) := by decide +kernel
theorem dX7_gone_44 : decode cX7_gone 44 = .ok (.getfield 7, 3) := by decide +kernel
theorem dX7_gone_47 : decode cX7_gone 47 = .ok (.iload_n 3, 1) := by decide +kernel
theorem dX7_gone_48 : decode cX7_gone 48 = .ok (.iconst 1, 1) := by decide +kernel
theorem dX7_gone_49 : decode cX7_gone 49 = .ok (.iadd, 1) := by decide +kernel
theorem dX7_gone_50 : decode cX7_gone 50 = .ok (.iaload, 1) := by decide +kernel
theorem dX7_gone_51 : decode cX7_gone 51 = .ok (.iastore, 1) := by decide +kernel
theorem dX7_gone_52 : decode cX7_gone 52 = .ok (.iinc 3 1, 3) := by decide +kernel
theorem dX7_gone_55 : decode cX7_gone 55 = .ok (.goto (-25), 3) := by decide +kernel
theorem dX7_gone_58 : decode cX7_gone 58 = .ok (.iload_n 2, 1) := by decide +kernel
theorem dX7_gone_59 : decode cX7_gone 59 = .ok (.ireturn, 1) := by decide +kernel
theorem dX7_clear_0 : decode cX7_clear 0 = .ok (.aload_n 0, 1) := by decide +kernel
theorem dX7_clear_1 : decode cX7_clear 1 = .ok (.getfield 81, 3) := by decide +kernel
theorem dX7_clear_4 : decode cX7_clear 4 = .ok (.istore_n 1, 1) := by decide +kernel
theorem dX7_clear_5 : decode cX7_clear 5 = .ok (.aload_n 0, 1) := by decide +kernel
theorem dX7_clear_6 : decode cX7_clear 6 = .ok (.iconst 0, 1) := by decide +kernel
theorem dX7_clear_7 : decode cX7_clear 7 = .ok (.putfield 81, 3) := by decide +kernel
theorem dX7_clear_10 : decode cX7_clear 10 = .ok (.iload_n 1, 1) := by decide +kernel
theorem dX7_clear_11 : decode cX7_clear 11 = .ok (.ireturn, 1) := by decide +kernel
theorem dX7_learns_0 : decode cX7_learns 0 = .ok (.iconst 0, 1) := by decide +kernel
theorem dX7_learns_1 : decode cX7_learns 1 = .ok (.istore_n 1, 1) := by decide +kernel
theorem dX7_learns_2 : decode cX7_learns 2 = .ok (.iconst 0, 1) := by decide +kernel
theorem dX7_learns_3 : decode cX7_learns 3 = .ok (.istore_n 2, 1) := by decide +kernel
theorem dX7_learns_4 : decode cX7_learns 4 = .ok (.iload_n 2, 1) := by decide +kernel
theorem dX7_learns_5 : decode cX7_learns 5 = .ok (.bipush 60, 2) := by decide +kernel
theorem dX7_learns_7 : decode cX7_learns 7 = .ok (.if_icmp .ge 62, 3) := by decide +kernel
theorem dX7_learns_10 : decode cX7_learns 10 = .ok (.iload_n 1, 1) := by decide +kernel
theorem dX7_learns_11 : decode cX7_learns 11 = .ok (.aload_n 0, 1) := by decide +kernel
theorem dX7_learns_12 : decode cX7_learns 12 = .ok (.getfield 13, 3) := by decide +kernel
theorem dX7_learns_15 : decode cX7_learns 15 = .ok (.iload_n 2, 1) := by decide +kernel
theorem dX7_learns_16 : decode cX7_learns 16 = .ok (.baload, 1) := by decide +kernel
theorem dX7_learns_17 : decode cX7_learns 17 = .ok (.ifCond .eq 7, 3) := by decide +kernel
theorem dX7_learns_20 : decode cX7_learns 20 = .ok (.iconst 1, 1) := by decide +kernel
theorem dX7_learns_21 : decode cX7_learns 21 = .ok (.goto 4, 3) := by decide +kernel
theorem dX7_learns_24 : decode cX7_learns 24 = .ok (.iconst 0, 1) := by decide +kernel
theorem dX7_learns_25 : decode cX7_learns 25 = .ok (.iadd, 1) := by decide +kernel
theorem dX7_learns_26 : decode cX7_learns 26 = .ok (.istore_n 1, 1) := by decide +kernel
theorem dX7_learns_27 : decode cX7_learns 27 = .ok (.aload_n 0, 1) := by decide +kernel
theorem dX7_learns_28 : decode cX7_learns 28 = .ok (.getfield 20, 3) := by decide +kernel
theorem dX7_learns_31 : decode cX7_learns 31 = .ok (.iload_n 2, 1) := by decide +kernel
theorem dX7_learns_32 : decode cX7_learns 32 = .ok (.iload_n 1, 1) := by decide +kernel
theorem dX7_learns_33 : decode cX7_learns 33 = .ok (.iastore, 1) := by decide +kernel
theorem dX7_learns_34 : decode cX7_learns 34 = .ok (.aload_n 0, 1) := by decide +kernel
theorem dX7_learns_35 : decode cX7_learns 35 = .ok (.getfield 23, 3) := by decide +kernel
theorem dX7_learns_38 : decode cX7_learns 38 = .ok (.iload_n 1, 1) := by decide +kernel
theorem dX7_learns_39 : decode cX7_learns 39 = .ok (.iload_n 2, 1) := by decide +kernel
theorem dX7_learns_40 : decode cX7_learns 40 = .ok (.ifCond .eq 12, 3) := by decide +kernel
theorem dX7_learns_43 : decode cX7_learns 43 = .ok (.aload_n 0, 1) := by decide +kernel
theorem dX7_learns_44 : decode cX7_learns 44 = .ok (.getfield 13, 3) := by decide +kernel
theorem dX7_learns_47 : decode cX7_learns 47 = .ok (.iload_n 2, 1) := by decide +kernel
theorem dX7_learns_48 : decode cX7_learns 48 = .ok (.baload, 1) := by decide +kernel
theorem dX7_learns_49 : decode cX7_learns 49 = .ok (.ifCond .eq 7, 3) := by decide +kernel
theorem dX7_learns_52 : decode cX7_learns 52 = .ok (.iload_n 2, 1) := by decide +kernel
theorem dX7_learns_53 : decode cX7_learns 53 = .ok (.goto 9, 3) := by decide +kernel
theorem dX7_learns_56 : decode cX7_learns 56 = .ok (.aload_n 0, 1) := by decide +kernel
theorem dX7_learns_57 : decode cX7_learns 57 = .ok (.getfield 23, 3) := by decide +kernel
theorem dX7_learns_60 : decode cX7_learns 60 = .ok (.iload_n 1, 1) := by decide +kernel
theorem dX7_learns_61 : decode cX7_learns 61 = .ok (.iaload, 1) := by decide +kernel
theorem dX7_learns_62 : decode cX7_learns 62 = .ok (.iastore, 1) := by decide +kernel
theorem dX7_learns_63 : decode cX7_learns 63 = .ok (.iinc 2 1, 3) := by decide +kernel
theorem dX7_learns_66 : decode cX7_learns 66 = .ok (.goto (-62), 3) := by decide +kernel
theorem dX7_learns_69 : decode cX7_learns 69 = .ok (.aload_n 0, 1) := by decide +kernel
theorem dX7_learns_70 : decode cX7_learns 70 = .ok (.getfield 23, 3) := by decide +kernel
theorem dX7_learns_73 : decode cX7_learns 73 = .ok (.iload_n 1, 1) := by decide +kernel
theorem dX7_learns_74 : decode cX7_learns 74 = .ok (.iconst 1, 1) := by decide +kernel
theorem dX7_learns_75 : decode cX7_learns 75 = .ok (.iadd, 1) := by decide +kernel
theorem dX7_learns_76 : decode cX7_learns 76 = .ok (.bipush 60, 2) := by decide +kernel
theorem dX7_learns_78 : decode cX7_learns 78 = .ok (.iastore, 1) := by decide +kernel
theorem dX7_learns_79 : decode cX7_learns 79 = .ok (.return_, 1) := by decide +kernel
theorem dX7_codeOf_0 : decode cX7_codeOf 0 = .ok (.aload_n 0, 1) := by decide +kernel
theorem dX7_codeOf_1 : decode cX7_codeOf 1 = .ok (.getfield 20, 3) := by decide +kernel
theorem dX7_codeOf_4 : decode cX7_codeOf 4 = .ok (.iload_n 1, 1) := by decide +kernel
theorem dX7_codeOf_5 : decode cX7_codeOf 5 = .ok (.iaload, 1) := by decide +kernel
theorem dX7_codeOf_6 : decode cX7_codeOf 6 = .ok (.ireturn, 1) := by decide +kernel
theorem dX7_bins_0 : decode cX7_bins 0 = .ok (.aload_n 0, 1) := by decide +kernel
theorem dX7_bins_1 : decode cX7_bins 1 = .ok (.getfield 20, 3) := by decide +kernel
theorem dX7_bins_4 : decode cX7_bins 4 = .ok (.bipush 59, 2) := by decide +kernel
theorem dX7_bins_6 : decode cX7_bins 6 = .ok (.iaload, 1) := by decide +kernel
theorem dX7_bins_7 : decode cX7_bins 7 = .ok (.iconst 1, 1) := by decide +kernel
theorem dX7_bins_8 : decode cX7_bins 8 = .ok (.iadd, 1) := by decide +kernel
theorem dX7_bins_9 : decode cX7_bins 9 = .ok (.ireturn, 1) := by decide +kernel
theorem dX7_firstOf_0 : decode cX7_firstOf 0 = .ok (.aload_n 0, 1) := by decide +kernel
theorem dX7_firstOf_1 : decode cX7_firstOf 1 = .ok (.getfield 23, 3) := by decide +kernel
theorem dX7_firstOf_4 : decode cX7_firstOf 4 = .ok (.iload_n 1, 1) := by decide +kernel
theorem dX7_firstOf_5 : decode cX7_firstOf 5 = .ok (.iaload, 1) := by decide +kernel
theorem dX7_firstOf_6 : decode cX7_firstOf 6 = .ok (.ireturn, 1) := by decide +kernel
theorem dX7_widthOf_0 : decode cX7_widthOf 0 = .ok (.aload_n 0, 1) := by decide +kernel
theorem dX7_widthOf_1 : decode cX7_widthOf 1 = .ok (.iload_n 1, 1) := by decide +kernel
theorem dX7_widthOf_2 : decode cX7_widthOf 2 = .ok (.iconst 1, 1) := by decide +kernel
theorem dX7_widthOf_3 : decode cX7_widthOf 3 = .ok (.iadd, 1) := by decide +kernel
theorem dX7_widthOf_4 : decode cX7_widthOf 4 = .ok (.invokevirtual 100, 3) := by decide +kernel
theorem dX7_widthOf_7 : decode cX7_widthOf 7 = .ok (.aload_n 0, 1) := by decide +kernel
theorem dX7_widthOf_8 : decode cX7_widthOf 8 = .ok (.iload_n 1, 1) := by decide +kernel
theorem dX7_widthOf_9 : decode cX7_widthOf 9 = .ok (.invokevirtual 100, 3) := by decide +kernel
theorem dX7_widthOf_12 : decode cX7_widthOf 12 = .ok (.isub, 1) := by decide +kernel
theorem dX7_widthOf_13 : decode cX7_widthOf 13 = .ok (.ireturn, 1) := by decide +kernel
theorem dX7_allHits_0 : decode cX7_allHits 0 = .ok (.iconst 0, 1) := by decide +kernel
theorem dX7_allHits_1 : decode cX7_allHits 1 = .ok (.istore_n 1, 1) := by decide +kernel
theorem dX7_allHits_2 : decode cX7_allHits 2 = .ok (.iconst 0, 1) := by decide +kernel
theorem dX7_allHits_3 : decode cX7_allHits 3 = .ok (.istore_n 2, 1) := by decide +kernel
theorem dX7_allHits_4 : decode cX7_allHits 4 = .ok (.iload_n 2, 1) := by decide +kernel
theorem dX7_allHits_5 : decode cX7_allHits 5 = .ok (.bipush 12, 2) := by decide +kernel
theorem dX7_allHits_7 : decode cX7_allHits 7 = .ok (.if_icmp .ge 18, 3) := by decide +kernel
theorem dX7_allHits_10 : decode cX7_allHits 10 = .ok (.iload_n 1, 1) := by decide +kernel
theorem dX7_allHits_11 : decode cX7_allHits 11 = .ok (.aload_n 0, 1) := by decide +kernel
theorem dX7_allHits_12 : decode cX7_allHits 12 = .ok (.getfield 17, 3) := by decide +kernel
theorem dX7_allHits_15 : decode cX7_allHits 15 = .ok (.iload_n 2, 1) := by decide +kernel
theorem dX7_allHits_16 : decode cX7_allHits 16 = .ok (.iaload, 1) := by decide +kernel
theorem dX7_allHits_17 : decode cX7_allHits 17 = .ok (.iadd, 1) := by decide +kernel
theorem dX7_allHits_18 : decode cX7_allHits 18 = .ok (.istore_n 1, 1) := by decide +kernel
theorem dX7_allHits_19 : decode cX7_allHits 19 = .ok (.iinc 2 1, 3) := by decide +kernel
theorem dX7_allHits_22 : decode cX7_allHits 22 = .ok (.goto (-18), 3) := by decide +kernel
theorem dX7_allHits_25 : decode cX7_allHits 25 = .ok (.iload_n 1, 1) := by decide +kernel
theorem dX7_allHits_26 : decode cX7_allHits 26 = .ok (.ireturn, 1) := by decide +kernel
theorem dX7_forgets_0 : decode cX7_forgets 0 = .ok (.aload_n 0, 1) := by decide +kernel
theorem dX7_forgets_1 : decode cX7_forgets 1 = .ok (.invokevirtual 103, 3) := by decide +kernel
theorem dX7_forgets_4 : decode cX7_forgets 4 = .ok (.istore_n 1, 1) := by decide +kernel
theorem dX7_forgets_5 : decode cX7_forgets 5 = .ok (.iconst 0, 1) := by decide +kernel
theorem dX7_forgets_6 : decode cX7_forgets 6 = .ok (.istore_n 2, 1) := by decide +kernel
theorem dX7_forgets_7 : decode cX7_forgets 7 = .ok (.iload_n 2, 1) := by decide +kernel
theorem dX7_forgets_8 : decode cX7_forgets 8 = .ok (.bipush 12, 2) := by decide +kernel
theorem dX7_forgets_10 : decode cX7_forgets 10 = .ok (.if_icmp .ge 16, 3) := by decide +kernel
theorem dX7_forgets_13 : decode cX7_forgets 13 = .ok (.aload_n 0, 1) := by decide +kernel
theorem dX7_forgets_14 : decode cX7_forgets 14 = .ok (.getfield 17, 3) := by decide +kernel
theorem dX7_forgets_17 : decode cX7_forgets 17 = .ok (.iload_n 2, 1) := by decide +kernel
theorem dX7_forgets_18 : decode cX7_forgets 18 = .ok (.iconst 0, 1) := by decide +kernel
theorem dX7_forgets_19 : decode cX7_forgets 19 = .ok (.iastore, 1) := by decide +kernel
theorem dX7_forgets_20 : decode cX7_forgets 20 = .ok (.iinc 2 1, 3) := by decide +kernel
theorem dX7_forgets_23 : decode cX7_forgets 23 = .ok (.goto (-16), 3) := by decide +kernel
theorem dX7_forgets_26 : decode cX7_forgets 26 = .ok (.iload_n 1, 1) := by decide +kernel
theorem dX7_forgets_27 : decode cX7_forgets 27 = .ok (.ireturn, 1) := by decide +kernel
theorem dX7_cut_0 : decode cX7_cut 0 = .ok (.iload_n 1, 1) := by decide +kernel
theorem dX7_cut_1 : decode cX7_cut 1 = .ok (.iconst 1, 1) := by decide +kernel
theorem dX7_cut_2 : decode cX7_cut 2 = .ok (.bipush 59, 2) := by decide +kernel
theorem dX7_cut_4 : decode cX7_cut 4 = .ok (.invokestatic 85, 3) := by decide +kernel
theorem dX7_cut_7 : decode cX7_cut 7 = .ok (.ifCond .ne 6, 3) := by decide +kernel
theorem dX7_cut_10 : decode cX7_cut 10 = .ok (.bipush (-2), 2) := by decide +kernel
theorem dX7_cut_12 : decode cX7_cut 12 = .ok (.ireturn, 1) := by decide +kernel
theorem dX7_cut_13 : decode cX7_cut 13 = .ok (.aload_n 0, 1) := by decide +kernel
theorem dX7_cut_14 : decode cX7_cut 14 = .ok (.getfield 13, 3) := by decide +kernel
theorem dX7_cut_17 : decode cX7_cut 17 = .ok (.iload_n 1, 1) := by decide +kernel
theorem dX7_cut_18 : decode cX7_cut 18 = .ok (.baload, 1) := by decide +kernel
theorem dX7_cut_19 : decode cX7_cut 19 = .ok (.ifCond .ne 15, 3) := by decide +kernel
theorem dX7_cut_22 : decode cX7_cut 22 = .ok (.aload_n 0, 1) := by decide +kernel
theorem dX7_cut_23 : decode cX7_cut 23 = .ok (.invokevirtual 107, 3) := by decide +kernel
theorem dX7_cut_26 : decode cX7_cut 26 = .ok (.bipush 12, 2) := by decide +kernel
theorem dX7_cut_28 : decode cX7_cut 28 = .ok (.if_icmp .ne 6, 3) := by decide +kernel
theorem dX7_cut_31 : decode cX7_cut 31 = .ok (.bipush (-4), 2) := by decide +kernel
theorem dX7_cut_33 : decode cX7_cut 33 = .ok (.ireturn, 1) := by decide +kernel
theorem dX7_cut_34 : decode cX7_cut 34 = .ok (.aload_n 0, 1) := by decide +kernel
theorem dX7_cut_35 : decode cX7_cut 35 = .ok (.getfield 13, 3) := by decide +kernel
theorem dX7_cut_38 : decode cX7_cut 38 = .ok (.iload_n 1, 1) := by decide +kernel
theorem dX7_cut_39 : decode cX7_cut 39 = .ok (.aload_n 0, 1) := by decide +kernel
theorem dX7_cut_40 : decode cX7_cut 40 = .ok (.getfield 13, 3) := by decide +kernel
theorem dX7_cut_43 : decode cX7_cut 43 = .ok (.iload_n 1, 1) := by decide +kernel
theorem dX7_cut_44 : decode cX7_cut 44 = .ok (.baload, 1) := by decide +kernel
theorem dX7_cut_45 : decode cX7_cut 45 = .ok (.ifCond .ne 7, 3) := by decide +kernel
theorem dX7_cut_48 : decode cX7_cut 48 = .ok (.iconst 1, 1) := by decide +kernel
theorem dX7_cut_49 : decode cX7_cut 49 = .ok (.goto 4, 3) := by decide +kernel
theorem dX7_cut_52 : decode cX7_cut 52 = .ok (.iconst 0, 1) := by decide +kernel
theorem dX7_cut_53 : decode cX7_cut 53 = .ok (.bastore, 1) := by decide +kernel
theorem dX7_cut_54 : decode cX7_cut 54 = .ok (.aload_n 0, 1) := by decide +kernel
theorem dX7_cut_55 : decode cX7_cut 55 = .ok (.invokevirtual 76, 3) := by decide +kernel
theorem dX7_cut_58 : decode cX7_cut 58 = .ok (.aload_n 0, 1) := by decide +kernel
theorem dX7_cut_59 : decode cX7_cut 59 = .ok (.invokevirtual 110, 3) := by decide +kernel
theorem dX7_cut_62 : decode cX7_cut 62 = .ok (.pop, 1) := by decide +kernel
theorem dX7_cut_63 : decode cX7_cut 63 = .ok (.aload_n 0, 1) := by decide +kernel
theorem dX7_cut_64 : decode cX7_cut 64 = .ok (.invokevirtual 107, 3) := by decide +kernel
theorem dX7_cut_67 : decode cX7_cut 67 = .ok (.ireturn, 1) := by decide +kernel
theorem dX7_hit_0 : decode cX7_hit 0 = .ok (.iload_n 1, 1) := by decide +kernel
theorem dX7_hit_1 : decode cX7_hit 1 = .ok (.iconst 0, 1) := by decide +kernel
theorem dX7_hit_2 : decode cX7_hit 2 = .ok (.bipush 59, 2) := by decide +kernel
theorem dX7_hit_4 : decode cX7_hit 4 = .ok (.invokestatic 85, 3) := by decide +kernel
theorem dX7_hit_7 : decode cX7_hit 7 = .ok (.ifCond .eq 13, 3) := by decide +kernel
theorem dX7_hit_10 : decode cX7_hit 10 = .ok (.iload_n 2, 1) := by decide +kernel
theorem dX7_hit_11 : decode cX7_hit 11 = .ok (.iconst 1, 1) := by decide +kernel
theorem dX7_hit_12 : decode cX7_hit 12 = .ok (.bipush 99, 2) := by decide +kernel
theorem dX7_hit_14 : decode cX7_hit 14 = .ok (.invokestatic 85, 3) := by decide +kernel
theorem dX7_hit_17 : decode cX7_hit 17 = .ok (.ifCond .ne 6, 3) := by decide +kernel
theorem dX7_hit_20 : decode cX7_hit 20 = .ok (.bipush (-2), 2) := by decide +kernel
theorem dX7_hit_22 : decode cX7_hit 22 = .ok (.ireturn, 1) := by decide +kernel
theorem dX7_hit_23 : decode cX7_hit 23 = .ok (.aload_n 0, 1) := by decide +kernel
theorem dX7_hit_24 : decode cX7_hit 24 = .ok (.invokevirtual 103, 3) := by decide +kernel
theorem dX7_hit_27 : decode cX7_hit 27 = .ok (.iload_n 2, 1) := by decide +kernel
theorem dX7_hit_28 : decode cX7_hit 28 = .ok (.iadd, 1) := by decide +kernel
theorem dX7_hit_29 : decode cX7_hit 29 = .ok (.sipush 400, 3) := by decide +kernel
theorem dX7_hit_32 : decode cX7_hit 32 = .ok (.if_icmp .le 6, 3) := by decide +kernel
theorem dX7_hit_35 : decode cX7_hit 35 = .ok (.bipush (-4), 2) := by decide +kernel
theorem dX7_hit_37 : decode cX7_hit 37 = .ok (.ireturn, 1) := by decide +kernel
theorem dX7_hit_38 : decode cX7_hit 38 = .ok (.aload_n 0, 1) := by decide +kernel
theorem dX7_hit_39 : decode cX7_hit 39 = .ok (.getfield 17, 3) := by decide +kernel
theorem dX7_hit_42 : decode cX7_hit 42 = .ok (.aload_n 0, 1) := by decide +kernel
theorem dX7_hit_43 : decode cX7_hit 43 = .ok (.iload_n 1, 1) := by decide +kernel
theorem dX7_hit_44 : decode cX7_hit 44 = .ok (.invokevirtual 113, 3) := by decide +kernel
theorem dX7_hit_47 : decode cX7_hit 47 = .ok (.dup2, 1) := by decide +kernel
theorem dX7_hit_48 : decode cX7_hit 48 = .ok (.iaload, 1) := by decide +kernel
theorem dX7_hit_49 : decode cX7_hit 49 = .ok (.iload_n 2, 1) := by decide +kernel
theorem dX7_hit_50 : decode cX7_hit 50 = .ok (.iadd, 1) := by decide +kernel
theorem dX7_hit_51 : decode cX7_hit 51 = .ok (.iastore, 1) := by decide +kernel
theorem dX7_hit_52 : decode cX7_hit 52 = .ok (.aload_n 0, 1) := by decide +kernel
theorem dX7_hit_53 : decode cX7_hit 53 = .ok (.getfield 17, 3) := by decide +kernel
theorem dX7_hit_56 : decode cX7_hit 56 = .ok (.aload_n 0, 1) := by decide +kernel
theorem dX7_hit_57 : decode cX7_hit 57 = .ok (.iload_n 1, 1) := by decide +kernel
theorem dX7_hit_58 : decode cX7_hit 58 = .ok (.invokevirtual 113, 3) := by decide +kernel
theorem dX7_hit_61 : decode cX7_hit 61 = .ok (.iaload, 1) := by decide +kernel
theorem dX7_hit_62 : decode cX7_hit 62 = .ok (.ireturn, 1) := by decide +kernel
theorem dX7_sweep_0 : decode cX7_sweep 0 = .ok (.iload_n 1, 1) := by decide +kernel
theorem dX7_sweep_1 : decode cX7_sweep 1 = .ok (.iconst 1, 1) := by decide +kernel
theorem dX7_sweep_2 : decode cX7_sweep 2 = .ok (.bipush 59, 2) := by decide +kernel
theorem dX7_sweep_4 : decode cX7_sweep 4 = .ok (.invokestatic 85, 3) := by decide +kernel
theorem dX7_sweep_7 : decode cX7_sweep 7 = .ok (.ifCond .eq 14, 3) := by decide +kernel
theorem dX7_sweep_10 : decode cX7_sweep 10 = .ok (.iload_n 2, 1) := by decide +kernel
theorem dX7_sweep_11 : decode cX7_sweep 11 = .ok (.iconst 1, 1) := by decide +kernel
theorem dX7_sweep_12 : decode cX7_sweep 12 = .ok (.sipush 400, 3) := by decide +kernel
theorem dX7_sweep_15 : decode cX7_sweep 15 = .ok (.invokestatic 85, 3) := by decide +kernel
theorem dX7_sweep_18 : decode cX7_sweep 18 = .ok (.ifCond .ne 6, 3) := by decide +kernel
theorem dX7_sweep_21 : decode cX7_sweep 21 = .ok (.bipush (-2), 2) := by decide +kernel
theorem dX7_sweep_23 : decode cX7_sweep 23 = .ok (.ireturn, 1) := by decide +kernel
theorem dX7_sweep_24 : decode cX7_sweep 24 = .ok (.aload_n 0, 1) := by decide +kernel
theorem dX7_sweep_25 : decode cX7_sweep 25 = .ok (.invokevirtual 103, 3) := by decide +kernel
theorem dX7_sweep_28 : decode cX7_sweep 28 = .ok (.iload_n 2, 1) := by decide +kernel
theorem dX7_sweep_29 : decode cX7_sweep 29 = .ok (.iadd, 1) := by decide +kernel
theorem dX7_sweep_30 : decode cX7_sweep 30 = .ok (.sipush 400, 3) := by decide +kernel
theorem dX7_sweep_33 : decode cX7_sweep 33 = .ok (.if_icmp .le 6, 3) := by decide +kernel
theorem dX7_sweep_36 : decode cX7_sweep 36 = .ok (.bipush (-4), 2) := by decide +kernel
theorem dX7_sweep_38 : decode cX7_sweep 38 = .ok (.ireturn, 1) := by decide +kernel
theorem dX7_sweep_39 : decode cX7_sweep 39 = .ok (.iconst 0, 1) := by decide +kernel
theorem dX7_sweep_40 : decode cX7_sweep 40 = .ok (.istore_n 3, 1) := by decide +kernel
theorem dX7_sweep_41 : decode cX7_sweep 41 = .ok (.iload_n 3, 1) := by decide +kernel
theorem dX7_sweep_42 : decode cX7_sweep 42 = .ok (.iload_n 2, 1) := by decide +kernel
theorem dX7_sweep_43 : decode cX7_sweep 43 = .ok (.if_icmp .ge 28, 3) := by decide +kernel
theorem dX7_sweep_46 : decode cX7_sweep 46 = .ok (.aload_n 0, 1) := by decide +kernel
theorem dX7_sweep_47 : decode cX7_sweep 47 = .ok (.getfield 17, 3) := by decide +kernel
theorem dX7_sweep_50 : decode cX7_sweep 50 = .ok (.aload_n 0, 1) := by decide +kernel
theorem dX7_sweep_51 : decode cX7_sweep 51 = .ok (.iload_n 3, 1) := by decide +kernel
theorem dX7_sweep_52 : decode cX7_sweep 52 = .ok (.iload_n 1, 1) := by decide +kernel
theorem dX7_sweep_53 : decode cX7_sweep 53 = .ok (.imul, 1) := by decide +kernel
theorem dX7_sweep_54 : decode cX7_sweep 54 = .ok (.bipush 60, 2) := by decide +kernel
theorem dX7_sweep_56 : decode cX7_sweep 56 = .ok (.irem, 1) := by decide +kernel
theorem dX7_sweep_57 : decode cX7_sweep 57 = .ok (.invokevirtual 113, 3) := by decide +kernel
theorem dX7_sweep_60 : decode cX7_sweep 60 = .ok (.dup2, 1) := by decide +kernel
theorem dX7_sweep_61 : decode cX7_sweep 61 = .ok (.iaload, 1) := by decide +kernel
theorem dX7_sweep_62 : decode cX7_sweep 62 = .ok (.iconst 1, 1) := by decide +kernel
theorem dX7_sweep_63 : decode cX7_sweep 63 = .ok (.iadd, 1) := by decide +kernel
theorem dX7_sweep_64 : decode cX7_sweep 64 = .ok (.iastore, 1) := by decide +kernel
theorem dX7_sweep_65 : decode cX7_sweep 65 = .ok (.iinc 3 1, 3) := by decide +kernel
theorem dX7_sweep_68 : decode cX7_sweep 68 = .ok (.goto (-27), 3) := by decide +kernel
theorem dX7_sweep_71 : decode cX7_sweep 71 = .ok (.aload_n 0, 1) := by decide +kernel
theorem dX7_sweep_72 : decode cX7_sweep 72 = .ok (.invokevirtual 103, 3) := by decide +kernel
theorem dX7_sweep_75 : decode cX7_sweep 75 = .ok (.ireturn, 1) := by decide +kernel
theorem dX7_fresh_0 : decode cX7_fresh 0 = .ok (.aload_n 0, 1) := by decide +kernel
theorem dX7_fresh_1 : decode cX7_fresh 1 = .ok (.invokevirtual 110, 3) := by decide +kernel
theorem dX7_fresh_4 : decode cX7_fresh 4 = .ok (.ireturn, 1) := by decide +kernel
theorem dX7_isBin_0 : decode cX7_isBin 0 = .ok (.iload_n 1, 1) := by decide +kernel
theorem dX7_isBin_1 : decode cX7_isBin 1 = .ok (.iconst 0, 1) := by decide +kernel
theorem dX7_isBin_2 : decode cX7_isBin 2 = .ok (.aload_n 0, 1) := by decide +kernel
theorem dX7_isBin_3 : decode cX7_isBin 3 = .ok (.invokevirtual 107, 3) := by decide +kernel
theorem dX7_isBin_6 : decode cX7_isBin 6 = .ok (.iconst 1, 1) := by decide +kernel
theorem dX7_isBin_7 : decode cX7_isBin 7 = .ok (.isub, 1) := by decide +kernel
theorem dX7_isBin_8 : decode cX7_isBin 8 = .ok (.invokestatic 85, 3) := by decide +kernel
theorem dX7_isBin_11 : decode cX7_isBin 11 = .ok (.ireturn, 1) := by decide +kernel
theorem dX7_binOf_0 : decode cX7_binOf 0 = .ok (.iload_n 2, 1) := by decide +kernel
theorem dX7_binOf_1 : decode cX7_binOf 1 = .ok (.ifCond .ne 11, 3) := by decide +kernel
theorem dX7_binOf_4 : decode cX7_binOf 4 = .ok (.aload_n 0, 1) := by decide +kernel
theorem dX7_binOf_5 : decode cX7_binOf 5 = .ok (.iload_n 1, 1) := by decide +kernel
theorem dX7_binOf_6 : decode cX7_binOf 6 = .ok (.invokevirtual 100, 3) := by decide +kernel
theorem dX7_binOf_9 : decode cX7_binOf 9 = .ok (.goto 22, 3) := by decide +kernel
theorem dX7_binOf_12 : decode cX7_binOf 12 = .ok (.iload_n 2, 1) := by decide +kernel
theorem dX7_binOf_13 : decode cX7_binOf 13 = .ok (.iconst 1, 1) := by decide +kernel
theorem dX7_binOf_14 : decode cX7_binOf 14 = .ok (.if_icmp .ne 11, 3) := by decide +kernel
theorem dX7_binOf_17 : decode cX7_binOf 17 = .ok (.aload_n 0, 1) := by decide +kernel
theorem dX7_binOf_18 : decode cX7_binOf 18 = .ok (.iload_n 1, 1) := by decide +kernel
theorem dX7_binOf_19 : decode cX7_binOf 19 = .ok (.invokevirtual 116, 3) := by decide +kernel
theorem dX7_binOf_22 : decode cX7_binOf 22 = .ok (.goto 9, 3) := by decide +kernel
theorem dX7_binOf_25 : decode cX7_binOf 25 = .ok (.aload_n 0, 1) := by decide +kernel
theorem dX7_binOf_26 : decode cX7_binOf 26 = .ok (.getfield 17, 3) := by decide +kernel
theorem dX7_binOf_29 : decode cX7_binOf 29 = .ok (.iload_n 1, 1) := by decide +kernel
theorem dX7_binOf_30 : decode cX7_binOf 30 = .ok (.iaload, 1) := by decide +kernel
theorem dX7_binOf_31 : decode cX7_binOf 31 = .ok (.ireturn, 1) := by decide +kernel
theorem dX7_bin_0 : decode cX7_bin 0 = .ok (.aload_n 0, 1) := by decide +kernel
theorem dX7_bin_1 : decode cX7_bin 1 = .ok (.iload_n 1, 1) := by decide +kernel
theorem dX7_bin_2 : decode cX7_bin 2 = .ok (.invokevirtual 119, 3) := by decide +kernel
theorem dX7_bin_5 : decode cX7_bin 5 = .ok (.ifCond .eq 21, 3) := by decide +kernel
theorem dX7_bin_8 : decode cX7_bin 8 = .ok (.iload_n 2, 1) := by decide +kernel
theorem dX7_bin_9 : decode cX7_bin 9 = .ok (.iconst 0, 1) := by decide +kernel
theorem dX7_bin_10 : decode cX7_bin 10 = .ok (.iconst 2, 1) := by decide +kernel
theorem dX7_bin_11 : decode cX7_bin 11 = .ok (.invokestatic 85, 3) := by decide +kernel
theorem dX7_bin_14 : decode cX7_bin 14 = .ok (.ifCond .eq 12, 3) := by decide +kernel
theorem dX7_bin_17 : decode cX7_bin 17 = .ok (.aload_n 0, 1) := by decide +kernel
theorem dX7_bin_18 : decode cX7_bin 18 = .ok (.iload_n 1, 1) := by decide +kernel
theorem dX7_bin_19 : decode cX7_bin 19 = .ok (.iload_n 2, 1) := by decide +kernel
theorem dX7_bin_20 : decode cX7_bin 20 = .ok (.invokevirtual 122, 3) := by decide +kernel
theorem dX7_bin_23 : decode cX7_bin 23 = .ok (.goto 5, 3) := by decide +kernel
theorem dX7_bin_26 : decode cX7_bin 26 = .ok (.bipush (-2), 2) := by decide +kernel
theorem dX7_bin_28 : decode cX7_bin 28 = .ok (.ireturn, 1) := by decide +kernel
theorem dX7_denseOf_0 : decode cX7_denseOf 0 = .ok (.aload_n 0, 1) := by decide +kernel
theorem dX7_denseOf_1 : decode cX7_denseOf 1 = .ok (.invokevirtual 103, 3) := by decide +kernel
theorem dX7_denseOf_4 : decode cX7_denseOf 4 = .ok (.ifCond .ne 11, 3) := by decide +kernel
theorem dX7_denseOf_7 : decode cX7_denseOf 7 = .ok (.bipush (-3), 2) := by decide +kernel
theorem dX7_denseOf_9 : decode cX7_denseOf 9 = .ok (.invokestatic 126, 3) := by decide +kernel
theorem dX7_denseOf_12 : decode cX7_denseOf 12 = .ok (.goto 23, 3) := by decide +kernel
theorem dX7_denseOf_15 : decode cX7_denseOf 15 = .ok (.ldc2_w 130, 3) := by decide +kernel
theorem dX7_denseOf_18 : decode cX7_denseOf 18 = .ok (.aload_n 0, 1) := by decide +kernel
theorem dX7_denseOf_19 : decode cX7_denseOf 19 = .ok (.getfield 17, 3) := by decide +kernel
theorem dX7_denseOf_22 : decode cX7_denseOf 22 = .ok (.iload_n 1, 1) := by decide +kernel
theorem dX7_denseOf_23 : decode cX7_denseOf 23 = .ok (.iaload, 1) := by decide +kernel
theorem dX7_denseOf_24 : decode cX7_denseOf 24 = .ok (.i2l, 1) := by decide +kernel
theorem dX7_denseOf_25 : decode cX7_denseOf 25 = .ok (.lmul, 1) := by decide +kernel
theorem dX7_denseOf_26 : decode cX7_denseOf 26 = .ok (.aload_n 0, 1) := by decide +kernel
theorem dX7_denseOf_27 : decode cX7_denseOf 27 = .ok (.invokevirtual 103, 3) := by decide +kernel
theorem dX7_denseOf_30 : decode cX7_denseOf 30 = .ok (.i2l, 1) := by decide +kernel
theorem dX7_denseOf_31 : decode cX7_denseOf 31 = .ok (.iload_n 2, 1) := by decide +kernel
theorem dX7_denseOf_32 : decode cX7_denseOf 32 = .ok (.invokestatic 132, 3) := by decide +kernel
theorem dX7_denseOf_35 : decode cX7_denseOf 35 = .ok (.lreturn, 1) := by decide +kernel
theorem dX7_dense_0 : decode cX7_dense 0 = .ok (.aload_n 0, 1) := by decide +kernel
theorem dX7_dense_1 : decode cX7_dense 1 = .ok (.iload_n 1, 1) := by decide +kernel
theorem dX7_dense_2 : decode cX7_dense 2 = .ok (.invokevirtual 119, 3) := by decide +kernel
theorem dX7_dense_5 : decode cX7_dense 5 = .ok (.ifCond .eq 21, 3) := by decide +kernel
theorem dX7_dense_8 : decode cX7_dense 8 = .ok (.iload_n 2, 1) := by decide +kernel
theorem dX7_dense_9 : decode cX7_dense 9 = .ok (.iconst 0, 1) := by decide +kernel
theorem dX7_dense_10 : decode cX7_dense 10 = .ok (.iconst 1, 1) := by decide +kernel
theorem dX7_dense_11 : decode cX7_dense 11 = .ok (.invokestatic 85, 3) := by decide +kernel
theorem dX7_dense_14 : decode cX7_dense 14 = .ok (.ifCond .eq 12, 3) := by decide +kernel
theorem dX7_dense_17 : decode cX7_dense 17 = .ok (.aload_n 0, 1) := by decide +kernel
theorem dX7_dense_18 : decode cX7_dense 18 = .ok (.iload_n 1, 1) := by decide +kernel
theorem dX7_dense_19 : decode cX7_dense 19 = .ok (.iload_n 2, 1) := by decide +kernel
theorem dX7_dense_20 : decode cX7_dense 20 = .ok (.invokevirtual 136, 3) := by decide +kernel
theorem dX7_dense_23 : decode cX7_dense 23 = .ok (.goto 8, 3) := by decide +kernel
theorem dX7_dense_26 : decode cX7_dense 26 = .ok (.bipush (-2), 2) := by decide +kernel
theorem dX7_dense_28 : decode cX7_dense 28 = .ok (.invokestatic 126, 3) := by decide +kernel
theorem dX7_dense_31 : decode cX7_dense 31 = .ok (.lreturn, 1) := by decide +kernel
theorem dX7_worstNow_0 : decode cX7_worstNow 0 = .ok (.aload_n 0, 1) := by decide +kernel
theorem dX7_worstNow_1 : decode cX7_worstNow 1 = .ok (.invokevirtual 103, 3) := by decide +kernel
theorem dX7_worstNow_4 : decode cX7_worstNow 4 = .ok (.istore_n 1, 1) := by decide +kernel
theorem dX7_worstNow_5 : decode cX7_worstNow 5 = .ok (.bipush (-3), 2) := by decide +kernel
theorem dX7_worstNow_7 : decode cX7_worstNow 7 = .ok (.istore_n 2, 1) := by decide +kernel
theorem dX7_worstNow_8 : decode cX7_worstNow 8 = .ok (.iconst (-1), 1) := by decide +kernel
theorem dX7_worstNow_9 : decode cX7_worstNow 9 = .ok (.istore_n 3, 1) := by decide +kernel
theorem dX7_worstNow_10 : decode cX7_worstNow 10 = .ok (.iconst 0, 1) := by decide +kernel
theorem dX7_worstNow_11 : decode cX7_worstNow 11 = .ok (.istore 4, 2) := by decide +kernel
theorem dX7_worstNow_13 : decode cX7_worstNow 13 = .ok (.iload 4, 2) := by decide +kernel
theorem dX7_worstNow_15 : decode cX7_worstNow 15 = .ok (.aload_n 0, 1) := by decide +kernel
theorem dX7_worstNow_16 : decode cX7_worstNow 16 = .ok (.invokevirtual 107, 3) := by decide +kernel
theorem dX7_worstNow_19 : decode cX7_worstNow 19 = .ok (.if_icmp .ge 75, 3) := by decide +kernel
theorem dX7_worstNow_22 : decode cX7_worstNow 22 = .ok (.iload_n 1, 1) := by decide +kernel
theorem dX7_worstNow_23 : decode cX7_worstNow 23 = .ok (.ifCond .le 71, 3) := by decide +kernel
theorem dX7_worstNow_26 : decode cX7_worstNow 26 = .ok (.bipush 60, 2) := by decide +kernel
theorem dX7_worstNow_28 : decode cX7_worstNow 28 = .ok (.aload_n 0, 1) := by decide +kernel
theorem dX7_worstNow_29 : decode cX7_worstNow 29 = .ok (.getfield 17, 3) := by decide +kernel
theorem dX7_worstNow_32 : decode cX7_worstNow 32 = .ok (.iload 4, 2) := by decide +kernel
theorem dX7_worstNow_34 : decode cX7_worstNow 34 = .ok (.iaload, 1) := by decide +kernel
theorem dX7_worstNow_35 : decode cX7_worstNow 35 = .ok (.imul, 1) := by decide +kernel
theorem dX7_worstNow_36 : decode cX7_worstNow 36 = .ok (.aload_n 0, 1) := by decide +kernel
theorem dX7_worstNow_37 : decode cX7_worstNow 37 = .ok (.iload 4, 2) := by decide +kernel
theorem dX7_worstNow_39 : decode cX7_worstNow 39 = .ok (.invokevirtual 116, 3) := by decide +kernel
theorem dX7_worstNow_42 : decode cX7_worstNow 42 = .ok (.iload_n 1, 1) := by decide +kernel
theorem dX7_worstNow_43 : decode cX7_worstNow 43 = .ok (.imul, 1) := by decide +kernel
theorem dX7_worstNow_44 : decode cX7_worstNow 44 = .ok (.isub, 1) := by decide +kernel
theorem dX7_worstNow_45 : decode cX7_worstNow 45 = .ok (.istore 5, 2) := by decide +kernel
theorem dX7_worstNow_47 : decode cX7_worstNow 47 = .ok (.iload 5, 2) := by decide +kernel
theorem dX7_worstNow_49 : decode cX7_worstNow 49 = .ok (.ifCond .ge 9, 3) := by decide +kernel
theorem dX7_worstNow_52 : decode cX7_worstNow 52 = .ok (.iload 5, 2) := by decide +kernel
theorem dX7_worstNow_54 : decode cX7_worstNow 54 = .ok (.ineg, 1) := by decide +kernel
theorem dX7_worstNow_55 : decode cX7_worstNow 55 = .ok (.goto 5, 3) := by decide +kernel
theorem dX7_worstNow_58 : decode cX7_worstNow 58 = .ok (.iload 5, 2) := by decide +kernel
theorem dX7_worstNow_60 : decode cX7_worstNow 60 = .ok (.istore 5, 2) := by decide +kernel
theorem dX7_worstNow_62 : decode cX7_worstNow 62 = .ok (.iload 5, 2) := by decide +kernel
theorem dX7_worstNow_64 : decode cX7_worstNow 64 = .ok (.iload_n 3, 1) := by decide +kernel
theorem dX7_worstNow_65 : decode cX7_worstNow 65 = .ok (.if_icmp .le 8, 3) := by decide +kernel
theorem dX7_worstNow_68 : decode cX7_worstNow 68 = .ok (.iload 4, 2) := by decide +kernel
theorem dX7_worstNow_70 : decode cX7_worstNow 70 = .ok (.goto 4, 3) := by decide +kernel
theorem dX7_worstNow_73 : decode cX7_worstNow 73 = .ok (.iload_n 2, 1) := by decide +kernel
theorem dX7_worstNow_74 : decode cX7_worstNow 74 = .ok (.istore_n 2, 1) := by decide +kernel
theorem dX7_worstNow_75 : decode cX7_worstNow 75 = .ok (.iload 5, 2) := by decide +kernel
theorem dX7_worstNow_77 : decode cX7_worstNow 77 = .ok (.iload_n 3, 1) := by decide +kernel
theorem dX7_worstNow_78 : decode cX7_worstNow 78 = .ok (.if_icmp .le 8, 3) := by decide +kernel
theorem dX7_worstNow_81 : decode cX7_worstNow 81 = .ok (.iload 5, 2) := by decide +kernel
theorem dX7_worstNow_83 : decode cX7_worstNow 83 = .ok (.goto 4, 3) := by decide +kernel
theorem dX7_worstNow_86 : decode cX7_worstNow 86 = .ok (.iload_n 3, 1) := by decide +kernel
theorem dX7_worstNow_87 : decode cX7_worstNow 87 = .ok (.istore_n 3, 1) := by decide +kernel
theorem dX7_worstNow_88 : decode cX7_worstNow 88 = .ok (.iinc 4 1, 3) := by decide +kernel
theorem dX7_worstNow_91 : decode cX7_worstNow 91 = .ok (.goto (-78), 3) := by decide +kernel
theorem dX7_worstNow_94 : decode cX7_worstNow 94 = .ok (.iload_n 2, 1) := by decide +kernel
theorem dX7_worstNow_95 : decode cX7_worstNow 95 = .ok (.ireturn, 1) := by decide +kernel
theorem dX7_worst_0 : decode cX7_worst 0 = .ok (.aload_n 0, 1) := by decide +kernel
theorem dX7_worst_1 : decode cX7_worst 1 = .ok (.invokevirtual 140, 3) := by decide +kernel
theorem dX7_worst_4 : decode cX7_worst 4 = .ok (.ireturn, 1) := by decide +kernel
theorem dX7_type_0 : decode cX7_type 0 = .ok (.iload_n 1, 1) := by decide +kernel
theorem dX7_type_1 : decode cX7_type 1 = .ok (.iconst 0, 1) := by decide +kernel
theorem dX7_type_2 : decode cX7_type 2 = .ok (.sipush 255, 3) := by decide +kernel
theorem dX7_type_5 : decode cX7_type 5 = .ok (.invokestatic 85, 3) := by decide +kernel
theorem dX7_type_8 : decode cX7_type 8 = .ok (.ifCond .ne 6, 3) := by decide +kernel
theorem dX7_type_11 : decode cX7_type 11 = .ok (.bipush (-2), 2) := by decide +kernel
theorem dX7_type_13 : decode cX7_type 13 = .ok (.ireturn, 1) := by decide +kernel
theorem dX7_type_14 : decode cX7_type 14 = .ok (.aload_n 0, 1) := by decide +kernel
theorem dX7_type_15 : decode cX7_type 15 = .ok (.getfield 143, 3) := by decide +kernel
theorem dX7_type_18 : decode cX7_type 18 = .ok (.iconst 5, 1) := by decide +kernel
theorem dX7_type_19 : decode cX7_type 19 = .ok (.if_icmp .ne 6, 3) := by decide +kernel
theorem dX7_type_22 : decode cX7_type 22 = .ok (.bipush (-4), 2) := by decide +kernel
theorem dX7_type_24 : decode cX7_type 24 = .ok (.ireturn, 1) := by decide +kernel
theorem dX7_type_25 : decode cX7_type 25 = .ok (.aload_n 0, 1) := by decide +kernel
theorem dX7_type_26 : decode cX7_type 26 = .ok (.getfield 26, 3) := by decide +kernel
theorem dX7_type_29 : decode cX7_type 29 = .ok (.aload_n 0, 1) := by decide +kernel
theorem dX7_type_30 : decode cX7_type 30 = .ok (.getfield 143, 3) := by decide +kernel
theorem dX7_type_33 : decode cX7_type 33 = .ok (.iload_n 1, 1) := by decide +kernel
theorem dX7_type_34 : decode cX7_type 34 = .ok (.iastore, 1) := by decide +kernel
theorem dX7_type_35 : decode cX7_type 35 = .ok (.aload_n 0, 1) := by decide +kernel
theorem dX7_type_36 : decode cX7_type 36 = .ok (.dup, 1) := by decide +kernel
theorem dX7_type_37 : decode cX7_type 37 = .ok (.getfield 143, 3) := by decide +kernel
theorem dX7_type_40 : decode cX7_type 40 = .ok (.iconst 1, 1) := by decide +kernel
theorem dX7_type_41 : decode cX7_type 41 = .ok (.iadd, 1) := by decide +kernel
theorem dX7_type_42 : decode cX7_type 42 = .ok (.putfield 143, 3) := by decide +kernel
theorem dX7_type_45 : decode cX7_type 45 = .ok (.aload_n 0, 1) := by decide +kernel
theorem dX7_type_46 : decode cX7_type 46 = .ok (.getfield 143, 3) := by decide +kernel
theorem dX7_type_49 : decode cX7_type 49 = .ok (.ireturn, 1) := by decide +kernel
theorem dX7_wipe_0 : decode cX7_wipe 0 = .ok (.aload_n 0, 1) := by decide +kernel
theorem dX7_wipe_1 : decode cX7_wipe 1 = .ok (.getfield 143, 3) := by decide +kernel
theorem dX7_wipe_4 : decode cX7_wipe 4 = .ok (.istore_n 1, 1) := by decide +kernel
theorem dX7_wipe_5 : decode cX7_wipe 5 = .ok (.aload_n 0, 1) := by decide +kernel
theorem dX7_wipe_6 : decode cX7_wipe 6 = .ok (.iconst 0, 1) := by decide +kernel
theorem dX7_wipe_7 : decode cX7_wipe 7 = .ok (.putfield 143, 3) := by decide +kernel
theorem dX7_wipe_10 : decode cX7_wipe 10 = .ok (.iload_n 1, 1) := by decide +kernel
theorem dX7_wipe_11 : decode cX7_wipe 11 = .ok (.ireturn, 1) := by decide +kernel
theorem dX7_isTyped_0 : decode cX7_isTyped 0 = .ok (.aload_n 0, 1) := by decide +kernel
theorem dX7_isTyped_1 : decode cX7_isTyped 1 = .ok (.getfield 143, 3) := by decide +kernel
theorem dX7_isTyped_4 : decode cX7_isTyped 4 = .ok (.iconst 5, 1) := by decide +kernel
theorem dX7_isTyped_5 : decode cX7_isTyped 5 = .ok (.if_icmp .ne 59, 3) := by decide +kernel
theorem dX7_isTyped_8 : decode cX7_isTyped 8 = .ok (.aload_n 0, 1) := by decide +kernel
theorem dX7_isTyped_9 : decode cX7_isTyped 9 = .ok (.getfield 26, 3) := by decide +kernel
theorem dX7_isTyped_12 : decode cX7_isTyped 12 = .ok (.iconst 0, 1) := by decide +kernel
theorem dX7_isTyped_13 : decode cX7_isTyped 13 = .ok (.iaload, 1) := by decide +kernel
theorem dX7_isTyped_14 : decode cX7_isTyped 14 = .ok (.iload_n 1, 1) := by decide +kernel
theorem dX7_isTyped_15 : decode cX7_isTyped 15 = .ok (.if_icmp .ne 49, 3) := by decide +kernel
theorem dX7_isTyped_18 : decode cX7_isTyped 18 = .ok (.aload_n 0, 1) := by decide +kernel
theorem dX7_isTyped_19 : decode cX7_isTyped 19 = .ok (.getfield 26, 3) := by decide +kernel
theorem dX7_isTyped_22 : decode cX7_isTyped 22 = .ok (.iconst 1, 1) := by decide +kernel
theorem dX7_isTyped_23 : decode cX7_isTyped 23 = .ok (.iaload, 1) := by decide +kernel
theorem dX7_isTyped_24 : decode cX7_isTyped 24 = .ok (.iload_n 2, 1) := by decide +kernel
theorem dX7_isTyped_25 : decode cX7_isTyped 25 = .ok (.if_icmp .ne 39, 3) := by decide +kernel
theorem dX7_isTyped_28 : decode cX7_isTyped 28 = .ok (.aload_n 0, 1) := by decide +kernel
theorem dX7_isTyped_29 : decode cX7_isTyped 29 = .ok (.getfield 26, 3) := by decide +kernel
theorem dX7_isTyped_32 : decode cX7_isTyped 32 = .ok (.iconst 2, 1) := by decide +kernel
theorem dX7_isTyped_33 : decode cX7_isTyped 33 = .ok (.iaload, 1) := by decide +kernel
theorem dX7_isTyped_34 : decode cX7_isTyped 34 = .ok (.iload_n 3, 1) := by decide +kernel
theorem dX7_isTyped_35 : decode cX7_isTyped 35 = .ok (.if_icmp .ne 29, 3) := by decide +kernel
theorem dX7_isTyped_38 : decode cX7_isTyped 38 = .ok (.aload_n 0, 1) := by decide +kernel
theorem dX7_isTyped_39 : decode cX7_isTyped 39 = .ok (.getfield 26, 3) := by decide +kernel
theorem dX7_isTyped_42 : decode cX7_isTyped 42 = .ok (.iconst 3, 1) := by decide +kernel
theorem dX7_isTyped_43 : decode cX7_isTyped 43 = .ok (.iaload, 1) := by decide +kernel
theorem dX7_isTyped_44 : decode cX7_isTyped 44 = .ok (.iload 4, 2) := by decide +kernel
theorem dX7_isTyped_46 : decode cX7_isTyped 46 = .ok (.if_icmp .ne 18, 3) := by decide +kernel
theorem dX7_isTyped_49 : decode cX7_isTyped 49 = .ok (.aload_n 0, 1) := by decide +kernel
theorem dX7_isTyped_50 : decode cX7_isTyped 50 = .ok (.getfield 26, 3) := by decide +kernel
theorem dX7_isTyped_53 : decode cX7_isTyped 53 = .ok (.iconst 4, 1) := by decide +kernel
theorem dX7_isTyped_54 : decode cX7_isTyped 54 = .ok (.iaload, 1) := by decide +kernel
theorem dX7_isTyped_55 : decode cX7_isTyped 55 = .ok (.iload 5, 2) := by decide +kernel
theorem dX7_isTyped_57 : decode cX7_isTyped 57 = .ok (.if_icmp .ne 7, 3) := by decide +kernel
theorem dX7_isTyped_60 : decode cX7_isTyped 60 = .ok (.iconst 1, 1) := by decide +kernel
theorem dX7_isTyped_61 : decode cX7_isTyped 61 = .ok (.goto 4, 3) := by decide +kernel
theorem dX7_isTyped_64 : decode cX7_isTyped 64 = .ok (.iconst 0, 1) := by decide +kernel
theorem dX7_isTyped_65 : decode cX7_isTyped 65 = .ok (.ireturn, 1) := by decide +kernel
theorem dX7_modeNow_0 : decode cX7_modeNow 0 = .ok (.aload_n 0, 1) := by decide +kernel
theorem dX7_modeNow_1 : decode cX7_modeNow 1 = .ok (.bipush 100, 2) := by decide +kernel
theorem dX7_modeNow_3 : decode cX7_modeNow 3 = .ok (.bipush 101, 2) := by decide +kernel
theorem dX7_modeNow_5 : decode cX7_modeNow 5 = .ok (.bipush 110, 2) := by decide +kernel
theorem dX7_modeNow_7 : decode cX7_modeNow 7 = .ok (.bipush 115, 2) := by decide +kernel
theorem dX7_modeNow_9 : decode cX7_modeNow 9 = .ok (.bipush 101, 2) := by decide +kernel
theorem dX7_modeNow_11 : decode cX7_modeNow 11 = .ok (.invokevirtual 146, 3) := by decide +kernel
theorem dX7_modeNow_14 : decode cX7_modeNow 14 = .ok (.ifCond .eq 7, 3) := by decide +kernel
theorem dX7_modeNow_17 : decode cX7_modeNow 17 = .ok (.iconst 1, 1) := by decide +kernel
theorem dX7_modeNow_18 : decode cX7_modeNow 18 = .ok (.goto 25, 3) := by decide +kernel
theorem dX7_modeNow_21 : decode cX7_modeNow 21 = .ok (.aload_n 0, 1) := by decide +kernel
theorem dX7_modeNow_22 : decode cX7_modeNow 22 = .ok (.bipush 107, 2) := by decide +kernel
theorem dX7_modeNow_24 : decode cX7_modeNow 24 = .ok (.bipush 110, 2) := by decide +kernel
theorem dX7_modeNow_26 : decode cX7_modeNow 26 = .ok (.bipush 111, 2) := by decide +kernel
theorem dX7_modeNow_28 : decode cX7_modeNow 28 = .ok (.bipush 119, 2) := by decide +kernel
theorem dX7_modeNow_30 : decode cX7_modeNow 30 = .ok (.bipush 110, 2) := by decide +kernel
theorem dX7_modeNow_32 : decode cX7_modeNow 32 = .ok (.invokevirtual 146, 3) := by decide +kernel
theorem dX7_modeNow_35 : decode cX7_modeNow 35 = .ok (.ifCond .eq 7, 3) := by decide +kernel
theorem dX7_modeNow_38 : decode cX7_modeNow 38 = .ok (.iconst 2, 1) := by decide +kernel
theorem dX7_modeNow_39 : decode cX7_modeNow 39 = .ok (.goto 4, 3) := by decide +kernel
theorem dX7_modeNow_42 : decode cX7_modeNow 42 = .ok (.iconst 0, 1) := by decide +kernel
theorem dX7_modeNow_43 : decode cX7_modeNow 43 = .ok (.ireturn, 1) := by decide +kernel
theorem dX7_mode_0 : decode cX7_mode 0 = .ok (.aload_n 0, 1) := by decide +kernel
theorem dX7_mode_1 : decode cX7_mode 1 = .ok (.invokevirtual 150, 3) := by decide +kernel
theorem dX7_mode_4 : decode cX7_mode 4 = .ok (.ireturn, 1) := by decide +kernel
theorem dX7_nominal_0 : decode cX7_nominal 0 = .ok (.iload_n 1, 1) := by decide +kernel
theorem dX7_nominal_1 : decode cX7_nominal 1 = .ok (.iconst 0, 1) := by decide +kernel
theorem dX7_nominal_2 : decode cX7_nominal 2 = .ok (.sipush 600, 3) := by decide +kernel
theorem dX7_nominal_5 : decode cX7_nominal 5 = .ok (.invokestatic 85, 3) := by decide +kernel
theorem dX7_nominal_8 : decode cX7_nominal 8 = .ok (.ifCond .ne 6, 3) := by decide +kernel
theorem dX7_nominal_11 : decode cX7_nominal 11 = .ok (.bipush (-2), 2) := by decide +kernel
theorem dX7_nominal_13 : decode cX7_nominal 13 = .ok (.ireturn, 1) := by decide +kernel
theorem dX7_nominal_14 : decode cX7_nominal 14 = .ok (.aload_n 0, 1) := by decide +kernel
theorem dX7_nominal_15 : decode cX7_nominal 15 = .ok (.getfield 153, 3) := by decide +kernel
theorem dX7_nominal_18 : decode cX7_nominal 18 = .ok (.istore_n 2, 1) := by decide +kernel
theorem dX7_nominal_19 : decode cX7_nominal 19 = .ok (.aload_n 0, 1) := by decide +kernel
theorem dX7_nominal_20 : decode cX7_nominal 20 = .ok (.iload_n 1, 1) := by decide +kernel
theorem dX7_nominal_21 : decode cX7_nominal 21 = .ok (.putfield 153, 3) := by decide +kernel
theorem dX7_nominal_24 : decode cX7_nominal 24 = .ok (.iload_n 2, 1) := by decide +kernel
theorem dX7_nominal_25 : decode cX7_nominal 25 = .ok (.ireturn, 1) := by decide +kernel
theorem dX7_mend_0 : decode cX7_mend 0 = .ok (.iload_n 1, 1) := by decide +kernel
theorem dX7_mend_1 : decode cX7_mend 1 = .ok (.iconst 0, 1) := by decide +kernel
theorem dX7_mend_2 : decode cX7_mend 2 = .ok (.iconst 1, 1) := by decide +kernel
theorem dX7_mend_3 : decode cX7_mend 3 = .ok (.invokestatic 85, 3) := by decide +kernel
theorem dX7_mend_6 : decode cX7_mend 6 = .ok (.ifCond .ne 6, 3) := by decide +kernel
theorem dX7_mend_9 : decode cX7_mend 9 = .ok (.bipush (-2), 2) := by decide +kernel
theorem dX7_mend_11 : decode cX7_mend 11 = .ok (.ireturn, 1) := by decide +kernel
theorem dX7_mend_12 : decode cX7_mend 12 = .ok (.aload_n 0, 1) := by decide +kernel
theorem dX7_mend_13 : decode cX7_mend 13 = .ok (.getfield 156, 3) := by decide +kernel
theorem dX7_mend_16 : decode cX7_mend 16 = .ok (.istore_n 2, 1) := by decide +kernel
theorem dX7_mend_17 : decode cX7_mend 17 = .ok (.aload_n 0, 1) := by decide +kernel
theorem dX7_mend_18 : decode cX7_mend 18 = .ok (.iload_n 1, 1) := by decide +kernel
theorem dX7_mend_19 : decode cX7_mend 19 = .ok (.putfield 156, 3) := by decide +kernel
theorem dX7_mend_22 : decode cX7_mend 22 = .ok (.iload_n 2, 1) := by decide +kernel
theorem dX7_mend_23 : decode cX7_mend 23 = .ok (.ireturn, 1) := by decide +kernel
theorem dX7_partBy_0 : decode cX7_partBy 0 = .ok (.iconst 0, 1) := by decide +kernel
theorem dX7_partBy_1 : decode cX7_partBy 1 = .ok (.istore_n 3, 1) := by decide +kernel
theorem dX7_partBy_2 : decode cX7_partBy 2 = .ok (.iconst 0, 1) := by decide +kernel
theorem dX7_partBy_3 : decode cX7_partBy 3 = .ok (.istore 4, 2) := by decide +kernel
theorem dX7_partBy_5 : decode cX7_partBy 5 = .ok (.iload 4, 2) := by decide +kernel
theorem dX7_partBy_7 : decode cX7_partBy 7 = .ok (.iload_n 2, 1) := by decide +kernel
theorem dX7_partBy_8 : decode cX7_partBy 8 = .ok (.if_icmp .ge 19, 3) := by decide +kernel
theorem dX7_partBy_11 : decode cX7_partBy 11 = .ok (.iload_n 3, 1) := by decide +kernel
theorem dX7_partBy_12 : decode cX7_partBy 12 = .ok (.aload_n 0, 1) := by decide +kernel
theorem dX7_partBy_13 : decode cX7_partBy 13 = .ok (.getfield 17, 3) := by decide +kernel
theorem dX7_partBy_16 : decode cX7_partBy 16 = .ok (.iload 4, 2) := by decide +kernel
theorem dX7_partBy_18 : decode cX7_partBy 18 = .ok (.iaload, 1) := by decide +kernel
theorem dX7_partBy_19 : decode cX7_partBy 19 = .ok (.iadd, 1) := by decide +kernel
theorem dX7_partBy_20 : decode cX7_partBy 20 = .ok (.istore_n 3, 1) := by decide +kernel
theorem dX7_partBy_21 : decode cX7_partBy 21 = .ok (.iinc 4 1, 3) := by decide +kernel
theorem dX7_partBy_24 : decode cX7_partBy 24 = .ok (.goto (-19), 3) := by decide +kernel
theorem dX7_partBy_27 : decode cX7_partBy 27 = .ok (.iload_n 1, 1) := by decide +kernel
theorem dX7_partBy_28 : decode cX7_partBy 28 = .ok (.iconst 2, 1) := by decide +kernel
theorem dX7_partBy_29 : decode cX7_partBy 29 = .ok (.if_icmp .ne 20, 3) := by decide +kernel
theorem dX7_partBy_32 : decode cX7_partBy 32 = .ok (.aload_n 0, 1) := by decide +kernel
theorem dX7_partBy_33 : decode cX7_partBy 33 = .ok (.iload_n 2, 1) := by decide +kernel
theorem dX7_partBy_34 : decode cX7_partBy 34 = .ok (.invokevirtual 100, 3) := by decide +kernel
theorem dX7_partBy_37 : decode cX7_partBy 37 = .ok (.aload_n 0, 1) := by decide +kernel
theorem dX7_partBy_38 : decode cX7_partBy 38 = .ok (.iload_n 2, 1) := by decide +kernel
theorem dX7_partBy_39 : decode cX7_partBy 39 = .ok (.iconst 1, 1) := by decide +kernel
theorem dX7_partBy_40 : decode cX7_partBy 40 = .ok (.iadd, 1) := by decide +kernel
theorem dX7_partBy_41 : decode cX7_partBy 41 = .ok (.invokevirtual 100, 3) := by decide +kernel
theorem dX7_partBy_44 : decode cX7_partBy 44 = .ok (.iadd, 1) := by decide +kernel
theorem dX7_partBy_45 : decode cX7_partBy 45 = .ok (.i2l, 1) := by decide +kernel
theorem dX7_partBy_46 : decode cX7_partBy 46 = .ok (.goto 39, 3) := by decide +kernel
theorem dX7_partBy_49 : decode cX7_partBy 49 = .ok (.iload_n 1, 1) := by decide +kernel
theorem dX7_partBy_50 : decode cX7_partBy 50 = .ok (.iconst 1, 1) := by decide +kernel
theorem dX7_partBy_51 : decode cX7_partBy 51 = .ok (.if_icmp .ne 24, 3) := by decide +kernel
theorem dX7_partBy_54 : decode cX7_partBy 54 = .ok (.ldc2_w 130, 3) := by decide +kernel
theorem dX7_partBy_57 : decode cX7_partBy 57 = .ok (.iload_n 3, 1) := by decide +kernel
theorem dX7_partBy_58 : decode cX7_partBy 58 = .ok (.i2l, 1) := by decide +kernel
theorem dX7_partBy_59 : decode cX7_partBy 59 = .ok (.lmul, 1) := by decide +kernel
theorem dX7_partBy_60 : decode cX7_partBy 60 = .ok (.ldc2_w 159, 3) := by decide +kernel
theorem dX7_partBy_63 : decode cX7_partBy 63 = .ok (.aload_n 0, 1) := by decide +kernel
theorem dX7_partBy_64 : decode cX7_partBy 64 = .ok (.getfield 17, 3) := by decide +kernel
theorem dX7_partBy_67 : decode cX7_partBy 67 = .ok (.iload_n 2, 1) := by decide +kernel
theorem dX7_partBy_68 : decode cX7_partBy 68 = .ok (.iaload, 1) := by decide +kernel
theorem dX7_partBy_69 : decode cX7_partBy 69 = .ok (.i2l, 1) := by decide +kernel
theorem dX7_partBy_70 : decode cX7_partBy 70 = .ok (.lmul, 1) := by decide +kernel
theorem dX7_partBy_71 : decode cX7_partBy 71 = .ok (.ladd, 1) := by decide +kernel
theorem dX7_partBy_72 : decode cX7_partBy 72 = .ok (.goto 13, 3) := by decide +kernel
theorem dX7_partBy_75 : decode cX7_partBy 75 = .ok (.ldc2_w 130, 3) := by decide +kernel
theorem dX7_partBy_78 : decode cX7_partBy 78 = .ok (.iload_n 2, 1) := by decide +kernel
theorem dX7_partBy_79 : decode cX7_partBy 79 = .ok (.i2l, 1) := by decide +kernel
theorem dX7_partBy_80 : decode cX7_partBy 80 = .ok (.lmul, 1) := by decide +kernel
theorem dX7_partBy_81 : decode cX7_partBy 81 = .ok (.ldc2_w 159, 3) := by decide +kernel
theorem dX7_partBy_84 : decode cX7_partBy 84 = .ok (.ladd, 1) := by decide +kernel
theorem dX7_partBy_85 : decode cX7_partBy 85 = .ok (.lreturn, 1) := by decide +kernel
theorem dX7_findsGaps_0 : decode cX7_findsGaps 0 = .ok (.iconst 0, 1) := by decide +kernel
theorem dX7_findsGaps_1 : decode cX7_findsGaps 1 = .ok (.istore_n 1, 1) := by decide +kernel
theorem dX7_findsGaps_2 : decode cX7_findsGaps 2 = .ok (.iload_n 1, 1) := by decide +kernel
theorem dX7_findsGaps_3 : decode cX7_findsGaps 3 = .ok (.iconst 1, 1) := by decide +kernel
theorem dX7_findsGaps_4 : decode cX7_findsGaps 4 = .ok (.iadd, 1) := by decide +kernel
theorem dX7_findsGaps_5 : decode cX7_findsGaps 5 = .ok (.aload_n 0, 1) := by decide +kernel
theorem dX7_findsGaps_6 : decode cX7_findsGaps 6 = .ok (.getfield 81, 3) := by decide +kernel
theorem dX7_findsGaps_9 : decode cX7_findsGaps 9 = .ok (.if_icmp .ge 77, 3) := by decide +kernel
theorem dX7_findsGaps_12 : decode cX7_findsGaps 12 = .ok (.aload_n 0, 1) := by decide +kernel
theorem dX7_findsGaps_13 : decode cX7_findsGaps 13 = .ok (.getfield 29, 3) := by decide +kernel
theorem dX7_findsGaps_16 : decode cX7_findsGaps 16 = .ok (.iload_n 1, 1) := by decide +kernel
theorem dX7_findsGaps_17 : decode cX7_findsGaps 17 = .ok (.iconst 1, 1) := by decide +kernel
theorem dX7_findsGaps_18 : decode cX7_findsGaps 18 = .ok (.iadd, 1) := by decide +kernel
theorem dX7_findsGaps_19 : decode cX7_findsGaps 19 = .ok (.laload, 1) := by decide +kernel
theorem dX7_findsGaps_20 : decode cX7_findsGaps 20 = .ok (.aload_n 0, 1) := by decide +kernel
theorem dX7_findsGaps_21 : decode cX7_findsGaps 21 = .ok (.getfield 29, 3) := by decide +kernel
theorem dX7_findsGaps_24 : decode cX7_findsGaps 24 = .ok (.iload_n 1, 1) := by decide +kernel
theorem dX7_findsGaps_25 : decode cX7_findsGaps 25 = .ok (.laload, 1) := by decide +kernel
theorem dX7_findsGaps_26 : decode cX7_findsGaps 26 = .ok (.lsub, 1) := by decide +kernel
theorem dX7_findsGaps_27 : decode cX7_findsGaps 27 = .ok (.lstore_n 2, 1) := by decide +kernel
theorem dX7_findsGaps_28 : decode cX7_findsGaps 28 = .ok (.iload_n 1, 1) := by decide +kernel
theorem dX7_findsGaps_29 : decode cX7_findsGaps 29 = .ok (.istore 4, 2) := by decide +kernel
theorem dX7_findsGaps_31 : decode cX7_findsGaps 31 = .ok (.iload 4, 2) := by decide +kernel
theorem dX7_findsGaps_33 : decode cX7_findsGaps 33 = .ok (.ifCond .le 39, 3) := by decide +kernel
theorem dX7_findsGaps_36 : decode cX7_findsGaps 36 = .ok (.aload_n 0, 1) := by decide +kernel
theorem dX7_findsGaps_37 : decode cX7_findsGaps 37 = .ok (.getfield 42, 3) := by decide +kernel
theorem dX7_findsGaps_40 : decode cX7_findsGaps 40 = .ok (.iload 4, 2) := by decide +kernel
theorem dX7_findsGaps_42 : decode cX7_findsGaps 42 = .ok (.iconst 1, 1) := by decide +kernel
theorem dX7_findsGaps_43 : decode cX7_findsGaps 43 = .ok (.isub, 1) := by decide +kernel
theorem dX7_findsGaps_44 : decode cX7_findsGaps 44 = .ok (.laload, 1) := by decide +kernel
theorem dX7_findsGaps_45 : decode cX7_findsGaps 45 = .ok (.lload_n 2, 1) := by decide +kernel
theorem dX7_findsGaps_46 : decode cX7_findsGaps 46 = .ok (.lcmp, 1) := by decide +kernel
theorem dX7_findsGaps_47 : decode cX7_findsGaps 47 = .ok (.ifCond .le 25, 3) := by decide +kernel
theorem dX7_findsGaps_50 : decode cX7_findsGaps 50 = .ok (.aload_n 0, 1) := by decide +kernel
theorem dX7_findsGaps_51 : decode cX7_findsGaps 51 = .ok (.getfield 42, 3) := by decide +kernel
theorem dX7_findsGaps_54 : decode cX7_findsGaps 54 = .ok (.iload 4, 2) := by decide +kernel
theorem dX7_findsGaps_56 : decode cX7_findsGaps 56 = .ok (.aload_n 0, 1) := by decide +kernel
theorem dX7_findsGaps_57 : decode cX7_findsGaps 57 = .ok (.getfield 42, 3) := by decide +kernel
theorem dX7_findsGaps_60 : decode cX7_findsGaps 60 = .ok (.iload 4, 2) := by decide +kernel
theorem dX7_findsGaps_62 : decode cX7_findsGaps 62 = .ok (.iconst 1, 1) := by decide +kernel
theorem dX7_findsGaps_63 : decode cX7_findsGaps 63 = .ok (.isub, 1) := by decide +kernel
theorem dX7_findsGaps_64 : decode cX7_findsGaps 64 = .ok (.laload, 1) := by decide +kernel
theorem dX7_findsGaps_65 : decode cX7_findsGaps 65 = .ok (.lastore, 1) := by decide +kernel
theorem dX7_findsGaps_66 : decode cX7_findsGaps 66 = .ok (.iinc 4 (-1), 3) := by decide +kernel
theorem dX7_findsGaps_69 : decode cX7_findsGaps 69 = .ok (.goto (-38), 3) := by decide +kernel
theorem dX7_findsGaps_72 : decode cX7_findsGaps 72 = .ok (.aload_n 0, 1) := by decide +kernel
theorem dX7_findsGaps_73 : decode cX7_findsGaps 73 = .ok (.getfield 42, 3) := by decide +kernel
theorem dX7_findsGaps_76 : decode cX7_findsGaps 76 = .ok (.iload 4, 2) := by decide +kernel
theorem dX7_findsGaps_78 : decode cX7_findsGaps 78 = .ok (.lload_n 2, 1) := by decide +kernel
theorem dX7_findsGaps_79 : decode cX7_findsGaps 79 = .ok (.lastore, 1) := by decide +kernel
theorem dX7_findsGaps_80 : decode cX7_findsGaps 80 = .ok (.iinc 1 1, 3) := by decide +kernel
theorem dX7_findsGaps_83 : decode cX7_findsGaps 83 = .ok (.goto (-81), 3) := by decide +kernel
theorem dX7_findsGaps_86 : decode cX7_findsGaps 86 = .ok (.aload_n 0, 1) := by decide +kernel
theorem dX7_findsGaps_87 : decode cX7_findsGaps 87 = .ok (.aload_n 0, 1) := by decide +kernel
theorem dX7_findsGaps_88 : decode cX7_findsGaps 88 = .ok (.getfield 153, 3) := by decide +kernel
theorem dX7_findsGaps_91 : decode cX7_findsGaps 91 = .ok (.ifCond .le 16, 3) := by decide +kernel
theorem dX7_findsGaps_94 : decode cX7_findsGaps 94 = .ok (.aload_n 0, 1) := by decide +kernel
theorem dX7_findsGaps_95 : decode cX7_findsGaps 95 = .ok (.getfield 153, 3) := by decide +kernel
theorem dX7_findsGaps_98 : decode cX7_findsGaps 98 = .ok (.i2l, 1) := by decide +kernel
theorem dX7_findsGaps_99 : decode cX7_findsGaps 99 = .ok (.aload_n 0, 1) := by decide +kernel
theorem dX7_findsGaps_100 : decode cX7_findsGaps 100 = .ok (.getfield 161, 3) := by decide +kernel
theorem dX7_findsGaps_103 : decode cX7_findsGaps 103 = .ok (.lmul, 1) := by decide +kernel
theorem dX7_findsGaps_104 : decode cX7_findsGaps 104 = .ok (.goto 28, 3) := by decide +kernel
theorem dX7_findsGaps_107 : decode cX7_findsGaps 107 = .ok (.aload_n 0, 1) := by decide +kernel
theorem dX7_findsGaps_108 : decode cX7_findsGaps 108 = .ok (.getfield 81, 3) := by decide +kernel
theorem dX7_findsGaps_111 : decode cX7_findsGaps 111 = .ok (.iconst 1, 1) := by decide +kernel
theorem dX7_findsGaps_112 : decode cX7_findsGaps 112 = .ok (.if_icmp .le 19, 3) := by decide +kernel
theorem dX7_findsGaps_115 : decode cX7_findsGaps 115 = .ok (.aload_n 0, 1) := by decide +kernel
theorem dX7_findsGaps_116 : decode cX7_findsGaps 116 = .ok (.getfield 42, 3) := by decide +kernel
theorem dX7_findsGaps_119 : decode cX7_findsGaps 119 = .ok (.aload_n 0, 1) := by decide +kernel
theorem dX7_findsGaps_120 : decode cX7_findsGaps 120 = .ok (.getfield 81, 3) := by decide +kernel
theorem dX7_findsGaps_123 : decode cX7_findsGaps 123 = .ok (.iconst 2, 1) := by decide +kernel
theorem dX7_findsGaps_124 : decode cX7_findsGaps 124 = .ok (.isub, 1) := by decide +kernel
theorem dX7_findsGaps_125 : decode cX7_findsGaps 125 = .ok (.iconst 2, 1) := by decide +kernel
theorem dX7_findsGaps_126 : decode cX7_findsGaps 126 = .ok (.idiv, 1) := by decide +kernel
theorem dX7_findsGaps_127 : decode cX7_findsGaps 127 = .ok (.laload, 1) := by decide +kernel
theorem dX7_findsGaps_128 : decode cX7_findsGaps 128 = .ok (.goto 4, 3) := by decide +kernel
theorem dX7_findsGaps_131 : decode cX7_findsGaps 131 = .ok (.lconst 0, 1) := by decide +kernel
theorem dX7_findsGaps_132 : decode cX7_findsGaps 132 = .ok (.putfield 165, 3) := by decide +kernel
theorem dX7_findsGaps_135 : decode cX7_findsGaps 135 = .ok (.return_, 1) := by decide +kernel
theorem dX7_finds_0 : decode cX7_finds 0 = .ok (.aload_n 0, 1) := by decide +kernel
theorem dX7_finds_1 : decode cX7_finds 1 = .ok (.invokevirtual 150, 3) := by decide +kernel
theorem dX7_finds_4 : decode cX7_finds 4 = .ok (.iconst 1, 1) := by decide +kernel
theorem dX7_finds_5 : decode cX7_finds 5 = .ok (.if_icmp .ne 14, 3) := by decide +kernel
theorem dX7_finds_8 : decode cX7_finds 8 = .ok (.aload_n 0, 1) := by decide +kernel
theorem dX7_finds_9 : decode cX7_finds 9 = .ok (.invokevirtual 103, 3) := by decide +kernel
theorem dX7_finds_12 : decode cX7_finds 12 = .ok (.ifCond .ne 7, 3) := by decide +kernel
theorem dX7_finds_15 : decode cX7_finds 15 = .ok (.iconst 0, 1) := by decide +kernel
theorem dX7_finds_16 : decode cX7_finds 16 = .ok (.goto 7, 3) := by decide +kernel
theorem dX7_finds_19 : decode cX7_finds 19 = .ok (.aload_n 0, 1) := by decide +kernel
theorem dX7_finds_20 : decode cX7_finds 20 = .ok (.invokevirtual 150, 3) := by decide +kernel
theorem dX7_finds_23 : decode cX7_finds 23 = .ok (.istore_n 1, 1) := by decide +kernel
theorem dX7_finds_24 : decode cX7_finds 24 = .ok (.aload_n 0, 1) := by decide +kernel
theorem dX7_finds_25 : decode cX7_finds 25 = .ok (.iload_n 1, 1) := by decide +kernel
theorem dX7_finds_26 : decode cX7_finds 26 = .ok (.iconst 2, 1) := by decide +kernel
theorem dX7_finds_27 : decode cX7_finds 27 = .ok (.if_icmp .ne 9, 3) := by decide +kernel
theorem dX7_finds_30 : decode cX7_finds 30 = .ok (.ldc2_w 168, 3) := by decide +kernel
theorem dX7_finds_33 : decode cX7_finds 33 = .ok (.goto 21, 3) := by decide +kernel
theorem dX7_finds_36 : decode cX7_finds 36 = .ok (.iload_n 1, 1) := by decide +kernel
theorem dX7_finds_37 : decode cX7_finds 37 = .ok (.iconst 1, 1) := by decide +kernel
theorem dX7_finds_38 : decode cX7_finds 38 = .ok (.if_icmp .ne 11, 3) := by decide +kernel
theorem dX7_finds_41 : decode cX7_finds 41 = .ok (.aload_n 0, 1) := by decide +kernel
theorem dX7_finds_42 : decode cX7_finds 42 = .ok (.invokevirtual 103, 3) := by decide +kernel
theorem dX7_finds_45 : decode cX7_finds 45 = .ok (.i2l, 1) := by decide +kernel
theorem dX7_finds_46 : decode cX7_finds 46 = .ok (.goto 8, 3) := by decide +kernel
theorem dX7_finds_49 : decode cX7_finds 49 = .ok (.aload_n 0, 1) := by decide +kernel
theorem dX7_finds_50 : decode cX7_finds 50 = .ok (.invokevirtual 107, 3) := by decide +kernel
theorem dX7_finds_53 : decode cX7_finds 53 = .ok (.i2l, 1) := by decide +kernel
theorem dX7_finds_54 : decode cX7_finds 54 = .ok (.putfield 161, 3) := by decide +kernel
theorem dX7_finds_57 : decode cX7_finds 57 = .ok (.iconst 0, 1) := by decide +kernel
theorem dX7_finds_58 : decode cX7_finds 58 = .ok (.istore_n 2, 1) := by decide +kernel
theorem dX7_finds_59 : decode cX7_finds 59 = .ok (.iload_n 2, 1) := by decide +kernel
theorem dX7_finds_60 : decode cX7_finds 60 = .ok (.aload_n 0, 1) := by decide +kernel
theorem dX7_finds_61 : decode cX7_finds 61 = .ok (.getfield 81, 3) := by decide +kernel
theorem dX7_finds_64 : decode cX7_finds 64 = .ok (.if_icmp .ge 53, 3) := by decide +kernel
theorem dX7_finds_67 : decode cX7_finds 67 = .ok (.aload_n 0, 1) := by decide +kernel
theorem dX7_finds_68 : decode cX7_finds 68 = .ok (.getfield 29, 3) := by decide +kernel
theorem dX7_finds_71 : decode cX7_finds 71 = .ok (.iload_n 2, 1) := by decide +kernel
theorem dX7_finds_72 : decode cX7_finds 72 = .ok (.aload_n 0, 1) := by decide +kernel
theorem dX7_finds_73 : decode cX7_finds 73 = .ok (.getfield 7, 3) := by decide +kernel
theorem dX7_finds_76 : decode cX7_finds 76 = .ok (.iload_n 2, 1) := by decide +kernel
theorem dX7_finds_77 : decode cX7_finds 77 = .ok (.iaload, 1) := by decide +kernel
theorem dX7_finds_78 : decode cX7_finds 78 = .ok (.bipush 60, 2) := by decide +kernel
theorem dX7_finds_80 : decode cX7_finds 80 = .ok (.idiv, 1) := by decide +kernel
theorem dX7_finds_81 : decode cX7_finds 81 = .ok (.i2l, 1) := by decide +kernel
theorem dX7_finds_82 : decode cX7_finds 82 = .ok (.ldc2_w 130, 3) := by decide +kernel
theorem dX7_finds_85 : decode cX7_finds 85 = .ok (.lmul, 1) := by decide +kernel
theorem dX7_finds_86 : decode cX7_finds 86 = .ok (.aload_n 0, 1) := by decide +kernel
theorem dX7_finds_87 : decode cX7_finds 87 = .ok (.getfield 161, 3) := by decide +kernel
theorem dX7_finds_90 : decode cX7_finds 90 = .ok (.lmul, 1) := by decide +kernel
theorem dX7_finds_91 : decode cX7_finds 91 = .ok (.aload_n 0, 1) := by decide +kernel
theorem dX7_finds_92 : decode cX7_finds 92 = .ok (.iload_n 1, 1) := by decide +kernel
theorem dX7_finds_93 : decode cX7_finds 93 = .ok (.aload_n 0, 1) := by decide +kernel
theorem dX7_finds_94 : decode cX7_finds 94 = .ok (.aload_n 0, 1) := by decide +kernel
theorem dX7_finds_95 : decode cX7_finds 95 = .ok (.getfield 7, 3) := by decide +kernel
theorem dX7_finds_98 : decode cX7_finds 98 = .ok (.iload_n 2, 1) := by decide +kernel
theorem dX7_finds_99 : decode cX7_finds 99 = .ok (.iaload, 1) := by decide +kernel
theorem dX7_finds_100 : decode cX7_finds 100 = .ok (.bipush 60, 2) := by decide +kernel
theorem dX7_finds_102 : decode cX7_finds 102 = .ok (.irem, 1) := by decide +kernel
theorem dX7_finds_103 : decode cX7_finds 103 = .ok (.invokevirtual 113, 3) := by decide +kernel
theorem dX7_finds_106 : decode cX7_finds 106 = .ok (.invokevirtual 170, 3) := by decide +kernel
theorem dX7_finds_109 : decode cX7_finds 109 = .ok (.ladd, 1) := by decide +kernel
theorem dX7_finds_110 : decode cX7_finds 110 = .ok (.lastore, 1) := by decide +kernel
theorem dX7_finds_111 : decode cX7_finds 111 = .ok (.iinc 2 1, 3) := by decide +kernel
theorem dX7_finds_114 : decode cX7_finds 114 = .ok (.goto (-55), 3) := by decide +kernel
theorem dX7_finds_117 : decode cX7_finds 117 = .ok (.aload_n 0, 1) := by decide +kernel
theorem dX7_finds_118 : decode cX7_finds 118 = .ok (.invokevirtual 173, 3) := by decide +kernel
theorem dX7_finds_121 : decode cX7_finds 121 = .ok (.iconst 0, 1) := by decide +kernel
theorem dX7_finds_122 : decode cX7_finds 122 = .ok (.istore_n 2, 1) := by decide +kernel
theorem dX7_finds_123 : decode cX7_finds 123 = .ok (.iconst 0, 1) := by decide +kernel
theorem dX7_finds_124 : decode cX7_finds 124 = .ok (.istore_n 3, 1) := by decide +kernel
theorem dX7_finds_125 : decode cX7_finds 125 = .ok (.iload_n 3, 1) := by decide +kernel
theorem dX7_finds_126 : decode cX7_finds 126 = .ok (.aload_n 0, 1) := by decide +kernel
theorem dX7_finds_127 : decode cX7_finds 127 = .ok (.getfield 81, 3) := by decide +kernel
theorem dX7_finds_130 : decode cX7_finds 130 = .ok (.if_icmp .ge 171, 3) := by decide +kernel
theorem dX7_finds_133 : decode cX7_finds 133 = .ok (.aload_n 0, 1) := by decide +kernel
theorem dX7_finds_134 : decode cX7_finds 134 = .ok (.getfield 33, 3) := by decide +kernel
theorem dX7_finds_137 : decode cX7_finds 137 = .ok (.iload_n 3, 1) := by decide +kernel
theorem dX7_finds_138 : decode cX7_finds 138 = .ok (.iload_n 3, 1) := by decide +kernel
theorem dX7_finds_139 : decode cX7_finds 139 = .ok (.aload_n 0, 1) := by decide +kernel
theorem dX7_finds_140 : decode cX7_finds 140 = .ok (.getfield 156, 3) := by decide +kernel
theorem dX7_finds_143 : decode cX7_finds 143 = .ok (.iconst 1, 1) := by decide +kernel
theorem dX7_finds_144 : decode cX7_finds 144 = .ok (.if_icmp .ne 7, 3) := by decide +kernel
theorem dX7_finds_147 : decode cX7_finds 147 = .ok (.iload_n 2, 1) := by decide +kernel
theorem dX7_finds_148 : decode cX7_finds 148 = .ok (.goto 4, 3) := by decide +kernel
theorem dX7_finds_151 : decode cX7_finds 151 = .ok (.iconst 0, 1) := by decide +kernel
theorem dX7_finds_152 : decode cX7_finds 152 = .ok (.iadd, 1) := by decide +kernel
theorem dX7_finds_153 : decode cX7_finds 153 = .ok (.iastore, 1) := by decide +kernel
theorem dX7_finds_154 : decode cX7_finds 154 = .ok (.iload_n 3, 1) := by decide +kernel
theorem dX7_finds_155 : decode cX7_finds 155 = .ok (.iconst 1, 1) := by decide +kernel
theorem dX7_finds_156 : decode cX7_finds 156 = .ok (.iadd, 1) := by decide +kernel
theorem dX7_finds_157 : decode cX7_finds 157 = .ok (.aload_n 0, 1) := by decide +kernel
theorem dX7_finds_158 : decode cX7_finds 158 = .ok (.getfield 81, 3) := by decide +kernel
theorem dX7_finds_161 : decode cX7_finds 161 = .ok (.if_icmp .ge 21, 3) := by decide +kernel
theorem dX7_finds_164 : decode cX7_finds 164 = .ok (.aload_n 0, 1) := by decide +kernel
theorem dX7_finds_165 : decode cX7_finds 165 = .ok (.getfield 29, 3) := by decide +kernel
theorem dX7_finds_168 : decode cX7_finds 168 = .ok (.iload_n 3, 1) := by decide +kernel
theorem dX7_finds_169 : decode cX7_finds 169 = .ok (.iconst 1, 1) := by decide +kernel
theorem dX7_finds_170 : decode cX7_finds 170 = .ok (.iadd, 1) := by decide +kernel
theorem dX7_finds_171 : decode cX7_finds 171 = .ok (.laload, 1) := by decide +kernel
theorem dX7_finds_172 : decode cX7_finds 172 = .ok (.aload_n 0, 1) := by decide +kernel
theorem dX7_finds_173 : decode cX7_finds 173 = .ok (.getfield 29, 3) := by decide +kernel
theorem dX7_finds_176 : decode cX7_finds 176 = .ok (.iload_n 3, 1) := by decide +kernel
theorem dX7_finds_177 : decode cX7_finds 177 = .ok (.laload, 1) := by decide +kernel
theorem dX7_finds_178 : decode cX7_finds 178 = .ok (.lsub, 1) := by decide +kernel
theorem dX7_finds_179 : decode cX7_finds 179 = .ok (.goto 4, 3) := by decide +kernel
theorem dX7_finds_182 : decode cX7_finds 182 = .ok (.lconst 0, 1) := by decide +kernel
theorem dX7_finds_183 : decode cX7_finds 183 = .ok (.lstore 4, 2) := by decide +kernel
theorem dX7_finds_185 : decode cX7_finds 185 = .ok (.aload_n 0, 1) := by decide +kernel
theorem dX7_finds_186 : decode cX7_finds 186 = .ok (.getfield 165, 3) := by decide +kernel
theorem dX7_finds_189 : decode cX7_finds 189 = .ok (.lconst 0, 1) := by decide +kernel
theorem dX7_finds_190 : decode cX7_finds 190 = .ok (.lcmp, 1) := by decide +kernel
theorem dX7_finds_191 : decode cX7_finds 191 = .ok (.ifCond .le 38, 3) := by decide +kernel
theorem dX7_finds_194 : decode cX7_finds 194 = .ok (.iload_n 3, 1) := by decide +kernel
theorem dX7_finds_195 : decode cX7_finds 195 = .ok (.iconst 1, 1) := by decide +kernel
theorem dX7_finds_196 : decode cX7_finds 196 = .ok (.iadd, 1) := by decide +kernel
theorem dX7_finds_197 : decode cX7_finds 197 = .ok (.aload_n 0, 1) := by decide +kernel
theorem dX7_finds_198 : decode cX7_finds 198 = .ok (.getfield 81, 3) := by decide +kernel
theorem dX7_finds_201 : decode cX7_finds 201 = .ok (.if_icmp .ge 28, 3) := by decide +kernel
theorem dX7_finds_204 : decode cX7_finds 204 = .ok (.ldc2_w 168, 3) := by decide +kernel
theorem dX7_finds_207 : decode cX7_finds 207 = .ok (.lload 4, 2) := by decide +kernel
theorem dX7_finds_209 : decode cX7_finds 209 = .ok (.lmul, 1) := by decide +kernel
theorem dX7_finds_210 : decode cX7_finds 210 = .ok (.aload_n 0, 1) := by decide +kernel
theorem dX7_finds_211 : decode cX7_finds 211 = .ok (.getfield 165, 3) := by decide +kernel
theorem dX7_finds_214 : decode cX7_finds 214 = .ok (.ladd, 1) := by decide +kernel
theorem dX7_finds_215 : decode cX7_finds 215 = .ok (.ldc2_w 168, 3) := by decide +kernel
theorem dX7_finds_218 : decode cX7_finds 218 = .ok (.aload_n 0, 1) := by decide +kernel
theorem dX7_finds_219 : decode cX7_finds 219 = .ok (.getfield 165, 3) := by decide +kernel
theorem dX7_finds_222 : decode cX7_finds 222 = .ok (.lmul, 1) := by decide +kernel
theorem dX7_finds_223 : decode cX7_finds 223 = .ok (.ldiv, 1) := by decide +kernel
theorem dX7_finds_224 : decode cX7_finds 224 = .ok (.lconst 1, 1) := by decide +kernel
theorem dX7_finds_225 : decode cX7_finds 225 = .ok (.lsub, 1) := by decide +kernel
theorem dX7_finds_226 : decode cX7_finds 226 = .ok (.goto 4, 3) := by decide +kernel
theorem dX7_finds_229 : decode cX7_finds 229 = .ok (.lconst 0, 1) := by decide +kernel
theorem dX7_finds_230 : decode cX7_finds 230 = .ok (.lstore 6, 2) := by decide +kernel
theorem dX7_finds_232 : decode cX7_finds 232 = .ok (.aload_n 0, 1) := by decide +kernel
theorem dX7_finds_233 : decode cX7_finds 233 = .ok (.getfield 39, 3) := by decide +kernel
theorem dX7_finds_236 : decode cX7_finds 236 = .ok (.iload_n 3, 1) := by decide +kernel
theorem dX7_finds_237 : decode cX7_finds 237 = .ok (.lload 6, 2) := by decide +kernel
theorem dX7_finds_239 : decode cX7_finds 239 = .ok (.ldc2_w 176, 3) := by decide +kernel
theorem dX7_finds_242 : decode cX7_finds 242 = .ok (.lcmp, 1) := by decide +kernel
theorem dX7_finds_243 : decode cX7_finds 243 = .ok (.ifCond .le 7, 3) := by decide +kernel
theorem dX7_finds_246 : decode cX7_finds 246 = .ok (.iconst 1, 1) := by decide +kernel
theorem dX7_finds_247 : decode cX7_finds 247 = .ok (.goto 4, 3) := by decide +kernel
theorem dX7_finds_250 : decode cX7_finds 250 = .ok (.iconst 0, 1) := by decide +kernel
theorem dX7_finds_251 : decode cX7_finds 251 = .ok (.bastore, 1) := by decide +kernel
theorem dX7_finds_252 : decode cX7_finds 252 = .ok (.aload_n 0, 1) := by decide +kernel
theorem dX7_finds_253 : decode cX7_finds 253 = .ok (.getfield 36, 3) := by decide +kernel
theorem dX7_finds_256 : decode cX7_finds 256 = .ok (.iload_n 3, 1) := by decide +kernel
theorem dX7_finds_257 : decode cX7_finds 257 = .ok (.lload 6, 2) := by decide +kernel
theorem dX7_finds_259 : decode cX7_finds 259 = .ok (.lconst 0, 1) := by decide +kernel
theorem dX7_finds_260 : decode cX7_finds 260 = .ok (.lcmp, 1) := by decide +kernel
theorem dX7_finds_261 : decode cX7_finds 261 = .ok (.ifCond .ge 7, 3) := by decide +kernel
theorem dX7_finds_264 : decode cX7_finds 264 = .ok (.iconst 0, 1) := by decide +kernel
theorem dX7_finds_265 : decode cX7_finds 265 = .ok (.goto 20, 3) := by decide +kernel
theorem dX7_finds_268 : decode cX7_finds 268 = .ok (.lload 6, 2) := by decide +kernel
theorem dX7_finds_270 : decode cX7_finds 270 = .ok (.ldc2_w 176, 3) := by decide +kernel
theorem dX7_finds_273 : decode cX7_finds 273 = .ok (.lcmp, 1) := by decide +kernel
theorem dX7_finds_274 : decode cX7_finds 274 = .ok (.ifCond .le 8, 3) := by decide +kernel
theorem dX7_finds_277 : decode cX7_finds 277 = .ok (.bipush 9, 2) := by decide +kernel
theorem dX7_finds_279 : decode cX7_finds 279 = .ok (.goto 6, 3) := by decide +kernel
theorem dX7_finds_282 : decode cX7_finds 282 = .ok (.lload 6, 2) := by decide +kernel
theorem dX7_finds_284 : decode cX7_finds 284 = .ok (.l2i, 1) := by decide +kernel
theorem dX7_finds_285 : decode cX7_finds 285 = .ok (.iastore, 1) := by decide +kernel
theorem dX7_finds_286 : decode cX7_finds 286 = .ok (.iload_n 2, 1) := by decide +kernel
theorem dX7_finds_287 : decode cX7_finds 287 = .ok (.aload_n 0, 1) := by decide +kernel
theorem dX7_finds_288 : decode cX7_finds 288 = .ok (.getfield 36, 3) := by decide +kernel
theorem dX7_finds_291 : decode cX7_finds 291 = .ok (.iload_n 3, 1) := by decide +kernel
theorem dX7_finds_292 : decode cX7_finds 292 = .ok (.iaload, 1) := by decide +kernel
theorem dX7_finds_293 : decode cX7_finds 293 = .ok (.iadd, 1) := by decide +kernel
theorem dX7_finds_294 : decode cX7_finds 294 = .ok (.istore_n 2, 1) := by decide +kernel
theorem dX7_finds_295 : decode cX7_finds 295 = .ok (.iinc 3 1, 3) := by decide +kernel
theorem dX7_finds_298 : decode cX7_finds 298 = .ok (.goto (-173), 3) := by decide +kernel
theorem dX7_finds_301 : decode cX7_finds 301 = .ok (.return_, 1) := by decide +kernel
theorem dX7_boundOf_0 : decode cX7_boundOf 0 = .ok (.aload_n 0, 1) := by decide +kernel
theorem dX7_boundOf_1 : decode cX7_boundOf 1 = .ok (.aload_n 0, 1) := by decide +kernel
theorem dX7_boundOf_2 : decode cX7_boundOf 2 = .ok (.getfield 7, 3) := by decide +kernel
theorem dX7_boundOf_5 : decode cX7_boundOf 5 = .ok (.iload_n 1, 1) := by decide +kernel
theorem dX7_boundOf_6 : decode cX7_boundOf 6 = .ok (.iaload, 1) := by decide +kernel
theorem dX7_boundOf_7 : decode cX7_boundOf 7 = .ok (.bipush 60, 2) := by decide +kernel
theorem dX7_boundOf_9 : decode cX7_boundOf 9 = .ok (.irem, 1) := by decide +kernel
theorem dX7_boundOf_10 : decode cX7_boundOf 10 = .ok (.invokevirtual 113, 3) := by decide +kernel
theorem dX7_boundOf_13 : decode cX7_boundOf 13 = .ok (.istore_n 3, 1) := by decide +kernel
theorem dX7_boundOf_14 : decode cX7_boundOf 14 = .ok (.aload_n 0, 1) := by decide +kernel
theorem dX7_boundOf_15 : decode cX7_boundOf 15 = .ok (.getfield 7, 3) := by decide +kernel
theorem dX7_boundOf_18 : decode cX7_boundOf 18 = .ok (.iload_n 1, 1) := by decide +kernel
theorem dX7_boundOf_19 : decode cX7_boundOf 19 = .ok (.iaload, 1) := by decide +kernel
theorem dX7_boundOf_20 : decode cX7_boundOf 20 = .ok (.bipush 60, 2) := by decide +kernel
theorem dX7_boundOf_22 : decode cX7_boundOf 22 = .ok (.idiv, 1) := by decide +kernel
theorem dX7_boundOf_23 : decode cX7_boundOf 23 = .ok (.bipush 60, 2) := by decide +kernel
theorem dX7_boundOf_25 : decode cX7_boundOf 25 = .ok (.imul, 1) := by decide +kernel
theorem dX7_boundOf_26 : decode cX7_boundOf 26 = .ok (.iload_n 2, 1) := by decide +kernel
theorem dX7_boundOf_27 : decode cX7_boundOf 27 = .ok (.ifCond .eq 15, 3) := by decide +kernel
theorem dX7_boundOf_30 : decode cX7_boundOf 30 = .ok (.aload_n 0, 1) := by decide +kernel
theorem dX7_boundOf_31 : decode cX7_boundOf 31 = .ok (.iload_n 3, 1) := by decide +kernel
theorem dX7_boundOf_32 : decode cX7_boundOf 32 = .ok (.iconst 1, 1) := by decide +kernel
theorem dX7_boundOf_33 : decode cX7_boundOf 33 = .ok (.iadd, 1) := by decide +kernel
theorem dX7_boundOf_34 : decode cX7_boundOf 34 = .ok (.invokevirtual 100, 3) := by decide +kernel
theorem dX7_boundOf_37 : decode cX7_boundOf 37 = .ok (.iconst 1, 1) := by decide +kernel
theorem dX7_boundOf_38 : decode cX7_boundOf 38 = .ok (.isub, 1) := by decide +kernel
theorem dX7_boundOf_39 : decode cX7_boundOf 39 = .ok (.goto 8, 3) := by decide +kernel
theorem dX7_boundOf_42 : decode cX7_boundOf 42 = .ok (.aload_n 0, 1) := by decide +kernel
theorem dX7_boundOf_43 : decode cX7_boundOf 43 = .ok (.iload_n 3, 1) := by decide +kernel
theorem dX7_boundOf_44 : decode cX7_boundOf 44 = .ok (.invokevirtual 100, 3) := by decide +kernel
theorem dX7_boundOf_47 : decode cX7_boundOf 47 = .ok (.iadd, 1) := by decide +kernel
theorem dX7_boundOf_48 : decode cX7_boundOf 48 = .ok (.ireturn, 1) := by decide +kernel
theorem dX7_seenOf_0 : decode cX7_seenOf 0 = .ok (.aload_n 0, 1) := by decide +kernel
theorem dX7_seenOf_1 : decode cX7_seenOf 1 = .ok (.invokevirtual 178, 3) := by decide +kernel
theorem dX7_seenOf_4 : decode cX7_seenOf 4 = .ok (.iload_n 2, 1) := by decide +kernel
theorem dX7_seenOf_5 : decode cX7_seenOf 5 = .ok (.tableswitch 116 0 6 #[43, 50, 60, 74, 81, 88, 95], 43) := by decide +kernel
theorem dX7_seenOf_48 : decode cX7_seenOf 48 = .ok (.aload_n 0, 1) := by decide +kernel
theorem dX7_seenOf_49 : decode cX7_seenOf 49 = .ok (.getfield 7, 3) := by decide +kernel
theorem dX7_seenOf_52 : decode cX7_seenOf 52 = .ok (.iload_n 1, 1) := by decide +kernel
theorem dX7_seenOf_53 : decode cX7_seenOf 53 = .ok (.iaload, 1) := by decide +kernel
theorem dX7_seenOf_54 : decode cX7_seenOf 54 = .ok (.ireturn, 1) := by decide +kernel
theorem dX7_seenOf_55 : decode cX7_seenOf 55 = .ok (.aload_n 0, 1) := by decide +kernel
theorem dX7_seenOf_56 : decode cX7_seenOf 56 = .ok (.getfield 7, 3) := by decide +kernel
theorem dX7_seenOf_59 : decode cX7_seenOf 59 = .ok (.iload_n 1, 1) := by decide +kernel
theorem dX7_seenOf_60 : decode cX7_seenOf 60 = .ok (.iaload, 1) := by decide +kernel
theorem dX7_seenOf_61 : decode cX7_seenOf 61 = .ok (.bipush 60, 2) := by decide +kernel
theorem dX7_seenOf_63 : decode cX7_seenOf 63 = .ok (.idiv, 1) := by decide +kernel
theorem dX7_seenOf_64 : decode cX7_seenOf 64 = .ok (.ireturn, 1) := by decide +kernel
theorem dX7_seenOf_65 : decode cX7_seenOf 65 = .ok (.aload_n 0, 1) := by decide +kernel
theorem dX7_seenOf_66 : decode cX7_seenOf 66 = .ok (.aload_n 0, 1) := by decide +kernel
theorem dX7_seenOf_67 : decode cX7_seenOf 67 = .ok (.getfield 7, 3) := by decide +kernel
theorem dX7_seenOf_70 : decode cX7_seenOf 70 = .ok (.iload_n 1, 1) := by decide +kernel
theorem dX7_seenOf_71 : decode cX7_seenOf 71 = .ok (.iaload, 1) := by decide +kernel
theorem dX7_seenOf_72 : decode cX7_seenOf 72 = .ok (.bipush 60, 2) := by decide +kernel
theorem dX7_seenOf_74 : decode cX7_seenOf 74 = .ok (.irem, 1) := by decide +kernel
theorem dX7_seenOf_75 : decode cX7_seenOf 75 = .ok (.invokevirtual 113, 3) := by decide +kernel
theorem dX7_seenOf_78 : decode cX7_seenOf 78 = .ok (.ireturn, 1) := by decide +kernel
theorem dX7_seenOf_79 : decode cX7_seenOf 79 = .ok (.aload_n 0, 1) := by decide +kernel
theorem dX7_seenOf_80 : decode cX7_seenOf 80 = .ok (.iload_n 1, 1) := by decide +kernel
theorem dX7_seenOf_81 : decode cX7_seenOf 81 = .ok (.iconst 0, 1) := by decide +kernel
theorem dX7_seenOf_82 : decode cX7_seenOf 82 = .ok (.invokevirtual 181, 3) := by decide +kernel
theorem dX7_seenOf_85 : decode cX7_seenOf 85 = .ok (.ireturn, 1) := by decide +kernel
theorem dX7_seenOf_86 : decode cX7_seenOf 86 = .ok (.aload_n 0, 1) := by decide +kernel
theorem dX7_seenOf_87 : decode cX7_seenOf 87 = .ok (.iload_n 1, 1) := by decide +kernel
theorem dX7_seenOf_88 : decode cX7_seenOf 88 = .ok (.iconst 1, 1) := by decide +kernel
theorem dX7_seenOf_89 : decode cX7_seenOf 89 = .ok (.invokevirtual 181, 3) := by decide +kernel
theorem dX7_seenOf_92 : decode cX7_seenOf 92 = .ok (.ireturn, 1) := by decide +kernel
theorem dX7_seenOf_93 : decode cX7_seenOf 93 = .ok (.aload_n 0, 1) := by decide +kernel
theorem dX7_seenOf_94 : decode cX7_seenOf 94 = .ok (.getfield 33, 3) := by decide +kernel
theorem dX7_seenOf_97 : decode cX7_seenOf 97 = .ok (.iload_n 1, 1) := by decide +kernel
theorem dX7_seenOf_98 : decode cX7_seenOf 98 = .ok (.iaload, 1) := by decide +kernel
theorem dX7_seenOf_99 : decode cX7_seenOf 99 = .ok (.ireturn, 1) := by decide +kernel
theorem dX7_seenOf_100 : decode cX7_seenOf 100 = .ok (.iload_n 1, 1) := by decide +kernel
theorem dX7_seenOf_101 : decode cX7_seenOf 101 = .ok (.iconst 1, 1) := by decide +kernel
theorem dX7_seenOf_102 : decode cX7_seenOf 102 = .ok (.iadd, 1) := by decide +kernel
theorem dX7_seenOf_103 : decode cX7_seenOf 103 = .ok (.aload_n 0, 1) := by decide +kernel
theorem dX7_seenOf_104 : decode cX7_seenOf 104 = .ok (.getfield 81, 3) := by decide +kernel
theorem dX7_seenOf_107 : decode cX7_seenOf 107 = .ok (.if_icmp .ge 12, 3) := by decide +kernel
theorem dX7_seenOf_110 : decode cX7_seenOf 110 = .ok (.aload_n 0, 1) := by decide +kernel
theorem dX7_seenOf_111 : decode cX7_seenOf 111 = .ok (.getfield 36, 3) := by decide +kernel
theorem dX7_seenOf_114 : decode cX7_seenOf 114 = .ok (.iload_n 1, 1) := by decide +kernel
theorem dX7_seenOf_115 : decode cX7_seenOf 115 = .ok (.iaload, 1) := by decide +kernel
theorem dX7_seenOf_116 : decode cX7_seenOf 116 = .ok (.goto 4, 3) := by decide +kernel
theorem dX7_seenOf_119 : decode cX7_seenOf 119 = .ok (.iconst (-1), 1) := by decide +kernel
theorem dX7_seenOf_120 : decode cX7_seenOf 120 = .ok (.ireturn, 1) := by decide +kernel
theorem dX7_seenOf_121 : decode cX7_seenOf 121 = .ok (.aload_n 0, 1) := by decide +kernel
theorem dX7_seenOf_122 : decode cX7_seenOf 122 = .ok (.getfield 39, 3) := by decide +kernel
theorem dX7_seenOf_125 : decode cX7_seenOf 125 = .ok (.iload_n 1, 1) := by decide +kernel
theorem dX7_seenOf_126 : decode cX7_seenOf 126 = .ok (.baload, 1) := by decide +kernel
theorem dX7_seenOf_127 : decode cX7_seenOf 127 = .ok (.ifCond .eq 7, 3) := by decide +kernel
theorem dX7_seenOf_130 : decode cX7_seenOf 130 = .ok (.iconst 1, 1) := by decide +kernel
theorem dX7_seenOf_131 : decode cX7_seenOf 131 = .ok (.goto 4, 3) := by decide +kernel
theorem dX7_seenOf_134 : decode cX7_seenOf 134 = .ok (.iconst 0, 1) := by decide +kernel
theorem dX7_seenOf_135 : decode cX7_seenOf 135 = .ok (.ireturn, 1) := by decide +kernel
theorem dX7_seen_0 : decode cX7_seen 0 = .ok (.aload_n 0, 1) := by decide +kernel
theorem dX7_seen_1 : decode cX7_seen 1 = .ok (.iload_n 1, 1) := by decide +kernel
theorem dX7_seen_2 : decode cX7_seen 2 = .ok (.invokevirtual 96, 3) := by decide +kernel
theorem dX7_seen_5 : decode cX7_seen 5 = .ok (.ifCond .eq 22, 3) := by decide +kernel
theorem dX7_seen_8 : decode cX7_seen 8 = .ok (.iload_n 2, 1) := by decide +kernel
theorem dX7_seen_9 : decode cX7_seen 9 = .ok (.iconst 0, 1) := by decide +kernel
theorem dX7_seen_10 : decode cX7_seen 10 = .ok (.bipush 7, 2) := by decide +kernel
theorem dX7_seen_12 : decode cX7_seen 12 = .ok (.invokestatic 85, 3) := by decide +kernel
theorem dX7_seen_15 : decode cX7_seen 15 = .ok (.ifCond .eq 12, 3) := by decide +kernel
theorem dX7_seen_18 : decode cX7_seen 18 = .ok (.aload_n 0, 1) := by decide +kernel
theorem dX7_seen_19 : decode cX7_seen 19 = .ok (.iload_n 1, 1) := by decide +kernel
theorem dX7_seen_20 : decode cX7_seen 20 = .ok (.iload_n 2, 1) := by decide +kernel
theorem dX7_seen_21 : decode cX7_seen 21 = .ok (.invokevirtual 185, 3) := by decide +kernel
theorem dX7_seen_24 : decode cX7_seen 24 = .ok (.goto 5, 3) := by decide +kernel
theorem dX7_seen_27 : decode cX7_seen 27 = .ok (.bipush (-2), 2) := by decide +kernel
theorem dX7_seen_29 : decode cX7_seen 29 = .ok (.ireturn, 1) := by decide +kernel
theorem dX7_stampOf_0 : decode cX7_stampOf 0 = .ok (.aload_n 0, 1) := by decide +kernel
theorem dX7_stampOf_1 : decode cX7_stampOf 1 = .ok (.invokevirtual 178, 3) := by decide +kernel
theorem dX7_stampOf_4 : decode cX7_stampOf 4 = .ok (.aload_n 0, 1) := by decide +kernel
theorem dX7_stampOf_5 : decode cX7_stampOf 5 = .ok (.getfield 29, 3) := by decide +kernel
theorem dX7_stampOf_8 : decode cX7_stampOf 8 = .ok (.iload_n 1, 1) := by decide +kernel
theorem dX7_stampOf_9 : decode cX7_stampOf 9 = .ok (.laload, 1) := by decide +kernel
theorem dX7_stampOf_10 : decode cX7_stampOf 10 = .ok (.aload_n 0, 1) := by decide +kernel
theorem dX7_stampOf_11 : decode cX7_stampOf 11 = .ok (.getfield 161, 3) := by decide +kernel
theorem dX7_stampOf_14 : decode cX7_stampOf 14 = .ok (.iload_n 2, 1) := by decide +kernel
theorem dX7_stampOf_15 : decode cX7_stampOf 15 = .ok (.invokestatic 132, 3) := by decide +kernel
theorem dX7_stampOf_18 : decode cX7_stampOf 18 = .ok (.lreturn, 1) := by decide +kernel
theorem dX7_stamp_0 : decode cX7_stamp 0 = .ok (.aload_n 0, 1) := by decide +kernel
theorem dX7_stamp_1 : decode cX7_stamp 1 = .ok (.iload_n 1, 1) := by decide +kernel
theorem dX7_stamp_2 : decode cX7_stamp 2 = .ok (.invokevirtual 96, 3) := by decide +kernel
theorem dX7_stamp_5 : decode cX7_stamp 5 = .ok (.ifCond .eq 21, 3) := by decide +kernel
theorem dX7_stamp_8 : decode cX7_stamp 8 = .ok (.iload_n 2, 1) := by decide +kernel
theorem dX7_stamp_9 : decode cX7_stamp 9 = .ok (.iconst 0, 1) := by decide +kernel
theorem dX7_stamp_10 : decode cX7_stamp 10 = .ok (.iconst 1, 1) := by decide +kernel
theorem dX7_stamp_11 : decode cX7_stamp 11 = .ok (.invokestatic 85, 3) := by decide +kernel
theorem dX7_stamp_14 : decode cX7_stamp 14 = .ok (.ifCond .eq 12, 3) := by decide +kernel
theorem dX7_stamp_17 : decode cX7_stamp 17 = .ok (.aload_n 0, 1) := by decide +kernel
theorem dX7_stamp_18 : decode cX7_stamp 18 = .ok (.iload_n 1, 1) := by decide +kernel
theorem dX7_stamp_19 : decode cX7_stamp 19 = .ok (.iload_n 2, 1) := by decide +kernel
theorem dX7_stamp_20 : decode cX7_stamp 20 = .ok (.invokevirtual 188, 3) := by decide +kernel
theorem dX7_stamp_23 : decode cX7_stamp 23 = .ok (.goto 8, 3) := by decide +kernel
theorem dX7_stamp_26 : decode cX7_stamp 26 = .ok (.bipush (-2), 2) := by decide +kernel
theorem dX7_stamp_28 : decode cX7_stamp 28 = .ok (.invokestatic 126, 3) := by decide +kernel
theorem dX7_stamp_31 : decode cX7_stamp 31 = .ok (.lreturn, 1) := by decide +kernel
theorem dX7_referenceOf_0 : decode cX7_referenceOf 0 = .ok (.aload_n 0, 1) := by decide +kernel
theorem dX7_referenceOf_1 : decode cX7_referenceOf 1 = .ok (.invokevirtual 178, 3) := by decide +kernel
theorem dX7_referenceOf_4 : decode cX7_referenceOf 4 = .ok (.aload_n 0, 1) := by decide +kernel
theorem dX7_referenceOf_5 : decode cX7_referenceOf 5 = .ok (.getfield 153, 3) := by decide +kernel
theorem dX7_referenceOf_8 : decode cX7_referenceOf 8 = .ok (.ifCond .ne 19, 3) := by decide +kernel
theorem dX7_referenceOf_11 : decode cX7_referenceOf 11 = .ok (.aload_n 0, 1) := by decide +kernel
theorem dX7_referenceOf_12 : decode cX7_referenceOf 12 = .ok (.getfield 81, 3) := by decide +kernel
theorem dX7_referenceOf_15 : decode cX7_referenceOf 15 = .ok (.iconst 2, 1) := by decide +kernel
theorem dX7_referenceOf_16 : decode cX7_referenceOf 16 = .ok (.if_icmp .ge 11, 3) := by decide +kernel
theorem dX7_referenceOf_19 : decode cX7_referenceOf 19 = .ok (.bipush (-3), 2) := by decide +kernel
theorem dX7_referenceOf_21 : decode cX7_referenceOf 21 = .ok (.invokestatic 126, 3) := by decide +kernel
theorem dX7_referenceOf_24 : decode cX7_referenceOf 24 = .ok (.goto 15, 3) := by decide +kernel
theorem dX7_referenceOf_27 : decode cX7_referenceOf 27 = .ok (.aload_n 0, 1) := by decide +kernel
theorem dX7_referenceOf_28 : decode cX7_referenceOf 28 = .ok (.getfield 165, 3) := by decide +kernel
theorem dX7_referenceOf_31 : decode cX7_referenceOf 31 = .ok (.aload_n 0, 1) := by decide +kernel
theorem dX7_referenceOf_32 : decode cX7_referenceOf 32 = .ok (.getfield 161, 3) := by decide +kernel
theorem dX7_referenceOf_35 : decode cX7_referenceOf 35 = .ok (.iload_n 1, 1) := by decide +kernel
theorem dX7_referenceOf_36 : decode cX7_referenceOf 36 = .ok (.invokestatic 132, 3) := by decide +kernel
theorem dX7_referenceOf_39 : decode cX7_referenceOf 39 = .ok (.lreturn, 1) := by decide +kernel
theorem dX7_reference_0 : decode cX7_reference 0 = .ok (.iload_n 1, 1) := by decide +kernel
theorem dX7_reference_1 : decode cX7_reference 1 = .ok (.iconst 0, 1) := by decide +kernel
theorem dX7_reference_2 : decode cX7_reference 2 = .ok (.iconst 1, 1) := by decide +kernel
theorem dX7_reference_3 : decode cX7_reference 3 = .ok (.invokestatic 85, 3) := by decide +kernel
theorem dX7_reference_6 : decode cX7_reference 6 = .ok (.ifCond .eq 11, 3) := by decide +kernel
theorem dX7_reference_9 : decode cX7_reference 9 = .ok (.aload_n 0, 1) := by decide +kernel
theorem dX7_reference_10 : decode cX7_reference 10 = .ok (.iload_n 1, 1) := by decide +kernel
theorem dX7_reference_11 : decode cX7_reference 11 = .ok (.invokevirtual 191, 3) := by decide +kernel
theorem dX7_reference_14 : decode cX7_reference 14 = .ok (.goto 8, 3) := by decide +kernel
theorem dX7_reference_17 : decode cX7_reference 17 = .ok (.bipush (-2), 2) := by decide +kernel
theorem dX7_reference_19 : decode cX7_reference 19 = .ok (.invokestatic 126, 3) := by decide +kernel
theorem dX7_reference_22 : decode cX7_reference 22 = .ok (.lreturn, 1) := by decide +kernel
theorem dX7_gate_0 : decode cX7_gate 0 = .ok (.iload_n 1, 1) := by decide +kernel
theorem dX7_gate_1 : decode cX7_gate 1 = .ok (.iconst 0, 1) := by decide +kernel
theorem dX7_gate_2 : decode cX7_gate 2 = .ok (.sipush 5999, 3) := by decide +kernel
theorem dX7_gate_5 : decode cX7_gate 5 = .ok (.invokestatic 85, 3) := by decide +kernel
theorem dX7_gate_8 : decode cX7_gate 8 = .ok (.ifCond .eq 19, 3) := by decide +kernel
theorem dX7_gate_11 : decode cX7_gate 11 = .ok (.iload_n 2, 1) := by decide +kernel
theorem dX7_gate_12 : decode cX7_gate 12 = .ok (.iconst 0, 1) := by decide +kernel
theorem dX7_gate_13 : decode cX7_gate 13 = .ok (.sipush 5999, 3) := by decide +kernel
theorem dX7_gate_16 : decode cX7_gate 16 = .ok (.invokestatic 85, 3) := by decide +kernel
theorem dX7_gate_19 : decode cX7_gate 19 = .ok (.ifCond .eq 8, 3) := by decide +kernel
theorem dX7_gate_22 : decode cX7_gate 22 = .ok (.iload_n 2, 1) := by decide +kernel
theorem dX7_gate_23 : decode cX7_gate 23 = .ok (.iload_n 1, 1) := by decide +kernel
theorem dX7_gate_24 : decode cX7_gate 24 = .ok (.if_icmp .gt 6, 3) := by decide +kernel
theorem dX7_gate_27 : decode cX7_gate 27 = .ok (.bipush (-2), 2) := by decide +kernel
theorem dX7_gate_29 : decode cX7_gate 29 = .ok (.ireturn, 1) := by decide +kernel
theorem dX7_gate_30 : decode cX7_gate 30 = .ok (.aload_n 0, 1) := by decide +kernel
theorem dX7_gate_31 : decode cX7_gate 31 = .ok (.getfield 194, 3) := by decide +kernel
theorem dX7_gate_34 : decode cX7_gate 34 = .ok (.bipush 8, 2) := by decide +kernel
theorem dX7_gate_36 : decode cX7_gate 36 = .ok (.if_icmp .ne 6, 3) := by decide +kernel
theorem dX7_gate_39 : decode cX7_gate 39 = .ok (.bipush (-4), 2) := by decide +kernel
theorem dX7_gate_41 : decode cX7_gate 41 = .ok (.ireturn, 1) := by decide +kernel
theorem dX7_gate_42 : decode cX7_gate 42 = .ok (.aload_n 0, 1) := by decide +kernel
theorem dX7_gate_43 : decode cX7_gate 43 = .ok (.getfield 45, 3) := by decide +kernel
theorem dX7_gate_46 : decode cX7_gate 46 = .ok (.aload_n 0, 1) := by decide +kernel
theorem dX7_gate_47 : decode cX7_gate 47 = .ok (.getfield 194, 3) := by decide +kernel
theorem dX7_gate_50 : decode cX7_gate 50 = .ok (.iload_n 1, 1) := by decide +kernel
theorem dX7_gate_51 : decode cX7_gate 51 = .ok (.iastore, 1) := by decide +kernel
theorem dX7_gate_52 : decode cX7_gate 52 = .ok (.aload_n 0, 1) := by decide +kernel
theorem dX7_gate_53 : decode cX7_gate 53 = .ok (.getfield 48, 3) := by decide +kernel
theorem dX7_gate_56 : decode cX7_gate 56 = .ok (.aload_n 0, 1) := by decide +kernel
theorem dX7_gate_57 : decode cX7_gate 57 = .ok (.getfield 194, 3) := by decide +kernel
theorem dX7_gate_60 : decode cX7_gate 60 = .ok (.iload_n 2, 1) := by decide +kernel
theorem dX7_gate_61 : decode cX7_gate 61 = .ok (.iastore, 1) := by decide +kernel
theorem dX7_gate_62 : decode cX7_gate 62 = .ok (.aload_n 0, 1) := by decide +kernel
theorem dX7_gate_63 : decode cX7_gate 63 = .ok (.dup, 1) := by decide +kernel
theorem dX7_gate_64 : decode cX7_gate 64 = .ok (.getfield 194, 3) := by decide +kernel
theorem dX7_gate_67 : decode cX7_gate 67 = .ok (.iconst 1, 1) := by decide +kernel
theorem dX7_gate_68 : decode cX7_gate 68 = .ok (.iadd, 1) := by decide +kernel
theorem dX7_gate_69 : decode cX7_gate 69 = .ok (.putfield 194, 3) := by decide +kernel
theorem dX7_gate_72 : decode cX7_gate 72 = .ok (.aload_n 0, 1) := by decide +kernel
theorem dX7_gate_73 : decode cX7_gate 73 = .ok (.getfield 194, 3) := by decide +kernel
theorem dX7_gate_76 : decode cX7_gate 76 = .ok (.iconst 1, 1) := by decide +kernel
theorem dX7_gate_77 : decode cX7_gate 77 = .ok (.isub, 1) := by decide +kernel
theorem dX7_gate_78 : decode cX7_gate 78 = .ok (.ireturn, 1) := by decide +kernel
theorem dX7_back_0 : decode cX7_back 0 = .ok (.aload_n 0, 1) := by decide +kernel
theorem dX7_back_1 : decode cX7_back 1 = .ok (.getfield 194, 3) := by decide +kernel
theorem dX7_back_4 : decode cX7_back 4 = .ok (.ifCond .ne 6, 3) := by decide +kernel
theorem dX7_back_7 : decode cX7_back 7 = .ok (.bipush (-3), 2) := by decide +kernel
theorem dX7_back_9 : decode cX7_back 9 = .ok (.ireturn, 1) := by decide +kernel
theorem dX7_back_10 : decode cX7_back 10 = .ok (.aload_n 0, 1) := by decide +kernel
theorem dX7_back_11 : decode cX7_back 11 = .ok (.dup, 1) := by decide +kernel
theorem dX7_back_12 : decode cX7_back 12 = .ok (.getfield 194, 3) := by decide +kernel
theorem dX7_back_15 : decode cX7_back 15 = .ok (.iconst 1, 1) := by decide +kernel
theorem dX7_back_16 : decode cX7_back 16 = .ok (.isub, 1) := by decide +kernel
theorem dX7_back_17 : decode cX7_back 17 = .ok (.putfield 194, 3) := by decide +kernel
theorem dX7_back_20 : decode cX7_back 20 = .ok (.aload_n 0, 1) := by decide +kernel
theorem dX7_back_21 : decode cX7_back 21 = .ok (.getfield 194, 3) := by decide +kernel
theorem dX7_back_24 : decode cX7_back 24 = .ok (.ireturn, 1) := by decide +kernel
theorem dX7_isGate_0 : decode cX7_isGate 0 = .ok (.iload_n 1, 1) := by decide +kernel
theorem dX7_isGate_1 : decode cX7_isGate 1 = .ok (.iconst 0, 1) := by decide +kernel
theorem dX7_isGate_2 : decode cX7_isGate 2 = .ok (.aload_n 0, 1) := by decide +kernel
theorem dX7_isGate_3 : decode cX7_isGate 3 = .ok (.getfield 194, 3) := by decide +kernel
theorem dX7_isGate_6 : decode cX7_isGate 6 = .ok (.iconst 1, 1) := by decide +kernel
theorem dX7_isGate_7 : decode cX7_isGate 7 = .ok (.isub, 1) := by decide +kernel
theorem dX7_isGate_8 : decode cX7_isGate 8 = .ok (.invokestatic 85, 3) := by decide +kernel
theorem dX7_isGate_11 : decode cX7_isGate 11 = .ok (.ireturn, 1) := by decide +kernel
theorem dX7_opens_0 : decode cX7_opens 0 = .ok (.aload_n 0, 1) := by decide +kernel
theorem dX7_opens_1 : decode cX7_opens 1 = .ok (.aload_n 0, 1) := by decide +kernel
theorem dX7_opens_2 : decode cX7_opens 2 = .ok (.getfield 45, 3) := by decide +kernel
theorem dX7_opens_5 : decode cX7_opens 5 = .ok (.iload_n 1, 1) := by decide +kernel
theorem dX7_opens_6 : decode cX7_opens 6 = .ok (.iaload, 1) := by decide +kernel
theorem dX7_opens_7 : decode cX7_opens 7 = .ok (.invokevirtual 89, 3) := by decide +kernel
theorem dX7_opens_10 : decode cX7_opens 10 = .ok (.istore_n 2, 1) := by decide +kernel
theorem dX7_opens_11 : decode cX7_opens 11 = .ok (.iload_n 2, 1) := by decide +kernel
theorem dX7_opens_12 : decode cX7_opens 12 = .ok (.aload_n 0, 1) := by decide +kernel
theorem dX7_opens_13 : decode cX7_opens 13 = .ok (.getfield 81, 3) := by decide +kernel
theorem dX7_opens_16 : decode cX7_opens 16 = .ok (.if_icmp .ge 7, 3) := by decide +kernel
theorem dX7_opens_19 : decode cX7_opens 19 = .ok (.iload_n 2, 1) := by decide +kernel
theorem dX7_opens_20 : decode cX7_opens 20 = .ok (.goto 4, 3) := by decide +kernel
theorem dX7_opens_23 : decode cX7_opens 23 = .ok (.iconst (-1), 1) := by decide +kernel
theorem dX7_opens_24 : decode cX7_opens 24 = .ok (.ireturn, 1) := by decide +kernel
theorem dX7_closes_0 : decode cX7_closes 0 = .ok (.aload_n 0, 1) := by decide +kernel
theorem dX7_closes_1 : decode cX7_closes 1 = .ok (.aload_n 0, 1) := by decide +kernel
theorem dX7_closes_2 : decode cX7_closes 2 = .ok (.getfield 48, 3) := by decide +kernel
theorem dX7_closes_5 : decode cX7_closes 5 = .ok (.iload_n 1, 1) := by decide +kernel
theorem dX7_closes_6 : decode cX7_closes 6 = .ok (.iaload, 1) := by decide +kernel
theorem dX7_closes_7 : decode cX7_closes 7 = .ok (.invokevirtual 89, 3) := by decide +kernel
theorem dX7_closes_10 : decode cX7_closes 10 = .ok (.istore_n 2, 1) := by decide +kernel
theorem dX7_closes_11 : decode cX7_closes 11 = .ok (.iload_n 2, 1) := by decide +kernel
theorem dX7_closes_12 : decode cX7_closes 12 = .ok (.aload_n 0, 1) := by decide +kernel
theorem dX7_closes_13 : decode cX7_closes 13 = .ok (.getfield 81, 3) := by decide +kernel
theorem dX7_closes_16 : decode cX7_closes 16 = .ok (.if_icmp .ge 16, 3) := by decide +kernel
theorem dX7_closes_19 : decode cX7_closes 19 = .ok (.iload_n 2, 1) := by decide +kernel
theorem dX7_closes_20 : decode cX7_closes 20 = .ok (.aload_n 0, 1) := by decide +kernel
theorem dX7_closes_21 : decode cX7_closes 21 = .ok (.iload_n 1, 1) := by decide +kernel
theorem dX7_closes_22 : decode cX7_closes 22 = .ok (.invokevirtual 197, 3) := by decide +kernel
theorem dX7_closes_25 : decode cX7_closes 25 = .ok (.if_icmp .eq 7, 3) := by decide +kernel
theorem dX7_closes_28 : decode cX7_closes 28 = .ok (.iload_n 2, 1) := by decide +kernel
theorem dX7_closes_29 : decode cX7_closes 29 = .ok (.goto 4, 3) := by decide +kernel
theorem dX7_closes_32 : decode cX7_closes 32 = .ok (.iconst (-1), 1) := by decide +kernel
theorem dX7_closes_33 : decode cX7_closes 33 = .ok (.ireturn, 1) := by decide +kernel
theorem dX7_periodsOf_0 : decode cX7_periodsOf 0 = .ok (.aload_n 0, 1) := by decide +kernel
theorem dX7_periodsOf_1 : decode cX7_periodsOf 1 = .ok (.invokevirtual 178, 3) := by decide +kernel
theorem dX7_periodsOf_4 : decode cX7_periodsOf 4 = .ok (.aload_n 0, 1) := by decide +kernel
theorem dX7_periodsOf_5 : decode cX7_periodsOf 5 = .ok (.iload_n 1, 1) := by decide +kernel
theorem dX7_periodsOf_6 : decode cX7_periodsOf 6 = .ok (.invokevirtual 200, 3) := by decide +kernel
theorem dX7_periodsOf_9 : decode cX7_periodsOf 9 = .ok (.iconst (-1), 1) := by decide +kernel
theorem dX7_periodsOf_10 : decode cX7_periodsOf 10 = .ok (.if_icmp .ne 7, 3) := by decide +kernel
theorem dX7_periodsOf_13 : decode cX7_periodsOf 13 = .ok (.iconst (-1), 1) := by decide +kernel
theorem dX7_periodsOf_14 : decode cX7_periodsOf 14 = .ok (.goto 24, 3) := by decide +kernel
theorem dX7_periodsOf_17 : decode cX7_periodsOf 17 = .ok (.aload_n 0, 1) := by decide +kernel
theorem dX7_periodsOf_18 : decode cX7_periodsOf 18 = .ok (.getfield 33, 3) := by decide +kernel
theorem dX7_periodsOf_21 : decode cX7_periodsOf 21 = .ok (.aload_n 0, 1) := by decide +kernel
theorem dX7_periodsOf_22 : decode cX7_periodsOf 22 = .ok (.iload_n 1, 1) := by decide +kernel
theorem dX7_periodsOf_23 : decode cX7_periodsOf 23 = .ok (.invokevirtual 200, 3) := by decide +kernel
theorem dX7_periodsOf_26 : decode cX7_periodsOf 26 = .ok (.iaload, 1) := by decide +kernel
theorem dX7_periodsOf_27 : decode cX7_periodsOf 27 = .ok (.aload_n 0, 1) := by decide +kernel
theorem dX7_periodsOf_28 : decode cX7_periodsOf 28 = .ok (.getfield 33, 3) := by decide +kernel
theorem dX7_periodsOf_31 : decode cX7_periodsOf 31 = .ok (.aload_n 0, 1) := by decide +kernel
theorem dX7_periodsOf_32 : decode cX7_periodsOf 32 = .ok (.iload_n 1, 1) := by decide +kernel
theorem dX7_periodsOf_33 : decode cX7_periodsOf 33 = .ok (.invokevirtual 197, 3) := by decide +kernel
theorem dX7_periodsOf_36 : decode cX7_periodsOf 36 = .ok (.iaload, 1) := by decide +kernel
theorem dX7_periodsOf_37 : decode cX7_periodsOf 37 = .ok (.isub, 1) := by decide +kernel
theorem dX7_periodsOf_38 : decode cX7_periodsOf 38 = .ok (.ireturn, 1) := by decide +kernel
theorem dX7_whereOf_0 : decode cX7_whereOf 0 = .ok (.iload_n 2, 1) := by decide +kernel
theorem dX7_whereOf_1 : decode cX7_whereOf 1 = .ok (.ifCond .ne 11, 3) := by decide +kernel
theorem dX7_whereOf_4 : decode cX7_whereOf 4 = .ok (.aload_n 0, 1) := by decide +kernel
theorem dX7_whereOf_5 : decode cX7_whereOf 5 = .ok (.iload_n 1, 1) := by decide +kernel
theorem dX7_whereOf_6 : decode cX7_whereOf 6 = .ok (.invokevirtual 197, 3) := by decide +kernel
theorem dX7_whereOf_9 : decode cX7_whereOf 9 = .ok (.goto 21, 3) := by decide +kernel
theorem dX7_whereOf_12 : decode cX7_whereOf 12 = .ok (.iload_n 2, 1) := by decide +kernel
theorem dX7_whereOf_13 : decode cX7_whereOf 13 = .ok (.iconst 1, 1) := by decide +kernel
theorem dX7_whereOf_14 : decode cX7_whereOf 14 = .ok (.if_icmp .ne 11, 3) := by decide +kernel
theorem dX7_whereOf_17 : decode cX7_whereOf 17 = .ok (.aload_n 0, 1) := by decide +kernel
theorem dX7_whereOf_18 : decode cX7_whereOf 18 = .ok (.iload_n 1, 1) := by decide +kernel
theorem dX7_whereOf_19 : decode cX7_whereOf 19 = .ok (.invokevirtual 200, 3) := by decide +kernel
theorem dX7_whereOf_22 : decode cX7_whereOf 22 = .ok (.goto 8, 3) := by decide +kernel
theorem dX7_whereOf_25 : decode cX7_whereOf 25 = .ok (.aload_n 0, 1) := by decide +kernel
theorem dX7_whereOf_26 : decode cX7_whereOf 26 = .ok (.iload_n 1, 1) := by decide +kernel
theorem dX7_whereOf_27 : decode cX7_whereOf 27 = .ok (.invokevirtual 203, 3) := by decide +kernel
theorem dX7_whereOf_30 : decode cX7_whereOf 30 = .ok (.ireturn, 1) := by decide +kernel
theorem dX7_where_0 : decode cX7_where 0 = .ok (.aload_n 0, 1) := by decide +kernel
theorem dX7_where_1 : decode cX7_where 1 = .ok (.iload_n 1, 1) := by decide +kernel
theorem dX7_where_2 : decode cX7_where 2 = .ok (.invokevirtual 206, 3) := by decide +kernel
theorem dX7_where_5 : decode cX7_where 5 = .ok (.ifCond .eq 21, 3) := by decide +kernel
theorem dX7_where_8 : decode cX7_where 8 = .ok (.iload_n 2, 1) := by decide +kernel
theorem dX7_where_9 : decode cX7_where 9 = .ok (.iconst 0, 1) := by decide +kernel
theorem dX7_where_10 : decode cX7_where 10 = .ok (.iconst 2, 1) := by decide +kernel
theorem dX7_where_11 : decode cX7_where 11 = .ok (.invokestatic 85, 3) := by decide +kernel
theorem dX7_where_14 : decode cX7_where 14 = .ok (.ifCond .eq 12, 3) := by decide +kernel
theorem dX7_where_17 : decode cX7_where 17 = .ok (.aload_n 0, 1) := by decide +kernel
theorem dX7_where_18 : decode cX7_where 18 = .ok (.iload_n 1, 1) := by decide +kernel
theorem dX7_where_19 : decode cX7_where 19 = .ok (.iload_n 2, 1) := by decide +kernel
theorem dX7_where_20 : decode cX7_where 20 = .ok (.invokevirtual 209, 3) := by decide +kernel
theorem dX7_where_23 : decode cX7_where 23 = .ok (.goto 5, 3) := by decide +kernel
theorem dX7_where_26 : decode cX7_where 26 = .ok (.bipush (-2), 2) := by decide +kernel
theorem dX7_where_28 : decode cX7_where 28 = .ok (.ireturn, 1) := by decide +kernel
theorem dX7_frequencyOf_0 : decode cX7_frequencyOf 0 = .ok (.aload_n 0, 1) := by decide +kernel
theorem dX7_frequencyOf_1 : decode cX7_frequencyOf 1 = .ok (.iload_n 1, 1) := by decide +kernel
theorem dX7_frequencyOf_2 : decode cX7_frequencyOf 2 = .ok (.invokevirtual 200, 3) := by decide +kernel
theorem dX7_frequencyOf_5 : decode cX7_frequencyOf 5 = .ok (.istore 4, 2) := by decide +kernel
theorem dX7_frequencyOf_7 : decode cX7_frequencyOf 7 = .ok (.aload_n 0, 1) := by decide +kernel
theorem dX7_frequencyOf_8 : decode cX7_frequencyOf 8 = .ok (.iload_n 1, 1) := by decide +kernel
theorem dX7_frequencyOf_9 : decode cX7_frequencyOf 9 = .ok (.invokevirtual 197, 3) := by decide +kernel
theorem dX7_frequencyOf_12 : decode cX7_frequencyOf 12 = .ok (.istore 5, 2) := by decide +kernel
theorem dX7_frequencyOf_14 : decode cX7_frequencyOf 14 = .ok (.iload 4, 2) := by decide +kernel
theorem dX7_frequencyOf_16 : decode cX7_frequencyOf 16 = .ok (.iconst (-1), 1) := by decide +kernel
theorem dX7_frequencyOf_17 : decode cX7_frequencyOf 17 = .ok (.if_icmp .ne 9, 3) := by decide +kernel
theorem dX7_frequencyOf_20 : decode cX7_frequencyOf 20 = .ok (.bipush (-3), 2) := by decide +kernel
theorem dX7_frequencyOf_22 : decode cX7_frequencyOf 22 = .ok (.invokestatic 126, 3) := by decide +kernel
theorem dX7_frequencyOf_25 : decode cX7_frequencyOf 25 = .ok (.lreturn, 1) := by decide +kernel
theorem dX7_frequencyOf_26 : decode cX7_frequencyOf 26 = .ok (.aload_n 0, 1) := by decide +kernel
theorem dX7_frequencyOf_27 : decode cX7_frequencyOf 27 = .ok (.invokevirtual 178, 3) := by decide +kernel
theorem dX7_frequencyOf_30 : decode cX7_frequencyOf 30 = .ok (.aload_n 0, 1) := by decide +kernel
theorem dX7_frequencyOf_31 : decode cX7_frequencyOf 31 = .ok (.getfield 33, 3) := by decide +kernel
theorem dX7_frequencyOf_34 : decode cX7_frequencyOf 34 = .ok (.iload 4, 2) := by decide +kernel
theorem dX7_frequencyOf_36 : decode cX7_frequencyOf 36 = .ok (.iaload, 1) := by decide +kernel
theorem dX7_frequencyOf_37 : decode cX7_frequencyOf 37 = .ok (.aload_n 0, 1) := by decide +kernel
theorem dX7_frequencyOf_38 : decode cX7_frequencyOf 38 = .ok (.getfield 33, 3) := by decide +kernel
theorem dX7_frequencyOf_41 : decode cX7_frequencyOf 41 = .ok (.iload 5, 2) := by decide +kernel
theorem dX7_frequencyOf_43 : decode cX7_frequencyOf 43 = .ok (.iaload, 1) := by decide +kernel
theorem dX7_frequencyOf_44 : decode cX7_frequencyOf 44 = .ok (.isub, 1) := by decide +kernel
theorem dX7_frequencyOf_45 : decode cX7_frequencyOf 45 = .ok (.i2l, 1) := by decide +kernel
theorem dX7_frequencyOf_46 : decode cX7_frequencyOf 46 = .ok (.lstore 6, 2) := by decide +kernel
theorem dX7_frequencyOf_48 : decode cX7_frequencyOf 48 = .ok (.iload_n 2, 1) := by decide +kernel
theorem dX7_frequencyOf_49 : decode cX7_frequencyOf 49 = .ok (.ifCond .ne 21, 3) := by decide +kernel
theorem dX7_frequencyOf_52 : decode cX7_frequencyOf 52 = .ok (.aload_n 0, 1) := by decide +kernel
theorem dX7_frequencyOf_53 : decode cX7_frequencyOf 53 = .ok (.getfield 29, 3) := by decide +kernel
theorem dX7_frequencyOf_56 : decode cX7_frequencyOf 56 = .ok (.iload 4, 2) := by decide +kernel
theorem dX7_frequencyOf_58 : decode cX7_frequencyOf 58 = .ok (.laload, 1) := by decide +kernel
theorem dX7_frequencyOf_59 : decode cX7_frequencyOf 59 = .ok (.aload_n 0, 1) := by decide +kernel
theorem dX7_frequencyOf_60 : decode cX7_frequencyOf 60 = .ok (.getfield 29, 3) := by decide +kernel
theorem dX7_frequencyOf_63 : decode cX7_frequencyOf 63 = .ok (.iload 5, 2) := by decide +kernel
theorem dX7_frequencyOf_65 : decode cX7_frequencyOf 65 = .ok (.laload, 1) := by decide +kernel
theorem dX7_frequencyOf_66 : decode cX7_frequencyOf 66 = .ok (.lsub, 1) := by decide +kernel
theorem dX7_frequencyOf_67 : decode cX7_frequencyOf 67 = .ok (.goto 67, 3) := by decide +kernel
theorem dX7_frequencyOf_70 : decode cX7_frequencyOf 70 = .ok (.iload_n 2, 1) := by decide +kernel
theorem dX7_frequencyOf_71 : decode cX7_frequencyOf 71 = .ok (.iconst 1, 1) := by decide +kernel
theorem dX7_frequencyOf_72 : decode cX7_frequencyOf 72 = .ok (.if_icmp .ne 22, 3) := by decide +kernel
theorem dX7_frequencyOf_75 : decode cX7_frequencyOf 75 = .ok (.aload_n 0, 1) := by decide +kernel
theorem dX7_frequencyOf_76 : decode cX7_frequencyOf 76 = .ok (.iload 4, 2) := by decide +kernel
theorem dX7_frequencyOf_78 : decode cX7_frequencyOf 78 = .ok (.iconst 1, 1) := by decide +kernel
theorem dX7_frequencyOf_79 : decode cX7_frequencyOf 79 = .ok (.invokevirtual 181, 3) := by decide +kernel
theorem dX7_frequencyOf_82 : decode cX7_frequencyOf 82 = .ok (.aload_n 0, 1) := by decide +kernel
theorem dX7_frequencyOf_83 : decode cX7_frequencyOf 83 = .ok (.iload 5, 2) := by decide +kernel
theorem dX7_frequencyOf_85 : decode cX7_frequencyOf 85 = .ok (.iconst 0, 1) := by decide +kernel
theorem dX7_frequencyOf_86 : decode cX7_frequencyOf 86 = .ok (.invokevirtual 181, 3) := by decide +kernel
theorem dX7_frequencyOf_89 : decode cX7_frequencyOf 89 = .ok (.isub, 1) := by decide +kernel
theorem dX7_frequencyOf_90 : decode cX7_frequencyOf 90 = .ok (.i2l, 1) := by decide +kernel
theorem dX7_frequencyOf_91 : decode cX7_frequencyOf 91 = .ok (.goto 43, 3) := by decide +kernel
theorem dX7_frequencyOf_94 : decode cX7_frequencyOf 94 = .ok (.iload_n 2, 1) := by decide +kernel
theorem dX7_frequencyOf_95 : decode cX7_frequencyOf 95 = .ok (.iconst 2, 1) := by decide +kernel
theorem dX7_frequencyOf_96 : decode cX7_frequencyOf 96 = .ok (.if_icmp .ne 22, 3) := by decide +kernel
theorem dX7_frequencyOf_99 : decode cX7_frequencyOf 99 = .ok (.aload_n 0, 1) := by decide +kernel
theorem dX7_frequencyOf_100 : decode cX7_frequencyOf 100 = .ok (.iload 4, 2) := by decide +kernel
theorem dX7_frequencyOf_102 : decode cX7_frequencyOf 102 = .ok (.iconst 0, 1) := by decide +kernel
theorem dX7_frequencyOf_103 : decode cX7_frequencyOf 103 = .ok (.invokevirtual 181, 3) := by decide +kernel
theorem dX7_frequencyOf_106 : decode cX7_frequencyOf 106 = .ok (.aload_n 0, 1) := by decide +kernel
theorem dX7_frequencyOf_107 : decode cX7_frequencyOf 107 = .ok (.iload 5, 2) := by decide +kernel
theorem dX7_frequencyOf_109 : decode cX7_frequencyOf 109 = .ok (.iconst 1, 1) := by decide +kernel
theorem dX7_frequencyOf_110 : decode cX7_frequencyOf 110 = .ok (.invokevirtual 181, 3) := by decide +kernel
theorem dX7_frequencyOf_113 : decode cX7_frequencyOf 113 = .ok (.isub, 1) := by decide +kernel
theorem dX7_frequencyOf_114 : decode cX7_frequencyOf 114 = .ok (.i2l, 1) := by decide +kernel
theorem dX7_frequencyOf_115 : decode cX7_frequencyOf 115 = .ok (.goto 19, 3) := by decide +kernel
theorem dX7_frequencyOf_118 : decode cX7_frequencyOf 118 = .ok (.aload_n 0, 1) := by decide +kernel
theorem dX7_frequencyOf_119 : decode cX7_frequencyOf 119 = .ok (.getfield 7, 3) := by decide +kernel
theorem dX7_frequencyOf_122 : decode cX7_frequencyOf 122 = .ok (.iload 4, 2) := by decide +kernel
theorem dX7_frequencyOf_124 : decode cX7_frequencyOf 124 = .ok (.iaload, 1) := by decide +kernel
theorem dX7_frequencyOf_125 : decode cX7_frequencyOf 125 = .ok (.aload_n 0, 1) := by decide +kernel
theorem dX7_frequencyOf_126 : decode cX7_frequencyOf 126 = .ok (.getfield 7, 3) := by decide +kernel
theorem dX7_frequencyOf_129 : decode cX7_frequencyOf 129 = .ok (.iload 5, 2) := by decide +kernel
theorem dX7_frequencyOf_131 : decode cX7_frequencyOf 131 = .ok (.iaload, 1) := by decide +kernel
theorem dX7_frequencyOf_132 : decode cX7_frequencyOf 132 = .ok (.isub, 1) := by decide +kernel
theorem dX7_frequencyOf_133 : decode cX7_frequencyOf 133 = .ok (.i2l, 1) := by decide +kernel
theorem dX7_frequencyOf_134 : decode cX7_frequencyOf 134 = .ok (.lstore 8, 2) := by decide +kernel
theorem dX7_frequencyOf_136 : decode cX7_frequencyOf 136 = .ok (.lload 6, 2) := by decide +kernel
theorem dX7_frequencyOf_138 : decode cX7_frequencyOf 138 = .ok (.iload_n 2, 1) := by decide +kernel
theorem dX7_frequencyOf_139 : decode cX7_frequencyOf 139 = .ok (.ifCond .ne 10, 3) := by decide +kernel
theorem dX7_frequencyOf_142 : decode cX7_frequencyOf 142 = .ok (.aload_n 0, 1) := by decide +kernel
theorem dX7_frequencyOf_143 : decode cX7_frequencyOf 143 = .ok (.getfield 161, 3) := by decide +kernel
theorem dX7_frequencyOf_146 : decode cX7_frequencyOf 146 = .ok (.goto 4, 3) := by decide +kernel
theorem dX7_frequencyOf_149 : decode cX7_frequencyOf 149 = .ok (.lconst 1, 1) := by decide +kernel
theorem dX7_frequencyOf_150 : decode cX7_frequencyOf 150 = .ok (.lmul, 1) := by decide +kernel
theorem dX7_frequencyOf_151 : decode cX7_frequencyOf 151 = .ok (.lstore 6, 2) := by decide +kernel
theorem dX7_frequencyOf_153 : decode cX7_frequencyOf 153 = .ok (.lload 8, 2) := by decide +kernel
theorem dX7_frequencyOf_155 : decode cX7_frequencyOf 155 = .ok (.lconst 0, 1) := by decide +kernel
theorem dX7_frequencyOf_156 : decode cX7_frequencyOf 156 = .ok (.lcmp, 1) := by decide +kernel
theorem dX7_frequencyOf_157 : decode cX7_frequencyOf 157 = .ok (.ifCond .gt 11, 3) := by decide +kernel
theorem dX7_frequencyOf_160 : decode cX7_frequencyOf 160 = .ok (.bipush (-3), 2) := by decide +kernel
theorem dX7_frequencyOf_162 : decode cX7_frequencyOf 162 = .ok (.invokestatic 126, 3) := by decide +kernel
theorem dX7_frequencyOf_165 : decode cX7_frequencyOf 165 = .ok (.goto 11, 3) := by decide +kernel
theorem dX7_frequencyOf_168 : decode cX7_frequencyOf 168 = .ok (.lload 6, 2) := by decide +kernel
theorem dX7_frequencyOf_170 : decode cX7_frequencyOf 170 = .ok (.lload 8, 2) := by decide +kernel
theorem dX7_frequencyOf_172 : decode cX7_frequencyOf 172 = .ok (.iload_n 3, 1) := by decide +kernel
theorem dX7_frequencyOf_173 : decode cX7_frequencyOf 173 = .ok (.invokestatic 132, 3) := by decide +kernel
theorem dX7_frequencyOf_176 : decode cX7_frequencyOf 176 = .ok (.lreturn, 1) := by decide +kernel
theorem dX7_frequency_0 : decode cX7_frequency 0 = .ok (.aload_n 0, 1) := by decide +kernel
theorem dX7_frequency_1 : decode cX7_frequency 1 = .ok (.iload_n 1, 1) := by decide +kernel
theorem dX7_frequency_2 : decode cX7_frequency 2 = .ok (.invokevirtual 206, 3) := by decide +kernel
theorem dX7_frequency_5 : decode cX7_frequency 5 = .ok (.ifCond .eq 31, 3) := by decide +kernel
theorem dX7_frequency_8 : decode cX7_frequency 8 = .ok (.iload_n 2, 1) := by decide +kernel
theorem dX7_frequency_9 : decode cX7_frequency 9 = .ok (.iconst 0, 1) := by decide +kernel
theorem dX7_frequency_10 : decode cX7_frequency 10 = .ok (.iconst 3, 1) := by decide +kernel
theorem dX7_frequency_11 : decode cX7_frequency 11 = .ok (.invokestatic 85, 3) := by decide +kernel
theorem dX7_frequency_14 : decode cX7_frequency 14 = .ok (.ifCond .eq 22, 3) := by decide +kernel
theorem dX7_frequency_17 : decode cX7_frequency 17 = .ok (.iload_n 3, 1) := by decide +kernel
theorem dX7_frequency_18 : decode cX7_frequency 18 = .ok (.iconst 0, 1) := by decide +kernel
theorem dX7_frequency_19 : decode cX7_frequency 19 = .ok (.iconst 1, 1) := by decide +kernel
theorem dX7_frequency_20 : decode cX7_frequency 20 = .ok (.invokestatic 85, 3) := by decide +kernel
theorem dX7_frequency_23 : decode cX7_frequency 23 = .ok (.ifCond .eq 13, 3) := by decide +kernel
theorem dX7_frequency_26 : decode cX7_frequency 26 = .ok (.aload_n 0, 1) := by decide +kernel
theorem dX7_frequency_27 : decode cX7_frequency 27 = .ok (.iload_n 1, 1) := by decide +kernel
theorem dX7_frequency_28 : decode cX7_frequency 28 = .ok (.iload_n 2, 1) := by decide +kernel
theorem dX7_frequency_29 : decode cX7_frequency 29 = .ok (.iload_n 3, 1) := by decide +kernel
theorem dX7_frequency_30 : decode cX7_frequency 30 = .ok (.invokevirtual 212, 3) := by decide +kernel
theorem dX7_frequency_33 : decode cX7_frequency 33 = .ok (.goto 8, 3) := by decide +kernel
theorem dX7_frequency_36 : decode cX7_frequency 36 = .ok (.bipush (-2), 2) := by decide +kernel
theorem dX7_frequency_38 : decode cX7_frequency 38 = .ok (.invokestatic 126, 3) := by decide +kernel
theorem dX7_frequency_41 : decode cX7_frequency 41 = .ok (.lreturn, 1) := by decide +kernel
theorem dX7_isAhead_0 : decode cX7_isAhead 0 = .ok (.aload_n 0, 1) := by decide +kernel
theorem dX7_isAhead_1 : decode cX7_isAhead 1 = .ok (.iload_n 1, 1) := by decide +kernel
theorem dX7_isAhead_2 : decode cX7_isAhead 2 = .ok (.invokevirtual 200, 3) := by decide +kernel
theorem dX7_isAhead_5 : decode cX7_isAhead 5 = .ok (.istore_n 3, 1) := by decide +kernel
theorem dX7_isAhead_6 : decode cX7_isAhead 6 = .ok (.aload_n 0, 1) := by decide +kernel
theorem dX7_isAhead_7 : decode cX7_isAhead 7 = .ok (.iload_n 2, 1) := by decide +kernel
theorem dX7_isAhead_8 : decode cX7_isAhead 8 = .ok (.invokevirtual 200, 3) := by decide +kernel
theorem dX7_isAhead_11 : decode cX7_isAhead 11 = .ok (.istore 4, 2) := by decide +kernel
theorem dX7_isAhead_13 : decode cX7_isAhead 13 = .ok (.iload_n 3, 1) := by decide +kernel
theorem dX7_isAhead_14 : decode cX7_isAhead 14 = .ok (.iconst (-1), 1) := by decide +kernel
theorem dX7_isAhead_15 : decode cX7_isAhead 15 = .ok (.if_icmp .eq 9, 3) := by decide +kernel
theorem dX7_isAhead_18 : decode cX7_isAhead 18 = .ok (.iload 4, 2) := by decide +kernel
theorem dX7_isAhead_20 : decode cX7_isAhead 20 = .ok (.iconst (-1), 1) := by decide +kernel
theorem dX7_isAhead_21 : decode cX7_isAhead 21 = .ok (.if_icmp .ne 25, 3) := by decide +kernel
theorem dX7_isAhead_24 : decode cX7_isAhead 24 = .ok (.iload_n 3, 1) := by decide +kernel
theorem dX7_isAhead_25 : decode cX7_isAhead 25 = .ok (.iconst (-1), 1) := by decide +kernel
theorem dX7_isAhead_26 : decode cX7_isAhead 26 = .ok (.if_icmp .ne 14, 3) := by decide +kernel
theorem dX7_isAhead_29 : decode cX7_isAhead 29 = .ok (.iload 4, 2) := by decide +kernel
theorem dX7_isAhead_31 : decode cX7_isAhead 31 = .ok (.iconst (-1), 1) := by decide +kernel
theorem dX7_isAhead_32 : decode cX7_isAhead 32 = .ok (.if_icmp .ne 12, 3) := by decide +kernel
theorem dX7_isAhead_35 : decode cX7_isAhead 35 = .ok (.iload_n 1, 1) := by decide +kernel
theorem dX7_isAhead_36 : decode cX7_isAhead 36 = .ok (.iload_n 2, 1) := by decide +kernel
theorem dX7_isAhead_37 : decode cX7_isAhead 37 = .ok (.if_icmp .ge 7, 3) := by decide +kernel
theorem dX7_isAhead_40 : decode cX7_isAhead 40 = .ok (.iconst 1, 1) := by decide +kernel
theorem dX7_isAhead_41 : decode cX7_isAhead 41 = .ok (.goto 4, 3) := by decide +kernel
theorem dX7_isAhead_44 : decode cX7_isAhead 44 = .ok (.iconst 0, 1) := by decide +kernel
theorem dX7_isAhead_45 : decode cX7_isAhead 45 = .ok (.ireturn, 1) := by decide +kernel
theorem dX7_isAhead_46 : decode cX7_isAhead 46 = .ok (.iload_n 3, 1) := by decide +kernel
theorem dX7_isAhead_47 : decode cX7_isAhead 47 = .ok (.iload 4, 2) := by decide +kernel
theorem dX7_isAhead_49 : decode cX7_isAhead 49 = .ok (.if_icmp .lt 40, 3) := by decide +kernel
theorem dX7_isAhead_52 : decode cX7_isAhead 52 = .ok (.iload_n 3, 1) := by decide +kernel
theorem dX7_isAhead_53 : decode cX7_isAhead 53 = .ok (.iload 4, 2) := by decide +kernel
theorem dX7_isAhead_55 : decode cX7_isAhead 55 = .ok (.if_icmp .ne 38, 3) := by decide +kernel
theorem dX7_isAhead_58 : decode cX7_isAhead 58 = .ok (.aload_n 0, 1) := by decide +kernel
theorem dX7_isAhead_59 : decode cX7_isAhead 59 = .ok (.iload_n 1, 1) := by decide +kernel
theorem dX7_isAhead_60 : decode cX7_isAhead 60 = .ok (.invokevirtual 197, 3) := by decide +kernel
theorem dX7_isAhead_63 : decode cX7_isAhead 63 = .ok (.aload_n 0, 1) := by decide +kernel
theorem dX7_isAhead_64 : decode cX7_isAhead 64 = .ok (.iload_n 2, 1) := by decide +kernel
theorem dX7_isAhead_65 : decode cX7_isAhead 65 = .ok (.invokevirtual 197, 3) := by decide +kernel
theorem dX7_isAhead_68 : decode cX7_isAhead 68 = .ok (.if_icmp .lt 21, 3) := by decide +kernel
theorem dX7_isAhead_71 : decode cX7_isAhead 71 = .ok (.aload_n 0, 1) := by decide +kernel
theorem dX7_isAhead_72 : decode cX7_isAhead 72 = .ok (.iload_n 1, 1) := by decide +kernel
theorem dX7_isAhead_73 : decode cX7_isAhead 73 = .ok (.invokevirtual 197, 3) := by decide +kernel
theorem dX7_isAhead_76 : decode cX7_isAhead 76 = .ok (.aload_n 0, 1) := by decide +kernel
theorem dX7_isAhead_77 : decode cX7_isAhead 77 = .ok (.iload_n 2, 1) := by decide +kernel
theorem dX7_isAhead_78 : decode cX7_isAhead 78 = .ok (.invokevirtual 197, 3) := by decide +kernel
theorem dX7_isAhead_81 : decode cX7_isAhead 81 = .ok (.if_icmp .ne 12, 3) := by decide +kernel
theorem dX7_isAhead_84 : decode cX7_isAhead 84 = .ok (.iload_n 1, 1) := by decide +kernel
theorem dX7_isAhead_85 : decode cX7_isAhead 85 = .ok (.iload_n 2, 1) := by decide +kernel
theorem dX7_isAhead_86 : decode cX7_isAhead 86 = .ok (.if_icmp .ge 7, 3) := by decide +kernel
theorem dX7_isAhead_89 : decode cX7_isAhead 89 = .ok (.iconst 1, 1) := by decide +kernel
theorem dX7_isAhead_90 : decode cX7_isAhead 90 = .ok (.goto 4, 3) := by decide +kernel
theorem dX7_isAhead_93 : decode cX7_isAhead 93 = .ok (.iconst 0, 1) := by decide +kernel
theorem dX7_isAhead_94 : decode cX7_isAhead 94 = .ok (.ireturn, 1) := by decide +kernel
theorem dX7_closingOf_0 : decode cX7_closingOf 0 = .ok (.iconst (-1), 1) := by decide +kernel
theorem dX7_closingOf_1 : decode cX7_closingOf 1 = .ok (.istore_n 2, 1) := by decide +kernel
theorem dX7_closingOf_2 : decode cX7_closingOf 2 = .ok (.iconst 0, 1) := by decide +kernel
theorem dX7_closingOf_3 : decode cX7_closingOf 3 = .ok (.istore_n 3, 1) := by decide +kernel
theorem dX7_closingOf_4 : decode cX7_closingOf 4 = .ok (.iload_n 3, 1) := by decide +kernel
theorem dX7_closingOf_5 : decode cX7_closingOf 5 = .ok (.aload_n 0, 1) := by decide +kernel
theorem dX7_closingOf_6 : decode cX7_closingOf 6 = .ok (.getfield 194, 3) := by decide +kernel
theorem dX7_closingOf_9 : decode cX7_closingOf 9 = .ok (.if_icmp .ge 68, 3) := by decide +kernel
theorem dX7_closingOf_12 : decode cX7_closingOf 12 = .ok (.iconst 0, 1) := by decide +kernel
theorem dX7_closingOf_13 : decode cX7_closingOf 13 = .ok (.istore 4, 2) := by decide +kernel
theorem dX7_closingOf_15 : decode cX7_closingOf 15 = .ok (.iconst 0, 1) := by decide +kernel
theorem dX7_closingOf_16 : decode cX7_closingOf 16 = .ok (.istore 5, 2) := by decide +kernel
theorem dX7_closingOf_18 : decode cX7_closingOf 18 = .ok (.iload 5, 2) := by decide +kernel
theorem dX7_closingOf_20 : decode cX7_closingOf 20 = .ok (.aload_n 0, 1) := by decide +kernel
theorem dX7_closingOf_21 : decode cX7_closingOf 21 = .ok (.getfield 194, 3) := by decide +kernel
theorem dX7_closingOf_24 : decode cX7_closingOf 24 = .ok (.if_icmp .ge 35, 3) := by decide +kernel
theorem dX7_closingOf_27 : decode cX7_closingOf 27 = .ok (.iload 4, 2) := by decide +kernel
theorem dX7_closingOf_29 : decode cX7_closingOf 29 = .ok (.iload 5, 2) := by decide +kernel
theorem dX7_closingOf_31 : decode cX7_closingOf 31 = .ok (.iload_n 3, 1) := by decide +kernel
theorem dX7_closingOf_32 : decode cX7_closingOf 32 = .ok (.if_icmp .eq 17, 3) := by decide +kernel
theorem dX7_closingOf_35 : decode cX7_closingOf 35 = .ok (.aload_n 0, 1) := by decide +kernel
theorem dX7_closingOf_36 : decode cX7_closingOf 36 = .ok (.iload 5, 2) := by decide +kernel
theorem dX7_closingOf_38 : decode cX7_closingOf 38 = .ok (.iload_n 3, 1) := by decide +kernel
theorem dX7_closingOf_39 : decode cX7_closingOf 39 = .ok (.invokevirtual 216, 3) := by decide +kernel
theorem dX7_closingOf_42 : decode cX7_closingOf 42 = .ok (.ifCond .eq 7, 3) := by decide +kernel
theorem dX7_closingOf_45 : decode cX7_closingOf 45 = .ok (.iconst 1, 1) := by decide +kernel
theorem dX7_closingOf_46 : decode cX7_closingOf 46 = .ok (.goto 4, 3) := by decide +kernel
theorem dX7_closingOf_49 : decode cX7_closingOf 49 = .ok (.iconst 0, 1) := by decide +kernel
theorem dX7_closingOf_50 : decode cX7_closingOf 50 = .ok (.iadd, 1) := by decide +kernel
theorem dX7_closingOf_51 : decode cX7_closingOf 51 = .ok (.istore 4, 2) := by decide +kernel
theorem dX7_closingOf_53 : decode cX7_closingOf 53 = .ok (.iinc 5 1, 3) := by decide +kernel
theorem dX7_closingOf_56 : decode cX7_closingOf 56 = .ok (.goto (-38), 3) := by decide +kernel
theorem dX7_closingOf_59 : decode cX7_closingOf 59 = .ok (.iload 4, 2) := by decide +kernel
theorem dX7_closingOf_61 : decode cX7_closingOf 61 = .ok (.iload_n 1, 1) := by decide +kernel
theorem dX7_closingOf_62 : decode cX7_closingOf 62 = .ok (.if_icmp .ne 7, 3) := by decide +kernel
theorem dX7_closingOf_65 : decode cX7_closingOf 65 = .ok (.iload_n 3, 1) := by decide +kernel
theorem dX7_closingOf_66 : decode cX7_closingOf 66 = .ok (.goto 4, 3) := by decide +kernel
theorem dX7_closingOf_69 : decode cX7_closingOf 69 = .ok (.iload_n 2, 1) := by decide +kernel
theorem dX7_closingOf_70 : decode cX7_closingOf 70 = .ok (.istore_n 2, 1) := by decide +kernel
theorem dX7_closingOf_71 : decode cX7_closingOf 71 = .ok (.iinc 3 1, 3) := by decide +kernel
theorem dX7_closingOf_74 : decode cX7_closingOf 74 = .ok (.goto (-70), 3) := by decide +kernel
theorem dX7_closingOf_77 : decode cX7_closingOf 77 = .ok (.iload_n 2, 1) := by decide +kernel
theorem dX7_closingOf_78 : decode cX7_closingOf 78 = .ok (.ireturn, 1) := by decide +kernel
theorem dX7_closing_0 : decode cX7_closing 0 = .ok (.aload_n 0, 1) := by decide +kernel
theorem dX7_closing_1 : decode cX7_closing 1 = .ok (.iload_n 1, 1) := by decide +kernel
theorem dX7_closing_2 : decode cX7_closing 2 = .ok (.invokevirtual 206, 3) := by decide +kernel
theorem dX7_closing_5 : decode cX7_closing 5 = .ok (.ifCond .eq 11, 3) := by decide +kernel
theorem dX7_closing_8 : decode cX7_closing 8 = .ok (.aload_n 0, 1) := by decide +kernel
theorem dX7_closing_9 : decode cX7_closing 9 = .ok (.iload_n 1, 1) := by decide +kernel
theorem dX7_closing_10 : decode cX7_closing 10 = .ok (.invokevirtual 220, 3) := by decide +kernel
theorem dX7_closing_13 : decode cX7_closing 13 = .ok (.goto 5, 3) := by decide +kernel
theorem dX7_closing_16 : decode cX7_closing 16 = .ok (.bipush (-2), 2) := by decide +kernel
theorem dX7_closing_18 : decode cX7_closing 18 = .ok (.ireturn, 1) := by decide +kernel
theorem dX7_nextBy_0 : decode cX7_nextBy 0 = .ok (.iconst (-1), 1) := by decide +kernel
theorem dX7_nextBy_1 : decode cX7_nextBy 1 = .ok (.istore_n 3, 1) := by decide +kernel
theorem dX7_nextBy_2 : decode cX7_nextBy 2 = .ok (.aload_n 0, 1) := by decide +kernel
theorem dX7_nextBy_3 : decode cX7_nextBy 3 = .ok (.getfield 81, 3) := by decide +kernel
theorem dX7_nextBy_6 : decode cX7_nextBy 6 = .ok (.iconst 1, 1) := by decide +kernel
theorem dX7_nextBy_7 : decode cX7_nextBy 7 = .ok (.isub, 1) := by decide +kernel
theorem dX7_nextBy_8 : decode cX7_nextBy 8 = .ok (.istore 4, 2) := by decide +kernel
theorem dX7_nextBy_10 : decode cX7_nextBy 10 = .ok (.iload 4, 2) := by decide +kernel
theorem dX7_nextBy_12 : decode cX7_nextBy 12 = .ok (.iload_n 1, 1) := by decide +kernel
theorem dX7_nextBy_13 : decode cX7_nextBy 13 = .ok (.if_icmp .le 40, 3) := by decide +kernel
theorem dX7_nextBy_16 : decode cX7_nextBy 16 = .ok (.aload_n 0, 1) := by decide +kernel
theorem dX7_nextBy_17 : decode cX7_nextBy 17 = .ok (.getfield 7, 3) := by decide +kernel
theorem dX7_nextBy_20 : decode cX7_nextBy 20 = .ok (.iload 4, 2) := by decide +kernel
theorem dX7_nextBy_22 : decode cX7_nextBy 22 = .ok (.iaload, 1) := by decide +kernel
theorem dX7_nextBy_23 : decode cX7_nextBy 23 = .ok (.bipush 60, 2) := by decide +kernel
theorem dX7_nextBy_25 : decode cX7_nextBy 25 = .ok (.idiv, 1) := by decide +kernel
theorem dX7_nextBy_26 : decode cX7_nextBy 26 = .ok (.aload_n 0, 1) := by decide +kernel
theorem dX7_nextBy_27 : decode cX7_nextBy 27 = .ok (.getfield 7, 3) := by decide +kernel
theorem dX7_nextBy_30 : decode cX7_nextBy 30 = .ok (.iload_n 1, 1) := by decide +kernel
theorem dX7_nextBy_31 : decode cX7_nextBy 31 = .ok (.iaload, 1) := by decide +kernel
theorem dX7_nextBy_32 : decode cX7_nextBy 32 = .ok (.bipush 60, 2) := by decide +kernel
theorem dX7_nextBy_34 : decode cX7_nextBy 34 = .ok (.idiv, 1) := by decide +kernel
theorem dX7_nextBy_35 : decode cX7_nextBy 35 = .ok (.isub, 1) := by decide +kernel
theorem dX7_nextBy_36 : decode cX7_nextBy 36 = .ok (.iload_n 2, 1) := by decide +kernel
theorem dX7_nextBy_37 : decode cX7_nextBy 37 = .ok (.if_icmp .lt 8, 3) := by decide +kernel
theorem dX7_nextBy_40 : decode cX7_nextBy 40 = .ok (.iload 4, 2) := by decide +kernel
theorem dX7_nextBy_42 : decode cX7_nextBy 42 = .ok (.goto 4, 3) := by decide +kernel
theorem dX7_nextBy_45 : decode cX7_nextBy 45 = .ok (.iload_n 3, 1) := by decide +kernel
theorem dX7_nextBy_46 : decode cX7_nextBy 46 = .ok (.istore_n 3, 1) := by decide +kernel
theorem dX7_nextBy_47 : decode cX7_nextBy 47 = .ok (.iinc 4 (-1), 3) := by decide +kernel
theorem dX7_nextBy_50 : decode cX7_nextBy 50 = .ok (.goto (-40), 3) := by decide +kernel
theorem dX7_nextBy_53 : decode cX7_nextBy 53 = .ok (.iload_n 3, 1) := by decide +kernel
theorem dX7_nextBy_54 : decode cX7_nextBy 54 = .ok (.ireturn, 1) := by decide +kernel
theorem dX7_chainOf_0 : decode cX7_chainOf 0 = .ok (.aload_n 0, 1) := by decide +kernel
theorem dX7_chainOf_1 : decode cX7_chainOf 1 = .ok (.invokevirtual 178, 3) := by decide +kernel
theorem dX7_chainOf_4 : decode cX7_chainOf 4 = .ok (.iconst 0, 1) := by decide +kernel
theorem dX7_chainOf_5 : decode cX7_chainOf 5 = .ok (.istore 4, 2) := by decide +kernel
theorem dX7_chainOf_7 : decode cX7_chainOf 7 = .ok (.aload_n 0, 1) := by decide +kernel
theorem dX7_chainOf_8 : decode cX7_chainOf 8 = .ok (.getfield 81, 3) := by decide +kernel
theorem dX7_chainOf_11 : decode cX7_chainOf 11 = .ok (.ifCond .ne 7, 3) := by decide +kernel
theorem dX7_chainOf_14 : decode cX7_chainOf 14 = .ok (.iconst (-1), 1) := by decide +kernel
theorem dX7_chainOf_15 : decode cX7_chainOf 15 = .ok (.goto 9, 3) := by decide +kernel
theorem dX7_chainOf_18 : decode cX7_chainOf 18 = .ok (.aload_n 0, 1) := by decide +kernel
theorem dX7_chainOf_19 : decode cX7_chainOf 19 = .ok (.iconst 0, 1) := by decide +kernel
theorem dX7_chainOf_20 : decode cX7_chainOf 20 = .ok (.iload_n 1, 1) := by decide +kernel
theorem dX7_chainOf_21 : decode cX7_chainOf 21 = .ok (.invokevirtual 223, 3) := by decide +kernel
theorem dX7_chainOf_24 : decode cX7_chainOf 24 = .ok (.istore 5, 2) := by decide +kernel
theorem dX7_chainOf_26 : decode cX7_chainOf 26 = .ok (.iconst 0, 1) := by decide +kernel
theorem dX7_chainOf_27 : decode cX7_chainOf 27 = .ok (.istore 6, 2) := by decide +kernel
theorem dX7_chainOf_29 : decode cX7_chainOf 29 = .ok (.iconst 0, 1) := by decide +kernel
theorem dX7_chainOf_30 : decode cX7_chainOf 30 = .ok (.istore 7, 2) := by decide +kernel
theorem dX7_chainOf_32 : decode cX7_chainOf 32 = .ok (.bipush (-2), 2) := by decide +kernel
theorem dX7_chainOf_34 : decode cX7_chainOf 34 = .ok (.istore 8, 2) := by decide +kernel
theorem dX7_chainOf_36 : decode cX7_chainOf 36 = .ok (.iload 5, 2) := by decide +kernel
theorem dX7_chainOf_38 : decode cX7_chainOf 38 = .ok (.iconst (-1), 1) := by decide +kernel
theorem dX7_chainOf_39 : decode cX7_chainOf 39 = .ok (.if_icmp .eq 89, 3) := by decide +kernel
theorem dX7_chainOf_42 : decode cX7_chainOf 42 = .ok (.iload 7, 2) := by decide +kernel
theorem dX7_chainOf_44 : decode cX7_chainOf 44 = .ok (.aload_n 0, 1) := by decide +kernel
theorem dX7_chainOf_45 : decode cX7_chainOf 45 = .ok (.getfield 33, 3) := by decide +kernel
theorem dX7_chainOf_48 : decode cX7_chainOf 48 = .ok (.iload 5, 2) := by decide +kernel
theorem dX7_chainOf_50 : decode cX7_chainOf 50 = .ok (.iaload, 1) := by decide +kernel
theorem dX7_chainOf_51 : decode cX7_chainOf 51 = .ok (.aload_n 0, 1) := by decide +kernel
theorem dX7_chainOf_52 : decode cX7_chainOf 52 = .ok (.getfield 33, 3) := by decide +kernel
theorem dX7_chainOf_55 : decode cX7_chainOf 55 = .ok (.iload 4, 2) := by decide +kernel
theorem dX7_chainOf_57 : decode cX7_chainOf 57 = .ok (.iaload, 1) := by decide +kernel
theorem dX7_chainOf_58 : decode cX7_chainOf 58 = .ok (.isub, 1) := by decide +kernel
theorem dX7_chainOf_59 : decode cX7_chainOf 59 = .ok (.iadd, 1) := by decide +kernel
theorem dX7_chainOf_60 : decode cX7_chainOf 60 = .ok (.istore 7, 2) := by decide +kernel
theorem dX7_chainOf_62 : decode cX7_chainOf 62 = .ok (.iload 6, 2) := by decide +kernel
theorem dX7_chainOf_64 : decode cX7_chainOf 64 = .ok (.iload_n 2, 1) := by decide +kernel
theorem dX7_chainOf_65 : decode cX7_chainOf 65 = .ok (.if_icmp .ne 40, 3) := by decide +kernel
theorem dX7_chainOf_68 : decode cX7_chainOf 68 = .ok (.iload_n 3, 1) := by decide +kernel
theorem dX7_chainOf_69 : decode cX7_chainOf 69 = .ok (.ifCond .ne 8, 3) := by decide +kernel
theorem dX7_chainOf_72 : decode cX7_chainOf 72 = .ok (.iload 4, 2) := by decide +kernel
theorem dX7_chainOf_74 : decode cX7_chainOf 74 = .ok (.goto 33, 3) := by decide +kernel
theorem dX7_chainOf_77 : decode cX7_chainOf 77 = .ok (.iload_n 3, 1) := by decide +kernel
theorem dX7_chainOf_78 : decode cX7_chainOf 78 = .ok (.iconst 1, 1) := by decide +kernel
theorem dX7_chainOf_79 : decode cX7_chainOf 79 = .ok (.if_icmp .ne 8, 3) := by decide +kernel
theorem dX7_chainOf_82 : decode cX7_chainOf 82 = .ok (.iload 5, 2) := by decide +kernel
theorem dX7_chainOf_84 : decode cX7_chainOf 84 = .ok (.goto 23, 3) := by decide +kernel
theorem dX7_chainOf_87 : decode cX7_chainOf 87 = .ok (.aload_n 0, 1) := by decide +kernel
theorem dX7_chainOf_88 : decode cX7_chainOf 88 = .ok (.getfield 33, 3) := by decide +kernel
theorem dX7_chainOf_91 : decode cX7_chainOf 91 = .ok (.iload 5, 2) := by decide +kernel
theorem dX7_chainOf_93 : decode cX7_chainOf 93 = .ok (.iaload, 1) := by decide +kernel
theorem dX7_chainOf_94 : decode cX7_chainOf 94 = .ok (.aload_n 0, 1) := by decide +kernel
theorem dX7_chainOf_95 : decode cX7_chainOf 95 = .ok (.getfield 33, 3) := by decide +kernel
theorem dX7_chainOf_98 : decode cX7_chainOf 98 = .ok (.iload 4, 2) := by decide +kernel
theorem dX7_chainOf_100 : decode cX7_chainOf 100 = .ok (.iaload, 1) := by decide +kernel
theorem dX7_chainOf_101 : decode cX7_chainOf 101 = .ok (.isub, 1) := by decide +kernel
theorem dX7_chainOf_102 : decode cX7_chainOf 102 = .ok (.goto 5, 3) := by decide +kernel
theorem dX7_chainOf_105 : decode cX7_chainOf 105 = .ok (.iload 8, 2) := by decide +kernel
theorem dX7_chainOf_107 : decode cX7_chainOf 107 = .ok (.istore 8, 2) := by decide +kernel
theorem dX7_chainOf_109 : decode cX7_chainOf 109 = .ok (.iinc 6 1, 3) := by decide +kernel
theorem dX7_chainOf_112 : decode cX7_chainOf 112 = .ok (.iload 5, 2) := by decide +kernel
theorem dX7_chainOf_114 : decode cX7_chainOf 114 = .ok (.istore 4, 2) := by decide +kernel
theorem dX7_chainOf_116 : decode cX7_chainOf 116 = .ok (.aload_n 0, 1) := by decide +kernel
theorem dX7_chainOf_117 : decode cX7_chainOf 117 = .ok (.iload 4, 2) := by decide +kernel
theorem dX7_chainOf_119 : decode cX7_chainOf 119 = .ok (.iload_n 1, 1) := by decide +kernel
theorem dX7_chainOf_120 : decode cX7_chainOf 120 = .ok (.invokevirtual 223, 3) := by decide +kernel
theorem dX7_chainOf_123 : decode cX7_chainOf 123 = .ok (.istore 5, 2) := by decide +kernel
theorem dX7_chainOf_125 : decode cX7_chainOf 125 = .ok (.goto (-89), 3) := by decide +kernel
theorem dX7_chainOf_128 : decode cX7_chainOf 128 = .ok (.iload_n 3, 1) := by decide +kernel
theorem dX7_chainOf_129 : decode cX7_chainOf 129 = .ok (.iconst 3, 1) := by decide +kernel
theorem dX7_chainOf_130 : decode cX7_chainOf 130 = .ok (.if_icmp .ne 8, 3) := by decide +kernel
theorem dX7_chainOf_133 : decode cX7_chainOf 133 = .ok (.iload 6, 2) := by decide +kernel
theorem dX7_chainOf_135 : decode cX7_chainOf 135 = .ok (.goto 15, 3) := by decide +kernel
theorem dX7_chainOf_138 : decode cX7_chainOf 138 = .ok (.iload_n 3, 1) := by decide +kernel
theorem dX7_chainOf_139 : decode cX7_chainOf 139 = .ok (.iconst 4, 1) := by decide +kernel
theorem dX7_chainOf_140 : decode cX7_chainOf 140 = .ok (.if_icmp .ne 8, 3) := by decide +kernel
theorem dX7_chainOf_143 : decode cX7_chainOf 143 = .ok (.iload 7, 2) := by decide +kernel
theorem dX7_chainOf_145 : decode cX7_chainOf 145 = .ok (.goto 5, 3) := by decide +kernel
theorem dX7_chainOf_148 : decode cX7_chainOf 148 = .ok (.iload 8, 2) := by decide +kernel
theorem dX7_chainOf_150 : decode cX7_chainOf 150 = .ok (.ireturn, 1) := by decide +kernel
theorem dX7_chain_0 : decode cX7_chain 0 = .ok (.iload_n 1, 1) := by decide +kernel
theorem dX7_chain_1 : decode cX7_chain 1 = .ok (.iconst 1, 1) := by decide +kernel
theorem dX7_chain_2 : decode cX7_chain 2 = .ok (.bipush 99, 2) := by decide +kernel
theorem dX7_chain_4 : decode cX7_chain 4 = .ok (.invokestatic 85, 3) := by decide +kernel
theorem dX7_chain_7 : decode cX7_chain 7 = .ok (.ifCond .eq 22, 3) := by decide +kernel
theorem dX7_chain_10 : decode cX7_chain 10 = .ok (.iload_n 3, 1) := by decide +kernel
theorem dX7_chain_11 : decode cX7_chain 11 = .ok (.iconst 0, 1) := by decide +kernel
theorem dX7_chain_12 : decode cX7_chain 12 = .ok (.iconst 4, 1) := by decide +kernel
theorem dX7_chain_13 : decode cX7_chain 13 = .ok (.invokestatic 85, 3) := by decide +kernel
theorem dX7_chain_16 : decode cX7_chain 16 = .ok (.ifCond .eq 13, 3) := by decide +kernel
theorem dX7_chain_19 : decode cX7_chain 19 = .ok (.aload_n 0, 1) := by decide +kernel
end
section
theorem dX7_chain_20 : decode cX7_chain 20 = .ok (.iload_n 1, 1) := by decide +kernel
theorem dX7_chain_21 : decode cX7_chain 21 = .ok (.iload_n 2, 1) := by decide +kernel
theorem dX7_chain_22 : decode cX7_chain 22 = .ok (.iload_n 3, 1) := by decide +kernel
theorem dX7_chain_23 : decode cX7_chain 23 = .ok (.invokevirtual 226, 3) := by decide +kernel
theorem dX7_chain_26 : decode cX7_chain 26 = .ok (.goto 5, 3) := by decide +kernel
theorem dX7_chain_29 : decode cX7_chain 29 = .ok (.bipush (-2), 2) := by decide +kernel
theorem dX7_chain_31 : decode cX7_chain 31 = .ok (.ireturn, 1) := by decide +kernel
theorem dX7_sums_0 : decode cX7_sums 0 = .ok (.aload_n 0, 1) := by decide +kernel
theorem dX7_sums_1 : decode cX7_sums 1 = .ok (.invokevirtual 178, 3) := by decide +kernel
theorem dX7_sums_4 : decode cX7_sums 4 = .ok (.aload_n 0, 1) := by decide +kernel
theorem dX7_sums_5 : decode cX7_sums 5 = .ok (.lconst 0, 1) := by decide +kernel
theorem dX7_sums_6 : decode cX7_sums 6 = .ok (.putfield 230, 3) := by decide +kernel
theorem dX7_sums_9 : decode cX7_sums 9 = .ok (.aload_n 0, 1) := by decide +kernel
theorem dX7_sums_10 : decode cX7_sums 10 = .ok (.lconst 0, 1) := by decide +kernel
theorem dX7_sums_11 : decode cX7_sums 11 = .ok (.putfield 233, 3) := by decide +kernel
theorem dX7_sums_14 : decode cX7_sums 14 = .ok (.aload_n 0, 1) := by decide +kernel
theorem dX7_sums_15 : decode cX7_sums 15 = .ok (.lconst 0, 1) := by decide +kernel
theorem dX7_sums_16 : decode cX7_sums 16 = .ok (.putfield 236, 3) := by decide +kernel
theorem dX7_sums_19 : decode cX7_sums 19 = .ok (.aload_n 0, 1) := by decide +kernel
theorem dX7_sums_20 : decode cX7_sums 20 = .ok (.lconst 0, 1) := by decide +kernel
theorem dX7_sums_21 : decode cX7_sums 21 = .ok (.putfield 239, 3) := by decide +kernel
theorem dX7_sums_24 : decode cX7_sums 24 = .ok (.iload_n 1, 1) := by decide +kernel
theorem dX7_sums_25 : decode cX7_sums 25 = .ok (.istore_n 3, 1) := by decide +kernel
theorem dX7_sums_26 : decode cX7_sums 26 = .ok (.iload_n 3, 1) := by decide +kernel
theorem dX7_sums_27 : decode cX7_sums 27 = .ok (.iload_n 2, 1) := by decide +kernel
theorem dX7_sums_28 : decode cX7_sums 28 = .ok (.if_icmp .gt 87, 3) := by decide +kernel
theorem dX7_sums_31 : decode cX7_sums 31 = .ok (.aload_n 0, 1) := by decide +kernel
theorem dX7_sums_32 : decode cX7_sums 32 = .ok (.dup, 1) := by decide +kernel
theorem dX7_sums_33 : decode cX7_sums 33 = .ok (.getfield 230, 3) := by decide +kernel
theorem dX7_sums_36 : decode cX7_sums 36 = .ok (.aload_n 0, 1) := by decide +kernel
theorem dX7_sums_37 : decode cX7_sums 37 = .ok (.getfield 33, 3) := by decide +kernel
theorem dX7_sums_40 : decode cX7_sums 40 = .ok (.iload_n 3, 1) := by decide +kernel
theorem dX7_sums_41 : decode cX7_sums 41 = .ok (.iaload, 1) := by decide +kernel
theorem dX7_sums_42 : decode cX7_sums 42 = .ok (.i2l, 1) := by decide +kernel
theorem dX7_sums_43 : decode cX7_sums 43 = .ok (.ladd, 1) := by decide +kernel
theorem dX7_sums_44 : decode cX7_sums 44 = .ok (.putfield 230, 3) := by decide +kernel
theorem dX7_sums_47 : decode cX7_sums 47 = .ok (.aload_n 0, 1) := by decide +kernel
theorem dX7_sums_48 : decode cX7_sums 48 = .ok (.dup, 1) := by decide +kernel
theorem dX7_sums_49 : decode cX7_sums 49 = .ok (.getfield 233, 3) := by decide +kernel
theorem dX7_sums_52 : decode cX7_sums 52 = .ok (.aload_n 0, 1) := by decide +kernel
theorem dX7_sums_53 : decode cX7_sums 53 = .ok (.getfield 29, 3) := by decide +kernel
theorem dX7_sums_56 : decode cX7_sums 56 = .ok (.iload_n 3, 1) := by decide +kernel
theorem dX7_sums_57 : decode cX7_sums 57 = .ok (.laload, 1) := by decide +kernel
theorem dX7_sums_58 : decode cX7_sums 58 = .ok (.ladd, 1) := by decide +kernel
theorem dX7_sums_59 : decode cX7_sums 59 = .ok (.putfield 233, 3) := by decide +kernel
theorem dX7_sums_62 : decode cX7_sums 62 = .ok (.aload_n 0, 1) := by decide +kernel
theorem dX7_sums_63 : decode cX7_sums 63 = .ok (.dup, 1) := by decide +kernel
theorem dX7_sums_64 : decode cX7_sums 64 = .ok (.getfield 236, 3) := by decide +kernel
theorem dX7_sums_67 : decode cX7_sums 67 = .ok (.aload_n 0, 1) := by decide +kernel
theorem dX7_sums_68 : decode cX7_sums 68 = .ok (.getfield 33, 3) := by decide +kernel
theorem dX7_sums_71 : decode cX7_sums 71 = .ok (.iload_n 3, 1) := by decide +kernel
theorem dX7_sums_72 : decode cX7_sums 72 = .ok (.iaload, 1) := by decide +kernel
theorem dX7_sums_73 : decode cX7_sums 73 = .ok (.i2l, 1) := by decide +kernel
theorem dX7_sums_74 : decode cX7_sums 74 = .ok (.aload_n 0, 1) := by decide +kernel
theorem dX7_sums_75 : decode cX7_sums 75 = .ok (.getfield 29, 3) := by decide +kernel
theorem dX7_sums_78 : decode cX7_sums 78 = .ok (.iload_n 3, 1) := by decide +kernel
theorem dX7_sums_79 : decode cX7_sums 79 = .ok (.laload, 1) := by decide +kernel
theorem dX7_sums_80 : decode cX7_sums 80 = .ok (.lmul, 1) := by decide +kernel
theorem dX7_sums_81 : decode cX7_sums 81 = .ok (.ladd, 1) := by decide +kernel
theorem dX7_sums_82 : decode cX7_sums 82 = .ok (.putfield 236, 3) := by decide +kernel
theorem dX7_sums_85 : decode cX7_sums 85 = .ok (.aload_n 0, 1) := by decide +kernel
theorem dX7_sums_86 : decode cX7_sums 86 = .ok (.dup, 1) := by decide +kernel
theorem dX7_sums_87 : decode cX7_sums 87 = .ok (.getfield 239, 3) := by decide +kernel
theorem dX7_sums_90 : decode cX7_sums 90 = .ok (.aload_n 0, 1) := by decide +kernel
theorem dX7_sums_91 : decode cX7_sums 91 = .ok (.getfield 33, 3) := by decide +kernel
theorem dX7_sums_94 : decode cX7_sums 94 = .ok (.iload_n 3, 1) := by decide +kernel
theorem dX7_sums_95 : decode cX7_sums 95 = .ok (.iaload, 1) := by decide +kernel
theorem dX7_sums_96 : decode cX7_sums 96 = .ok (.i2l, 1) := by decide +kernel
theorem dX7_sums_97 : decode cX7_sums 97 = .ok (.aload_n 0, 1) := by decide +kernel
theorem dX7_sums_98 : decode cX7_sums 98 = .ok (.getfield 33, 3) := by decide +kernel
theorem dX7_sums_101 : decode cX7_sums 101 = .ok (.iload_n 3, 1) := by decide +kernel
theorem dX7_sums_102 : decode cX7_sums 102 = .ok (.iaload, 1) := by decide +kernel
theorem dX7_sums_103 : decode cX7_sums 103 = .ok (.i2l, 1) := by decide +kernel
theorem dX7_sums_104 : decode cX7_sums 104 = .ok (.lmul, 1) := by decide +kernel
theorem dX7_sums_105 : decode cX7_sums 105 = .ok (.ladd, 1) := by decide +kernel
theorem dX7_sums_106 : decode cX7_sums 106 = .ok (.putfield 239, 3) := by decide +kernel
theorem dX7_sums_109 : decode cX7_sums 109 = .ok (.iinc 3 1, 3) := by decide +kernel
theorem dX7_sums_112 : decode cX7_sums 112 = .ok (.goto (-86), 3) := by decide +kernel
theorem dX7_sums_115 : decode cX7_sums 115 = .ok (.return_, 1) := by decide +kernel
theorem dX7_isFit_0 : decode cX7_isFit 0 = .ok (.iload_n 1, 1) := by decide +kernel
theorem dX7_isFit_1 : decode cX7_isFit 1 = .ok (.ifCond .lt 20, 3) := by decide +kernel
theorem dX7_isFit_4 : decode cX7_isFit 4 = .ok (.iload_n 1, 1) := by decide +kernel
theorem dX7_isFit_5 : decode cX7_isFit 5 = .ok (.iload_n 2, 1) := by decide +kernel
theorem dX7_isFit_6 : decode cX7_isFit 6 = .ok (.if_icmp .ge 15, 3) := by decide +kernel
theorem dX7_isFit_9 : decode cX7_isFit 9 = .ok (.iload_n 2, 1) := by decide +kernel
theorem dX7_isFit_10 : decode cX7_isFit 10 = .ok (.aload_n 0, 1) := by decide +kernel
theorem dX7_isFit_11 : decode cX7_isFit 11 = .ok (.getfield 81, 3) := by decide +kernel
theorem dX7_isFit_14 : decode cX7_isFit 14 = .ok (.if_icmp .ge 7, 3) := by decide +kernel
theorem dX7_isFit_17 : decode cX7_isFit 17 = .ok (.iconst 1, 1) := by decide +kernel
theorem dX7_isFit_18 : decode cX7_isFit 18 = .ok (.goto 4, 3) := by decide +kernel
theorem dX7_isFit_21 : decode cX7_isFit 21 = .ok (.iconst 0, 1) := by decide +kernel
theorem dX7_isFit_22 : decode cX7_isFit 22 = .ok (.ireturn, 1) := by decide +kernel
theorem dX7_fitOf_0 : decode cX7_fitOf 0 = .ok (.aload_n 0, 1) := by decide +kernel
theorem dX7_fitOf_1 : decode cX7_fitOf 1 = .ok (.iload_n 1, 1) := by decide +kernel
theorem dX7_fitOf_2 : decode cX7_fitOf 2 = .ok (.iload_n 2, 1) := by decide +kernel
theorem dX7_fitOf_3 : decode cX7_fitOf 3 = .ok (.invokevirtual 242, 3) := by decide +kernel
theorem dX7_fitOf_6 : decode cX7_fitOf 6 = .ok (.iload_n 2, 1) := by decide +kernel
theorem dX7_fitOf_7 : decode cX7_fitOf 7 = .ok (.iload_n 1, 1) := by decide +kernel
theorem dX7_fitOf_8 : decode cX7_fitOf 8 = .ok (.isub, 1) := by decide +kernel
theorem dX7_fitOf_9 : decode cX7_fitOf 9 = .ok (.iconst 1, 1) := by decide +kernel
theorem dX7_fitOf_10 : decode cX7_fitOf 10 = .ok (.iadd, 1) := by decide +kernel
theorem dX7_fitOf_11 : decode cX7_fitOf 11 = .ok (.i2l, 1) := by decide +kernel
theorem dX7_fitOf_12 : decode cX7_fitOf 12 = .ok (.lstore 4, 2) := by decide +kernel
theorem dX7_fitOf_14 : decode cX7_fitOf 14 = .ok (.lload 4, 2) := by decide +kernel
theorem dX7_fitOf_16 : decode cX7_fitOf 16 = .ok (.aload_n 0, 1) := by decide +kernel
theorem dX7_fitOf_17 : decode cX7_fitOf 17 = .ok (.getfield 236, 3) := by decide +kernel
theorem dX7_fitOf_20 : decode cX7_fitOf 20 = .ok (.lmul, 1) := by decide +kernel
theorem dX7_fitOf_21 : decode cX7_fitOf 21 = .ok (.aload_n 0, 1) := by decide +kernel
theorem dX7_fitOf_22 : decode cX7_fitOf 22 = .ok (.getfield 230, 3) := by decide +kernel
theorem dX7_fitOf_25 : decode cX7_fitOf 25 = .ok (.aload_n 0, 1) := by decide +kernel
theorem dX7_fitOf_26 : decode cX7_fitOf 26 = .ok (.getfield 233, 3) := by decide +kernel
theorem dX7_fitOf_29 : decode cX7_fitOf 29 = .ok (.lmul, 1) := by decide +kernel
theorem dX7_fitOf_30 : decode cX7_fitOf 30 = .ok (.lsub, 1) := by decide +kernel
theorem dX7_fitOf_31 : decode cX7_fitOf 31 = .ok (.lload 4, 2) := by decide +kernel
theorem dX7_fitOf_33 : decode cX7_fitOf 33 = .ok (.aload_n 0, 1) := by decide +kernel
theorem dX7_fitOf_34 : decode cX7_fitOf 34 = .ok (.getfield 239, 3) := by decide +kernel
theorem dX7_fitOf_37 : decode cX7_fitOf 37 = .ok (.lmul, 1) := by decide +kernel
theorem dX7_fitOf_38 : decode cX7_fitOf 38 = .ok (.aload_n 0, 1) := by decide +kernel
theorem dX7_fitOf_39 : decode cX7_fitOf 39 = .ok (.getfield 230, 3) := by decide +kernel
theorem dX7_fitOf_42 : decode cX7_fitOf 42 = .ok (.aload_n 0, 1) := by decide +kernel
theorem dX7_fitOf_43 : decode cX7_fitOf 43 = .ok (.getfield 230, 3) := by decide +kernel
theorem dX7_fitOf_46 : decode cX7_fitOf 46 = .ok (.lmul, 1) := by decide +kernel
theorem dX7_fitOf_47 : decode cX7_fitOf 47 = .ok (.lsub, 1) := by decide +kernel
theorem dX7_fitOf_48 : decode cX7_fitOf 48 = .ok (.aload_n 0, 1) := by decide +kernel
theorem dX7_fitOf_49 : decode cX7_fitOf 49 = .ok (.getfield 161, 3) := by decide +kernel
theorem dX7_fitOf_52 : decode cX7_fitOf 52 = .ok (.lmul, 1) := by decide +kernel
theorem dX7_fitOf_53 : decode cX7_fitOf 53 = .ok (.iload_n 3, 1) := by decide +kernel
theorem dX7_fitOf_54 : decode cX7_fitOf 54 = .ok (.invokestatic 132, 3) := by decide +kernel
theorem dX7_fitOf_57 : decode cX7_fitOf 57 = .ok (.lreturn, 1) := by decide +kernel
theorem dX7_fit_0 : decode cX7_fit 0 = .ok (.aload_n 0, 1) := by decide +kernel
theorem dX7_fit_1 : decode cX7_fit 1 = .ok (.iload_n 1, 1) := by decide +kernel
theorem dX7_fit_2 : decode cX7_fit 2 = .ok (.iload_n 2, 1) := by decide +kernel
theorem dX7_fit_3 : decode cX7_fit 3 = .ok (.invokevirtual 246, 3) := by decide +kernel
theorem dX7_fit_6 : decode cX7_fit 6 = .ok (.ifCond .eq 22, 3) := by decide +kernel
theorem dX7_fit_9 : decode cX7_fit 9 = .ok (.iload_n 3, 1) := by decide +kernel
theorem dX7_fit_10 : decode cX7_fit 10 = .ok (.iconst 0, 1) := by decide +kernel
theorem dX7_fit_11 : decode cX7_fit 11 = .ok (.iconst 1, 1) := by decide +kernel
theorem dX7_fit_12 : decode cX7_fit 12 = .ok (.invokestatic 85, 3) := by decide +kernel
theorem dX7_fit_15 : decode cX7_fit 15 = .ok (.ifCond .eq 13, 3) := by decide +kernel
theorem dX7_fit_18 : decode cX7_fit 18 = .ok (.aload_n 0, 1) := by decide +kernel
theorem dX7_fit_19 : decode cX7_fit 19 = .ok (.iload_n 1, 1) := by decide +kernel
theorem dX7_fit_20 : decode cX7_fit 20 = .ok (.iload_n 2, 1) := by decide +kernel
theorem dX7_fit_21 : decode cX7_fit 21 = .ok (.iload_n 3, 1) := by decide +kernel
theorem dX7_fit_22 : decode cX7_fit 22 = .ok (.invokevirtual 249, 3) := by decide +kernel
theorem dX7_fit_25 : decode cX7_fit 25 = .ok (.goto 8, 3) := by decide +kernel
theorem dX7_fit_28 : decode cX7_fit 28 = .ok (.bipush (-2), 2) := by decide +kernel
theorem dX7_fit_30 : decode cX7_fit 30 = .ok (.invokestatic 126, 3) := by decide +kernel
theorem dX7_fit_33 : decode cX7_fit 33 = .ok (.lreturn, 1) := by decide +kernel
theorem dX7_offOf_0 : decode cX7_offOf 0 = .ok (.aload_n 0, 1) := by decide +kernel
theorem dX7_offOf_1 : decode cX7_offOf 1 = .ok (.iload_n 1, 1) := by decide +kernel
theorem dX7_offOf_2 : decode cX7_offOf 2 = .ok (.iload_n 2, 1) := by decide +kernel
theorem dX7_offOf_3 : decode cX7_offOf 3 = .ok (.invokevirtual 242, 3) := by decide +kernel
theorem dX7_offOf_6 : decode cX7_offOf 6 = .ok (.iload_n 2, 1) := by decide +kernel
theorem dX7_offOf_7 : decode cX7_offOf 7 = .ok (.iload_n 1, 1) := by decide +kernel
theorem dX7_offOf_8 : decode cX7_offOf 8 = .ok (.isub, 1) := by decide +kernel
theorem dX7_offOf_9 : decode cX7_offOf 9 = .ok (.iconst 1, 1) := by decide +kernel
theorem dX7_offOf_10 : decode cX7_offOf 10 = .ok (.iadd, 1) := by decide +kernel
theorem dX7_offOf_11 : decode cX7_offOf 11 = .ok (.i2l, 1) := by decide +kernel
theorem dX7_offOf_12 : decode cX7_offOf 12 = .ok (.lstore_n 3, 1) := by decide +kernel
theorem dX7_offOf_13 : decode cX7_offOf 13 = .ok (.lload_n 3, 1) := by decide +kernel
theorem dX7_offOf_14 : decode cX7_offOf 14 = .ok (.aload_n 0, 1) := by decide +kernel
theorem dX7_offOf_15 : decode cX7_offOf 15 = .ok (.getfield 236, 3) := by decide +kernel
theorem dX7_offOf_18 : decode cX7_offOf 18 = .ok (.lmul, 1) := by decide +kernel
theorem dX7_offOf_19 : decode cX7_offOf 19 = .ok (.aload_n 0, 1) := by decide +kernel
theorem dX7_offOf_20 : decode cX7_offOf 20 = .ok (.getfield 230, 3) := by decide +kernel
theorem dX7_offOf_23 : decode cX7_offOf 23 = .ok (.aload_n 0, 1) := by decide +kernel
theorem dX7_offOf_24 : decode cX7_offOf 24 = .ok (.getfield 233, 3) := by decide +kernel
theorem dX7_offOf_27 : decode cX7_offOf 27 = .ok (.lmul, 1) := by decide +kernel
theorem dX7_offOf_28 : decode cX7_offOf 28 = .ok (.lsub, 1) := by decide +kernel
theorem dX7_offOf_29 : decode cX7_offOf 29 = .ok (.lstore 5, 2) := by decide +kernel
theorem dX7_offOf_31 : decode cX7_offOf 31 = .ok (.lload_n 3, 1) := by decide +kernel
theorem dX7_offOf_32 : decode cX7_offOf 32 = .ok (.aload_n 0, 1) := by decide +kernel
theorem dX7_offOf_33 : decode cX7_offOf 33 = .ok (.getfield 239, 3) := by decide +kernel
theorem dX7_offOf_36 : decode cX7_offOf 36 = .ok (.lmul, 1) := by decide +kernel
theorem dX7_offOf_37 : decode cX7_offOf 37 = .ok (.aload_n 0, 1) := by decide +kernel
theorem dX7_offOf_38 : decode cX7_offOf 38 = .ok (.getfield 230, 3) := by decide +kernel
theorem dX7_offOf_41 : decode cX7_offOf 41 = .ok (.aload_n 0, 1) := by decide +kernel
theorem dX7_offOf_42 : decode cX7_offOf 42 = .ok (.getfield 230, 3) := by decide +kernel
theorem dX7_offOf_45 : decode cX7_offOf 45 = .ok (.lmul, 1) := by decide +kernel
theorem dX7_offOf_46 : decode cX7_offOf 46 = .ok (.lsub, 1) := by decide +kernel
theorem dX7_offOf_47 : decode cX7_offOf 47 = .ok (.lstore 7, 2) := by decide +kernel
theorem dX7_offOf_49 : decode cX7_offOf 49 = .ok (.iconst (-1), 1) := by decide +kernel
theorem dX7_offOf_50 : decode cX7_offOf 50 = .ok (.istore 9, 2) := by decide +kernel
theorem dX7_offOf_52 : decode cX7_offOf 52 = .ok (.ldc2_w 252, 3) := by decide +kernel
theorem dX7_offOf_55 : decode cX7_offOf 55 = .ok (.lstore 10, 2) := by decide +kernel
theorem dX7_offOf_57 : decode cX7_offOf 57 = .ok (.iload_n 1, 1) := by decide +kernel
theorem dX7_offOf_58 : decode cX7_offOf 58 = .ok (.istore 12, 2) := by decide +kernel
theorem dX7_offOf_60 : decode cX7_offOf 60 = .ok (.iload 12, 2) := by decide +kernel
theorem dX7_offOf_62 : decode cX7_offOf 62 = .ok (.iload_n 2, 1) := by decide +kernel
theorem dX7_offOf_63 : decode cX7_offOf 63 = .ok (.if_icmp .gt 98, 3) := by decide +kernel
theorem dX7_offOf_66 : decode cX7_offOf 66 = .ok (.lload 7, 2) := by decide +kernel
theorem dX7_offOf_68 : decode cX7_offOf 68 = .ok (.lload_n 3, 1) := by decide +kernel
theorem dX7_offOf_69 : decode cX7_offOf 69 = .ok (.aload_n 0, 1) := by decide +kernel
theorem dX7_offOf_70 : decode cX7_offOf 70 = .ok (.getfield 29, 3) := by decide +kernel
theorem dX7_offOf_73 : decode cX7_offOf 73 = .ok (.iload 12, 2) := by decide +kernel
theorem dX7_offOf_75 : decode cX7_offOf 75 = .ok (.laload, 1) := by decide +kernel
theorem dX7_offOf_76 : decode cX7_offOf 76 = .ok (.lmul, 1) := by decide +kernel
theorem dX7_offOf_77 : decode cX7_offOf 77 = .ok (.aload_n 0, 1) := by decide +kernel
theorem dX7_offOf_78 : decode cX7_offOf 78 = .ok (.getfield 233, 3) := by decide +kernel
theorem dX7_offOf_81 : decode cX7_offOf 81 = .ok (.lsub, 1) := by decide +kernel
theorem dX7_offOf_82 : decode cX7_offOf 82 = .ok (.lmul, 1) := by decide +kernel
theorem dX7_offOf_83 : decode cX7_offOf 83 = .ok (.lload 5, 2) := by decide +kernel
theorem dX7_offOf_85 : decode cX7_offOf 85 = .ok (.lload_n 3, 1) := by decide +kernel
theorem dX7_offOf_86 : decode cX7_offOf 86 = .ok (.aload_n 0, 1) := by decide +kernel
theorem dX7_offOf_87 : decode cX7_offOf 87 = .ok (.getfield 33, 3) := by decide +kernel
theorem dX7_offOf_90 : decode cX7_offOf 90 = .ok (.iload 12, 2) := by decide +kernel
theorem dX7_offOf_92 : decode cX7_offOf 92 = .ok (.iaload, 1) := by decide +kernel
theorem dX7_offOf_93 : decode cX7_offOf 93 = .ok (.i2l, 1) := by decide +kernel
theorem dX7_offOf_94 : decode cX7_offOf 94 = .ok (.lmul, 1) := by decide +kernel
theorem dX7_offOf_95 : decode cX7_offOf 95 = .ok (.aload_n 0, 1) := by decide +kernel
theorem dX7_offOf_96 : decode cX7_offOf 96 = .ok (.getfield 230, 3) := by decide +kernel
theorem dX7_offOf_99 : decode cX7_offOf 99 = .ok (.lsub, 1) := by decide +kernel
theorem dX7_offOf_100 : decode cX7_offOf 100 = .ok (.lmul, 1) := by decide +kernel
theorem dX7_offOf_101 : decode cX7_offOf 101 = .ok (.lsub, 1) := by decide +kernel
theorem dX7_offOf_102 : decode cX7_offOf 102 = .ok (.lstore 13, 2) := by decide +kernel
theorem dX7_offOf_104 : decode cX7_offOf 104 = .ok (.lload 13, 2) := by decide +kernel
theorem dX7_offOf_106 : decode cX7_offOf 106 = .ok (.lconst 0, 1) := by decide +kernel
theorem dX7_offOf_107 : decode cX7_offOf 107 = .ok (.lcmp, 1) := by decide +kernel
theorem dX7_offOf_108 : decode cX7_offOf 108 = .ok (.ifCond .ge 9, 3) := by decide +kernel
theorem dX7_offOf_111 : decode cX7_offOf 111 = .ok (.lload 13, 2) := by decide +kernel
theorem dX7_offOf_113 : decode cX7_offOf 113 = .ok (.lneg, 1) := by decide +kernel
theorem dX7_offOf_114 : decode cX7_offOf 114 = .ok (.goto 5, 3) := by decide +kernel
theorem dX7_offOf_117 : decode cX7_offOf 117 = .ok (.lload 13, 2) := by decide +kernel
theorem dX7_offOf_119 : decode cX7_offOf 119 = .ok (.lstore 13, 2) := by decide +kernel
theorem dX7_offOf_121 : decode cX7_offOf 121 = .ok (.lload 13, 2) := by decide +kernel
theorem dX7_offOf_123 : decode cX7_offOf 123 = .ok (.lload 10, 2) := by decide +kernel
theorem dX7_offOf_125 : decode cX7_offOf 125 = .ok (.lcmp, 1) := by decide +kernel
theorem dX7_offOf_126 : decode cX7_offOf 126 = .ok (.ifCond .le 8, 3) := by decide +kernel
theorem dX7_offOf_129 : decode cX7_offOf 129 = .ok (.iload 12, 2) := by decide +kernel
theorem dX7_offOf_131 : decode cX7_offOf 131 = .ok (.goto 5, 3) := by decide +kernel
theorem dX7_offOf_134 : decode cX7_offOf 134 = .ok (.iload 9, 2) := by decide +kernel
theorem dX7_offOf_136 : decode cX7_offOf 136 = .ok (.istore 9, 2) := by decide +kernel
theorem dX7_offOf_138 : decode cX7_offOf 138 = .ok (.lload 13, 2) := by decide +kernel
theorem dX7_offOf_140 : decode cX7_offOf 140 = .ok (.lload 10, 2) := by decide +kernel
theorem dX7_offOf_142 : decode cX7_offOf 142 = .ok (.lcmp, 1) := by decide +kernel
theorem dX7_offOf_143 : decode cX7_offOf 143 = .ok (.ifCond .le 8, 3) := by decide +kernel
theorem dX7_offOf_146 : decode cX7_offOf 146 = .ok (.lload 13, 2) := by decide +kernel
theorem dX7_offOf_148 : decode cX7_offOf 148 = .ok (.goto 5, 3) := by decide +kernel
theorem dX7_offOf_151 : decode cX7_offOf 151 = .ok (.lload 10, 2) := by decide +kernel
theorem dX7_offOf_153 : decode cX7_offOf 153 = .ok (.lstore 10, 2) := by decide +kernel
theorem dX7_offOf_155 : decode cX7_offOf 155 = .ok (.iinc 12 1, 3) := by decide +kernel
theorem dX7_offOf_158 : decode cX7_offOf 158 = .ok (.goto (-98), 3) := by decide +kernel
theorem dX7_offOf_161 : decode cX7_offOf 161 = .ok (.iload 9, 2) := by decide +kernel
theorem dX7_offOf_163 : decode cX7_offOf 163 = .ok (.ireturn, 1) := by decide +kernel
theorem dX7_off_0 : decode cX7_off 0 = .ok (.aload_n 0, 1) := by decide +kernel
theorem dX7_off_1 : decode cX7_off 1 = .ok (.iload_n 1, 1) := by decide +kernel
theorem dX7_off_2 : decode cX7_off 2 = .ok (.iload_n 2, 1) := by decide +kernel
theorem dX7_off_3 : decode cX7_off 3 = .ok (.invokevirtual 246, 3) := by decide +kernel
theorem dX7_off_6 : decode cX7_off 6 = .ok (.ifCond .eq 12, 3) := by decide +kernel
theorem dX7_off_9 : decode cX7_off 9 = .ok (.aload_n 0, 1) := by decide +kernel
theorem dX7_off_10 : decode cX7_off 10 = .ok (.iload_n 1, 1) := by decide +kernel
theorem dX7_off_11 : decode cX7_off 11 = .ok (.iload_n 2, 1) := by decide +kernel
theorem dX7_off_12 : decode cX7_off 12 = .ok (.invokevirtual 254, 3) := by decide +kernel
theorem dX7_off_15 : decode cX7_off 15 = .ok (.goto 5, 3) := by decide +kernel
theorem dX7_off_18 : decode cX7_off 18 = .ok (.bipush (-2), 2) := by decide +kernel
theorem dX7_off_20 : decode cX7_off 20 = .ok (.ireturn, 1) := by decide +kernel
theorem dX7_gainOf_0 : decode cX7_gainOf 0 = .ok (.lconst 0, 1) := by decide +kernel
theorem dX7_gainOf_1 : decode cX7_gainOf 1 = .ok (.lstore_n 2, 1) := by decide +kernel
theorem dX7_gainOf_2 : decode cX7_gainOf 2 = .ok (.lconst 0, 1) := by decide +kernel
theorem dX7_gainOf_3 : decode cX7_gainOf 3 = .ok (.lstore 4, 2) := by decide +kernel
theorem dX7_gainOf_5 : decode cX7_gainOf 5 = .ok (.iconst 0, 1) := by decide +kernel
theorem dX7_gainOf_6 : decode cX7_gainOf 6 = .ok (.istore 6, 2) := by decide +kernel
theorem dX7_gainOf_8 : decode cX7_gainOf 8 = .ok (.iload 6, 2) := by decide +kernel
theorem dX7_gainOf_10 : decode cX7_gainOf 10 = .ok (.iload_n 0, 1) := by decide +kernel
theorem dX7_gainOf_11 : decode cX7_gainOf 11 = .ok (.if_icmp .ge 26, 3) := by decide +kernel
theorem dX7_gainOf_14 : decode cX7_gainOf 14 = .ok (.lload_n 2, 1) := by decide +kernel
theorem dX7_gainOf_15 : decode cX7_gainOf 15 = .ok (.iload 6, 2) := by decide +kernel
theorem dX7_gainOf_17 : decode cX7_gainOf 17 = .ok (.i2l, 1) := by decide +kernel
theorem dX7_gainOf_18 : decode cX7_gainOf 18 = .ok (.ladd, 1) := by decide +kernel
theorem dX7_gainOf_19 : decode cX7_gainOf 19 = .ok (.lstore_n 2, 1) := by decide +kernel
theorem dX7_gainOf_20 : decode cX7_gainOf 20 = .ok (.lload 4, 2) := by decide +kernel
theorem dX7_gainOf_22 : decode cX7_gainOf 22 = .ok (.iload 6, 2) := by decide +kernel
theorem dX7_gainOf_24 : decode cX7_gainOf 24 = .ok (.iload 6, 2) := by decide +kernel
theorem dX7_gainOf_26 : decode cX7_gainOf 26 = .ok (.imul, 1) := by decide +kernel
theorem dX7_gainOf_27 : decode cX7_gainOf 27 = .ok (.i2l, 1) := by decide +kernel
theorem dX7_gainOf_28 : decode cX7_gainOf 28 = .ok (.ladd, 1) := by decide +kernel
theorem dX7_gainOf_29 : decode cX7_gainOf 29 = .ok (.lstore 4, 2) := by decide +kernel
theorem dX7_gainOf_31 : decode cX7_gainOf 31 = .ok (.iinc 6 1, 3) := by decide +kernel
theorem dX7_gainOf_34 : decode cX7_gainOf 34 = .ok (.goto (-26), 3) := by decide +kernel
theorem dX7_gainOf_37 : decode cX7_gainOf 37 = .ok (.iload_n 0, 1) := by decide +kernel
theorem dX7_gainOf_38 : decode cX7_gainOf 38 = .ok (.i2l, 1) := by decide +kernel
theorem dX7_gainOf_39 : decode cX7_gainOf 39 = .ok (.lload 4, 2) := by decide +kernel
theorem dX7_gainOf_41 : decode cX7_gainOf 41 = .ok (.lmul, 1) := by decide +kernel
theorem dX7_gainOf_42 : decode cX7_gainOf 42 = .ok (.lload_n 2, 1) := by decide +kernel
theorem dX7_gainOf_43 : decode cX7_gainOf 43 = .ok (.lload_n 2, 1) := by decide +kernel
theorem dX7_gainOf_44 : decode cX7_gainOf 44 = .ok (.lmul, 1) := by decide +kernel
theorem dX7_gainOf_45 : decode cX7_gainOf 45 = .ok (.lsub, 1) := by decide +kernel
theorem dX7_gainOf_46 : decode cX7_gainOf 46 = .ok (.lstore 6, 2) := by decide +kernel
theorem dX7_gainOf_48 : decode cX7_gainOf 48 = .ok (.lconst 0, 1) := by decide +kernel
theorem dX7_gainOf_49 : decode cX7_gainOf 49 = .ok (.lstore 8, 2) := by decide +kernel
theorem dX7_gainOf_51 : decode cX7_gainOf 51 = .ok (.iconst 0, 1) := by decide +kernel
theorem dX7_gainOf_52 : decode cX7_gainOf 52 = .ok (.istore 10, 2) := by decide +kernel
theorem dX7_gainOf_54 : decode cX7_gainOf 54 = .ok (.iload 10, 2) := by decide +kernel
theorem dX7_gainOf_56 : decode cX7_gainOf 56 = .ok (.iload_n 0, 1) := by decide +kernel
theorem dX7_gainOf_57 : decode cX7_gainOf 57 = .ok (.if_icmp .ge 29, 3) := by decide +kernel
theorem dX7_gainOf_60 : decode cX7_gainOf 60 = .ok (.lload 8, 2) := by decide +kernel
theorem dX7_gainOf_62 : decode cX7_gainOf 62 = .ok (.iload_n 0, 1) := by decide +kernel
theorem dX7_gainOf_63 : decode cX7_gainOf 63 = .ok (.iload 10, 2) := by decide +kernel
theorem dX7_gainOf_65 : decode cX7_gainOf 65 = .ok (.imul, 1) := by decide +kernel
theorem dX7_gainOf_66 : decode cX7_gainOf 66 = .ok (.i2l, 1) := by decide +kernel
theorem dX7_gainOf_67 : decode cX7_gainOf 67 = .ok (.lload_n 2, 1) := by decide +kernel
theorem dX7_gainOf_68 : decode cX7_gainOf 68 = .ok (.lsub, 1) := by decide +kernel
theorem dX7_gainOf_69 : decode cX7_gainOf 69 = .ok (.iload_n 0, 1) := by decide +kernel
theorem dX7_gainOf_70 : decode cX7_gainOf 70 = .ok (.iload 10, 2) := by decide +kernel
theorem dX7_gainOf_72 : decode cX7_gainOf 72 = .ok (.imul, 1) := by decide +kernel
theorem dX7_gainOf_73 : decode cX7_gainOf 73 = .ok (.i2l, 1) := by decide +kernel
theorem dX7_gainOf_74 : decode cX7_gainOf 74 = .ok (.lload_n 2, 1) := by decide +kernel
theorem dX7_gainOf_75 : decode cX7_gainOf 75 = .ok (.lsub, 1) := by decide +kernel
theorem dX7_gainOf_76 : decode cX7_gainOf 76 = .ok (.lmul, 1) := by decide +kernel
theorem dX7_gainOf_77 : decode cX7_gainOf 77 = .ok (.ladd, 1) := by decide +kernel
theorem dX7_gainOf_78 : decode cX7_gainOf 78 = .ok (.lstore 8, 2) := by decide +kernel
theorem dX7_gainOf_80 : decode cX7_gainOf 80 = .ok (.iinc 10 1, 3) := by decide +kernel
theorem dX7_gainOf_83 : decode cX7_gainOf 83 = .ok (.goto (-29), 3) := by decide +kernel
theorem dX7_gainOf_86 : decode cX7_gainOf 86 = .ok (.ldc2_w 168, 3) := by decide +kernel
theorem dX7_gainOf_89 : decode cX7_gainOf 89 = .ok (.lload 6, 2) := by decide +kernel
theorem dX7_gainOf_91 : decode cX7_gainOf 91 = .ok (.lmul, 1) := by decide +kernel
theorem dX7_gainOf_92 : decode cX7_gainOf 92 = .ok (.lload 6, 2) := by decide +kernel
theorem dX7_gainOf_94 : decode cX7_gainOf 94 = .ok (.lmul, 1) := by decide +kernel
theorem dX7_gainOf_95 : decode cX7_gainOf 95 = .ok (.lload 8, 2) := by decide +kernel
theorem dX7_gainOf_97 : decode cX7_gainOf 97 = .ok (.iload_n 0, 1) := by decide +kernel
theorem dX7_gainOf_98 : decode cX7_gainOf 98 = .ok (.iconst 1, 1) := by decide +kernel
theorem dX7_gainOf_99 : decode cX7_gainOf 99 = .ok (.isub, 1) := by decide +kernel
theorem dX7_gainOf_100 : decode cX7_gainOf 100 = .ok (.i2l, 1) := by decide +kernel
theorem dX7_gainOf_101 : decode cX7_gainOf 101 = .ok (.lmul, 1) := by decide +kernel
theorem dX7_gainOf_102 : decode cX7_gainOf 102 = .ok (.iload_n 0, 1) := by decide +kernel
theorem dX7_gainOf_103 : decode cX7_gainOf 103 = .ok (.iconst 1, 1) := by decide +kernel
theorem dX7_gainOf_104 : decode cX7_gainOf 104 = .ok (.isub, 1) := by decide +kernel
theorem dX7_gainOf_105 : decode cX7_gainOf 105 = .ok (.i2l, 1) := by decide +kernel
theorem dX7_gainOf_106 : decode cX7_gainOf 106 = .ok (.lmul, 1) := by decide +kernel
theorem dX7_gainOf_107 : decode cX7_gainOf 107 = .ok (.iload_n 1, 1) := by decide +kernel
theorem dX7_gainOf_108 : decode cX7_gainOf 108 = .ok (.invokestatic 132, 3) := by decide +kernel
theorem dX7_gainOf_111 : decode cX7_gainOf 111 = .ok (.lreturn, 1) := by decide +kernel
theorem dX7_gain_0 : decode cX7_gain 0 = .ok (.iload_n 1, 1) := by decide +kernel
theorem dX7_gain_1 : decode cX7_gain 1 = .ok (.iconst 3, 1) := by decide +kernel
theorem dX7_gain_2 : decode cX7_gain 2 = .ok (.bipush 32, 2) := by decide +kernel
theorem dX7_gain_4 : decode cX7_gain 4 = .ok (.invokestatic 85, 3) := by decide +kernel
theorem dX7_gain_7 : decode cX7_gain 7 = .ok (.ifCond .eq 20, 3) := by decide +kernel
theorem dX7_gain_10 : decode cX7_gain 10 = .ok (.iload_n 2, 1) := by decide +kernel
theorem dX7_gain_11 : decode cX7_gain 11 = .ok (.iconst 0, 1) := by decide +kernel
theorem dX7_gain_12 : decode cX7_gain 12 = .ok (.iconst 1, 1) := by decide +kernel
theorem dX7_gain_13 : decode cX7_gain 13 = .ok (.invokestatic 85, 3) := by decide +kernel
theorem dX7_gain_16 : decode cX7_gain 16 = .ok (.ifCond .eq 11, 3) := by decide +kernel
theorem dX7_gain_19 : decode cX7_gain 19 = .ok (.iload_n 1, 1) := by decide +kernel
theorem dX7_gain_20 : decode cX7_gain 20 = .ok (.iload_n 2, 1) := by decide +kernel
theorem dX7_gain_21 : decode cX7_gain 21 = .ok (.invokestatic 257, 3) := by decide +kernel
theorem dX7_gain_24 : decode cX7_gain 24 = .ok (.goto 8, 3) := by decide +kernel
theorem dX7_gain_27 : decode cX7_gain 27 = .ok (.bipush (-2), 2) := by decide +kernel
theorem dX7_gain_29 : decode cX7_gain 29 = .ok (.invokestatic 126, 3) := by decide +kernel
theorem dX7_gain_32 : decode cX7_gain 32 = .ok (.lreturn, 1) := by decide +kernel
theorem dX7_squaresAt_0 : decode cX7_squaresAt 0 = .ok (.lconst 0, 1) := by decide +kernel
theorem dX7_squaresAt_1 : decode cX7_squaresAt 1 = .ok (.lstore_n 2, 1) := by decide +kernel
theorem dX7_squaresAt_2 : decode cX7_squaresAt 2 = .ok (.iconst 0, 1) := by decide +kernel
theorem dX7_squaresAt_3 : decode cX7_squaresAt 3 = .ok (.istore 4, 2) := by decide +kernel
theorem dX7_squaresAt_5 : decode cX7_squaresAt 5 = .ok (.iload 4, 2) := by decide +kernel
theorem dX7_squaresAt_7 : decode cX7_squaresAt 7 = .ok (.iconst 2, 1) := by decide +kernel
theorem dX7_squaresAt_8 : decode cX7_squaresAt 8 = .ok (.iload_n 1, 1) := by decide +kernel
theorem dX7_squaresAt_9 : decode cX7_squaresAt 9 = .ok (.imul, 1) := by decide +kernel
theorem dX7_squaresAt_10 : decode cX7_squaresAt 10 = .ok (.iadd, 1) := by decide +kernel
theorem dX7_squaresAt_11 : decode cX7_squaresAt 11 = .ok (.aload_n 0, 1) := by decide +kernel
theorem dX7_squaresAt_12 : decode cX7_squaresAt 12 = .ok (.getfield 81, 3) := by decide +kernel
theorem dX7_squaresAt_15 : decode cX7_squaresAt 15 = .ok (.if_icmp .ge 52, 3) := by decide +kernel
theorem dX7_squaresAt_18 : decode cX7_squaresAt 18 = .ok (.aload_n 0, 1) := by decide +kernel
theorem dX7_squaresAt_19 : decode cX7_squaresAt 19 = .ok (.getfield 29, 3) := by decide +kernel
theorem dX7_squaresAt_22 : decode cX7_squaresAt 22 = .ok (.iload 4, 2) := by decide +kernel
theorem dX7_squaresAt_24 : decode cX7_squaresAt 24 = .ok (.iconst 2, 1) := by decide +kernel
theorem dX7_squaresAt_25 : decode cX7_squaresAt 25 = .ok (.iload_n 1, 1) := by decide +kernel
theorem dX7_squaresAt_26 : decode cX7_squaresAt 26 = .ok (.imul, 1) := by decide +kernel
theorem dX7_squaresAt_27 : decode cX7_squaresAt 27 = .ok (.iadd, 1) := by decide +kernel
theorem dX7_squaresAt_28 : decode cX7_squaresAt 28 = .ok (.laload, 1) := by decide +kernel
theorem dX7_squaresAt_29 : decode cX7_squaresAt 29 = .ok (.ldc2_w 168, 3) := by decide +kernel
theorem dX7_squaresAt_32 : decode cX7_squaresAt 32 = .ok (.aload_n 0, 1) := by decide +kernel
theorem dX7_squaresAt_33 : decode cX7_squaresAt 33 = .ok (.getfield 29, 3) := by decide +kernel
theorem dX7_squaresAt_36 : decode cX7_squaresAt 36 = .ok (.iload 4, 2) := by decide +kernel
theorem dX7_squaresAt_38 : decode cX7_squaresAt 38 = .ok (.iload_n 1, 1) := by decide +kernel
theorem dX7_squaresAt_39 : decode cX7_squaresAt 39 = .ok (.iadd, 1) := by decide +kernel
theorem dX7_squaresAt_40 : decode cX7_squaresAt 40 = .ok (.laload, 1) := by decide +kernel
theorem dX7_squaresAt_41 : decode cX7_squaresAt 41 = .ok (.lmul, 1) := by decide +kernel
theorem dX7_squaresAt_42 : decode cX7_squaresAt 42 = .ok (.lsub, 1) := by decide +kernel
theorem dX7_squaresAt_43 : decode cX7_squaresAt 43 = .ok (.aload_n 0, 1) := by decide +kernel
theorem dX7_squaresAt_44 : decode cX7_squaresAt 44 = .ok (.getfield 29, 3) := by decide +kernel
theorem dX7_squaresAt_47 : decode cX7_squaresAt 47 = .ok (.iload 4, 2) := by decide +kernel
theorem dX7_squaresAt_49 : decode cX7_squaresAt 49 = .ok (.laload, 1) := by decide +kernel
theorem dX7_squaresAt_50 : decode cX7_squaresAt 50 = .ok (.ladd, 1) := by decide +kernel
theorem dX7_squaresAt_51 : decode cX7_squaresAt 51 = .ok (.lstore 5, 2) := by decide +kernel
theorem dX7_squaresAt_53 : decode cX7_squaresAt 53 = .ok (.lload_n 2, 1) := by decide +kernel
theorem dX7_squaresAt_54 : decode cX7_squaresAt 54 = .ok (.lload 5, 2) := by decide +kernel
theorem dX7_squaresAt_56 : decode cX7_squaresAt 56 = .ok (.lload 5, 2) := by decide +kernel
theorem dX7_squaresAt_58 : decode cX7_squaresAt 58 = .ok (.lmul, 1) := by decide +kernel
theorem dX7_squaresAt_59 : decode cX7_squaresAt 59 = .ok (.ladd, 1) := by decide +kernel
theorem dX7_squaresAt_60 : decode cX7_squaresAt 60 = .ok (.lstore_n 2, 1) := by decide +kernel
theorem dX7_squaresAt_61 : decode cX7_squaresAt 61 = .ok (.iinc 4 1, 3) := by decide +kernel
theorem dX7_squaresAt_64 : decode cX7_squaresAt 64 = .ok (.goto (-59), 3) := by decide +kernel
theorem dX7_squaresAt_67 : decode cX7_squaresAt 67 = .ok (.aload_n 0, 1) := by decide +kernel
theorem dX7_squaresAt_68 : decode cX7_squaresAt 68 = .ok (.getfield 81, 3) := by decide +kernel
theorem dX7_squaresAt_71 : decode cX7_squaresAt 71 = .ok (.iconst 2, 1) := by decide +kernel
theorem dX7_squaresAt_72 : decode cX7_squaresAt 72 = .ok (.iload_n 1, 1) := by decide +kernel
theorem dX7_squaresAt_73 : decode cX7_squaresAt 73 = .ok (.imul, 1) := by decide +kernel
theorem dX7_squaresAt_74 : decode cX7_squaresAt 74 = .ok (.if_icmp .le 7, 3) := by decide +kernel
theorem dX7_squaresAt_77 : decode cX7_squaresAt 77 = .ok (.lload_n 2, 1) := by decide +kernel
theorem dX7_squaresAt_78 : decode cX7_squaresAt 78 = .ok (.goto 6, 3) := by decide +kernel
theorem dX7_squaresAt_81 : decode cX7_squaresAt 81 = .ok (.ldc2_w 252, 3) := by decide +kernel
theorem dX7_squaresAt_84 : decode cX7_squaresAt 84 = .ok (.lreturn, 1) := by decide +kernel
theorem dX7_weightAt_0 : decode cX7_weightAt 0 = .ok (.ldc2_w 168, 3) := by decide +kernel
theorem dX7_weightAt_3 : decode cX7_weightAt 3 = .ok (.iload_n 1, 1) := by decide +kernel
theorem dX7_weightAt_4 : decode cX7_weightAt 4 = .ok (.i2l, 1) := by decide +kernel
theorem dX7_weightAt_5 : decode cX7_weightAt 5 = .ok (.lmul, 1) := by decide +kernel
theorem dX7_weightAt_6 : decode cX7_weightAt 6 = .ok (.iload_n 1, 1) := by decide +kernel
theorem dX7_weightAt_7 : decode cX7_weightAt 7 = .ok (.i2l, 1) := by decide +kernel
theorem dX7_weightAt_8 : decode cX7_weightAt 8 = .ok (.lmul, 1) := by decide +kernel
theorem dX7_weightAt_9 : decode cX7_weightAt 9 = .ok (.aload_n 0, 1) := by decide +kernel
theorem dX7_weightAt_10 : decode cX7_weightAt 10 = .ok (.getfield 81, 3) := by decide +kernel
theorem dX7_weightAt_13 : decode cX7_weightAt 13 = .ok (.iconst 2, 1) := by decide +kernel
theorem dX7_weightAt_14 : decode cX7_weightAt 14 = .ok (.iload_n 1, 1) := by decide +kernel
theorem dX7_weightAt_15 : decode cX7_weightAt 15 = .ok (.imul, 1) := by decide +kernel
theorem dX7_weightAt_16 : decode cX7_weightAt 16 = .ok (.isub, 1) := by decide +kernel
theorem dX7_weightAt_17 : decode cX7_weightAt 17 = .ok (.i2l, 1) := by decide +kernel
theorem dX7_weightAt_18 : decode cX7_weightAt 18 = .ok (.lmul, 1) := by decide +kernel
theorem dX7_weightAt_19 : decode cX7_weightAt 19 = .ok (.lreturn, 1) := by decide +kernel
theorem dX7_varianceOf_0 : decode cX7_varianceOf 0 = .ok (.aload_n 0, 1) := by decide +kernel
theorem dX7_varianceOf_1 : decode cX7_varianceOf 1 = .ok (.invokevirtual 178, 3) := by decide +kernel
theorem dX7_varianceOf_4 : decode cX7_varianceOf 4 = .ok (.aload_n 0, 1) := by decide +kernel
theorem dX7_varianceOf_5 : decode cX7_varianceOf 5 = .ok (.getfield 81, 3) := by decide +kernel
theorem dX7_varianceOf_8 : decode cX7_varianceOf 8 = .ok (.iconst 2, 1) := by decide +kernel
theorem dX7_varianceOf_9 : decode cX7_varianceOf 9 = .ok (.iload_n 1, 1) := by decide +kernel
theorem dX7_varianceOf_10 : decode cX7_varianceOf 10 = .ok (.imul, 1) := by decide +kernel
theorem dX7_varianceOf_11 : decode cX7_varianceOf 11 = .ok (.if_icmp .le 30, 3) := by decide +kernel
theorem dX7_varianceOf_14 : decode cX7_varianceOf 14 = .ok (.aload_n 0, 1) := by decide +kernel
theorem dX7_varianceOf_15 : decode cX7_varianceOf 15 = .ok (.iload_n 1, 1) := by decide +kernel
theorem dX7_varianceOf_16 : decode cX7_varianceOf 16 = .ok (.invokevirtual 260, 3) := by decide +kernel
theorem dX7_varianceOf_19 : decode cX7_varianceOf 19 = .ok (.aload_n 0, 1) := by decide +kernel
theorem dX7_varianceOf_20 : decode cX7_varianceOf 20 = .ok (.iload_n 1, 1) := by decide +kernel
theorem dX7_varianceOf_21 : decode cX7_varianceOf 21 = .ok (.invokevirtual 263, 3) := by decide +kernel
theorem dX7_varianceOf_24 : decode cX7_varianceOf 24 = .ok (.aload_n 0, 1) := by decide +kernel
theorem dX7_varianceOf_25 : decode cX7_varianceOf 25 = .ok (.getfield 161, 3) := by decide +kernel
theorem dX7_varianceOf_28 : decode cX7_varianceOf 28 = .ok (.lmul, 1) := by decide +kernel
theorem dX7_varianceOf_29 : decode cX7_varianceOf 29 = .ok (.aload_n 0, 1) := by decide +kernel
theorem dX7_varianceOf_30 : decode cX7_varianceOf 30 = .ok (.getfield 161, 3) := by decide +kernel
theorem dX7_varianceOf_33 : decode cX7_varianceOf 33 = .ok (.lmul, 1) := by decide +kernel
theorem dX7_varianceOf_34 : decode cX7_varianceOf 34 = .ok (.iload_n 2, 1) := by decide +kernel
theorem dX7_varianceOf_35 : decode cX7_varianceOf 35 = .ok (.invokestatic 132, 3) := by decide +kernel
theorem dX7_varianceOf_38 : decode cX7_varianceOf 38 = .ok (.goto 8, 3) := by decide +kernel
theorem dX7_varianceOf_41 : decode cX7_varianceOf 41 = .ok (.bipush (-3), 2) := by decide +kernel
theorem dX7_varianceOf_43 : decode cX7_varianceOf 43 = .ok (.invokestatic 126, 3) := by decide +kernel
theorem dX7_varianceOf_46 : decode cX7_varianceOf 46 = .ok (.lreturn, 1) := by decide +kernel
theorem dX7_variance_0 : decode cX7_variance 0 = .ok (.iload_n 1, 1) := by decide +kernel
theorem dX7_variance_1 : decode cX7_variance 1 = .ok (.iconst 1, 1) := by decide +kernel
theorem dX7_variance_2 : decode cX7_variance 2 = .ok (.bipush 15, 2) := by decide +kernel
theorem dX7_variance_4 : decode cX7_variance 4 = .ok (.invokestatic 85, 3) := by decide +kernel
theorem dX7_variance_7 : decode cX7_variance 7 = .ok (.ifCond .eq 21, 3) := by decide +kernel
theorem dX7_variance_10 : decode cX7_variance 10 = .ok (.iload_n 2, 1) := by decide +kernel
theorem dX7_variance_11 : decode cX7_variance 11 = .ok (.iconst 0, 1) := by decide +kernel
theorem dX7_variance_12 : decode cX7_variance 12 = .ok (.iconst 1, 1) := by decide +kernel
theorem dX7_variance_13 : decode cX7_variance 13 = .ok (.invokestatic 85, 3) := by decide +kernel
theorem dX7_variance_16 : decode cX7_variance 16 = .ok (.ifCond .eq 12, 3) := by decide +kernel
theorem dX7_variance_19 : decode cX7_variance 19 = .ok (.aload_n 0, 1) := by decide +kernel
theorem dX7_variance_20 : decode cX7_variance 20 = .ok (.iload_n 1, 1) := by decide +kernel
theorem dX7_variance_21 : decode cX7_variance 21 = .ok (.iload_n 2, 1) := by decide +kernel
theorem dX7_variance_22 : decode cX7_variance 22 = .ok (.invokevirtual 266, 3) := by decide +kernel
theorem dX7_variance_25 : decode cX7_variance 25 = .ok (.goto 8, 3) := by decide +kernel
theorem dX7_variance_28 : decode cX7_variance 28 = .ok (.bipush (-2), 2) := by decide +kernel
theorem dX7_variance_30 : decode cX7_variance 30 = .ok (.invokestatic 126, 3) := by decide +kernel
theorem dX7_variance_33 : decode cX7_variance 33 = .ok (.lreturn, 1) := by decide +kernel
theorem dX7_ranked_0 : decode cX7_ranked 0 = .ok (.aload_n 0, 1) := by decide +kernel
theorem dX7_ranked_1 : decode cX7_ranked 1 = .ok (.getfield 81, 3) := by decide +kernel
theorem dX7_ranked_4 : decode cX7_ranked 4 = .ok (.iconst 3, 1) := by decide +kernel
theorem dX7_ranked_5 : decode cX7_ranked 5 = .ok (.if_icmp .ge 7, 3) := by decide +kernel
theorem dX7_ranked_8 : decode cX7_ranked 8 = .ok (.iconst 0, 1) := by decide +kernel
theorem dX7_ranked_9 : decode cX7_ranked 9 = .ok (.goto 29, 3) := by decide +kernel
theorem dX7_ranked_12 : decode cX7_ranked 12 = .ok (.aload_n 0, 1) := by decide +kernel
theorem dX7_ranked_13 : decode cX7_ranked 13 = .ok (.getfield 81, 3) := by decide +kernel
theorem dX7_ranked_16 : decode cX7_ranked 16 = .ok (.iconst 1, 1) := by decide +kernel
theorem dX7_ranked_17 : decode cX7_ranked 17 = .ok (.isub, 1) := by decide +kernel
theorem dX7_ranked_18 : decode cX7_ranked 18 = .ok (.iconst 2, 1) := by decide +kernel
theorem dX7_ranked_19 : decode cX7_ranked 19 = .ok (.idiv, 1) := by decide +kernel
theorem dX7_ranked_20 : decode cX7_ranked 20 = .ok (.bipush 15, 2) := by decide +kernel
theorem dX7_ranked_22 : decode cX7_ranked 22 = .ok (.if_icmp .le 8, 3) := by decide +kernel
theorem dX7_ranked_25 : decode cX7_ranked 25 = .ok (.bipush 15, 2) := by decide +kernel
theorem dX7_ranked_27 : decode cX7_ranked 27 = .ok (.goto 11, 3) := by decide +kernel
theorem dX7_ranked_30 : decode cX7_ranked 30 = .ok (.aload_n 0, 1) := by decide +kernel
theorem dX7_ranked_31 : decode cX7_ranked 31 = .ok (.getfield 81, 3) := by decide +kernel
theorem dX7_ranked_34 : decode cX7_ranked 34 = .ok (.iconst 1, 1) := by decide +kernel
theorem dX7_ranked_35 : decode cX7_ranked 35 = .ok (.isub, 1) := by decide +kernel
theorem dX7_ranked_36 : decode cX7_ranked 36 = .ok (.iconst 2, 1) := by decide +kernel
theorem dX7_ranked_37 : decode cX7_ranked 37 = .ok (.idiv, 1) := by decide +kernel
theorem dX7_ranked_38 : decode cX7_ranked 38 = .ok (.ireturn, 1) := by decide +kernel
theorem dX7_isLess_0 : decode cX7_isLess 0 = .ok (.aload_n 0, 1) := by decide +kernel
theorem dX7_isLess_1 : decode cX7_isLess 1 = .ok (.iload_n 1, 1) := by decide +kernel
theorem dX7_isLess_2 : decode cX7_isLess 2 = .ok (.invokevirtual 260, 3) := by decide +kernel
theorem dX7_isLess_5 : decode cX7_isLess 5 = .ok (.aload_n 0, 1) := by decide +kernel
theorem dX7_isLess_6 : decode cX7_isLess 6 = .ok (.iload_n 2, 1) := by decide +kernel
theorem dX7_isLess_7 : decode cX7_isLess 7 = .ok (.invokevirtual 263, 3) := by decide +kernel
theorem dX7_isLess_10 : decode cX7_isLess 10 = .ok (.lmul, 1) := by decide +kernel
theorem dX7_isLess_11 : decode cX7_isLess 11 = .ok (.lstore_n 3, 1) := by decide +kernel
theorem dX7_isLess_12 : decode cX7_isLess 12 = .ok (.aload_n 0, 1) := by decide +kernel
theorem dX7_isLess_13 : decode cX7_isLess 13 = .ok (.iload_n 2, 1) := by decide +kernel
theorem dX7_isLess_14 : decode cX7_isLess 14 = .ok (.invokevirtual 260, 3) := by decide +kernel
theorem dX7_isLess_17 : decode cX7_isLess 17 = .ok (.aload_n 0, 1) := by decide +kernel
theorem dX7_isLess_18 : decode cX7_isLess 18 = .ok (.iload_n 1, 1) := by decide +kernel
theorem dX7_isLess_19 : decode cX7_isLess 19 = .ok (.invokevirtual 263, 3) := by decide +kernel
theorem dX7_isLess_22 : decode cX7_isLess 22 = .ok (.lmul, 1) := by decide +kernel
theorem dX7_isLess_23 : decode cX7_isLess 23 = .ok (.lstore 5, 2) := by decide +kernel
theorem dX7_isLess_25 : decode cX7_isLess 25 = .ok (.lload_n 3, 1) := by decide +kernel
theorem dX7_isLess_26 : decode cX7_isLess 26 = .ok (.lload 5, 2) := by decide +kernel
theorem dX7_isLess_28 : decode cX7_isLess 28 = .ok (.lcmp, 1) := by decide +kernel
theorem dX7_isLess_29 : decode cX7_isLess 29 = .ok (.ifCond .lt 15, 3) := by decide +kernel
theorem dX7_isLess_32 : decode cX7_isLess 32 = .ok (.lload_n 3, 1) := by decide +kernel
theorem dX7_isLess_33 : decode cX7_isLess 33 = .ok (.lload 5, 2) := by decide +kernel
theorem dX7_isLess_35 : decode cX7_isLess 35 = .ok (.lcmp, 1) := by decide +kernel
theorem dX7_isLess_36 : decode cX7_isLess 36 = .ok (.ifCond .ne 12, 3) := by decide +kernel
theorem dX7_isLess_39 : decode cX7_isLess 39 = .ok (.iload_n 1, 1) := by decide +kernel
theorem dX7_isLess_40 : decode cX7_isLess 40 = .ok (.iload_n 2, 1) := by decide +kernel
theorem dX7_isLess_41 : decode cX7_isLess 41 = .ok (.if_icmp .ge 7, 3) := by decide +kernel
theorem dX7_isLess_44 : decode cX7_isLess 44 = .ok (.iconst 1, 1) := by decide +kernel
theorem dX7_isLess_45 : decode cX7_isLess 45 = .ok (.goto 4, 3) := by decide +kernel
theorem dX7_isLess_48 : decode cX7_isLess 48 = .ok (.iconst 0, 1) := by decide +kernel
theorem dX7_isLess_49 : decode cX7_isLess 49 = .ok (.ireturn, 1) := by decide +kernel
theorem dX7_rankOf_0 : decode cX7_rankOf 0 = .ok (.aload_n 0, 1) := by decide +kernel
theorem dX7_rankOf_1 : decode cX7_rankOf 1 = .ok (.invokevirtual 178, 3) := by decide +kernel
theorem dX7_rankOf_4 : decode cX7_rankOf 4 = .ok (.bipush (-2), 2) := by decide +kernel
theorem dX7_rankOf_6 : decode cX7_rankOf 6 = .ok (.istore_n 2, 1) := by decide +kernel
theorem dX7_rankOf_7 : decode cX7_rankOf 7 = .ok (.iconst 1, 1) := by decide +kernel
theorem dX7_rankOf_8 : decode cX7_rankOf 8 = .ok (.istore_n 3, 1) := by decide +kernel
theorem dX7_rankOf_9 : decode cX7_rankOf 9 = .ok (.iload_n 3, 1) := by decide +kernel
theorem dX7_rankOf_10 : decode cX7_rankOf 10 = .ok (.aload_n 0, 1) := by decide +kernel
theorem dX7_rankOf_11 : decode cX7_rankOf 11 = .ok (.invokevirtual 269, 3) := by decide +kernel
theorem dX7_rankOf_14 : decode cX7_rankOf 14 = .ok (.if_icmp .gt 68, 3) := by decide +kernel
theorem dX7_rankOf_17 : decode cX7_rankOf 17 = .ok (.iconst 0, 1) := by decide +kernel
theorem dX7_rankOf_18 : decode cX7_rankOf 18 = .ok (.istore 4, 2) := by decide +kernel
theorem dX7_rankOf_20 : decode cX7_rankOf 20 = .ok (.iconst 1, 1) := by decide +kernel
theorem dX7_rankOf_21 : decode cX7_rankOf 21 = .ok (.istore 5, 2) := by decide +kernel
theorem dX7_rankOf_23 : decode cX7_rankOf 23 = .ok (.iload 5, 2) := by decide +kernel
theorem dX7_rankOf_25 : decode cX7_rankOf 25 = .ok (.aload_n 0, 1) := by decide +kernel
theorem dX7_rankOf_26 : decode cX7_rankOf 26 = .ok (.invokevirtual 269, 3) := by decide +kernel
theorem dX7_rankOf_29 : decode cX7_rankOf 29 = .ok (.if_icmp .gt 35, 3) := by decide +kernel
theorem dX7_rankOf_32 : decode cX7_rankOf 32 = .ok (.iload 4, 2) := by decide +kernel
theorem dX7_rankOf_34 : decode cX7_rankOf 34 = .ok (.iload 5, 2) := by decide +kernel
theorem dX7_rankOf_36 : decode cX7_rankOf 36 = .ok (.iload_n 3, 1) := by decide +kernel
theorem dX7_rankOf_37 : decode cX7_rankOf 37 = .ok (.if_icmp .eq 17, 3) := by decide +kernel
theorem dX7_rankOf_40 : decode cX7_rankOf 40 = .ok (.aload_n 0, 1) := by decide +kernel
theorem dX7_rankOf_41 : decode cX7_rankOf 41 = .ok (.iload 5, 2) := by decide +kernel
theorem dX7_rankOf_43 : decode cX7_rankOf 43 = .ok (.iload_n 3, 1) := by decide +kernel
theorem dX7_rankOf_44 : decode cX7_rankOf 44 = .ok (.invokevirtual 272, 3) := by decide +kernel
theorem dX7_rankOf_47 : decode cX7_rankOf 47 = .ok (.ifCond .eq 7, 3) := by decide +kernel
theorem dX7_rankOf_50 : decode cX7_rankOf 50 = .ok (.iconst 1, 1) := by decide +kernel
theorem dX7_rankOf_51 : decode cX7_rankOf 51 = .ok (.goto 4, 3) := by decide +kernel
theorem dX7_rankOf_54 : decode cX7_rankOf 54 = .ok (.iconst 0, 1) := by decide +kernel
theorem dX7_rankOf_55 : decode cX7_rankOf 55 = .ok (.iadd, 1) := by decide +kernel
theorem dX7_rankOf_56 : decode cX7_rankOf 56 = .ok (.istore 4, 2) := by decide +kernel
theorem dX7_rankOf_58 : decode cX7_rankOf 58 = .ok (.iinc 5 1, 3) := by decide +kernel
theorem dX7_rankOf_61 : decode cX7_rankOf 61 = .ok (.goto (-38), 3) := by decide +kernel
theorem dX7_rankOf_64 : decode cX7_rankOf 64 = .ok (.iload 4, 2) := by decide +kernel
theorem dX7_rankOf_66 : decode cX7_rankOf 66 = .ok (.iload_n 1, 1) := by decide +kernel
theorem dX7_rankOf_67 : decode cX7_rankOf 67 = .ok (.if_icmp .ne 7, 3) := by decide +kernel
theorem dX7_rankOf_70 : decode cX7_rankOf 70 = .ok (.iload_n 3, 1) := by decide +kernel
theorem dX7_rankOf_71 : decode cX7_rankOf 71 = .ok (.goto 4, 3) := by decide +kernel
theorem dX7_rankOf_74 : decode cX7_rankOf 74 = .ok (.iload_n 2, 1) := by decide +kernel
theorem dX7_rankOf_75 : decode cX7_rankOf 75 = .ok (.istore_n 2, 1) := by decide +kernel
theorem dX7_rankOf_76 : decode cX7_rankOf 76 = .ok (.iinc 3 1, 3) := by decide +kernel
theorem dX7_rankOf_79 : decode cX7_rankOf 79 = .ok (.goto (-70), 3) := by decide +kernel
theorem dX7_rankOf_82 : decode cX7_rankOf 82 = .ok (.iload_n 2, 1) := by decide +kernel
theorem dX7_rankOf_83 : decode cX7_rankOf 83 = .ok (.ireturn, 1) := by decide +kernel
theorem dX7_rank_0 : decode cX7_rank 0 = .ok (.aload_n 0, 1) := by decide +kernel
theorem dX7_rank_1 : decode cX7_rank 1 = .ok (.iload_n 1, 1) := by decide +kernel
theorem dX7_rank_2 : decode cX7_rank 2 = .ok (.invokevirtual 275, 3) := by decide +kernel
theorem dX7_rank_5 : decode cX7_rank 5 = .ok (.ireturn, 1) := by decide +kernel
theorem dX7_meets_0 : decode cX7_meets 0 = .ok (.aload_n 0, 1) := by decide +kernel
theorem dX7_meets_1 : decode cX7_meets 1 = .ok (.iload_n 1, 1) := by decide +kernel
theorem dX7_meets_2 : decode cX7_meets 2 = .ok (.putfield 278, 3) := by decide +kernel
theorem dX7_meets_5 : decode cX7_meets 5 = .ok (.bipush (-10), 2) := by decide +kernel
theorem dX7_meets_7 : decode cX7_meets 7 = .ok (.iload_n 1, 1) := by decide +kernel
theorem dX7_meets_8 : decode cX7_meets 8 = .ok (.isub, 1) := by decide +kernel
theorem dX7_meets_9 : decode cX7_meets 9 = .ok (.ireturn, 1) := by decide +kernel
theorem dX7_isSheet_0 : decode cX7_isSheet 0 = .ok (.iload_n 0, 1) := by decide +kernel
theorem dX7_isSheet_1 : decode cX7_isSheet 1 = .ok (.iconst 0, 1) := by decide +kernel
theorem dX7_isSheet_2 : decode cX7_isSheet 2 = .ok (.iconst 3, 1) := by decide +kernel
theorem dX7_isSheet_3 : decode cX7_isSheet 3 = .ok (.invokestatic 85, 3) := by decide +kernel
theorem dX7_isSheet_6 : decode cX7_isSheet 6 = .ok (.ireturn, 1) := by decide +kernel
theorem dX7_sheet_0 : decode cX7_sheet 0 = .ok (.iload_n 1, 1) := by decide +kernel
theorem dX7_sheet_1 : decode cX7_sheet 1 = .ok (.invokestatic 281, 3) := by decide +kernel
theorem dX7_sheet_4 : decode cX7_sheet 4 = .ok (.ifCond .eq 18, 3) := by decide +kernel
theorem dX7_sheet_7 : decode cX7_sheet 7 = .ok (.iload_n 2, 1) := by decide +kernel
theorem dX7_sheet_8 : decode cX7_sheet 8 = .ok (.iconst 0, 1) := by decide +kernel
theorem dX7_sheet_9 : decode cX7_sheet 9 = .ok (.iconst 3, 1) := by decide +kernel
theorem dX7_sheet_10 : decode cX7_sheet 10 = .ok (.invokestatic 85, 3) := by decide +kernel
theorem dX7_sheet_13 : decode cX7_sheet 13 = .ok (.ifCond .eq 9, 3) := by decide +kernel
theorem dX7_sheet_16 : decode cX7_sheet 16 = .ok (.iload_n 3, 1) := by decide +kernel
theorem dX7_sheet_17 : decode cX7_sheet 17 = .ok (.bipush 40, 2) := by decide +kernel
theorem dX7_sheet_19 : decode cX7_sheet 19 = .ok (.if_icmp .le 6, 3) := by decide +kernel
theorem dX7_sheet_22 : decode cX7_sheet 22 = .ok (.bipush (-2), 2) := by decide +kernel
theorem dX7_sheet_24 : decode cX7_sheet 24 = .ok (.ireturn, 1) := by decide +kernel
theorem dX7_sheet_25 : decode cX7_sheet 25 = .ok (.iload_n 3, 1) := by decide +kernel
theorem dX7_sheet_26 : decode cX7_sheet 26 = .ok (.ifCond .ge 9, 3) := by decide +kernel
theorem dX7_sheet_29 : decode cX7_sheet 29 = .ok (.aload_n 0, 1) := by decide +kernel
theorem dX7_sheet_30 : decode cX7_sheet 30 = .ok (.iconst 5, 1) := by decide +kernel
theorem dX7_sheet_31 : decode cX7_sheet 31 = .ok (.invokevirtual 284, 3) := by decide +kernel
theorem dX7_sheet_34 : decode cX7_sheet 34 = .ok (.ireturn, 1) := by decide +kernel
theorem dX7_sheet_35 : decode cX7_sheet 35 = .ok (.aload_n 0, 1) := by decide +kernel
theorem dX7_sheet_36 : decode cX7_sheet 36 = .ok (.getfield 51, 3) := by decide +kernel
theorem dX7_sheet_39 : decode cX7_sheet 39 = .ok (.iload_n 1, 1) := by decide +kernel
theorem dX7_sheet_40 : decode cX7_sheet 40 = .ok (.iload_n 2, 1) := by decide +kernel
theorem dX7_sheet_41 : decode cX7_sheet 41 = .ok (.iastore, 1) := by decide +kernel
theorem dX7_sheet_42 : decode cX7_sheet 42 = .ok (.aload_n 0, 1) := by decide +kernel
theorem dX7_sheet_43 : decode cX7_sheet 43 = .ok (.getfield 54, 3) := by decide +kernel
theorem dX7_sheet_46 : decode cX7_sheet 46 = .ok (.iload_n 1, 1) := by decide +kernel
theorem dX7_sheet_47 : decode cX7_sheet 47 = .ok (.iload_n 3, 1) := by decide +kernel
theorem dX7_sheet_48 : decode cX7_sheet 48 = .ok (.iastore, 1) := by decide +kernel
theorem dX7_sheet_49 : decode cX7_sheet 49 = .ok (.bipush 40, 2) := by decide +kernel
theorem dX7_sheet_51 : decode cX7_sheet 51 = .ok (.iload_n 1, 1) := by decide +kernel
theorem dX7_sheet_52 : decode cX7_sheet 52 = .ok (.imul, 1) := by decide +kernel
theorem dX7_sheet_53 : decode cX7_sheet 53 = .ok (.istore 4, 2) := by decide +kernel
theorem dX7_sheet_55 : decode cX7_sheet 55 = .ok (.iload 4, 2) := by decide +kernel
theorem dX7_sheet_57 : decode cX7_sheet 57 = .ok (.bipush 40, 2) := by decide +kernel
theorem dX7_sheet_59 : decode cX7_sheet 59 = .ok (.iload_n 1, 1) := by decide +kernel
theorem dX7_sheet_60 : decode cX7_sheet 60 = .ok (.imul, 1) := by decide +kernel
theorem dX7_sheet_61 : decode cX7_sheet 61 = .ok (.bipush 40, 2) := by decide +kernel
theorem dX7_sheet_63 : decode cX7_sheet 63 = .ok (.iadd, 1) := by decide +kernel
theorem dX7_sheet_64 : decode cX7_sheet 64 = .ok (.if_icmp .ge 33, 3) := by decide +kernel
theorem dX7_sheet_67 : decode cX7_sheet 67 = .ok (.aload_n 0, 1) := by decide +kernel
theorem dX7_sheet_68 : decode cX7_sheet 68 = .ok (.getfield 57, 3) := by decide +kernel
theorem dX7_sheet_71 : decode cX7_sheet 71 = .ok (.iload 4, 2) := by decide +kernel
theorem dX7_sheet_73 : decode cX7_sheet 73 = .ok (.lconst 0, 1) := by decide +kernel
theorem dX7_sheet_74 : decode cX7_sheet 74 = .ok (.lastore, 1) := by decide +kernel
theorem dX7_sheet_75 : decode cX7_sheet 75 = .ok (.aload_n 0, 1) := by decide +kernel
theorem dX7_sheet_76 : decode cX7_sheet 76 = .ok (.getfield 60, 3) := by decide +kernel
theorem dX7_sheet_79 : decode cX7_sheet 79 = .ok (.iload 4, 2) := by decide +kernel
theorem dX7_sheet_81 : decode cX7_sheet 81 = .ok (.dconst 0, 1) := by decide +kernel
theorem dX7_sheet_82 : decode cX7_sheet 82 = .ok (.dastore, 1) := by decide +kernel
theorem dX7_sheet_83 : decode cX7_sheet 83 = .ok (.aload_n 0, 1) := by decide +kernel
theorem dX7_sheet_84 : decode cX7_sheet 84 = .ok (.getfield 64, 3) := by decide +kernel
theorem dX7_sheet_87 : decode cX7_sheet 87 = .ok (.iload 4, 2) := by decide +kernel
theorem dX7_sheet_89 : decode cX7_sheet 89 = .ok (.iconst 0, 1) := by decide +kernel
theorem dX7_sheet_90 : decode cX7_sheet 90 = .ok (.bastore, 1) := by decide +kernel
theorem dX7_sheet_91 : decode cX7_sheet 91 = .ok (.iinc 4 1, 3) := by decide +kernel
theorem dX7_sheet_94 : decode cX7_sheet 94 = .ok (.goto (-39), 3) := by decide +kernel
theorem dX7_sheet_97 : decode cX7_sheet 97 = .ok (.iload_n 3, 1) := by decide +kernel
theorem dX7_sheet_98 : decode cX7_sheet 98 = .ok (.ireturn, 1) := by decide +kernel
theorem dX7_lose_0 : decode cX7_lose 0 = .ok (.iload_n 1, 1) := by decide +kernel
theorem dX7_lose_1 : decode cX7_lose 1 = .ok (.invokestatic 281, 3) := by decide +kernel
theorem dX7_lose_4 : decode cX7_lose 4 = .ok (.ifCond .ne 6, 3) := by decide +kernel
theorem dX7_lose_7 : decode cX7_lose 7 = .ok (.bipush (-2), 2) := by decide +kernel
theorem dX7_lose_9 : decode cX7_lose 9 = .ok (.ireturn, 1) := by decide +kernel
theorem dX7_lose_10 : decode cX7_lose 10 = .ok (.aload_n 0, 1) := by decide +kernel
theorem dX7_lose_11 : decode cX7_lose 11 = .ok (.getfield 51, 3) := by decide +kernel
theorem dX7_lose_14 : decode cX7_lose 14 = .ok (.iload_n 1, 1) := by decide +kernel
theorem dX7_lose_15 : decode cX7_lose 15 = .ok (.iaload, 1) := by decide +kernel
theorem dX7_lose_16 : decode cX7_lose 16 = .ok (.iconst (-1), 1) := by decide +kernel
theorem dX7_lose_17 : decode cX7_lose 17 = .ok (.if_icmp .ne 9, 3) := by decide +kernel
theorem dX7_lose_20 : decode cX7_lose 20 = .ok (.aload_n 0, 1) := by decide +kernel
theorem dX7_lose_21 : decode cX7_lose 21 = .ok (.iconst 1, 1) := by decide +kernel
theorem dX7_lose_22 : decode cX7_lose 22 = .ok (.invokevirtual 284, 3) := by decide +kernel
theorem dX7_lose_25 : decode cX7_lose 25 = .ok (.ireturn, 1) := by decide +kernel
theorem dX7_lose_26 : decode cX7_lose 26 = .ok (.aload_n 0, 1) := by decide +kernel
theorem dX7_lose_27 : decode cX7_lose 27 = .ok (.getfield 51, 3) := by decide +kernel
theorem dX7_lose_30 : decode cX7_lose 30 = .ok (.iload_n 1, 1) := by decide +kernel
theorem dX7_lose_31 : decode cX7_lose 31 = .ok (.iconst (-1), 1) := by decide +kernel
theorem dX7_lose_32 : decode cX7_lose 32 = .ok (.iastore, 1) := by decide +kernel
theorem dX7_lose_33 : decode cX7_lose 33 = .ok (.aload_n 0, 1) := by decide +kernel
theorem dX7_lose_34 : decode cX7_lose 34 = .ok (.getfield 54, 3) := by decide +kernel
theorem dX7_lose_37 : decode cX7_lose 37 = .ok (.iload_n 1, 1) := by decide +kernel
theorem dX7_lose_38 : decode cX7_lose 38 = .ok (.iaload, 1) := by decide +kernel
theorem dX7_lose_39 : decode cX7_lose 39 = .ok (.ireturn, 1) := by decide +kernel
theorem dX7_hasItem_0 : decode cX7_hasItem 0 = .ok (.iload_n 2, 1) := by decide +kernel
theorem dX7_hasItem_1 : decode cX7_hasItem 1 = .ok (.iconst 0, 1) := by decide +kernel
theorem dX7_hasItem_2 : decode cX7_hasItem 2 = .ok (.aload_n 0, 1) := by decide +kernel
theorem dX7_hasItem_3 : decode cX7_hasItem 3 = .ok (.getfield 54, 3) := by decide +kernel
theorem dX7_hasItem_6 : decode cX7_hasItem 6 = .ok (.iload_n 1, 1) := by decide +kernel
theorem dX7_hasItem_7 : decode cX7_hasItem 7 = .ok (.iaload, 1) := by decide +kernel
theorem dX7_hasItem_8 : decode cX7_hasItem 8 = .ok (.iconst 1, 1) := by decide +kernel
theorem dX7_hasItem_9 : decode cX7_hasItem 9 = .ok (.isub, 1) := by decide +kernel
theorem dX7_hasItem_10 : decode cX7_hasItem 10 = .ok (.invokestatic 85, 3) := by decide +kernel
theorem dX7_hasItem_13 : decode cX7_hasItem 13 = .ok (.ireturn, 1) := by decide +kernel
theorem dX7_keeps_0 : decode cX7_keeps 0 = .ok (.aload_n 0, 1) := by decide +kernel
theorem dX7_keeps_1 : decode cX7_keeps 1 = .ok (.getfield 60, 3) := by decide +kernel
theorem dX7_keeps_4 : decode cX7_keeps 4 = .ok (.iload_n 1, 1) := by decide +kernel
theorem dX7_keeps_5 : decode cX7_keeps 5 = .ok (.dload_n 2, 1) := by decide +kernel
theorem dX7_keeps_6 : decode cX7_keeps 6 = .ok (.dastore, 1) := by decide +kernel
theorem dX7_keeps_7 : decode cX7_keeps 7 = .ok (.aload_n 0, 1) := by decide +kernel
theorem dX7_keeps_8 : decode cX7_keeps 8 = .ok (.getfield 64, 3) := by decide +kernel
theorem dX7_keeps_11 : decode cX7_keeps 11 = .ok (.iload_n 1, 1) := by decide +kernel
theorem dX7_keeps_12 : decode cX7_keeps 12 = .ok (.iconst 0, 1) := by decide +kernel
theorem dX7_keeps_13 : decode cX7_keeps 13 = .ok (.bastore, 1) := by decide +kernel
theorem dX7_keeps_14 : decode cX7_keeps 14 = .ok (.return_, 1) := by decide +kernel
theorem dX7_put_0 : decode cX7_put 0 = .ok (.iload_n 1, 1) := by decide +kernel
theorem dX7_put_1 : decode cX7_put 1 = .ok (.invokestatic 281, 3) := by decide +kernel
theorem dX7_put_4 : decode cX7_put 4 = .ok (.ifCond .eq 12, 3) := by decide +kernel
theorem dX7_put_7 : decode cX7_put 7 = .ok (.iload_n 2, 1) := by decide +kernel
theorem dX7_put_8 : decode cX7_put 8 = .ok (.iconst 0, 1) := by decide +kernel
theorem dX7_put_9 : decode cX7_put 9 = .ok (.iconst 3, 1) := by decide +kernel
theorem dX7_put_10 : decode cX7_put 10 = .ok (.invokestatic 85, 3) := by decide +kernel
theorem dX7_put_13 : decode cX7_put 13 = .ok (.ifCond .ne 6, 3) := by decide +kernel
theorem dX7_put_16 : decode cX7_put 16 = .ok (.bipush (-2), 2) := by decide +kernel
theorem dX7_put_18 : decode cX7_put 18 = .ok (.ireturn, 1) := by decide +kernel
theorem dX7_put_19 : decode cX7_put 19 = .ok (.aload_n 0, 1) := by decide +kernel
theorem dX7_put_20 : decode cX7_put 20 = .ok (.getfield 51, 3) := by decide +kernel
theorem dX7_put_23 : decode cX7_put 23 = .ok (.iload_n 1, 1) := by decide +kernel
theorem dX7_put_24 : decode cX7_put 24 = .ok (.iaload, 1) := by decide +kernel
theorem dX7_put_25 : decode cX7_put 25 = .ok (.iconst (-1), 1) := by decide +kernel
theorem dX7_put_26 : decode cX7_put 26 = .ok (.if_icmp .ne 7, 3) := by decide +kernel
theorem dX7_put_29 : decode cX7_put 29 = .ok (.iconst 1, 1) := by decide +kernel
theorem dX7_put_30 : decode cX7_put 30 = .ok (.goto 31, 3) := by decide +kernel
theorem dX7_put_33 : decode cX7_put 33 = .ok (.aload_n 0, 1) := by decide +kernel
theorem dX7_put_34 : decode cX7_put 34 = .ok (.getfield 51, 3) := by decide +kernel
theorem dX7_put_37 : decode cX7_put 37 = .ok (.iload_n 1, 1) := by decide +kernel
theorem dX7_put_38 : decode cX7_put 38 = .ok (.iaload, 1) := by decide +kernel
theorem dX7_put_39 : decode cX7_put 39 = .ok (.iload_n 2, 1) := by decide +kernel
theorem dX7_put_40 : decode cX7_put 40 = .ok (.if_icmp .eq 7, 3) := by decide +kernel
theorem dX7_put_43 : decode cX7_put 43 = .ok (.iconst 3, 1) := by decide +kernel
theorem dX7_put_44 : decode cX7_put 44 = .ok (.goto 17, 3) := by decide +kernel
theorem dX7_put_47 : decode cX7_put 47 = .ok (.aload_n 0, 1) := by decide +kernel
theorem dX7_put_48 : decode cX7_put 48 = .ok (.iload_n 1, 1) := by decide +kernel
theorem dX7_put_49 : decode cX7_put 49 = .ok (.iload_n 3, 1) := by decide +kernel
theorem dX7_put_50 : decode cX7_put 50 = .ok (.invokevirtual 287, 3) := by decide +kernel
theorem dX7_put_53 : decode cX7_put 53 = .ok (.ifCond .eq 7, 3) := by decide +kernel
theorem dX7_put_56 : decode cX7_put 56 = .ok (.iconst 0, 1) := by decide +kernel
theorem dX7_put_57 : decode cX7_put 57 = .ok (.goto 4, 3) := by decide +kernel
theorem dX7_put_60 : decode cX7_put 60 = .ok (.iconst 2, 1) := by decide +kernel
theorem dX7_put_61 : decode cX7_put 61 = .ok (.istore 5, 2) := by decide +kernel
theorem dX7_put_63 : decode cX7_put 63 = .ok (.iload 5, 2) := by decide +kernel
theorem dX7_put_65 : decode cX7_put 65 = .ok (.ifCond .le 10, 3) := by decide +kernel
theorem dX7_put_68 : decode cX7_put 68 = .ok (.aload_n 0, 1) := by decide +kernel
theorem dX7_put_69 : decode cX7_put 69 = .ok (.iload 5, 2) := by decide +kernel
theorem dX7_put_71 : decode cX7_put 71 = .ok (.invokevirtual 284, 3) := by decide +kernel
theorem dX7_put_74 : decode cX7_put 74 = .ok (.ireturn, 1) := by decide +kernel
theorem dX7_put_75 : decode cX7_put 75 = .ok (.aload_n 0, 1) := by decide +kernel
theorem dX7_put_76 : decode cX7_put 76 = .ok (.getfield 57, 3) := by decide +kernel
theorem dX7_put_79 : decode cX7_put 79 = .ok (.bipush 40, 2) := by decide +kernel
theorem dX7_put_81 : decode cX7_put 81 = .ok (.iload_n 1, 1) := by decide +kernel
theorem dX7_put_82 : decode cX7_put 82 = .ok (.imul, 1) := by decide +kernel
theorem dX7_put_83 : decode cX7_put 83 = .ok (.iload_n 3, 1) := by decide +kernel
theorem dX7_put_84 : decode cX7_put 84 = .ok (.iadd, 1) := by decide +kernel
theorem dX7_put_85 : decode cX7_put 85 = .ok (.iload_n 2, 1) := by decide +kernel
theorem dX7_put_86 : decode cX7_put 86 = .ok (.iconst 1, 1) := by decide +kernel
theorem dX7_put_87 : decode cX7_put 87 = .ok (.if_icmp .ne 13, 3) := by decide +kernel
theorem dX7_put_90 : decode cX7_put 90 = .ok (.iload 4, 2) := by decide +kernel
theorem dX7_put_92 : decode cX7_put 92 = .ok (.i2l, 1) := by decide +kernel
theorem dX7_put_93 : decode cX7_put 93 = .ok (.ldc2_w 290, 3) := by decide +kernel
theorem dX7_put_96 : decode cX7_put 96 = .ok (.lmul, 1) := by decide +kernel
theorem dX7_put_97 : decode cX7_put 97 = .ok (.goto 6, 3) := by decide +kernel
theorem dX7_put_100 : decode cX7_put 100 = .ok (.iload 4, 2) := by decide +kernel
theorem dX7_put_102 : decode cX7_put 102 = .ok (.i2l, 1) := by decide +kernel
theorem dX7_put_103 : decode cX7_put 103 = .ok (.lastore, 1) := by decide +kernel
theorem dX7_put_104 : decode cX7_put 104 = .ok (.aload_n 0, 1) := by decide +kernel
theorem dX7_put_105 : decode cX7_put 105 = .ok (.bipush 40, 2) := by decide +kernel
theorem dX7_put_107 : decode cX7_put 107 = .ok (.iload_n 1, 1) := by decide +kernel
theorem dX7_put_108 : decode cX7_put 108 = .ok (.imul, 1) := by decide +kernel
theorem dX7_put_109 : decode cX7_put 109 = .ok (.iload_n 3, 1) := by decide +kernel
theorem dX7_put_110 : decode cX7_put 110 = .ok (.iadd, 1) := by decide +kernel
theorem dX7_put_111 : decode cX7_put 111 = .ok (.iload_n 2, 1) := by decide +kernel
theorem dX7_put_112 : decode cX7_put 112 = .ok (.iconst 2, 1) := by decide +kernel
theorem dX7_put_113 : decode cX7_put 113 = .ok (.if_icmp .ne 14, 3) := by decide +kernel
theorem dX7_put_116 : decode cX7_put 116 = .ok (.iload 4, 2) := by decide +kernel
theorem dX7_put_118 : decode cX7_put 118 = .ok (.i2f, 1) := by decide +kernel
theorem dX7_put_119 : decode cX7_put 119 = .ok (.ldc_w 292, 3) := by decide +kernel
theorem dX7_put_122 : decode cX7_put 122 = .ok (.fdiv, 1) := by decide +kernel
theorem dX7_put_123 : decode cX7_put 123 = .ok (.f2d, 1) := by decide +kernel
theorem dX7_put_124 : decode cX7_put 124 = .ok (.goto 10, 3) := by decide +kernel
theorem dX7_put_127 : decode cX7_put 127 = .ok (.iload 4, 2) := by decide +kernel
theorem dX7_put_129 : decode cX7_put 129 = .ok (.i2d, 1) := by decide +kernel
theorem dX7_put_130 : decode cX7_put 130 = .ok (.ldc2_w 293, 3) := by decide +kernel
theorem dX7_put_133 : decode cX7_put 133 = .ok (.ddiv, 1) := by decide +kernel
theorem dX7_put_134 : decode cX7_put 134 = .ok (.invokevirtual 295, 3) := by decide +kernel
theorem dX7_put_137 : decode cX7_put 137 = .ok (.iconst 1, 1) := by decide +kernel
theorem dX7_put_138 : decode cX7_put 138 = .ok (.ireturn, 1) := by decide +kernel
theorem dX7_blank_0 : decode cX7_blank 0 = .ok (.iload_n 1, 1) := by decide +kernel
theorem dX7_blank_1 : decode cX7_blank 1 = .ok (.invokestatic 281, 3) := by decide +kernel
theorem dX7_blank_4 : decode cX7_blank 4 = .ok (.ifCond .ne 6, 3) := by decide +kernel
theorem dX7_blank_7 : decode cX7_blank 7 = .ok (.bipush (-2), 2) := by decide +kernel
theorem dX7_blank_9 : decode cX7_blank 9 = .ok (.ireturn, 1) := by decide +kernel
theorem dX7_blank_10 : decode cX7_blank 10 = .ok (.aload_n 0, 1) := by decide +kernel
theorem dX7_blank_11 : decode cX7_blank 11 = .ok (.getfield 51, 3) := by decide +kernel
theorem dX7_blank_14 : decode cX7_blank 14 = .ok (.iload_n 1, 1) := by decide +kernel
theorem dX7_blank_15 : decode cX7_blank 15 = .ok (.iaload, 1) := by decide +kernel
theorem dX7_blank_16 : decode cX7_blank 16 = .ok (.iconst (-1), 1) := by decide +kernel
theorem dX7_blank_17 : decode cX7_blank 17 = .ok (.if_icmp .ne 7, 3) := by decide +kernel
theorem dX7_blank_20 : decode cX7_blank 20 = .ok (.iconst 1, 1) := by decide +kernel
theorem dX7_blank_21 : decode cX7_blank 21 = .ok (.goto 31, 3) := by decide +kernel
theorem dX7_blank_24 : decode cX7_blank 24 = .ok (.aload_n 0, 1) := by decide +kernel
theorem dX7_blank_25 : decode cX7_blank 25 = .ok (.getfield 51, 3) := by decide +kernel
theorem dX7_blank_28 : decode cX7_blank 28 = .ok (.iload_n 1, 1) := by decide +kernel
theorem dX7_blank_29 : decode cX7_blank 29 = .ok (.iaload, 1) := by decide +kernel
theorem dX7_blank_30 : decode cX7_blank 30 = .ok (.iconst 2, 1) := by decide +kernel
theorem dX7_blank_31 : decode cX7_blank 31 = .ok (.if_icmp .ge 7, 3) := by decide +kernel
theorem dX7_blank_34 : decode cX7_blank 34 = .ok (.iconst 3, 1) := by decide +kernel
theorem dX7_blank_35 : decode cX7_blank 35 = .ok (.goto 17, 3) := by decide +kernel
theorem dX7_blank_38 : decode cX7_blank 38 = .ok (.aload_n 0, 1) := by decide +kernel
theorem dX7_blank_39 : decode cX7_blank 39 = .ok (.iload_n 1, 1) := by decide +kernel
theorem dX7_blank_40 : decode cX7_blank 40 = .ok (.iload_n 2, 1) := by decide +kernel
theorem dX7_blank_41 : decode cX7_blank 41 = .ok (.invokevirtual 287, 3) := by decide +kernel
theorem dX7_blank_44 : decode cX7_blank 44 = .ok (.ifCond .eq 7, 3) := by decide +kernel
theorem dX7_blank_47 : decode cX7_blank 47 = .ok (.iconst 0, 1) := by decide +kernel
theorem dX7_blank_48 : decode cX7_blank 48 = .ok (.goto 4, 3) := by decide +kernel
theorem dX7_blank_51 : decode cX7_blank 51 = .ok (.iconst 2, 1) := by decide +kernel
theorem dX7_blank_52 : decode cX7_blank 52 = .ok (.istore_n 3, 1) := by decide +kernel
theorem dX7_blank_53 : decode cX7_blank 53 = .ok (.iload_n 3, 1) := by decide +kernel
theorem dX7_blank_54 : decode cX7_blank 54 = .ok (.ifCond .le 9, 3) := by decide +kernel
theorem dX7_blank_57 : decode cX7_blank 57 = .ok (.aload_n 0, 1) := by decide +kernel
theorem dX7_blank_58 : decode cX7_blank 58 = .ok (.iload_n 3, 1) := by decide +kernel
theorem dX7_blank_59 : decode cX7_blank 59 = .ok (.invokevirtual 284, 3) := by decide +kernel
theorem dX7_blank_62 : decode cX7_blank 62 = .ok (.ireturn, 1) := by decide +kernel
theorem dX7_blank_63 : decode cX7_blank 63 = .ok (.aload_n 0, 1) := by decide +kernel
theorem dX7_blank_64 : decode cX7_blank 64 = .ok (.getfield 64, 3) := by decide +kernel
theorem dX7_blank_67 : decode cX7_blank 67 = .ok (.bipush 40, 2) := by decide +kernel
theorem dX7_blank_69 : decode cX7_blank 69 = .ok (.iload_n 1, 1) := by decide +kernel
theorem dX7_blank_70 : decode cX7_blank 70 = .ok (.imul, 1) := by decide +kernel
theorem dX7_blank_71 : decode cX7_blank 71 = .ok (.iload_n 2, 1) := by decide +kernel
theorem dX7_blank_72 : decode cX7_blank 72 = .ok (.iadd, 1) := by decide +kernel
theorem dX7_blank_73 : decode cX7_blank 73 = .ok (.iconst 1, 1) := by decide +kernel
theorem dX7_blank_74 : decode cX7_blank 74 = .ok (.bastore, 1) := by decide +kernel
theorem dX7_blank_75 : decode cX7_blank 75 = .ok (.iconst 1, 1) := by decide +kernel
theorem dX7_blank_76 : decode cX7_blank 76 = .ok (.ireturn, 1) := by decide +kernel
theorem dX7_itemOf_0 : decode cX7_itemOf 0 = .ok (.bipush 40, 2) := by decide +kernel
theorem dX7_itemOf_2 : decode cX7_itemOf 2 = .ok (.iload_n 1, 1) := by decide +kernel
theorem dX7_itemOf_3 : decode cX7_itemOf 3 = .ok (.imul, 1) := by decide +kernel
theorem dX7_itemOf_4 : decode cX7_itemOf 4 = .ok (.iload_n 2, 1) := by decide +kernel
theorem dX7_itemOf_5 : decode cX7_itemOf 5 = .ok (.iadd, 1) := by decide +kernel
theorem dX7_itemOf_6 : decode cX7_itemOf 6 = .ok (.istore_n 3, 1) := by decide +kernel
theorem dX7_itemOf_7 : decode cX7_itemOf 7 = .ok (.aload_n 0, 1) := by decide +kernel
theorem dX7_itemOf_8 : decode cX7_itemOf 8 = .ok (.getfield 51, 3) := by decide +kernel
theorem dX7_itemOf_11 : decode cX7_itemOf 11 = .ok (.iload_n 1, 1) := by decide +kernel
theorem dX7_itemOf_12 : decode cX7_itemOf 12 = .ok (.iaload, 1) := by decide +kernel
theorem dX7_itemOf_13 : decode cX7_itemOf 13 = .ok (.iconst 2, 1) := by decide +kernel
theorem dX7_itemOf_14 : decode cX7_itemOf 14 = .ok (.if_icmp .ge 12, 3) := by decide +kernel
theorem dX7_itemOf_17 : decode cX7_itemOf 17 = .ok (.aload_n 0, 1) := by decide +kernel
theorem dX7_itemOf_18 : decode cX7_itemOf 18 = .ok (.getfield 57, 3) := by decide +kernel
theorem dX7_itemOf_21 : decode cX7_itemOf 21 = .ok (.iload_n 3, 1) := by decide +kernel
theorem dX7_itemOf_22 : decode cX7_itemOf 22 = .ok (.laload, 1) := by decide +kernel
theorem dX7_itemOf_23 : decode cX7_itemOf 23 = .ok (.goto 30, 3) := by decide +kernel
theorem dX7_itemOf_26 : decode cX7_itemOf 26 = .ok (.aload_n 0, 1) := by decide +kernel
theorem dX7_itemOf_27 : decode cX7_itemOf 27 = .ok (.getfield 64, 3) := by decide +kernel
theorem dX7_itemOf_30 : decode cX7_itemOf 30 = .ok (.iload_n 3, 1) := by decide +kernel
theorem dX7_itemOf_31 : decode cX7_itemOf 31 = .ok (.baload, 1) := by decide +kernel
theorem dX7_itemOf_32 : decode cX7_itemOf 32 = .ok (.ifCond .eq 10, 3) := by decide +kernel
theorem dX7_itemOf_35 : decode cX7_itemOf 35 = .ok (.iconst (-1), 1) := by decide +kernel
theorem dX7_itemOf_36 : decode cX7_itemOf 36 = .ok (.invokestatic 126, 3) := by decide +kernel
theorem dX7_itemOf_39 : decode cX7_itemOf 39 = .ok (.goto 14, 3) := by decide +kernel
theorem dX7_itemOf_42 : decode cX7_itemOf 42 = .ok (.ldc2_w 293, 3) := by decide +kernel
theorem dX7_itemOf_45 : decode cX7_itemOf 45 = .ok (.aload_n 0, 1) := by decide +kernel
theorem dX7_itemOf_46 : decode cX7_itemOf 46 = .ok (.getfield 60, 3) := by decide +kernel
theorem dX7_itemOf_49 : decode cX7_itemOf 49 = .ok (.iload_n 3, 1) := by decide +kernel
theorem dX7_itemOf_50 : decode cX7_itemOf 50 = .ok (.daload, 1) := by decide +kernel
theorem dX7_itemOf_51 : decode cX7_itemOf 51 = .ok (.dmul, 1) := by decide +kernel
theorem dX7_itemOf_52 : decode cX7_itemOf 52 = .ok (.d2l, 1) := by decide +kernel
theorem dX7_itemOf_53 : decode cX7_itemOf 53 = .ok (.lreturn, 1) := by decide +kernel
theorem dX7_get_0 : decode cX7_get 0 = .ok (.iload_n 1, 1) := by decide +kernel
theorem dX7_get_1 : decode cX7_get 1 = .ok (.invokestatic 281, 3) := by decide +kernel
theorem dX7_get_4 : decode cX7_get 4 = .ok (.ifCond .ne 9, 3) := by decide +kernel
theorem dX7_get_7 : decode cX7_get 7 = .ok (.bipush (-2), 2) := by decide +kernel
theorem dX7_get_9 : decode cX7_get 9 = .ok (.invokestatic 126, 3) := by decide +kernel
theorem dX7_get_12 : decode cX7_get 12 = .ok (.lreturn, 1) := by decide +kernel
theorem dX7_get_13 : decode cX7_get 13 = .ok (.aload_n 0, 1) := by decide +kernel
theorem dX7_get_14 : decode cX7_get 14 = .ok (.getfield 51, 3) := by decide +kernel
theorem dX7_get_17 : decode cX7_get 17 = .ok (.iload_n 1, 1) := by decide +kernel
theorem dX7_get_18 : decode cX7_get 18 = .ok (.iaload, 1) := by decide +kernel
theorem dX7_get_19 : decode cX7_get 19 = .ok (.iconst (-1), 1) := by decide +kernel
theorem dX7_get_20 : decode cX7_get 20 = .ok (.if_icmp .ne 7, 3) := by decide +kernel
theorem dX7_get_23 : decode cX7_get 23 = .ok (.iconst 1, 1) := by decide +kernel
theorem dX7_get_24 : decode cX7_get 24 = .ok (.goto 17, 3) := by decide +kernel
theorem dX7_get_27 : decode cX7_get 27 = .ok (.aload_n 0, 1) := by decide +kernel
theorem dX7_get_28 : decode cX7_get 28 = .ok (.iload_n 1, 1) := by decide +kernel
theorem dX7_get_29 : decode cX7_get 29 = .ok (.iload_n 2, 1) := by decide +kernel
theorem dX7_get_30 : decode cX7_get 30 = .ok (.invokevirtual 287, 3) := by decide +kernel
theorem dX7_get_33 : decode cX7_get 33 = .ok (.ifCond .eq 7, 3) := by decide +kernel
theorem dX7_get_36 : decode cX7_get 36 = .ok (.iconst 0, 1) := by decide +kernel
theorem dX7_get_37 : decode cX7_get 37 = .ok (.goto 4, 3) := by decide +kernel
theorem dX7_get_40 : decode cX7_get 40 = .ok (.iconst 2, 1) := by decide +kernel
theorem dX7_get_41 : decode cX7_get 41 = .ok (.istore_n 3, 1) := by decide +kernel
theorem dX7_get_42 : decode cX7_get 42 = .ok (.iload_n 3, 1) := by decide +kernel
theorem dX7_get_43 : decode cX7_get 43 = .ok (.ifCond .le 14, 3) := by decide +kernel
theorem dX7_get_46 : decode cX7_get 46 = .ok (.aload_n 0, 1) := by decide +kernel
theorem dX7_get_47 : decode cX7_get 47 = .ok (.iload_n 3, 1) := by decide +kernel
theorem dX7_get_48 : decode cX7_get 48 = .ok (.invokevirtual 284, 3) := by decide +kernel
theorem dX7_get_51 : decode cX7_get 51 = .ok (.invokestatic 126, 3) := by decide +kernel
theorem dX7_get_54 : decode cX7_get 54 = .ok (.goto 9, 3) := by decide +kernel
theorem dX7_get_57 : decode cX7_get 57 = .ok (.aload_n 0, 1) := by decide +kernel
theorem dX7_get_58 : decode cX7_get 58 = .ok (.iload_n 1, 1) := by decide +kernel
theorem dX7_get_59 : decode cX7_get 59 = .ok (.iload_n 2, 1) := by decide +kernel
theorem dX7_get_60 : decode cX7_get 60 = .ok (.invokevirtual 299, 3) := by decide +kernel
theorem dX7_get_63 : decode cX7_get 63 = .ok (.lreturn, 1) := by decide +kernel
theorem dX7_copy_0 : decode cX7_copy 0 = .ok (.iload_n 1, 1) := by decide +kernel
theorem dX7_copy_1 : decode cX7_copy 1 = .ok (.invokestatic 281, 3) := by decide +kernel
theorem dX7_copy_4 : decode cX7_copy 4 = .ok (.ifCond .eq 10, 3) := by decide +kernel
theorem dX7_copy_7 : decode cX7_copy 7 = .ok (.iload_n 3, 1) := by decide +kernel
theorem dX7_copy_8 : decode cX7_copy 8 = .ok (.invokestatic 281, 3) := by decide +kernel
theorem dX7_copy_11 : decode cX7_copy 11 = .ok (.ifCond .ne 6, 3) := by decide +kernel
theorem dX7_copy_14 : decode cX7_copy 14 = .ok (.bipush (-2), 2) := by decide +kernel
theorem dX7_copy_16 : decode cX7_copy 16 = .ok (.ireturn, 1) := by decide +kernel
theorem dX7_copy_17 : decode cX7_copy 17 = .ok (.aload_n 0, 1) := by decide +kernel
theorem dX7_copy_18 : decode cX7_copy 18 = .ok (.getfield 51, 3) := by decide +kernel
theorem dX7_copy_21 : decode cX7_copy 21 = .ok (.iload_n 1, 1) := by decide +kernel
theorem dX7_copy_22 : decode cX7_copy 22 = .ok (.iaload, 1) := by decide +kernel
theorem dX7_copy_23 : decode cX7_copy 23 = .ok (.iconst (-1), 1) := by decide +kernel
theorem dX7_copy_24 : decode cX7_copy 24 = .ok (.if_icmp .eq 13, 3) := by decide +kernel
theorem dX7_copy_27 : decode cX7_copy 27 = .ok (.aload_n 0, 1) := by decide +kernel
theorem dX7_copy_28 : decode cX7_copy 28 = .ok (.getfield 51, 3) := by decide +kernel
theorem dX7_copy_31 : decode cX7_copy 31 = .ok (.iload_n 3, 1) := by decide +kernel
theorem dX7_copy_32 : decode cX7_copy 32 = .ok (.iaload, 1) := by decide +kernel
theorem dX7_copy_33 : decode cX7_copy 33 = .ok (.iconst (-1), 1) := by decide +kernel
theorem dX7_copy_34 : decode cX7_copy 34 = .ok (.if_icmp .ne 9, 3) := by decide +kernel
theorem dX7_copy_37 : decode cX7_copy 37 = .ok (.aload_n 0, 1) := by decide +kernel
theorem dX7_copy_38 : decode cX7_copy 38 = .ok (.iconst 1, 1) := by decide +kernel
theorem dX7_copy_39 : decode cX7_copy 39 = .ok (.invokevirtual 284, 3) := by decide +kernel
theorem dX7_copy_42 : decode cX7_copy 42 = .ok (.ireturn, 1) := by decide +kernel
theorem dX7_copy_43 : decode cX7_copy 43 = .ok (.aload_n 0, 1) := by decide +kernel
theorem dX7_copy_44 : decode cX7_copy 44 = .ok (.getfield 51, 3) := by decide +kernel
theorem dX7_copy_47 : decode cX7_copy 47 = .ok (.iload_n 1, 1) := by decide +kernel
theorem dX7_copy_48 : decode cX7_copy 48 = .ok (.iaload, 1) := by decide +kernel
theorem dX7_copy_49 : decode cX7_copy 49 = .ok (.aload_n 0, 1) := by decide +kernel
theorem dX7_copy_50 : decode cX7_copy 50 = .ok (.getfield 51, 3) := by decide +kernel
theorem dX7_copy_53 : decode cX7_copy 53 = .ok (.iload_n 3, 1) := by decide +kernel
theorem dX7_copy_54 : decode cX7_copy 54 = .ok (.iaload, 1) := by decide +kernel
theorem dX7_copy_55 : decode cX7_copy 55 = .ok (.if_icmp .eq 9, 3) := by decide +kernel
theorem dX7_copy_58 : decode cX7_copy 58 = .ok (.aload_n 0, 1) := by decide +kernel
theorem dX7_copy_59 : decode cX7_copy 59 = .ok (.iconst 4, 1) := by decide +kernel
theorem dX7_copy_60 : decode cX7_copy 60 = .ok (.invokevirtual 284, 3) := by decide +kernel
theorem dX7_copy_63 : decode cX7_copy 63 = .ok (.ireturn, 1) := by decide +kernel
theorem dX7_copy_64 : decode cX7_copy 64 = .ok (.iload_n 2, 1) := by decide +kernel
theorem dX7_copy_65 : decode cX7_copy 65 = .ok (.ifCond .lt 48, 3) := by decide +kernel
theorem dX7_copy_68 : decode cX7_copy 68 = .ok (.iload 4, 2) := by decide +kernel
theorem dX7_copy_70 : decode cX7_copy 70 = .ok (.ifCond .lt 43, 3) := by decide +kernel
theorem dX7_copy_73 : decode cX7_copy 73 = .ok (.iload 5, 2) := by decide +kernel
theorem dX7_copy_75 : decode cX7_copy 75 = .ok (.ifCond .lt 38, 3) := by decide +kernel
theorem dX7_copy_78 : decode cX7_copy 78 = .ok (.iload_n 2, 1) := by decide +kernel
theorem dX7_copy_79 : decode cX7_copy 79 = .ok (.i2l, 1) := by decide +kernel
theorem dX7_copy_80 : decode cX7_copy 80 = .ok (.iload 5, 2) := by decide +kernel
theorem dX7_copy_82 : decode cX7_copy 82 = .ok (.i2l, 1) := by decide +kernel
theorem dX7_copy_83 : decode cX7_copy 83 = .ok (.ladd, 1) := by decide +kernel
theorem dX7_copy_84 : decode cX7_copy 84 = .ok (.aload_n 0, 1) := by decide +kernel
theorem dX7_copy_85 : decode cX7_copy 85 = .ok (.getfield 54, 3) := by decide +kernel
theorem dX7_copy_88 : decode cX7_copy 88 = .ok (.iload_n 1, 1) := by decide +kernel
theorem dX7_copy_89 : decode cX7_copy 89 = .ok (.iaload, 1) := by decide +kernel
theorem dX7_copy_90 : decode cX7_copy 90 = .ok (.i2l, 1) := by decide +kernel
theorem dX7_copy_91 : decode cX7_copy 91 = .ok (.lcmp, 1) := by decide +kernel
theorem dX7_copy_92 : decode cX7_copy 92 = .ok (.ifCond .gt 21, 3) := by decide +kernel
theorem dX7_copy_95 : decode cX7_copy 95 = .ok (.iload 4, 2) := by decide +kernel
theorem dX7_copy_97 : decode cX7_copy 97 = .ok (.i2l, 1) := by decide +kernel
theorem dX7_copy_98 : decode cX7_copy 98 = .ok (.iload 5, 2) := by decide +kernel
theorem dX7_copy_100 : decode cX7_copy 100 = .ok (.i2l, 1) := by decide +kernel
theorem dX7_copy_101 : decode cX7_copy 101 = .ok (.ladd, 1) := by decide +kernel
theorem dX7_copy_102 : decode cX7_copy 102 = .ok (.aload_n 0, 1) := by decide +kernel
theorem dX7_copy_103 : decode cX7_copy 103 = .ok (.getfield 54, 3) := by decide +kernel
theorem dX7_copy_106 : decode cX7_copy 106 = .ok (.iload_n 3, 1) := by decide +kernel
theorem dX7_copy_107 : decode cX7_copy 107 = .ok (.iaload, 1) := by decide +kernel
theorem dX7_copy_108 : decode cX7_copy 108 = .ok (.i2l, 1) := by decide +kernel
theorem dX7_copy_109 : decode cX7_copy 109 = .ok (.lcmp, 1) := by decide +kernel
theorem dX7_copy_110 : decode cX7_copy 110 = .ok (.ifCond .le 9, 3) := by decide +kernel
theorem dX7_copy_113 : decode cX7_copy 113 = .ok (.aload_n 0, 1) := by decide +kernel
theorem dX7_copy_114 : decode cX7_copy 114 = .ok (.iconst 2, 1) := by decide +kernel
theorem dX7_copy_115 : decode cX7_copy 115 = .ok (.invokevirtual 284, 3) := by decide +kernel
theorem dX7_copy_118 : decode cX7_copy 118 = .ok (.ireturn, 1) := by decide +kernel
theorem dX7_copy_119 : decode cX7_copy 119 = .ok (.iconst 0, 1) := by decide +kernel
theorem dX7_copy_120 : decode cX7_copy 120 = .ok (.istore 6, 2) := by decide +kernel
theorem dX7_copy_122 : decode cX7_copy 122 = .ok (.iload 6, 2) := by decide +kernel
theorem dX7_copy_124 : decode cX7_copy 124 = .ok (.iload 5, 2) := by decide +kernel
theorem dX7_copy_126 : decode cX7_copy 126 = .ok (.if_icmp .ge 72, 3) := by decide +kernel
theorem dX7_copy_129 : decode cX7_copy 129 = .ok (.aload_n 0, 1) := by decide +kernel
theorem dX7_copy_130 : decode cX7_copy 130 = .ok (.getfield 67, 3) := by decide +kernel
theorem dX7_copy_133 : decode cX7_copy 133 = .ok (.iload 6, 2) := by decide +kernel
theorem dX7_copy_135 : decode cX7_copy 135 = .ok (.aload_n 0, 1) := by decide +kernel
theorem dX7_copy_136 : decode cX7_copy 136 = .ok (.getfield 57, 3) := by decide +kernel
theorem dX7_copy_139 : decode cX7_copy 139 = .ok (.bipush 40, 2) := by decide +kernel
theorem dX7_copy_141 : decode cX7_copy 141 = .ok (.iload_n 1, 1) := by decide +kernel
theorem dX7_copy_142 : decode cX7_copy 142 = .ok (.imul, 1) := by decide +kernel
theorem dX7_copy_143 : decode cX7_copy 143 = .ok (.iload_n 2, 1) := by decide +kernel
theorem dX7_copy_144 : decode cX7_copy 144 = .ok (.iadd, 1) := by decide +kernel
theorem dX7_copy_145 : decode cX7_copy 145 = .ok (.iload 6, 2) := by decide +kernel
theorem dX7_copy_147 : decode cX7_copy 147 = .ok (.iadd, 1) := by decide +kernel
theorem dX7_copy_148 : decode cX7_copy 148 = .ok (.laload, 1) := by decide +kernel
theorem dX7_copy_149 : decode cX7_copy 149 = .ok (.lastore, 1) := by decide +kernel
theorem dX7_copy_150 : decode cX7_copy 150 = .ok (.aload_n 0, 1) := by decide +kernel
theorem dX7_copy_151 : decode cX7_copy 151 = .ok (.getfield 70, 3) := by decide +kernel
theorem dX7_copy_154 : decode cX7_copy 154 = .ok (.iload 6, 2) := by decide +kernel
theorem dX7_copy_156 : decode cX7_copy 156 = .ok (.aload_n 0, 1) := by decide +kernel
theorem dX7_copy_157 : decode cX7_copy 157 = .ok (.getfield 60, 3) := by decide +kernel
theorem dX7_copy_160 : decode cX7_copy 160 = .ok (.bipush 40, 2) := by decide +kernel
theorem dX7_copy_162 : decode cX7_copy 162 = .ok (.iload_n 1, 1) := by decide +kernel
theorem dX7_copy_163 : decode cX7_copy 163 = .ok (.imul, 1) := by decide +kernel
theorem dX7_copy_164 : decode cX7_copy 164 = .ok (.iload_n 2, 1) := by decide +kernel
theorem dX7_copy_165 : decode cX7_copy 165 = .ok (.iadd, 1) := by decide +kernel
theorem dX7_copy_166 : decode cX7_copy 166 = .ok (.iload 6, 2) := by decide +kernel
theorem dX7_copy_168 : decode cX7_copy 168 = .ok (.iadd, 1) := by decide +kernel
theorem dX7_copy_169 : decode cX7_copy 169 = .ok (.daload, 1) := by decide +kernel
theorem dX7_copy_170 : decode cX7_copy 170 = .ok (.dastore, 1) := by decide +kernel
theorem dX7_copy_171 : decode cX7_copy 171 = .ok (.aload_n 0, 1) := by decide +kernel
theorem dX7_copy_172 : decode cX7_copy 172 = .ok (.getfield 73, 3) := by decide +kernel
theorem dX7_copy_175 : decode cX7_copy 175 = .ok (.iload 6, 2) := by decide +kernel
theorem dX7_copy_177 : decode cX7_copy 177 = .ok (.aload_n 0, 1) := by decide +kernel
theorem dX7_copy_178 : decode cX7_copy 178 = .ok (.getfield 64, 3) := by decide +kernel
theorem dX7_copy_181 : decode cX7_copy 181 = .ok (.bipush 40, 2) := by decide +kernel
theorem dX7_copy_183 : decode cX7_copy 183 = .ok (.iload_n 1, 1) := by decide +kernel
theorem dX7_copy_184 : decode cX7_copy 184 = .ok (.imul, 1) := by decide +kernel
theorem dX7_copy_185 : decode cX7_copy 185 = .ok (.iload_n 2, 1) := by decide +kernel
theorem dX7_copy_186 : decode cX7_copy 186 = .ok (.iadd, 1) := by decide +kernel
theorem dX7_copy_187 : decode cX7_copy 187 = .ok (.iload 6, 2) := by decide +kernel
theorem dX7_copy_189 : decode cX7_copy 189 = .ok (.iadd, 1) := by decide +kernel
theorem dX7_copy_190 : decode cX7_copy 190 = .ok (.baload, 1) := by decide +kernel
theorem dX7_copy_191 : decode cX7_copy 191 = .ok (.bastore, 1) := by decide +kernel
theorem dX7_copy_192 : decode cX7_copy 192 = .ok (.iinc 6 1, 3) := by decide +kernel
theorem dX7_copy_195 : decode cX7_copy 195 = .ok (.goto (-73), 3) := by decide +kernel
theorem dX7_copy_198 : decode cX7_copy 198 = .ok (.iconst 0, 1) := by decide +kernel
theorem dX7_copy_199 : decode cX7_copy 199 = .ok (.istore 6, 2) := by decide +kernel
theorem dX7_copy_201 : decode cX7_copy 201 = .ok (.iload 6, 2) := by decide +kernel
theorem dX7_copy_203 : decode cX7_copy 203 = .ok (.iload 5, 2) := by decide +kernel
theorem dX7_copy_205 : decode cX7_copy 205 = .ok (.if_icmp .ge 75, 3) := by decide +kernel
theorem dX7_copy_208 : decode cX7_copy 208 = .ok (.aload_n 0, 1) := by decide +kernel
theorem dX7_copy_209 : decode cX7_copy 209 = .ok (.getfield 57, 3) := by decide +kernel
theorem dX7_copy_212 : decode cX7_copy 212 = .ok (.bipush 40, 2) := by decide +kernel
theorem dX7_copy_214 : decode cX7_copy 214 = .ok (.iload_n 3, 1) := by decide +kernel
theorem dX7_copy_215 : decode cX7_copy 215 = .ok (.imul, 1) := by decide +kernel
theorem dX7_copy_216 : decode cX7_copy 216 = .ok (.iload 4, 2) := by decide +kernel
theorem dX7_copy_218 : decode cX7_copy 218 = .ok (.iadd, 1) := by decide +kernel
theorem dX7_copy_219 : decode cX7_copy 219 = .ok (.iload 6, 2) := by decide +kernel
theorem dX7_copy_221 : decode cX7_copy 221 = .ok (.iadd, 1) := by decide +kernel
theorem dX7_copy_222 : decode cX7_copy 222 = .ok (.aload_n 0, 1) := by decide +kernel
theorem dX7_copy_223 : decode cX7_copy 223 = .ok (.getfield 67, 3) := by decide +kernel
theorem dX7_copy_226 : decode cX7_copy 226 = .ok (.iload 6, 2) := by decide +kernel
theorem dX7_copy_228 : decode cX7_copy 228 = .ok (.laload, 1) := by decide +kernel
theorem dX7_copy_229 : decode cX7_copy 229 = .ok (.lastore, 1) := by decide +kernel
theorem dX7_copy_230 : decode cX7_copy 230 = .ok (.aload_n 0, 1) := by decide +kernel
theorem dX7_copy_231 : decode cX7_copy 231 = .ok (.getfield 60, 3) := by decide +kernel
theorem dX7_copy_234 : decode cX7_copy 234 = .ok (.bipush 40, 2) := by decide +kernel
theorem dX7_copy_236 : decode cX7_copy 236 = .ok (.iload_n 3, 1) := by decide +kernel
theorem dX7_copy_237 : decode cX7_copy 237 = .ok (.imul, 1) := by decide +kernel
theorem dX7_copy_238 : decode cX7_copy 238 = .ok (.iload 4, 2) := by decide +kernel
theorem dX7_copy_240 : decode cX7_copy 240 = .ok (.iadd, 1) := by decide +kernel
theorem dX7_copy_241 : decode cX7_copy 241 = .ok (.iload 6, 2) := by decide +kernel
theorem dX7_copy_243 : decode cX7_copy 243 = .ok (.iadd, 1) := by decide +kernel
theorem dX7_copy_244 : decode cX7_copy 244 = .ok (.aload_n 0, 1) := by decide +kernel
theorem dX7_copy_245 : decode cX7_copy 245 = .ok (.getfield 70, 3) := by decide +kernel
theorem dX7_copy_248 : decode cX7_copy 248 = .ok (.iload 6, 2) := by decide +kernel
theorem dX7_copy_250 : decode cX7_copy 250 = .ok (.daload, 1) := by decide +kernel
theorem dX7_copy_251 : decode cX7_copy 251 = .ok (.dastore, 1) := by decide +kernel
theorem dX7_copy_252 : decode cX7_copy 252 = .ok (.aload_n 0, 1) := by decide +kernel
theorem dX7_copy_253 : decode cX7_copy 253 = .ok (.getfield 64, 3) := by decide +kernel
theorem dX7_copy_256 : decode cX7_copy 256 = .ok (.bipush 40, 2) := by decide +kernel
theorem dX7_copy_258 : decode cX7_copy 258 = .ok (.iload_n 3, 1) := by decide +kernel
theorem dX7_copy_259 : decode cX7_copy 259 = .ok (.imul, 1) := by decide +kernel
theorem dX7_copy_260 : decode cX7_copy 260 = .ok (.iload 4, 2) := by decide +kernel
theorem dX7_copy_262 : decode cX7_copy 262 = .ok (.iadd, 1) := by decide +kernel
theorem dX7_copy_263 : decode cX7_copy 263 = .ok (.iload 6, 2) := by decide +kernel
theorem dX7_copy_265 : decode cX7_copy 265 = .ok (.iadd, 1) := by decide +kernel
theorem dX7_copy_266 : decode cX7_copy 266 = .ok (.aload_n 0, 1) := by decide +kernel
theorem dX7_copy_267 : decode cX7_copy 267 = .ok (.getfield 73, 3) := by decide +kernel
theorem dX7_copy_270 : decode cX7_copy 270 = .ok (.iload 6, 2) := by decide +kernel
theorem dX7_copy_272 : decode cX7_copy 272 = .ok (.baload, 1) := by decide +kernel
theorem dX7_copy_273 : decode cX7_copy 273 = .ok (.bastore, 1) := by decide +kernel
theorem dX7_copy_274 : decode cX7_copy 274 = .ok (.iinc 6 1, 3) := by decide +kernel
theorem dX7_copy_277 : decode cX7_copy 277 = .ok (.goto (-76), 3) := by decide +kernel
theorem dX7_copy_280 : decode cX7_copy 280 = .ok (.iconst 1, 1) := by decide +kernel
theorem dX7_copy_281 : decode cX7_copy 281 = .ok (.ireturn, 1) := by decide +kernel
theorem dX7_write_0 : decode cX7_write 0 = .ok (.iload_n 1, 1) := by decide +kernel
theorem dX7_write_1 : decode cX7_write 1 = .ok (.invokestatic 281, 3) := by decide +kernel
theorem dX7_write_4 : decode cX7_write 4 = .ok (.ifCond .ne 6, 3) := by decide +kernel
theorem dX7_write_7 : decode cX7_write 7 = .ok (.bipush (-2), 2) := by decide +kernel
theorem dX7_write_9 : decode cX7_write 9 = .ok (.ireturn, 1) := by decide +kernel
theorem dX7_write_10 : decode cX7_write 10 = .ok (.aload_n 0, 1) := by decide +kernel
theorem dX7_write_11 : decode cX7_write 11 = .ok (.getfield 51, 3) := by decide +kernel
theorem dX7_write_14 : decode cX7_write 14 = .ok (.iload_n 1, 1) := by decide +kernel
theorem dX7_write_15 : decode cX7_write 15 = .ok (.iaload, 1) := by decide +kernel
theorem dX7_write_16 : decode cX7_write 16 = .ok (.iconst (-1), 1) := by decide +kernel
theorem dX7_write_17 : decode cX7_write 17 = .ok (.if_icmp .eq 13, 3) := by decide +kernel
theorem dX7_write_20 : decode cX7_write 20 = .ok (.aload_n 0, 1) := by decide +kernel
theorem dX7_write_21 : decode cX7_write 21 = .ok (.getfield 51, 3) := by decide +kernel
theorem dX7_write_24 : decode cX7_write 24 = .ok (.iload_n 1, 1) := by decide +kernel
theorem dX7_write_25 : decode cX7_write 25 = .ok (.iaload, 1) := by decide +kernel
theorem dX7_write_26 : decode cX7_write 26 = .ok (.iconst 3, 1) := by decide +kernel
theorem dX7_write_27 : decode cX7_write 27 = .ok (.if_icmp .eq 23, 3) := by decide +kernel
theorem dX7_write_30 : decode cX7_write 30 = .ok (.aload_n 0, 1) := by decide +kernel
theorem dX7_write_31 : decode cX7_write 31 = .ok (.aload_n 0, 1) := by decide +kernel
theorem dX7_write_32 : decode cX7_write 32 = .ok (.getfield 51, 3) := by decide +kernel
theorem dX7_write_35 : decode cX7_write 35 = .ok (.iload_n 1, 1) := by decide +kernel
theorem dX7_write_36 : decode cX7_write 36 = .ok (.iaload, 1) := by decide +kernel
theorem dX7_write_37 : decode cX7_write 37 = .ok (.iconst (-1), 1) := by decide +kernel
theorem dX7_write_38 : decode cX7_write 38 = .ok (.if_icmp .ne 7, 3) := by decide +kernel
theorem dX7_write_41 : decode cX7_write 41 = .ok (.iconst 1, 1) := by decide +kernel
theorem dX7_write_42 : decode cX7_write 42 = .ok (.goto 4, 3) := by decide +kernel
theorem dX7_write_45 : decode cX7_write 45 = .ok (.iconst 3, 1) := by decide +kernel
theorem dX7_write_46 : decode cX7_write 46 = .ok (.invokevirtual 284, 3) := by decide +kernel
theorem dX7_write_49 : decode cX7_write 49 = .ok (.ireturn, 1) := by decide +kernel
theorem dX7_write_50 : decode cX7_write 50 = .ok (.iconst 0, 1) := by decide +kernel
theorem dX7_write_51 : decode cX7_write 51 = .ok (.istore_n 2, 1) := by decide +kernel
theorem dX7_write_52 : decode cX7_write 52 = .ok (.iconst 1, 1) := by decide +kernel
theorem dX7_write_53 : decode cX7_write 53 = .ok (.istore_n 3, 1) := by decide +kernel
theorem dX7_write_54 : decode cX7_write 54 = .ok (.iload_n 3, 1) := by decide +kernel
theorem dX7_write_55 : decode cX7_write 55 = .ok (.bipush 15, 2) := by decide +kernel
theorem dX7_write_57 : decode cX7_write 57 = .ok (.if_icmp .gt 108, 3) := by decide +kernel
theorem dX7_write_60 : decode cX7_write 60 = .ok (.iload_n 3, 1) := by decide +kernel
theorem dX7_write_61 : decode cX7_write 61 = .ok (.aload_n 0, 1) := by decide +kernel
theorem dX7_write_62 : decode cX7_write 62 = .ok (.getfield 54, 3) := by decide +kernel
theorem dX7_write_65 : decode cX7_write 65 = .ok (.iload_n 1, 1) := by decide +kernel
theorem dX7_write_66 : decode cX7_write 66 = .ok (.iaload, 1) := by decide +kernel
theorem dX7_write_67 : decode cX7_write 67 = .ok (.if_icmp .gt 98, 3) := by decide +kernel
theorem dX7_write_70 : decode cX7_write 70 = .ok (.aload_n 0, 1) := by decide +kernel
theorem dX7_write_71 : decode cX7_write 71 = .ok (.getfield 81, 3) := by decide +kernel
theorem dX7_write_74 : decode cX7_write 74 = .ok (.iconst 2, 1) := by decide +kernel
theorem dX7_write_75 : decode cX7_write 75 = .ok (.iload_n 3, 1) := by decide +kernel
theorem dX7_write_76 : decode cX7_write 76 = .ok (.imul, 1) := by decide +kernel
theorem dX7_write_77 : decode cX7_write 77 = .ok (.if_icmp .le 7, 3) := by decide +kernel
theorem dX7_write_80 : decode cX7_write 80 = .ok (.iconst 1, 1) := by decide +kernel
theorem dX7_write_81 : decode cX7_write 81 = .ok (.goto 4, 3) := by decide +kernel
theorem dX7_write_84 : decode cX7_write 84 = .ok (.iconst 0, 1) := by decide +kernel
theorem dX7_write_85 : decode cX7_write 85 = .ok (.istore 4, 2) := by decide +kernel
theorem dX7_write_87 : decode cX7_write 87 = .ok (.aload_n 0, 1) := by decide +kernel
theorem dX7_write_88 : decode cX7_write 88 = .ok (.bipush 40, 2) := by decide +kernel
theorem dX7_write_90 : decode cX7_write 90 = .ok (.iload_n 1, 1) := by decide +kernel
theorem dX7_write_91 : decode cX7_write 91 = .ok (.imul, 1) := by decide +kernel
theorem dX7_write_92 : decode cX7_write 92 = .ok (.iload_n 3, 1) := by decide +kernel
theorem dX7_write_93 : decode cX7_write 93 = .ok (.iadd, 1) := by decide +kernel
theorem dX7_write_94 : decode cX7_write 94 = .ok (.iconst 1, 1) := by decide +kernel
theorem dX7_write_95 : decode cX7_write 95 = .ok (.isub, 1) := by decide +kernel
theorem dX7_write_96 : decode cX7_write 96 = .ok (.iload 4, 2) := by decide +kernel
theorem dX7_write_98 : decode cX7_write 98 = .ok (.ifCond .eq 21, 3) := by decide +kernel
theorem dX7_write_101 : decode cX7_write 101 = .ok (.aload_n 0, 1) := by decide +kernel
theorem dX7_write_102 : decode cX7_write 102 = .ok (.iload_n 3, 1) := by decide +kernel
theorem dX7_write_103 : decode cX7_write 103 = .ok (.iconst 0, 1) := by decide +kernel
theorem dX7_write_104 : decode cX7_write 104 = .ok (.invokevirtual 266, 3) := by decide +kernel
theorem dX7_write_107 : decode cX7_write 107 = .ok (.l2d, 1) := by decide +kernel
theorem dX7_write_108 : decode cX7_write 108 = .ok (.aload_n 0, 1) := by decide +kernel
theorem dX7_write_109 : decode cX7_write 109 = .ok (.iload_n 3, 1) := by decide +kernel
theorem dX7_write_110 : decode cX7_write 110 = .ok (.iconst 1, 1) := by decide +kernel
theorem dX7_write_111 : decode cX7_write 111 = .ok (.invokevirtual 266, 3) := by decide +kernel
theorem dX7_write_114 : decode cX7_write 114 = .ok (.l2d, 1) := by decide +kernel
theorem dX7_write_115 : decode cX7_write 115 = .ok (.ddiv, 1) := by decide +kernel
theorem dX7_write_116 : decode cX7_write 116 = .ok (.goto 4, 3) := by decide +kernel
theorem dX7_write_119 : decode cX7_write 119 = .ok (.dconst 0, 1) := by decide +kernel
theorem dX7_write_120 : decode cX7_write 120 = .ok (.invokevirtual 295, 3) := by decide +kernel
theorem dX7_write_123 : decode cX7_write 123 = .ok (.aload_n 0, 1) := by decide +kernel
theorem dX7_write_124 : decode cX7_write 124 = .ok (.getfield 64, 3) := by decide +kernel
theorem dX7_write_127 : decode cX7_write 127 = .ok (.bipush 40, 2) := by decide +kernel
theorem dX7_write_129 : decode cX7_write 129 = .ok (.iload_n 1, 1) := by decide +kernel
theorem dX7_write_130 : decode cX7_write 130 = .ok (.imul, 1) := by decide +kernel
theorem dX7_write_131 : decode cX7_write 131 = .ok (.iload_n 3, 1) := by decide +kernel
theorem dX7_write_132 : decode cX7_write 132 = .ok (.iadd, 1) := by decide +kernel
theorem dX7_write_133 : decode cX7_write 133 = .ok (.iconst 1, 1) := by decide +kernel
theorem dX7_write_134 : decode cX7_write 134 = .ok (.isub, 1) := by decide +kernel
theorem dX7_write_135 : decode cX7_write 135 = .ok (.iload 4, 2) := by decide +kernel
theorem dX7_write_137 : decode cX7_write 137 = .ok (.ifCond .ne 7, 3) := by decide +kernel
theorem dX7_write_140 : decode cX7_write 140 = .ok (.iconst 1, 1) := by decide +kernel
theorem dX7_write_141 : decode cX7_write 141 = .ok (.goto 4, 3) := by decide +kernel
theorem dX7_write_144 : decode cX7_write 144 = .ok (.iconst 0, 1) := by decide +kernel
theorem dX7_write_145 : decode cX7_write 145 = .ok (.bastore, 1) := by decide +kernel
theorem dX7_write_146 : decode cX7_write 146 = .ok (.iload_n 2, 1) := by decide +kernel
theorem dX7_write_147 : decode cX7_write 147 = .ok (.iload 4, 2) := by decide +kernel
theorem dX7_write_149 : decode cX7_write 149 = .ok (.ifCond .eq 7, 3) := by decide +kernel
theorem dX7_write_152 : decode cX7_write 152 = .ok (.iconst 1, 1) := by decide +kernel
theorem dX7_write_153 : decode cX7_write 153 = .ok (.goto 4, 3) := by decide +kernel
theorem dX7_write_156 : decode cX7_write 156 = .ok (.iconst 0, 1) := by decide +kernel
theorem dX7_write_157 : decode cX7_write 157 = .ok (.iadd, 1) := by decide +kernel
theorem dX7_write_158 : decode cX7_write 158 = .ok (.istore_n 2, 1) := by decide +kernel
theorem dX7_write_159 : decode cX7_write 159 = .ok (.iinc 3 1, 3) := by decide +kernel
theorem dX7_write_162 : decode cX7_write 162 = .ok (.goto (-108), 3) := by decide +kernel
theorem dX7_write_165 : decode cX7_write 165 = .ok (.iload_n 2, 1) := by decide +kernel
theorem dX7_write_166 : decode cX7_write 166 = .ok (.ireturn, 1) := by decide +kernel
theorem dX7_foundOf_0 : decode cX7_foundOf 0 = .ok (.iconst (-1), 1) := by decide +kernel
theorem dX7_foundOf_1 : decode cX7_foundOf 1 = .ok (.istore_n 3, 1) := by decide +kernel
theorem dX7_foundOf_2 : decode cX7_foundOf 2 = .ok (.iconst 0, 1) := by decide +kernel
theorem dX7_foundOf_3 : decode cX7_foundOf 3 = .ok (.istore 4, 2) := by decide +kernel
theorem dX7_foundOf_5 : decode cX7_foundOf 5 = .ok (.iconst 0, 1) := by decide +kernel
theorem dX7_foundOf_6 : decode cX7_foundOf 6 = .ok (.istore 5, 2) := by decide +kernel
theorem dX7_foundOf_8 : decode cX7_foundOf 8 = .ok (.iload 5, 2) := by decide +kernel
theorem dX7_foundOf_10 : decode cX7_foundOf 10 = .ok (.aload_n 0, 1) := by decide +kernel
theorem dX7_foundOf_11 : decode cX7_foundOf 11 = .ok (.getfield 54, 3) := by decide +kernel
theorem dX7_foundOf_14 : decode cX7_foundOf 14 = .ok (.iload_n 1, 1) := by decide +kernel
theorem dX7_foundOf_15 : decode cX7_foundOf 15 = .ok (.iaload, 1) := by decide +kernel
theorem dX7_foundOf_16 : decode cX7_foundOf 16 = .ok (.if_icmp .ge 123, 3) := by decide +kernel
theorem dX7_foundOf_19 : decode cX7_foundOf 19 = .ok (.bipush 40, 2) := by decide +kernel
theorem dX7_foundOf_21 : decode cX7_foundOf 21 = .ok (.iload_n 1, 1) := by decide +kernel
theorem dX7_foundOf_22 : decode cX7_foundOf 22 = .ok (.imul, 1) := by decide +kernel
theorem dX7_foundOf_23 : decode cX7_foundOf 23 = .ok (.iload 5, 2) := by decide +kernel
theorem dX7_foundOf_25 : decode cX7_foundOf 25 = .ok (.iadd, 1) := by decide +kernel
theorem dX7_foundOf_26 : decode cX7_foundOf 26 = .ok (.istore 6, 2) := by decide +kernel
theorem dX7_foundOf_28 : decode cX7_foundOf 28 = .ok (.iload 4, 2) := by decide +kernel
theorem dX7_foundOf_30 : decode cX7_foundOf 30 = .ok (.aload_n 0, 1) := by decide +kernel
theorem dX7_foundOf_31 : decode cX7_foundOf 31 = .ok (.getfield 64, 3) := by decide +kernel
theorem dX7_foundOf_34 : decode cX7_foundOf 34 = .ok (.iload 6, 2) := by decide +kernel
theorem dX7_foundOf_36 : decode cX7_foundOf 36 = .ok (.baload, 1) := by decide +kernel
theorem dX7_foundOf_37 : decode cX7_foundOf 37 = .ok (.ifCond .eq 7, 3) := by decide +kernel
theorem dX7_foundOf_40 : decode cX7_foundOf 40 = .ok (.iconst 1, 1) := by decide +kernel
theorem dX7_foundOf_41 : decode cX7_foundOf 41 = .ok (.goto 4, 3) := by decide +kernel
theorem dX7_foundOf_44 : decode cX7_foundOf 44 = .ok (.iconst 0, 1) := by decide +kernel
theorem dX7_foundOf_45 : decode cX7_foundOf 45 = .ok (.iadd, 1) := by decide +kernel
theorem dX7_foundOf_46 : decode cX7_foundOf 46 = .ok (.istore 4, 2) := by decide +kernel
theorem dX7_foundOf_48 : decode cX7_foundOf 48 = .ok (.aload_n 0, 1) := by decide +kernel
theorem dX7_foundOf_49 : decode cX7_foundOf 49 = .ok (.getfield 64, 3) := by decide +kernel
theorem dX7_foundOf_52 : decode cX7_foundOf 52 = .ok (.iload 6, 2) := by decide +kernel
theorem dX7_foundOf_54 : decode cX7_foundOf 54 = .ok (.baload, 1) := by decide +kernel
theorem dX7_foundOf_55 : decode cX7_foundOf 55 = .ok (.ifCond .ne 63, 3) := by decide +kernel
theorem dX7_foundOf_58 : decode cX7_foundOf 58 = .ok (.iload_n 3, 1) := by decide +kernel
theorem dX7_foundOf_59 : decode cX7_foundOf 59 = .ok (.iconst (-1), 1) := by decide +kernel
theorem dX7_foundOf_60 : decode cX7_foundOf 60 = .ok (.if_icmp .eq 54, 3) := by decide +kernel
theorem dX7_foundOf_63 : decode cX7_foundOf 63 = .ok (.iload_n 2, 1) := by decide +kernel
theorem dX7_foundOf_64 : decode cX7_foundOf 64 = .ok (.ifCond .ne 28, 3) := by decide +kernel
theorem dX7_foundOf_67 : decode cX7_foundOf 67 = .ok (.aload_n 0, 1) := by decide +kernel
theorem dX7_foundOf_68 : decode cX7_foundOf 68 = .ok (.getfield 60, 3) := by decide +kernel
theorem dX7_foundOf_71 : decode cX7_foundOf 71 = .ok (.iload 6, 2) := by decide +kernel
theorem dX7_foundOf_73 : decode cX7_foundOf 73 = .ok (.daload, 1) := by decide +kernel
theorem dX7_foundOf_74 : decode cX7_foundOf 74 = .ok (.aload_n 0, 1) := by decide +kernel
theorem dX7_foundOf_75 : decode cX7_foundOf 75 = .ok (.getfield 60, 3) := by decide +kernel
theorem dX7_foundOf_78 : decode cX7_foundOf 78 = .ok (.bipush 40, 2) := by decide +kernel
theorem dX7_foundOf_80 : decode cX7_foundOf 80 = .ok (.iload_n 1, 1) := by decide +kernel
theorem dX7_foundOf_81 : decode cX7_foundOf 81 = .ok (.imul, 1) := by decide +kernel
theorem dX7_foundOf_82 : decode cX7_foundOf 82 = .ok (.iload_n 3, 1) := by decide +kernel
theorem dX7_foundOf_83 : decode cX7_foundOf 83 = .ok (.iadd, 1) := by decide +kernel
theorem dX7_foundOf_84 : decode cX7_foundOf 84 = .ok (.daload, 1) := by decide +kernel
theorem dX7_foundOf_85 : decode cX7_foundOf 85 = .ok (.dcmp .g, 1) := by decide +kernel
theorem dX7_foundOf_86 : decode cX7_foundOf 86 = .ok (.ifCond .ge 32, 3) := by decide +kernel
theorem dX7_foundOf_89 : decode cX7_foundOf 89 = .ok (.goto 25, 3) := by decide +kernel
theorem dX7_foundOf_92 : decode cX7_foundOf 92 = .ok (.aload_n 0, 1) := by decide +kernel
theorem dX7_foundOf_93 : decode cX7_foundOf 93 = .ok (.getfield 60, 3) := by decide +kernel
theorem dX7_foundOf_96 : decode cX7_foundOf 96 = .ok (.iload 6, 2) := by decide +kernel
theorem dX7_foundOf_98 : decode cX7_foundOf 98 = .ok (.daload, 1) := by decide +kernel
theorem dX7_foundOf_99 : decode cX7_foundOf 99 = .ok (.aload_n 0, 1) := by decide +kernel
theorem dX7_foundOf_100 : decode cX7_foundOf 100 = .ok (.getfield 60, 3) := by decide +kernel
theorem dX7_foundOf_103 : decode cX7_foundOf 103 = .ok (.bipush 40, 2) := by decide +kernel
theorem dX7_foundOf_105 : decode cX7_foundOf 105 = .ok (.iload_n 1, 1) := by decide +kernel
theorem dX7_foundOf_106 : decode cX7_foundOf 106 = .ok (.imul, 1) := by decide +kernel
theorem dX7_foundOf_107 : decode cX7_foundOf 107 = .ok (.iload_n 3, 1) := by decide +kernel
theorem dX7_foundOf_108 : decode cX7_foundOf 108 = .ok (.iadd, 1) := by decide +kernel
theorem dX7_foundOf_109 : decode cX7_foundOf 109 = .ok (.daload, 1) := by decide +kernel
theorem dX7_foundOf_110 : decode cX7_foundOf 110 = .ok (.dcmp .l, 1) := by decide +kernel
theorem dX7_foundOf_111 : decode cX7_foundOf 111 = .ok (.ifCond .le 7, 3) := by decide +kernel
theorem dX7_foundOf_114 : decode cX7_foundOf 114 = .ok (.iconst 1, 1) := by decide +kernel
theorem dX7_foundOf_115 : decode cX7_foundOf 115 = .ok (.goto 4, 3) := by decide +kernel
theorem dX7_foundOf_118 : decode cX7_foundOf 118 = .ok (.iconst 0, 1) := by decide +kernel
theorem dX7_foundOf_119 : decode cX7_foundOf 119 = .ok (.istore 7, 2) := by decide +kernel
theorem dX7_foundOf_121 : decode cX7_foundOf 121 = .ok (.iload 7, 2) := by decide +kernel
theorem dX7_foundOf_123 : decode cX7_foundOf 123 = .ok (.ifCond .eq 8, 3) := by decide +kernel
theorem dX7_foundOf_126 : decode cX7_foundOf 126 = .ok (.iload 5, 2) := by decide +kernel
theorem dX7_foundOf_128 : decode cX7_foundOf 128 = .ok (.goto 4, 3) := by decide +kernel
theorem dX7_foundOf_131 : decode cX7_foundOf 131 = .ok (.iload_n 3, 1) := by decide +kernel
theorem dX7_foundOf_132 : decode cX7_foundOf 132 = .ok (.istore_n 3, 1) := by decide +kernel
theorem dX7_foundOf_133 : decode cX7_foundOf 133 = .ok (.iinc 5 1, 3) := by decide +kernel
theorem dX7_foundOf_136 : decode cX7_foundOf 136 = .ok (.goto (-128), 3) := by decide +kernel
theorem dX7_foundOf_139 : decode cX7_foundOf 139 = .ok (.iload_n 2, 1) := by decide +kernel
theorem dX7_foundOf_140 : decode cX7_foundOf 140 = .ok (.iconst 2, 1) := by decide +kernel
theorem dX7_foundOf_141 : decode cX7_foundOf 141 = .ok (.if_icmp .ne 8, 3) := by decide +kernel
theorem dX7_foundOf_144 : decode cX7_foundOf 144 = .ok (.iload 4, 2) := by decide +kernel
theorem dX7_foundOf_146 : decode cX7_foundOf 146 = .ok (.goto 4, 3) := by decide +kernel
theorem dX7_foundOf_149 : decode cX7_foundOf 149 = .ok (.iload_n 3, 1) := by decide +kernel
theorem dX7_foundOf_150 : decode cX7_foundOf 150 = .ok (.ireturn, 1) := by decide +kernel
theorem dX7_found_0 : decode cX7_found 0 = .ok (.iload_n 1, 1) := by decide +kernel
theorem dX7_found_1 : decode cX7_found 1 = .ok (.invokestatic 281, 3) := by decide +kernel
theorem dX7_found_4 : decode cX7_found 4 = .ok (.ifCond .eq 12, 3) := by decide +kernel
theorem dX7_found_7 : decode cX7_found 7 = .ok (.iload_n 2, 1) := by decide +kernel
theorem dX7_found_8 : decode cX7_found 8 = .ok (.iconst 0, 1) := by decide +kernel
theorem dX7_found_9 : decode cX7_found 9 = .ok (.iconst 2, 1) := by decide +kernel
theorem dX7_found_10 : decode cX7_found 10 = .ok (.invokestatic 85, 3) := by decide +kernel
theorem dX7_found_13 : decode cX7_found 13 = .ok (.ifCond .ne 6, 3) := by decide +kernel
theorem dX7_found_16 : decode cX7_found 16 = .ok (.bipush (-2), 2) := by decide +kernel
theorem dX7_found_18 : decode cX7_found 18 = .ok (.ireturn, 1) := by decide +kernel
theorem dX7_found_19 : decode cX7_found 19 = .ok (.aload_n 0, 1) := by decide +kernel
theorem dX7_found_20 : decode cX7_found 20 = .ok (.getfield 51, 3) := by decide +kernel
theorem dX7_found_23 : decode cX7_found 23 = .ok (.iload_n 1, 1) := by decide +kernel
theorem dX7_found_24 : decode cX7_found 24 = .ok (.iaload, 1) := by decide +kernel
theorem dX7_found_25 : decode cX7_found 25 = .ok (.iconst (-1), 1) := by decide +kernel
theorem dX7_found_26 : decode cX7_found 26 = .ok (.if_icmp .eq 13, 3) := by decide +kernel
theorem dX7_found_29 : decode cX7_found 29 = .ok (.aload_n 0, 1) := by decide +kernel
theorem dX7_found_30 : decode cX7_found 30 = .ok (.getfield 51, 3) := by decide +kernel
theorem dX7_found_33 : decode cX7_found 33 = .ok (.iload_n 1, 1) := by decide +kernel
theorem dX7_found_34 : decode cX7_found 34 = .ok (.iaload, 1) := by decide +kernel
theorem dX7_found_35 : decode cX7_found 35 = .ok (.iconst 2, 1) := by decide +kernel
theorem dX7_found_36 : decode cX7_found 36 = .ok (.if_icmp .ge 23, 3) := by decide +kernel
theorem dX7_found_39 : decode cX7_found 39 = .ok (.aload_n 0, 1) := by decide +kernel
theorem dX7_found_40 : decode cX7_found 40 = .ok (.aload_n 0, 1) := by decide +kernel
theorem dX7_found_41 : decode cX7_found 41 = .ok (.getfield 51, 3) := by decide +kernel
theorem dX7_found_44 : decode cX7_found 44 = .ok (.iload_n 1, 1) := by decide +kernel
theorem dX7_found_45 : decode cX7_found 45 = .ok (.iaload, 1) := by decide +kernel
theorem dX7_found_46 : decode cX7_found 46 = .ok (.iconst (-1), 1) := by decide +kernel
theorem dX7_found_47 : decode cX7_found 47 = .ok (.if_icmp .ne 7, 3) := by decide +kernel
theorem dX7_found_50 : decode cX7_found 50 = .ok (.iconst 1, 1) := by decide +kernel
theorem dX7_found_51 : decode cX7_found 51 = .ok (.goto 4, 3) := by decide +kernel
theorem dX7_found_54 : decode cX7_found 54 = .ok (.iconst 3, 1) := by decide +kernel
theorem dX7_found_55 : decode cX7_found 55 = .ok (.invokevirtual 284, 3) := by decide +kernel
theorem dX7_found_58 : decode cX7_found 58 = .ok (.ireturn, 1) := by decide +kernel
theorem dX7_found_59 : decode cX7_found 59 = .ok (.aload_n 0, 1) := by decide +kernel
theorem dX7_found_60 : decode cX7_found 60 = .ok (.iload_n 1, 1) := by decide +kernel
theorem dX7_found_61 : decode cX7_found 61 = .ok (.iload_n 2, 1) := by decide +kernel
theorem dX7_found_62 : decode cX7_found 62 = .ok (.invokevirtual 302, 3) := by decide +kernel
theorem dX7_found_65 : decode cX7_found 65 = .ok (.ireturn, 1) := by decide +kernel
theorem dX7_lostNow_0 : decode cX7_lostNow 0 = .ok (.aload_n 0, 1) := by decide +kernel
theorem dX7_lostNow_1 : decode cX7_lostNow 1 = .ok (.invokevirtual 178, 3) := by decide +kernel
theorem dX7_lostNow_4 : decode cX7_lostNow 4 = .ok (.iconst 0, 1) := by decide +kernel
theorem dX7_lostNow_5 : decode cX7_lostNow 5 = .ok (.istore_n 1, 1) := by decide +kernel
theorem dX7_lostNow_6 : decode cX7_lostNow 6 = .ok (.iconst 0, 1) := by decide +kernel
theorem dX7_lostNow_7 : decode cX7_lostNow 7 = .ok (.istore_n 2, 1) := by decide +kernel
theorem dX7_lostNow_8 : decode cX7_lostNow 8 = .ok (.iload_n 2, 1) := by decide +kernel
theorem dX7_lostNow_9 : decode cX7_lostNow 9 = .ok (.aload_n 0, 1) := by decide +kernel
theorem dX7_lostNow_10 : decode cX7_lostNow 10 = .ok (.getfield 81, 3) := by decide +kernel
theorem dX7_lostNow_13 : decode cX7_lostNow 13 = .ok (.if_icmp .ge 18, 3) := by decide +kernel
theorem dX7_lostNow_16 : decode cX7_lostNow 16 = .ok (.iload_n 1, 1) := by decide +kernel
theorem dX7_lostNow_17 : decode cX7_lostNow 17 = .ok (.aload_n 0, 1) := by decide +kernel
theorem dX7_lostNow_18 : decode cX7_lostNow 18 = .ok (.getfield 36, 3) := by decide +kernel
theorem dX7_lostNow_21 : decode cX7_lostNow 21 = .ok (.iload_n 2, 1) := by decide +kernel
theorem dX7_lostNow_22 : decode cX7_lostNow 22 = .ok (.iaload, 1) := by decide +kernel
theorem dX7_lostNow_23 : decode cX7_lostNow 23 = .ok (.iadd, 1) := by decide +kernel
theorem dX7_lostNow_24 : decode cX7_lostNow 24 = .ok (.istore_n 1, 1) := by decide +kernel
theorem dX7_lostNow_25 : decode cX7_lostNow 25 = .ok (.iinc 2 1, 3) := by decide +kernel
theorem dX7_lostNow_28 : decode cX7_lostNow 28 = .ok (.goto (-20), 3) := by decide +kernel
theorem dX7_lostNow_31 : decode cX7_lostNow 31 = .ok (.iload_n 1, 1) := by decide +kernel
theorem dX7_lostNow_32 : decode cX7_lostNow 32 = .ok (.ireturn, 1) := by decide +kernel
theorem dX7_breaksNow_0 : decode cX7_breaksNow 0 = .ok (.aload_n 0, 1) := by decide +kernel
theorem dX7_breaksNow_1 : decode cX7_breaksNow 1 = .ok (.invokevirtual 178, 3) := by decide +kernel
theorem dX7_breaksNow_4 : decode cX7_breaksNow 4 = .ok (.iconst 0, 1) := by decide +kernel
theorem dX7_breaksNow_5 : decode cX7_breaksNow 5 = .ok (.istore_n 1, 1) := by decide +kernel
theorem dX7_breaksNow_6 : decode cX7_breaksNow 6 = .ok (.iconst 0, 1) := by decide +kernel
theorem dX7_breaksNow_7 : decode cX7_breaksNow 7 = .ok (.istore_n 2, 1) := by decide +kernel
theorem dX7_breaksNow_8 : decode cX7_breaksNow 8 = .ok (.iload_n 2, 1) := by decide +kernel
theorem dX7_breaksNow_9 : decode cX7_breaksNow 9 = .ok (.aload_n 0, 1) := by decide +kernel
theorem dX7_breaksNow_10 : decode cX7_breaksNow 10 = .ok (.getfield 81, 3) := by decide +kernel
theorem dX7_breaksNow_13 : decode cX7_breaksNow 13 = .ok (.if_icmp .ge 26, 3) := by decide +kernel
theorem dX7_breaksNow_16 : decode cX7_breaksNow 16 = .ok (.iload_n 1, 1) := by decide +kernel
theorem dX7_breaksNow_17 : decode cX7_breaksNow 17 = .ok (.aload_n 0, 1) := by decide +kernel
theorem dX7_breaksNow_18 : decode cX7_breaksNow 18 = .ok (.getfield 39, 3) := by decide +kernel
theorem dX7_breaksNow_21 : decode cX7_breaksNow 21 = .ok (.iload_n 2, 1) := by decide +kernel
theorem dX7_breaksNow_22 : decode cX7_breaksNow 22 = .ok (.baload, 1) := by decide +kernel
theorem dX7_breaksNow_23 : decode cX7_breaksNow 23 = .ok (.ifCond .eq 7, 3) := by decide +kernel
theorem dX7_breaksNow_26 : decode cX7_breaksNow 26 = .ok (.iconst 1, 1) := by decide +kernel
theorem dX7_breaksNow_27 : decode cX7_breaksNow 27 = .ok (.goto 4, 3) := by decide +kernel
theorem dX7_breaksNow_30 : decode cX7_breaksNow 30 = .ok (.iconst 0, 1) := by decide +kernel
theorem dX7_breaksNow_31 : decode cX7_breaksNow 31 = .ok (.iadd, 1) := by decide +kernel
theorem dX7_breaksNow_32 : decode cX7_breaksNow 32 = .ok (.istore_n 1, 1) := by decide +kernel
theorem dX7_breaksNow_33 : decode cX7_breaksNow 33 = .ok (.iinc 2 1, 3) := by decide +kernel
theorem dX7_breaksNow_36 : decode cX7_breaksNow 36 = .ok (.goto (-28), 3) := by decide +kernel
theorem dX7_breaksNow_39 : decode cX7_breaksNow 39 = .ok (.iload_n 1, 1) := by decide +kernel
theorem dX7_breaksNow_40 : decode cX7_breaksNow 40 = .ok (.ireturn, 1) := by decide +kernel
theorem dX7_count_0 : decode cX7_count 0 = .ok (.iload_n 1, 1) := by decide +kernel
theorem dX7_count_1 : decode cX7_count 1 = .ok (.tableswitch 96 0 8 #[51, 56, 61, 66, 71, 76, 81, 86, 91], 51) := by decide +kernel
theorem dX7_count_52 : decode cX7_count 52 = .ok (.aload_n 0, 1) := by decide +kernel
theorem dX7_count_53 : decode cX7_count 53 = .ok (.getfield 81, 3) := by decide +kernel
theorem dX7_count_56 : decode cX7_count 56 = .ok (.ireturn, 1) := by decide +kernel
theorem dX7_count_57 : decode cX7_count 57 = .ok (.aload_n 0, 1) := by decide +kernel
theorem dX7_count_58 : decode cX7_count 58 = .ok (.invokevirtual 107, 3) := by decide +kernel
theorem dX7_count_61 : decode cX7_count 61 = .ok (.ireturn, 1) := by decide +kernel
theorem dX7_count_62 : decode cX7_count 62 = .ok (.aload_n 0, 1) := by decide +kernel
theorem dX7_count_63 : decode cX7_count 63 = .ok (.invokevirtual 103, 3) := by decide +kernel
theorem dX7_count_66 : decode cX7_count 66 = .ok (.ireturn, 1) := by decide +kernel
theorem dX7_count_67 : decode cX7_count 67 = .ok (.aload_n 0, 1) := by decide +kernel
theorem dX7_count_68 : decode cX7_count 68 = .ok (.getfield 194, 3) := by decide +kernel
theorem dX7_count_71 : decode cX7_count 71 = .ok (.ireturn, 1) := by decide +kernel
theorem dX7_count_72 : decode cX7_count 72 = .ok (.aload_n 0, 1) := by decide +kernel
theorem dX7_count_73 : decode cX7_count 73 = .ok (.invokevirtual 305, 3) := by decide +kernel
theorem dX7_count_76 : decode cX7_count 76 = .ok (.ireturn, 1) := by decide +kernel
theorem dX7_count_77 : decode cX7_count 77 = .ok (.aload_n 0, 1) := by decide +kernel
theorem dX7_count_78 : decode cX7_count 78 = .ok (.invokevirtual 308, 3) := by decide +kernel
theorem dX7_count_81 : decode cX7_count 81 = .ok (.ireturn, 1) := by decide +kernel
theorem dX7_count_82 : decode cX7_count 82 = .ok (.aload_n 0, 1) := by decide +kernel
theorem dX7_count_83 : decode cX7_count 83 = .ok (.invokevirtual 269, 3) := by decide +kernel
theorem dX7_count_86 : decode cX7_count 86 = .ok (.ireturn, 1) := by decide +kernel
theorem dX7_count_87 : decode cX7_count 87 = .ok (.aload_n 0, 1) := by decide +kernel
theorem dX7_count_88 : decode cX7_count 88 = .ok (.getfield 143, 3) := by decide +kernel
theorem dX7_count_91 : decode cX7_count 91 = .ok (.ireturn, 1) := by decide +kernel
theorem dX7_count_92 : decode cX7_count 92 = .ok (.aload_n 0, 1) := by decide +kernel
theorem dX7_count_93 : decode cX7_count 93 = .ok (.getfield 278, 3) := by decide +kernel
theorem dX7_count_96 : decode cX7_count 96 = .ok (.ireturn, 1) := by decide +kernel
theorem dX7_count_97 : decode cX7_count 97 = .ok (.bipush (-2), 2) := by decide +kernel
theorem dX7_count_99 : decode cX7_count 99 = .ok (.ireturn, 1) := by decide +kernel
theorem dX7_binDigest_0 : decode cX7_binDigest 0 = .ok (.lload_n 1, 1) := by decide +kernel
theorem dX7_binDigest_1 : decode cX7_binDigest 1 = .ok (.lstore 4, 2) := by decide +kernel
theorem dX7_binDigest_3 : decode cX7_binDigest 3 = .ok (.iconst 0, 1) := by decide +kernel
theorem dX7_binDigest_4 : decode cX7_binDigest 4 = .ok (.istore 6, 2) := by decide +kernel
theorem dX7_binDigest_6 : decode cX7_binDigest 6 = .ok (.iload 6, 2) := by decide +kernel
theorem dX7_binDigest_8 : decode cX7_binDigest 8 = .ok (.iconst 3, 1) := by decide +kernel
theorem dX7_binDigest_9 : decode cX7_binDigest 9 = .ok (.if_icmp .ge 26, 3) := by decide +kernel
theorem dX7_binDigest_12 : decode cX7_binDigest 12 = .ok (.ldc2_w 311, 3) := by decide +kernel
theorem dX7_binDigest_15 : decode cX7_binDigest 15 = .ok (.lload 4, 2) := by decide +kernel
theorem dX7_binDigest_17 : decode cX7_binDigest 17 = .ok (.lmul, 1) := by decide +kernel
theorem dX7_binDigest_18 : decode cX7_binDigest 18 = .ok (.aload_n 0, 1) := by decide +kernel
theorem dX7_binDigest_19 : decode cX7_binDigest 19 = .ok (.iload_n 3, 1) := by decide +kernel
theorem dX7_binDigest_20 : decode cX7_binDigest 20 = .ok (.iload 6, 2) := by decide +kernel
theorem dX7_binDigest_22 : decode cX7_binDigest 22 = .ok (.invokevirtual 122, 3) := by decide +kernel
theorem dX7_binDigest_25 : decode cX7_binDigest 25 = .ok (.i2l, 1) := by decide +kernel
theorem dX7_binDigest_26 : decode cX7_binDigest 26 = .ok (.ladd, 1) := by decide +kernel
theorem dX7_binDigest_27 : decode cX7_binDigest 27 = .ok (.lstore 4, 2) := by decide +kernel
theorem dX7_binDigest_29 : decode cX7_binDigest 29 = .ok (.iinc 6 1, 3) := by decide +kernel
theorem dX7_binDigest_32 : decode cX7_binDigest 32 = .ok (.goto (-26), 3) := by decide +kernel
theorem dX7_binDigest_35 : decode cX7_binDigest 35 = .ok (.ldc2_w 311, 3) := by decide +kernel
theorem dX7_binDigest_38 : decode cX7_binDigest 38 = .ok (.lload 4, 2) := by decide +kernel
theorem dX7_binDigest_40 : decode cX7_binDigest 40 = .ok (.lmul, 1) := by decide +kernel
theorem dX7_binDigest_41 : decode cX7_binDigest 41 = .ok (.aload_n 0, 1) := by decide +kernel
theorem dX7_binDigest_42 : decode cX7_binDigest 42 = .ok (.iload_n 3, 1) := by decide +kernel
theorem dX7_binDigest_43 : decode cX7_binDigest 43 = .ok (.iconst 0, 1) := by decide +kernel
theorem dX7_binDigest_44 : decode cX7_binDigest 44 = .ok (.invokevirtual 136, 3) := by decide +kernel
theorem dX7_binDigest_47 : decode cX7_binDigest 47 = .ok (.ladd, 1) := by decide +kernel
theorem dX7_binDigest_48 : decode cX7_binDigest 48 = .ok (.lstore 4, 2) := by decide +kernel
theorem dX7_binDigest_50 : decode cX7_binDigest 50 = .ok (.ldc2_w 311, 3) := by decide +kernel
theorem dX7_binDigest_53 : decode cX7_binDigest 53 = .ok (.lload 4, 2) := by decide +kernel
theorem dX7_binDigest_55 : decode cX7_binDigest 55 = .ok (.lmul, 1) := by decide +kernel
theorem dX7_binDigest_56 : decode cX7_binDigest 56 = .ok (.aload_n 0, 1) := by decide +kernel
theorem dX7_binDigest_57 : decode cX7_binDigest 57 = .ok (.iload_n 3, 1) := by decide +kernel
theorem dX7_binDigest_58 : decode cX7_binDigest 58 = .ok (.iconst 1, 1) := by decide +kernel
theorem dX7_binDigest_59 : decode cX7_binDigest 59 = .ok (.invokevirtual 136, 3) := by decide +kernel
theorem dX7_binDigest_62 : decode cX7_binDigest 62 = .ok (.ladd, 1) := by decide +kernel
theorem dX7_binDigest_63 : decode cX7_binDigest 63 = .ok (.lreturn, 1) := by decide +kernel
theorem dX7_edgeDigest_0 : decode cX7_edgeDigest 0 = .ok (.lload_n 1, 1) := by decide +kernel
theorem dX7_edgeDigest_1 : decode cX7_edgeDigest 1 = .ok (.lstore 4, 2) := by decide +kernel
theorem dX7_edgeDigest_3 : decode cX7_edgeDigest 3 = .ok (.iconst 0, 1) := by decide +kernel
theorem dX7_edgeDigest_4 : decode cX7_edgeDigest 4 = .ok (.istore 6, 2) := by decide +kernel
theorem dX7_edgeDigest_6 : decode cX7_edgeDigest 6 = .ok (.iload 6, 2) := by decide +kernel
theorem dX7_edgeDigest_8 : decode cX7_edgeDigest 8 = .ok (.bipush 8, 2) := by decide +kernel
theorem dX7_edgeDigest_10 : decode cX7_edgeDigest 10 = .ok (.if_icmp .ge 26, 3) := by decide +kernel
theorem dX7_edgeDigest_13 : decode cX7_edgeDigest 13 = .ok (.ldc2_w 311, 3) := by decide +kernel
theorem dX7_edgeDigest_16 : decode cX7_edgeDigest 16 = .ok (.lload 4, 2) := by decide +kernel
theorem dX7_edgeDigest_18 : decode cX7_edgeDigest 18 = .ok (.lmul, 1) := by decide +kernel
theorem dX7_edgeDigest_19 : decode cX7_edgeDigest 19 = .ok (.aload_n 0, 1) := by decide +kernel
theorem dX7_edgeDigest_20 : decode cX7_edgeDigest 20 = .ok (.iload_n 3, 1) := by decide +kernel
theorem dX7_edgeDigest_21 : decode cX7_edgeDigest 21 = .ok (.iload 6, 2) := by decide +kernel
theorem dX7_edgeDigest_23 : decode cX7_edgeDigest 23 = .ok (.invokevirtual 185, 3) := by decide +kernel
theorem dX7_edgeDigest_26 : decode cX7_edgeDigest 26 = .ok (.i2l, 1) := by decide +kernel
theorem dX7_edgeDigest_27 : decode cX7_edgeDigest 27 = .ok (.ladd, 1) := by decide +kernel
theorem dX7_edgeDigest_28 : decode cX7_edgeDigest 28 = .ok (.lstore 4, 2) := by decide +kernel
theorem dX7_edgeDigest_30 : decode cX7_edgeDigest 30 = .ok (.iinc 6 1, 3) := by decide +kernel
theorem dX7_edgeDigest_33 : decode cX7_edgeDigest 33 = .ok (.goto (-27), 3) := by decide +kernel
theorem dX7_edgeDigest_36 : decode cX7_edgeDigest 36 = .ok (.ldc2_w 311, 3) := by decide +kernel
theorem dX7_edgeDigest_39 : decode cX7_edgeDigest 39 = .ok (.lload 4, 2) := by decide +kernel
theorem dX7_edgeDigest_41 : decode cX7_edgeDigest 41 = .ok (.lmul, 1) := by decide +kernel
theorem dX7_edgeDigest_42 : decode cX7_edgeDigest 42 = .ok (.aload_n 0, 1) := by decide +kernel
theorem dX7_edgeDigest_43 : decode cX7_edgeDigest 43 = .ok (.iload_n 3, 1) := by decide +kernel
theorem dX7_edgeDigest_44 : decode cX7_edgeDigest 44 = .ok (.iconst 0, 1) := by decide +kernel
theorem dX7_edgeDigest_45 : decode cX7_edgeDigest 45 = .ok (.invokevirtual 188, 3) := by decide +kernel
theorem dX7_edgeDigest_48 : decode cX7_edgeDigest 48 = .ok (.ladd, 1) := by decide +kernel
theorem dX7_edgeDigest_49 : decode cX7_edgeDigest 49 = .ok (.lstore 4, 2) := by decide +kernel
theorem dX7_edgeDigest_51 : decode cX7_edgeDigest 51 = .ok (.ldc2_w 311, 3) := by decide +kernel
theorem dX7_edgeDigest_54 : decode cX7_edgeDigest 54 = .ok (.lload 4, 2) := by decide +kernel
theorem dX7_edgeDigest_56 : decode cX7_edgeDigest 56 = .ok (.lmul, 1) := by decide +kernel
theorem dX7_edgeDigest_57 : decode cX7_edgeDigest 57 = .ok (.aload_n 0, 1) := by decide +kernel
theorem dX7_edgeDigest_58 : decode cX7_edgeDigest 58 = .ok (.iload_n 3, 1) := by decide +kernel
theorem dX7_edgeDigest_59 : decode cX7_edgeDigest 59 = .ok (.iconst 1, 1) := by decide +kernel
theorem dX7_edgeDigest_60 : decode cX7_edgeDigest 60 = .ok (.invokevirtual 188, 3) := by decide +kernel
theorem dX7_edgeDigest_63 : decode cX7_edgeDigest 63 = .ok (.ladd, 1) := by decide +kernel
theorem dX7_edgeDigest_64 : decode cX7_edgeDigest 64 = .ok (.lreturn, 1) := by decide +kernel
theorem dX7_gateDigest_0 : decode cX7_gateDigest 0 = .ok (.lload_n 1, 1) := by decide +kernel
theorem dX7_gateDigest_1 : decode cX7_gateDigest 1 = .ok (.lstore 4, 2) := by decide +kernel
theorem dX7_gateDigest_3 : decode cX7_gateDigest 3 = .ok (.iconst 0, 1) := by decide +kernel
theorem dX7_gateDigest_4 : decode cX7_gateDigest 4 = .ok (.istore 6, 2) := by decide +kernel
theorem dX7_gateDigest_6 : decode cX7_gateDigest 6 = .ok (.iload 6, 2) := by decide +kernel
theorem dX7_gateDigest_8 : decode cX7_gateDigest 8 = .ok (.iconst 3, 1) := by decide +kernel
theorem dX7_gateDigest_9 : decode cX7_gateDigest 9 = .ok (.if_icmp .ge 26, 3) := by decide +kernel
theorem dX7_gateDigest_12 : decode cX7_gateDigest 12 = .ok (.ldc2_w 311, 3) := by decide +kernel
theorem dX7_gateDigest_15 : decode cX7_gateDigest 15 = .ok (.lload 4, 2) := by decide +kernel
theorem dX7_gateDigest_17 : decode cX7_gateDigest 17 = .ok (.lmul, 1) := by decide +kernel
theorem dX7_gateDigest_18 : decode cX7_gateDigest 18 = .ok (.aload_n 0, 1) := by decide +kernel
theorem dX7_gateDigest_19 : decode cX7_gateDigest 19 = .ok (.iload_n 3, 1) := by decide +kernel
theorem dX7_gateDigest_20 : decode cX7_gateDigest 20 = .ok (.iload 6, 2) := by decide +kernel
theorem dX7_gateDigest_22 : decode cX7_gateDigest 22 = .ok (.invokevirtual 209, 3) := by decide +kernel
theorem dX7_gateDigest_25 : decode cX7_gateDigest 25 = .ok (.i2l, 1) := by decide +kernel
theorem dX7_gateDigest_26 : decode cX7_gateDigest 26 = .ok (.ladd, 1) := by decide +kernel
theorem dX7_gateDigest_27 : decode cX7_gateDigest 27 = .ok (.lstore 4, 2) := by decide +kernel
theorem dX7_gateDigest_29 : decode cX7_gateDigest 29 = .ok (.iinc 6 1, 3) := by decide +kernel
theorem dX7_gateDigest_32 : decode cX7_gateDigest 32 = .ok (.goto (-26), 3) := by decide +kernel
theorem dX7_gateDigest_35 : decode cX7_gateDigest 35 = .ok (.iconst 0, 1) := by decide +kernel
theorem dX7_gateDigest_36 : decode cX7_gateDigest 36 = .ok (.istore 6, 2) := by decide +kernel
theorem dX7_gateDigest_38 : decode cX7_gateDigest 38 = .ok (.iload 6, 2) := by decide +kernel
theorem dX7_gateDigest_40 : decode cX7_gateDigest 40 = .ok (.iconst 4, 1) := by decide +kernel
theorem dX7_gateDigest_41 : decode cX7_gateDigest 41 = .ok (.if_icmp .ge 43, 3) := by decide +kernel
theorem dX7_gateDigest_44 : decode cX7_gateDigest 44 = .ok (.ldc2_w 311, 3) := by decide +kernel
theorem dX7_gateDigest_47 : decode cX7_gateDigest 47 = .ok (.lload 4, 2) := by decide +kernel
theorem dX7_gateDigest_49 : decode cX7_gateDigest 49 = .ok (.lmul, 1) := by decide +kernel
theorem dX7_gateDigest_50 : decode cX7_gateDigest 50 = .ok (.aload_n 0, 1) := by decide +kernel
theorem dX7_gateDigest_51 : decode cX7_gateDigest 51 = .ok (.iload_n 3, 1) := by decide +kernel
theorem dX7_gateDigest_52 : decode cX7_gateDigest 52 = .ok (.iload 6, 2) := by decide +kernel
theorem dX7_gateDigest_54 : decode cX7_gateDigest 54 = .ok (.iconst 0, 1) := by decide +kernel
theorem dX7_gateDigest_55 : decode cX7_gateDigest 55 = .ok (.invokevirtual 212, 3) := by decide +kernel
theorem dX7_gateDigest_58 : decode cX7_gateDigest 58 = .ok (.ladd, 1) := by decide +kernel
theorem dX7_gateDigest_59 : decode cX7_gateDigest 59 = .ok (.lstore 4, 2) := by decide +kernel
theorem dX7_gateDigest_61 : decode cX7_gateDigest 61 = .ok (.ldc2_w 311, 3) := by decide +kernel
theorem dX7_gateDigest_64 : decode cX7_gateDigest 64 = .ok (.lload 4, 2) := by decide +kernel
theorem dX7_gateDigest_66 : decode cX7_gateDigest 66 = .ok (.lmul, 1) := by decide +kernel
theorem dX7_gateDigest_67 : decode cX7_gateDigest 67 = .ok (.aload_n 0, 1) := by decide +kernel
theorem dX7_gateDigest_68 : decode cX7_gateDigest 68 = .ok (.iload_n 3, 1) := by decide +kernel
theorem dX7_gateDigest_69 : decode cX7_gateDigest 69 = .ok (.iload 6, 2) := by decide +kernel
theorem dX7_gateDigest_71 : decode cX7_gateDigest 71 = .ok (.iconst 1, 1) := by decide +kernel
theorem dX7_gateDigest_72 : decode cX7_gateDigest 72 = .ok (.invokevirtual 212, 3) := by decide +kernel
theorem dX7_gateDigest_75 : decode cX7_gateDigest 75 = .ok (.ladd, 1) := by decide +kernel
theorem dX7_gateDigest_76 : decode cX7_gateDigest 76 = .ok (.lstore 4, 2) := by decide +kernel
theorem dX7_gateDigest_78 : decode cX7_gateDigest 78 = .ok (.iinc 6 1, 3) := by decide +kernel
theorem dX7_gateDigest_81 : decode cX7_gateDigest 81 = .ok (.goto (-43), 3) := by decide +kernel
theorem dX7_gateDigest_84 : decode cX7_gateDigest 84 = .ok (.ldc2_w 311, 3) := by decide +kernel
theorem dX7_gateDigest_87 : decode cX7_gateDigest 87 = .ok (.lload 4, 2) := by decide +kernel
theorem dX7_gateDigest_89 : decode cX7_gateDigest 89 = .ok (.lmul, 1) := by decide +kernel
theorem dX7_gateDigest_90 : decode cX7_gateDigest 90 = .ok (.aload_n 0, 1) := by decide +kernel
theorem dX7_gateDigest_91 : decode cX7_gateDigest 91 = .ok (.iload_n 3, 1) := by decide +kernel
theorem dX7_gateDigest_92 : decode cX7_gateDigest 92 = .ok (.invokevirtual 220, 3) := by decide +kernel
theorem dX7_gateDigest_95 : decode cX7_gateDigest 95 = .ok (.i2l, 1) := by decide +kernel
theorem dX7_gateDigest_96 : decode cX7_gateDigest 96 = .ok (.ladd, 1) := by decide +kernel
theorem dX7_gateDigest_97 : decode cX7_gateDigest 97 = .ok (.lreturn, 1) := by decide +kernel
theorem dX7_chainDigest_0 : decode cX7_chainDigest 0 = .ok (.ldc2_w 311, 3) := by decide +kernel
theorem dX7_chainDigest_3 : decode cX7_chainDigest 3 = .ok (.lload_n 1, 1) := by decide +kernel
theorem dX7_chainDigest_4 : decode cX7_chainDigest 4 = .ok (.lmul, 1) := by decide +kernel
theorem dX7_chainDigest_5 : decode cX7_chainDigest 5 = .ok (.aload_n 0, 1) := by decide +kernel
theorem dX7_chainDigest_6 : decode cX7_chainDigest 6 = .ok (.iconst 3, 1) := by decide +kernel
theorem dX7_chainDigest_7 : decode cX7_chainDigest 7 = .ok (.iconst 0, 1) := by decide +kernel
theorem dX7_chainDigest_8 : decode cX7_chainDigest 8 = .ok (.iconst 3, 1) := by decide +kernel
theorem dX7_chainDigest_9 : decode cX7_chainDigest 9 = .ok (.invokevirtual 226, 3) := by decide +kernel
theorem dX7_chainDigest_12 : decode cX7_chainDigest 12 = .ok (.i2l, 1) := by decide +kernel
theorem dX7_chainDigest_13 : decode cX7_chainDigest 13 = .ok (.ladd, 1) := by decide +kernel
theorem dX7_chainDigest_14 : decode cX7_chainDigest 14 = .ok (.lstore_n 3, 1) := by decide +kernel
theorem dX7_chainDigest_15 : decode cX7_chainDigest 15 = .ok (.ldc2_w 311, 3) := by decide +kernel
theorem dX7_chainDigest_18 : decode cX7_chainDigest 18 = .ok (.lload_n 3, 1) := by decide +kernel
theorem dX7_chainDigest_19 : decode cX7_chainDigest 19 = .ok (.lmul, 1) := by decide +kernel
theorem dX7_chainDigest_20 : decode cX7_chainDigest 20 = .ok (.aload_n 0, 1) := by decide +kernel
theorem dX7_chainDigest_21 : decode cX7_chainDigest 21 = .ok (.iconst 3, 1) := by decide +kernel
theorem dX7_chainDigest_22 : decode cX7_chainDigest 22 = .ok (.iconst 0, 1) := by decide +kernel
theorem dX7_chainDigest_23 : decode cX7_chainDigest 23 = .ok (.iconst 4, 1) := by decide +kernel
theorem dX7_chainDigest_24 : decode cX7_chainDigest 24 = .ok (.invokevirtual 226, 3) := by decide +kernel
theorem dX7_chainDigest_27 : decode cX7_chainDigest 27 = .ok (.i2l, 1) := by decide +kernel
theorem dX7_chainDigest_28 : decode cX7_chainDigest 28 = .ok (.ladd, 1) := by decide +kernel
theorem dX7_chainDigest_29 : decode cX7_chainDigest 29 = .ok (.lstore_n 3, 1) := by decide +kernel
theorem dX7_chainDigest_30 : decode cX7_chainDigest 30 = .ok (.iconst 0, 1) := by decide +kernel
theorem dX7_chainDigest_31 : decode cX7_chainDigest 31 = .ok (.istore 5, 2) := by decide +kernel
theorem dX7_chainDigest_33 : decode cX7_chainDigest 33 = .ok (.iload 5, 2) := by decide +kernel
theorem dX7_chainDigest_35 : decode cX7_chainDigest 35 = .ok (.iconst 5, 1) := by decide +kernel
theorem dX7_chainDigest_36 : decode cX7_chainDigest 36 = .ok (.if_icmp .ge 26, 3) := by decide +kernel
theorem dX7_chainDigest_39 : decode cX7_chainDigest 39 = .ok (.ldc2_w 311, 3) := by decide +kernel
theorem dX7_chainDigest_42 : decode cX7_chainDigest 42 = .ok (.lload_n 3, 1) := by decide +kernel
theorem dX7_chainDigest_43 : decode cX7_chainDigest 43 = .ok (.lmul, 1) := by decide +kernel
theorem dX7_chainDigest_44 : decode cX7_chainDigest 44 = .ok (.aload_n 0, 1) := by decide +kernel
theorem dX7_chainDigest_45 : decode cX7_chainDigest 45 = .ok (.bipush 7, 2) := by decide +kernel
theorem dX7_chainDigest_47 : decode cX7_chainDigest 47 = .ok (.iconst 1, 1) := by decide +kernel
theorem dX7_chainDigest_48 : decode cX7_chainDigest 48 = .ok (.iload 5, 2) := by decide +kernel
theorem dX7_chainDigest_50 : decode cX7_chainDigest 50 = .ok (.invokevirtual 226, 3) := by decide +kernel
theorem dX7_chainDigest_53 : decode cX7_chainDigest 53 = .ok (.i2l, 1) := by decide +kernel
theorem dX7_chainDigest_54 : decode cX7_chainDigest 54 = .ok (.ladd, 1) := by decide +kernel
theorem dX7_chainDigest_55 : decode cX7_chainDigest 55 = .ok (.lstore_n 3, 1) := by decide +kernel
theorem dX7_chainDigest_56 : decode cX7_chainDigest 56 = .ok (.iinc 5 1, 3) := by decide +kernel
theorem dX7_chainDigest_59 : decode cX7_chainDigest 59 = .ok (.goto (-26), 3) := by decide +kernel
theorem dX7_chainDigest_62 : decode cX7_chainDigest 62 = .ok (.aload_n 0, 1) := by decide +kernel
theorem dX7_chainDigest_63 : decode cX7_chainDigest 63 = .ok (.getfield 81, 3) := by decide +kernel
theorem dX7_chainDigest_66 : decode cX7_chainDigest 66 = .ok (.iconst 1, 1) := by decide +kernel
theorem dX7_chainDigest_67 : decode cX7_chainDigest 67 = .ok (.if_icmp .le 60, 3) := by decide +kernel
theorem dX7_chainDigest_70 : decode cX7_chainDigest 70 = .ok (.ldc2_w 311, 3) := by decide +kernel
theorem dX7_chainDigest_73 : decode cX7_chainDigest 73 = .ok (.lload_n 3, 1) := by decide +kernel
theorem dX7_chainDigest_74 : decode cX7_chainDigest 74 = .ok (.lmul, 1) := by decide +kernel
theorem dX7_chainDigest_75 : decode cX7_chainDigest 75 = .ok (.aload_n 0, 1) := by decide +kernel
theorem dX7_chainDigest_76 : decode cX7_chainDigest 76 = .ok (.iconst 0, 1) := by decide +kernel
theorem dX7_chainDigest_77 : decode cX7_chainDigest 77 = .ok (.aload_n 0, 1) := by decide +kernel
theorem dX7_chainDigest_78 : decode cX7_chainDigest 78 = .ok (.getfield 81, 3) := by decide +kernel
theorem dX7_chainDigest_81 : decode cX7_chainDigest 81 = .ok (.iconst 1, 1) := by decide +kernel
theorem dX7_chainDigest_82 : decode cX7_chainDigest 82 = .ok (.isub, 1) := by decide +kernel
theorem dX7_chainDigest_83 : decode cX7_chainDigest 83 = .ok (.iconst 0, 1) := by decide +kernel
theorem dX7_chainDigest_84 : decode cX7_chainDigest 84 = .ok (.invokevirtual 249, 3) := by decide +kernel
theorem dX7_chainDigest_87 : decode cX7_chainDigest 87 = .ok (.ladd, 1) := by decide +kernel
theorem dX7_chainDigest_88 : decode cX7_chainDigest 88 = .ok (.lstore_n 3, 1) := by decide +kernel
theorem dX7_chainDigest_89 : decode cX7_chainDigest 89 = .ok (.ldc2_w 311, 3) := by decide +kernel
theorem dX7_chainDigest_92 : decode cX7_chainDigest 92 = .ok (.lload_n 3, 1) := by decide +kernel
theorem dX7_chainDigest_93 : decode cX7_chainDigest 93 = .ok (.lmul, 1) := by decide +kernel
theorem dX7_chainDigest_94 : decode cX7_chainDigest 94 = .ok (.aload_n 0, 1) := by decide +kernel
theorem dX7_chainDigest_95 : decode cX7_chainDigest 95 = .ok (.iconst 0, 1) := by decide +kernel
theorem dX7_chainDigest_96 : decode cX7_chainDigest 96 = .ok (.aload_n 0, 1) := by decide +kernel
theorem dX7_chainDigest_97 : decode cX7_chainDigest 97 = .ok (.getfield 81, 3) := by decide +kernel
theorem dX7_chainDigest_100 : decode cX7_chainDigest 100 = .ok (.iconst 1, 1) := by decide +kernel
theorem dX7_chainDigest_101 : decode cX7_chainDigest 101 = .ok (.isub, 1) := by decide +kernel
theorem dX7_chainDigest_102 : decode cX7_chainDigest 102 = .ok (.iconst 1, 1) := by decide +kernel
theorem dX7_chainDigest_103 : decode cX7_chainDigest 103 = .ok (.invokevirtual 249, 3) := by decide +kernel
theorem dX7_chainDigest_106 : decode cX7_chainDigest 106 = .ok (.ladd, 1) := by decide +kernel
theorem dX7_chainDigest_107 : decode cX7_chainDigest 107 = .ok (.lstore_n 3, 1) := by decide +kernel
theorem dX7_chainDigest_108 : decode cX7_chainDigest 108 = .ok (.ldc2_w 311, 3) := by decide +kernel
theorem dX7_chainDigest_111 : decode cX7_chainDigest 111 = .ok (.lload_n 3, 1) := by decide +kernel
theorem dX7_chainDigest_112 : decode cX7_chainDigest 112 = .ok (.lmul, 1) := by decide +kernel
theorem dX7_chainDigest_113 : decode cX7_chainDigest 113 = .ok (.aload_n 0, 1) := by decide +kernel
theorem dX7_chainDigest_114 : decode cX7_chainDigest 114 = .ok (.iconst 0, 1) := by decide +kernel
theorem dX7_chainDigest_115 : decode cX7_chainDigest 115 = .ok (.aload_n 0, 1) := by decide +kernel
theorem dX7_chainDigest_116 : decode cX7_chainDigest 116 = .ok (.getfield 81, 3) := by decide +kernel
theorem dX7_chainDigest_119 : decode cX7_chainDigest 119 = .ok (.iconst 1, 1) := by decide +kernel
theorem dX7_chainDigest_120 : decode cX7_chainDigest 120 = .ok (.isub, 1) := by decide +kernel
theorem dX7_chainDigest_121 : decode cX7_chainDigest 121 = .ok (.invokevirtual 254, 3) := by decide +kernel
theorem dX7_chainDigest_124 : decode cX7_chainDigest 124 = .ok (.i2l, 1) := by decide +kernel
theorem dX7_chainDigest_125 : decode cX7_chainDigest 125 = .ok (.ladd, 1) := by decide +kernel
theorem dX7_chainDigest_126 : decode cX7_chainDigest 126 = .ok (.lstore_n 3, 1) := by decide +kernel
theorem dX7_chainDigest_127 : decode cX7_chainDigest 127 = .ok (.ldc2_w 311, 3) := by decide +kernel
theorem dX7_chainDigest_130 : decode cX7_chainDigest 130 = .ok (.lload_n 3, 1) := by decide +kernel
theorem dX7_chainDigest_131 : decode cX7_chainDigest 131 = .ok (.lmul, 1) := by decide +kernel
theorem dX7_chainDigest_132 : decode cX7_chainDigest 132 = .ok (.iconst 5, 1) := by decide +kernel
theorem dX7_chainDigest_133 : decode cX7_chainDigest 133 = .ok (.iconst 0, 1) := by decide +kernel
theorem dX7_chainDigest_134 : decode cX7_chainDigest 134 = .ok (.invokestatic 257, 3) := by decide +kernel
theorem dX7_chainDigest_137 : decode cX7_chainDigest 137 = .ok (.ladd, 1) := by decide +kernel
theorem dX7_chainDigest_138 : decode cX7_chainDigest 138 = .ok (.lstore_n 3, 1) := by decide +kernel
theorem dX7_chainDigest_139 : decode cX7_chainDigest 139 = .ok (.ldc2_w 311, 3) := by decide +kernel
theorem dX7_chainDigest_142 : decode cX7_chainDigest 142 = .ok (.lload_n 3, 1) := by decide +kernel
theorem dX7_chainDigest_143 : decode cX7_chainDigest 143 = .ok (.lmul, 1) := by decide +kernel
theorem dX7_chainDigest_144 : decode cX7_chainDigest 144 = .ok (.iconst 5, 1) := by decide +kernel
theorem dX7_chainDigest_145 : decode cX7_chainDigest 145 = .ok (.iconst 1, 1) := by decide +kernel
theorem dX7_chainDigest_146 : decode cX7_chainDigest 146 = .ok (.invokestatic 257, 3) := by decide +kernel
theorem dX7_chainDigest_149 : decode cX7_chainDigest 149 = .ok (.ladd, 1) := by decide +kernel
theorem dX7_chainDigest_150 : decode cX7_chainDigest 150 = .ok (.lreturn, 1) := by decide +kernel
theorem dX7_digest_0 : decode cX7_digest 0 = .ok (.ldc2_w 313, 3) := by decide +kernel
theorem dX7_digest_3 : decode cX7_digest 3 = .ok (.lstore_n 1, 1) := by decide +kernel
theorem dX7_digest_4 : decode cX7_digest 4 = .ok (.iconst 0, 1) := by decide +kernel
theorem dX7_digest_5 : decode cX7_digest 5 = .ok (.istore_n 3, 1) := by decide +kernel
theorem dX7_digest_6 : decode cX7_digest 6 = .ok (.iload_n 3, 1) := by decide +kernel
theorem dX7_digest_7 : decode cX7_digest 7 = .ok (.bipush 8, 2) := by decide +kernel
theorem dX7_digest_9 : decode cX7_digest 9 = .ok (.if_icmp .ge 22, 3) := by decide +kernel
theorem dX7_digest_12 : decode cX7_digest 12 = .ok (.ldc2_w 311, 3) := by decide +kernel
theorem dX7_digest_15 : decode cX7_digest 15 = .ok (.lload_n 1, 1) := by decide +kernel
theorem dX7_digest_16 : decode cX7_digest 16 = .ok (.lmul, 1) := by decide +kernel
theorem dX7_digest_17 : decode cX7_digest 17 = .ok (.aload_n 0, 1) := by decide +kernel
theorem dX7_digest_18 : decode cX7_digest 18 = .ok (.iload_n 3, 1) := by decide +kernel
theorem dX7_digest_19 : decode cX7_digest 19 = .ok (.invokevirtual 315, 3) := by decide +kernel
theorem dX7_digest_22 : decode cX7_digest 22 = .ok (.i2l, 1) := by decide +kernel
theorem dX7_digest_23 : decode cX7_digest 23 = .ok (.ladd, 1) := by decide +kernel
theorem dX7_digest_24 : decode cX7_digest 24 = .ok (.lstore_n 1, 1) := by decide +kernel
theorem dX7_digest_25 : decode cX7_digest 25 = .ok (.iinc 3 1, 3) := by decide +kernel
theorem dX7_digest_28 : decode cX7_digest 28 = .ok (.goto (-22), 3) := by decide +kernel
theorem dX7_digest_31 : decode cX7_digest 31 = .ok (.ldc2_w 311, 3) := by decide +kernel
theorem dX7_digest_34 : decode cX7_digest 34 = .ok (.lload_n 1, 1) := by decide +kernel
theorem dX7_digest_35 : decode cX7_digest 35 = .ok (.lmul, 1) := by decide +kernel
theorem dX7_digest_36 : decode cX7_digest 36 = .ok (.aload_n 0, 1) := by decide +kernel
theorem dX7_digest_37 : decode cX7_digest 37 = .ok (.invokevirtual 150, 3) := by decide +kernel
theorem dX7_digest_40 : decode cX7_digest 40 = .ok (.i2l, 1) := by decide +kernel
theorem dX7_digest_41 : decode cX7_digest 41 = .ok (.ladd, 1) := by decide +kernel
theorem dX7_digest_42 : decode cX7_digest 42 = .ok (.lstore_n 1, 1) := by decide +kernel
theorem dX7_digest_43 : decode cX7_digest 43 = .ok (.iconst 0, 1) := by decide +kernel
theorem dX7_digest_44 : decode cX7_digest 44 = .ok (.istore_n 3, 1) := by decide +kernel
theorem dX7_digest_45 : decode cX7_digest 45 = .ok (.iload_n 3, 1) := by decide +kernel
theorem dX7_digest_46 : decode cX7_digest 46 = .ok (.aload_n 0, 1) := by decide +kernel
theorem dX7_digest_47 : decode cX7_digest 47 = .ok (.invokevirtual 107, 3) := by decide +kernel
theorem dX7_digest_50 : decode cX7_digest 50 = .ok (.if_icmp .ge 16, 3) := by decide +kernel
theorem dX7_digest_53 : decode cX7_digest 53 = .ok (.aload_n 0, 1) := by decide +kernel
theorem dX7_digest_54 : decode cX7_digest 54 = .ok (.lload_n 1, 1) := by decide +kernel
theorem dX7_digest_55 : decode cX7_digest 55 = .ok (.iload_n 3, 1) := by decide +kernel
theorem dX7_digest_56 : decode cX7_digest 56 = .ok (.invokevirtual 318, 3) := by decide +kernel
theorem dX7_digest_59 : decode cX7_digest 59 = .ok (.lstore_n 1, 1) := by decide +kernel
theorem dX7_digest_60 : decode cX7_digest 60 = .ok (.iinc 3 1, 3) := by decide +kernel
theorem dX7_digest_63 : decode cX7_digest 63 = .ok (.goto (-18), 3) := by decide +kernel
theorem dX7_digest_66 : decode cX7_digest 66 = .ok (.ldc2_w 311, 3) := by decide +kernel
theorem dX7_digest_69 : decode cX7_digest 69 = .ok (.lload_n 1, 1) := by decide +kernel
theorem dX7_digest_70 : decode cX7_digest 70 = .ok (.lmul, 1) := by decide +kernel
theorem dX7_digest_71 : decode cX7_digest 71 = .ok (.aload_n 0, 1) := by decide +kernel
theorem dX7_digest_72 : decode cX7_digest 72 = .ok (.invokevirtual 140, 3) := by decide +kernel
theorem dX7_digest_75 : decode cX7_digest 75 = .ok (.i2l, 1) := by decide +kernel
theorem dX7_digest_76 : decode cX7_digest 76 = .ok (.ladd, 1) := by decide +kernel
theorem dX7_digest_77 : decode cX7_digest 77 = .ok (.lstore_n 1, 1) := by decide +kernel
theorem dX7_digest_78 : decode cX7_digest 78 = .ok (.iconst 0, 1) := by decide +kernel
theorem dX7_digest_79 : decode cX7_digest 79 = .ok (.istore_n 3, 1) := by decide +kernel
theorem dX7_digest_80 : decode cX7_digest 80 = .ok (.iload_n 3, 1) := by decide +kernel
theorem dX7_digest_81 : decode cX7_digest 81 = .ok (.aload_n 0, 1) := by decide +kernel
theorem dX7_digest_82 : decode cX7_digest 82 = .ok (.getfield 81, 3) := by decide +kernel
theorem dX7_digest_85 : decode cX7_digest 85 = .ok (.if_icmp .ge 16, 3) := by decide +kernel
theorem dX7_digest_88 : decode cX7_digest 88 = .ok (.aload_n 0, 1) := by decide +kernel
theorem dX7_digest_89 : decode cX7_digest 89 = .ok (.lload_n 1, 1) := by decide +kernel
theorem dX7_digest_90 : decode cX7_digest 90 = .ok (.iload_n 3, 1) := by decide +kernel
theorem dX7_digest_91 : decode cX7_digest 91 = .ok (.invokevirtual 322, 3) := by decide +kernel
theorem dX7_digest_94 : decode cX7_digest 94 = .ok (.lstore_n 1, 1) := by decide +kernel
theorem dX7_digest_95 : decode cX7_digest 95 = .ok (.iinc 3 1, 3) := by decide +kernel
theorem dX7_digest_98 : decode cX7_digest 98 = .ok (.goto (-18), 3) := by decide +kernel
theorem dX7_digest_101 : decode cX7_digest 101 = .ok (.ldc2_w 311, 3) := by decide +kernel
theorem dX7_digest_104 : decode cX7_digest 104 = .ok (.lload_n 1, 1) := by decide +kernel
theorem dX7_digest_105 : decode cX7_digest 105 = .ok (.lmul, 1) := by decide +kernel
theorem dX7_digest_106 : decode cX7_digest 106 = .ok (.aload_n 0, 1) := by decide +kernel
theorem dX7_digest_107 : decode cX7_digest 107 = .ok (.iconst 0, 1) := by decide +kernel
theorem dX7_digest_108 : decode cX7_digest 108 = .ok (.invokevirtual 191, 3) := by decide +kernel
theorem dX7_digest_111 : decode cX7_digest 111 = .ok (.ladd, 1) := by decide +kernel
theorem dX7_digest_112 : decode cX7_digest 112 = .ok (.lstore_n 1, 1) := by decide +kernel
theorem dX7_digest_113 : decode cX7_digest 113 = .ok (.ldc2_w 311, 3) := by decide +kernel
theorem dX7_digest_116 : decode cX7_digest 116 = .ok (.lload_n 1, 1) := by decide +kernel
theorem dX7_digest_117 : decode cX7_digest 117 = .ok (.lmul, 1) := by decide +kernel
theorem dX7_digest_118 : decode cX7_digest 118 = .ok (.aload_n 0, 1) := by decide +kernel
theorem dX7_digest_119 : decode cX7_digest 119 = .ok (.iconst 1, 1) := by decide +kernel
theorem dX7_digest_120 : decode cX7_digest 120 = .ok (.invokevirtual 191, 3) := by decide +kernel
theorem dX7_digest_123 : decode cX7_digest 123 = .ok (.ladd, 1) := by decide +kernel
theorem dX7_digest_124 : decode cX7_digest 124 = .ok (.lstore_n 1, 1) := by decide +kernel
theorem dX7_digest_125 : decode cX7_digest 125 = .ok (.iconst 0, 1) := by decide +kernel
theorem dX7_digest_126 : decode cX7_digest 126 = .ok (.istore_n 3, 1) := by decide +kernel
theorem dX7_digest_127 : decode cX7_digest 127 = .ok (.iload_n 3, 1) := by decide +kernel
theorem dX7_digest_128 : decode cX7_digest 128 = .ok (.aload_n 0, 1) := by decide +kernel
theorem dX7_digest_129 : decode cX7_digest 129 = .ok (.getfield 194, 3) := by decide +kernel
theorem dX7_digest_132 : decode cX7_digest 132 = .ok (.if_icmp .ge 16, 3) := by decide +kernel
theorem dX7_digest_135 : decode cX7_digest 135 = .ok (.aload_n 0, 1) := by decide +kernel
theorem dX7_digest_136 : decode cX7_digest 136 = .ok (.lload_n 1, 1) := by decide +kernel
theorem dX7_digest_137 : decode cX7_digest 137 = .ok (.iload_n 3, 1) := by decide +kernel
theorem dX7_digest_138 : decode cX7_digest 138 = .ok (.invokevirtual 325, 3) := by decide +kernel
theorem dX7_digest_141 : decode cX7_digest 141 = .ok (.lstore_n 1, 1) := by decide +kernel
theorem dX7_digest_142 : decode cX7_digest 142 = .ok (.iinc 3 1, 3) := by decide +kernel
theorem dX7_digest_145 : decode cX7_digest 145 = .ok (.goto (-18), 3) := by decide +kernel
theorem dX7_digest_148 : decode cX7_digest 148 = .ok (.aload_n 0, 1) := by decide +kernel
theorem dX7_digest_149 : decode cX7_digest 149 = .ok (.lload_n 1, 1) := by decide +kernel
theorem dX7_digest_150 : decode cX7_digest 150 = .ok (.invokevirtual 328, 3) := by decide +kernel
theorem dX7_digest_153 : decode cX7_digest 153 = .ok (.lstore_n 1, 1) := by decide +kernel
theorem dX7_digest_154 : decode cX7_digest 154 = .ok (.iconst 1, 1) := by decide +kernel
theorem dX7_digest_155 : decode cX7_digest 155 = .ok (.istore_n 3, 1) := by decide +kernel
theorem dX7_digest_156 : decode cX7_digest 156 = .ok (.iload_n 3, 1) := by decide +kernel
theorem dX7_digest_157 : decode cX7_digest 157 = .ok (.bipush 15, 2) := by decide +kernel
theorem dX7_digest_159 : decode cX7_digest 159 = .ok (.if_icmp .gt 35, 3) := by decide +kernel
theorem dX7_digest_162 : decode cX7_digest 162 = .ok (.ldc2_w 311, 3) := by decide +kernel
theorem dX7_digest_165 : decode cX7_digest 165 = .ok (.lload_n 1, 1) := by decide +kernel
theorem dX7_digest_166 : decode cX7_digest 166 = .ok (.lmul, 1) := by decide +kernel
theorem dX7_digest_167 : decode cX7_digest 167 = .ok (.aload_n 0, 1) := by decide +kernel
theorem dX7_digest_168 : decode cX7_digest 168 = .ok (.iload_n 3, 1) := by decide +kernel
theorem dX7_digest_169 : decode cX7_digest 169 = .ok (.iconst 0, 1) := by decide +kernel
theorem dX7_digest_170 : decode cX7_digest 170 = .ok (.invokevirtual 266, 3) := by decide +kernel
theorem dX7_digest_173 : decode cX7_digest 173 = .ok (.ladd, 1) := by decide +kernel
theorem dX7_digest_174 : decode cX7_digest 174 = .ok (.lstore_n 1, 1) := by decide +kernel
theorem dX7_digest_175 : decode cX7_digest 175 = .ok (.ldc2_w 311, 3) := by decide +kernel
theorem dX7_digest_178 : decode cX7_digest 178 = .ok (.lload_n 1, 1) := by decide +kernel
theorem dX7_digest_179 : decode cX7_digest 179 = .ok (.lmul, 1) := by decide +kernel
theorem dX7_digest_180 : decode cX7_digest 180 = .ok (.aload_n 0, 1) := by decide +kernel
theorem dX7_digest_181 : decode cX7_digest 181 = .ok (.iload_n 3, 1) := by decide +kernel
theorem dX7_digest_182 : decode cX7_digest 182 = .ok (.iconst 1, 1) := by decide +kernel
theorem dX7_digest_183 : decode cX7_digest 183 = .ok (.invokevirtual 266, 3) := by decide +kernel
theorem dX7_digest_186 : decode cX7_digest 186 = .ok (.ladd, 1) := by decide +kernel
theorem dX7_digest_187 : decode cX7_digest 187 = .ok (.lstore_n 1, 1) := by decide +kernel
theorem dX7_digest_188 : decode cX7_digest 188 = .ok (.iinc 3 1, 3) := by decide +kernel
theorem dX7_digest_191 : decode cX7_digest 191 = .ok (.goto (-35), 3) := by decide +kernel
theorem dX7_digest_194 : decode cX7_digest 194 = .ok (.iconst 0, 1) := by decide +kernel
theorem dX7_digest_195 : decode cX7_digest 195 = .ok (.istore_n 3, 1) := by decide +kernel
theorem dX7_digest_196 : decode cX7_digest 196 = .ok (.iload_n 3, 1) := by decide +kernel
theorem dX7_digest_197 : decode cX7_digest 197 = .ok (.aload_n 0, 1) := by decide +kernel
theorem dX7_digest_198 : decode cX7_digest 198 = .ok (.invokevirtual 269, 3) := by decide +kernel
theorem dX7_digest_201 : decode cX7_digest 201 = .ok (.if_icmp .ge 22, 3) := by decide +kernel
theorem dX7_digest_204 : decode cX7_digest 204 = .ok (.ldc2_w 311, 3) := by decide +kernel
theorem dX7_digest_207 : decode cX7_digest 207 = .ok (.lload_n 1, 1) := by decide +kernel
theorem dX7_digest_208 : decode cX7_digest 208 = .ok (.lmul, 1) := by decide +kernel
theorem dX7_digest_209 : decode cX7_digest 209 = .ok (.aload_n 0, 1) := by decide +kernel
theorem dX7_digest_210 : decode cX7_digest 210 = .ok (.iload_n 3, 1) := by decide +kernel
theorem dX7_digest_211 : decode cX7_digest 211 = .ok (.invokevirtual 275, 3) := by decide +kernel
theorem dX7_digest_214 : decode cX7_digest 214 = .ok (.i2l, 1) := by decide +kernel
theorem dX7_digest_215 : decode cX7_digest 215 = .ok (.ladd, 1) := by decide +kernel
theorem dX7_digest_216 : decode cX7_digest 216 = .ok (.lstore_n 1, 1) := by decide +kernel
theorem dX7_digest_217 : decode cX7_digest 217 = .ok (.iinc 3 1, 3) := by decide +kernel
theorem dX7_digest_220 : decode cX7_digest 220 = .ok (.goto (-24), 3) := by decide +kernel
theorem dX7_digest_223 : decode cX7_digest 223 = .ok (.lload_n 1, 1) := by decide +kernel
theorem dX7_digest_224 : decode cX7_digest 224 = .ok (.lreturn, 1) := by decide +kernel
end
section
theorem dL_law_0 : decode cL_law 0 = .ok (.new 7, 3) := by decide +kernel
theorem dL_law_3 : decode cL_law 3 = .ok (.dup, 1) := by decide +kernel
theorem dL_law_4 : decode cL_law 4 = .ok (.invokespecial 9, 3) := by decide +kernel
theorem dL_law_7 : decode cL_law 7 = .ok (.astore_n 1, 1) := by decide +kernel
theorem dL_law_8 : decode cL_law 8 = .ok (.new 10, 3) := by decide +kernel
theorem dL_law_11 : decode cL_law 11 = .ok (.dup, 1) := by decide +kernel
theorem dL_law_12 : decode cL_law 12 = .ok (.invokespecial 12, 3) := by decide +kernel
theorem dL_law_15 : decode cL_law 15 = .ok (.astore_n 2, 1) := by decide +kernel
theorem dL_law_16 : decode cL_law 16 = .ok (.iconst 0, 1) := by decide +kernel
theorem dL_law_17 : decode cL_law 17 = .ok (.istore_n 3, 1) := by decide +kernel
theorem dL_law_18 : decode cL_law 18 = .ok (.iload_n 3, 1) := by decide +kernel
theorem dL_law_19 : decode cL_law 19 = .ok (.aload_n 0, 1) := by decide +kernel
theorem dL_law_20 : decode cL_law 20 = .ok (.arraylength, 1) := by decide +kernel
theorem dL_law_21 : decode cL_law 21 = .ok (.bipush 6, 2) := by decide +kernel
theorem dL_law_23 : decode cL_law 23 = .ok (.isub, 1) := by decide +kernel
theorem dL_law_24 : decode cL_law 24 = .ok (.if_icmp .gt 1359, 3) := by decide +kernel
theorem dL_law_27 : decode cL_law 27 = .ok (.aload_n 0, 1) := by decide +kernel
theorem dL_law_28 : decode cL_law 28 = .ok (.iload_n 3, 1) := by decide +kernel
theorem dL_law_29 : decode cL_law 29 = .ok (.iaload, 1) := by decide +kernel
theorem dL_law_30 : decode cL_law 30 = .ok (.bipush 63, 2) := by decide +kernel
theorem dL_law_32 : decode cL_law 32 = .ok (.iand, 1) := by decide +kernel
theorem dL_law_33 : decode cL_law 33 = .ok (.tableswitch 1344 0 39 #[175, 198, 241, 264, 277, 300, 333, 366, 379, 412, 446, 459, 482, 495, 508, 531, 554, 587, 621, 645, 678, 691, 724, 768, 791, 834, 878, 911, 945, 979, 1002, 1045, 1068, 1121, 1154, 1188, 1251, 1274, 1307, 1330], 175) := by decide +kernel
theorem dL_law_208 : decode cL_law 208 = .ok (.aload_n 1, 1) := by decide +kernel
theorem dL_law_209 : decode cL_law 209 = .ok (.aload_n 0, 1) := by decide +kernel
theorem dL_law_210 : decode cL_law 210 = .ok (.iload_n 3, 1) := by decide +kernel
theorem dL_law_211 : decode cL_law 211 = .ok (.iconst 1, 1) := by decide +kernel
theorem dL_law_212 : decode cL_law 212 = .ok (.iadd, 1) := by decide +kernel
theorem dL_law_213 : decode cL_law 213 = .ok (.iaload, 1) := by decide +kernel
theorem dL_law_214 : decode cL_law 214 = .ok (.invokevirtual 13, 3) := by decide +kernel
theorem dL_law_217 : decode cL_law 217 = .ok (.aload_n 2, 1) := by decide +kernel
theorem dL_law_218 : decode cL_law 218 = .ok (.aload_n 0, 1) := by decide +kernel
theorem dL_law_219 : decode cL_law 219 = .ok (.iload_n 3, 1) := by decide +kernel
theorem dL_law_220 : decode cL_law 220 = .ok (.iconst 1, 1) := by decide +kernel
theorem dL_law_221 : decode cL_law 221 = .ok (.iadd, 1) := by decide +kernel
theorem dL_law_222 : decode cL_law 222 = .ok (.iaload, 1) := by decide +kernel
theorem dL_law_223 : decode cL_law 223 = .ok (.invokevirtual 17, 3) := by decide +kernel
theorem dL_law_226 : decode cL_law 226 = .ok (.if_icmp .eq 1151, 3) := by decide +kernel
theorem dL_law_229 : decode cL_law 229 = .ok (.iconst 0, 1) := by decide +kernel
theorem dL_law_230 : decode cL_law 230 = .ok (.ireturn, 1) := by decide +kernel
theorem dL_law_231 : decode cL_law 231 = .ok (.aload_n 1, 1) := by decide +kernel
theorem dL_law_232 : decode cL_law 232 = .ok (.aload_n 0, 1) := by decide +kernel
theorem dL_law_233 : decode cL_law 233 = .ok (.iload_n 3, 1) := by decide +kernel
theorem dL_law_234 : decode cL_law 234 = .ok (.iconst 1, 1) := by decide +kernel
theorem dL_law_235 : decode cL_law 235 = .ok (.iadd, 1) := by decide +kernel
theorem dL_law_236 : decode cL_law 236 = .ok (.iaload, 1) := by decide +kernel
theorem dL_law_237 : decode cL_law 237 = .ok (.aload_n 0, 1) := by decide +kernel
theorem dL_law_238 : decode cL_law 238 = .ok (.iload_n 3, 1) := by decide +kernel
theorem dL_law_239 : decode cL_law 239 = .ok (.iconst 2, 1) := by decide +kernel
theorem dL_law_240 : decode cL_law 240 = .ok (.iadd, 1) := by decide +kernel
theorem dL_law_241 : decode cL_law 241 = .ok (.iaload, 1) := by decide +kernel
theorem dL_law_242 : decode cL_law 242 = .ok (.aload_n 0, 1) := by decide +kernel
theorem dL_law_243 : decode cL_law 243 = .ok (.iload_n 3, 1) := by decide +kernel
theorem dL_law_244 : decode cL_law 244 = .ok (.iconst 3, 1) := by decide +kernel
theorem dL_law_245 : decode cL_law 245 = .ok (.iadd, 1) := by decide +kernel
theorem dL_law_246 : decode cL_law 246 = .ok (.iaload, 1) := by decide +kernel
theorem dL_law_247 : decode cL_law 247 = .ok (.invokevirtual 18, 3) := by decide +kernel
theorem dL_law_250 : decode cL_law 250 = .ok (.aload_n 2, 1) := by decide +kernel
theorem dL_law_251 : decode cL_law 251 = .ok (.aload_n 0, 1) := by decide +kernel
theorem dL_law_252 : decode cL_law 252 = .ok (.iload_n 3, 1) := by decide +kernel
theorem dL_law_253 : decode cL_law 253 = .ok (.iconst 1, 1) := by decide +kernel
theorem dL_law_254 : decode cL_law 254 = .ok (.iadd, 1) := by decide +kernel
theorem dL_law_255 : decode cL_law 255 = .ok (.iaload, 1) := by decide +kernel
theorem dL_law_256 : decode cL_law 256 = .ok (.aload_n 0, 1) := by decide +kernel
theorem dL_law_257 : decode cL_law 257 = .ok (.iload_n 3, 1) := by decide +kernel
theorem dL_law_258 : decode cL_law 258 = .ok (.iconst 2, 1) := by decide +kernel
theorem dL_law_259 : decode cL_law 259 = .ok (.iadd, 1) := by decide +kernel
theorem dL_law_260 : decode cL_law 260 = .ok (.iaload, 1) := by decide +kernel
theorem dL_law_261 : decode cL_law 261 = .ok (.aload_n 0, 1) := by decide +kernel
theorem dL_law_262 : decode cL_law 262 = .ok (.iload_n 3, 1) := by decide +kernel
theorem dL_law_263 : decode cL_law 263 = .ok (.iconst 3, 1) := by decide +kernel
theorem dL_law_264 : decode cL_law 264 = .ok (.iadd, 1) := by decide +kernel
theorem dL_law_265 : decode cL_law 265 = .ok (.iaload, 1) := by decide +kernel
theorem dL_law_266 : decode cL_law 266 = .ok (.invokevirtual 22, 3) := by decide +kernel
theorem dL_law_269 : decode cL_law 269 = .ok (.if_icmp .eq 1108, 3) := by decide +kernel
theorem dL_law_272 : decode cL_law 272 = .ok (.iconst 0, 1) := by decide +kernel
theorem dL_law_273 : decode cL_law 273 = .ok (.ireturn, 1) := by decide +kernel
theorem dL_law_274 : decode cL_law 274 = .ok (.aload_n 1, 1) := by decide +kernel
theorem dL_law_275 : decode cL_law 275 = .ok (.aload_n 0, 1) := by decide +kernel
theorem dL_law_276 : decode cL_law 276 = .ok (.iload_n 3, 1) := by decide +kernel
theorem dL_law_277 : decode cL_law 277 = .ok (.iconst 1, 1) := by decide +kernel
theorem dL_law_278 : decode cL_law 278 = .ok (.iadd, 1) := by decide +kernel
theorem dL_law_279 : decode cL_law 279 = .ok (.iaload, 1) := by decide +kernel
theorem dL_law_280 : decode cL_law 280 = .ok (.invokevirtual 23, 3) := by decide +kernel
theorem dL_law_283 : decode cL_law 283 = .ok (.aload_n 2, 1) := by decide +kernel
theorem dL_law_284 : decode cL_law 284 = .ok (.aload_n 0, 1) := by decide +kernel
theorem dL_law_285 : decode cL_law 285 = .ok (.iload_n 3, 1) := by decide +kernel
theorem dL_law_286 : decode cL_law 286 = .ok (.iconst 1, 1) := by decide +kernel
theorem dL_law_287 : decode cL_law 287 = .ok (.iadd, 1) := by decide +kernel
theorem dL_law_288 : decode cL_law 288 = .ok (.iaload, 1) := by decide +kernel
theorem dL_law_289 : decode cL_law 289 = .ok (.invokevirtual 26, 3) := by decide +kernel
theorem dL_law_292 : decode cL_law 292 = .ok (.if_icmp .eq 1085, 3) := by decide +kernel
theorem dL_law_295 : decode cL_law 295 = .ok (.iconst 0, 1) := by decide +kernel
theorem dL_law_296 : decode cL_law 296 = .ok (.ireturn, 1) := by decide +kernel
theorem dL_law_297 : decode cL_law 297 = .ok (.aload_n 1, 1) := by decide +kernel
theorem dL_law_298 : decode cL_law 298 = .ok (.invokevirtual 27, 3) := by decide +kernel
theorem dL_law_301 : decode cL_law 301 = .ok (.aload_n 2, 1) := by decide +kernel
theorem dL_law_302 : decode cL_law 302 = .ok (.invokevirtual 31, 3) := by decide +kernel
theorem dL_law_305 : decode cL_law 305 = .ok (.if_icmp .eq 1072, 3) := by decide +kernel
theorem dL_law_308 : decode cL_law 308 = .ok (.iconst 0, 1) := by decide +kernel
theorem dL_law_309 : decode cL_law 309 = .ok (.ireturn, 1) := by decide +kernel
theorem dL_law_310 : decode cL_law 310 = .ok (.aload_n 1, 1) := by decide +kernel
theorem dL_law_311 : decode cL_law 311 = .ok (.aload_n 0, 1) := by decide +kernel
theorem dL_law_312 : decode cL_law 312 = .ok (.iload_n 3, 1) := by decide +kernel
theorem dL_law_313 : decode cL_law 313 = .ok (.iconst 1, 1) := by decide +kernel
theorem dL_law_314 : decode cL_law 314 = .ok (.iadd, 1) := by decide +kernel
theorem dL_law_315 : decode cL_law 315 = .ok (.iaload, 1) := by decide +kernel
theorem dL_law_316 : decode cL_law 316 = .ok (.invokevirtual 32, 3) := by decide +kernel
theorem dL_law_319 : decode cL_law 319 = .ok (.aload_n 2, 1) := by decide +kernel
theorem dL_law_320 : decode cL_law 320 = .ok (.aload_n 0, 1) := by decide +kernel
theorem dL_law_321 : decode cL_law 321 = .ok (.iload_n 3, 1) := by decide +kernel
theorem dL_law_322 : decode cL_law 322 = .ok (.iconst 1, 1) := by decide +kernel
theorem dL_law_323 : decode cL_law 323 = .ok (.iadd, 1) := by decide +kernel
theorem dL_law_324 : decode cL_law 324 = .ok (.iaload, 1) := by decide +kernel
theorem dL_law_325 : decode cL_law 325 = .ok (.invokevirtual 35, 3) := by decide +kernel
theorem dL_law_328 : decode cL_law 328 = .ok (.if_icmp .eq 1049, 3) := by decide +kernel
theorem dL_law_331 : decode cL_law 331 = .ok (.iconst 0, 1) := by decide +kernel
theorem dL_law_332 : decode cL_law 332 = .ok (.ireturn, 1) := by decide +kernel
theorem dL_law_333 : decode cL_law 333 = .ok (.aload_n 1, 1) := by decide +kernel
theorem dL_law_334 : decode cL_law 334 = .ok (.aload_n 0, 1) := by decide +kernel
theorem dL_law_335 : decode cL_law 335 = .ok (.iload_n 3, 1) := by decide +kernel
theorem dL_law_336 : decode cL_law 336 = .ok (.iconst 1, 1) := by decide +kernel
theorem dL_law_337 : decode cL_law 337 = .ok (.iadd, 1) := by decide +kernel
theorem dL_law_338 : decode cL_law 338 = .ok (.iaload, 1) := by decide +kernel
theorem dL_law_339 : decode cL_law 339 = .ok (.aload_n 0, 1) := by decide +kernel
theorem dL_law_340 : decode cL_law 340 = .ok (.iload_n 3, 1) := by decide +kernel
theorem dL_law_341 : decode cL_law 341 = .ok (.iconst 2, 1) := by decide +kernel
theorem dL_law_342 : decode cL_law 342 = .ok (.iadd, 1) := by decide +kernel
theorem dL_law_343 : decode cL_law 343 = .ok (.iaload, 1) := by decide +kernel
theorem dL_law_344 : decode cL_law 344 = .ok (.invokevirtual 36, 3) := by decide +kernel
theorem dL_law_347 : decode cL_law 347 = .ok (.aload_n 2, 1) := by decide +kernel
theorem dL_law_348 : decode cL_law 348 = .ok (.aload_n 0, 1) := by decide +kernel
theorem dL_law_349 : decode cL_law 349 = .ok (.iload_n 3, 1) := by decide +kernel
theorem dL_law_350 : decode cL_law 350 = .ok (.iconst 1, 1) := by decide +kernel
theorem dL_law_351 : decode cL_law 351 = .ok (.iadd, 1) := by decide +kernel
theorem dL_law_352 : decode cL_law 352 = .ok (.iaload, 1) := by decide +kernel
theorem dL_law_353 : decode cL_law 353 = .ok (.aload_n 0, 1) := by decide +kernel
theorem dL_law_354 : decode cL_law 354 = .ok (.iload_n 3, 1) := by decide +kernel
theorem dL_law_355 : decode cL_law 355 = .ok (.iconst 2, 1) := by decide +kernel
theorem dL_law_356 : decode cL_law 356 = .ok (.iadd, 1) := by decide +kernel
theorem dL_law_357 : decode cL_law 357 = .ok (.iaload, 1) := by decide +kernel
theorem dL_law_358 : decode cL_law 358 = .ok (.invokevirtual 40, 3) := by decide +kernel
theorem dL_law_361 : decode cL_law 361 = .ok (.if_icmp .eq 1016, 3) := by decide +kernel
theorem dL_law_364 : decode cL_law 364 = .ok (.iconst 0, 1) := by decide +kernel
theorem dL_law_365 : decode cL_law 365 = .ok (.ireturn, 1) := by decide +kernel
theorem dL_law_366 : decode cL_law 366 = .ok (.aload_n 1, 1) := by decide +kernel
theorem dL_law_367 : decode cL_law 367 = .ok (.aload_n 0, 1) := by decide +kernel
theorem dL_law_368 : decode cL_law 368 = .ok (.iload_n 3, 1) := by decide +kernel
theorem dL_law_369 : decode cL_law 369 = .ok (.iconst 1, 1) := by decide +kernel
theorem dL_law_370 : decode cL_law 370 = .ok (.iadd, 1) := by decide +kernel
theorem dL_law_371 : decode cL_law 371 = .ok (.iaload, 1) := by decide +kernel
theorem dL_law_372 : decode cL_law 372 = .ok (.aload_n 0, 1) := by decide +kernel
theorem dL_law_373 : decode cL_law 373 = .ok (.iload_n 3, 1) := by decide +kernel
theorem dL_law_374 : decode cL_law 374 = .ok (.iconst 2, 1) := by decide +kernel
theorem dL_law_375 : decode cL_law 375 = .ok (.iadd, 1) := by decide +kernel
theorem dL_law_376 : decode cL_law 376 = .ok (.iaload, 1) := by decide +kernel
theorem dL_law_377 : decode cL_law 377 = .ok (.invokevirtual 41, 3) := by decide +kernel
theorem dL_law_380 : decode cL_law 380 = .ok (.aload_n 2, 1) := by decide +kernel
theorem dL_law_381 : decode cL_law 381 = .ok (.aload_n 0, 1) := by decide +kernel
theorem dL_law_382 : decode cL_law 382 = .ok (.iload_n 3, 1) := by decide +kernel
theorem dL_law_383 : decode cL_law 383 = .ok (.iconst 1, 1) := by decide +kernel
theorem dL_law_384 : decode cL_law 384 = .ok (.iadd, 1) := by decide +kernel
theorem dL_law_385 : decode cL_law 385 = .ok (.iaload, 1) := by decide +kernel
theorem dL_law_386 : decode cL_law 386 = .ok (.aload_n 0, 1) := by decide +kernel
theorem dL_law_387 : decode cL_law 387 = .ok (.iload_n 3, 1) := by decide +kernel
theorem dL_law_388 : decode cL_law 388 = .ok (.iconst 2, 1) := by decide +kernel
theorem dL_law_389 : decode cL_law 389 = .ok (.iadd, 1) := by decide +kernel
theorem dL_law_390 : decode cL_law 390 = .ok (.iaload, 1) := by decide +kernel
theorem dL_law_391 : decode cL_law 391 = .ok (.invokevirtual 44, 3) := by decide +kernel
theorem dL_law_394 : decode cL_law 394 = .ok (.if_icmp .eq 983, 3) := by decide +kernel
theorem dL_law_397 : decode cL_law 397 = .ok (.iconst 0, 1) := by decide +kernel
theorem dL_law_398 : decode cL_law 398 = .ok (.ireturn, 1) := by decide +kernel
theorem dL_law_399 : decode cL_law 399 = .ok (.aload_n 1, 1) := by decide +kernel
theorem dL_law_400 : decode cL_law 400 = .ok (.invokevirtual 45, 3) := by decide +kernel
theorem dL_law_403 : decode cL_law 403 = .ok (.aload_n 2, 1) := by decide +kernel
theorem dL_law_404 : decode cL_law 404 = .ok (.invokevirtual 48, 3) := by decide +kernel
theorem dL_law_407 : decode cL_law 407 = .ok (.if_icmp .eq 970, 3) := by decide +kernel
theorem dL_law_410 : decode cL_law 410 = .ok (.iconst 0, 1) := by decide +kernel
theorem dL_law_411 : decode cL_law 411 = .ok (.ireturn, 1) := by decide +kernel
theorem dL_law_412 : decode cL_law 412 = .ok (.aload_n 1, 1) := by decide +kernel
theorem dL_law_413 : decode cL_law 413 = .ok (.aload_n 0, 1) := by decide +kernel
theorem dL_law_414 : decode cL_law 414 = .ok (.iload_n 3, 1) := by decide +kernel
theorem dL_law_415 : decode cL_law 415 = .ok (.iconst 1, 1) := by decide +kernel
theorem dL_law_416 : decode cL_law 416 = .ok (.iadd, 1) := by decide +kernel
theorem dL_law_417 : decode cL_law 417 = .ok (.iaload, 1) := by decide +kernel
theorem dL_law_418 : decode cL_law 418 = .ok (.aload_n 0, 1) := by decide +kernel
theorem dL_law_419 : decode cL_law 419 = .ok (.iload_n 3, 1) := by decide +kernel
theorem dL_law_420 : decode cL_law 420 = .ok (.iconst 2, 1) := by decide +kernel
theorem dL_law_421 : decode cL_law 421 = .ok (.iadd, 1) := by decide +kernel
theorem dL_law_422 : decode cL_law 422 = .ok (.iaload, 1) := by decide +kernel
theorem dL_law_423 : decode cL_law 423 = .ok (.invokevirtual 49, 3) := by decide +kernel
theorem dL_law_426 : decode cL_law 426 = .ok (.aload_n 2, 1) := by decide +kernel
theorem dL_law_427 : decode cL_law 427 = .ok (.aload_n 0, 1) := by decide +kernel
theorem dL_law_428 : decode cL_law 428 = .ok (.iload_n 3, 1) := by decide +kernel
theorem dL_law_429 : decode cL_law 429 = .ok (.iconst 1, 1) := by decide +kernel
theorem dL_law_430 : decode cL_law 430 = .ok (.iadd, 1) := by decide +kernel
theorem dL_law_431 : decode cL_law 431 = .ok (.iaload, 1) := by decide +kernel
theorem dL_law_432 : decode cL_law 432 = .ok (.aload_n 0, 1) := by decide +kernel
theorem dL_law_433 : decode cL_law 433 = .ok (.iload_n 3, 1) := by decide +kernel
theorem dL_law_434 : decode cL_law 434 = .ok (.iconst 2, 1) := by decide +kernel
theorem dL_law_435 : decode cL_law 435 = .ok (.iadd, 1) := by decide +kernel
theorem dL_law_436 : decode cL_law 436 = .ok (.iaload, 1) := by decide +kernel
theorem dL_law_437 : decode cL_law 437 = .ok (.invokevirtual 52, 3) := by decide +kernel
theorem dL_law_440 : decode cL_law 440 = .ok (.if_icmp .eq 937, 3) := by decide +kernel
theorem dL_law_443 : decode cL_law 443 = .ok (.iconst 0, 1) := by decide +kernel
theorem dL_law_444 : decode cL_law 444 = .ok (.ireturn, 1) := by decide +kernel
theorem dL_law_445 : decode cL_law 445 = .ok (.aload_n 1, 1) := by decide +kernel
theorem dL_law_446 : decode cL_law 446 = .ok (.aload_n 0, 1) := by decide +kernel
theorem dL_law_447 : decode cL_law 447 = .ok (.iload_n 3, 1) := by decide +kernel
theorem dL_law_448 : decode cL_law 448 = .ok (.iconst 1, 1) := by decide +kernel
theorem dL_law_449 : decode cL_law 449 = .ok (.iadd, 1) := by decide +kernel
theorem dL_law_450 : decode cL_law 450 = .ok (.iaload, 1) := by decide +kernel
theorem dL_law_451 : decode cL_law 451 = .ok (.aload_n 0, 1) := by decide +kernel
theorem dL_law_452 : decode cL_law 452 = .ok (.iload_n 3, 1) := by decide +kernel
theorem dL_law_453 : decode cL_law 453 = .ok (.iconst 2, 1) := by decide +kernel
theorem dL_law_454 : decode cL_law 454 = .ok (.iadd, 1) := by decide +kernel
theorem dL_law_455 : decode cL_law 455 = .ok (.iaload, 1) := by decide +kernel
theorem dL_law_456 : decode cL_law 456 = .ok (.invokevirtual 53, 3) := by decide +kernel
theorem dL_law_459 : decode cL_law 459 = .ok (.aload_n 2, 1) := by decide +kernel
theorem dL_law_460 : decode cL_law 460 = .ok (.aload_n 0, 1) := by decide +kernel
theorem dL_law_461 : decode cL_law 461 = .ok (.iload_n 3, 1) := by decide +kernel
theorem dL_law_462 : decode cL_law 462 = .ok (.iconst 1, 1) := by decide +kernel
theorem dL_law_463 : decode cL_law 463 = .ok (.iadd, 1) := by decide +kernel
theorem dL_law_464 : decode cL_law 464 = .ok (.iaload, 1) := by decide +kernel
theorem dL_law_465 : decode cL_law 465 = .ok (.aload_n 0, 1) := by decide +kernel
theorem dL_law_466 : decode cL_law 466 = .ok (.iload_n 3, 1) := by decide +kernel
theorem dL_law_467 : decode cL_law 467 = .ok (.iconst 2, 1) := by decide +kernel
theorem dL_law_468 : decode cL_law 468 = .ok (.iadd, 1) := by decide +kernel
theorem dL_law_469 : decode cL_law 469 = .ok (.iaload, 1) := by decide +kernel
theorem dL_law_470 : decode cL_law 470 = .ok (.invokevirtual 57, 3) := by decide +kernel
theorem dL_law_473 : decode cL_law 473 = .ok (.lcmp, 1) := by decide +kernel
theorem dL_law_474 : decode cL_law 474 = .ok (.ifCond .eq 903, 3) := by decide +kernel
theorem dL_law_477 : decode cL_law 477 = .ok (.iconst 0, 1) := by decide +kernel
theorem dL_law_478 : decode cL_law 478 = .ok (.ireturn, 1) := by decide +kernel
theorem dL_law_479 : decode cL_law 479 = .ok (.aload_n 1, 1) := by decide +kernel
theorem dL_law_480 : decode cL_law 480 = .ok (.invokevirtual 58, 3) := by decide +kernel
theorem dL_law_483 : decode cL_law 483 = .ok (.aload_n 2, 1) := by decide +kernel
theorem dL_law_484 : decode cL_law 484 = .ok (.invokevirtual 61, 3) := by decide +kernel
theorem dL_law_487 : decode cL_law 487 = .ok (.if_icmp .eq 890, 3) := by decide +kernel
theorem dL_law_490 : decode cL_law 490 = .ok (.iconst 0, 1) := by decide +kernel
theorem dL_law_491 : decode cL_law 491 = .ok (.ireturn, 1) := by decide +kernel
theorem dL_law_492 : decode cL_law 492 = .ok (.aload_n 1, 1) := by decide +kernel
theorem dL_law_493 : decode cL_law 493 = .ok (.aload_n 0, 1) := by decide +kernel
theorem dL_law_494 : decode cL_law 494 = .ok (.iload_n 3, 1) := by decide +kernel
theorem dL_law_495 : decode cL_law 495 = .ok (.iconst 1, 1) := by decide +kernel
theorem dL_law_496 : decode cL_law 496 = .ok (.iadd, 1) := by decide +kernel
theorem dL_law_497 : decode cL_law 497 = .ok (.iaload, 1) := by decide +kernel
theorem dL_law_498 : decode cL_law 498 = .ok (.invokevirtual 62, 3) := by decide +kernel
theorem dL_law_501 : decode cL_law 501 = .ok (.aload_n 2, 1) := by decide +kernel
theorem dL_law_502 : decode cL_law 502 = .ok (.aload_n 0, 1) := by decide +kernel
theorem dL_law_503 : decode cL_law 503 = .ok (.iload_n 3, 1) := by decide +kernel
theorem dL_law_504 : decode cL_law 504 = .ok (.iconst 1, 1) := by decide +kernel
theorem dL_law_505 : decode cL_law 505 = .ok (.iadd, 1) := by decide +kernel
theorem dL_law_506 : decode cL_law 506 = .ok (.iaload, 1) := by decide +kernel
theorem dL_law_507 : decode cL_law 507 = .ok (.invokevirtual 65, 3) := by decide +kernel
theorem dL_law_510 : decode cL_law 510 = .ok (.if_icmp .eq 867, 3) := by decide +kernel
theorem dL_law_513 : decode cL_law 513 = .ok (.iconst 0, 1) := by decide +kernel
theorem dL_law_514 : decode cL_law 514 = .ok (.ireturn, 1) := by decide +kernel
theorem dL_law_515 : decode cL_law 515 = .ok (.aload_n 1, 1) := by decide +kernel
theorem dL_law_516 : decode cL_law 516 = .ok (.invokevirtual 66, 3) := by decide +kernel
theorem dL_law_519 : decode cL_law 519 = .ok (.aload_n 2, 1) := by decide +kernel
theorem dL_law_520 : decode cL_law 520 = .ok (.invokevirtual 69, 3) := by decide +kernel
theorem dL_law_523 : decode cL_law 523 = .ok (.if_icmp .eq 854, 3) := by decide +kernel
theorem dL_law_526 : decode cL_law 526 = .ok (.iconst 0, 1) := by decide +kernel
theorem dL_law_527 : decode cL_law 527 = .ok (.ireturn, 1) := by decide +kernel
theorem dL_law_528 : decode cL_law 528 = .ok (.aload_n 1, 1) := by decide +kernel
theorem dL_law_529 : decode cL_law 529 = .ok (.invokevirtual 70, 3) := by decide +kernel
theorem dL_law_532 : decode cL_law 532 = .ok (.aload_n 2, 1) := by decide +kernel
theorem dL_law_533 : decode cL_law 533 = .ok (.invokevirtual 73, 3) := by decide +kernel
theorem dL_law_536 : decode cL_law 536 = .ok (.if_icmp .eq 841, 3) := by decide +kernel
theorem dL_law_539 : decode cL_law 539 = .ok (.iconst 0, 1) := by decide +kernel
theorem dL_law_540 : decode cL_law 540 = .ok (.ireturn, 1) := by decide +kernel
theorem dL_law_541 : decode cL_law 541 = .ok (.aload_n 1, 1) := by decide +kernel
theorem dL_law_542 : decode cL_law 542 = .ok (.aload_n 0, 1) := by decide +kernel
theorem dL_law_543 : decode cL_law 543 = .ok (.iload_n 3, 1) := by decide +kernel
theorem dL_law_544 : decode cL_law 544 = .ok (.iconst 1, 1) := by decide +kernel
theorem dL_law_545 : decode cL_law 545 = .ok (.iadd, 1) := by decide +kernel
theorem dL_law_546 : decode cL_law 546 = .ok (.iaload, 1) := by decide +kernel
theorem dL_law_547 : decode cL_law 547 = .ok (.invokevirtual 74, 3) := by decide +kernel
theorem dL_law_550 : decode cL_law 550 = .ok (.aload_n 2, 1) := by decide +kernel
theorem dL_law_551 : decode cL_law 551 = .ok (.aload_n 0, 1) := by decide +kernel
theorem dL_law_552 : decode cL_law 552 = .ok (.iload_n 3, 1) := by decide +kernel
theorem dL_law_553 : decode cL_law 553 = .ok (.iconst 1, 1) := by decide +kernel
theorem dL_law_554 : decode cL_law 554 = .ok (.iadd, 1) := by decide +kernel
theorem dL_law_555 : decode cL_law 555 = .ok (.iaload, 1) := by decide +kernel
theorem dL_law_556 : decode cL_law 556 = .ok (.invokevirtual 77, 3) := by decide +kernel
theorem dL_law_559 : decode cL_law 559 = .ok (.if_icmp .eq 818, 3) := by decide +kernel
theorem dL_law_562 : decode cL_law 562 = .ok (.iconst 0, 1) := by decide +kernel
theorem dL_law_563 : decode cL_law 563 = .ok (.ireturn, 1) := by decide +kernel
theorem dL_law_564 : decode cL_law 564 = .ok (.aload_n 1, 1) := by decide +kernel
theorem dL_law_565 : decode cL_law 565 = .ok (.aload_n 0, 1) := by decide +kernel
theorem dL_law_566 : decode cL_law 566 = .ok (.iload_n 3, 1) := by decide +kernel
theorem dL_law_567 : decode cL_law 567 = .ok (.iconst 1, 1) := by decide +kernel
theorem dL_law_568 : decode cL_law 568 = .ok (.iadd, 1) := by decide +kernel
theorem dL_law_569 : decode cL_law 569 = .ok (.iaload, 1) := by decide +kernel
theorem dL_law_570 : decode cL_law 570 = .ok (.invokevirtual 78, 3) := by decide +kernel
theorem dL_law_573 : decode cL_law 573 = .ok (.aload_n 2, 1) := by decide +kernel
theorem dL_law_574 : decode cL_law 574 = .ok (.aload_n 0, 1) := by decide +kernel
theorem dL_law_575 : decode cL_law 575 = .ok (.iload_n 3, 1) := by decide +kernel
theorem dL_law_576 : decode cL_law 576 = .ok (.iconst 1, 1) := by decide +kernel
theorem dL_law_577 : decode cL_law 577 = .ok (.iadd, 1) := by decide +kernel
theorem dL_law_578 : decode cL_law 578 = .ok (.iaload, 1) := by decide +kernel
theorem dL_law_579 : decode cL_law 579 = .ok (.invokevirtual 81, 3) := by decide +kernel
theorem dL_law_582 : decode cL_law 582 = .ok (.if_icmp .eq 795, 3) := by decide +kernel
theorem dL_law_585 : decode cL_law 585 = .ok (.iconst 0, 1) := by decide +kernel
theorem dL_law_586 : decode cL_law 586 = .ok (.ireturn, 1) := by decide +kernel
theorem dL_law_587 : decode cL_law 587 = .ok (.aload_n 1, 1) := by decide +kernel
theorem dL_law_588 : decode cL_law 588 = .ok (.aload_n 0, 1) := by decide +kernel
theorem dL_law_589 : decode cL_law 589 = .ok (.iload_n 3, 1) := by decide +kernel
theorem dL_law_590 : decode cL_law 590 = .ok (.iconst 1, 1) := by decide +kernel
theorem dL_law_591 : decode cL_law 591 = .ok (.iadd, 1) := by decide +kernel
theorem dL_law_592 : decode cL_law 592 = .ok (.iaload, 1) := by decide +kernel
theorem dL_law_593 : decode cL_law 593 = .ok (.aload_n 0, 1) := by decide +kernel
theorem dL_law_594 : decode cL_law 594 = .ok (.iload_n 3, 1) := by decide +kernel
theorem dL_law_595 : decode cL_law 595 = .ok (.iconst 2, 1) := by decide +kernel
theorem dL_law_596 : decode cL_law 596 = .ok (.iadd, 1) := by decide +kernel
theorem dL_law_597 : decode cL_law 597 = .ok (.iaload, 1) := by decide +kernel
theorem dL_law_598 : decode cL_law 598 = .ok (.invokevirtual 82, 3) := by decide +kernel
theorem dL_law_601 : decode cL_law 601 = .ok (.aload_n 2, 1) := by decide +kernel
theorem dL_law_602 : decode cL_law 602 = .ok (.aload_n 0, 1) := by decide +kernel
theorem dL_law_603 : decode cL_law 603 = .ok (.iload_n 3, 1) := by decide +kernel
theorem dL_law_604 : decode cL_law 604 = .ok (.iconst 1, 1) := by decide +kernel
theorem dL_law_605 : decode cL_law 605 = .ok (.iadd, 1) := by decide +kernel
theorem dL_law_606 : decode cL_law 606 = .ok (.iaload, 1) := by decide +kernel
theorem dL_law_607 : decode cL_law 607 = .ok (.aload_n 0, 1) := by decide +kernel
theorem dL_law_608 : decode cL_law 608 = .ok (.iload_n 3, 1) := by decide +kernel
theorem dL_law_609 : decode cL_law 609 = .ok (.iconst 2, 1) := by decide +kernel
theorem dL_law_610 : decode cL_law 610 = .ok (.iadd, 1) := by decide +kernel
theorem dL_law_611 : decode cL_law 611 = .ok (.iaload, 1) := by decide +kernel
theorem dL_law_612 : decode cL_law 612 = .ok (.invokevirtual 85, 3) := by decide +kernel
theorem dL_law_615 : decode cL_law 615 = .ok (.if_icmp .eq 762, 3) := by decide +kernel
theorem dL_law_618 : decode cL_law 618 = .ok (.iconst 0, 1) := by decide +kernel
theorem dL_law_619 : decode cL_law 619 = .ok (.ireturn, 1) := by decide +kernel
theorem dL_law_620 : decode cL_law 620 = .ok (.aload_n 1, 1) := by decide +kernel
theorem dL_law_621 : decode cL_law 621 = .ok (.aload_n 0, 1) := by decide +kernel
theorem dL_law_622 : decode cL_law 622 = .ok (.iload_n 3, 1) := by decide +kernel
theorem dL_law_623 : decode cL_law 623 = .ok (.iconst 1, 1) := by decide +kernel
theorem dL_law_624 : decode cL_law 624 = .ok (.iadd, 1) := by decide +kernel
theorem dL_law_625 : decode cL_law 625 = .ok (.iaload, 1) := by decide +kernel
theorem dL_law_626 : decode cL_law 626 = .ok (.aload_n 0, 1) := by decide +kernel
theorem dL_law_627 : decode cL_law 627 = .ok (.iload_n 3, 1) := by decide +kernel
theorem dL_law_628 : decode cL_law 628 = .ok (.iconst 2, 1) := by decide +kernel
theorem dL_law_629 : decode cL_law 629 = .ok (.iadd, 1) := by decide +kernel
theorem dL_law_630 : decode cL_law 630 = .ok (.iaload, 1) := by decide +kernel
theorem dL_law_631 : decode cL_law 631 = .ok (.invokevirtual 86, 3) := by decide +kernel
theorem dL_law_634 : decode cL_law 634 = .ok (.aload_n 2, 1) := by decide +kernel
theorem dL_law_635 : decode cL_law 635 = .ok (.aload_n 0, 1) := by decide +kernel
theorem dL_law_636 : decode cL_law 636 = .ok (.iload_n 3, 1) := by decide +kernel
theorem dL_law_637 : decode cL_law 637 = .ok (.iconst 1, 1) := by decide +kernel
theorem dL_law_638 : decode cL_law 638 = .ok (.iadd, 1) := by decide +kernel
theorem dL_law_639 : decode cL_law 639 = .ok (.iaload, 1) := by decide +kernel
theorem dL_law_640 : decode cL_law 640 = .ok (.aload_n 0, 1) := by decide +kernel
theorem dL_law_641 : decode cL_law 641 = .ok (.iload_n 3, 1) := by decide +kernel
theorem dL_law_642 : decode cL_law 642 = .ok (.iconst 2, 1) := by decide +kernel
theorem dL_law_643 : decode cL_law 643 = .ok (.iadd, 1) := by decide +kernel
theorem dL_law_644 : decode cL_law 644 = .ok (.iaload, 1) := by decide +kernel
theorem dL_law_645 : decode cL_law 645 = .ok (.invokevirtual 89, 3) := by decide +kernel
theorem dL_law_648 : decode cL_law 648 = .ok (.lcmp, 1) := by decide +kernel
theorem dL_law_649 : decode cL_law 649 = .ok (.ifCond .eq 728, 3) := by decide +kernel
theorem dL_law_652 : decode cL_law 652 = .ok (.iconst 0, 1) := by decide +kernel
theorem dL_law_653 : decode cL_law 653 = .ok (.ireturn, 1) := by decide +kernel
theorem dL_law_654 : decode cL_law 654 = .ok (.aload_n 1, 1) := by decide +kernel
theorem dL_law_655 : decode cL_law 655 = .ok (.aload_n 0, 1) := by decide +kernel
theorem dL_law_656 : decode cL_law 656 = .ok (.iload_n 3, 1) := by decide +kernel
theorem dL_law_657 : decode cL_law 657 = .ok (.iconst 1, 1) := by decide +kernel
theorem dL_law_658 : decode cL_law 658 = .ok (.iadd, 1) := by decide +kernel
theorem dL_law_659 : decode cL_law 659 = .ok (.iaload, 1) := by decide +kernel
theorem dL_law_660 : decode cL_law 660 = .ok (.invokevirtual 90, 3) := by decide +kernel
theorem dL_law_663 : decode cL_law 663 = .ok (.aload_n 2, 1) := by decide +kernel
theorem dL_law_664 : decode cL_law 664 = .ok (.aload_n 0, 1) := by decide +kernel
theorem dL_law_665 : decode cL_law 665 = .ok (.iload_n 3, 1) := by decide +kernel
theorem dL_law_666 : decode cL_law 666 = .ok (.iconst 1, 1) := by decide +kernel
theorem dL_law_667 : decode cL_law 667 = .ok (.iadd, 1) := by decide +kernel
theorem dL_law_668 : decode cL_law 668 = .ok (.iaload, 1) := by decide +kernel
theorem dL_law_669 : decode cL_law 669 = .ok (.invokevirtual 94, 3) := by decide +kernel
theorem dL_law_672 : decode cL_law 672 = .ok (.lcmp, 1) := by decide +kernel
theorem dL_law_673 : decode cL_law 673 = .ok (.ifCond .eq 704, 3) := by decide +kernel
theorem dL_law_676 : decode cL_law 676 = .ok (.iconst 0, 1) := by decide +kernel
theorem dL_law_677 : decode cL_law 677 = .ok (.ireturn, 1) := by decide +kernel
theorem dL_law_678 : decode cL_law 678 = .ok (.aload_n 1, 1) := by decide +kernel
theorem dL_law_679 : decode cL_law 679 = .ok (.aload_n 0, 1) := by decide +kernel
theorem dL_law_680 : decode cL_law 680 = .ok (.iload_n 3, 1) := by decide +kernel
theorem dL_law_681 : decode cL_law 681 = .ok (.iconst 1, 1) := by decide +kernel
theorem dL_law_682 : decode cL_law 682 = .ok (.iadd, 1) := by decide +kernel
theorem dL_law_683 : decode cL_law 683 = .ok (.iaload, 1) := by decide +kernel
theorem dL_law_684 : decode cL_law 684 = .ok (.aload_n 0, 1) := by decide +kernel
theorem dL_law_685 : decode cL_law 685 = .ok (.iload_n 3, 1) := by decide +kernel
theorem dL_law_686 : decode cL_law 686 = .ok (.iconst 2, 1) := by decide +kernel
theorem dL_law_687 : decode cL_law 687 = .ok (.iadd, 1) := by decide +kernel
theorem dL_law_688 : decode cL_law 688 = .ok (.iaload, 1) := by decide +kernel
theorem dL_law_689 : decode cL_law 689 = .ok (.invokevirtual 95, 3) := by decide +kernel
theorem dL_law_692 : decode cL_law 692 = .ok (.aload_n 2, 1) := by decide +kernel
theorem dL_law_693 : decode cL_law 693 = .ok (.aload_n 0, 1) := by decide +kernel
theorem dL_law_694 : decode cL_law 694 = .ok (.iload_n 3, 1) := by decide +kernel
theorem dL_law_695 : decode cL_law 695 = .ok (.iconst 1, 1) := by decide +kernel
theorem dL_law_696 : decode cL_law 696 = .ok (.iadd, 1) := by decide +kernel
theorem dL_law_697 : decode cL_law 697 = .ok (.iaload, 1) := by decide +kernel
theorem dL_law_698 : decode cL_law 698 = .ok (.aload_n 0, 1) := by decide +kernel
theorem dL_law_699 : decode cL_law 699 = .ok (.iload_n 3, 1) := by decide +kernel
theorem dL_law_700 : decode cL_law 700 = .ok (.iconst 2, 1) := by decide +kernel
theorem dL_law_701 : decode cL_law 701 = .ok (.iadd, 1) := by decide +kernel
theorem dL_law_702 : decode cL_law 702 = .ok (.iaload, 1) := by decide +kernel
theorem dL_law_703 : decode cL_law 703 = .ok (.invokevirtual 98, 3) := by decide +kernel
theorem dL_law_706 : decode cL_law 706 = .ok (.if_icmp .eq 671, 3) := by decide +kernel
theorem dL_law_709 : decode cL_law 709 = .ok (.iconst 0, 1) := by decide +kernel
theorem dL_law_710 : decode cL_law 710 = .ok (.ireturn, 1) := by decide +kernel
theorem dL_law_711 : decode cL_law 711 = .ok (.aload_n 1, 1) := by decide +kernel
theorem dL_law_712 : decode cL_law 712 = .ok (.invokevirtual 99, 3) := by decide +kernel
theorem dL_law_715 : decode cL_law 715 = .ok (.aload_n 2, 1) := by decide +kernel
theorem dL_law_716 : decode cL_law 716 = .ok (.invokevirtual 102, 3) := by decide +kernel
theorem dL_law_719 : decode cL_law 719 = .ok (.if_icmp .eq 658, 3) := by decide +kernel
theorem dL_law_722 : decode cL_law 722 = .ok (.iconst 0, 1) := by decide +kernel
theorem dL_law_723 : decode cL_law 723 = .ok (.ireturn, 1) := by decide +kernel
theorem dL_law_724 : decode cL_law 724 = .ok (.aload_n 1, 1) := by decide +kernel
theorem dL_law_725 : decode cL_law 725 = .ok (.aload_n 0, 1) := by decide +kernel
theorem dL_law_726 : decode cL_law 726 = .ok (.iload_n 3, 1) := by decide +kernel
theorem dL_law_727 : decode cL_law 727 = .ok (.iconst 1, 1) := by decide +kernel
theorem dL_law_728 : decode cL_law 728 = .ok (.iadd, 1) := by decide +kernel
theorem dL_law_729 : decode cL_law 729 = .ok (.iaload, 1) := by decide +kernel
theorem dL_law_730 : decode cL_law 730 = .ok (.aload_n 0, 1) := by decide +kernel
theorem dL_law_731 : decode cL_law 731 = .ok (.iload_n 3, 1) := by decide +kernel
theorem dL_law_732 : decode cL_law 732 = .ok (.iconst 2, 1) := by decide +kernel
theorem dL_law_733 : decode cL_law 733 = .ok (.iadd, 1) := by decide +kernel
theorem dL_law_734 : decode cL_law 734 = .ok (.iaload, 1) := by decide +kernel
theorem dL_law_735 : decode cL_law 735 = .ok (.invokevirtual 103, 3) := by decide +kernel
theorem dL_law_738 : decode cL_law 738 = .ok (.aload_n 2, 1) := by decide +kernel
theorem dL_law_739 : decode cL_law 739 = .ok (.aload_n 0, 1) := by decide +kernel
theorem dL_law_740 : decode cL_law 740 = .ok (.iload_n 3, 1) := by decide +kernel
theorem dL_law_741 : decode cL_law 741 = .ok (.iconst 1, 1) := by decide +kernel
theorem dL_law_742 : decode cL_law 742 = .ok (.iadd, 1) := by decide +kernel
theorem dL_law_743 : decode cL_law 743 = .ok (.iaload, 1) := by decide +kernel
theorem dL_law_744 : decode cL_law 744 = .ok (.aload_n 0, 1) := by decide +kernel
theorem dL_law_745 : decode cL_law 745 = .ok (.iload_n 3, 1) := by decide +kernel
theorem dL_law_746 : decode cL_law 746 = .ok (.iconst 2, 1) := by decide +kernel
theorem dL_law_747 : decode cL_law 747 = .ok (.iadd, 1) := by decide +kernel
theorem dL_law_748 : decode cL_law 748 = .ok (.iaload, 1) := by decide +kernel
theorem dL_law_749 : decode cL_law 749 = .ok (.invokevirtual 106, 3) := by decide +kernel
theorem dL_law_752 : decode cL_law 752 = .ok (.if_icmp .eq 625, 3) := by decide +kernel
theorem dL_law_755 : decode cL_law 755 = .ok (.iconst 0, 1) := by decide +kernel
theorem dL_law_756 : decode cL_law 756 = .ok (.ireturn, 1) := by decide +kernel
theorem dL_law_757 : decode cL_law 757 = .ok (.aload_n 1, 1) := by decide +kernel
theorem dL_law_758 : decode cL_law 758 = .ok (.aload_n 0, 1) := by decide +kernel
theorem dL_law_759 : decode cL_law 759 = .ok (.iload_n 3, 1) := by decide +kernel
theorem dL_law_760 : decode cL_law 760 = .ok (.iconst 1, 1) := by decide +kernel
theorem dL_law_761 : decode cL_law 761 = .ok (.iadd, 1) := by decide +kernel
theorem dL_law_762 : decode cL_law 762 = .ok (.iaload, 1) := by decide +kernel
theorem dL_law_763 : decode cL_law 763 = .ok (.aload_n 0, 1) := by decide +kernel
theorem dL_law_764 : decode cL_law 764 = .ok (.iload_n 3, 1) := by decide +kernel
theorem dL_law_765 : decode cL_law 765 = .ok (.iconst 2, 1) := by decide +kernel
theorem dL_law_766 : decode cL_law 766 = .ok (.iadd, 1) := by decide +kernel
theorem dL_law_767 : decode cL_law 767 = .ok (.iaload, 1) := by decide +kernel
theorem dL_law_768 : decode cL_law 768 = .ok (.aload_n 0, 1) := by decide +kernel
theorem dL_law_769 : decode cL_law 769 = .ok (.iload_n 3, 1) := by decide +kernel
theorem dL_law_770 : decode cL_law 770 = .ok (.iconst 3, 1) := by decide +kernel
theorem dL_law_771 : decode cL_law 771 = .ok (.iadd, 1) := by decide +kernel
theorem dL_law_772 : decode cL_law 772 = .ok (.iaload, 1) := by decide +kernel
theorem dL_law_773 : decode cL_law 773 = .ok (.invokevirtual 107, 3) := by decide +kernel
theorem dL_law_776 : decode cL_law 776 = .ok (.aload_n 2, 1) := by decide +kernel
theorem dL_law_777 : decode cL_law 777 = .ok (.aload_n 0, 1) := by decide +kernel
theorem dL_law_778 : decode cL_law 778 = .ok (.iload_n 3, 1) := by decide +kernel
theorem dL_law_779 : decode cL_law 779 = .ok (.iconst 1, 1) := by decide +kernel
theorem dL_law_780 : decode cL_law 780 = .ok (.iadd, 1) := by decide +kernel
theorem dL_law_781 : decode cL_law 781 = .ok (.iaload, 1) := by decide +kernel
theorem dL_law_782 : decode cL_law 782 = .ok (.aload_n 0, 1) := by decide +kernel
theorem dL_law_783 : decode cL_law 783 = .ok (.iload_n 3, 1) := by decide +kernel
theorem dL_law_784 : decode cL_law 784 = .ok (.iconst 2, 1) := by decide +kernel
theorem dL_law_785 : decode cL_law 785 = .ok (.iadd, 1) := by decide +kernel
theorem dL_law_786 : decode cL_law 786 = .ok (.iaload, 1) := by decide +kernel
theorem dL_law_787 : decode cL_law 787 = .ok (.aload_n 0, 1) := by decide +kernel
theorem dL_law_788 : decode cL_law 788 = .ok (.iload_n 3, 1) := by decide +kernel
theorem dL_law_789 : decode cL_law 789 = .ok (.iconst 3, 1) := by decide +kernel
theorem dL_law_790 : decode cL_law 790 = .ok (.iadd, 1) := by decide +kernel
theorem dL_law_791 : decode cL_law 791 = .ok (.iaload, 1) := by decide +kernel
theorem dL_law_792 : decode cL_law 792 = .ok (.invokevirtual 111, 3) := by decide +kernel
theorem dL_law_795 : decode cL_law 795 = .ok (.lcmp, 1) := by decide +kernel
theorem dL_law_796 : decode cL_law 796 = .ok (.ifCond .eq 581, 3) := by decide +kernel
theorem dL_law_799 : decode cL_law 799 = .ok (.iconst 0, 1) := by decide +kernel
theorem dL_law_800 : decode cL_law 800 = .ok (.ireturn, 1) := by decide +kernel
theorem dL_law_801 : decode cL_law 801 = .ok (.aload_n 1, 1) := by decide +kernel
theorem dL_law_802 : decode cL_law 802 = .ok (.aload_n 0, 1) := by decide +kernel
theorem dL_law_803 : decode cL_law 803 = .ok (.iload_n 3, 1) := by decide +kernel
theorem dL_law_804 : decode cL_law 804 = .ok (.iconst 1, 1) := by decide +kernel
theorem dL_law_805 : decode cL_law 805 = .ok (.iadd, 1) := by decide +kernel
theorem dL_law_806 : decode cL_law 806 = .ok (.iaload, 1) := by decide +kernel
theorem dL_law_807 : decode cL_law 807 = .ok (.invokevirtual 112, 3) := by decide +kernel
theorem dL_law_810 : decode cL_law 810 = .ok (.aload_n 2, 1) := by decide +kernel
theorem dL_law_811 : decode cL_law 811 = .ok (.aload_n 0, 1) := by decide +kernel
theorem dL_law_812 : decode cL_law 812 = .ok (.iload_n 3, 1) := by decide +kernel
theorem dL_law_813 : decode cL_law 813 = .ok (.iconst 1, 1) := by decide +kernel
theorem dL_law_814 : decode cL_law 814 = .ok (.iadd, 1) := by decide +kernel
theorem dL_law_815 : decode cL_law 815 = .ok (.iaload, 1) := by decide +kernel
theorem dL_law_816 : decode cL_law 816 = .ok (.invokevirtual 115, 3) := by decide +kernel
theorem dL_law_819 : decode cL_law 819 = .ok (.if_icmp .eq 558, 3) := by decide +kernel
theorem dL_law_822 : decode cL_law 822 = .ok (.iconst 0, 1) := by decide +kernel
theorem dL_law_823 : decode cL_law 823 = .ok (.ireturn, 1) := by decide +kernel
theorem dL_law_824 : decode cL_law 824 = .ok (.aload_n 1, 1) := by decide +kernel
theorem dL_law_825 : decode cL_law 825 = .ok (.aload_n 0, 1) := by decide +kernel
theorem dL_law_826 : decode cL_law 826 = .ok (.iload_n 3, 1) := by decide +kernel
theorem dL_law_827 : decode cL_law 827 = .ok (.iconst 1, 1) := by decide +kernel
theorem dL_law_828 : decode cL_law 828 = .ok (.iadd, 1) := by decide +kernel
theorem dL_law_829 : decode cL_law 829 = .ok (.iaload, 1) := by decide +kernel
theorem dL_law_830 : decode cL_law 830 = .ok (.aload_n 0, 1) := by decide +kernel
theorem dL_law_831 : decode cL_law 831 = .ok (.iload_n 3, 1) := by decide +kernel
theorem dL_law_832 : decode cL_law 832 = .ok (.iconst 2, 1) := by decide +kernel
theorem dL_law_833 : decode cL_law 833 = .ok (.iadd, 1) := by decide +kernel
theorem dL_law_834 : decode cL_law 834 = .ok (.iaload, 1) := by decide +kernel
theorem dL_law_835 : decode cL_law 835 = .ok (.aload_n 0, 1) := by decide +kernel
theorem dL_law_836 : decode cL_law 836 = .ok (.iload_n 3, 1) := by decide +kernel
theorem dL_law_837 : decode cL_law 837 = .ok (.iconst 3, 1) := by decide +kernel
theorem dL_law_838 : decode cL_law 838 = .ok (.iadd, 1) := by decide +kernel
theorem dL_law_839 : decode cL_law 839 = .ok (.iaload, 1) := by decide +kernel
theorem dL_law_840 : decode cL_law 840 = .ok (.invokevirtual 116, 3) := by decide +kernel
theorem dL_law_843 : decode cL_law 843 = .ok (.aload_n 2, 1) := by decide +kernel
theorem dL_law_844 : decode cL_law 844 = .ok (.aload_n 0, 1) := by decide +kernel
theorem dL_law_845 : decode cL_law 845 = .ok (.iload_n 3, 1) := by decide +kernel
theorem dL_law_846 : decode cL_law 846 = .ok (.iconst 1, 1) := by decide +kernel
theorem dL_law_847 : decode cL_law 847 = .ok (.iadd, 1) := by decide +kernel
theorem dL_law_848 : decode cL_law 848 = .ok (.iaload, 1) := by decide +kernel
theorem dL_law_849 : decode cL_law 849 = .ok (.aload_n 0, 1) := by decide +kernel
theorem dL_law_850 : decode cL_law 850 = .ok (.iload_n 3, 1) := by decide +kernel
theorem dL_law_851 : decode cL_law 851 = .ok (.iconst 2, 1) := by decide +kernel
theorem dL_law_852 : decode cL_law 852 = .ok (.iadd, 1) := by decide +kernel
theorem dL_law_853 : decode cL_law 853 = .ok (.iaload, 1) := by decide +kernel
theorem dL_law_854 : decode cL_law 854 = .ok (.aload_n 0, 1) := by decide +kernel
theorem dL_law_855 : decode cL_law 855 = .ok (.iload_n 3, 1) := by decide +kernel
theorem dL_law_856 : decode cL_law 856 = .ok (.iconst 3, 1) := by decide +kernel
theorem dL_law_857 : decode cL_law 857 = .ok (.iadd, 1) := by decide +kernel
theorem dL_law_858 : decode cL_law 858 = .ok (.iaload, 1) := by decide +kernel
theorem dL_law_859 : decode cL_law 859 = .ok (.invokevirtual 119, 3) := by decide +kernel
theorem dL_law_862 : decode cL_law 862 = .ok (.if_icmp .eq 515, 3) := by decide +kernel
theorem dL_law_865 : decode cL_law 865 = .ok (.iconst 0, 1) := by decide +kernel
theorem dL_law_866 : decode cL_law 866 = .ok (.ireturn, 1) := by decide +kernel
theorem dL_law_867 : decode cL_law 867 = .ok (.aload_n 1, 1) := by decide +kernel
theorem dL_law_868 : decode cL_law 868 = .ok (.aload_n 0, 1) := by decide +kernel
theorem dL_law_869 : decode cL_law 869 = .ok (.iload_n 3, 1) := by decide +kernel
theorem dL_law_870 : decode cL_law 870 = .ok (.iconst 1, 1) := by decide +kernel
theorem dL_law_871 : decode cL_law 871 = .ok (.iadd, 1) := by decide +kernel
theorem dL_law_872 : decode cL_law 872 = .ok (.iaload, 1) := by decide +kernel
theorem dL_law_873 : decode cL_law 873 = .ok (.aload_n 0, 1) := by decide +kernel
theorem dL_law_874 : decode cL_law 874 = .ok (.iload_n 3, 1) := by decide +kernel
theorem dL_law_875 : decode cL_law 875 = .ok (.iconst 2, 1) := by decide +kernel
theorem dL_law_876 : decode cL_law 876 = .ok (.iadd, 1) := by decide +kernel
theorem dL_law_877 : decode cL_law 877 = .ok (.iaload, 1) := by decide +kernel
theorem dL_law_878 : decode cL_law 878 = .ok (.aload_n 0, 1) := by decide +kernel
theorem dL_law_879 : decode cL_law 879 = .ok (.iload_n 3, 1) := by decide +kernel
theorem dL_law_880 : decode cL_law 880 = .ok (.iconst 3, 1) := by decide +kernel
theorem dL_law_881 : decode cL_law 881 = .ok (.iadd, 1) := by decide +kernel
theorem dL_law_882 : decode cL_law 882 = .ok (.iaload, 1) := by decide +kernel
theorem dL_law_883 : decode cL_law 883 = .ok (.invokevirtual 120, 3) := by decide +kernel
theorem dL_law_886 : decode cL_law 886 = .ok (.aload_n 2, 1) := by decide +kernel
theorem dL_law_887 : decode cL_law 887 = .ok (.aload_n 0, 1) := by decide +kernel
theorem dL_law_888 : decode cL_law 888 = .ok (.iload_n 3, 1) := by decide +kernel
theorem dL_law_889 : decode cL_law 889 = .ok (.iconst 1, 1) := by decide +kernel
theorem dL_law_890 : decode cL_law 890 = .ok (.iadd, 1) := by decide +kernel
theorem dL_law_891 : decode cL_law 891 = .ok (.iaload, 1) := by decide +kernel
theorem dL_law_892 : decode cL_law 892 = .ok (.aload_n 0, 1) := by decide +kernel
theorem dL_law_893 : decode cL_law 893 = .ok (.iload_n 3, 1) := by decide +kernel
theorem dL_law_894 : decode cL_law 894 = .ok (.iconst 2, 1) := by decide +kernel
theorem dL_law_895 : decode cL_law 895 = .ok (.iadd, 1) := by decide +kernel
theorem dL_law_896 : decode cL_law 896 = .ok (.iaload, 1) := by decide +kernel
theorem dL_law_897 : decode cL_law 897 = .ok (.aload_n 0, 1) := by decide +kernel
theorem dL_law_898 : decode cL_law 898 = .ok (.iload_n 3, 1) := by decide +kernel
theorem dL_law_899 : decode cL_law 899 = .ok (.iconst 3, 1) := by decide +kernel
theorem dL_law_900 : decode cL_law 900 = .ok (.iadd, 1) := by decide +kernel
theorem dL_law_901 : decode cL_law 901 = .ok (.iaload, 1) := by decide +kernel
theorem dL_law_902 : decode cL_law 902 = .ok (.invokevirtual 123, 3) := by decide +kernel
theorem dL_law_905 : decode cL_law 905 = .ok (.lcmp, 1) := by decide +kernel
theorem dL_law_906 : decode cL_law 906 = .ok (.ifCond .eq 471, 3) := by decide +kernel
theorem dL_law_909 : decode cL_law 909 = .ok (.iconst 0, 1) := by decide +kernel
theorem dL_law_910 : decode cL_law 910 = .ok (.ireturn, 1) := by decide +kernel
theorem dL_law_911 : decode cL_law 911 = .ok (.aload_n 1, 1) := by decide +kernel
theorem dL_law_912 : decode cL_law 912 = .ok (.aload_n 0, 1) := by decide +kernel
theorem dL_law_913 : decode cL_law 913 = .ok (.iload_n 3, 1) := by decide +kernel
theorem dL_law_914 : decode cL_law 914 = .ok (.iconst 1, 1) := by decide +kernel
theorem dL_law_915 : decode cL_law 915 = .ok (.iadd, 1) := by decide +kernel
theorem dL_law_916 : decode cL_law 916 = .ok (.iaload, 1) := by decide +kernel
theorem dL_law_917 : decode cL_law 917 = .ok (.aload_n 0, 1) := by decide +kernel
theorem dL_law_918 : decode cL_law 918 = .ok (.iload_n 3, 1) := by decide +kernel
theorem dL_law_919 : decode cL_law 919 = .ok (.iconst 2, 1) := by decide +kernel
theorem dL_law_920 : decode cL_law 920 = .ok (.iadd, 1) := by decide +kernel
theorem dL_law_921 : decode cL_law 921 = .ok (.iaload, 1) := by decide +kernel
theorem dL_law_922 : decode cL_law 922 = .ok (.invokevirtual 124, 3) := by decide +kernel
theorem dL_law_925 : decode cL_law 925 = .ok (.aload_n 2, 1) := by decide +kernel
theorem dL_law_926 : decode cL_law 926 = .ok (.aload_n 0, 1) := by decide +kernel
theorem dL_law_927 : decode cL_law 927 = .ok (.iload_n 3, 1) := by decide +kernel
theorem dL_law_928 : decode cL_law 928 = .ok (.iconst 1, 1) := by decide +kernel
theorem dL_law_929 : decode cL_law 929 = .ok (.iadd, 1) := by decide +kernel
theorem dL_law_930 : decode cL_law 930 = .ok (.iaload, 1) := by decide +kernel
theorem dL_law_931 : decode cL_law 931 = .ok (.aload_n 0, 1) := by decide +kernel
theorem dL_law_932 : decode cL_law 932 = .ok (.iload_n 3, 1) := by decide +kernel
theorem dL_law_933 : decode cL_law 933 = .ok (.iconst 2, 1) := by decide +kernel
theorem dL_law_934 : decode cL_law 934 = .ok (.iadd, 1) := by decide +kernel
theorem dL_law_935 : decode cL_law 935 = .ok (.iaload, 1) := by decide +kernel
theorem dL_law_936 : decode cL_law 936 = .ok (.invokevirtual 127, 3) := by decide +kernel
theorem dL_law_939 : decode cL_law 939 = .ok (.if_icmp .eq 438, 3) := by decide +kernel
theorem dL_law_942 : decode cL_law 942 = .ok (.iconst 0, 1) := by decide +kernel
theorem dL_law_943 : decode cL_law 943 = .ok (.ireturn, 1) := by decide +kernel
theorem dL_law_944 : decode cL_law 944 = .ok (.aload_n 1, 1) := by decide +kernel
theorem dL_law_945 : decode cL_law 945 = .ok (.aload_n 0, 1) := by decide +kernel
theorem dL_law_946 : decode cL_law 946 = .ok (.iload_n 3, 1) := by decide +kernel
theorem dL_law_947 : decode cL_law 947 = .ok (.iconst 1, 1) := by decide +kernel
theorem dL_law_948 : decode cL_law 948 = .ok (.iadd, 1) := by decide +kernel
theorem dL_law_949 : decode cL_law 949 = .ok (.iaload, 1) := by decide +kernel
theorem dL_law_950 : decode cL_law 950 = .ok (.aload_n 0, 1) := by decide +kernel
theorem dL_law_951 : decode cL_law 951 = .ok (.iload_n 3, 1) := by decide +kernel
theorem dL_law_952 : decode cL_law 952 = .ok (.iconst 2, 1) := by decide +kernel
theorem dL_law_953 : decode cL_law 953 = .ok (.iadd, 1) := by decide +kernel
theorem dL_law_954 : decode cL_law 954 = .ok (.iaload, 1) := by decide +kernel
theorem dL_law_955 : decode cL_law 955 = .ok (.invokevirtual 128, 3) := by decide +kernel
theorem dL_law_958 : decode cL_law 958 = .ok (.aload_n 2, 1) := by decide +kernel
theorem dL_law_959 : decode cL_law 959 = .ok (.aload_n 0, 1) := by decide +kernel
theorem dL_law_960 : decode cL_law 960 = .ok (.iload_n 3, 1) := by decide +kernel
theorem dL_law_961 : decode cL_law 961 = .ok (.iconst 1, 1) := by decide +kernel
theorem dL_law_962 : decode cL_law 962 = .ok (.iadd, 1) := by decide +kernel
theorem dL_law_963 : decode cL_law 963 = .ok (.iaload, 1) := by decide +kernel
theorem dL_law_964 : decode cL_law 964 = .ok (.aload_n 0, 1) := by decide +kernel
theorem dL_law_965 : decode cL_law 965 = .ok (.iload_n 3, 1) := by decide +kernel
theorem dL_law_966 : decode cL_law 966 = .ok (.iconst 2, 1) := by decide +kernel
theorem dL_law_967 : decode cL_law 967 = .ok (.iadd, 1) := by decide +kernel
theorem dL_law_968 : decode cL_law 968 = .ok (.iaload, 1) := by decide +kernel
theorem dL_law_969 : decode cL_law 969 = .ok (.invokevirtual 131, 3) := by decide +kernel
theorem dL_law_972 : decode cL_law 972 = .ok (.lcmp, 1) := by decide +kernel
theorem dL_law_973 : decode cL_law 973 = .ok (.ifCond .eq 404, 3) := by decide +kernel
theorem dL_law_976 : decode cL_law 976 = .ok (.iconst 0, 1) := by decide +kernel
theorem dL_law_977 : decode cL_law 977 = .ok (.ireturn, 1) := by decide +kernel
theorem dL_law_978 : decode cL_law 978 = .ok (.aload_n 1, 1) := by decide +kernel
theorem dL_law_979 : decode cL_law 979 = .ok (.aload_n 0, 1) := by decide +kernel
theorem dL_law_980 : decode cL_law 980 = .ok (.iload_n 3, 1) := by decide +kernel
theorem dL_law_981 : decode cL_law 981 = .ok (.iconst 1, 1) := by decide +kernel
theorem dL_law_982 : decode cL_law 982 = .ok (.iadd, 1) := by decide +kernel
theorem dL_law_983 : decode cL_law 983 = .ok (.iaload, 1) := by decide +kernel
theorem dL_law_984 : decode cL_law 984 = .ok (.aload_n 0, 1) := by decide +kernel
theorem dL_law_985 : decode cL_law 985 = .ok (.iload_n 3, 1) := by decide +kernel
theorem dL_law_986 : decode cL_law 986 = .ok (.iconst 2, 1) := by decide +kernel
theorem dL_law_987 : decode cL_law 987 = .ok (.iadd, 1) := by decide +kernel
theorem dL_law_988 : decode cL_law 988 = .ok (.iaload, 1) := by decide +kernel
theorem dL_law_989 : decode cL_law 989 = .ok (.invokevirtual 132, 3) := by decide +kernel
theorem dL_law_992 : decode cL_law 992 = .ok (.aload_n 2, 1) := by decide +kernel
theorem dL_law_993 : decode cL_law 993 = .ok (.aload_n 0, 1) := by decide +kernel
theorem dL_law_994 : decode cL_law 994 = .ok (.iload_n 3, 1) := by decide +kernel
theorem dL_law_995 : decode cL_law 995 = .ok (.iconst 1, 1) := by decide +kernel
theorem dL_law_996 : decode cL_law 996 = .ok (.iadd, 1) := by decide +kernel
theorem dL_law_997 : decode cL_law 997 = .ok (.iaload, 1) := by decide +kernel
theorem dL_law_998 : decode cL_law 998 = .ok (.aload_n 0, 1) := by decide +kernel
theorem dL_law_999 : decode cL_law 999 = .ok (.iload_n 3, 1) := by decide +kernel
theorem dL_law_1000 : decode cL_law 1000 = .ok (.iconst 2, 1) := by decide +kernel
theorem dL_law_1001 : decode cL_law 1001 = .ok (.iadd, 1) := by decide +kernel
theorem dL_law_1002 : decode cL_law 1002 = .ok (.iaload, 1) := by decide +kernel
theorem dL_law_1003 : decode cL_law 1003 = .ok (.invokevirtual 135, 3) := by decide +kernel
theorem dL_law_1006 : decode cL_law 1006 = .ok (.lcmp, 1) := by decide +kernel
theorem dL_law_1007 : decode cL_law 1007 = .ok (.ifCond .eq 370, 3) := by decide +kernel
theorem dL_law_1010 : decode cL_law 1010 = .ok (.iconst 0, 1) := by decide +kernel
theorem dL_law_1011 : decode cL_law 1011 = .ok (.ireturn, 1) := by decide +kernel
theorem dL_law_1012 : decode cL_law 1012 = .ok (.aload_n 1, 1) := by decide +kernel
theorem dL_law_1013 : decode cL_law 1013 = .ok (.aload_n 0, 1) := by decide +kernel
theorem dL_law_1014 : decode cL_law 1014 = .ok (.iload_n 3, 1) := by decide +kernel
theorem dL_law_1015 : decode cL_law 1015 = .ok (.iconst 1, 1) := by decide +kernel
theorem dL_law_1016 : decode cL_law 1016 = .ok (.iadd, 1) := by decide +kernel
theorem dL_law_1017 : decode cL_law 1017 = .ok (.iaload, 1) := by decide +kernel
theorem dL_law_1018 : decode cL_law 1018 = .ok (.invokevirtual 136, 3) := by decide +kernel
theorem dL_law_1021 : decode cL_law 1021 = .ok (.aload_n 2, 1) := by decide +kernel
theorem dL_law_1022 : decode cL_law 1022 = .ok (.aload_n 0, 1) := by decide +kernel
theorem dL_law_1023 : decode cL_law 1023 = .ok (.iload_n 3, 1) := by decide +kernel
theorem dL_law_1024 : decode cL_law 1024 = .ok (.iconst 1, 1) := by decide +kernel
theorem dL_law_1025 : decode cL_law 1025 = .ok (.iadd, 1) := by decide +kernel
theorem dL_law_1026 : decode cL_law 1026 = .ok (.iaload, 1) := by decide +kernel
theorem dL_law_1027 : decode cL_law 1027 = .ok (.invokevirtual 139, 3) := by decide +kernel
theorem dL_law_1030 : decode cL_law 1030 = .ok (.if_icmp .eq 347, 3) := by decide +kernel
theorem dL_law_1033 : decode cL_law 1033 = .ok (.iconst 0, 1) := by decide +kernel
theorem dL_law_1034 : decode cL_law 1034 = .ok (.ireturn, 1) := by decide +kernel
theorem dL_law_1035 : decode cL_law 1035 = .ok (.aload_n 1, 1) := by decide +kernel
theorem dL_law_1036 : decode cL_law 1036 = .ok (.aload_n 0, 1) := by decide +kernel
theorem dL_law_1037 : decode cL_law 1037 = .ok (.iload_n 3, 1) := by decide +kernel
theorem dL_law_1038 : decode cL_law 1038 = .ok (.iconst 1, 1) := by decide +kernel
theorem dL_law_1039 : decode cL_law 1039 = .ok (.iadd, 1) := by decide +kernel
theorem dL_law_1040 : decode cL_law 1040 = .ok (.iaload, 1) := by decide +kernel
theorem dL_law_1041 : decode cL_law 1041 = .ok (.aload_n 0, 1) := by decide +kernel
theorem dL_law_1042 : decode cL_law 1042 = .ok (.iload_n 3, 1) := by decide +kernel
theorem dL_law_1043 : decode cL_law 1043 = .ok (.iconst 2, 1) := by decide +kernel
theorem dL_law_1044 : decode cL_law 1044 = .ok (.iadd, 1) := by decide +kernel
theorem dL_law_1045 : decode cL_law 1045 = .ok (.iaload, 1) := by decide +kernel
theorem dL_law_1046 : decode cL_law 1046 = .ok (.aload_n 0, 1) := by decide +kernel
theorem dL_law_1047 : decode cL_law 1047 = .ok (.iload_n 3, 1) := by decide +kernel
theorem dL_law_1048 : decode cL_law 1048 = .ok (.iconst 3, 1) := by decide +kernel
theorem dL_law_1049 : decode cL_law 1049 = .ok (.iadd, 1) := by decide +kernel
theorem dL_law_1050 : decode cL_law 1050 = .ok (.iaload, 1) := by decide +kernel
theorem dL_law_1051 : decode cL_law 1051 = .ok (.invokevirtual 140, 3) := by decide +kernel
theorem dL_law_1054 : decode cL_law 1054 = .ok (.aload_n 2, 1) := by decide +kernel
theorem dL_law_1055 : decode cL_law 1055 = .ok (.aload_n 0, 1) := by decide +kernel
theorem dL_law_1056 : decode cL_law 1056 = .ok (.iload_n 3, 1) := by decide +kernel
theorem dL_law_1057 : decode cL_law 1057 = .ok (.iconst 1, 1) := by decide +kernel
theorem dL_law_1058 : decode cL_law 1058 = .ok (.iadd, 1) := by decide +kernel
theorem dL_law_1059 : decode cL_law 1059 = .ok (.iaload, 1) := by decide +kernel
theorem dL_law_1060 : decode cL_law 1060 = .ok (.aload_n 0, 1) := by decide +kernel
theorem dL_law_1061 : decode cL_law 1061 = .ok (.iload_n 3, 1) := by decide +kernel
theorem dL_law_1062 : decode cL_law 1062 = .ok (.iconst 2, 1) := by decide +kernel
theorem dL_law_1063 : decode cL_law 1063 = .ok (.iadd, 1) := by decide +kernel
theorem dL_law_1064 : decode cL_law 1064 = .ok (.iaload, 1) := by decide +kernel
theorem dL_law_1065 : decode cL_law 1065 = .ok (.aload_n 0, 1) := by decide +kernel
theorem dL_law_1066 : decode cL_law 1066 = .ok (.iload_n 3, 1) := by decide +kernel
theorem dL_law_1067 : decode cL_law 1067 = .ok (.iconst 3, 1) := by decide +kernel
theorem dL_law_1068 : decode cL_law 1068 = .ok (.iadd, 1) := by decide +kernel
theorem dL_law_1069 : decode cL_law 1069 = .ok (.iaload, 1) := by decide +kernel
theorem dL_law_1070 : decode cL_law 1070 = .ok (.invokevirtual 143, 3) := by decide +kernel
theorem dL_law_1073 : decode cL_law 1073 = .ok (.if_icmp .eq 304, 3) := by decide +kernel
theorem dL_law_1076 : decode cL_law 1076 = .ok (.iconst 0, 1) := by decide +kernel
theorem dL_law_1077 : decode cL_law 1077 = .ok (.ireturn, 1) := by decide +kernel
theorem dL_law_1078 : decode cL_law 1078 = .ok (.aload_n 1, 1) := by decide +kernel
theorem dL_law_1079 : decode cL_law 1079 = .ok (.aload_n 0, 1) := by decide +kernel
theorem dL_law_1080 : decode cL_law 1080 = .ok (.iload_n 3, 1) := by decide +kernel
theorem dL_law_1081 : decode cL_law 1081 = .ok (.iconst 1, 1) := by decide +kernel
theorem dL_law_1082 : decode cL_law 1082 = .ok (.iadd, 1) := by decide +kernel
theorem dL_law_1083 : decode cL_law 1083 = .ok (.iaload, 1) := by decide +kernel
theorem dL_law_1084 : decode cL_law 1084 = .ok (.invokevirtual 144, 3) := by decide +kernel
theorem dL_law_1087 : decode cL_law 1087 = .ok (.aload_n 2, 1) := by decide +kernel
theorem dL_law_1088 : decode cL_law 1088 = .ok (.aload_n 0, 1) := by decide +kernel
theorem dL_law_1089 : decode cL_law 1089 = .ok (.iload_n 3, 1) := by decide +kernel
theorem dL_law_1090 : decode cL_law 1090 = .ok (.iconst 1, 1) := by decide +kernel
theorem dL_law_1091 : decode cL_law 1091 = .ok (.iadd, 1) := by decide +kernel
theorem dL_law_1092 : decode cL_law 1092 = .ok (.iaload, 1) := by decide +kernel
theorem dL_law_1093 : decode cL_law 1093 = .ok (.invokevirtual 147, 3) := by decide +kernel
theorem dL_law_1096 : decode cL_law 1096 = .ok (.if_icmp .eq 281, 3) := by decide +kernel
theorem dL_law_1099 : decode cL_law 1099 = .ok (.iconst 0, 1) := by decide +kernel
theorem dL_law_1100 : decode cL_law 1100 = .ok (.ireturn, 1) := by decide +kernel
theorem dL_law_1101 : decode cL_law 1101 = .ok (.aload_n 1, 1) := by decide +kernel
theorem dL_law_1102 : decode cL_law 1102 = .ok (.aload_n 0, 1) := by decide +kernel
theorem dL_law_1103 : decode cL_law 1103 = .ok (.iload_n 3, 1) := by decide +kernel
theorem dL_law_1104 : decode cL_law 1104 = .ok (.iconst 1, 1) := by decide +kernel
theorem dL_law_1105 : decode cL_law 1105 = .ok (.iadd, 1) := by decide +kernel
theorem dL_law_1106 : decode cL_law 1106 = .ok (.iaload, 1) := by decide +kernel
theorem dL_law_1107 : decode cL_law 1107 = .ok (.aload_n 0, 1) := by decide +kernel
theorem dL_law_1108 : decode cL_law 1108 = .ok (.iload_n 3, 1) := by decide +kernel
theorem dL_law_1109 : decode cL_law 1109 = .ok (.iconst 2, 1) := by decide +kernel
theorem dL_law_1110 : decode cL_law 1110 = .ok (.iadd, 1) := by decide +kernel
theorem dL_law_1111 : decode cL_law 1111 = .ok (.iaload, 1) := by decide +kernel
theorem dL_law_1112 : decode cL_law 1112 = .ok (.aload_n 0, 1) := by decide +kernel
theorem dL_law_1113 : decode cL_law 1113 = .ok (.iload_n 3, 1) := by decide +kernel
theorem dL_law_1114 : decode cL_law 1114 = .ok (.iconst 3, 1) := by decide +kernel
theorem dL_law_1115 : decode cL_law 1115 = .ok (.iadd, 1) := by decide +kernel
theorem dL_law_1116 : decode cL_law 1116 = .ok (.iaload, 1) := by decide +kernel
theorem dL_law_1117 : decode cL_law 1117 = .ok (.aload_n 0, 1) := by decide +kernel
theorem dL_law_1118 : decode cL_law 1118 = .ok (.iload_n 3, 1) := by decide +kernel
theorem dL_law_1119 : decode cL_law 1119 = .ok (.iconst 4, 1) := by decide +kernel
theorem dL_law_1120 : decode cL_law 1120 = .ok (.iadd, 1) := by decide +kernel
theorem dL_law_1121 : decode cL_law 1121 = .ok (.iaload, 1) := by decide +kernel
theorem dL_law_1122 : decode cL_law 1122 = .ok (.invokevirtual 148, 3) := by decide +kernel
theorem dL_law_1125 : decode cL_law 1125 = .ok (.aload_n 2, 1) := by decide +kernel
theorem dL_law_1126 : decode cL_law 1126 = .ok (.aload_n 0, 1) := by decide +kernel
theorem dL_law_1127 : decode cL_law 1127 = .ok (.iload_n 3, 1) := by decide +kernel
theorem dL_law_1128 : decode cL_law 1128 = .ok (.iconst 1, 1) := by decide +kernel
theorem dL_law_1129 : decode cL_law 1129 = .ok (.iadd, 1) := by decide +kernel
theorem dL_law_1130 : decode cL_law 1130 = .ok (.iaload, 1) := by decide +kernel
theorem dL_law_1131 : decode cL_law 1131 = .ok (.aload_n 0, 1) := by decide +kernel
theorem dL_law_1132 : decode cL_law 1132 = .ok (.iload_n 3, 1) := by decide +kernel
theorem dL_law_1133 : decode cL_law 1133 = .ok (.iconst 2, 1) := by decide +kernel
theorem dL_law_1134 : decode cL_law 1134 = .ok (.iadd, 1) := by decide +kernel
theorem dL_law_1135 : decode cL_law 1135 = .ok (.iaload, 1) := by decide +kernel
theorem dL_law_1136 : decode cL_law 1136 = .ok (.aload_n 0, 1) := by decide +kernel
theorem dL_law_1137 : decode cL_law 1137 = .ok (.iload_n 3, 1) := by decide +kernel
theorem dL_law_1138 : decode cL_law 1138 = .ok (.iconst 3, 1) := by decide +kernel
theorem dL_law_1139 : decode cL_law 1139 = .ok (.iadd, 1) := by decide +kernel
theorem dL_law_1140 : decode cL_law 1140 = .ok (.iaload, 1) := by decide +kernel
theorem dL_law_1141 : decode cL_law 1141 = .ok (.aload_n 0, 1) := by decide +kernel
theorem dL_law_1142 : decode cL_law 1142 = .ok (.iload_n 3, 1) := by decide +kernel
theorem dL_law_1143 : decode cL_law 1143 = .ok (.iconst 4, 1) := by decide +kernel
theorem dL_law_1144 : decode cL_law 1144 = .ok (.iadd, 1) := by decide +kernel
theorem dL_law_1145 : decode cL_law 1145 = .ok (.iaload, 1) := by decide +kernel
theorem dL_law_1146 : decode cL_law 1146 = .ok (.invokevirtual 152, 3) := by decide +kernel
theorem dL_law_1149 : decode cL_law 1149 = .ok (.if_icmp .eq 228, 3) := by decide +kernel
theorem dL_law_1152 : decode cL_law 1152 = .ok (.iconst 0, 1) := by decide +kernel
theorem dL_law_1153 : decode cL_law 1153 = .ok (.ireturn, 1) := by decide +kernel
theorem dL_law_1154 : decode cL_law 1154 = .ok (.aload_n 1, 1) := by decide +kernel
theorem dL_law_1155 : decode cL_law 1155 = .ok (.aload_n 0, 1) := by decide +kernel
theorem dL_law_1156 : decode cL_law 1156 = .ok (.iload_n 3, 1) := by decide +kernel
theorem dL_law_1157 : decode cL_law 1157 = .ok (.iconst 1, 1) := by decide +kernel
theorem dL_law_1158 : decode cL_law 1158 = .ok (.iadd, 1) := by decide +kernel
theorem dL_law_1159 : decode cL_law 1159 = .ok (.iaload, 1) := by decide +kernel
theorem dL_law_1160 : decode cL_law 1160 = .ok (.aload_n 0, 1) := by decide +kernel
theorem dL_law_1161 : decode cL_law 1161 = .ok (.iload_n 3, 1) := by decide +kernel
theorem dL_law_1162 : decode cL_law 1162 = .ok (.iconst 2, 1) := by decide +kernel
theorem dL_law_1163 : decode cL_law 1163 = .ok (.iadd, 1) := by decide +kernel
theorem dL_law_1164 : decode cL_law 1164 = .ok (.iaload, 1) := by decide +kernel
theorem dL_law_1165 : decode cL_law 1165 = .ok (.invokevirtual 153, 3) := by decide +kernel
theorem dL_law_1168 : decode cL_law 1168 = .ok (.aload_n 2, 1) := by decide +kernel
theorem dL_law_1169 : decode cL_law 1169 = .ok (.aload_n 0, 1) := by decide +kernel
theorem dL_law_1170 : decode cL_law 1170 = .ok (.iload_n 3, 1) := by decide +kernel
theorem dL_law_1171 : decode cL_law 1171 = .ok (.iconst 1, 1) := by decide +kernel
theorem dL_law_1172 : decode cL_law 1172 = .ok (.iadd, 1) := by decide +kernel
theorem dL_law_1173 : decode cL_law 1173 = .ok (.iaload, 1) := by decide +kernel
theorem dL_law_1174 : decode cL_law 1174 = .ok (.aload_n 0, 1) := by decide +kernel
theorem dL_law_1175 : decode cL_law 1175 = .ok (.iload_n 3, 1) := by decide +kernel
theorem dL_law_1176 : decode cL_law 1176 = .ok (.iconst 2, 1) := by decide +kernel
theorem dL_law_1177 : decode cL_law 1177 = .ok (.iadd, 1) := by decide +kernel
theorem dL_law_1178 : decode cL_law 1178 = .ok (.iaload, 1) := by decide +kernel
theorem dL_law_1179 : decode cL_law 1179 = .ok (.invokevirtual 156, 3) := by decide +kernel
theorem dL_law_1182 : decode cL_law 1182 = .ok (.if_icmp .eq 195, 3) := by decide +kernel
theorem dL_law_1185 : decode cL_law 1185 = .ok (.iconst 0, 1) := by decide +kernel
theorem dL_law_1186 : decode cL_law 1186 = .ok (.ireturn, 1) := by decide +kernel
theorem dL_law_1187 : decode cL_law 1187 = .ok (.aload_n 1, 1) := by decide +kernel
theorem dL_law_1188 : decode cL_law 1188 = .ok (.aload_n 0, 1) := by decide +kernel
theorem dL_law_1189 : decode cL_law 1189 = .ok (.iload_n 3, 1) := by decide +kernel
theorem dL_law_1190 : decode cL_law 1190 = .ok (.iconst 1, 1) := by decide +kernel
theorem dL_law_1191 : decode cL_law 1191 = .ok (.iadd, 1) := by decide +kernel
theorem dL_law_1192 : decode cL_law 1192 = .ok (.iaload, 1) := by decide +kernel
theorem dL_law_1193 : decode cL_law 1193 = .ok (.aload_n 0, 1) := by decide +kernel
theorem dL_law_1194 : decode cL_law 1194 = .ok (.iload_n 3, 1) := by decide +kernel
theorem dL_law_1195 : decode cL_law 1195 = .ok (.iconst 2, 1) := by decide +kernel
theorem dL_law_1196 : decode cL_law 1196 = .ok (.iadd, 1) := by decide +kernel
theorem dL_law_1197 : decode cL_law 1197 = .ok (.iaload, 1) := by decide +kernel
theorem dL_law_1198 : decode cL_law 1198 = .ok (.invokevirtual 157, 3) := by decide +kernel
theorem dL_law_1201 : decode cL_law 1201 = .ok (.aload_n 2, 1) := by decide +kernel
theorem dL_law_1202 : decode cL_law 1202 = .ok (.aload_n 0, 1) := by decide +kernel
theorem dL_law_1203 : decode cL_law 1203 = .ok (.iload_n 3, 1) := by decide +kernel
theorem dL_law_1204 : decode cL_law 1204 = .ok (.iconst 1, 1) := by decide +kernel
theorem dL_law_1205 : decode cL_law 1205 = .ok (.iadd, 1) := by decide +kernel
theorem dL_law_1206 : decode cL_law 1206 = .ok (.iaload, 1) := by decide +kernel
theorem dL_law_1207 : decode cL_law 1207 = .ok (.aload_n 0, 1) := by decide +kernel
theorem dL_law_1208 : decode cL_law 1208 = .ok (.iload_n 3, 1) := by decide +kernel
theorem dL_law_1209 : decode cL_law 1209 = .ok (.iconst 2, 1) := by decide +kernel
theorem dL_law_1210 : decode cL_law 1210 = .ok (.iadd, 1) := by decide +kernel
theorem dL_law_1211 : decode cL_law 1211 = .ok (.iaload, 1) := by decide +kernel
theorem dL_law_1212 : decode cL_law 1212 = .ok (.invokevirtual 160, 3) := by decide +kernel
theorem dL_law_1215 : decode cL_law 1215 = .ok (.lcmp, 1) := by decide +kernel
theorem dL_law_1216 : decode cL_law 1216 = .ok (.ifCond .eq 161, 3) := by decide +kernel
theorem dL_law_1219 : decode cL_law 1219 = .ok (.iconst 0, 1) := by decide +kernel
theorem dL_law_1220 : decode cL_law 1220 = .ok (.ireturn, 1) := by decide +kernel
theorem dL_law_1221 : decode cL_law 1221 = .ok (.aload_n 1, 1) := by decide +kernel
theorem dL_law_1222 : decode cL_law 1222 = .ok (.aload_n 0, 1) := by decide +kernel
theorem dL_law_1223 : decode cL_law 1223 = .ok (.iload_n 3, 1) := by decide +kernel
theorem dL_law_1224 : decode cL_law 1224 = .ok (.iconst 1, 1) := by decide +kernel
theorem dL_law_1225 : decode cL_law 1225 = .ok (.iadd, 1) := by decide +kernel
theorem dL_law_1226 : decode cL_law 1226 = .ok (.iaload, 1) := by decide +kernel
theorem dL_law_1227 : decode cL_law 1227 = .ok (.aload_n 0, 1) := by decide +kernel
theorem dL_law_1228 : decode cL_law 1228 = .ok (.iload_n 3, 1) := by decide +kernel
theorem dL_law_1229 : decode cL_law 1229 = .ok (.iconst 2, 1) := by decide +kernel
theorem dL_law_1230 : decode cL_law 1230 = .ok (.iadd, 1) := by decide +kernel
theorem dL_law_1231 : decode cL_law 1231 = .ok (.iaload, 1) := by decide +kernel
theorem dL_law_1232 : decode cL_law 1232 = .ok (.aload_n 0, 1) := by decide +kernel
theorem dL_law_1233 : decode cL_law 1233 = .ok (.iload_n 3, 1) := by decide +kernel
theorem dL_law_1234 : decode cL_law 1234 = .ok (.iconst 3, 1) := by decide +kernel
theorem dL_law_1235 : decode cL_law 1235 = .ok (.iadd, 1) := by decide +kernel
theorem dL_law_1236 : decode cL_law 1236 = .ok (.iaload, 1) := by decide +kernel
theorem dL_law_1237 : decode cL_law 1237 = .ok (.aload_n 0, 1) := by decide +kernel
theorem dL_law_1238 : decode cL_law 1238 = .ok (.iload_n 3, 1) := by decide +kernel
theorem dL_law_1239 : decode cL_law 1239 = .ok (.iconst 4, 1) := by decide +kernel
theorem dL_law_1240 : decode cL_law 1240 = .ok (.iadd, 1) := by decide +kernel
theorem dL_law_1241 : decode cL_law 1241 = .ok (.iaload, 1) := by decide +kernel
theorem dL_law_1242 : decode cL_law 1242 = .ok (.aload_n 0, 1) := by decide +kernel
theorem dL_law_1243 : decode cL_law 1243 = .ok (.iload_n 3, 1) := by decide +kernel
theorem dL_law_1244 : decode cL_law 1244 = .ok (.iconst 5, 1) := by decide +kernel
theorem dL_law_1245 : decode cL_law 1245 = .ok (.iadd, 1) := by decide +kernel
theorem dL_law_1246 : decode cL_law 1246 = .ok (.iaload, 1) := by decide +kernel
theorem dL_law_1247 : decode cL_law 1247 = .ok (.invokevirtual 161, 3) := by decide +kernel
theorem dL_law_1250 : decode cL_law 1250 = .ok (.aload_n 2, 1) := by decide +kernel
theorem dL_law_1251 : decode cL_law 1251 = .ok (.aload_n 0, 1) := by decide +kernel
theorem dL_law_1252 : decode cL_law 1252 = .ok (.iload_n 3, 1) := by decide +kernel
theorem dL_law_1253 : decode cL_law 1253 = .ok (.iconst 1, 1) := by decide +kernel
theorem dL_law_1254 : decode cL_law 1254 = .ok (.iadd, 1) := by decide +kernel
theorem dL_law_1255 : decode cL_law 1255 = .ok (.iaload, 1) := by decide +kernel
theorem dL_law_1256 : decode cL_law 1256 = .ok (.aload_n 0, 1) := by decide +kernel
theorem dL_law_1257 : decode cL_law 1257 = .ok (.iload_n 3, 1) := by decide +kernel
theorem dL_law_1258 : decode cL_law 1258 = .ok (.iconst 2, 1) := by decide +kernel
theorem dL_law_1259 : decode cL_law 1259 = .ok (.iadd, 1) := by decide +kernel
theorem dL_law_1260 : decode cL_law 1260 = .ok (.iaload, 1) := by decide +kernel
theorem dL_law_1261 : decode cL_law 1261 = .ok (.aload_n 0, 1) := by decide +kernel
theorem dL_law_1262 : decode cL_law 1262 = .ok (.iload_n 3, 1) := by decide +kernel
theorem dL_law_1263 : decode cL_law 1263 = .ok (.iconst 3, 1) := by decide +kernel
theorem dL_law_1264 : decode cL_law 1264 = .ok (.iadd, 1) := by decide +kernel
theorem dL_law_1265 : decode cL_law 1265 = .ok (.iaload, 1) := by decide +kernel
theorem dL_law_1266 : decode cL_law 1266 = .ok (.aload_n 0, 1) := by decide +kernel
theorem dL_law_1267 : decode cL_law 1267 = .ok (.iload_n 3, 1) := by decide +kernel
theorem dL_law_1268 : decode cL_law 1268 = .ok (.iconst 4, 1) := by decide +kernel
theorem dL_law_1269 : decode cL_law 1269 = .ok (.iadd, 1) := by decide +kernel
theorem dL_law_1270 : decode cL_law 1270 = .ok (.iaload, 1) := by decide +kernel
theorem dL_law_1271 : decode cL_law 1271 = .ok (.aload_n 0, 1) := by decide +kernel
theorem dL_law_1272 : decode cL_law 1272 = .ok (.iload_n 3, 1) := by decide +kernel
theorem dL_law_1273 : decode cL_law 1273 = .ok (.iconst 5, 1) := by decide +kernel
theorem dL_law_1274 : decode cL_law 1274 = .ok (.iadd, 1) := by decide +kernel
theorem dL_law_1275 : decode cL_law 1275 = .ok (.iaload, 1) := by decide +kernel
theorem dL_law_1276 : decode cL_law 1276 = .ok (.invokevirtual 165, 3) := by decide +kernel
theorem dL_law_1279 : decode cL_law 1279 = .ok (.if_icmp .eq 98, 3) := by decide +kernel
theorem dL_law_1282 : decode cL_law 1282 = .ok (.iconst 0, 1) := by decide +kernel
theorem dL_law_1283 : decode cL_law 1283 = .ok (.ireturn, 1) := by decide +kernel
theorem dL_law_1284 : decode cL_law 1284 = .ok (.aload_n 1, 1) := by decide +kernel
theorem dL_law_1285 : decode cL_law 1285 = .ok (.aload_n 0, 1) := by decide +kernel
theorem dL_law_1286 : decode cL_law 1286 = .ok (.iload_n 3, 1) := by decide +kernel
theorem dL_law_1287 : decode cL_law 1287 = .ok (.iconst 1, 1) := by decide +kernel
theorem dL_law_1288 : decode cL_law 1288 = .ok (.iadd, 1) := by decide +kernel
theorem dL_law_1289 : decode cL_law 1289 = .ok (.iaload, 1) := by decide +kernel
theorem dL_law_1290 : decode cL_law 1290 = .ok (.invokevirtual 166, 3) := by decide +kernel
theorem dL_law_1293 : decode cL_law 1293 = .ok (.aload_n 2, 1) := by decide +kernel
theorem dL_law_1294 : decode cL_law 1294 = .ok (.aload_n 0, 1) := by decide +kernel
theorem dL_law_1295 : decode cL_law 1295 = .ok (.iload_n 3, 1) := by decide +kernel
theorem dL_law_1296 : decode cL_law 1296 = .ok (.iconst 1, 1) := by decide +kernel
theorem dL_law_1297 : decode cL_law 1297 = .ok (.iadd, 1) := by decide +kernel
theorem dL_law_1298 : decode cL_law 1298 = .ok (.iaload, 1) := by decide +kernel
theorem dL_law_1299 : decode cL_law 1299 = .ok (.invokevirtual 169, 3) := by decide +kernel
theorem dL_law_1302 : decode cL_law 1302 = .ok (.if_icmp .eq 75, 3) := by decide +kernel
theorem dL_law_1305 : decode cL_law 1305 = .ok (.iconst 0, 1) := by decide +kernel
theorem dL_law_1306 : decode cL_law 1306 = .ok (.ireturn, 1) := by decide +kernel
theorem dL_law_1307 : decode cL_law 1307 = .ok (.aload_n 1, 1) := by decide +kernel
theorem dL_law_1308 : decode cL_law 1308 = .ok (.aload_n 0, 1) := by decide +kernel
theorem dL_law_1309 : decode cL_law 1309 = .ok (.iload_n 3, 1) := by decide +kernel
theorem dL_law_1310 : decode cL_law 1310 = .ok (.iconst 1, 1) := by decide +kernel
theorem dL_law_1311 : decode cL_law 1311 = .ok (.iadd, 1) := by decide +kernel
theorem dL_law_1312 : decode cL_law 1312 = .ok (.iaload, 1) := by decide +kernel
theorem dL_law_1313 : decode cL_law 1313 = .ok (.aload_n 0, 1) := by decide +kernel
theorem dL_law_1314 : decode cL_law 1314 = .ok (.iload_n 3, 1) := by decide +kernel
theorem dL_law_1315 : decode cL_law 1315 = .ok (.iconst 2, 1) := by decide +kernel
theorem dL_law_1316 : decode cL_law 1316 = .ok (.iadd, 1) := by decide +kernel
theorem dL_law_1317 : decode cL_law 1317 = .ok (.iaload, 1) := by decide +kernel
theorem dL_law_1318 : decode cL_law 1318 = .ok (.invokevirtual 170, 3) := by decide +kernel
theorem dL_law_1321 : decode cL_law 1321 = .ok (.aload_n 2, 1) := by decide +kernel
theorem dL_law_1322 : decode cL_law 1322 = .ok (.aload_n 0, 1) := by decide +kernel
theorem dL_law_1323 : decode cL_law 1323 = .ok (.iload_n 3, 1) := by decide +kernel
theorem dL_law_1324 : decode cL_law 1324 = .ok (.iconst 1, 1) := by decide +kernel
theorem dL_law_1325 : decode cL_law 1325 = .ok (.iadd, 1) := by decide +kernel
theorem dL_law_1326 : decode cL_law 1326 = .ok (.iaload, 1) := by decide +kernel
theorem dL_law_1327 : decode cL_law 1327 = .ok (.aload_n 0, 1) := by decide +kernel
theorem dL_law_1328 : decode cL_law 1328 = .ok (.iload_n 3, 1) := by decide +kernel
theorem dL_law_1329 : decode cL_law 1329 = .ok (.iconst 2, 1) := by decide +kernel
theorem dL_law_1330 : decode cL_law 1330 = .ok (.iadd, 1) := by decide +kernel
theorem dL_law_1331 : decode cL_law 1331 = .ok (.iaload, 1) := by decide +kernel
theorem dL_law_1332 : decode cL_law 1332 = .ok (.invokevirtual 173, 3) := by decide +kernel
theorem dL_law_1335 : decode cL_law 1335 = .ok (.if_icmp .eq 42, 3) := by decide +kernel
theorem dL_law_1338 : decode cL_law 1338 = .ok (.iconst 0, 1) := by decide +kernel
theorem dL_law_1339 : decode cL_law 1339 = .ok (.ireturn, 1) := by decide +kernel
theorem dL_law_1340 : decode cL_law 1340 = .ok (.aload_n 1, 1) := by decide +kernel
theorem dL_law_1341 : decode cL_law 1341 = .ok (.aload_n 0, 1) := by decide +kernel
theorem dL_law_1342 : decode cL_law 1342 = .ok (.iload_n 3, 1) := by decide +kernel
theorem dL_law_1343 : decode cL_law 1343 = .ok (.iconst 1, 1) := by decide +kernel
theorem dL_law_1344 : decode cL_law 1344 = .ok (.iadd, 1) := by decide +kernel
theorem dL_law_1345 : decode cL_law 1345 = .ok (.iaload, 1) := by decide +kernel
theorem dL_law_1346 : decode cL_law 1346 = .ok (.invokevirtual 174, 3) := by decide +kernel
theorem dL_law_1349 : decode cL_law 1349 = .ok (.aload_n 2, 1) := by decide +kernel
theorem dL_law_1350 : decode cL_law 1350 = .ok (.aload_n 0, 1) := by decide +kernel
theorem dL_law_1351 : decode cL_law 1351 = .ok (.iload_n 3, 1) := by decide +kernel
theorem dL_law_1352 : decode cL_law 1352 = .ok (.iconst 1, 1) := by decide +kernel
theorem dL_law_1353 : decode cL_law 1353 = .ok (.iadd, 1) := by decide +kernel
theorem dL_law_1354 : decode cL_law 1354 = .ok (.iaload, 1) := by decide +kernel
theorem dL_law_1355 : decode cL_law 1355 = .ok (.invokevirtual 177, 3) := by decide +kernel
theorem dL_law_1358 : decode cL_law 1358 = .ok (.if_icmp .eq 19, 3) := by decide +kernel
theorem dL_law_1361 : decode cL_law 1361 = .ok (.iconst 0, 1) := by decide +kernel
theorem dL_law_1362 : decode cL_law 1362 = .ok (.ireturn, 1) := by decide +kernel
theorem dL_law_1363 : decode cL_law 1363 = .ok (.aload_n 1, 1) := by decide +kernel
theorem dL_law_1364 : decode cL_law 1364 = .ok (.invokevirtual 178, 3) := by decide +kernel
theorem dL_law_1367 : decode cL_law 1367 = .ok (.aload_n 2, 1) := by decide +kernel
theorem dL_law_1368 : decode cL_law 1368 = .ok (.invokevirtual 182, 3) := by decide +kernel
theorem dL_law_1371 : decode cL_law 1371 = .ok (.lcmp, 1) := by decide +kernel
theorem dL_law_1372 : decode cL_law 1372 = .ok (.ifCond .eq 5, 3) := by decide +kernel
theorem dL_law_1375 : decode cL_law 1375 = .ok (.iconst 0, 1) := by decide +kernel
theorem dL_law_1376 : decode cL_law 1376 = .ok (.ireturn, 1) := by decide +kernel
theorem dL_law_1377 : decode cL_law 1377 = .ok (.iinc 3 6, 3) := by decide +kernel
theorem dL_law_1380 : decode cL_law 1380 = .ok (.goto (-1362), 3) := by decide +kernel
theorem dL_law_1383 : decode cL_law 1383 = .ok (.iconst 1, 1) := by decide +kernel
theorem dL_law_1384 : decode cL_law 1384 = .ok (.ireturn, 1) := by decide +kernel
end
section
/-- the words that hold at every method's entry -/
def zT : List Cond := lw_tbl.filter goodWord
theorem zT_t {w : Cond} (i : Nat) (h : tables_1[i]? = some w) (hg : goodWord w = true) : w ∈ zT := List.mem_filter.mpr ⟨List.mem_append_right _ (List.mem_of_getElem? h), hg⟩
theorem zT_p {w : Cond} (i : Nat) (h : (k2_sels lw_privs)[i]? = some w) (hg : goodWord w = true) : w ∈ zT := List.mem_filter.mpr ⟨List.mem_append_left _ (List.mem_of_getElem? h), hg⟩
def zws (y : MethodName) (cc : ByteArray) (maxL : Nat) (ret : Option FieldType) : List Cond := .code y cc maxL ret :: zT
/-- the state of one side: ints, longs, rows of ints, of longs, of doubles -/
abbrev zS : Type := (Nat → Int32) × (Nat → Int64) × (Nat → Nat → Int32) × (Nat → Nat → Int64) × (Nat → Nat → UInt64)
def zi (σ : zS) (k : Nat) : Int32 := σ.1 k
def zl (σ : zS) (k : Nat) : Int64 := σ.2.1 k
def za (σ : zS) (k : Nat) : Nat → Int32 := σ.2.2.1 k
def zj (σ : zS) (k : Nat) : Nat → Int64 := σ.2.2.2.1 k
def zd (σ : zS) (k : Nat) : Nat → UInt64 := σ.2.2.2.2 k
def wi (σ : zS) (k : Nat) (v : Int32) : zS := (fun j => if j = k then v else σ.1 j, σ.2)
def wl (σ : zS) (k : Nat) (v : Int64) : zS := (σ.1, fun j => if j = k then v else σ.2.1 j, σ.2.2)
def wa (σ : zS) (k i : Nat) (v : Int32) : zS := (σ.1, σ.2.1, fun j => if j = k then upd (σ.2.2.1 k) i v else σ.2.2.1 j, σ.2.2.2)
def wj (σ : zS) (k i : Nat) (v : Int64) : zS := (σ.1, σ.2.1, σ.2.2.1, fun j => if j = k then vp_updL (σ.2.2.2.1 k) i v else σ.2.2.2.1 j, σ.2.2.2.2)
def wd (σ : zS) (k i : Nat) (v : UInt64) : zS := (σ.1, σ.2.1, σ.2.2.1, σ.2.2.2.1, fun j => if j = k then vf_upd (σ.2.2.2.2 k) i v else σ.2.2.2.2 j)
/-- what a stretch of code does: nothing told (none), or what it leaves -/
def zy1 {α γ : Type} (o : Option α) (k : α → Option γ) : Option γ := match o with
  | none => none
  | some q => k q
def zy2 {α β γ : Type} (o : Option (α × β)) (k : α → β → Option γ) : Option γ := match o with
  | none => none
  | some q => k q.1 q.2
def zy3 {α β δ γ : Type} (o : Option (α × β × δ)) (k : α → β → δ → Option γ) : Option γ := match o with
  | none => none
  | some q => k q.1 q.2.1 q.2.2
def zy4 {α β δ ε γ : Type} (o : Option (α × β × δ × ε)) (k : α → β → δ → ε → Option γ) : Option γ := match o with
  | none => none
  | some q => k q.1 q.2.1 q.2.2.1 q.2.2.2
def zy5 {α β δ ε ζ γ : Type} (o : Option (α × β × δ × ε × ζ)) (k : α → β → δ → ε → ζ → Option γ) : Option γ := match o with
  | none => none
  | some q => k q.1 q.2.1 q.2.2.1 q.2.2.2.1 q.2.2.2.2
def zg {β : Type} (b : Bool) (o : Option β) : Option β := if b = true then o else none
def zq (i : Int32) (n : Nat) : Bool := decide (¬ (i < 0 ∨ n ≤ i.toNatClampNeg))
theorem zq_in {i : Int32} {n : Nat} (h : zq i n = true) : vp_in i n := by
  unfold zq at h
  have h2 : ¬ (i < 0 ∨ n ≤ i.toNatClampNeg) := of_decide_eq_true h
  exact h2
/-- a boolean that an int is -/
def zz (r : Int32) : Bool := decide (r = 0 ∨ r = 1)
theorem zz_n {r : Int32} (h : zz r = true) : narrow .boolean (.int r) = .int r := by
  rcases of_decide_eq_true h with rfl | rfl <;> rfl
abbrev zK : Type := (Program × Launch × Env × Room × State) × (MethodId × Array Value × List Frame × Method × Code) × ((State → Prop) × va_G × (Nat → Prop) × Nat × Nat)
abbrev zO (S : Type) : Type := (S → va_W) × List (ClassId × FieldType) × ((Nat → Prop) → State → Heap → Prop)
def zW {S : Type} (C : zK) (ω : zO S) (nL : Nat) (pc : Nat) (lv : List (Nat × Value)) (st : List Value) (σ : S) : Prop :=
  ∀ (H : Heap) (locs : List Loc) (ls : Array Slot), va_P C.2.2.2.1 vwCl (ω.1 σ) H → va_D C.2.2.2.2.1 (ω.1 σ) → va_S C.2.2.2.2.1 C.1.2.2.2.2.heap H locs → lv_has ls nL lv →
    W C.1.1 C.1.2.1 C.1.2.2.1 C.1.2.2.2.1 C.1.2.2.2.2 C.2.1.1 C.2.1.2.1 C.2.1.2.2.1 C.2.1.2.2.2.1 C.2.1.2.2.2.2 H locs C.2.2.2.2.2.1 C.2.2.2.2.2.2 C.2.2.1 (F0 C.2.1.1 pc ls st)
/-- what a world says beside its cells is kept -/
def zX (X : (Nat → Prop) → State → Heap → Prop) : Prop :=
  (∀ (A B : Nat → Prop) (U : State) (H H' : Heap), X A U H → (∀ a : Nat, a < H.size → ¬ A a → H'[a]? = H[a]?) → (∀ q, B q → A q) → X B U H') ∧ (∀ (A : Nat → Prop) (s U : State) (H : Heap), s.WarmedH U.vm → X A s H → X A U H) ∧ ∀ (A : Nat → Prop) (s U : State) (H : Heap), U.vm = s.vm → X A s H → X A U H
def zOK {S : Type} (C : zK) (ω : zO S) (cc : ByteArray) (own : String) (nL fr lo : Nat) : Prop :=
  C.1.1.tables.exec = Jvm.exec ∧ C.2.1.2.2.2.2.code = cc ∧ C.2.1.2.2.2.2.maxLocals = nL ∧ C.1.2.2.2.2.vm.findClass own = some C.2.1.1.cls ∧ (∀ w ∈ zT, w.before C.2.1.2.1 C.1.2.2.2.2 = true) ∧ va_K C.2.2.2.1 vwCl ω.2.1 C.1.2.2.2.2 ∧ fr ≤ C.1.2.2.2.1.frames ∧ lo ≤ C.1.2.2.2.1.locals ∧ (∀ q : Nat, C.1.2.2.2.2.heap.size ≤ q → C.2.2.2.2.1 q) ∧ zX ω.2.2 ∧ ω.2.2 C.2.2.2.2.1 C.1.2.2.2.2 C.1.2.2.2.2.heap ∧ C.2.2.2.2.2.1 ≤ C.1.2.2.2.1.cells ∧ C.2.2.2.2.2.2 ≤ C.1.2.2.2.1.slots
def zG {S α : Type} (C : zK) (ω : zO S) (nL : Nat) (E : α → Prop) (o : Option α) (pc : Nat) (lv : List (Nat × Value)) (st : List Value) (σ : S) : Prop :=
  ∀ v, o = some v → E v → zW C ω nL pc lv st σ
/-- a method's start and end -/
def zPre {S : Type} (D : va_G) (ω : zO S) (σ : S) (sz : Nat) (U : State) : Prop := U.heap.size = sz ∧ va_P D vwCl (ω.1 σ) U.heap ∧ va_K D vwCl ω.2.1 U ∧ va_D (fun _ => True) (ω.1 σ) ∧ ω.2.2 (va_A (ω.1 σ) sz) U U.heap
def zPost {S : Type} (D : va_G) (ω : zO S) (σ : S) (sz : Nat) (τ : S) (t : State) : Prop := va_P D vwCl (ω.1 τ) t.heap ∧ va_K D vwCl ω.2.1 t ∧ va_D (va_A (ω.1 σ) sz) (ω.1 τ)
def zMI {S : Type} (l : Launch) (D : va_G) (ω : zO S) (y : MethodName) (ws : List Cond) (fr lo : Nat) (av : List Value) (σ : S) (r : Int32 × S) : Prop :=
  ∀ sz : Nat, Met l y ws ({ frames := fr, cells := 0, slots := 0, locals := lo }) (va_Pc av (zPre D ω σ sz)) (va_Qi (fun (x : Int32) (τ : S) => (x, τ) = r) (zPost D ω σ sz) (va_A (ω.1 σ) sz)) 0 0 (va_A (ω.1 σ) sz)
def zML {S : Type} (l : Launch) (D : va_G) (ω : zO S) (y : MethodName) (ws : List Cond) (fr lo : Nat) (av : List Value) (σ : S) (r : Int64 × S) : Prop :=
  ∀ sz : Nat, Met l y ws ({ frames := fr, cells := 0, slots := 0, locals := lo }) (va_Pc av (zPre D ω σ sz)) (va_Ql (fun (x : Int64) (τ : S) => (x, τ) = r) (zPost D ω σ sz) (va_A (ω.1 σ) sz)) 0 0 (va_A (ω.1 σ) sz)
def zMV {S : Type} (l : Launch) (D : va_G) (ω : zO S) (y : MethodName) (ws : List Cond) (fr lo : Nat) (av : List Value) (σ : S) (r : S) : Prop :=
  ∀ sz : Nat, Met l y ws ({ frames := fr, cells := 0, slots := 0, locals := lo }) (va_Pc av (zPre D ω σ sz)) (va_Qv (fun (τ : S) => τ = r) (zPost D ω σ sz) (va_A (ω.1 σ) sz)) 0 0 (va_A (ω.1 σ) sz)
/-- the ends of a walk -/
def zRI {S : Type} (C : zK) (ω : zO S) (nL : Nat) (cc : ByteArray) (r : Int32 × S) : Prop := ∀ (pc : Nat) (lv : List (Nat × Value)) (x : Int32) (τ : S), decode cc pc = .ok (.ireturn, 1) → (x, τ) = r → zW C ω nL pc lv [.int x] τ
def zRZ {S : Type} (C : zK) (ω : zO S) (nL : Nat) (cc : ByteArray) (r : Int32 × S) : Prop := ∀ (pc : Nat) (lv : List (Nat × Value)) (x : Int32) (τ : S), decode cc pc = .ok (.ireturn, 1) → narrow .boolean (.int x) = .int x → (x, τ) = r → zW C ω nL pc lv [.int x] τ
def zRL {S : Type} (C : zK) (ω : zO S) (nL : Nat) (cc : ByteArray) (r : Int64 × S) : Prop := ∀ (pc : Nat) (lv : List (Nat × Value)) (x : Int64) (τ : S), decode cc pc = .ok (.lreturn, 1) → (x, τ) = r → zW C ω nL pc lv [.long x] τ
def zRV {S : Type} (C : zK) (ω : zO S) (nL : Nat) (cc : ByteArray) (r : S) : Prop := ∀ (pc : Nat) (lv : List (Nat × Value)) (τ : S), decode cc pc = .ok (.return_, 1) → τ = r → zW C ω nL pc lv [] τ
theorem zws_spec {y : MethodName} {cc : ByteArray} {maxL : Nat} {ret : Option FieldType} {av : Array Value} {s : State} (h : ∀ w ∈ zws y cc maxL ret, w.before av s = true) : ∀ w ∈ zT, w.before av s = true := fun w hw => h w (List.mem_cons_of_mem _ hw)
set_option maxHeartbeats 4000000 in
theorem zm_I {S : Type} {l : Launch} {D : va_G} {ω : zO S} {y : MethodName} {cc : ByteArray} {maxL fr lo : Nat} {av : List Value} {lv : List (Nat × Value)} {σ : S} {o : Option (Int32 × S)} {r : Int32 × S} (hy : plainName y.cls = true) (hX : zX ω.2.2) (hle : (lg_sl av).length ≤ maxL) (hlv : lv_args 0 av = lv)
    (body : ∀ C : zK, C.1.2.1 = l → C.2.2.2.1 = D → zOK C ω cc y.cls maxL fr lo → zRI C ω maxL cc r → zG C ω maxL (fun v => v = r) o 0 lv [] σ) (h : o = some r) : zMI l D ω y (zws y cc maxL (some .int)) fr lo av σ r := by
  intro sz
  refine Met.ofW (cc := cc) (maxL := maxL) (ret := some .int) hy rfl ?_
  intro p e s m args below meth c s₁ B hml hv
  obtain ⟨rfl, hsz, hP, hK, hD0, hx0⟩ := hv
  have hts := atoms_spec (ws := zws y cc maxL (some .int)) B.pre
  have hown : s.vm.findClass y.cls = some m.cls := findClass_of_methodNamed B.named
  subst hsz
  have hl := lv_entry av (n := maxL) hle
  rw [lg_entry_eq]
  rw [hlv] at hl
  let C : zK := ((p, l, e, (headSpec (zws y cc maxL (some .int)) { frames := fr, cells := 0, slots := 0, locals := lo }).room, s), (m, av.toArray, below, meth, c), (MQ below (va_Qi (fun (x : Int32) (τ : S) => (x, τ) = r) (zPost D ω σ s.heap.size) (va_A (ω.1 σ) s.heap.size)) av.toArray s 0 0 (va_A (ω.1 σ) s.heap.size), D, va_A (ω.1 σ) s.heap.size, 0, 0))
  have hb := B.bytes
  have hr := B.returns
  have hlocks := B.notSynchronized
  have hxx := B.exec
  have hC : zOK C ω cc y.cls maxL fr lo := ⟨B.exec, B.bytes, hml, hown, zws_spec hts, hK, Nat.le_refl _, Nat.le_refl _, fun q h => Or.inr h, hX, hx0, Nat.zero_le _, Nat.zero_le _⟩
  have hR : zRI C ω maxL cc r := by
    intro pc lv' x τ hd hr' H locs ls qP qD qS ql
    exact W.iret (v := x) hxx hb hr (fun t ht hW => ⟨⟨x, τ, rfl, hr', by rw [ht]; exact qP, va_K.moved hW.alike hK, qD⟩, qS.F ht⟩) qS.2.2 hd
  exact body C rfl rfl hC hR r h rfl s.heap [] _ hP hD0.self va_S.rf hl
set_option maxHeartbeats 4000000 in
theorem zm_Z {S : Type} {l : Launch} {D : va_G} {ω : zO S} {y : MethodName} {cc : ByteArray} {maxL fr lo : Nat} {av : List Value} {lv : List (Nat × Value)} {σ : S} {o : Option (Int32 × S)} {r : Int32 × S} (hy : plainName y.cls = true) (hX : zX ω.2.2) (hle : (lg_sl av).length ≤ maxL) (hlv : lv_args 0 av = lv)
    (body : ∀ C : zK, C.1.2.1 = l → C.2.2.2.1 = D → zOK C ω cc y.cls maxL fr lo → zRZ C ω maxL cc r → zG C ω maxL (fun v => v = r) o 0 lv [] σ) (h : o = some r) : zMI l D ω y (zws y cc maxL (some .boolean)) fr lo av σ r := by
  intro sz
  refine Met.ofW (cc := cc) (maxL := maxL) (ret := some .boolean) hy rfl ?_
  intro p e s m args below meth c s₁ B hml hv
  obtain ⟨rfl, hsz, hP, hK, hD0, hx0⟩ := hv
  have hts := atoms_spec (ws := zws y cc maxL (some .boolean)) B.pre
  have hown : s.vm.findClass y.cls = some m.cls := findClass_of_methodNamed B.named
  subst hsz
  have hl := lv_entry av (n := maxL) hle
  rw [lg_entry_eq]
  rw [hlv] at hl
  let C : zK := ((p, l, e, (headSpec (zws y cc maxL (some .boolean)) { frames := fr, cells := 0, slots := 0, locals := lo }).room, s), (m, av.toArray, below, meth, c), (MQ below (va_Qi (fun (x : Int32) (τ : S) => (x, τ) = r) (zPost D ω σ s.heap.size) (va_A (ω.1 σ) s.heap.size)) av.toArray s 0 0 (va_A (ω.1 σ) s.heap.size), D, va_A (ω.1 σ) s.heap.size, 0, 0))
  have hb := B.bytes
  have hr := B.returns
  have hlocks := B.notSynchronized
  have hxx := B.exec
  have hC : zOK C ω cc y.cls maxL fr lo := ⟨B.exec, B.bytes, hml, hown, zws_spec hts, hK, Nat.le_refl _, Nat.le_refl _, fun q h => Or.inr h, hX, hx0, Nat.zero_le _, Nat.zero_le _⟩
  have hR : zRZ C ω maxL cc r := by
    intro pc lv' x τ hd hn hr' H locs ls qP qD qS ql
    exact W.zret (v := x) (ty := .boolean) hxx hb hr hn (fun t ht hW => ⟨⟨x, τ, rfl, hr', by rw [ht]; exact qP, va_K.moved hW.alike hK, qD⟩, qS.F ht⟩) qS.2.2 hd
  exact body C rfl rfl hC hR r h rfl s.heap [] _ hP hD0.self va_S.rf hl
set_option maxHeartbeats 4000000 in
theorem zm_L {S : Type} {l : Launch} {D : va_G} {ω : zO S} {y : MethodName} {cc : ByteArray} {maxL fr lo : Nat} {av : List Value} {lv : List (Nat × Value)} {σ : S} {o : Option (Int64 × S)} {r : Int64 × S} (hy : plainName y.cls = true) (hX : zX ω.2.2) (hle : (lg_sl av).length ≤ maxL) (hlv : lv_args 0 av = lv)
    (body : ∀ C : zK, C.1.2.1 = l → C.2.2.2.1 = D → zOK C ω cc y.cls maxL fr lo → zRL C ω maxL cc r → zG C ω maxL (fun v => v = r) o 0 lv [] σ) (h : o = some r) : zML l D ω y (zws y cc maxL (some .long)) fr lo av σ r := by
  intro sz
  refine Met.ofW (cc := cc) (maxL := maxL) (ret := some .long) hy rfl ?_
  intro p e s m args below meth c s₁ B hml hv
  obtain ⟨rfl, hsz, hP, hK, hD0, hx0⟩ := hv
  have hts := atoms_spec (ws := zws y cc maxL (some .long)) B.pre
  have hown : s.vm.findClass y.cls = some m.cls := findClass_of_methodNamed B.named
  subst hsz
  have hl := lv_entry av (n := maxL) hle
  rw [lg_entry_eq]
  rw [hlv] at hl
  let C : zK := ((p, l, e, (headSpec (zws y cc maxL (some .long)) { frames := fr, cells := 0, slots := 0, locals := lo }).room, s), (m, av.toArray, below, meth, c), (MQ below (va_Ql (fun (x : Int64) (τ : S) => (x, τ) = r) (zPost D ω σ s.heap.size) (va_A (ω.1 σ) s.heap.size)) av.toArray s 0 0 (va_A (ω.1 σ) s.heap.size), D, va_A (ω.1 σ) s.heap.size, 0, 0))
  have hb := B.bytes
  have hr := B.returns
  have hlocks := B.notSynchronized
  have hxx := B.exec
  have hC : zOK C ω cc y.cls maxL fr lo := ⟨B.exec, B.bytes, hml, hown, zws_spec hts, hK, Nat.le_refl _, Nat.le_refl _, fun q h => Or.inr h, hX, hx0, Nat.zero_le _, Nat.zero_le _⟩
  have hR : zRL C ω maxL cc r := by
    intro pc lv' x τ hd hr' H locs ls qP qD qS ql
    exact W.lret (v := x) hxx hb hr (fun t ht hW => ⟨⟨x, τ, rfl, hr', by rw [ht]; exact qP, va_K.moved hW.alike hK, qD⟩, qS.F ht⟩) qS.2.2 hd
  exact body C rfl rfl hC hR r h rfl s.heap [] _ hP hD0.self va_S.rf hl
set_option maxHeartbeats 4000000 in
theorem zm_V {S : Type} {l : Launch} {D : va_G} {ω : zO S} {y : MethodName} {cc : ByteArray} {maxL fr lo : Nat} {av : List Value} {lv : List (Nat × Value)} {σ : S} {o : Option S} {r : S} (hy : plainName y.cls = true) (hX : zX ω.2.2) (hle : (lg_sl av).length ≤ maxL) (hlv : lv_args 0 av = lv)
    (body : ∀ C : zK, C.1.2.1 = l → C.2.2.2.1 = D → zOK C ω cc y.cls maxL fr lo → zRV C ω maxL cc r → zG C ω maxL (fun v => v = r) o 0 lv [] σ) (h : o = some r) : zMV l D ω y (zws y cc maxL none) fr lo av σ r := by
  intro sz
  refine Met.ofW (cc := cc) (maxL := maxL) (ret := none) hy rfl ?_
  intro p e s m args below meth c s₁ B hml hv
  obtain ⟨rfl, hsz, hP, hK, hD0, hx0⟩ := hv
  have hts := atoms_spec (ws := zws y cc maxL none) B.pre
  have hown : s.vm.findClass y.cls = some m.cls := findClass_of_methodNamed B.named
  subst hsz
  have hl := lv_entry av (n := maxL) hle
  rw [lg_entry_eq]
  rw [hlv] at hl
  let C : zK := ((p, l, e, (headSpec (zws y cc maxL none) { frames := fr, cells := 0, slots := 0, locals := lo }).room, s), (m, av.toArray, below, meth, c), (MQ below (va_Qv (fun (τ : S) => τ = r) (zPost D ω σ s.heap.size) (va_A (ω.1 σ) s.heap.size)) av.toArray s 0 0 (va_A (ω.1 σ) s.heap.size), D, va_A (ω.1 σ) s.heap.size, 0, 0))
  have hb := B.bytes
  have hr := B.returns
  have hlocks := B.notSynchronized
  have hxx := B.exec
  have hC : zOK C ω cc y.cls maxL fr lo := ⟨B.exec, B.bytes, hml, hown, zws_spec hts, hK, Nat.le_refl _, Nat.le_refl _, fun q h => Or.inr h, hX, hx0, Nat.zero_le _, Nat.zero_le _⟩
  have hR : zRV C ω maxL cc r := by
    intro pc lv' τ hd hr' H locs ls qP qD qS ql
    exact W.vret hxx hb hr (fun t ht hW => ⟨⟨τ, rfl, hr', by rw [ht]; exact qP, va_K.moved hW.alike hK, qD⟩, qS.F ht⟩) qS.2.2 hd
  exact body C rfl rfl hC hR r h rfl s.heap [] _ hP hD0.self va_S.rf hl
end
section
theorem gg_iconst {S α : Type} {C : zK} {ω : zO S} {cc : ByteArray} {own : String} {nL fr lo pc : Nat} {E : α → Prop} {o : Option α} {lv : List (Nat × Value)} {st : List Value} {σ : S} (hC : zOK C ω cc own nL fr lo) {n : Int} {x : Int32} (hd : decode cc pc = .ok (.iconst n, 1)) (hx : Int32.ofInt n = x) (k : zG C ω nL E o (pc + 1) lv (.int x :: st) σ) : zG C ω nL E o pc lv st σ :=
  fun v hv hE H locs ls hP hD hS hl => lv_iconst hC.1 hC.2.1 hd hx (k v hv hE H locs ls hP hD hS hl)
theorem gg_bipush {S α : Type} {C : zK} {ω : zO S} {cc : ByteArray} {own : String} {nL fr lo pc : Nat} {E : α → Prop} {o : Option α} {lv : List (Nat × Value)} {st : List Value} {σ : S} (hC : zOK C ω cc own nL fr lo) {n : Int} {x : Int32} (hd : decode cc pc = .ok (.bipush n, 2)) (hx : (Int8.ofInt n).toInt32 = x) (k : zG C ω nL E o (pc + 2) lv (.int x :: st) σ) : zG C ω nL E o pc lv st σ :=
  fun v hv hE H locs ls hP hD hS hl => lv_bipush hC.1 hC.2.1 hd hx (k v hv hE H locs ls hP hD hS hl)
theorem gg_sipush {S α : Type} {C : zK} {ω : zO S} {cc : ByteArray} {own : String} {nL fr lo pc : Nat} {E : α → Prop} {o : Option α} {lv : List (Nat × Value)} {st : List Value} {σ : S} (hC : zOK C ω cc own nL fr lo) {n : Int} {x : Int32} (hd : decode cc pc = .ok (.sipush n, 3)) (hx : (Int16.ofInt n).toInt32 = x) (k : zG C ω nL E o (pc + 3) lv (.int x :: st) σ) : zG C ω nL E o pc lv st σ :=
  fun v hv hE H locs ls hP hD hS hl => lv_sipush hC.1 hC.2.1 hd hx (k v hv hE H locs ls hP hD hS hl)
theorem gg_lconst {S α : Type} {C : zK} {ω : zO S} {cc : ByteArray} {own : String} {nL fr lo pc : Nat} {E : α → Prop} {o : Option α} {lv : List (Nat × Value)} {st : List Value} {σ : S} (hC : zOK C ω cc own nL fr lo) {n : Fin 2} {x : Int64} (hd : decode cc pc = .ok (.lconst n, 1)) (hx : Int64.ofNat (n : Nat) = x) (k : zG C ω nL E o (pc + 1) lv (.long x :: st) σ) : zG C ω nL E o pc lv st σ :=
  fun v hv hE H locs ls hP hD hS hl => lv_lconst hC.1 hC.2.1 hd hx (k v hv hE H locs ls hP hD hS hl)
theorem gg_dconst0 {S α : Type} {C : zK} {ω : zO S} {cc : ByteArray} {own : String} {nL fr lo pc : Nat} {E : α → Prop} {o : Option α} {lv : List (Nat × Value)} {st : List Value} {σ : S} (hC : zOK C ω cc own nL fr lo)  (hd : decode cc pc = .ok (.dconst 0, 1))  (k : zG C ω nL E o (pc + 1) lv (.double FP.dconst0 :: st) σ) : zG C ω nL E o pc lv st σ :=
  fun v hv hE H locs ls hP hD hS hl => lv_dconst0 hC.1 hC.2.1 hd (k v hv hE H locs ls hP hD hS hl)
theorem gg_ldc {S α : Type} {C : zK} {ω : zO S} {cc : ByteArray} {own : String} {nL fr lo pc : Nat} {E : α → Prop} {o : Option α} {lv : List (Nat × Value)} {st : List Value} {σ : S} (hC : zOK C ω cc own nL fr lo) {i : Nat} {x : Int32} (hd : decode cc pc = .ok (.ldc i, 2)) (hw : Cond.constant own i x ∈ zT) (k : zG C ω nL E o (pc + 2) lv (.int x :: st) σ) : zG C ω nL E o pc lv st σ :=
  fun v hv hE H locs ls hP hD hS hl => lv_ldc hC.1 hC.2.1 hC.2.2.2.1 (hC.2.2.2.2.1 _ hw) hd (k v hv hE H locs ls hP hD hS hl)
theorem gg_ldcf {S α : Type} {C : zK} {ω : zO S} {cc : ByteArray} {own : String} {nL fr lo pc : Nat} {E : α → Prop} {o : Option α} {lv : List (Nat × Value)} {st : List Value} {σ : S} (hC : zOK C ω cc own nL fr lo) {i : Nat} {x : UInt32} (hd : decode cc pc = .ok (.ldc i, 2)) (hw : Cond.constantFloat own i x ∈ zT) (k : zG C ω nL E o (pc + 2) lv (.float x :: st) σ) : zG C ω nL E o pc lv st σ :=
  fun v hv hE H locs ls hP hD hS hl => lv_ldcf hC.1 hC.2.1 hC.2.2.2.1 (hC.2.2.2.2.1 _ hw) hd (k v hv hE H locs ls hP hD hS hl)
theorem gg_ldc2 {S α : Type} {C : zK} {ω : zO S} {cc : ByteArray} {own : String} {nL fr lo pc : Nat} {E : α → Prop} {o : Option α} {lv : List (Nat × Value)} {st : List Value} {σ : S} (hC : zOK C ω cc own nL fr lo) {i : Nat} {x : Int64} (hd : decode cc pc = .ok (.ldc2_w i, 3)) (hw : Cond.constantLong own i x ∈ zT) (k : zG C ω nL E o (pc + 3) lv (.long x :: st) σ) : zG C ω nL E o pc lv st σ :=
  fun v hv hE H locs ls hP hD hS hl => lv_ldc2 hC.1 hC.2.1 hC.2.2.2.1 (hC.2.2.2.2.1 _ hw) hd (k v hv hE H locs ls hP hD hS hl)
theorem gg_ldc2d {S α : Type} {C : zK} {ω : zO S} {cc : ByteArray} {own : String} {nL fr lo pc : Nat} {E : α → Prop} {o : Option α} {lv : List (Nat × Value)} {st : List Value} {σ : S} (hC : zOK C ω cc own nL fr lo) {i : Nat} {x : UInt64} (hd : decode cc pc = .ok (.ldc2_w i, 3)) (hw : Cond.constantDouble own i x ∈ zT) (k : zG C ω nL E o (pc + 3) lv (.double x :: st) σ) : zG C ω nL E o pc lv st σ :=
  fun v hv hE H locs ls hP hD hS hl => lv_ldc2d hC.1 hC.2.1 hC.2.2.2.1 (hC.2.2.2.2.1 _ hw) hd (k v hv hE H locs ls hP hD hS hl)
theorem gg_iload_n {S α : Type} {C : zK} {ω : zO S} {cc : ByteArray} {own : String} {nL fr lo pc : Nat} {E : α → Prop} {o : Option α} {lv : List (Nat × Value)} {st : List Value} {σ : S} (hC : zOK C ω cc own nL fr lo) {k4 : Fin 4} {i : Nat} {x : Int32} (hd : decode cc pc = .ok (.iload_n k4, 1)) (hi : (k4 : Nat) = i) (j : Nat) (hj : lv[j]? = some (i, .int x)) (k : zG C ω nL E o (pc + 1) lv (.int x :: st) σ) : zG C ω nL E o pc lv st σ :=
  fun v hv hE H locs ls hP hD hS hl => lv_iload_n hC.1 hC.2.1 hd hi (lv_at hl j hj) (k v hv hE H locs ls hP hD hS hl)
theorem gg_iload {S α : Type} {C : zK} {ω : zO S} {cc : ByteArray} {own : String} {nL fr lo pc : Nat} {E : α → Prop} {o : Option α} {lv : List (Nat × Value)} {st : List Value} {σ : S} (hC : zOK C ω cc own nL fr lo) {i : Nat} {x : Int32} (hd : decode cc pc = .ok (.iload i, 2)) (j : Nat) (hj : lv[j]? = some (i, .int x)) (k : zG C ω nL E o (pc + 2) lv (.int x :: st) σ) : zG C ω nL E o pc lv st σ :=
  fun v hv hE H locs ls hP hD hS hl => lv_iload hC.1 hC.2.1 hd (lv_at hl j hj) (k v hv hE H locs ls hP hD hS hl)
theorem gg_istore_n {S α : Type} {C : zK} {ω : zO S} {cc : ByteArray} {own : String} {nL fr lo pc : Nat} {E : α → Prop} {o : Option α} {lv : List (Nat × Value)} {st : List Value} {σ : S} (hC : zOK C ω cc own nL fr lo) {k4 : Fin 4} {i : Nat} {x : Int32} {lv' : List (Nat × Value)} (hd : decode cc pc = .ok (.istore_n k4, 1)) (hi : (k4 : Nat) = i) (hn : i < nL) (hl' : (i, Value.int x) :: lv.filter (fun q => !(q.1 == i) && !(q.1 + 1 == i && q.2.category == 2)) = lv') (k : zG C ω nL E o (pc + 1) lv' st σ) : zG C ω nL E o pc lv (.int x :: st) σ :=
  fun v hv hE H locs ls hP hD hS hl => lv_istore_n hC.1 hC.2.1 hd hi hl hn hl' (fun ls' h' => k v hv hE H locs ls' hP hD hS h')
theorem gg_istore {S α : Type} {C : zK} {ω : zO S} {cc : ByteArray} {own : String} {nL fr lo pc : Nat} {E : α → Prop} {o : Option α} {lv : List (Nat × Value)} {st : List Value} {σ : S} (hC : zOK C ω cc own nL fr lo) {i : Nat} {x : Int32} {lv' : List (Nat × Value)} (hd : decode cc pc = .ok (.istore i, 2)) (hn : i < nL) (hl' : (i, Value.int x) :: lv.filter (fun q => !(q.1 == i) && !(q.1 + 1 == i && q.2.category == 2)) = lv') (k : zG C ω nL E o (pc + 2) lv' st σ) : zG C ω nL E o pc lv (.int x :: st) σ :=
  fun v hv hE H locs ls hP hD hS hl => lv_istore hC.1 hC.2.1 hd hl hn hl' (fun ls' h' => k v hv hE H locs ls' hP hD hS h')
theorem gg_lload_n {S α : Type} {C : zK} {ω : zO S} {cc : ByteArray} {own : String} {nL fr lo pc : Nat} {E : α → Prop} {o : Option α} {lv : List (Nat × Value)} {st : List Value} {σ : S} (hC : zOK C ω cc own nL fr lo) {k4 : Fin 4} {i : Nat} {x : Int64} (hd : decode cc pc = .ok (.lload_n k4, 1)) (hi : (k4 : Nat) = i) (j : Nat) (hj : lv[j]? = some (i, .long x)) (k : zG C ω nL E o (pc + 1) lv (.long x :: st) σ) : zG C ω nL E o pc lv st σ :=
  fun v hv hE H locs ls hP hD hS hl => lv_lload_n hC.1 hC.2.1 hd hi (lv_at hl j hj) (k v hv hE H locs ls hP hD hS hl)
theorem gg_lload {S α : Type} {C : zK} {ω : zO S} {cc : ByteArray} {own : String} {nL fr lo pc : Nat} {E : α → Prop} {o : Option α} {lv : List (Nat × Value)} {st : List Value} {σ : S} (hC : zOK C ω cc own nL fr lo) {i : Nat} {x : Int64} (hd : decode cc pc = .ok (.lload i, 2)) (j : Nat) (hj : lv[j]? = some (i, .long x)) (k : zG C ω nL E o (pc + 2) lv (.long x :: st) σ) : zG C ω nL E o pc lv st σ :=
  fun v hv hE H locs ls hP hD hS hl => lv_lload hC.1 hC.2.1 hd (lv_at hl j hj) (k v hv hE H locs ls hP hD hS hl)
theorem gg_lstore_n {S α : Type} {C : zK} {ω : zO S} {cc : ByteArray} {own : String} {nL fr lo pc : Nat} {E : α → Prop} {o : Option α} {lv : List (Nat × Value)} {st : List Value} {σ : S} (hC : zOK C ω cc own nL fr lo) {k4 : Fin 4} {i : Nat} {x : Int64} {lv' : List (Nat × Value)} (hd : decode cc pc = .ok (.lstore_n k4, 1)) (hi : (k4 : Nat) = i) (hn : i + 1 < nL) (hl' : (i, Value.long x) :: lv.filter (fun q => !(q.1 == i) && (!(q.1 == i + 1) && !(q.1 + 1 == i && q.2.category == 2))) = lv') (k : zG C ω nL E o (pc + 1) lv' st σ) : zG C ω nL E o pc lv (.long x :: st) σ :=
  fun v hv hE H locs ls hP hD hS hl => lv_lstore_n hC.1 hC.2.1 hd hi hl hn hl' (fun ls' h' => k v hv hE H locs ls' hP hD hS h')
theorem gg_lstore {S α : Type} {C : zK} {ω : zO S} {cc : ByteArray} {own : String} {nL fr lo pc : Nat} {E : α → Prop} {o : Option α} {lv : List (Nat × Value)} {st : List Value} {σ : S} (hC : zOK C ω cc own nL fr lo) {i : Nat} {x : Int64} {lv' : List (Nat × Value)} (hd : decode cc pc = .ok (.lstore i, 2)) (hn : i + 1 < nL) (hl' : (i, Value.long x) :: lv.filter (fun q => !(q.1 == i) && (!(q.1 == i + 1) && !(q.1 + 1 == i && q.2.category == 2))) = lv') (k : zG C ω nL E o (pc + 2) lv' st σ) : zG C ω nL E o pc lv (.long x :: st) σ :=
  fun v hv hE H locs ls hP hD hS hl => lv_lstore hC.1 hC.2.1 hd hl hn hl' (fun ls' h' => k v hv hE H locs ls' hP hD hS h')
theorem gg_dload_n {S α : Type} {C : zK} {ω : zO S} {cc : ByteArray} {own : String} {nL fr lo pc : Nat} {E : α → Prop} {o : Option α} {lv : List (Nat × Value)} {st : List Value} {σ : S} (hC : zOK C ω cc own nL fr lo) {k4 : Fin 4} {i : Nat} {x : UInt64} (hd : decode cc pc = .ok (.dload_n k4, 1)) (hi : (k4 : Nat) = i) (j : Nat) (hj : lv[j]? = some (i, .double x)) (k : zG C ω nL E o (pc + 1) lv (.double x :: st) σ) : zG C ω nL E o pc lv st σ :=
  fun v hv hE H locs ls hP hD hS hl => lv_dload_n hC.1 hC.2.1 hd hi (lv_at hl j hj) (k v hv hE H locs ls hP hD hS hl)
theorem gg_dload {S α : Type} {C : zK} {ω : zO S} {cc : ByteArray} {own : String} {nL fr lo pc : Nat} {E : α → Prop} {o : Option α} {lv : List (Nat × Value)} {st : List Value} {σ : S} (hC : zOK C ω cc own nL fr lo) {i : Nat} {x : UInt64} (hd : decode cc pc = .ok (.dload i, 2)) (j : Nat) (hj : lv[j]? = some (i, .double x)) (k : zG C ω nL E o (pc + 2) lv (.double x :: st) σ) : zG C ω nL E o pc lv st σ :=
  fun v hv hE H locs ls hP hD hS hl => lv_dload hC.1 hC.2.1 hd (lv_at hl j hj) (k v hv hE H locs ls hP hD hS hl)
theorem gg_dstore_n {S α : Type} {C : zK} {ω : zO S} {cc : ByteArray} {own : String} {nL fr lo pc : Nat} {E : α → Prop} {o : Option α} {lv : List (Nat × Value)} {st : List Value} {σ : S} (hC : zOK C ω cc own nL fr lo) {k4 : Fin 4} {i : Nat} {x : UInt64} {lv' : List (Nat × Value)} (hd : decode cc pc = .ok (.dstore_n k4, 1)) (hi : (k4 : Nat) = i) (hn : i + 1 < nL) (hl' : (i, Value.double x) :: lv.filter (fun q => !(q.1 == i) && (!(q.1 == i + 1) && !(q.1 + 1 == i && q.2.category == 2))) = lv') (k : zG C ω nL E o (pc + 1) lv' st σ) : zG C ω nL E o pc lv (.double x :: st) σ :=
  fun v hv hE H locs ls hP hD hS hl => lv_dstore_n hC.1 hC.2.1 hd hi hl hn hl' (fun ls' h' => k v hv hE H locs ls' hP hD hS h')
theorem gg_dstore {S α : Type} {C : zK} {ω : zO S} {cc : ByteArray} {own : String} {nL fr lo pc : Nat} {E : α → Prop} {o : Option α} {lv : List (Nat × Value)} {st : List Value} {σ : S} (hC : zOK C ω cc own nL fr lo) {i : Nat} {x : UInt64} {lv' : List (Nat × Value)} (hd : decode cc pc = .ok (.dstore i, 2)) (hn : i + 1 < nL) (hl' : (i, Value.double x) :: lv.filter (fun q => !(q.1 == i) && (!(q.1 == i + 1) && !(q.1 + 1 == i && q.2.category == 2))) = lv') (k : zG C ω nL E o (pc + 2) lv' st σ) : zG C ω nL E o pc lv (.double x :: st) σ :=
  fun v hv hE H locs ls hP hD hS hl => lv_dstore hC.1 hC.2.1 hd hl hn hl' (fun ls' h' => k v hv hE H locs ls' hP hD hS h')
theorem gg_aload_n {S α : Type} {C : zK} {ω : zO S} {cc : ByteArray} {own : String} {nL fr lo pc : Nat} {E : α → Prop} {o : Option α} {lv : List (Nat × Value)} {st : List Value} {σ : S} (hC : zOK C ω cc own nL fr lo) {k4 : Fin 4} {i : Nat} {x : Nat} (hd : decode cc pc = .ok (.aload_n k4, 1)) (hi : (k4 : Nat) = i) (j : Nat) (hj : lv[j]? = some (i, .ref x)) (k : zG C ω nL E o (pc + 1) lv (.ref x :: st) σ) : zG C ω nL E o pc lv st σ :=
  fun v hv hE H locs ls hP hD hS hl => lv_aload_n hC.1 hC.2.1 hd hi (lv_at hl j hj) (k v hv hE H locs ls hP hD hS hl)
theorem gg_aload {S α : Type} {C : zK} {ω : zO S} {cc : ByteArray} {own : String} {nL fr lo pc : Nat} {E : α → Prop} {o : Option α} {lv : List (Nat × Value)} {st : List Value} {σ : S} (hC : zOK C ω cc own nL fr lo) {i : Nat} {x : Nat} (hd : decode cc pc = .ok (.aload i, 2)) (j : Nat) (hj : lv[j]? = some (i, .ref x)) (k : zG C ω nL E o (pc + 2) lv (.ref x :: st) σ) : zG C ω nL E o pc lv st σ :=
  fun v hv hE H locs ls hP hD hS hl => lv_aload hC.1 hC.2.1 hd (lv_at hl j hj) (k v hv hE H locs ls hP hD hS hl)
theorem gg_astore_n {S α : Type} {C : zK} {ω : zO S} {cc : ByteArray} {own : String} {nL fr lo pc : Nat} {E : α → Prop} {o : Option α} {lv : List (Nat × Value)} {st : List Value} {σ : S} (hC : zOK C ω cc own nL fr lo) {k4 : Fin 4} {i : Nat} {x : Nat} {lv' : List (Nat × Value)} (hd : decode cc pc = .ok (.astore_n k4, 1)) (hi : (k4 : Nat) = i) (hn : i < nL) (hl' : (i, Value.ref x) :: lv.filter (fun q => !(q.1 == i) && !(q.1 + 1 == i && q.2.category == 2)) = lv') (k : zG C ω nL E o (pc + 1) lv' st σ) : zG C ω nL E o pc lv (.ref x :: st) σ :=
  fun v hv hE H locs ls hP hD hS hl => lv_astore_n hC.1 hC.2.1 hd hi hl hn hl' (fun ls' h' => k v hv hE H locs ls' hP hD hS h')
theorem gg_astore {S α : Type} {C : zK} {ω : zO S} {cc : ByteArray} {own : String} {nL fr lo pc : Nat} {E : α → Prop} {o : Option α} {lv : List (Nat × Value)} {st : List Value} {σ : S} (hC : zOK C ω cc own nL fr lo) {i : Nat} {x : Nat} {lv' : List (Nat × Value)} (hd : decode cc pc = .ok (.astore i, 2)) (hn : i < nL) (hl' : (i, Value.ref x) :: lv.filter (fun q => !(q.1 == i) && !(q.1 + 1 == i && q.2.category == 2)) = lv') (k : zG C ω nL E o (pc + 2) lv' st σ) : zG C ω nL E o pc lv (.ref x :: st) σ :=
  fun v hv hE H locs ls hP hD hS hl => lv_astore hC.1 hC.2.1 hd hl hn hl' (fun ls' h' => k v hv hE H locs ls' hP hD hS h')
theorem gg_iinc {S α : Type} {C : zK} {ω : zO S} {cc : ByteArray} {own : String} {nL fr lo pc : Nat} {E : α → Prop} {o : Option α} {lv : List (Nat × Value)} {st : List Value} {σ : S} (hC : zOK C ω cc own nL fr lo) {i j : Nat} {n : Int} {x y z : Int32} {lv' : List (Nat × Value)} (hd : decode cc pc = .ok (.iinc i n, 3)) (hj : lv[j]? = some (i, .int x)) (hz : Int32.ofInt n = z) (hn : i < nL) (hl' : (i, Value.int (x + z)) :: lv.filter (fun q => !(q.1 == i) && !(q.1 + 1 == i && q.2.category == 2)) = lv') (k : zG C ω nL E o (pc + 3) lv' st σ) : zG C ω nL E o pc lv st σ :=
  fun v hv hE H locs ls hP hD hS hl => lv_iinc hC.1 hC.2.1 hd hl hj (by rw [hz]) hn hl' (fun ls' h' => k v hv hE H locs ls' hP hD hS h')
theorem gg_iadd {S α : Type} {C : zK} {ω : zO S} {cc : ByteArray} {own : String} {nL fr lo pc : Nat} {E : α → Prop} {o : Option α} {lv : List (Nat × Value)} {st : List Value} {σ : S} (hC : zOK C ω cc own nL fr lo) {x y : Int32} (hd : decode cc pc = .ok (.iadd, 1)) (k : zG C ω nL E o (pc + 1) lv (.int (x + y) :: st) σ) : zG C ω nL E o pc lv (.int y :: .int x :: st) σ :=
  fun v hv hE H locs ls hP hD hS hl => lv_iadd hC.1 hC.2.1 hd (k v hv hE H locs ls hP hD hS hl)
theorem gg_isub {S α : Type} {C : zK} {ω : zO S} {cc : ByteArray} {own : String} {nL fr lo pc : Nat} {E : α → Prop} {o : Option α} {lv : List (Nat × Value)} {st : List Value} {σ : S} (hC : zOK C ω cc own nL fr lo) {x y : Int32} (hd : decode cc pc = .ok (.isub, 1)) (k : zG C ω nL E o (pc + 1) lv (.int (x - y) :: st) σ) : zG C ω nL E o pc lv (.int y :: .int x :: st) σ :=
  fun v hv hE H locs ls hP hD hS hl => lv_isub hC.1 hC.2.1 hd (k v hv hE H locs ls hP hD hS hl)
theorem gg_imul {S α : Type} {C : zK} {ω : zO S} {cc : ByteArray} {own : String} {nL fr lo pc : Nat} {E : α → Prop} {o : Option α} {lv : List (Nat × Value)} {st : List Value} {σ : S} (hC : zOK C ω cc own nL fr lo) {x y : Int32} (hd : decode cc pc = .ok (.imul, 1)) (k : zG C ω nL E o (pc + 1) lv (.int (x * y) :: st) σ) : zG C ω nL E o pc lv (.int y :: .int x :: st) σ :=
  fun v hv hE H locs ls hP hD hS hl => lv_imul hC.1 hC.2.1 hd (k v hv hE H locs ls hP hD hS hl)
theorem gg_iand {S α : Type} {C : zK} {ω : zO S} {cc : ByteArray} {own : String} {nL fr lo pc : Nat} {E : α → Prop} {o : Option α} {lv : List (Nat × Value)} {st : List Value} {σ : S} (hC : zOK C ω cc own nL fr lo) {x y : Int32} (hd : decode cc pc = .ok (.iand, 1)) (k : zG C ω nL E o (pc + 1) lv (.int (x &&& y) :: st) σ) : zG C ω nL E o pc lv (.int y :: .int x :: st) σ :=
  fun v hv hE H locs ls hP hD hS hl => lv_iand hC.1 hC.2.1 hd (k v hv hE H locs ls hP hD hS hl)
theorem gg_ior {S α : Type} {C : zK} {ω : zO S} {cc : ByteArray} {own : String} {nL fr lo pc : Nat} {E : α → Prop} {o : Option α} {lv : List (Nat × Value)} {st : List Value} {σ : S} (hC : zOK C ω cc own nL fr lo) {x y : Int32} (hd : decode cc pc = .ok (.ior, 1)) (k : zG C ω nL E o (pc + 1) lv (.int (x ||| y) :: st) σ) : zG C ω nL E o pc lv (.int y :: .int x :: st) σ :=
  fun v hv hE H locs ls hP hD hS hl => lv_ior hC.1 hC.2.1 hd (k v hv hE H locs ls hP hD hS hl)
theorem gg_ishl {S α : Type} {C : zK} {ω : zO S} {cc : ByteArray} {own : String} {nL fr lo pc : Nat} {E : α → Prop} {o : Option α} {lv : List (Nat × Value)} {st : List Value} {σ : S} (hC : zOK C ω cc own nL fr lo) {x y : Int32} (hd : decode cc pc = .ok (.ishl, 1)) (k : zG C ω nL E o (pc + 1) lv (.int (x <<< (y &&& 31)) :: st) σ) : zG C ω nL E o pc lv (.int y :: .int x :: st) σ :=
  fun v hv hE H locs ls hP hD hS hl => lv_ishl hC.1 hC.2.1 hd (k v hv hE H locs ls hP hD hS hl)
theorem gg_ishr {S α : Type} {C : zK} {ω : zO S} {cc : ByteArray} {own : String} {nL fr lo pc : Nat} {E : α → Prop} {o : Option α} {lv : List (Nat × Value)} {st : List Value} {σ : S} (hC : zOK C ω cc own nL fr lo) {x y : Int32} (hd : decode cc pc = .ok (.ishr, 1)) (k : zG C ω nL E o (pc + 1) lv (.int (x >>> (y &&& 31)) :: st) σ) : zG C ω nL E o pc lv (.int y :: .int x :: st) σ :=
  fun v hv hE H locs ls hP hD hS hl => lv_ishr hC.1 hC.2.1 hd (k v hv hE H locs ls hP hD hS hl)
theorem gg_ladd {S α : Type} {C : zK} {ω : zO S} {cc : ByteArray} {own : String} {nL fr lo pc : Nat} {E : α → Prop} {o : Option α} {lv : List (Nat × Value)} {st : List Value} {σ : S} (hC : zOK C ω cc own nL fr lo) {x y : Int64} (hd : decode cc pc = .ok (.ladd, 1)) (k : zG C ω nL E o (pc + 1) lv (.long (x + y) :: st) σ) : zG C ω nL E o pc lv (.long y :: .long x :: st) σ :=
  fun v hv hE H locs ls hP hD hS hl => lv_ladd hC.1 hC.2.1 hd (k v hv hE H locs ls hP hD hS hl)
theorem gg_lsub {S α : Type} {C : zK} {ω : zO S} {cc : ByteArray} {own : String} {nL fr lo pc : Nat} {E : α → Prop} {o : Option α} {lv : List (Nat × Value)} {st : List Value} {σ : S} (hC : zOK C ω cc own nL fr lo) {x y : Int64} (hd : decode cc pc = .ok (.lsub, 1)) (k : zG C ω nL E o (pc + 1) lv (.long (x - y) :: st) σ) : zG C ω nL E o pc lv (.long y :: .long x :: st) σ :=
  fun v hv hE H locs ls hP hD hS hl => lv_lsub hC.1 hC.2.1 hd (k v hv hE H locs ls hP hD hS hl)
theorem gg_lmul {S α : Type} {C : zK} {ω : zO S} {cc : ByteArray} {own : String} {nL fr lo pc : Nat} {E : α → Prop} {o : Option α} {lv : List (Nat × Value)} {st : List Value} {σ : S} (hC : zOK C ω cc own nL fr lo) {x y : Int64} (hd : decode cc pc = .ok (.lmul, 1)) (k : zG C ω nL E o (pc + 1) lv (.long (x * y) :: st) σ) : zG C ω nL E o pc lv (.long y :: .long x :: st) σ :=
  fun v hv hE H locs ls hP hD hS hl => lv_lmul hC.1 hC.2.1 hd (k v hv hE H locs ls hP hD hS hl)
theorem gg_idiv {S α : Type} {C : zK} {ω : zO S} {cc : ByteArray} {own : String} {nL fr lo pc : Nat} {E : α → Prop} {o : Option α} {lv : List (Nat × Value)} {st : List Value} {σ : S} (hC : zOK C ω cc own nL fr lo) {x y : Int32} (hd : decode cc pc = .ok (.idiv, 1)) (hy : ¬ y = 0) (k : zG C ω nL E o (pc + 1) lv (.int (x / y) :: st) σ) : zG C ω nL E o pc lv (.int y :: .int x :: st) σ :=
  fun v hv hE H locs ls hP hD hS hl => lv_idiv hC.1 hC.2.1 hd hy (k v hv hE H locs ls hP hD hS hl)
theorem gg_idiv_g {S α : Type} {C : zK} {ω : zO S} {cc : ByteArray} {own : String} {nL fr lo pc : Nat} {E : α → Prop} {o : Option α} {lv : List (Nat × Value)} {st : List Value} {σ : S} (hC : zOK C ω cc own nL fr lo) {x y : Int32} (hd : decode cc pc = .ok (.idiv, 1)) (k : zG C ω nL E o (pc + 1) lv (.int (x / y) :: st) σ) : zG C ω nL E (zg (decide (¬ y = 0)) o) pc lv (.int y :: .int x :: st) σ := by
  intro v hv hE H locs ls hP hD hS hl
  unfold zg at hv
  split at hv
  · next hy => exact lv_idiv hC.1 hC.2.1 hd (of_decide_eq_true hy) (k v hv hE H locs ls hP hD hS hl)
  · cases hv
theorem gg_irem {S α : Type} {C : zK} {ω : zO S} {cc : ByteArray} {own : String} {nL fr lo pc : Nat} {E : α → Prop} {o : Option α} {lv : List (Nat × Value)} {st : List Value} {σ : S} (hC : zOK C ω cc own nL fr lo) {x y : Int32} (hd : decode cc pc = .ok (.irem, 1)) (hy : ¬ y = 0) (k : zG C ω nL E o (pc + 1) lv (.int (x - x / y * y) :: st) σ) : zG C ω nL E o pc lv (.int y :: .int x :: st) σ :=
  fun v hv hE H locs ls hP hD hS hl => lv_irem hC.1 hC.2.1 hd hy (k v hv hE H locs ls hP hD hS hl)
theorem gg_irem_g {S α : Type} {C : zK} {ω : zO S} {cc : ByteArray} {own : String} {nL fr lo pc : Nat} {E : α → Prop} {o : Option α} {lv : List (Nat × Value)} {st : List Value} {σ : S} (hC : zOK C ω cc own nL fr lo) {x y : Int32} (hd : decode cc pc = .ok (.irem, 1)) (k : zG C ω nL E o (pc + 1) lv (.int (x - x / y * y) :: st) σ) : zG C ω nL E (zg (decide (¬ y = 0)) o) pc lv (.int y :: .int x :: st) σ := by
  intro v hv hE H locs ls hP hD hS hl
  unfold zg at hv
  split at hv
  · next hy => exact lv_irem hC.1 hC.2.1 hd (of_decide_eq_true hy) (k v hv hE H locs ls hP hD hS hl)
  · cases hv
theorem gg_ldiv {S α : Type} {C : zK} {ω : zO S} {cc : ByteArray} {own : String} {nL fr lo pc : Nat} {E : α → Prop} {o : Option α} {lv : List (Nat × Value)} {st : List Value} {σ : S} (hC : zOK C ω cc own nL fr lo) {x y : Int64} (hd : decode cc pc = .ok (.ldiv, 1)) (hy : ¬ y = 0) (k : zG C ω nL E o (pc + 1) lv (.long (x / y) :: st) σ) : zG C ω nL E o pc lv (.long y :: .long x :: st) σ :=
  fun v hv hE H locs ls hP hD hS hl => lv_ldiv hC.1 hC.2.1 hd hy (k v hv hE H locs ls hP hD hS hl)
theorem gg_ldiv_g {S α : Type} {C : zK} {ω : zO S} {cc : ByteArray} {own : String} {nL fr lo pc : Nat} {E : α → Prop} {o : Option α} {lv : List (Nat × Value)} {st : List Value} {σ : S} (hC : zOK C ω cc own nL fr lo) {x y : Int64} (hd : decode cc pc = .ok (.ldiv, 1)) (k : zG C ω nL E o (pc + 1) lv (.long (x / y) :: st) σ) : zG C ω nL E (zg (decide (¬ y = 0)) o) pc lv (.long y :: .long x :: st) σ := by
  intro v hv hE H locs ls hP hD hS hl
  unfold zg at hv
  split at hv
  · next hy => exact lv_ldiv hC.1 hC.2.1 hd (of_decide_eq_true hy) (k v hv hE H locs ls hP hD hS hl)
  · cases hv
theorem gg_lrem {S α : Type} {C : zK} {ω : zO S} {cc : ByteArray} {own : String} {nL fr lo pc : Nat} {E : α → Prop} {o : Option α} {lv : List (Nat × Value)} {st : List Value} {σ : S} (hC : zOK C ω cc own nL fr lo) {x y : Int64} (hd : decode cc pc = .ok (.lrem, 1)) (hy : ¬ y = 0) (k : zG C ω nL E o (pc + 1) lv (.long (x - x / y * y) :: st) σ) : zG C ω nL E o pc lv (.long y :: .long x :: st) σ :=
  fun v hv hE H locs ls hP hD hS hl => lv_lrem hC.1 hC.2.1 hd hy (k v hv hE H locs ls hP hD hS hl)
theorem gg_lrem_g {S α : Type} {C : zK} {ω : zO S} {cc : ByteArray} {own : String} {nL fr lo pc : Nat} {E : α → Prop} {o : Option α} {lv : List (Nat × Value)} {st : List Value} {σ : S} (hC : zOK C ω cc own nL fr lo) {x y : Int64} (hd : decode cc pc = .ok (.lrem, 1)) (k : zG C ω nL E o (pc + 1) lv (.long (x - x / y * y) :: st) σ) : zG C ω nL E (zg (decide (¬ y = 0)) o) pc lv (.long y :: .long x :: st) σ := by
  intro v hv hE H locs ls hP hD hS hl
  unfold zg at hv
  split at hv
  · next hy => exact lv_lrem hC.1 hC.2.1 hd (of_decide_eq_true hy) (k v hv hE H locs ls hP hD hS hl)
  · cases hv
theorem gg_ineg {S α : Type} {C : zK} {ω : zO S} {cc : ByteArray} {own : String} {nL fr lo pc : Nat} {E : α → Prop} {o : Option α} {lv : List (Nat × Value)} {st : List Value} {σ : S} (hC : zOK C ω cc own nL fr lo) {x : Int32} (hd : decode cc pc = .ok (.ineg, 1)) (k : zG C ω nL E o (pc + 1) lv (.int (-x) :: st) σ) : zG C ω nL E o pc lv (.int x :: st) σ :=
  fun v hv hE H locs ls hP hD hS hl => lv_ineg hC.1 hC.2.1 hd (k v hv hE H locs ls hP hD hS hl)
theorem gg_lneg {S α : Type} {C : zK} {ω : zO S} {cc : ByteArray} {own : String} {nL fr lo pc : Nat} {E : α → Prop} {o : Option α} {lv : List (Nat × Value)} {st : List Value} {σ : S} (hC : zOK C ω cc own nL fr lo) {x : Int64} (hd : decode cc pc = .ok (.lneg, 1)) (k : zG C ω nL E o (pc + 1) lv (.long (-x) :: st) σ) : zG C ω nL E o pc lv (.long x :: st) σ :=
  fun v hv hE H locs ls hP hD hS hl => lv_lneg hC.1 hC.2.1 hd (k v hv hE H locs ls hP hD hS hl)
theorem gg_i2l {S α : Type} {C : zK} {ω : zO S} {cc : ByteArray} {own : String} {nL fr lo pc : Nat} {E : α → Prop} {o : Option α} {lv : List (Nat × Value)} {st : List Value} {σ : S} (hC : zOK C ω cc own nL fr lo) {x : Int32} (hd : decode cc pc = .ok (.i2l, 1)) (k : zG C ω nL E o (pc + 1) lv (.long (x.toInt64) :: st) σ) : zG C ω nL E o pc lv (.int x :: st) σ :=
  fun v hv hE H locs ls hP hD hS hl => lv_i2l hC.1 hC.2.1 hd rfl (k v hv hE H locs ls hP hD hS hl)
theorem gg_l2i {S α : Type} {C : zK} {ω : zO S} {cc : ByteArray} {own : String} {nL fr lo pc : Nat} {E : α → Prop} {o : Option α} {lv : List (Nat × Value)} {st : List Value} {σ : S} (hC : zOK C ω cc own nL fr lo) {x : Int64} (hd : decode cc pc = .ok (.l2i, 1)) (k : zG C ω nL E o (pc + 1) lv (.int (x.toInt32) :: st) σ) : zG C ω nL E o pc lv (.long x :: st) σ :=
  fun v hv hE H locs ls hP hD hS hl => lv_l2i hC.1 hC.2.1 hd rfl (k v hv hE H locs ls hP hD hS hl)
theorem gg_i2f {S α : Type} {C : zK} {ω : zO S} {cc : ByteArray} {own : String} {nL fr lo pc : Nat} {E : α → Prop} {o : Option α} {lv : List (Nat × Value)} {st : List Value} {σ : S} (hC : zOK C ω cc own nL fr lo) {x : Int32} (hd : decode cc pc = .ok (.i2f, 1)) (k : zG C ω nL E o (pc + 1) lv (.float (FP.i2f x) :: st) σ) : zG C ω nL E o pc lv (.int x :: st) σ :=
  fun v hv hE H locs ls hP hD hS hl => lv_i2f hC.1 hC.2.1 hd (k v hv hE H locs ls hP hD hS hl)
theorem gg_i2d {S α : Type} {C : zK} {ω : zO S} {cc : ByteArray} {own : String} {nL fr lo pc : Nat} {E : α → Prop} {o : Option α} {lv : List (Nat × Value)} {st : List Value} {σ : S} (hC : zOK C ω cc own nL fr lo) {x : Int32} (hd : decode cc pc = .ok (.i2d, 1)) (k : zG C ω nL E o (pc + 1) lv (.double (FP.i2d x) :: st) σ) : zG C ω nL E o pc lv (.int x :: st) σ :=
  fun v hv hE H locs ls hP hD hS hl => lv_i2d hC.1 hC.2.1 hd (k v hv hE H locs ls hP hD hS hl)
theorem gg_l2d {S α : Type} {C : zK} {ω : zO S} {cc : ByteArray} {own : String} {nL fr lo pc : Nat} {E : α → Prop} {o : Option α} {lv : List (Nat × Value)} {st : List Value} {σ : S} (hC : zOK C ω cc own nL fr lo) {x : Int64} (hd : decode cc pc = .ok (.l2d, 1)) (k : zG C ω nL E o (pc + 1) lv (.double (FP.l2d x) :: st) σ) : zG C ω nL E o pc lv (.long x :: st) σ :=
  fun v hv hE H locs ls hP hD hS hl => lv_l2d hC.1 hC.2.1 hd (k v hv hE H locs ls hP hD hS hl)
theorem gg_d2l {S α : Type} {C : zK} {ω : zO S} {cc : ByteArray} {own : String} {nL fr lo pc : Nat} {E : α → Prop} {o : Option α} {lv : List (Nat × Value)} {st : List Value} {σ : S} (hC : zOK C ω cc own nL fr lo) {x : UInt64} (hd : decode cc pc = .ok (.d2l, 1)) (k : zG C ω nL E o (pc + 1) lv (.long (FP.d2l x) :: st) σ) : zG C ω nL E o pc lv (.double x :: st) σ :=
  fun v hv hE H locs ls hP hD hS hl => lv_d2l hC.1 hC.2.1 hd (k v hv hE H locs ls hP hD hS hl)
def zn32 (r : UInt32) : Bool := decide (r &&& 0x7fffffff ≤ 0x7f800000)
def zn64 (r : UInt64) : Bool := decide (r &&& 0x7fffffffffffffff ≤ 0x7ff0000000000000)
theorem zn32_ok {r : UInt32} (h : zn32 r = true) : vf_n32 r := by
  unfold zn32 at h
  have h2 : r &&& 0x7fffffff ≤ 0x7f800000 := of_decide_eq_true h
  exact h2
theorem zn64_ok {r : UInt64} (h : zn64 r = true) : vf_n64 r := by
  unfold zn64 at h
  have h2 : r &&& 0x7fffffffffffffff ≤ 0x7ff0000000000000 := of_decide_eq_true h
  exact h2
theorem gg_fdiv {S α : Type} {C : zK} {ω : zO S} {cc : ByteArray} {own : String} {nL fr lo pc : Nat} {E : α → Prop} {o : Option α} {lv : List (Nat × Value)} {st : List Value} {σ : S} (hC : zOK C ω cc own nL fr lo) {x y : UInt32} (hd : decode cc pc = .ok (.fdiv, 1)) (k : zG C ω nL E o (pc + 1) lv (.float (FP.fdiv x y) :: st) σ) : zG C ω nL E (zg (zn32 (FP.fdiv x y)) o) pc lv (.float y :: .float x :: st) σ := by
  intro v hv hE H locs ls hP hD hS hl
  unfold zg at hv
  split at hv
  · next hy => exact lv_fdiv hC.1 hC.2.1 hd (zn32_ok hy) (k v hv hE H locs ls hP hD hS hl)
  · cases hv
theorem gg_ddiv {S α : Type} {C : zK} {ω : zO S} {cc : ByteArray} {own : String} {nL fr lo pc : Nat} {E : α → Prop} {o : Option α} {lv : List (Nat × Value)} {st : List Value} {σ : S} (hC : zOK C ω cc own nL fr lo) {x y : UInt64} (hd : decode cc pc = .ok (.ddiv, 1)) (k : zG C ω nL E o (pc + 1) lv (.double (FP.ddiv x y) :: st) σ) : zG C ω nL E (zg (zn64 (FP.ddiv x y)) o) pc lv (.double y :: .double x :: st) σ := by
  intro v hv hE H locs ls hP hD hS hl
  unfold zg at hv
  split at hv
  · next hy => exact lv_ddiv hC.1 hC.2.1 hd (zn64_ok hy) (k v hv hE H locs ls hP hD hS hl)
  · cases hv
theorem gg_dmul {S α : Type} {C : zK} {ω : zO S} {cc : ByteArray} {own : String} {nL fr lo pc : Nat} {E : α → Prop} {o : Option α} {lv : List (Nat × Value)} {st : List Value} {σ : S} (hC : zOK C ω cc own nL fr lo) {x y : UInt64} (hd : decode cc pc = .ok (.dmul, 1)) (k : zG C ω nL E o (pc + 1) lv (.double (FP.dmul x y) :: st) σ) : zG C ω nL E (zg (zn64 (FP.dmul x y)) o) pc lv (.double y :: .double x :: st) σ := by
  intro v hv hE H locs ls hP hD hS hl
  unfold zg at hv
  split at hv
  · next hy => exact lv_dmul hC.1 hC.2.1 hd (zn64_ok hy) (k v hv hE H locs ls hP hD hS hl)
  · cases hv
theorem gg_f2d {S α : Type} {C : zK} {ω : zO S} {cc : ByteArray} {own : String} {nL fr lo pc : Nat} {E : α → Prop} {o : Option α} {lv : List (Nat × Value)} {st : List Value} {σ : S} (hC : zOK C ω cc own nL fr lo) {x : UInt32} (hd : decode cc pc = .ok (.f2d, 1)) (k : zG C ω nL E o (pc + 1) lv (.double (FP.f2d x) :: st) σ) : zG C ω nL E (zg (zn64 (FP.f2d x)) o) pc lv (.float x :: st) σ := by
  intro v hv hE H locs ls hP hD hS hl
  unfold zg at hv
  split at hv
  · next hy => exact lv_f2d hC.1 hC.2.1 hd (zn64_ok hy) (k v hv hE H locs ls hP hD hS hl)
  · cases hv
theorem gg_dup {S α : Type} {C : zK} {ω : zO S} {cc : ByteArray} {own : String} {nL fr lo pc : Nat} {E : α → Prop} {o : Option α} {lv : List (Nat × Value)} {st : List Value} {σ : S} (hC : zOK C ω cc own nL fr lo) {a : Value} (hd : decode cc pc = .ok (.dup, 1)) (ha : a.category = 1) (k : zG C ω nL E o (pc + 1) lv (a :: a :: st) σ) : zG C ω nL E o pc lv (a :: st) σ :=
  fun v hv hE H locs ls hP hD hS hl => lv_dup hC.1 hC.2.1 hd ha (k v hv hE H locs ls hP hD hS hl)
theorem gg_pop {S α : Type} {C : zK} {ω : zO S} {cc : ByteArray} {own : String} {nL fr lo pc : Nat} {E : α → Prop} {o : Option α} {lv : List (Nat × Value)} {st : List Value} {σ : S} (hC : zOK C ω cc own nL fr lo) {a : Value} (hd : decode cc pc = .ok (.pop, 1)) (ha : a.category = 1) (k : zG C ω nL E o (pc + 1) lv st σ) : zG C ω nL E o pc lv (a :: st) σ :=
  fun v hv hE H locs ls hP hD hS hl => lv_pop hC.1 hC.2.1 hd ha (k v hv hE H locs ls hP hD hS hl)
theorem gg_dup2 {S α : Type} {C : zK} {ω : zO S} {cc : ByteArray} {own : String} {nL fr lo pc : Nat} {E : α → Prop} {o : Option α} {lv : List (Nat × Value)} {st : List Value} {σ : S} (hC : zOK C ω cc own nL fr lo) {a b : Value} (hd : decode cc pc = .ok (.dup2, 1)) (ha : a.category = 1) (hb : b.category = 1) (k : zG C ω nL E o (pc + 1) lv (a :: b :: a :: b :: st) σ) : zG C ω nL E o pc lv (a :: b :: st) σ :=
  fun v hv hE H locs ls hP hD hS hl => lv_dup2_11 hC.1 hC.2.1 hd ha hb (k v hv hE H locs ls hP hD hS hl)
theorem gg_if_eq {S α : Type} {C : zK} {ω : zO S} {cc : ByteArray} {own : String} {nL fr lo pc : Nat} {E : α → Prop} {o1 o2 : Option α} {lv : List (Nat × Value)} {st : List Value} {σ : S} (hC : zOK C ω cc own nL fr lo) {x : Int32} {off : Int} {tgt : Nat} (hd : decode cc pc = .ok (.ifCond .eq off, 3)) (ht : (pc : Int) + off = (tgt : Int)) (kt : x = 0 → zG C ω nL E o1 tgt lv st σ) (kf : ¬ (x = 0) → zG C ω nL E o2 (pc + 3) lv st σ) : zG C ω nL E (if x = 0 then o1 else o2) pc lv (.int x :: st) σ := by
  intro v hv hE H locs ls hP hD hS hl
  exact lv_if_eq hC.1 hC.2.1 hd ht (fun c => kt c v (by rwa [if_pos c] at hv) hE H locs ls hP hD hS hl) (fun c => kf c v (by rwa [if_neg c] at hv) hE H locs ls hP hD hS hl)
theorem gg_icmp_eq {S α : Type} {C : zK} {ω : zO S} {cc : ByteArray} {own : String} {nL fr lo pc : Nat} {E : α → Prop} {o1 o2 : Option α} {lv : List (Nat × Value)} {st : List Value} {σ : S} (hC : zOK C ω cc own nL fr lo) {x y : Int32} {off : Int} {tgt : Nat} (hd : decode cc pc = .ok (.if_icmp .eq off, 3)) (ht : (pc : Int) + off = (tgt : Int)) (kt : x = y → zG C ω nL E o1 tgt lv st σ) (kf : ¬ (x = y) → zG C ω nL E o2 (pc + 3) lv st σ) : zG C ω nL E (if x = y then o1 else o2) pc lv (.int y :: .int x :: st) σ := by
  intro v hv hE H locs ls hP hD hS hl
  exact lv_icmp_eq hC.1 hC.2.1 hd ht (fun c => kt c v (by rwa [if_pos c] at hv) hE H locs ls hP hD hS hl) (fun c => kf c v (by rwa [if_neg c] at hv) hE H locs ls hP hD hS hl)
theorem gg_if_ne {S α : Type} {C : zK} {ω : zO S} {cc : ByteArray} {own : String} {nL fr lo pc : Nat} {E : α → Prop} {o1 o2 : Option α} {lv : List (Nat × Value)} {st : List Value} {σ : S} (hC : zOK C ω cc own nL fr lo) {x : Int32} {off : Int} {tgt : Nat} (hd : decode cc pc = .ok (.ifCond .ne off, 3)) (ht : (pc : Int) + off = (tgt : Int)) (kf : x = 0 → zG C ω nL E o1 (pc + 3) lv st σ) (kt : ¬ x = 0 → zG C ω nL E o2 tgt lv st σ) : zG C ω nL E (if x = 0 then o1 else o2) pc lv (.int x :: st) σ := by
  intro v hv hE H locs ls hP hD hS hl
  exact lv_if_ne hC.1 hC.2.1 hd ht (fun c => kt c v (by rwa [if_neg c] at hv) hE H locs ls hP hD hS hl) (fun c => kf c v (by rwa [if_pos c] at hv) hE H locs ls hP hD hS hl)
theorem gg_icmp_ne {S α : Type} {C : zK} {ω : zO S} {cc : ByteArray} {own : String} {nL fr lo pc : Nat} {E : α → Prop} {o1 o2 : Option α} {lv : List (Nat × Value)} {st : List Value} {σ : S} (hC : zOK C ω cc own nL fr lo) {x y : Int32} {off : Int} {tgt : Nat} (hd : decode cc pc = .ok (.if_icmp .ne off, 3)) (ht : (pc : Int) + off = (tgt : Int)) (kf : x = y → zG C ω nL E o1 (pc + 3) lv st σ) (kt : ¬ x = y → zG C ω nL E o2 tgt lv st σ) : zG C ω nL E (if x = y then o1 else o2) pc lv (.int y :: .int x :: st) σ := by
  intro v hv hE H locs ls hP hD hS hl
  exact lv_icmp_ne hC.1 hC.2.1 hd ht (fun c => kt c v (by rwa [if_neg c] at hv) hE H locs ls hP hD hS hl) (fun c => kf c v (by rwa [if_pos c] at hv) hE H locs ls hP hD hS hl)
theorem gg_if_lt {S α : Type} {C : zK} {ω : zO S} {cc : ByteArray} {own : String} {nL fr lo pc : Nat} {E : α → Prop} {o1 o2 : Option α} {lv : List (Nat × Value)} {st : List Value} {σ : S} (hC : zOK C ω cc own nL fr lo) {x : Int32} {off : Int} {tgt : Nat} (hd : decode cc pc = .ok (.ifCond .lt off, 3)) (ht : (pc : Int) + off = (tgt : Int)) (kt : x < 0 → zG C ω nL E o1 tgt lv st σ) (kf : ¬ (x < 0) → zG C ω nL E o2 (pc + 3) lv st σ) : zG C ω nL E (if x < 0 then o1 else o2) pc lv (.int x :: st) σ := by
  intro v hv hE H locs ls hP hD hS hl
  exact lv_if_lt hC.1 hC.2.1 hd ht (fun c => kt c v (by rwa [if_pos c] at hv) hE H locs ls hP hD hS hl) (fun c => kf c v (by rwa [if_neg c] at hv) hE H locs ls hP hD hS hl)
theorem gg_icmp_lt {S α : Type} {C : zK} {ω : zO S} {cc : ByteArray} {own : String} {nL fr lo pc : Nat} {E : α → Prop} {o1 o2 : Option α} {lv : List (Nat × Value)} {st : List Value} {σ : S} (hC : zOK C ω cc own nL fr lo) {x y : Int32} {off : Int} {tgt : Nat} (hd : decode cc pc = .ok (.if_icmp .lt off, 3)) (ht : (pc : Int) + off = (tgt : Int)) (kt : x < y → zG C ω nL E o1 tgt lv st σ) (kf : ¬ (x < y) → zG C ω nL E o2 (pc + 3) lv st σ) : zG C ω nL E (if x < y then o1 else o2) pc lv (.int y :: .int x :: st) σ := by
  intro v hv hE H locs ls hP hD hS hl
  exact lv_icmp_lt hC.1 hC.2.1 hd ht (fun c => kt c v (by rwa [if_pos c] at hv) hE H locs ls hP hD hS hl) (fun c => kf c v (by rwa [if_neg c] at hv) hE H locs ls hP hD hS hl)
theorem gg_if_ge {S α : Type} {C : zK} {ω : zO S} {cc : ByteArray} {own : String} {nL fr lo pc : Nat} {E : α → Prop} {o1 o2 : Option α} {lv : List (Nat × Value)} {st : List Value} {σ : S} (hC : zOK C ω cc own nL fr lo) {x : Int32} {off : Int} {tgt : Nat} (hd : decode cc pc = .ok (.ifCond .ge off, 3)) (ht : (pc : Int) + off = (tgt : Int)) (kt : 0 ≤ x → zG C ω nL E o1 tgt lv st σ) (kf : ¬ (0 ≤ x) → zG C ω nL E o2 (pc + 3) lv st σ) : zG C ω nL E (if 0 ≤ x then o1 else o2) pc lv (.int x :: st) σ := by
  intro v hv hE H locs ls hP hD hS hl
  exact lv_if_ge hC.1 hC.2.1 hd ht (fun c => kt c v (by rwa [if_pos c] at hv) hE H locs ls hP hD hS hl) (fun c => kf c v (by rwa [if_neg c] at hv) hE H locs ls hP hD hS hl)
theorem gg_icmp_ge {S α : Type} {C : zK} {ω : zO S} {cc : ByteArray} {own : String} {nL fr lo pc : Nat} {E : α → Prop} {o1 o2 : Option α} {lv : List (Nat × Value)} {st : List Value} {σ : S} (hC : zOK C ω cc own nL fr lo) {x y : Int32} {off : Int} {tgt : Nat} (hd : decode cc pc = .ok (.if_icmp .ge off, 3)) (ht : (pc : Int) + off = (tgt : Int)) (kt : y ≤ x → zG C ω nL E o1 tgt lv st σ) (kf : ¬ (y ≤ x) → zG C ω nL E o2 (pc + 3) lv st σ) : zG C ω nL E (if y ≤ x then o1 else o2) pc lv (.int y :: .int x :: st) σ := by
  intro v hv hE H locs ls hP hD hS hl
  exact lv_icmp_ge hC.1 hC.2.1 hd ht (fun c => kt c v (by rwa [if_pos c] at hv) hE H locs ls hP hD hS hl) (fun c => kf c v (by rwa [if_neg c] at hv) hE H locs ls hP hD hS hl)
theorem gg_if_gt {S α : Type} {C : zK} {ω : zO S} {cc : ByteArray} {own : String} {nL fr lo pc : Nat} {E : α → Prop} {o1 o2 : Option α} {lv : List (Nat × Value)} {st : List Value} {σ : S} (hC : zOK C ω cc own nL fr lo) {x : Int32} {off : Int} {tgt : Nat} (hd : decode cc pc = .ok (.ifCond .gt off, 3)) (ht : (pc : Int) + off = (tgt : Int)) (kt : 0 < x → zG C ω nL E o1 tgt lv st σ) (kf : ¬ (0 < x) → zG C ω nL E o2 (pc + 3) lv st σ) : zG C ω nL E (if 0 < x then o1 else o2) pc lv (.int x :: st) σ := by
  intro v hv hE H locs ls hP hD hS hl
  exact lv_if_gt hC.1 hC.2.1 hd ht (fun c => kt c v (by rwa [if_pos c] at hv) hE H locs ls hP hD hS hl) (fun c => kf c v (by rwa [if_neg c] at hv) hE H locs ls hP hD hS hl)
theorem gg_icmp_gt {S α : Type} {C : zK} {ω : zO S} {cc : ByteArray} {own : String} {nL fr lo pc : Nat} {E : α → Prop} {o1 o2 : Option α} {lv : List (Nat × Value)} {st : List Value} {σ : S} (hC : zOK C ω cc own nL fr lo) {x y : Int32} {off : Int} {tgt : Nat} (hd : decode cc pc = .ok (.if_icmp .gt off, 3)) (ht : (pc : Int) + off = (tgt : Int)) (kt : y < x → zG C ω nL E o1 tgt lv st σ) (kf : ¬ (y < x) → zG C ω nL E o2 (pc + 3) lv st σ) : zG C ω nL E (if y < x then o1 else o2) pc lv (.int y :: .int x :: st) σ := by
  intro v hv hE H locs ls hP hD hS hl
  exact lv_icmp_gt hC.1 hC.2.1 hd ht (fun c => kt c v (by rwa [if_pos c] at hv) hE H locs ls hP hD hS hl) (fun c => kf c v (by rwa [if_neg c] at hv) hE H locs ls hP hD hS hl)
theorem gg_if_le {S α : Type} {C : zK} {ω : zO S} {cc : ByteArray} {own : String} {nL fr lo pc : Nat} {E : α → Prop} {o1 o2 : Option α} {lv : List (Nat × Value)} {st : List Value} {σ : S} (hC : zOK C ω cc own nL fr lo) {x : Int32} {off : Int} {tgt : Nat} (hd : decode cc pc = .ok (.ifCond .le off, 3)) (ht : (pc : Int) + off = (tgt : Int)) (kt : x ≤ 0 → zG C ω nL E o1 tgt lv st σ) (kf : ¬ (x ≤ 0) → zG C ω nL E o2 (pc + 3) lv st σ) : zG C ω nL E (if x ≤ 0 then o1 else o2) pc lv (.int x :: st) σ := by
  intro v hv hE H locs ls hP hD hS hl
  exact lv_if_le hC.1 hC.2.1 hd ht (fun c => kt c v (by rwa [if_pos c] at hv) hE H locs ls hP hD hS hl) (fun c => kf c v (by rwa [if_neg c] at hv) hE H locs ls hP hD hS hl)
theorem gg_icmp_le {S α : Type} {C : zK} {ω : zO S} {cc : ByteArray} {own : String} {nL fr lo pc : Nat} {E : α → Prop} {o1 o2 : Option α} {lv : List (Nat × Value)} {st : List Value} {σ : S} (hC : zOK C ω cc own nL fr lo) {x y : Int32} {off : Int} {tgt : Nat} (hd : decode cc pc = .ok (.if_icmp .le off, 3)) (ht : (pc : Int) + off = (tgt : Int)) (kt : x ≤ y → zG C ω nL E o1 tgt lv st σ) (kf : ¬ (x ≤ y) → zG C ω nL E o2 (pc + 3) lv st σ) : zG C ω nL E (if x ≤ y then o1 else o2) pc lv (.int y :: .int x :: st) σ := by
  intro v hv hE H locs ls hP hD hS hl
  exact lv_icmp_le hC.1 hC.2.1 hd ht (fun c => kt c v (by rwa [if_pos c] at hv) hE H locs ls hP hD hS hl) (fun c => kf c v (by rwa [if_neg c] at hv) hE H locs ls hP hD hS hl)
theorem gg_lcmp_eq {S α : Type} {C : zK} {ω : zO S} {cc : ByteArray} {own : String} {nL fr lo pc : Nat} {E : α → Prop} {o1 o2 : Option α} {lv : List (Nat × Value)} {st : List Value} {σ : S} (hC : zOK C ω cc own nL fr lo) {x y : Int64} {off : Int} {tgt : Nat} (hd0 : decode cc pc = .ok (.lcmp, 1)) (hd : decode cc (pc + 1) = .ok (.ifCond .eq off, 3)) (ht : ((pc + 1 : Nat) : Int) + off = (tgt : Int)) (kt : x = y → zG C ω nL E o1 tgt lv st σ) (kf : ¬ (x = y) → zG C ω nL E o2 (pc + 1 + 3) lv st σ) : zG C ω nL E (if x = y then o1 else o2) pc lv (.long y :: .long x :: st) σ := by
  intro v hv hE H locs ls hP hD hS hl
  exact W.lcmp hC.1 hC.2.1 hd0 (lv_if_eq hC.1 hC.2.1 hd ht (fun c => kt ((lg_cmp_eq x y).mp c) v (by rwa [if_pos ((lg_cmp_eq x y).mp c)] at hv) hE H locs ls hP hD hS hl) (fun c => kf (fun z => c ((lg_cmp_eq x y).mpr z)) v (by rwa [if_neg (fun z => c ((lg_cmp_eq x y).mpr z))] at hv) hE H locs ls hP hD hS hl))
theorem gg_lcmp_ne {S α : Type} {C : zK} {ω : zO S} {cc : ByteArray} {own : String} {nL fr lo pc : Nat} {E : α → Prop} {o1 o2 : Option α} {lv : List (Nat × Value)} {st : List Value} {σ : S} (hC : zOK C ω cc own nL fr lo) {x y : Int64} {off : Int} {tgt : Nat} (hd0 : decode cc pc = .ok (.lcmp, 1)) (hd : decode cc (pc + 1) = .ok (.ifCond .ne off, 3)) (ht : ((pc + 1 : Nat) : Int) + off = (tgt : Int)) (kf : x = y → zG C ω nL E o1 (pc + 1 + 3) lv st σ) (kt : ¬ x = y → zG C ω nL E o2 tgt lv st σ) : zG C ω nL E (if x = y then o1 else o2) pc lv (.long y :: .long x :: st) σ := by
  intro v hv hE H locs ls hP hD hS hl
  exact W.lcmp hC.1 hC.2.1 hd0 (lv_if_ne hC.1 hC.2.1 hd ht (fun c => kt (fun z => c ((lg_cmp_eq x y).mpr z)) v (by rwa [if_neg (fun z => c ((lg_cmp_eq x y).mpr z))] at hv) hE H locs ls hP hD hS hl) (fun c => kf ((lg_cmp_eq x y).mp c) v (by rwa [if_pos ((lg_cmp_eq x y).mp c)] at hv) hE H locs ls hP hD hS hl))
theorem gg_lcmp_lt {S α : Type} {C : zK} {ω : zO S} {cc : ByteArray} {own : String} {nL fr lo pc : Nat} {E : α → Prop} {o1 o2 : Option α} {lv : List (Nat × Value)} {st : List Value} {σ : S} (hC : zOK C ω cc own nL fr lo) {x y : Int64} {off : Int} {tgt : Nat} (hd0 : decode cc pc = .ok (.lcmp, 1)) (hd : decode cc (pc + 1) = .ok (.ifCond .lt off, 3)) (ht : ((pc + 1 : Nat) : Int) + off = (tgt : Int)) (kt : x < y → zG C ω nL E o1 tgt lv st σ) (kf : ¬ (x < y) → zG C ω nL E o2 (pc + 1 + 3) lv st σ) : zG C ω nL E (if x < y then o1 else o2) pc lv (.long y :: .long x :: st) σ := by
  intro v hv hE H locs ls hP hD hS hl
  exact W.lcmp hC.1 hC.2.1 hd0 (lv_if_lt hC.1 hC.2.1 hd ht (fun c => kt ((lg_cmp_lt x y).mp c) v (by rwa [if_pos ((lg_cmp_lt x y).mp c)] at hv) hE H locs ls hP hD hS hl) (fun c => kf (fun z => c ((lg_cmp_lt x y).mpr z)) v (by rwa [if_neg (fun z => c ((lg_cmp_lt x y).mpr z))] at hv) hE H locs ls hP hD hS hl))
theorem gg_lcmp_ge {S α : Type} {C : zK} {ω : zO S} {cc : ByteArray} {own : String} {nL fr lo pc : Nat} {E : α → Prop} {o1 o2 : Option α} {lv : List (Nat × Value)} {st : List Value} {σ : S} (hC : zOK C ω cc own nL fr lo) {x y : Int64} {off : Int} {tgt : Nat} (hd0 : decode cc pc = .ok (.lcmp, 1)) (hd : decode cc (pc + 1) = .ok (.ifCond .ge off, 3)) (ht : ((pc + 1 : Nat) : Int) + off = (tgt : Int)) (kt : y ≤ x → zG C ω nL E o1 tgt lv st σ) (kf : ¬ (y ≤ x) → zG C ω nL E o2 (pc + 1 + 3) lv st σ) : zG C ω nL E (if y ≤ x then o1 else o2) pc lv (.long y :: .long x :: st) σ := by
  intro v hv hE H locs ls hP hD hS hl
  exact W.lcmp hC.1 hC.2.1 hd0 (lv_if_ge hC.1 hC.2.1 hd ht (fun c => kt ((lg_cmp_ge x y).mp c) v (by rwa [if_pos ((lg_cmp_ge x y).mp c)] at hv) hE H locs ls hP hD hS hl) (fun c => kf (fun z => c ((lg_cmp_ge x y).mpr z)) v (by rwa [if_neg (fun z => c ((lg_cmp_ge x y).mpr z))] at hv) hE H locs ls hP hD hS hl))
theorem gg_lcmp_gt {S α : Type} {C : zK} {ω : zO S} {cc : ByteArray} {own : String} {nL fr lo pc : Nat} {E : α → Prop} {o1 o2 : Option α} {lv : List (Nat × Value)} {st : List Value} {σ : S} (hC : zOK C ω cc own nL fr lo) {x y : Int64} {off : Int} {tgt : Nat} (hd0 : decode cc pc = .ok (.lcmp, 1)) (hd : decode cc (pc + 1) = .ok (.ifCond .gt off, 3)) (ht : ((pc + 1 : Nat) : Int) + off = (tgt : Int)) (kt : y < x → zG C ω nL E o1 tgt lv st σ) (kf : ¬ (y < x) → zG C ω nL E o2 (pc + 1 + 3) lv st σ) : zG C ω nL E (if y < x then o1 else o2) pc lv (.long y :: .long x :: st) σ := by
  intro v hv hE H locs ls hP hD hS hl
  exact W.lcmp hC.1 hC.2.1 hd0 (lv_if_gt hC.1 hC.2.1 hd ht (fun c => kt ((lg_cmp_gt x y).mp c) v (by rwa [if_pos ((lg_cmp_gt x y).mp c)] at hv) hE H locs ls hP hD hS hl) (fun c => kf (fun z => c ((lg_cmp_gt x y).mpr z)) v (by rwa [if_neg (fun z => c ((lg_cmp_gt x y).mpr z))] at hv) hE H locs ls hP hD hS hl))
theorem gg_lcmp_le {S α : Type} {C : zK} {ω : zO S} {cc : ByteArray} {own : String} {nL fr lo pc : Nat} {E : α → Prop} {o1 o2 : Option α} {lv : List (Nat × Value)} {st : List Value} {σ : S} (hC : zOK C ω cc own nL fr lo) {x y : Int64} {off : Int} {tgt : Nat} (hd0 : decode cc pc = .ok (.lcmp, 1)) (hd : decode cc (pc + 1) = .ok (.ifCond .le off, 3)) (ht : ((pc + 1 : Nat) : Int) + off = (tgt : Int)) (kt : x ≤ y → zG C ω nL E o1 tgt lv st σ) (kf : ¬ (x ≤ y) → zG C ω nL E o2 (pc + 1 + 3) lv st σ) : zG C ω nL E (if x ≤ y then o1 else o2) pc lv (.long y :: .long x :: st) σ := by
  intro v hv hE H locs ls hP hD hS hl
  exact W.lcmp hC.1 hC.2.1 hd0 (lv_if_le hC.1 hC.2.1 hd ht (fun c => kt ((lg_cmp_le x y).mp c) v (by rwa [if_pos ((lg_cmp_le x y).mp c)] at hv) hE H locs ls hP hD hS hl) (fun c => kf (fun z => c ((lg_cmp_le x y).mpr z)) v (by rwa [if_neg (fun z => c ((lg_cmp_le x y).mpr z))] at hv) hE H locs ls hP hD hS hl))
theorem gg_dcmp_eq {S α : Type} {C : zK} {ω : zO S} {cc : ByteArray} {own : String} {nL fr lo pc : Nat} {E : α → Prop} {o1 o2 : Option α} {lv : List (Nat × Value)} {st : List Value} {σ : S} (hC : zOK C ω cc own nL fr lo) {x y : UInt64} {op : CmpOp} {off : Int} {tgt : Nat} (hd0 : decode cc pc = .ok (.dcmp op, 1)) (hd : decode cc (pc + 1) = .ok (.ifCond .eq off, 3)) (ht : ((pc + 1 : Nat) : Int) + off = (tgt : Int)) (kt : Op.cmpValue (FP.dcmp x y) op = 0 → zG C ω nL E o1 tgt lv st σ) (kf : ¬ (Op.cmpValue (FP.dcmp x y) op = 0) → zG C ω nL E o2 (pc + 1 + 3) lv st σ) : zG C ω nL E (if Op.cmpValue (FP.dcmp x y) op = 0 then o1 else o2) pc lv (.double y :: .double x :: st) σ := by
  intro v hv hE H locs ls hP hD hS hl
  exact lv_dcmp hC.1 hC.2.1 hd0 (lv_if_eq hC.1 hC.2.1 hd ht (fun c => kt c v (by rwa [if_pos c] at hv) hE H locs ls hP hD hS hl) (fun c => kf c v (by rwa [if_neg c] at hv) hE H locs ls hP hD hS hl))
theorem gg_dcmp_lt {S α : Type} {C : zK} {ω : zO S} {cc : ByteArray} {own : String} {nL fr lo pc : Nat} {E : α → Prop} {o1 o2 : Option α} {lv : List (Nat × Value)} {st : List Value} {σ : S} (hC : zOK C ω cc own nL fr lo) {x y : UInt64} {op : CmpOp} {off : Int} {tgt : Nat} (hd0 : decode cc pc = .ok (.dcmp op, 1)) (hd : decode cc (pc + 1) = .ok (.ifCond .lt off, 3)) (ht : ((pc + 1 : Nat) : Int) + off = (tgt : Int)) (kt : Op.cmpValue (FP.dcmp x y) op < 0 → zG C ω nL E o1 tgt lv st σ) (kf : ¬ (Op.cmpValue (FP.dcmp x y) op < 0) → zG C ω nL E o2 (pc + 1 + 3) lv st σ) : zG C ω nL E (if Op.cmpValue (FP.dcmp x y) op < 0 then o1 else o2) pc lv (.double y :: .double x :: st) σ := by
  intro v hv hE H locs ls hP hD hS hl
  exact lv_dcmp hC.1 hC.2.1 hd0 (lv_if_lt hC.1 hC.2.1 hd ht (fun c => kt c v (by rwa [if_pos c] at hv) hE H locs ls hP hD hS hl) (fun c => kf c v (by rwa [if_neg c] at hv) hE H locs ls hP hD hS hl))
theorem gg_dcmp_ge {S α : Type} {C : zK} {ω : zO S} {cc : ByteArray} {own : String} {nL fr lo pc : Nat} {E : α → Prop} {o1 o2 : Option α} {lv : List (Nat × Value)} {st : List Value} {σ : S} (hC : zOK C ω cc own nL fr lo) {x y : UInt64} {op : CmpOp} {off : Int} {tgt : Nat} (hd0 : decode cc pc = .ok (.dcmp op, 1)) (hd : decode cc (pc + 1) = .ok (.ifCond .ge off, 3)) (ht : ((pc + 1 : Nat) : Int) + off = (tgt : Int)) (kt : 0 ≤ Op.cmpValue (FP.dcmp x y) op → zG C ω nL E o1 tgt lv st σ) (kf : ¬ (0 ≤ Op.cmpValue (FP.dcmp x y) op) → zG C ω nL E o2 (pc + 1 + 3) lv st σ) : zG C ω nL E (if 0 ≤ Op.cmpValue (FP.dcmp x y) op then o1 else o2) pc lv (.double y :: .double x :: st) σ := by
  intro v hv hE H locs ls hP hD hS hl
  exact lv_dcmp hC.1 hC.2.1 hd0 (lv_if_ge hC.1 hC.2.1 hd ht (fun c => kt c v (by rwa [if_pos c] at hv) hE H locs ls hP hD hS hl) (fun c => kf c v (by rwa [if_neg c] at hv) hE H locs ls hP hD hS hl))
theorem gg_dcmp_gt {S α : Type} {C : zK} {ω : zO S} {cc : ByteArray} {own : String} {nL fr lo pc : Nat} {E : α → Prop} {o1 o2 : Option α} {lv : List (Nat × Value)} {st : List Value} {σ : S} (hC : zOK C ω cc own nL fr lo) {x y : UInt64} {op : CmpOp} {off : Int} {tgt : Nat} (hd0 : decode cc pc = .ok (.dcmp op, 1)) (hd : decode cc (pc + 1) = .ok (.ifCond .gt off, 3)) (ht : ((pc + 1 : Nat) : Int) + off = (tgt : Int)) (kt : 0 < Op.cmpValue (FP.dcmp x y) op → zG C ω nL E o1 tgt lv st σ) (kf : ¬ (0 < Op.cmpValue (FP.dcmp x y) op) → zG C ω nL E o2 (pc + 1 + 3) lv st σ) : zG C ω nL E (if 0 < Op.cmpValue (FP.dcmp x y) op then o1 else o2) pc lv (.double y :: .double x :: st) σ := by
  intro v hv hE H locs ls hP hD hS hl
  exact lv_dcmp hC.1 hC.2.1 hd0 (lv_if_gt hC.1 hC.2.1 hd ht (fun c => kt c v (by rwa [if_pos c] at hv) hE H locs ls hP hD hS hl) (fun c => kf c v (by rwa [if_neg c] at hv) hE H locs ls hP hD hS hl))
theorem gg_dcmp_le {S α : Type} {C : zK} {ω : zO S} {cc : ByteArray} {own : String} {nL fr lo pc : Nat} {E : α → Prop} {o1 o2 : Option α} {lv : List (Nat × Value)} {st : List Value} {σ : S} (hC : zOK C ω cc own nL fr lo) {x y : UInt64} {op : CmpOp} {off : Int} {tgt : Nat} (hd0 : decode cc pc = .ok (.dcmp op, 1)) (hd : decode cc (pc + 1) = .ok (.ifCond .le off, 3)) (ht : ((pc + 1 : Nat) : Int) + off = (tgt : Int)) (kt : Op.cmpValue (FP.dcmp x y) op ≤ 0 → zG C ω nL E o1 tgt lv st σ) (kf : ¬ (Op.cmpValue (FP.dcmp x y) op ≤ 0) → zG C ω nL E o2 (pc + 1 + 3) lv st σ) : zG C ω nL E (if Op.cmpValue (FP.dcmp x y) op ≤ 0 then o1 else o2) pc lv (.double y :: .double x :: st) σ := by
  intro v hv hE H locs ls hP hD hS hl
  exact lv_dcmp hC.1 hC.2.1 hd0 (lv_if_le hC.1 hC.2.1 hd ht (fun c => kt c v (by rwa [if_pos c] at hv) hE H locs ls hP hD hS hl) (fun c => kf c v (by rwa [if_neg c] at hv) hE H locs ls hP hD hS hl))
theorem gg_goto {S α : Type} {C : zK} {ω : zO S} {cc : ByteArray} {own : String} {nL fr lo pc : Nat} {E : α → Prop} {o : Option α} {lv : List (Nat × Value)} {st : List Value} {σ : S} (hC : zOK C ω cc own nL fr lo) {off : Int} {tgt : Nat} (hd : decode cc pc = .ok (.goto off, 3)) (ht : (pc : Int) + off = (tgt : Int)) (k : zG C ω nL E o tgt lv st σ) : zG C ω nL E o pc lv st σ :=
  fun v hv hE H locs ls hP hD hS hl => lv_goto hC.1 hC.2.1 hd ht (k v hv hE H locs ls hP hD hS hl)
theorem gg_none {S α : Type} {C : zK} {ω : zO S} {nL pc : Nat} {E : α → Prop} {o : Option α} {lv : List (Nat × Value)} {st : List Value} {σ : S} : zG C ω nL E (none : Option α) pc lv st σ := fun v hv => by cases hv
theorem gg_ite {S α : Type} {C : zK} {ω : zO S} {nL pc : Nat} {E : α → Prop} {o1 o2 : Option α} {lv : List (Nat × Value)} {st : List Value} {σ : S} {c : Prop} [Decidable c] (kt : c → zG C ω nL E o1 pc lv st σ) (kf : ¬ c → zG C ω nL E o2 pc lv st σ) : zG C ω nL E (if c then o1 else o2) pc lv st σ := by
  by_cases h : c
  · rw [if_pos h]
    exact kt h
  · rw [if_neg h]
    exact kf h
theorem gg_tabIn {S α : Type} {C : zK} {ω : zO S} {cc : ByteArray} {own : String} {nL fr lo pc : Nat} {E : α → Prop} {o : Option α} {lv : List (Nat × Value)} {st : List Value} {σ : S} (hC : zOK C ω cc own nL fr lo) {dflt l0 h0 : Int} {offs : Array Int} {len : Nat} {x : Int32} {off : Int} {tgt : Nat} (hd : decode cc pc = .ok (.tableswitch dflt l0 h0 offs, len)) (h1 : ¬ x.toInt < l0) (h2 : ¬ h0 < x.toInt) (ho : offs[(x.toInt - l0).toNat]? = some off) (ht : (pc : Int) + off = (tgt : Int)) (k : zG C ω nL E o tgt lv st σ) : zG C ω nL E o pc lv (.int x :: st) σ :=
  fun v hv hE H locs ls hP hD hS hl => lv_tableIn hC.1 hC.2.1 hd h1 h2 ho ht (k v hv hE H locs ls hP hD hS hl)
theorem gg_tabOut {S α : Type} {C : zK} {ω : zO S} {cc : ByteArray} {own : String} {nL fr lo pc : Nat} {E : α → Prop} {o : Option α} {lv : List (Nat × Value)} {st : List Value} {σ : S} (hC : zOK C ω cc own nL fr lo) {dflt l0 h0 : Int} {offs : Array Int} {len : Nat} {x : Int32} {tgt : Nat} (hd : decode cc pc = .ok (.tableswitch dflt l0 h0 offs, len)) (h : x.toInt < l0 ∨ h0 < x.toInt) (ht : (pc : Int) + dflt = (tgt : Int)) (k : zG C ω nL E o tgt lv st σ) : zG C ω nL E o pc lv (.int x :: st) σ :=
  fun v hv hE H locs ls hP hD hS hl => lv_tableOut hC.1 hC.2.1 hd h ht (k v hv hE H locs ls hP hD hS hl)
theorem gg_lv {S α : Type} {C : zK} {ω : zO S} {nL pc : Nat} {E : α → Prop} {o : Option α} {lv : List (Nat × Value)} {st : List Value} {σ : S} {lv' : List (Nat × Value)} (ks : List Nat) (h : lv_pick lv ks = lv') (k : zG C ω nL E o pc lv' st σ) : zG C ω nL E o pc lv st σ :=
  fun v hv hE H locs ls hP hD hS hl => k v hv hE H locs ls hP hD hS (lv_sub hl ks h)
theorem zW_lv {S : Type} {C : zK} {ω : zO S} {nL pc : Nat} {lv lv' : List (Nat × Value)} {st : List Value} {σ : S} (ks : List Nat) (h : lv_pick lv ks = lv') (k : zW C ω nL pc lv' st σ) : zW C ω nL pc lv st σ :=
  fun H locs ls hP hD hS hl => k H locs ls hP hD hS (lv_sub hl ks h)
theorem gg_y {S α : Type} {C : zK} {ω : zO S} {nL pc : Nat} {E : α → Prop} {lv : List (Nat × Value)} {st : List Value} {σ : S} {a : α} (h : E a → zW C ω nL pc lv st σ) : zG C ω nL E (some a) pc lv st σ := fun v hv hE => by
  cases hv
  exact h hE
theorem gg_iret {S : Type} {C : zK} {ω : zO S} {cc : ByteArray} {nL pc : Nat} {lv : List (Nat × Value)} {σ : S} {r : Int32 × S} {x : Int32} (hR : zRI C ω nL cc r) (hd : decode cc pc = .ok (.ireturn, 1)) : zG C ω nL (fun v => v = r) (some (x, σ)) pc lv [.int x] σ := gg_y (fun h => hR pc lv x σ hd h)
theorem gg_zret {S : Type} {C : zK} {ω : zO S} {cc : ByteArray} {nL pc : Nat} {lv : List (Nat × Value)} {σ : S} {r : Int32 × S} {x : Int32} (hR : zRZ C ω nL cc r) (hd : decode cc pc = .ok (.ireturn, 1)) (hn : narrow .boolean (.int x) = .int x) : zG C ω nL (fun v => v = r) (some (x, σ)) pc lv [.int x] σ := gg_y (fun h => hR pc lv x σ hd hn h)
theorem gg_zretg {S : Type} {C : zK} {ω : zO S} {cc : ByteArray} {nL pc : Nat} {lv : List (Nat × Value)} {σ : S} {r : Int32 × S} {x : Int32} (hR : zRZ C ω nL cc r) (hd : decode cc pc = .ok (.ireturn, 1)) : zG C ω nL (fun v => v = r) (zg (zz x) (some (x, σ))) pc lv [.int x] σ := by
  intro v hv hE
  unfold zg at hv
  split at hv
  · next h => exact gg_zret hR hd (zz_n h) v hv hE
  · cases hv
theorem gg_lret {S : Type} {C : zK} {ω : zO S} {cc : ByteArray} {nL pc : Nat} {lv : List (Nat × Value)} {σ : S} {r : Int64 × S} {x : Int64} (hR : zRL C ω nL cc r) (hd : decode cc pc = .ok (.lreturn, 1)) : zG C ω nL (fun v => v = r) (some (x, σ)) pc lv [.long x] σ := gg_y (fun h => hR pc lv x σ hd h)
theorem gg_vret {S : Type} {C : zK} {ω : zO S} {cc : ByteArray} {nL pc : Nat} {lv : List (Nat × Value)} {σ : S} {r : S} (hR : zRV C ω nL cc r) (hd : decode cc pc = .ok (.return_, 1)) : zG C ω nL (fun v => v = r) (some σ) pc lv [] σ := gg_y (fun h => hR pc lv σ hd h)
theorem gg_join1 {S α : Type} {C : zK} {ω : zO S} {nL pc : Nat} {E : α → Prop} {lv : List (Nat × Value)} {st : List Value} {σ : S} {T1 : Type} {X : Option (T1)} {K : T1 → Option α} {E' : T1 → Prop} (hX : zG C ω nL E' X pc lv st σ) (hJ : ∀ a1 v, K a1 = some v → E v → E' (a1)) : zG C ω nL E (zy1 X K) pc lv st σ := by
  intro v hv hE
  cases hq : X with
  | none => rw [hq] at hv; cases hv
  | some q =>
    rw [hq] at hv
    exact hX q hq (hJ q v hv hE)
theorem gg_join2 {S α : Type} {C : zK} {ω : zO S} {nL pc : Nat} {E : α → Prop} {lv : List (Nat × Value)} {st : List Value} {σ : S} {T1 T2 : Type} {X : Option (T1 × T2)} {K : T1 → T2 → Option α} {E' : T1 × T2 → Prop} (hX : zG C ω nL E' X pc lv st σ) (hJ : ∀ a1 a2 v, K a1 a2 = some v → E v → E' (a1, a2)) : zG C ω nL E (zy2 X K) pc lv st σ := by
  intro v hv hE
  cases hq : X with
  | none => rw [hq] at hv; cases hv
  | some q =>
    rw [hq] at hv
    exact hX q hq (hJ q.1 q.2 v hv hE)
theorem gg_join3 {S α : Type} {C : zK} {ω : zO S} {nL pc : Nat} {E : α → Prop} {lv : List (Nat × Value)} {st : List Value} {σ : S} {T1 T2 T3 : Type} {X : Option (T1 × T2 × T3)} {K : T1 → T2 → T3 → Option α} {E' : T1 × T2 × T3 → Prop} (hX : zG C ω nL E' X pc lv st σ) (hJ : ∀ a1 a2 a3 v, K a1 a2 a3 = some v → E v → E' (a1, a2, a3)) : zG C ω nL E (zy3 X K) pc lv st σ := by
  intro v hv hE
  cases hq : X with
  | none => rw [hq] at hv; cases hv
  | some q =>
    rw [hq] at hv
    exact hX q hq (hJ q.1 q.2.1 q.2.2 v hv hE)
theorem gg_join4 {S α : Type} {C : zK} {ω : zO S} {nL pc : Nat} {E : α → Prop} {lv : List (Nat × Value)} {st : List Value} {σ : S} {T1 T2 T3 T4 : Type} {X : Option (T1 × T2 × T3 × T4)} {K : T1 → T2 → T3 → T4 → Option α} {E' : T1 × T2 × T3 × T4 → Prop} (hX : zG C ω nL E' X pc lv st σ) (hJ : ∀ a1 a2 a3 a4 v, K a1 a2 a3 a4 = some v → E v → E' (a1, a2, a3, a4)) : zG C ω nL E (zy4 X K) pc lv st σ := by
  intro v hv hE
  cases hq : X with
  | none => rw [hq] at hv; cases hv
  | some q =>
    rw [hq] at hv
    exact hX q hq (hJ q.1 q.2.1 q.2.2.1 q.2.2.2 v hv hE)
theorem gg_join5 {S α : Type} {C : zK} {ω : zO S} {nL pc : Nat} {E : α → Prop} {lv : List (Nat × Value)} {st : List Value} {σ : S} {T1 T2 T3 T4 T5 : Type} {X : Option (T1 × T2 × T3 × T4 × T5)} {K : T1 → T2 → T3 → T4 → T5 → Option α} {E' : T1 × T2 × T3 × T4 × T5 → Prop} (hX : zG C ω nL E' X pc lv st σ) (hJ : ∀ a1 a2 a3 a4 a5 v, K a1 a2 a3 a4 a5 = some v → E v → E' (a1, a2, a3, a4, a5)) : zG C ω nL E (zy5 X K) pc lv st σ := by
  intro v hv hE
  cases hq : X with
  | none => rw [hq] at hv; cases hv
  | some q =>
    rw [hq] at hv
    exact hX q hq (hJ q.1 q.2.1 q.2.2.1 q.2.2.2.1 q.2.2.2.2 v hv hE)
end
section
theorem zGood {ws : List Cond} (h : ∀ w ∈ ws, w ∈ zT) : GoodIn zT ws := fun w hw => ⟨h w hw, good_of_word (List.mem_filter.mp (h w hw)).2⟩
def zCV (own : String) (idx : Nat) (CC : String) (y : MethodName) (bytes : ByteArray) (maxL : Nat) (ret : Option FieldType) (n : Nat) : Prop :=
  Cond.methodLink own idx y ∈ zT ∧ Cond.instanceMethod y ∈ zT ∧ Cond.selects CC y y ∈ zT ∧ Cond.initialized CC ∈ zT ∧ Cond.code y bytes maxL ret ∈ zT ∧ (y.cls = CC ∧ y.cls ≠ "java/lang/invoke/MethodHandle" ∧ y.cls ≠ "java/lang/invoke/VarHandle" ∧ (parseMethodDescriptor y.desc).map (fun d => d.parameters.length) = some n)
def zCS (own : String) (idx : Nat) (y : MethodName) (bytes : ByteArray) (maxL : Nat) (ret : Option FieldType) (n : Nat) : Prop :=
  Cond.methodLink own idx y ∈ zT ∧ Cond.static y ∈ zT ∧ Cond.initialized own ∈ zT ∧ Cond.code y bytes maxL ret ∈ zT ∧ (y.cls = own ∧ y.cls ≠ "java/lang/invoke/MethodHandle" ∧ y.cls ≠ "java/lang/invoke/VarHandle" ∧ (parseMethodDescriptor y.desc).map (fun d => d.parameters.length) = some n)
theorem zCV.good {own CC : String} {idx maxL n : Nat} {y : MethodName} {bytes : ByteArray} {ret : Option FieldType} (h : zCV own idx CC y bytes maxL ret n) : GoodIn zT (wsV own idx CC y (zws y bytes maxL ret)) := by
  obtain ⟨h1, h2, h3, h4, h5, -⟩ := h
  refine zGood (fun w hw => ?_)
  simp only [wsV, zws, List.cons_append, List.nil_append, List.mem_cons] at hw
  rcases hw with rfl | rfl | rfl | rfl | rfl | hw
  · exact h1
  · exact h2
  · exact h3
  · exact h4
  · exact h5
  · exact hw
theorem zCS.good {own : String} {idx maxL n : Nat} {y : MethodName} {bytes : ByteArray} {ret : Option FieldType} (h : zCS own idx y bytes maxL ret n) : GoodIn zT (wsS own idx y (zws y bytes maxL ret)) := by
  obtain ⟨h1, h2, h3, h4, -⟩ := h
  refine zGood (fun w hw => ?_)
  simp only [wsS, zws, List.cons_append, List.nil_append, List.mem_cons] at hw
  rcases hw with rfl | rfl | rfl | rfl | hw
  · exact h1
  · exact h2
  · exact h3
  · exact h4
  · exact hw
theorem zBlind {S : Type} {D : va_G} {ω : zO S} {σ : S} {sz : Nat} {av : List Value} (hX : zX ω.2.2) : FrameBlind (va_Pc av (zPre D ω σ sz)) := by
  intro a U g mk q
  obtain ⟨q0, q1, qP, qK, qD, qX⟩ := q
  exact ⟨q0, q1, qP, va_K.moved (u := U) (U := U.calling g mk a) (Vm.Alike.refl U.vm) qK, qD, hX.2.2 _ U (U.calling g mk a) _ rfl qX⟩
theorem zFree {S : Type} {C : zK} {ω : zO S} {σ : S} {H : Heap} {locs : List Loc} (hA : ∀ q : Nat, C.1.2.2.2.2.heap.size ≤ q → C.2.2.2.2.1 q) (hD : va_D C.2.2.2.2.1 (ω.1 σ)) (hS : va_S C.2.2.2.2.1 C.1.2.2.2.2.heap H locs) : ∀ a, va_A (ω.1 σ) H.size a → C.2.2.2.2.1 a := by
  intro a h
  rcases h with ⟨k, e, h⟩ | h
  · exact hD.2 k (a, e) h
  · exact hA a (Nat.le_trans hS.1 h)
theorem zPreOf {S : Type} {C : zK} {ω : zO S} {σ : S} {H : Heap} {locs : List Loc} {cc : ByteArray} {own : String} {nL fr lo : Nat} (hC : zOK C ω cc own nL fr lo) (hP : va_P C.2.2.2.1 vwCl (ω.1 σ) H) (hD : va_D C.2.2.2.2.1 (ω.1 σ)) (hS : va_S C.2.2.2.2.1 C.1.2.2.2.2.heap H locs) (U : State) (hU : U.heap = H) (hW : C.1.2.2.2.2.WarmedH U.vm) : zPre C.2.2.2.1 ω σ H.size U := by
  refine ⟨by rw [hU], by rw [hU]; exact hP, va_K.moved hW.alike hC.2.2.2.2.2.1, hD.weaken (fun _ _ _ _ => trivial), ?_⟩
  rw [hU]
  exact hC.2.2.2.2.2.2.2.2.2.1.2.1 _ _ _ _ hW (hC.2.2.2.2.2.2.2.2.2.1.1 _ _ _ _ _ hC.2.2.2.2.2.2.2.2.2.2.1 hS.2.1 (zFree hC.2.2.2.2.2.2.2.2.1 hD hS))
set_option maxHeartbeats 1000000 in
theorem gg_callVI {S α : Type} {C : zK} {ω : zO S} {cc : ByteArray} {own : String} {nL fr lo pc idx maxL fr1 lo1 n : Nat} {E : α → Prop} {lv : List (Nat × Value)} {st : List Value} {σ : S} {y : MethodName} {bytes : ByteArray} {ret : Option FieldType} {As rest : List Value} {CC : String} {b : Nat} {fs : List Value} {T : u_T} {N : Nat} {o1 : Option (Int32 × S)} {K : Int32 → S → Option α} (hC : zOK C ω cc own nL fr lo) (hd : decode cc pc = .ok (.invokevirtual idx, 3)) (hw : zCV own idx CC y bytes maxL ret n) (hM : ∀ q, o1 = some q → zMI C.1.2.1 C.2.2.2.1 ω y (zws y bytes maxL ret) fr1 lo1 (.ref b :: As) σ q) (hfr : fr1 + 1 ≤ fr) (hlo : 8 + (maxL + 11) + lo1 ≤ lo) (hst : st = As.reverse ++ .ref b :: rest) (hn : As.length = n) (hcat : (rest.map fun v => v.category).sum ≤ 8) (q0 ci : Nat) (he : (ω.1 σ)[q0]? = some (b, .inr (ci, fs))) (hc : vwCl[ci]? = some (CC, T, N)) (k : ∀ (x : Int32) (τ : S), zG C ω nL E (K x τ) (pc + 3) lv (.int x :: rest) τ) : zG C ω nL E (zy2 o1 K) pc lv st σ := by
  intro v hv hE H locs ls hP hD hS hl
  subst hst
  cases hq : o1 with
  | none => rw [hq] at hv; cases hv
  | some q =>
    rw [hq] at hv
    have hFc := zFree hC.2.2.2.2.2.2.2.2.1 hD hS
    have hpre := zPreOf hC hP hD hS
    have hR : fr1 + 1 ≤ C.1.2.2.2.1.frames ∧ 8 + (maxL + 11) + lo1 ≤ C.1.2.2.2.1.locals := ⟨Nat.le_trans hfr hC.2.2.2.2.2.2.1, Nat.le_trans hlo hC.2.2.2.2.2.2.2.1⟩
    have cw := cwV (R := C.1.2.2.2.1) (s := C.1.2.2.2.2) (args := C.2.1.2.1) (rm := { frames := fr1, cells := 0, slots := 0, locals := lo1 }) (mc := 0) (ms := 0) n hC.2.2.2.2.1 hw.good rfl rfl rfl hw.2.2.2.2.2 hR
    refine va_calli (va_runV (As := As) (rest := rest) ⟨hC.1, hC.2.1, hC.2.2.1, hC.2.2.2.1, hC.2.2.2.2.1⟩ (hM q hq H.size) cw ⟨zBlind hC.2.2.2.2.2.2.2.2.2.1, va_recv hC.2.2.2.2.2.1 hP hc he, fun U hU hW => ⟨rfl, hpre U hU hW⟩⟩ rfl hn hl.1 rfl (lv_room hcat) hd ⟨hC.2.2.2.2.2.2.2.2.2.2.2.1, hC.2.2.2.2.2.2.2.2.2.2.2.2⟩) hS (fun q _ h => hFc q h) hFc (fun r u t H1 locs1 ht hvm hw1 hB hz1 hk1 hS1 => ?_)
    obtain ⟨hP1, hK1, hD1⟩ := hB
    rw [ht] at hP1
    have e : (r, u) = q := hw1
    subst e
    exact k r u v hv hE H1 locs1 ls hP1 (hD1.weaken (fun _ z _ h => hFc z.1 h)) hS1 hl
set_option maxHeartbeats 1000000 in
theorem gg_callVIr {S α : Type} {C : zK} {ω : zO S} {cc : ByteArray} {own : String} {nL fr lo pc idx maxL fr1 lo1 n : Nat} {E : α → Prop} {lv : List (Nat × Value)} {st : List Value} {σ : S} {y : MethodName} {bytes : ByteArray} {ret : Option FieldType} {As rest : List Value} {CC : String} {b : Nat} {fs : List Value} {T : u_T} {N : Nat} {o1 : Option (Int32)} {K : Int32 → Option α} (hC : zOK C ω cc own nL fr lo) (hd : decode cc pc = .ok (.invokevirtual idx, 3)) (hw : zCV own idx CC y bytes maxL ret n) (hM : ∀ q, o1 = some q → zMI C.1.2.1 C.2.2.2.1 ω y (zws y bytes maxL ret) fr1 lo1 (.ref b :: As) σ (q, σ)) (hfr : fr1 + 1 ≤ fr) (hlo : 8 + (maxL + 11) + lo1 ≤ lo) (hst : st = As.reverse ++ .ref b :: rest) (hn : As.length = n) (hcat : (rest.map fun v => v.category).sum ≤ 8) (q0 ci : Nat) (he : (ω.1 σ)[q0]? = some (b, .inr (ci, fs))) (hc : vwCl[ci]? = some (CC, T, N)) (k : ∀ x : Int32, zG C ω nL E (K x) (pc + 3) lv (.int x :: rest) σ) : zG C ω nL E (zy1 o1 K) pc lv st σ := by
  intro v hv hE H locs ls hP hD hS hl
  subst hst
  cases hq : o1 with
  | none => rw [hq] at hv; cases hv
  | some q =>
    rw [hq] at hv
    have hFc := zFree hC.2.2.2.2.2.2.2.2.1 hD hS
    have hpre := zPreOf hC hP hD hS
    have hR : fr1 + 1 ≤ C.1.2.2.2.1.frames ∧ 8 + (maxL + 11) + lo1 ≤ C.1.2.2.2.1.locals := ⟨Nat.le_trans hfr hC.2.2.2.2.2.2.1, Nat.le_trans hlo hC.2.2.2.2.2.2.2.1⟩
    have cw := cwV (R := C.1.2.2.2.1) (s := C.1.2.2.2.2) (args := C.2.1.2.1) (rm := { frames := fr1, cells := 0, slots := 0, locals := lo1 }) (mc := 0) (ms := 0) n hC.2.2.2.2.1 hw.good rfl rfl rfl hw.2.2.2.2.2 hR
    refine va_calli (va_runV (As := As) (rest := rest) ⟨hC.1, hC.2.1, hC.2.2.1, hC.2.2.2.1, hC.2.2.2.2.1⟩ (hM q hq H.size) cw ⟨zBlind hC.2.2.2.2.2.2.2.2.2.1, va_recv hC.2.2.2.2.2.1 hP hc he, fun U hU hW => ⟨rfl, hpre U hU hW⟩⟩ rfl hn hl.1 rfl (lv_room hcat) hd ⟨hC.2.2.2.2.2.2.2.2.2.2.2.1, hC.2.2.2.2.2.2.2.2.2.2.2.2⟩) hS (fun q _ h => hFc q h) hFc (fun r u t H1 locs1 ht hvm hw1 hB hz1 hk1 hS1 => ?_)
    obtain ⟨hP1, hK1, hD1⟩ := hB
    rw [ht] at hP1
    have e1 : r = q := congrArg Prod.fst hw1
    have e2 : u = σ := congrArg Prod.snd hw1
    subst e1
    subst e2
    exact k r v hv hE H1 locs1 ls hP1 (hD1.weaken (fun _ z _ h => hFc z.1 h)) hS1 hl
set_option maxHeartbeats 1000000 in
theorem gg_callVL {S α : Type} {C : zK} {ω : zO S} {cc : ByteArray} {own : String} {nL fr lo pc idx maxL fr1 lo1 n : Nat} {E : α → Prop} {lv : List (Nat × Value)} {st : List Value} {σ : S} {y : MethodName} {bytes : ByteArray} {ret : Option FieldType} {As rest : List Value} {CC : String} {b : Nat} {fs : List Value} {T : u_T} {N : Nat} {o1 : Option (Int64 × S)} {K : Int64 → S → Option α} (hC : zOK C ω cc own nL fr lo) (hd : decode cc pc = .ok (.invokevirtual idx, 3)) (hw : zCV own idx CC y bytes maxL ret n) (hM : ∀ q, o1 = some q → zML C.1.2.1 C.2.2.2.1 ω y (zws y bytes maxL ret) fr1 lo1 (.ref b :: As) σ q) (hfr : fr1 + 1 ≤ fr) (hlo : 8 + (maxL + 11) + lo1 ≤ lo) (hst : st = As.reverse ++ .ref b :: rest) (hn : As.length = n) (hcat : (rest.map fun v => v.category).sum ≤ 8) (q0 ci : Nat) (he : (ω.1 σ)[q0]? = some (b, .inr (ci, fs))) (hc : vwCl[ci]? = some (CC, T, N)) (k : ∀ (x : Int64) (τ : S), zG C ω nL E (K x τ) (pc + 3) lv (.long x :: rest) τ) : zG C ω nL E (zy2 o1 K) pc lv st σ := by
  intro v hv hE H locs ls hP hD hS hl
  subst hst
  cases hq : o1 with
  | none => rw [hq] at hv; cases hv
  | some q =>
    rw [hq] at hv
    have hFc := zFree hC.2.2.2.2.2.2.2.2.1 hD hS
    have hpre := zPreOf hC hP hD hS
    have hR : fr1 + 1 ≤ C.1.2.2.2.1.frames ∧ 8 + (maxL + 11) + lo1 ≤ C.1.2.2.2.1.locals := ⟨Nat.le_trans hfr hC.2.2.2.2.2.2.1, Nat.le_trans hlo hC.2.2.2.2.2.2.2.1⟩
    have cw := cwV (R := C.1.2.2.2.1) (s := C.1.2.2.2.2) (args := C.2.1.2.1) (rm := { frames := fr1, cells := 0, slots := 0, locals := lo1 }) (mc := 0) (ms := 0) n hC.2.2.2.2.1 hw.good rfl rfl rfl hw.2.2.2.2.2 hR
    refine va_calll (va_runV (As := As) (rest := rest) ⟨hC.1, hC.2.1, hC.2.2.1, hC.2.2.2.1, hC.2.2.2.2.1⟩ (hM q hq H.size) cw ⟨zBlind hC.2.2.2.2.2.2.2.2.2.1, va_recv hC.2.2.2.2.2.1 hP hc he, fun U hU hW => ⟨rfl, hpre U hU hW⟩⟩ rfl hn hl.1 rfl (lv_room hcat) hd ⟨hC.2.2.2.2.2.2.2.2.2.2.2.1, hC.2.2.2.2.2.2.2.2.2.2.2.2⟩) hS (fun q _ h => hFc q h) hFc (fun r u t H1 locs1 ht hvm hw1 hB hz1 hk1 hS1 => ?_)
    obtain ⟨hP1, hK1, hD1⟩ := hB
    rw [ht] at hP1
    have e : (r, u) = q := hw1
    subst e
    exact k r u v hv hE H1 locs1 ls hP1 (hD1.weaken (fun _ z _ h => hFc z.1 h)) hS1 hl
set_option maxHeartbeats 1000000 in
theorem gg_callVLr {S α : Type} {C : zK} {ω : zO S} {cc : ByteArray} {own : String} {nL fr lo pc idx maxL fr1 lo1 n : Nat} {E : α → Prop} {lv : List (Nat × Value)} {st : List Value} {σ : S} {y : MethodName} {bytes : ByteArray} {ret : Option FieldType} {As rest : List Value} {CC : String} {b : Nat} {fs : List Value} {T : u_T} {N : Nat} {o1 : Option (Int64)} {K : Int64 → Option α} (hC : zOK C ω cc own nL fr lo) (hd : decode cc pc = .ok (.invokevirtual idx, 3)) (hw : zCV own idx CC y bytes maxL ret n) (hM : ∀ q, o1 = some q → zML C.1.2.1 C.2.2.2.1 ω y (zws y bytes maxL ret) fr1 lo1 (.ref b :: As) σ (q, σ)) (hfr : fr1 + 1 ≤ fr) (hlo : 8 + (maxL + 11) + lo1 ≤ lo) (hst : st = As.reverse ++ .ref b :: rest) (hn : As.length = n) (hcat : (rest.map fun v => v.category).sum ≤ 8) (q0 ci : Nat) (he : (ω.1 σ)[q0]? = some (b, .inr (ci, fs))) (hc : vwCl[ci]? = some (CC, T, N)) (k : ∀ x : Int64, zG C ω nL E (K x) (pc + 3) lv (.long x :: rest) σ) : zG C ω nL E (zy1 o1 K) pc lv st σ := by
  intro v hv hE H locs ls hP hD hS hl
  subst hst
  cases hq : o1 with
  | none => rw [hq] at hv; cases hv
  | some q =>
    rw [hq] at hv
    have hFc := zFree hC.2.2.2.2.2.2.2.2.1 hD hS
    have hpre := zPreOf hC hP hD hS
    have hR : fr1 + 1 ≤ C.1.2.2.2.1.frames ∧ 8 + (maxL + 11) + lo1 ≤ C.1.2.2.2.1.locals := ⟨Nat.le_trans hfr hC.2.2.2.2.2.2.1, Nat.le_trans hlo hC.2.2.2.2.2.2.2.1⟩
    have cw := cwV (R := C.1.2.2.2.1) (s := C.1.2.2.2.2) (args := C.2.1.2.1) (rm := { frames := fr1, cells := 0, slots := 0, locals := lo1 }) (mc := 0) (ms := 0) n hC.2.2.2.2.1 hw.good rfl rfl rfl hw.2.2.2.2.2 hR
    refine va_calll (va_runV (As := As) (rest := rest) ⟨hC.1, hC.2.1, hC.2.2.1, hC.2.2.2.1, hC.2.2.2.2.1⟩ (hM q hq H.size) cw ⟨zBlind hC.2.2.2.2.2.2.2.2.2.1, va_recv hC.2.2.2.2.2.1 hP hc he, fun U hU hW => ⟨rfl, hpre U hU hW⟩⟩ rfl hn hl.1 rfl (lv_room hcat) hd ⟨hC.2.2.2.2.2.2.2.2.2.2.2.1, hC.2.2.2.2.2.2.2.2.2.2.2.2⟩) hS (fun q _ h => hFc q h) hFc (fun r u t H1 locs1 ht hvm hw1 hB hz1 hk1 hS1 => ?_)
    obtain ⟨hP1, hK1, hD1⟩ := hB
    rw [ht] at hP1
    have e1 : r = q := congrArg Prod.fst hw1
    have e2 : u = σ := congrArg Prod.snd hw1
    subst e1
    subst e2
    exact k r v hv hE H1 locs1 ls hP1 (hD1.weaken (fun _ z _ h => hFc z.1 h)) hS1 hl
set_option maxHeartbeats 1000000 in
theorem gg_callVV {S α : Type} {C : zK} {ω : zO S} {cc : ByteArray} {own : String} {nL fr lo pc idx maxL fr1 lo1 n : Nat} {E : α → Prop} {lv : List (Nat × Value)} {st : List Value} {σ : S} {y : MethodName} {bytes : ByteArray} {ret : Option FieldType} {As rest : List Value} {CC : String} {b : Nat} {fs : List Value} {T : u_T} {N : Nat} {o1 : Option (S)} {K : S → Option α} (hC : zOK C ω cc own nL fr lo) (hd : decode cc pc = .ok (.invokevirtual idx, 3)) (hw : zCV own idx CC y bytes maxL ret n) (hM : ∀ q, o1 = some q → zMV C.1.2.1 C.2.2.2.1 ω y (zws y bytes maxL ret) fr1 lo1 (.ref b :: As) σ q) (hfr : fr1 + 1 ≤ fr) (hlo : 8 + (maxL + 11) + lo1 ≤ lo) (hst : st = As.reverse ++ .ref b :: rest) (hn : As.length = n) (hcat : (rest.map fun v => v.category).sum ≤ 8) (q0 ci : Nat) (he : (ω.1 σ)[q0]? = some (b, .inr (ci, fs))) (hc : vwCl[ci]? = some (CC, T, N)) (k : ∀ τ : S, zG C ω nL E (K τ) (pc + 3) lv rest τ) : zG C ω nL E (zy1 o1 K) pc lv st σ := by
  intro v hv hE H locs ls hP hD hS hl
  subst hst
  cases hq : o1 with
  | none => rw [hq] at hv; cases hv
  | some q =>
    rw [hq] at hv
    have hFc := zFree hC.2.2.2.2.2.2.2.2.1 hD hS
    have hpre := zPreOf hC hP hD hS
    have hR : fr1 + 1 ≤ C.1.2.2.2.1.frames ∧ 8 + (maxL + 11) + lo1 ≤ C.1.2.2.2.1.locals := ⟨Nat.le_trans hfr hC.2.2.2.2.2.2.1, Nat.le_trans hlo hC.2.2.2.2.2.2.2.1⟩
    have cw := cwV (R := C.1.2.2.2.1) (s := C.1.2.2.2.2) (args := C.2.1.2.1) (rm := { frames := fr1, cells := 0, slots := 0, locals := lo1 }) (mc := 0) (ms := 0) n hC.2.2.2.2.1 hw.good rfl rfl rfl hw.2.2.2.2.2 hR
    refine va_callv (va_runV (As := As) (rest := rest) ⟨hC.1, hC.2.1, hC.2.2.1, hC.2.2.2.1, hC.2.2.2.2.1⟩ (hM q hq H.size) cw ⟨zBlind hC.2.2.2.2.2.2.2.2.2.1, va_recv hC.2.2.2.2.2.1 hP hc he, fun U hU hW => ⟨rfl, hpre U hU hW⟩⟩ rfl hn hl.1 rfl (lv_room hcat) hd ⟨hC.2.2.2.2.2.2.2.2.2.2.2.1, hC.2.2.2.2.2.2.2.2.2.2.2.2⟩) hS (fun q _ h => hFc q h) hFc (fun u t H1 locs1 ht hvm hw1 hB hz1 hk1 hS1 => ?_)
    obtain ⟨hP1, hK1, hD1⟩ := hB
    rw [ht] at hP1
    have e : u = q := hw1
    subst e
    exact k u v hv hE H1 locs1 ls hP1 (hD1.weaken (fun _ z _ h => hFc z.1 h)) hS1 hl
set_option maxHeartbeats 1000000 in
theorem gg_callSI {S α : Type} {C : zK} {ω : zO S} {cc : ByteArray} {own : String} {nL fr lo pc idx maxL fr1 lo1 n : Nat} {E : α → Prop} {lv : List (Nat × Value)} {st : List Value} {σ : S} {y : MethodName} {bytes : ByteArray} {ret : Option FieldType} {As rest : List Value} {o1 : Option (Int32 × S)} {K : Int32 → S → Option α} (hC : zOK C ω cc own nL fr lo) (hd : decode cc pc = .ok (.invokestatic idx, 3)) (hw : zCS own idx y bytes maxL ret n) (hM : ∀ q, o1 = some q → zMI C.1.2.1 C.2.2.2.1 ω y (zws y bytes maxL ret) fr1 lo1 As σ q) (hfr : fr1 + 1 ≤ fr) (hlo : 8 + (maxL + 11) + lo1 ≤ lo) (hst : st = As.reverse ++ rest) (hn : As.length = n) (hcat : (rest.map fun v => v.category).sum ≤ 8) (k : ∀ (x : Int32) (τ : S), zG C ω nL E (K x τ) (pc + 3) lv (.int x :: rest) τ) : zG C ω nL E (zy2 o1 K) pc lv st σ := by
  intro v hv hE H locs ls hP hD hS hl
  subst hst
  cases hq : o1 with
  | none => rw [hq] at hv; cases hv
  | some q =>
    rw [hq] at hv
    have hFc := zFree hC.2.2.2.2.2.2.2.2.1 hD hS
    have hpre := zPreOf hC hP hD hS
    have hR : fr1 + 1 ≤ C.1.2.2.2.1.frames ∧ 8 + (maxL + 11) + lo1 ≤ C.1.2.2.2.1.locals := ⟨Nat.le_trans hfr hC.2.2.2.2.2.2.1, Nat.le_trans hlo hC.2.2.2.2.2.2.2.1⟩
    have cw := cwS (R := C.1.2.2.2.1) (s := C.1.2.2.2.2) (args := C.2.1.2.1) (rm := { frames := fr1, cells := 0, slots := 0, locals := lo1 }) (mc := 0) (ms := 0) n hC.2.2.2.2.1 hw.good rfl rfl rfl hw.2.2.2.2 hR
    refine va_calli (va_runS (As := As) (rest := rest) ⟨hC.1, hC.2.1, hC.2.2.1, hC.2.2.2.1, hC.2.2.2.2.1⟩ (hM q hq H.size) cw ⟨zBlind hC.2.2.2.2.2.2.2.2.2.1, fun U hU hW => ⟨rfl, hpre U hU hW⟩⟩ rfl hn hl.1 rfl (lv_room hcat) hd ⟨hC.2.2.2.2.2.2.2.2.2.2.2.1, hC.2.2.2.2.2.2.2.2.2.2.2.2⟩) hS (fun q _ h => hFc q h) hFc (fun r u t H1 locs1 ht hvm hw1 hB hz1 hk1 hS1 => ?_)
    obtain ⟨hP1, hK1, hD1⟩ := hB
    rw [ht] at hP1
    have e : (r, u) = q := hw1
    subst e
    exact k r u v hv hE H1 locs1 ls hP1 (hD1.weaken (fun _ z _ h => hFc z.1 h)) hS1 hl
set_option maxHeartbeats 1000000 in
theorem gg_callSIr {S α : Type} {C : zK} {ω : zO S} {cc : ByteArray} {own : String} {nL fr lo pc idx maxL fr1 lo1 n : Nat} {E : α → Prop} {lv : List (Nat × Value)} {st : List Value} {σ : S} {y : MethodName} {bytes : ByteArray} {ret : Option FieldType} {As rest : List Value} {o1 : Option (Int32)} {K : Int32 → Option α} (hC : zOK C ω cc own nL fr lo) (hd : decode cc pc = .ok (.invokestatic idx, 3)) (hw : zCS own idx y bytes maxL ret n) (hM : ∀ q, o1 = some q → zMI C.1.2.1 C.2.2.2.1 ω y (zws y bytes maxL ret) fr1 lo1 As σ (q, σ)) (hfr : fr1 + 1 ≤ fr) (hlo : 8 + (maxL + 11) + lo1 ≤ lo) (hst : st = As.reverse ++ rest) (hn : As.length = n) (hcat : (rest.map fun v => v.category).sum ≤ 8) (k : ∀ x : Int32, zG C ω nL E (K x) (pc + 3) lv (.int x :: rest) σ) : zG C ω nL E (zy1 o1 K) pc lv st σ := by
  intro v hv hE H locs ls hP hD hS hl
  subst hst
  cases hq : o1 with
  | none => rw [hq] at hv; cases hv
  | some q =>
    rw [hq] at hv
    have hFc := zFree hC.2.2.2.2.2.2.2.2.1 hD hS
    have hpre := zPreOf hC hP hD hS
    have hR : fr1 + 1 ≤ C.1.2.2.2.1.frames ∧ 8 + (maxL + 11) + lo1 ≤ C.1.2.2.2.1.locals := ⟨Nat.le_trans hfr hC.2.2.2.2.2.2.1, Nat.le_trans hlo hC.2.2.2.2.2.2.2.1⟩
    have cw := cwS (R := C.1.2.2.2.1) (s := C.1.2.2.2.2) (args := C.2.1.2.1) (rm := { frames := fr1, cells := 0, slots := 0, locals := lo1 }) (mc := 0) (ms := 0) n hC.2.2.2.2.1 hw.good rfl rfl rfl hw.2.2.2.2 hR
    refine va_calli (va_runS (As := As) (rest := rest) ⟨hC.1, hC.2.1, hC.2.2.1, hC.2.2.2.1, hC.2.2.2.2.1⟩ (hM q hq H.size) cw ⟨zBlind hC.2.2.2.2.2.2.2.2.2.1, fun U hU hW => ⟨rfl, hpre U hU hW⟩⟩ rfl hn hl.1 rfl (lv_room hcat) hd ⟨hC.2.2.2.2.2.2.2.2.2.2.2.1, hC.2.2.2.2.2.2.2.2.2.2.2.2⟩) hS (fun q _ h => hFc q h) hFc (fun r u t H1 locs1 ht hvm hw1 hB hz1 hk1 hS1 => ?_)
    obtain ⟨hP1, hK1, hD1⟩ := hB
    rw [ht] at hP1
    have e1 : r = q := congrArg Prod.fst hw1
    have e2 : u = σ := congrArg Prod.snd hw1
    subst e1
    subst e2
    exact k r v hv hE H1 locs1 ls hP1 (hD1.weaken (fun _ z _ h => hFc z.1 h)) hS1 hl
set_option maxHeartbeats 1000000 in
theorem gg_callSL {S α : Type} {C : zK} {ω : zO S} {cc : ByteArray} {own : String} {nL fr lo pc idx maxL fr1 lo1 n : Nat} {E : α → Prop} {lv : List (Nat × Value)} {st : List Value} {σ : S} {y : MethodName} {bytes : ByteArray} {ret : Option FieldType} {As rest : List Value} {o1 : Option (Int64 × S)} {K : Int64 → S → Option α} (hC : zOK C ω cc own nL fr lo) (hd : decode cc pc = .ok (.invokestatic idx, 3)) (hw : zCS own idx y bytes maxL ret n) (hM : ∀ q, o1 = some q → zML C.1.2.1 C.2.2.2.1 ω y (zws y bytes maxL ret) fr1 lo1 As σ q) (hfr : fr1 + 1 ≤ fr) (hlo : 8 + (maxL + 11) + lo1 ≤ lo) (hst : st = As.reverse ++ rest) (hn : As.length = n) (hcat : (rest.map fun v => v.category).sum ≤ 8) (k : ∀ (x : Int64) (τ : S), zG C ω nL E (K x τ) (pc + 3) lv (.long x :: rest) τ) : zG C ω nL E (zy2 o1 K) pc lv st σ := by
  intro v hv hE H locs ls hP hD hS hl
  subst hst
  cases hq : o1 with
  | none => rw [hq] at hv; cases hv
  | some q =>
    rw [hq] at hv
    have hFc := zFree hC.2.2.2.2.2.2.2.2.1 hD hS
    have hpre := zPreOf hC hP hD hS
    have hR : fr1 + 1 ≤ C.1.2.2.2.1.frames ∧ 8 + (maxL + 11) + lo1 ≤ C.1.2.2.2.1.locals := ⟨Nat.le_trans hfr hC.2.2.2.2.2.2.1, Nat.le_trans hlo hC.2.2.2.2.2.2.2.1⟩
    have cw := cwS (R := C.1.2.2.2.1) (s := C.1.2.2.2.2) (args := C.2.1.2.1) (rm := { frames := fr1, cells := 0, slots := 0, locals := lo1 }) (mc := 0) (ms := 0) n hC.2.2.2.2.1 hw.good rfl rfl rfl hw.2.2.2.2 hR
    refine va_calll (va_runS (As := As) (rest := rest) ⟨hC.1, hC.2.1, hC.2.2.1, hC.2.2.2.1, hC.2.2.2.2.1⟩ (hM q hq H.size) cw ⟨zBlind hC.2.2.2.2.2.2.2.2.2.1, fun U hU hW => ⟨rfl, hpre U hU hW⟩⟩ rfl hn hl.1 rfl (lv_room hcat) hd ⟨hC.2.2.2.2.2.2.2.2.2.2.2.1, hC.2.2.2.2.2.2.2.2.2.2.2.2⟩) hS (fun q _ h => hFc q h) hFc (fun r u t H1 locs1 ht hvm hw1 hB hz1 hk1 hS1 => ?_)
    obtain ⟨hP1, hK1, hD1⟩ := hB
    rw [ht] at hP1
    have e : (r, u) = q := hw1
    subst e
    exact k r u v hv hE H1 locs1 ls hP1 (hD1.weaken (fun _ z _ h => hFc z.1 h)) hS1 hl
set_option maxHeartbeats 1000000 in
theorem gg_callSLr {S α : Type} {C : zK} {ω : zO S} {cc : ByteArray} {own : String} {nL fr lo pc idx maxL fr1 lo1 n : Nat} {E : α → Prop} {lv : List (Nat × Value)} {st : List Value} {σ : S} {y : MethodName} {bytes : ByteArray} {ret : Option FieldType} {As rest : List Value} {o1 : Option (Int64)} {K : Int64 → Option α} (hC : zOK C ω cc own nL fr lo) (hd : decode cc pc = .ok (.invokestatic idx, 3)) (hw : zCS own idx y bytes maxL ret n) (hM : ∀ q, o1 = some q → zML C.1.2.1 C.2.2.2.1 ω y (zws y bytes maxL ret) fr1 lo1 As σ (q, σ)) (hfr : fr1 + 1 ≤ fr) (hlo : 8 + (maxL + 11) + lo1 ≤ lo) (hst : st = As.reverse ++ rest) (hn : As.length = n) (hcat : (rest.map fun v => v.category).sum ≤ 8) (k : ∀ x : Int64, zG C ω nL E (K x) (pc + 3) lv (.long x :: rest) σ) : zG C ω nL E (zy1 o1 K) pc lv st σ := by
  intro v hv hE H locs ls hP hD hS hl
  subst hst
  cases hq : o1 with
  | none => rw [hq] at hv; cases hv
  | some q =>
    rw [hq] at hv
    have hFc := zFree hC.2.2.2.2.2.2.2.2.1 hD hS
    have hpre := zPreOf hC hP hD hS
    have hR : fr1 + 1 ≤ C.1.2.2.2.1.frames ∧ 8 + (maxL + 11) + lo1 ≤ C.1.2.2.2.1.locals := ⟨Nat.le_trans hfr hC.2.2.2.2.2.2.1, Nat.le_trans hlo hC.2.2.2.2.2.2.2.1⟩
    have cw := cwS (R := C.1.2.2.2.1) (s := C.1.2.2.2.2) (args := C.2.1.2.1) (rm := { frames := fr1, cells := 0, slots := 0, locals := lo1 }) (mc := 0) (ms := 0) n hC.2.2.2.2.1 hw.good rfl rfl rfl hw.2.2.2.2 hR
    refine va_calll (va_runS (As := As) (rest := rest) ⟨hC.1, hC.2.1, hC.2.2.1, hC.2.2.2.1, hC.2.2.2.2.1⟩ (hM q hq H.size) cw ⟨zBlind hC.2.2.2.2.2.2.2.2.2.1, fun U hU hW => ⟨rfl, hpre U hU hW⟩⟩ rfl hn hl.1 rfl (lv_room hcat) hd ⟨hC.2.2.2.2.2.2.2.2.2.2.2.1, hC.2.2.2.2.2.2.2.2.2.2.2.2⟩) hS (fun q _ h => hFc q h) hFc (fun r u t H1 locs1 ht hvm hw1 hB hz1 hk1 hS1 => ?_)
    obtain ⟨hP1, hK1, hD1⟩ := hB
    rw [ht] at hP1
    have e1 : r = q := congrArg Prod.fst hw1
    have e2 : u = σ := congrArg Prod.snd hw1
    subst e1
    subst e2
    exact k r v hv hE H1 locs1 ls hP1 (hD1.weaken (fun _ z _ h => hFc z.1 h)) hS1 hl
set_option maxHeartbeats 1000000 in
theorem gg_callSV {S α : Type} {C : zK} {ω : zO S} {cc : ByteArray} {own : String} {nL fr lo pc idx maxL fr1 lo1 n : Nat} {E : α → Prop} {lv : List (Nat × Value)} {st : List Value} {σ : S} {y : MethodName} {bytes : ByteArray} {ret : Option FieldType} {As rest : List Value} {o1 : Option (S)} {K : S → Option α} (hC : zOK C ω cc own nL fr lo) (hd : decode cc pc = .ok (.invokestatic idx, 3)) (hw : zCS own idx y bytes maxL ret n) (hM : ∀ q, o1 = some q → zMV C.1.2.1 C.2.2.2.1 ω y (zws y bytes maxL ret) fr1 lo1 As σ q) (hfr : fr1 + 1 ≤ fr) (hlo : 8 + (maxL + 11) + lo1 ≤ lo) (hst : st = As.reverse ++ rest) (hn : As.length = n) (hcat : (rest.map fun v => v.category).sum ≤ 8) (k : ∀ τ : S, zG C ω nL E (K τ) (pc + 3) lv rest τ) : zG C ω nL E (zy1 o1 K) pc lv st σ := by
  intro v hv hE H locs ls hP hD hS hl
  subst hst
  cases hq : o1 with
  | none => rw [hq] at hv; cases hv
  | some q =>
    rw [hq] at hv
    have hFc := zFree hC.2.2.2.2.2.2.2.2.1 hD hS
    have hpre := zPreOf hC hP hD hS
    have hR : fr1 + 1 ≤ C.1.2.2.2.1.frames ∧ 8 + (maxL + 11) + lo1 ≤ C.1.2.2.2.1.locals := ⟨Nat.le_trans hfr hC.2.2.2.2.2.2.1, Nat.le_trans hlo hC.2.2.2.2.2.2.2.1⟩
    have cw := cwS (R := C.1.2.2.2.1) (s := C.1.2.2.2.2) (args := C.2.1.2.1) (rm := { frames := fr1, cells := 0, slots := 0, locals := lo1 }) (mc := 0) (ms := 0) n hC.2.2.2.2.1 hw.good rfl rfl rfl hw.2.2.2.2 hR
    refine va_callv (va_runS (As := As) (rest := rest) ⟨hC.1, hC.2.1, hC.2.2.1, hC.2.2.2.1, hC.2.2.2.2.1⟩ (hM q hq H.size) cw ⟨zBlind hC.2.2.2.2.2.2.2.2.2.1, fun U hU hW => ⟨rfl, hpre U hU hW⟩⟩ rfl hn hl.1 rfl (lv_room hcat) hd ⟨hC.2.2.2.2.2.2.2.2.2.2.2.1, hC.2.2.2.2.2.2.2.2.2.2.2.2⟩) hS (fun q _ h => hFc q h) hFc (fun u t H1 locs1 ht hvm hw1 hB hz1 hk1 hS1 => ?_)
    obtain ⟨hP1, hK1, hD1⟩ := hB
    rw [ht] at hP1
    have e : u = q := hw1
    subst e
    exact k u v hv hE H1 locs1 ls hP1 (hD1.weaken (fun _ z _ h => hFc z.1 h)) hS1 hl
theorem gg_iretr {S : Type} {C : zK} {ω : zO S} {cc : ByteArray} {nL pc : Nat} {lv : List (Nat × Value)} {σ : S} {r x : Int32} (hR : zRI C ω nL cc (r, σ)) (hd : decode cc pc = .ok (.ireturn, 1)) : zG C ω nL (fun v => v = r) (some x) pc lv [.int x] σ := gg_y (fun h => hR pc lv x σ hd (by rw [h]))
theorem gg_zretr {S : Type} {C : zK} {ω : zO S} {cc : ByteArray} {nL pc : Nat} {lv : List (Nat × Value)} {σ : S} {r x : Int32} (hR : zRZ C ω nL cc (r, σ)) (hd : decode cc pc = .ok (.ireturn, 1)) (hn : narrow .boolean (.int x) = .int x) : zG C ω nL (fun v => v = r) (some x) pc lv [.int x] σ := gg_y (fun h => hR pc lv x σ hd hn (by rw [h]))
theorem gg_zretgr {S : Type} {C : zK} {ω : zO S} {cc : ByteArray} {nL pc : Nat} {lv : List (Nat × Value)} {σ : S} {r x : Int32} (hR : zRZ C ω nL cc (r, σ)) (hd : decode cc pc = .ok (.ireturn, 1)) : zG C ω nL (fun v => v = r) (zg (zz x) (some x)) pc lv [.int x] σ := by
  intro v hv hE
  unfold zg at hv
  split at hv
  · next h => exact gg_zretr hR hd (zz_n h) v hv hE
  · cases hv
theorem gg_lretr {S : Type} {C : zK} {ω : zO S} {cc : ByteArray} {nL pc : Nat} {lv : List (Nat × Value)} {σ : S} {r x : Int64} (hR : zRL C ω nL cc (r, σ)) (hd : decode cc pc = .ok (.lreturn, 1)) : zG C ω nL (fun v => v = r) (some x) pc lv [.long x] σ := gg_y (fun h => hR pc lv x σ hd (by rw [h]))
theorem zm_Ir {S : Type} {l : Launch} {D : va_G} {ω : zO S} {y : MethodName} {cc : ByteArray} {maxL fr lo : Nat} {av : List Value} {lv : List (Nat × Value)} {σ : S} {o : Option Int32} {r : Int32} (hy : plainName y.cls = true) (hX : zX ω.2.2) (hle : (lg_sl av).length ≤ maxL) (hlv : lv_args 0 av = lv)
    (body : ∀ C : zK, C.1.2.1 = l → C.2.2.2.1 = D → zOK C ω cc y.cls maxL fr lo → zRI C ω maxL cc (r, σ) → zG C ω maxL (fun v => v = r) o 0 lv [] σ) (h : o = some r) : zMI l D ω y (zws y cc maxL (some .int)) fr lo av σ (r, σ) :=
  zm_I (o := some (r, σ)) hy hX hle hlv (fun C h1 h2 hC hR v hv _ => body C h1 h2 hC hR r h rfl) rfl
theorem zm_Zr {S : Type} {l : Launch} {D : va_G} {ω : zO S} {y : MethodName} {cc : ByteArray} {maxL fr lo : Nat} {av : List Value} {lv : List (Nat × Value)} {σ : S} {o : Option Int32} {r : Int32} (hy : plainName y.cls = true) (hX : zX ω.2.2) (hle : (lg_sl av).length ≤ maxL) (hlv : lv_args 0 av = lv)
    (body : ∀ C : zK, C.1.2.1 = l → C.2.2.2.1 = D → zOK C ω cc y.cls maxL fr lo → zRZ C ω maxL cc (r, σ) → zG C ω maxL (fun v => v = r) o 0 lv [] σ) (h : o = some r) : zMI l D ω y (zws y cc maxL (some .boolean)) fr lo av σ (r, σ) :=
  zm_Z (o := some (r, σ)) hy hX hle hlv (fun C h1 h2 hC hR v hv _ => body C h1 h2 hC hR r h rfl) rfl
theorem zm_Lr {S : Type} {l : Launch} {D : va_G} {ω : zO S} {y : MethodName} {cc : ByteArray} {maxL fr lo : Nat} {av : List Value} {lv : List (Nat × Value)} {σ : S} {o : Option Int64} {r : Int64} (hy : plainName y.cls = true) (hX : zX ω.2.2) (hle : (lg_sl av).length ≤ maxL) (hlv : lv_args 0 av = lv)
    (body : ∀ C : zK, C.1.2.1 = l → C.2.2.2.1 = D → zOK C ω cc y.cls maxL fr lo → zRL C ω maxL cc (r, σ) → zG C ω maxL (fun v => v = r) o 0 lv [] σ) (h : o = some r) : zML l D ω y (zws y cc maxL (some .long)) fr lo av σ (r, σ) :=
  zm_L (o := some (r, σ)) hy hX hle hlv (fun C h1 h2 hC hR v hv _ => body C h1 h2 hC hR r h rfl) rfl
theorem gg_mabs {S α : Type} {C : zK} {ω : zO S} {cc : ByteArray} {own : String} {nL fr lo pc idx : Nat} {E : α → Prop} {o : Option α} {lv : List (Nat × Value)} {st : List Value} {σ : S} {x : Int32} (hC : zOK C ω cc own nL fr lo) (hd : decode cc pc = .ok (.invokestatic idx, 3)) (hw : Cond.methodLink own idx Lib.Math.abs.name ∈ zT ∧ Cond.static Lib.Math.abs.name ∈ zT ∧ Cond.initialized "java/lang/Math" ∈ zT ∧ Cond.code Lib.Math.abs.name Lib.Math.abs.code 1 (some .int) ∈ zT) (hfr : 1 ≤ fr) (hlo : (st.map fun v => v.category).sum + 13 ≤ lo) (k : zG C ω nL E o (pc + 3) lv (.int (if 0 ≤ x then x else 0 - x) :: st) σ) : zG C ω nL E o pc lv (.int x :: st) σ :=
  fun v hv hE H locs ls hP hD hS hl => va_mabs hC.1 hC.2.1 (by rw [hC.2.2.1]; exact hl.1.symm) hC.2.2.2.1 (hC.2.2.2.2.1 _ hw.1) (hC.2.2.2.2.1 _ hw.2.1) (hC.2.2.2.2.1 _ hw.2.2.1) (hC.2.2.2.2.1 _ hw.2.2.2) (Nat.le_trans hfr hC.2.2.2.2.2.2.1) (Nat.le_trans hlo hC.2.2.2.2.2.2.2.1) hC.2.2.2.2.2.2.2.2.2.2.2.1 hC.2.2.2.2.2.2.2.2.2.2.2.2 hd (k v hv hE H locs ls hP hD hS hl)
theorem gg_mmax {S α : Type} {C : zK} {ω : zO S} {cc : ByteArray} {own : String} {nL fr lo pc idx : Nat} {E : α → Prop} {o : Option α} {lv : List (Nat × Value)} {st : List Value} {σ : S} {x y : Int32} (hC : zOK C ω cc own nL fr lo) (hd : decode cc pc = .ok (.invokestatic idx, 3)) (hw : Cond.methodLink own idx Lib.Math.max.name ∈ zT ∧ Cond.static Lib.Math.max.name ∈ zT ∧ Cond.initialized "java/lang/Math" ∈ zT ∧ Cond.code Lib.Math.max.name Lib.Math.max.code 2 (some .int) ∈ zT) (hfr : 1 ≤ fr) (hlo : (st.map fun v => v.category).sum + 13 ≤ lo) (k : zG C ω nL E o (pc + 3) lv (.int (if x < y then y else x) :: st) σ) : zG C ω nL E o pc lv (.int y :: .int x :: st) σ :=
  fun v hv hE H locs ls hP hD hS hl => va_mmax hC.1 hC.2.1 (by rw [hC.2.2.1]; exact hl.1.symm) hC.2.2.2.1 (hC.2.2.2.2.1 _ hw.1) (hC.2.2.2.2.1 _ hw.2.1) (hC.2.2.2.2.1 _ hw.2.2.1) (hC.2.2.2.2.1 _ hw.2.2.2) (Nat.le_trans hfr hC.2.2.2.2.2.2.1) (Nat.le_trans hlo hC.2.2.2.2.2.2.2.1) hC.2.2.2.2.2.2.2.2.2.2.2.1 hC.2.2.2.2.2.2.2.2.2.2.2.2 hd (k v hv hE H locs ls hP hD hS hl)
theorem gg_mmin {S α : Type} {C : zK} {ω : zO S} {cc : ByteArray} {own : String} {nL fr lo pc idx : Nat} {E : α → Prop} {o : Option α} {lv : List (Nat × Value)} {st : List Value} {σ : S} {x y : Int32} (hC : zOK C ω cc own nL fr lo) (hd : decode cc pc = .ok (.invokestatic idx, 3)) (hw : Cond.methodLink own idx Lib.Math.min.name ∈ zT ∧ Cond.static Lib.Math.min.name ∈ zT ∧ Cond.initialized "java/lang/Math" ∈ zT ∧ Cond.code Lib.Math.min.name Lib.Math.min.code 2 (some .int) ∈ zT) (hfr : 1 ≤ fr) (hlo : (st.map fun v => v.category).sum + 13 ≤ lo) (k : zG C ω nL E o (pc + 3) lv (.int (if y < x then y else x) :: st) σ) : zG C ω nL E o pc lv (.int y :: .int x :: st) σ :=
  fun v hv hE H locs ls hP hD hS hl => va_mmin hC.1 hC.2.1 (by rw [hC.2.2.1]; exact hl.1.symm) hC.2.2.2.1 (hC.2.2.2.2.1 _ hw.1) (hC.2.2.2.2.1 _ hw.2.1) (hC.2.2.2.2.1 _ hw.2.2.1) (hC.2.2.2.2.1 _ hw.2.2.2) (Nat.le_trans hfr hC.2.2.2.2.2.2.1) (Nat.le_trans hlo hC.2.2.2.2.2.2.2.1) hC.2.2.2.2.2.2.2.2.2.2.2.1 hC.2.2.2.2.2.2.2.2.2.2.2.2 hd (k v hv hE H locs ls hP hD hS hl)
theorem gg_mabsl {S α : Type} {C : zK} {ω : zO S} {cc : ByteArray} {own : String} {nL fr lo pc idx : Nat} {E : α → Prop} {o : Option α} {lv : List (Nat × Value)} {st : List Value} {σ : S} {x : Int64} (hC : zOK C ω cc own nL fr lo) (hd : decode cc pc = .ok (.invokestatic idx, 3)) (hw : Cond.methodLink own idx Lib.MathLoose.abs_long.x ∈ zT ∧ Cond.static Lib.MathLoose.abs_long.x ∈ zT ∧ Cond.initialized "java/lang/Math" ∈ zT ∧ Cond.code Lib.MathLoose.abs_long.x Lib.MathLoose.abs_long.code 2 (some .long) ∈ zT) (hfr : 1 ≤ fr) (hlo : (st.map fun v => v.category).sum + 13 ≤ lo) (k : zG C ω nL E o (pc + 3) lv (.long (if 0 < x then x else -x) :: st) σ) : zG C ω nL E o pc lv (.long x :: st) σ :=
  fun v hv hE H locs ls hP hD hS hl => va_mabs_long hC.1 hC.2.1 (by rw [hC.2.2.1]; exact hl.1.symm) hC.2.2.2.1 (hC.2.2.2.2.1 _ hw.1) (hC.2.2.2.2.1 _ hw.2.1) (hC.2.2.2.2.1 _ hw.2.2.1) (hC.2.2.2.2.1 _ hw.2.2.2) (Nat.le_trans hfr hC.2.2.2.2.2.2.1) (Nat.le_trans hlo hC.2.2.2.2.2.2.2.1) hC.2.2.2.2.2.2.2.2.2.2.2.1 hC.2.2.2.2.2.2.2.2.2.2.2.2 hd (k v hv hE H locs ls hP hD hS hl)
theorem gg_mmaxl {S α : Type} {C : zK} {ω : zO S} {cc : ByteArray} {own : String} {nL fr lo pc idx : Nat} {E : α → Prop} {o : Option α} {lv : List (Nat × Value)} {st : List Value} {σ : S} {x y : Int64} (hC : zOK C ω cc own nL fr lo) (hd : decode cc pc = .ok (.invokestatic idx, 3)) (hw : Cond.methodLink own idx Lib.MathLoose.max_long.x ∈ zT ∧ Cond.static Lib.MathLoose.max_long.x ∈ zT ∧ Cond.initialized "java/lang/Math" ∈ zT ∧ Cond.code Lib.MathLoose.max_long.x Lib.MathLoose.max_long.code 4 (some .long) ∈ zT) (hfr : 1 ≤ fr) (hlo : (st.map fun v => v.category).sum + 15 ≤ lo) (k : zG C ω nL E o (pc + 3) lv (.long (if y < x then x else y) :: st) σ) : zG C ω nL E o pc lv (.long y :: .long x :: st) σ :=
  fun v hv hE H locs ls hP hD hS hl => va_mmax_long hC.1 hC.2.1 (by rw [hC.2.2.1]; exact hl.1.symm) hC.2.2.2.1 (hC.2.2.2.2.1 _ hw.1) (hC.2.2.2.2.1 _ hw.2.1) (hC.2.2.2.2.1 _ hw.2.2.1) (hC.2.2.2.2.1 _ hw.2.2.2) (Nat.le_trans hfr hC.2.2.2.2.2.2.1) (Nat.le_trans hlo hC.2.2.2.2.2.2.2.1) hC.2.2.2.2.2.2.2.2.2.2.2.1 hC.2.2.2.2.2.2.2.2.2.2.2.2 hd (k v hv hE H locs ls hP hD hS hl)
theorem gg_mminl {S α : Type} {C : zK} {ω : zO S} {cc : ByteArray} {own : String} {nL fr lo pc idx : Nat} {E : α → Prop} {o : Option α} {lv : List (Nat × Value)} {st : List Value} {σ : S} {x y : Int64} (hC : zOK C ω cc own nL fr lo) (hd : decode cc pc = .ok (.invokestatic idx, 3)) (hw : Cond.methodLink own idx Lib.MathLoose.min_long.x ∈ zT ∧ Cond.static Lib.MathLoose.min_long.x ∈ zT ∧ Cond.initialized "java/lang/Math" ∈ zT ∧ Cond.code Lib.MathLoose.min_long.x Lib.MathLoose.min_long.code 4 (some .long) ∈ zT) (hfr : 1 ≤ fr) (hlo : (st.map fun v => v.category).sum + 15 ≤ lo) (k : zG C ω nL E o (pc + 3) lv (.long (if y < x then y else x) :: st) σ) : zG C ω nL E o pc lv (.long y :: .long x :: st) σ :=
  fun v hv hE H locs ls hP hD hS hl => va_mmin_long hC.1 hC.2.1 (by rw [hC.2.2.1]; exact hl.1.symm) hC.2.2.2.1 (hC.2.2.2.2.1 _ hw.1) (hC.2.2.2.2.1 _ hw.2.1) (hC.2.2.2.2.1 _ hw.2.2.1) (hC.2.2.2.2.1 _ hw.2.2.2) (Nat.le_trans hfr hC.2.2.2.2.2.2.1) (Nat.le_trans hlo hC.2.2.2.2.2.2.2.1) hC.2.2.2.2.2.2.2.2.2.2.2.1 hC.2.2.2.2.2.2.2.2.2.2.2.2 hd (k v hv hE H locs ls hP hD hS hl)
end
