section
-- ===== PART A: goes FIRST, ahead of the names: the tables' words, and 'selects' of the private methods out of them =====
/-- a private method of a class that the tables say can be made, by its rows of tables_1 -/
def lw_okq (q : MethodName × Nat) : Prop := (q.1.cls ≠ "java/lang/invoke/MethodHandle" ∧ q.1.cls ≠ "java/lang/invoke/VarHandle") ∧ Cond.instantiable q.1.cls q.2 ∈ tables_1 ∧ Cond.privateMethod q.1 ∈ tables_1 ∧ Cond.instanceMethod q.1 ∈ tables_1
theorem lw_p0 : lw_okq (⟨"SwappedIntervals$Text", "takeClause", "(I)Z"⟩, 7) := ⟨⟨by decide +kernel, by decide +kernel⟩, List.mem_of_getElem? (i := 137) (by decide +kernel), List.mem_of_getElem? (i := 394) (by decide +kernel), List.mem_of_getElem? (i := 395) (by decide +kernel)⟩
theorem lw_p1 : lw_okq (⟨"SwappedIntervals$Text", "signHere", "()I"⟩, 7) := ⟨⟨by decide +kernel, by decide +kernel⟩, List.mem_of_getElem? (i := 137) (by decide +kernel), List.mem_of_getElem? (i := 398) (by decide +kernel), List.mem_of_getElem? (i := 399) (by decide +kernel)⟩
theorem lw_p2 : lw_okq (⟨"SwappedIntervals$Text", "takeNumber", "(I)I"⟩, 7) := ⟨⟨by decide +kernel, by decide +kernel⟩, List.mem_of_getElem? (i := 137) (by decide +kernel), List.mem_of_getElem? (i := 405) (by decide +kernel), List.mem_of_getElem? (i := 406) (by decide +kernel)⟩
theorem lw_p3 : lw_okq (⟨"SwappedIntervals", "doClause", "(III)I"⟩, 9) := ⟨⟨by decide +kernel, by decide +kernel⟩, List.mem_of_getElem? (i := 15) (by decide +kernel), List.mem_of_getElem? (i := 413) (by decide +kernel), List.mem_of_getElem? (i := 414) (by decide +kernel)⟩
theorem lw_p4 : lw_okq (⟨"SwappedIntervals", "exploreClass", "()I"⟩, 9) := ⟨⟨by decide +kernel, by decide +kernel⟩, List.mem_of_getElem? (i := 15) (by decide +kernel), List.mem_of_getElem? (i := 437) (by decide +kernel), List.mem_of_getElem? (i := 438) (by decide +kernel)⟩
theorem lw_p5 : lw_okq (⟨"SwappedIntervals$Shapes", "note", "(II)V"⟩, 4) := ⟨⟨by decide +kernel, by decide +kernel⟩, List.mem_of_getElem? (i := 189) (by decide +kernel), List.mem_of_getElem? (i := 445) (by decide +kernel), List.mem_of_getElem? (i := 446) (by decide +kernel)⟩
theorem lw_p6 : lw_okq (⟨"SwappedIntervals$Shapes", "indexOf", "(I)I"⟩, 4) := ⟨⟨by decide +kernel, by decide +kernel⟩, List.mem_of_getElem? (i := 189) (by decide +kernel), List.mem_of_getElem? (i := 449) (by decide +kernel), List.mem_of_getElem? (i := 450) (by decide +kernel)⟩
theorem lw_p7 : lw_okq (⟨"SwappedIntervals", "stepsToKept", "()I"⟩, 9) := ⟨⟨by decide +kernel, by decide +kernel⟩, List.mem_of_getElem? (i := 15) (by decide +kernel), List.mem_of_getElem? (i := 461) (by decide +kernel), List.mem_of_getElem? (i := 462) (by decide +kernel)⟩
theorem lw_p8 : lw_okq (⟨"SwappedIntervals", "genus", "()I"⟩, 9) := ⟨⟨by decide +kernel, by decide +kernel⟩, List.mem_of_getElem? (i := 15) (by decide +kernel), List.mem_of_getElem? (i := 477) (by decide +kernel), List.mem_of_getElem? (i := 478) (by decide +kernel)⟩
theorem lw_p9 : lw_okq (⟨"SwappedIntervals", "rounds", "()I"⟩, 9) := ⟨⟨by decide +kernel, by decide +kernel⟩, List.mem_of_getElem? (i := 15) (by decide +kernel), List.mem_of_getElem? (i := 481) (by decide +kernel), List.mem_of_getElem? (i := 482) (by decide +kernel)⟩
theorem lw_p10 : lw_okq (⟨"SwappedIntervals$Line", "markRound", "(I)V"⟩, 3) := ⟨⟨by decide +kernel, by decide +kernel⟩, List.mem_of_getElem? (i := 171) (by decide +kernel), List.mem_of_getElem? (i := 497) (by decide +kernel), List.mem_of_getElem? (i := 498) (by decide +kernel)⟩
theorem lw_p11 : lw_okq (⟨"SwappedIntervals", "ends", "()I"⟩, 9) := ⟨⟨by decide +kernel, by decide +kernel⟩, List.mem_of_getElem? (i := 15) (by decide +kernel), List.mem_of_getElem? (i := 501) (by decide +kernel), List.mem_of_getElem? (i := 502) (by decide +kernel)⟩
theorem lw_p12 : lw_okq (⟨"SwappedIntervals", "period", "(I)I"⟩, 9) := ⟨⟨by decide +kernel, by decide +kernel⟩, List.mem_of_getElem? (i := 15) (by decide +kernel), List.mem_of_getElem? (i := 525) (by decide +kernel), List.mem_of_getElem? (i := 526) (by decide +kernel)⟩
theorem lw_p13 : lw_okq (⟨"SwappedIntervals$Shapes", "rankOf", "(I)I"⟩, 4) := ⟨⟨by decide +kernel, by decide +kernel⟩, List.mem_of_getElem? (i := 189) (by decide +kernel), List.mem_of_getElem? (i := 550) (by decide +kernel), List.mem_of_getElem? (i := 551) (by decide +kernel)⟩
theorem lw_p14 : lw_okq (⟨"SwappedIntervals", "isAllSeen", "(LSwappedIntervals$Rows;)Z"⟩, 9) := ⟨⟨by decide +kernel, by decide +kernel⟩, List.mem_of_getElem? (i := 15) (by decide +kernel), List.mem_of_getElem? (i := 583) (by decide +kernel), List.mem_of_getElem? (i := 584) (by decide +kernel)⟩
theorem lw_p15 : lw_okq (⟨"SwappedIntervalsModel", "begins", "(I)V"⟩, 22) := ⟨⟨by decide +kernel, by decide +kernel⟩, List.mem_of_getElem? (i := 709) (by decide +kernel), List.mem_of_getElem? (i := 715) (by decide +kernel), List.mem_of_getElem? (i := 716) (by decide +kernel)⟩
def lw_privs_1 : List (MethodName × Nat) := [(⟨"SwappedIntervals$Text", "takeClause", "(I)Z"⟩, 7), (⟨"SwappedIntervals$Text", "signHere", "()I"⟩, 7), (⟨"SwappedIntervals$Text", "takeNumber", "(I)I"⟩, 7), (⟨"SwappedIntervals", "doClause", "(III)I"⟩, 9), (⟨"SwappedIntervals", "exploreClass", "()I"⟩, 9), (⟨"SwappedIntervals$Shapes", "note", "(II)V"⟩, 4), (⟨"SwappedIntervals$Shapes", "indexOf", "(I)I"⟩, 4), (⟨"SwappedIntervals", "stepsToKept", "()I"⟩, 9), (⟨"SwappedIntervals", "genus", "()I"⟩, 9), (⟨"SwappedIntervals", "rounds", "()I"⟩, 9), (⟨"SwappedIntervals$Line", "markRound", "(I)V"⟩, 3), (⟨"SwappedIntervals", "ends", "()I"⟩, 9), (⟨"SwappedIntervals", "period", "(I)I"⟩, 9), (⟨"SwappedIntervals$Shapes", "rankOf", "(I)I"⟩, 4), (⟨"SwappedIntervals", "isAllSeen", "(LSwappedIntervals$Rows;)Z"⟩, 9), (⟨"SwappedIntervalsModel", "begins", "(I)V"⟩, 22)]
theorem lw_r1 : ∀ q ∈ lw_privs_1, lw_okq q := List.forall_mem_cons.mpr ⟨lw_p0, List.forall_mem_cons.mpr ⟨lw_p1, List.forall_mem_cons.mpr ⟨lw_p2, List.forall_mem_cons.mpr ⟨lw_p3, List.forall_mem_cons.mpr ⟨lw_p4, List.forall_mem_cons.mpr ⟨lw_p5, List.forall_mem_cons.mpr ⟨lw_p6, List.forall_mem_cons.mpr ⟨lw_p7, List.forall_mem_cons.mpr ⟨lw_p8, List.forall_mem_cons.mpr ⟨lw_p9, List.forall_mem_cons.mpr ⟨lw_p10, List.forall_mem_cons.mpr ⟨lw_p11, List.forall_mem_cons.mpr ⟨lw_p12, List.forall_mem_cons.mpr ⟨lw_p13, List.forall_mem_cons.mpr ⟨lw_p14, List.forall_mem_cons.mpr ⟨lw_p15, fun _ h => absurd h List.not_mem_nil⟩⟩⟩⟩⟩⟩⟩⟩⟩⟩⟩⟩⟩⟩⟩⟩
theorem lw_p16 : lw_okq (⟨"SwappedIntervalsModel", "isCode", "(I)Z"⟩, 22) := ⟨⟨by decide +kernel, by decide +kernel⟩, List.mem_of_getElem? (i := 709) (by decide +kernel), List.mem_of_getElem? (i := 799) (by decide +kernel), List.mem_of_getElem? (i := 800) (by decide +kernel)⟩
theorem lw_p17 : lw_okq (⟨"SwappedIntervalsModel", "isLetter", "(I)Z"⟩, 22) := ⟨⟨by decide +kernel, by decide +kernel⟩, List.mem_of_getElem? (i := 709) (by decide +kernel), List.mem_of_getElem? (i := 803) (by decide +kernel), List.mem_of_getElem? (i := 804) (by decide +kernel)⟩
theorem lw_p18 : lw_okq (⟨"SwappedIntervalsModel", "keeps", "()V"⟩, 22) := ⟨⟨by decide +kernel, by decide +kernel⟩, List.mem_of_getElem? (i := 709) (by decide +kernel), List.mem_of_getElem? (i := 812) (by decide +kernel), List.mem_of_getElem? (i := 813) (by decide +kernel)⟩
theorem lw_p19 : lw_okq (⟨"SwappedIntervalsModel", "placeIn", "(II)I"⟩, 22) := ⟨⟨by decide +kernel, by decide +kernel⟩, List.mem_of_getElem? (i := 709) (by decide +kernel), List.mem_of_getElem? (i := 821) (by decide +kernel), List.mem_of_getElem? (i := 822) (by decide +kernel)⟩
theorem lw_p20 : lw_okq (⟨"SwappedIntervalsModel", "kindNow", "()I"⟩, 22) := ⟨⟨by decide +kernel, by decide +kernel⟩, List.mem_of_getElem? (i := 709) (by decide +kernel), List.mem_of_getElem? (i := 829) (by decide +kernel), List.mem_of_getElem? (i := 830) (by decide +kernel)⟩
theorem lw_p21 : lw_okq (⟨"SwappedIntervalsModel", "lastIn", "(I)I"⟩, 22) := ⟨⟨by decide +kernel, by decide +kernel⟩, List.mem_of_getElem? (i := 709) (by decide +kernel), List.mem_of_getElem? (i := 833) (by decide +kernel), List.mem_of_getElem? (i := 834) (by decide +kernel)⟩
theorem lw_p22 : lw_okq (⟨"SwappedIntervalsModel", "steps", "(I)V"⟩, 22) := ⟨⟨by decide +kernel, by decide +kernel⟩, List.mem_of_getElem? (i := 709) (by decide +kernel), List.mem_of_getElem? (i := 837) (by decide +kernel), List.mem_of_getElem? (i := 838) (by decide +kernel)⟩
theorem lw_p23 : lw_okq (⟨"SwappedIntervalsModel", "movesBehind", "(II)V"⟩, 22) := ⟨⟨by decide +kernel, by decide +kernel⟩, List.mem_of_getElem? (i := 709) (by decide +kernel), List.mem_of_getElem? (i := 841) (by decide +kernel), List.mem_of_getElem? (i := 842) (by decide +kernel)⟩
theorem lw_p24 : lw_okq (⟨"SwappedIntervalsModel", "stepsBack", "(I)I"⟩, 22) := ⟨⟨by decide +kernel, by decide +kernel⟩, List.mem_of_getElem? (i := 709) (by decide +kernel), List.mem_of_getElem? (i := 849) (by decide +kernel), List.mem_of_getElem? (i := 850) (by decide +kernel)⟩
theorem lw_p25 : lw_okq (⟨"SwappedIntervalsModel", "movesToEnd", "(II)I"⟩, 22) := ⟨⟨by decide +kernel, by decide +kernel⟩, List.mem_of_getElem? (i := 709) (by decide +kernel), List.mem_of_getElem? (i := 853) (by decide +kernel), List.mem_of_getElem? (i := 854) (by decide +kernel)⟩
theorem lw_p26 : lw_okq (⟨"SwappedIntervalsModel", "points", "()I"⟩, 22) := ⟨⟨by decide +kernel, by decide +kernel⟩, List.mem_of_getElem? (i := 709) (by decide +kernel), List.mem_of_getElem? (i := 857) (by decide +kernel), List.mem_of_getElem? (i := 858) (by decide +kernel)⟩
theorem lw_p27 : lw_okq (⟨"SwappedIntervalsModel", "undoes", "()V"⟩, 22) := ⟨⟨by decide +kernel, by decide +kernel⟩, List.mem_of_getElem? (i := 709) (by decide +kernel), List.mem_of_getElem? (i := 865) (by decide +kernel), List.mem_of_getElem? (i := 866) (by decide +kernel)⟩
theorem lw_p28 : lw_okq (⟨"SwappedIntervalsModel", "codeNow", "()I"⟩, 22) := ⟨⟨by decide +kernel, by decide +kernel⟩, List.mem_of_getElem? (i := 709) (by decide +kernel), List.mem_of_getElem? (i := 873) (by decide +kernel), List.mem_of_getElem? (i := 874) (by decide +kernel)⟩
theorem lw_p29 : lw_okq (⟨"SwappedIntervalsModel", "goesThrough", "(Z)I"⟩, 22) := ⟨⟨by decide +kernel, by decide +kernel⟩, List.mem_of_getElem? (i := 709) (by decide +kernel), List.mem_of_getElem? (i := 886) (by decide +kernel), List.mem_of_getElem? (i := 887) (by decide +kernel)⟩
theorem lw_p30 : lw_okq (⟨"SwappedIntervalsModel", "clause", "()I"⟩, 22) := ⟨⟨by decide +kernel, by decide +kernel⟩, List.mem_of_getElem? (i := 709) (by decide +kernel), List.mem_of_getElem? (i := 890) (by decide +kernel), List.mem_of_getElem? (i := 891) (by decide +kernel)⟩
theorem lw_p31 : lw_okq (⟨"SwappedIntervalsModel", "digitsTold", "(I)I"⟩, 22) := ⟨⟨by decide +kernel, by decide +kernel⟩, List.mem_of_getElem? (i := 709) (by decide +kernel), List.mem_of_getElem? (i := 894) (by decide +kernel), List.mem_of_getElem? (i := 895) (by decide +kernel)⟩
def lw_privs_2 : List (MethodName × Nat) := [(⟨"SwappedIntervalsModel", "isCode", "(I)Z"⟩, 22), (⟨"SwappedIntervalsModel", "isLetter", "(I)Z"⟩, 22), (⟨"SwappedIntervalsModel", "keeps", "()V"⟩, 22), (⟨"SwappedIntervalsModel", "placeIn", "(II)I"⟩, 22), (⟨"SwappedIntervalsModel", "kindNow", "()I"⟩, 22), (⟨"SwappedIntervalsModel", "lastIn", "(I)I"⟩, 22), (⟨"SwappedIntervalsModel", "steps", "(I)V"⟩, 22), (⟨"SwappedIntervalsModel", "movesBehind", "(II)V"⟩, 22), (⟨"SwappedIntervalsModel", "stepsBack", "(I)I"⟩, 22), (⟨"SwappedIntervalsModel", "movesToEnd", "(II)I"⟩, 22), (⟨"SwappedIntervalsModel", "points", "()I"⟩, 22), (⟨"SwappedIntervalsModel", "undoes", "()V"⟩, 22), (⟨"SwappedIntervalsModel", "codeNow", "()I"⟩, 22), (⟨"SwappedIntervalsModel", "goesThrough", "(Z)I"⟩, 22), (⟨"SwappedIntervalsModel", "clause", "()I"⟩, 22), (⟨"SwappedIntervalsModel", "digitsTold", "(I)I"⟩, 22)]
theorem lw_r2 : ∀ q ∈ lw_privs_2, lw_okq q := List.forall_mem_cons.mpr ⟨lw_p16, List.forall_mem_cons.mpr ⟨lw_p17, List.forall_mem_cons.mpr ⟨lw_p18, List.forall_mem_cons.mpr ⟨lw_p19, List.forall_mem_cons.mpr ⟨lw_p20, List.forall_mem_cons.mpr ⟨lw_p21, List.forall_mem_cons.mpr ⟨lw_p22, List.forall_mem_cons.mpr ⟨lw_p23, List.forall_mem_cons.mpr ⟨lw_p24, List.forall_mem_cons.mpr ⟨lw_p25, List.forall_mem_cons.mpr ⟨lw_p26, List.forall_mem_cons.mpr ⟨lw_p27, List.forall_mem_cons.mpr ⟨lw_p28, List.forall_mem_cons.mpr ⟨lw_p29, List.forall_mem_cons.mpr ⟨lw_p30, List.forall_mem_cons.mpr ⟨lw_p31, fun _ h => absurd h List.not_mem_nil⟩⟩⟩⟩⟩⟩⟩⟩⟩⟩⟩⟩⟩⟩⟩⟩
theorem lw_p32 : lw_okq (⟨"SwappedIntervalsModel", "isDigit", "()Z"⟩, 22) := ⟨⟨by decide +kernel, by decide +kernel⟩, List.mem_of_getElem? (i := 709) (by decide +kernel), List.mem_of_getElem? (i := 898) (by decide +kernel), List.mem_of_getElem? (i := 899) (by decide +kernel)⟩
theorem lw_p33 : lw_okq (⟨"SwappedIntervalsModel", "does", "(I)Z"⟩, 22) := ⟨⟨by decide +kernel, by decide +kernel⟩, List.mem_of_getElem? (i := 709) (by decide +kernel), List.mem_of_getElem? (i := 904) (by decide +kernel), List.mem_of_getElem? (i := 905) (by decide +kernel)⟩
theorem lw_p34 : lw_okq (⟨"SwappedIntervalsModel", "findsClass", "()V"⟩, 22) := ⟨⟨by decide +kernel, by decide +kernel⟩, List.mem_of_getElem? (i := 709) (by decide +kernel), List.mem_of_getElem? (i := 927) (by decide +kernel), List.mem_of_getElem? (i := 928) (by decide +kernel)⟩
theorem lw_p35 : lw_okq (⟨"SwappedIntervalsModel", "nextOf", "(II)I"⟩, 22) := ⟨⟨by decide +kernel, by decide +kernel⟩, List.mem_of_getElem? (i := 709) (by decide +kernel), List.mem_of_getElem? (i := 931) (by decide +kernel), List.mem_of_getElem? (i := 932) (by decide +kernel)⟩
theorem lw_p36 : lw_okq (⟨"SwappedIntervalsModel", "numberOf", "(I)I"⟩, 22) := ⟨⟨by decide +kernel, by decide +kernel⟩, List.mem_of_getElem? (i := 709) (by decide +kernel), List.mem_of_getElem? (i := 935) (by decide +kernel), List.mem_of_getElem? (i := 936) (by decide +kernel)⟩
theorem lw_p37 : lw_okq (⟨"SwappedIntervalsModel", "meetingOf", "(I)I"⟩, 22) := ⟨⟨by decide +kernel, by decide +kernel⟩, List.mem_of_getElem? (i := 709) (by decide +kernel), List.mem_of_getElem? (i := 947) (by decide +kernel), List.mem_of_getElem? (i := 948) (by decide +kernel)⟩
theorem lw_p38 : lw_okq (⟨"SwappedIntervalsModel", "isWhole", "()Z"⟩, 22) := ⟨⟨by decide +kernel, by decide +kernel⟩, List.mem_of_getElem? (i := 709) (by decide +kernel), List.mem_of_getElem? (i := 955) (by decide +kernel), List.mem_of_getElem? (i := 956) (by decide +kernel)⟩
theorem lw_p39 : lw_okq (⟨"SwappedIntervalsModel", "corners", "()I"⟩, 22) := ⟨⟨by decide +kernel, by decide +kernel⟩, List.mem_of_getElem? (i := 709) (by decide +kernel), List.mem_of_getElem? (i := 959) (by decide +kernel), List.mem_of_getElem? (i := 960) (by decide +kernel)⟩
theorem lw_p40 : lw_okq (⟨"SwappedIntervalsModel", "rounds", "()I"⟩, 22) := ⟨⟨by decide +kernel, by decide +kernel⟩, List.mem_of_getElem? (i := 709) (by decide +kernel), List.mem_of_getElem? (i := 963) (by decide +kernel), List.mem_of_getElem? (i := 964) (by decide +kernel)⟩
theorem lw_p41 : lw_okq (⟨"SwappedIntervalsModel", "findsPoints", "()I"⟩, 22) := ⟨⟨by decide +kernel, by decide +kernel⟩, List.mem_of_getElem? (i := 709) (by decide +kernel), List.mem_of_getElem? (i := 967) (by decide +kernel), List.mem_of_getElem? (i := 968) (by decide +kernel)⟩
theorem lw_p42 : lw_okq (⟨"SwappedIntervalsModel", "ends", "()I"⟩, 22) := ⟨⟨by decide +kernel, by decide +kernel⟩, List.mem_of_getElem? (i := 709) (by decide +kernel), List.mem_of_getElem? (i := 971) (by decide +kernel), List.mem_of_getElem? (i := 972) (by decide +kernel)⟩
theorem lw_p43 : lw_okq (⟨"SwappedIntervalsModel", "isAllSeen", "()Z"⟩, 22) := ⟨⟨by decide +kernel, by decide +kernel⟩, List.mem_of_getElem? (i := 709) (by decide +kernel), List.mem_of_getElem? (i := 993) (by decide +kernel), List.mem_of_getElem? (i := 994) (by decide +kernel)⟩
theorem lw_p44 : lw_okq (⟨"SwappedIntervalsModel", "happens", "(II)V"⟩, 22) := ⟨⟨by decide +kernel, by decide +kernel⟩, List.mem_of_getElem? (i := 709) (by decide +kernel), List.mem_of_getElem? (i := 1017) (by decide +kernel), List.mem_of_getElem? (i := 1018) (by decide +kernel)⟩
theorem lw_p45 : lw_okq (⟨"SwappedIntervalsModel", "isItem", "(IJ)Z"⟩, 22) := ⟨⟨by decide +kernel, by decide +kernel⟩, List.mem_of_getElem? (i := 709) (by decide +kernel), List.mem_of_getElem? (i := 1036) (by decide +kernel), List.mem_of_getElem? (i := 1037) (by decide +kernel)⟩
def lw_privs_3 : List (MethodName × Nat) := [(⟨"SwappedIntervalsModel", "isDigit", "()Z"⟩, 22), (⟨"SwappedIntervalsModel", "does", "(I)Z"⟩, 22), (⟨"SwappedIntervalsModel", "findsClass", "()V"⟩, 22), (⟨"SwappedIntervalsModel", "nextOf", "(II)I"⟩, 22), (⟨"SwappedIntervalsModel", "numberOf", "(I)I"⟩, 22), (⟨"SwappedIntervalsModel", "meetingOf", "(I)I"⟩, 22), (⟨"SwappedIntervalsModel", "isWhole", "()Z"⟩, 22), (⟨"SwappedIntervalsModel", "corners", "()I"⟩, 22), (⟨"SwappedIntervalsModel", "rounds", "()I"⟩, 22), (⟨"SwappedIntervalsModel", "findsPoints", "()I"⟩, 22), (⟨"SwappedIntervalsModel", "ends", "()I"⟩, 22), (⟨"SwappedIntervalsModel", "isAllSeen", "()Z"⟩, 22), (⟨"SwappedIntervalsModel", "happens", "(II)V"⟩, 22), (⟨"SwappedIntervalsModel", "isItem", "(IJ)Z"⟩, 22)]
theorem lw_r3 : ∀ q ∈ lw_privs_3, lw_okq q := List.forall_mem_cons.mpr ⟨lw_p32, List.forall_mem_cons.mpr ⟨lw_p33, List.forall_mem_cons.mpr ⟨lw_p34, List.forall_mem_cons.mpr ⟨lw_p35, List.forall_mem_cons.mpr ⟨lw_p36, List.forall_mem_cons.mpr ⟨lw_p37, List.forall_mem_cons.mpr ⟨lw_p38, List.forall_mem_cons.mpr ⟨lw_p39, List.forall_mem_cons.mpr ⟨lw_p40, List.forall_mem_cons.mpr ⟨lw_p41, List.forall_mem_cons.mpr ⟨lw_p42, List.forall_mem_cons.mpr ⟨lw_p43, List.forall_mem_cons.mpr ⟨lw_p44, List.forall_mem_cons.mpr ⟨lw_p45, fun _ h => absurd h List.not_mem_nil⟩⟩⟩⟩⟩⟩⟩⟩⟩⟩⟩⟩⟩⟩
def lw_privs : List (MethodName × Nat) := lw_privs_1 ++ (lw_privs_2 ++ (lw_privs_3))
def lw_tbl : List Cond := k2_sels lw_privs ++ tables_1
theorem lw_privs_ok : ∀ q ∈ lw_privs, lw_okq q := by
  show ∀ q ∈ lw_privs_1 ++ (lw_privs_2 ++ (lw_privs_3)), lw_okq q
  exact List.forall_mem_append.mpr ⟨lw_r1, List.forall_mem_append.mpr ⟨lw_r2, lw_r3⟩⟩
end
section
def RX0 : String := "SwappedIntervals$Deeds"
def TX0 : u_T := fun k => match k with
  | 0 => ("SwappedIntervals$Deeds", "ring", "[LSwappedIntervals$Rows;", true)
  | 1 => ("SwappedIntervals$Deeds", "end", "I", false)
  | _ => ("SwappedIntervals$Deeds", "size", "I", false)
def tyX0 : Nat → FieldType := fun k => match k with
  | 0 => .array (.object "SwappedIntervals$Rows")
  | 1 => .int
  | _ => .int
theorem nmX0 : ∀ a, a < 3 → ∀ b, b < 3 → a ≠ b → (TX0 a).2.1 ≠ (TX0 b).2.1 := by decide +kernel
theorem tyX0_ok : ∀ k, k < 3 → parseFieldDescriptor (TX0 k).2.2.1 = some (tyX0 k) := by decide +kernel
abbrev cX0_init : ByteArray := prog_2_method_1_code
def yX0_init : MethodName := ⟨RX0, "<init>", "()V"⟩
abbrev cX0_forget : ByteArray := prog_2_method_2_code
def yX0_forget : MethodName := ⟨RX0, "forget", "()V"⟩
abbrev cX0_remember : ByteArray := prog_2_method_3_code
def yX0_remember : MethodName := ⟨RX0, "remember", "(LSwappedIntervals$Rows;)V"⟩
abbrev cX0_restoreLatest : ByteArray := prog_2_method_4_code
def yX0_restoreLatest : MethodName := ⟨RX0, "restoreLatest", "(LSwappedIntervals$Rows;)V"⟩
def RX1 : String := "SwappedIntervals$Line"
def TX1 : u_T := fun k => match k with
  | 0 => ("SwappedIntervals$Line", "to", "[I", true)
  | 1 => ("SwappedIntervals$Line", "met", "[Z", true)
  | _ => ("SwappedIntervals$Line", "points", "I", false)
def tyX1 : Nat → FieldType := fun k => match k with
  | 0 => .array .int
  | 1 => .array .boolean
  | _ => .int
theorem nmX1 : ∀ a, a < 3 → ∀ b, b < 3 → a ≠ b → (TX1 a).2.1 ≠ (TX1 b).2.1 := by decide +kernel
theorem tyX1_ok : ∀ k, k < 3 → parseFieldDescriptor (TX1 k).2.2.1 = some (tyX1 k) := by decide +kernel
abbrev cX1_init : ByteArray := prog_3_method_1_code
def yX1_init : MethodName := ⟨RX1, "<init>", "()V"⟩
abbrev cX1_lay : ByteArray := prog_3_method_2_code
def yX1_lay : MethodName := ⟨RX1, "lay", "(LSwappedIntervals$Rows;)V"⟩
abbrev cX1_periodOf : ByteArray := prog_3_method_3_code
def yX1_periodOf : MethodName := ⟨RX1, "periodOf", "(I)I"⟩
abbrev cX1_behind : ByteArray := prog_3_method_4_code
def yX1_behind : MethodName := ⟨RX1, "behind", "(II)I"⟩
abbrev cX1_rounds : ByteArray := prog_3_method_5_code
def yX1_rounds : MethodName := ⟨RX1, "rounds", "()I"⟩
abbrev cX1_markRound : ByteArray := prog_3_method_6_code
def yX1_markRound : MethodName := ⟨RX1, "markRound", "(I)V"⟩
abbrev cX1_goingDown : ByteArray := prog_3_method_7_code
def yX1_goingDown : MethodName := ⟨RX1, "goingDown", "()I"⟩
abbrev cX1_wayTogether : ByteArray := prog_3_method_8_code
def yX1_wayTogether : MethodName := ⟨RX1, "wayTogether", "()I"⟩
def RX2 : String := "SwappedIntervals$Notes"
def TX2 : u_T := fun k => match k with
  | 0 => ("SwappedIntervals$Notes", "firsts", "[I", true)
  | 1 => ("SwappedIntervals$Notes", "seconds", "[I", true)
  | _ => ("SwappedIntervals$Notes", "size", "I", false)
def tyX2 : Nat → FieldType := fun k => match k with
  | 0 => .array .int
  | 1 => .array .int
  | _ => .int
theorem nmX2 : ∀ a, a < 3 → ∀ b, b < 3 → a ≠ b → (TX2 a).2.1 ≠ (TX2 b).2.1 := by decide +kernel
theorem tyX2_ok : ∀ k, k < 3 → parseFieldDescriptor (TX2 k).2.2.1 = some (tyX2 k) := by decide +kernel
abbrev cX2_init : ByteArray := prog_4_method_1_code
def yX2_init : MethodName := ⟨RX2, "<init>", "(I)V"⟩
abbrev cX2_clear : ByteArray := prog_4_method_2_code
def yX2_clear : MethodName := ⟨RX2, "clear", "()I"⟩
abbrev cX2_add : ByteArray := prog_4_method_3_code
def yX2_add : MethodName := ⟨RX2, "add", "(II)I"⟩
abbrev cX2_copyFrom : ByteArray := prog_4_method_4_code
def yX2_copyFrom : MethodName := ⟨RX2, "copyFrom", "(LSwappedIntervals$Notes;)V"⟩
def RX3 : String := "SwappedIntervals$Rows"
def TX3 : u_T := fun k => match k with
  | 0 => ("SwappedIntervals$Rows", "n", "I", false)
  | 1 => ("SwappedIntervals$Rows", "top", "[I", true)
  | 2 => ("SwappedIntervals$Rows", "bottom", "[I", true)
  | _ => ("SwappedIntervals$Rows", "lengths", "[I", true)
def tyX3 : Nat → FieldType := fun k => match k with
  | 0 => .int
  | 1 => .array .int
  | 2 => .array .int
  | _ => .array .int
theorem nmX3 : ∀ a, a < 4 → ∀ b, b < 4 → a ≠ b → (TX3 a).2.1 ≠ (TX3 b).2.1 := by decide +kernel
theorem tyX3_ok : ∀ k, k < 4 → parseFieldDescriptor (TX3 k).2.2.1 = some (tyX3 k) := by decide +kernel
abbrev cX3_init : ByteArray := prog_5_method_1_code
def yX3_init : MethodName := ⟨RX3, "<init>", "()V"⟩
abbrev cX3_begin : ByteArray := prog_5_method_2_code
def yX3_begin : MethodName := ⟨RX3, "begin", "(I)V"⟩
abbrev cX3_copyFrom : ByteArray := prog_5_method_3_code
def yX3_copyFrom : MethodName := ⟨RX3, "copyFrom", "(LSwappedIntervals$Rows;)V"⟩
abbrev cX3_hasLetter : ByteArray := prog_5_method_4_code
def yX3_hasLetter : MethodName := ⟨RX3, "hasLetter", "(I)Z"⟩
abbrev cX3_hasPoint : ByteArray := prog_5_method_5_code
def yX3_hasPoint : MethodName := ⟨RX3, "hasPoint", "(I)Z"⟩
abbrev cX3_points : ByteArray := prog_5_method_6_code
def yX3_points : MethodName := ⟨RX3, "points", "()I"⟩
abbrev cX3_isCode : ByteArray := prog_5_method_7_code
def yX3_isCode : MethodName := ⟨RX3, "isCode", "(II)Z"⟩
abbrev cX3_layCode : ByteArray := prog_5_method_8_code
def yX3_layCode : MethodName := ⟨RX3, "layCode", "(I)V"⟩
abbrev cX3_codeNow : ByteArray := prog_5_method_9_code
def yX3_codeNow : MethodName := ⟨RX3, "codeNow", "()I"⟩
abbrev cX3_placeIn : ByteArray := prog_5_method_10_code
def yX3_placeIn : MethodName := ⟨RX3, "placeIn", "([II)I"⟩
abbrev cX3_letterBehind : ByteArray := prog_5_method_11_code
def yX3_letterBehind : MethodName := ⟨RX3, "letterBehind", "([II)I"⟩
abbrev cX3_swapInBottom : ByteArray := prog_5_method_12_code
def yX3_swapInBottom : MethodName := ⟨RX3, "swapInBottom", "(II)V"⟩
abbrev cX3_isWhole : ByteArray := prog_5_method_13_code
def yX3_isWhole : MethodName := ⟨RX3, "isWhole", "()Z"⟩
abbrev cX3_stayingRow : ByteArray := prog_5_method_14_code
def yX3_stayingRow : MethodName := ⟨RX3, "stayingRow", "(I)[I"⟩
abbrev cX3_movingRow : ByteArray := prog_5_method_15_code
def yX3_movingRow : MethodName := ⟨RX3, "movingRow", "(I)[I"⟩
abbrev cX3_endsAlike : ByteArray := prog_5_method_16_code
def yX3_endsAlike : MethodName := ⟨RX3, "endsAlike", "()Z"⟩
abbrev cX3_kindOfStep : ByteArray := prog_5_method_17_code
def yX3_kindOfStep : MethodName := ⟨RX3, "kindOfStep", "()I"⟩
abbrev cX3_goStep : ByteArray := prog_5_method_18_code
def yX3_goStep : MethodName := ⟨RX3, "goStep", "(I)V"⟩
abbrev cX3_moveForStep : ByteArray := prog_5_method_19_code
def yX3_moveForStep : MethodName := ⟨RX3, "moveForStep", "(I)V"⟩
abbrev cX3_refusalOfStepBack : ByteArray := prog_5_method_20_code
def yX3_refusalOfStepBack : MethodName := ⟨RX3, "refusalOfStepBack", "(I)I"⟩
abbrev cX3_goStepBack : ByteArray := prog_5_method_21_code
def yX3_goStepBack : MethodName := ⟨RX3, "goStepBack", "(I)V"⟩
abbrev cX3_happen : ByteArray := prog_5_method_22_code
def yX3_happen : MethodName := ⟨RX3, "happen", "(II)V"⟩
abbrev cX3_letterAt : ByteArray := prog_5_method_23_code
def yX3_letterAt : MethodName := ⟨RX3, "letterAt", "(I)I"⟩
abbrev cX3_startIn : ByteArray := prog_5_method_24_code
def yX3_startIn : MethodName := ⟨RX3, "startIn", "([II)I"⟩
abbrev cX3_goesTo : ByteArray := prog_5_method_25_code
def yX3_goesTo : MethodName := ⟨RX3, "goesTo", "(I)I"⟩
abbrev cX3_meetingBehind : ByteArray := prog_5_method_26_code
def yX3_meetingBehind : MethodName := ⟨RX3, "meetingBehind", "(I)I"⟩
abbrev cX3_corners : ByteArray := prog_5_method_27_code
def yX3_corners : MethodName := ⟨RX3, "corners", "()I"⟩
def RX4 : String := "SwappedIntervals$Setup"
def TX4 : u_T := fun k => match k with
  | 0 => ("SwappedIntervals$Setup", "rows", "LSwappedIntervals$Rows;", true)
  | 1 => ("SwappedIntervals$Setup", "kept", "I", false)
  | 2 => ("SwappedIntervals$Setup", "seen", "LSwappedIntervals$Notes;", true)
  | 3 => ("SwappedIntervals$Setup", "events", "LSwappedIntervals$Notes;", true)
  | _ => ("SwappedIntervals$Setup", "book", "LSwappedIntervals$Notes;", true)
def tyX4 : Nat → FieldType := fun k => match k with
  | 0 => .object "SwappedIntervals$Rows"
  | 1 => .int
  | 2 => .object "SwappedIntervals$Notes"
  | 3 => .object "SwappedIntervals$Notes"
  | _ => .object "SwappedIntervals$Notes"
theorem nmX4 : ∀ a, a < 5 → ∀ b, b < 5 → a ≠ b → (TX4 a).2.1 ≠ (TX4 b).2.1 := by decide +kernel
theorem tyX4_ok : ∀ k, k < 5 → parseFieldDescriptor (TX4 k).2.2.1 = some (tyX4 k) := by decide +kernel
abbrev cX4_init : ByteArray := prog_6_method_1_code
def yX4_init : MethodName := ⟨RX4, "<init>", "()V"⟩
abbrev cX4_begin : ByteArray := prog_6_method_2_code
def yX4_begin : MethodName := ⟨RX4, "begin", "(I)V"⟩
abbrev cX4_copyFrom : ByteArray := prog_6_method_3_code
def yX4_copyFrom : MethodName := ⟨RX4, "copyFrom", "(LSwappedIntervals$Setup;)V"⟩
def RX5 : String := "SwappedIntervals$Shapes"
def TX5 : u_T := fun k => match k with
  | 0 => ("SwappedIntervals$Shapes", "shape", "LSwappedIntervals$Rows;", true)
  | 1 => ("SwappedIntervals$Shapes", "codes", "[I", true)
  | 2 => ("SwappedIntervals$Shapes", "steps", "[I", true)
  | _ => ("SwappedIntervals$Shapes", "found", "I", false)
def tyX5 : Nat → FieldType := fun k => match k with
  | 0 => .object "SwappedIntervals$Rows"
  | 1 => .array .int
  | 2 => .array .int
  | _ => .int
theorem nmX5 : ∀ a, a < 4 → ∀ b, b < 4 → a ≠ b → (TX5 a).2.1 ≠ (TX5 b).2.1 := by decide +kernel
theorem tyX5_ok : ∀ k, k < 4 → parseFieldDescriptor (TX5 k).2.2.1 = some (tyX5 k) := by decide +kernel
abbrev cX5_init : ByteArray := prog_7_method_1_code
def yX5_init : MethodName := ⟨RX5, "<init>", "()V"⟩
abbrev cX5_follow : ByteArray := prog_7_method_2_code
def yX5_follow : MethodName := ⟨RX5, "follow", "(III)I"⟩
abbrev cX5_explore : ByteArray := prog_7_method_3_code
def yX5_explore : MethodName := ⟨RX5, "explore", "(II)V"⟩
abbrev cX5_note : ByteArray := prog_7_method_4_code
def yX5_note : MethodName := ⟨RX5, "note", "(II)V"⟩
abbrev cX5_indexOf : ByteArray := prog_7_method_5_code
def yX5_indexOf : MethodName := ⟨RX5, "indexOf", "(I)I"⟩
abbrev cX5_stepsTo : ByteArray := prog_7_method_6_code
def yX5_stepsTo : MethodName := ⟨RX5, "stepsTo", "(I)I"⟩
abbrev cX5_codeOfRank : ByteArray := prog_7_method_7_code
def yX5_codeOfRank : MethodName := ⟨RX5, "codeOfRank", "(I)I"⟩
abbrev cX5_rankOf : ByteArray := prog_7_method_8_code
def yX5_rankOf : MethodName := ⟨RX5, "rankOf", "(I)I"⟩
def RX6 : String := "SwappedIntervals$Tape"
def TX6 : u_T := fun k => match k with
  | 0 => ("SwappedIntervals$Tape", "sort", "I", false)
  | 1 => ("SwappedIntervals$Tape", "size", "I", false)
  | _ => ("SwappedIntervals$Tape", "items", "[J", true)
def tyX6 : Nat → FieldType := fun k => match k with
  | 0 => .int
  | 1 => .int
  | _ => .array .long
theorem nmX6 : ∀ a, a < 3 → ∀ b, b < 3 → a ≠ b → (TX6 a).2.1 ≠ (TX6 b).2.1 := by decide +kernel
theorem tyX6_ok : ∀ k, k < 3 → parseFieldDescriptor (TX6 k).2.2.1 = some (tyX6 k) := by decide +kernel
abbrev cX6_init : ByteArray := prog_8_method_1_code
def yX6_init : MethodName := ⟨RX6, "<init>", "()V"⟩
abbrev cX6_become : ByteArray := prog_8_method_2_code
def yX6_become : MethodName := ⟨RX6, "become", "(II)V"⟩
abbrev cX6_hasPlace : ByteArray := prog_8_method_3_code
def yX6_hasPlace : MethodName := ⟨RX6, "hasPlace", "(I)Z"⟩
abbrev cX6_hasRun : ByteArray := prog_8_method_4_code
def yX6_hasRun : MethodName := ⟨RX6, "hasRun", "(II)Z"⟩
abbrev cX6_put : ByteArray := prog_8_method_5_code
def yX6_put : MethodName := ⟨RX6, "put", "(IJ)V"⟩
def RX7 : String := "SwappedIntervals$Text"
def TX7 : u_T := fun k => match k with
  | 0 => ("SwappedIntervals$Text", "signs", "[B", true)
  | 1 => ("SwappedIntervals$Text", "at", "I", false)
  | 2 => ("SwappedIntervals$Text", "size", "I", false)
  | 3 => ("SwappedIntervals$Text", "clauses", "I", false)
  | 4 => ("SwappedIntervals$Text", "kinds", "[I", true)
  | 5 => ("SwappedIntervals$Text", "firsts", "[I", true)
  | _ => ("SwappedIntervals$Text", "seconds", "[I", true)
def tyX7 : Nat → FieldType := fun k => match k with
  | 0 => .array .byte
  | 1 => .int
  | 2 => .int
  | 3 => .int
  | 4 => .array .int
  | 5 => .array .int
  | _ => .array .int
theorem nmX7 : ∀ a, a < 7 → ∀ b, b < 7 → a ≠ b → (TX7 a).2.1 ≠ (TX7 b).2.1 := by decide +kernel
theorem tyX7_ok : ∀ k, k < 7 → parseFieldDescriptor (TX7 k).2.2.1 = some (tyX7 k) := by decide +kernel
abbrev cX7_init : ByteArray := prog_9_method_1_code
def yX7_init : MethodName := ⟨RX7, "<init>", "()V"⟩
abbrev cX7_add : ByteArray := prog_9_method_2_code
def yX7_add : MethodName := ⟨RX7, "add", "(I)I"⟩
abbrev cX7_clear : ByteArray := prog_9_method_3_code
def yX7_clear : MethodName := ⟨RX7, "clear", "()V"⟩
abbrev cX7_findFault : ByteArray := prog_9_method_4_code
def yX7_findFault : MethodName := ⟨RX7, "findFault", "()I"⟩
abbrev cX7_takeClause : ByteArray := prog_9_method_5_code
def yX7_takeClause : MethodName := ⟨RX7, "takeClause", "(I)Z"⟩
abbrev cX7_mostDigits : ByteArray := prog_9_method_6_code
def yX7_mostDigits : MethodName := ⟨RX7, "mostDigits", "(II)I"⟩
abbrev cX7_takeNumber : ByteArray := prog_9_method_7_code
def yX7_takeNumber : MethodName := ⟨RX7, "takeNumber", "(I)I"⟩
abbrev cX7_signHere : ByteArray := prog_9_method_8_code
def yX7_signHere : MethodName := ⟨RX7, "signHere", "()I"⟩
def RX8 : String := "SwappedIntervals"
def TX8 : u_T := fun k => match k with
  | 0 => ("SwappedIntervals", "now", "LSwappedIntervals$Setup;", true)
  | 1 => ("SwappedIntervals", "shot", "LSwappedIntervals$Setup;", true)
  | 2 => ("SwappedIntervals", "isShot", "Z", false)
  | 3 => ("SwappedIntervals", "deeds", "LSwappedIntervals$Deeds;", true)
  | 4 => ("SwappedIntervals", "text", "LSwappedIntervals$Text;", true)
  | 5 => ("SwappedIntervals", "line", "LSwappedIntervals$Line;", true)
  | 6 => ("SwappedIntervals", "shapes", "LSwappedIntervals$Shapes;", true)
  | 7 => ("SwappedIntervals", "trial", "LSwappedIntervals$Rows;", true)
  | _ => ("SwappedIntervals", "tapes", "[LSwappedIntervals$Tape;", true)
def tyX8 : Nat → FieldType := fun k => match k with
  | 0 => .object "SwappedIntervals$Setup"
  | 1 => .object "SwappedIntervals$Setup"
  | 2 => .boolean
  | 3 => .object "SwappedIntervals$Deeds"
  | 4 => .object "SwappedIntervals$Text"
  | 5 => .object "SwappedIntervals$Line"
  | 6 => .object "SwappedIntervals$Shapes"
  | 7 => .object "SwappedIntervals$Rows"
  | _ => .array (.object "SwappedIntervals$Tape")
theorem nmX8 : ∀ a, a < 9 → ∀ b, b < 9 → a ≠ b → (TX8 a).2.1 ≠ (TX8 b).2.1 := by decide +kernel
theorem tyX8_ok : ∀ k, k < 9 → parseFieldDescriptor (TX8 k).2.2.1 = some (tyX8 k) := by decide +kernel
abbrev cX8_init : ByteArray := prog_1_method_1_code
def yX8_init : MethodName := ⟨RX8, "<init>", "()V"⟩
abbrev cX8_letters : ByteArray := prog_1_method_2_code
def yX8_letters : MethodName := ⟨RX8, "letters", "(I)I"⟩
abbrev cX8_bottom : ByteArray := prog_1_method_3_code
def yX8_bottom : MethodName := ⟨RX8, "bottom", "(I)I"⟩
abbrev cX8_length : ByteArray := prog_1_method_4_code
def yX8_length : MethodName := ⟨RX8, "length", "(II)I"⟩
abbrev cX8_swap : ByteArray := prog_1_method_5_code
def yX8_swap : MethodName := ⟨RX8, "swap", "(II)I"⟩
abbrev cX8_step : ByteArray := prog_1_method_6_code
def yX8_step : MethodName := ⟨RX8, "step", "()I"⟩
abbrev cX8_back : ByteArray := prog_1_method_7_code
def yX8_back : MethodName := ⟨RX8, "back", "(I)I"⟩
abbrev cX8_takeBack : ByteArray := prog_1_method_8_code
def yX8_takeBack : MethodName := ⟨RX8, "takeBack", "()I"⟩
abbrev cX8_keep : ByteArray := prog_1_method_9_code
def yX8_keep : MethodName := ⟨RX8, "keep", "()I"⟩
abbrev cX8_feed : ByteArray := prog_1_method_10_code
def yX8_feed : MethodName := ⟨RX8, "feed", "(I)I"⟩
abbrev cX8_read : ByteArray := prog_1_method_11_code
def yX8_read : MethodName := ⟨RX8, "read", "()I"⟩
abbrev cX8_doClause : ByteArray := prog_1_method_12_code
def yX8_doClause : MethodName := ⟨RX8, "doClause", "(III)I"⟩
abbrev cX8_of : ByteArray := prog_1_method_13_code
def yX8_of : MethodName := ⟨RX8, "of", "(II)I"⟩
abbrev cX8_told : ByteArray := prog_1_method_14_code
def yX8_told : MethodName := ⟨RX8, "told", "(I)I"⟩
abbrev cX8_exploreClass : ByteArray := prog_1_method_15_code
def yX8_exploreClass : MethodName := ⟨RX8, "exploreClass", "()I"⟩
abbrev cX8_stepsToKept : ByteArray := prog_1_method_16_code
def yX8_stepsToKept : MethodName := ⟨RX8, "stepsToKept", "()I"⟩
abbrev cX8_genus : ByteArray := prog_1_method_17_code
def yX8_genus : MethodName := ⟨RX8, "genus", "()I"⟩
abbrev cX8_rounds : ByteArray := prog_1_method_18_code
def yX8_rounds : MethodName := ⟨RX8, "rounds", "()I"⟩
abbrev cX8_ends : ByteArray := prog_1_method_19_code
def yX8_ends : MethodName := ⟨RX8, "ends", "()I"⟩
abbrev cX8_point : ByteArray := prog_1_method_20_code
def yX8_point : MethodName := ⟨RX8, "point", "(II)I"⟩
abbrev cX8_period : ByteArray := prog_1_method_21_code
def yX8_period : MethodName := ⟨RX8, "period", "(I)I"⟩
abbrev cX8_gone : ByteArray := prog_1_method_22_code
def yX8_gone : MethodName := ⟨RX8, "gone", "(II)I"⟩
abbrev cX8_code : ByteArray := prog_1_method_23_code
def yX8_code : MethodName := ⟨RX8, "code", "(I)I"⟩
abbrev cX8_next : ByteArray := prog_1_method_24_code
def yX8_next : MethodName := ⟨RX8, "next", "(II)I"⟩
abbrev cX8_meeting : ByteArray := prog_1_method_25_code
def yX8_meeting : MethodName := ⟨RX8, "meeting", "(I)I"⟩
abbrev cX8_see : ByteArray := prog_1_method_26_code
def yX8_see : MethodName := ⟨RX8, "see", "(II)I"⟩
abbrev cX8_canBeSeen : ByteArray := prog_1_method_27_code
def yX8_canBeSeen : MethodName := ⟨RX8, "canBeSeen", "(I)Z"⟩
abbrev cX8_fits : ByteArray := prog_1_method_28_code
def yX8_fits : MethodName := ⟨RX8, "fits", "(II)I"⟩
abbrev cX8_isAllSeen : ByteArray := prog_1_method_29_code
def yX8_isAllSeen : MethodName := ⟨RX8, "isAllSeen", "(LSwappedIntervals$Rows;)Z"⟩
abbrev cX8_odds : ByteArray := prog_1_method_30_code
def yX8_odds : MethodName := ⟨RX8, "odds", "(I)J"⟩
abbrev cX8_mean : ByteArray := prog_1_method_31_code
def yX8_mean : MethodName := ⟨RX8, "mean", "(I)J"⟩
abbrev cX8_partInLowestTerms : ByteArray := prog_1_method_32_code
def yX8_partInLowestTerms : MethodName := ⟨RX8, "partInLowestTerms", "(III)J"⟩
abbrev cX8_greatestDivisor : ByteArray := prog_1_method_33_code
def yX8_greatestDivisor : MethodName := ⟨RX8, "greatestDivisor", "(II)I"⟩
abbrev cX8_event : ByteArray := prog_1_method_34_code
def yX8_event : MethodName := ⟨RX8, "event", "(II)I"⟩
abbrev cX8_after : ByteArray := prog_1_method_35_code
def yX8_after : MethodName := ⟨RX8, "after", "(I)I"⟩
abbrev cX8_book : ByteArray := prog_1_method_36_code
def yX8_book : MethodName := ⟨RX8, "book", "(II)I"⟩
abbrev cX8_looked : ByteArray := prog_1_method_37_code
def yX8_looked : MethodName := ⟨RX8, "looked", "()I"⟩
abbrev cX8_judge : ByteArray := prog_1_method_38_code
def yX8_judge : MethodName := ⟨RX8, "judge", "(II)I"⟩
abbrev cX8_image : ByteArray := prog_1_method_39_code
def yX8_image : MethodName := ⟨RX8, "image", "()I"⟩
abbrev cX8_undo : ByteArray := prog_1_method_40_code
def yX8_undo : MethodName := ⟨RX8, "undo", "()I"⟩
abbrev cX8_count : ByteArray := prog_1_method_41_code
def yX8_count : MethodName := ⟨RX8, "count", "(I)I"⟩
abbrev cX8_tape : ByteArray := prog_1_method_42_code
def yX8_tape : MethodName := ⟨RX8, "tape", "(III)I"⟩
abbrev cX8_item : ByteArray := prog_1_method_43_code
def yX8_item : MethodName := ⟨RX8, "item", "(IIJ)I"⟩
abbrev cX8_peek : ByteArray := prog_1_method_44_code
def yX8_peek : MethodName := ⟨RX8, "peek", "(II)J"⟩
abbrev cX8_shift : ByteArray := prog_1_method_45_code
def yX8_shift : MethodName := ⟨RX8, "shift", "(IIIII)I"⟩
abbrev cX8_isTape : ByteArray := prog_1_method_46_code
def yX8_isTape : MethodName := ⟨RX8, "isTape", "(I)Z"⟩
abbrev cX8_isKind : ByteArray := prog_1_method_47_code
def yX8_isKind : MethodName := ⟨RX8, "isKind", "(I)Z"⟩
abbrev cX8_isLength : ByteArray := prog_1_method_48_code
def yX8_isLength : MethodName := ⟨RX8, "isLength", "(I)Z"⟩
def RX9 : String := "SwappedIntervalsModel"
def TX9 : u_T := fun k => match k with
  | 0 => ("SwappedIntervalsModel", "now", "[I", true)
  | 1 => ("SwappedIntervalsModel", "image", "[I", true)
  | 2 => ("SwappedIntervalsModel", "hasImage", "Z", false)
  | 3 => ("SwappedIntervalsModel", "deeds", "[I", true)
  | 4 => ("SwappedIntervalsModel", "deedMany", "I", false)
  | 5 => ("SwappedIntervalsModel", "digits", "[I", true)
  | 6 => ("SwappedIntervalsModel", "text", "[I", true)
  | 7 => ("SwappedIntervalsModel", "length", "I", false)
  | 8 => ("SwappedIntervalsModel", "place", "I", false)
  | 9 => ("SwappedIntervalsModel", "fault", "I", false)
  | 10 => ("SwappedIntervalsModel", "told", "[I", true)
  | 11 => ("SwappedIntervalsModel", "goesTo", "[I", true)
  | 12 => ("SwappedIntervalsModel", "liesIn", "[I", true)
  | 13 => ("SwappedIntervalsModel", "firstBottom", "[I", true)
  | 14 => ("SwappedIntervalsModel", "isSeen", "[Z", true)
  | 15 => ("SwappedIntervalsModel", "spare", "[I", true)
  | 16 => ("SwappedIntervalsModel", "codes", "[I", true)
  | 17 => ("SwappedIntervalsModel", "deep", "[I", true)
  | 18 => ("SwappedIntervalsModel", "codeMany", "I", false)
  | 19 => ("SwappedIntervalsModel", "sorts", "[I", true)
  | 20 => ("SwappedIntervalsModel", "sizes", "[I", true)
  | _ => ("SwappedIntervalsModel", "items", "[J", true)
def tyX9 : Nat → FieldType := fun k => match k with
  | 0 => .array .int
  | 1 => .array .int
  | 2 => .boolean
  | 3 => .array .int
  | 4 => .int
  | 5 => .array .int
  | 6 => .array .int
  | 7 => .int
  | 8 => .int
  | 9 => .int
  | 10 => .array .int
  | 11 => .array .int
  | 12 => .array .int
  | 13 => .array .int
  | 14 => .array .boolean
  | 15 => .array .int
  | 16 => .array .int
  | 17 => .array .int
  | 18 => .int
  | 19 => .array .int
  | 20 => .array .int
  | _ => .array .long
theorem nmX9 : ∀ a, a < 22 → ∀ b, b < 22 → a ≠ b → (TX9 a).2.1 ≠ (TX9 b).2.1 := by decide +kernel
theorem tyX9_ok : ∀ k, k < 22 → parseFieldDescriptor (TX9 k).2.2.1 = some (tyX9 k) := by decide +kernel
abbrev cX9_init : ByteArray := prog_11_method_1_code
def yX9_init : MethodName := ⟨RX9, "<init>", "()V"⟩
abbrev cX9_in : ByteArray := prog_11_method_2_code
def yX9_in : MethodName := ⟨RX9, "in", "(JJJ)Z"⟩
abbrev cX9_bit : ByteArray := prog_11_method_3_code
def yX9_bit : MethodName := ⟨RX9, "bit", "(Z)I"⟩
abbrev cX9_isLetter : ByteArray := prog_11_method_4_code
def yX9_isLetter : MethodName := ⟨RX9, "isLetter", "(I)Z"⟩
abbrev cX9_begins : ByteArray := prog_11_method_5_code
def yX9_begins : MethodName := ⟨RX9, "begins", "(I)V"⟩
abbrev cX9_placeIn : ByteArray := prog_11_method_6_code
def yX9_placeIn : MethodName := ⟨RX9, "placeIn", "(II)I"⟩
abbrev cX9_lastIn : ByteArray := prog_11_method_7_code
def yX9_lastIn : MethodName := ⟨RX9, "lastIn", "(I)I"⟩
abbrev cX9_movesBehind : ByteArray := prog_11_method_8_code
def yX9_movesBehind : MethodName := ⟨RX9, "movesBehind", "(II)V"⟩
abbrev cX9_movesToEnd : ByteArray := prog_11_method_9_code
def yX9_movesToEnd : MethodName := ⟨RX9, "movesToEnd", "(II)I"⟩
abbrev cX9_points : ByteArray := prog_11_method_10_code
def yX9_points : MethodName := ⟨RX9, "points", "()I"⟩
abbrev cX9_codeNow : ByteArray := prog_11_method_11_code
def yX9_codeNow : MethodName := ⟨RX9, "codeNow", "()I"⟩
abbrev cX9_isWhole : ByteArray := prog_11_method_12_code
def yX9_isWhole : MethodName := ⟨RX9, "isWhole", "()Z"⟩
abbrev cX9_kindNow : ByteArray := prog_11_method_13_code
def yX9_kindNow : MethodName := ⟨RX9, "kindNow", "()I"⟩
abbrev cX9_steps : ByteArray := prog_11_method_14_code
def yX9_steps : MethodName := ⟨RX9, "steps", "(I)V"⟩
abbrev cX9_stepsBack : ByteArray := prog_11_method_15_code
def yX9_stepsBack : MethodName := ⟨RX9, "stepsBack", "(I)I"⟩
abbrev cX9_keeps : ByteArray := prog_11_method_16_code
def yX9_keeps : MethodName := ⟨RX9, "keeps", "()V"⟩
abbrev cX9_undoes : ByteArray := prog_11_method_17_code
def yX9_undoes : MethodName := ⟨RX9, "undoes", "()V"⟩
abbrev cX9_letters : ByteArray := prog_11_method_18_code
def yX9_letters : MethodName := ⟨RX9, "letters", "(I)I"⟩
abbrev cX9_isCode : ByteArray := prog_11_method_19_code
def yX9_isCode : MethodName := ⟨RX9, "isCode", "(I)Z"⟩
abbrev cX9_bottom : ByteArray := prog_11_method_20_code
def yX9_bottom : MethodName := ⟨RX9, "bottom", "(I)I"⟩
abbrev cX9_length : ByteArray := prog_11_method_21_code
def yX9_length : MethodName := ⟨RX9, "length", "(II)I"⟩
abbrev cX9_swap : ByteArray := prog_11_method_22_code
def yX9_swap : MethodName := ⟨RX9, "swap", "(II)I"⟩
abbrev cX9_step : ByteArray := prog_11_method_23_code
def yX9_step : MethodName := ⟨RX9, "step", "()I"⟩
abbrev cX9_back : ByteArray := prog_11_method_24_code
def yX9_back : MethodName := ⟨RX9, "back", "(I)I"⟩
abbrev cX9_takeBack : ByteArray := prog_11_method_25_code
def yX9_takeBack : MethodName := ⟨RX9, "takeBack", "()I"⟩
abbrev cX9_keep : ByteArray := prog_11_method_26_code
def yX9_keep : MethodName := ⟨RX9, "keep", "()I"⟩
abbrev cX9_feed : ByteArray := prog_11_method_27_code
def yX9_feed : MethodName := ⟨RX9, "feed", "(I)I"⟩
abbrev cX9_isDigit : ByteArray := prog_11_method_28_code
def yX9_isDigit : MethodName := ⟨RX9, "isDigit", "()Z"⟩
abbrev cX9_digitsTold : ByteArray := prog_11_method_29_code
def yX9_digitsTold : MethodName := ⟨RX9, "digitsTold", "(I)I"⟩
abbrev cX9_clause : ByteArray := prog_11_method_30_code
def yX9_clause : MethodName := ⟨RX9, "clause", "()I"⟩
abbrev cX9_does : ByteArray := prog_11_method_31_code
def yX9_does : MethodName := ⟨RX9, "does", "(I)Z"⟩
abbrev cX9_goesThrough : ByteArray := prog_11_method_32_code
def yX9_goesThrough : MethodName := ⟨RX9, "goesThrough", "(Z)I"⟩
abbrev cX9_read : ByteArray := prog_11_method_33_code
def yX9_read : MethodName := ⟨RX9, "read", "()I"⟩
abbrev cX9_findsPoints : ByteArray := prog_11_method_34_code
def yX9_findsPoints : MethodName := ⟨RX9, "findsPoints", "()I"⟩
abbrev cX9_of : ByteArray := prog_11_method_35_code
def yX9_of : MethodName := ⟨RX9, "of", "(II)I"⟩
abbrev cX9_rounds : ByteArray := prog_11_method_36_code
def yX9_rounds : MethodName := ⟨RX9, "rounds", "()I"⟩
abbrev cX9_ends : ByteArray := prog_11_method_37_code
def yX9_ends : MethodName := ⟨RX9, "ends", "()I"⟩
abbrev cX9_nextOf : ByteArray := prog_11_method_38_code
def yX9_nextOf : MethodName := ⟨RX9, "nextOf", "(II)I"⟩
abbrev cX9_numberOf : ByteArray := prog_11_method_39_code
def yX9_numberOf : MethodName := ⟨RX9, "numberOf", "(I)I"⟩
abbrev cX9_findsClass : ByteArray := prog_11_method_40_code
def yX9_findsClass : MethodName := ⟨RX9, "findsClass", "()V"⟩
abbrev cX9_code : ByteArray := prog_11_method_41_code
def yX9_code : MethodName := ⟨RX9, "code", "(I)I"⟩
abbrev cX9_next : ByteArray := prog_11_method_42_code
def yX9_next : MethodName := ⟨RX9, "next", "(II)I"⟩
abbrev cX9_meetingOf : ByteArray := prog_11_method_43_code
def yX9_meetingOf : MethodName := ⟨RX9, "meetingOf", "(I)I"⟩
abbrev cX9_meeting : ByteArray := prog_11_method_44_code
def yX9_meeting : MethodName := ⟨RX9, "meeting", "(I)I"⟩
abbrev cX9_corners : ByteArray := prog_11_method_45_code
def yX9_corners : MethodName := ⟨RX9, "corners", "()I"⟩
abbrev cX9_told : ByteArray := prog_11_method_46_code
def yX9_told : MethodName := ⟨RX9, "told", "(I)I"⟩
abbrev cX9_point : ByteArray := prog_11_method_47_code
def yX9_point : MethodName := ⟨RX9, "point", "(II)I"⟩
abbrev cX9_gone : ByteArray := prog_11_method_48_code
def yX9_gone : MethodName := ⟨RX9, "gone", "(II)I"⟩
abbrev cX9_see : ByteArray := prog_11_method_49_code
def yX9_see : MethodName := ⟨RX9, "see", "(II)I"⟩
abbrev cX9_isAllSeen : ByteArray := prog_11_method_50_code
def yX9_isAllSeen : MethodName := ⟨RX9, "isAllSeen", "()Z"⟩
abbrev cX9_fits : ByteArray := prog_11_method_51_code
def yX9_fits : MethodName := ⟨RX9, "fits", "(II)I"⟩
abbrev cX9_told_ : ByteArray := prog_11_method_52_code
def yX9_told_ : MethodName := ⟨RX9, "told", "(JJI)J"⟩
abbrev cX9_odds : ByteArray := prog_11_method_53_code
def yX9_odds : MethodName := ⟨RX9, "odds", "(I)J"⟩
abbrev cX9_mean : ByteArray := prog_11_method_54_code
def yX9_mean : MethodName := ⟨RX9, "mean", "(I)J"⟩
abbrev cX9_event : ByteArray := prog_11_method_55_code
def yX9_event : MethodName := ⟨RX9, "event", "(II)I"⟩
abbrev cX9_happens : ByteArray := prog_11_method_56_code
def yX9_happens : MethodName := ⟨RX9, "happens", "(II)V"⟩
abbrev cX9_after : ByteArray := prog_11_method_57_code
def yX9_after : MethodName := ⟨RX9, "after", "(I)I"⟩
abbrev cX9_book : ByteArray := prog_11_method_58_code
def yX9_book : MethodName := ⟨RX9, "book", "(II)I"⟩
abbrev cX9_looked : ByteArray := prog_11_method_59_code
def yX9_looked : MethodName := ⟨RX9, "looked", "()I"⟩
abbrev cX9_isTape : ByteArray := prog_11_method_60_code
def yX9_isTape : MethodName := ⟨RX9, "isTape", "(I)Z"⟩
abbrev cX9_judge : ByteArray := prog_11_method_61_code
def yX9_judge : MethodName := ⟨RX9, "judge", "(II)I"⟩
abbrev cX9_image : ByteArray := prog_11_method_62_code
def yX9_image : MethodName := ⟨RX9, "image", "()I"⟩
abbrev cX9_undo : ByteArray := prog_11_method_63_code
def yX9_undo : MethodName := ⟨RX9, "undo", "()I"⟩
abbrev cX9_count : ByteArray := prog_11_method_64_code
def yX9_count : MethodName := ⟨RX9, "count", "(I)I"⟩
abbrev cX9_isItem : ByteArray := prog_11_method_65_code
def yX9_isItem : MethodName := ⟨RX9, "isItem", "(IJ)Z"⟩
abbrev cX9_tape : ByteArray := prog_11_method_66_code
def yX9_tape : MethodName := ⟨RX9, "tape", "(III)I"⟩
abbrev cX9_held : ByteArray := prog_11_method_67_code
def yX9_held : MethodName := ⟨RX9, "held", "(IJ)J"⟩
abbrev cX9_item : ByteArray := prog_11_method_68_code
def yX9_item : MethodName := ⟨RX9, "item", "(IIJ)I"⟩
abbrev cX9_peek : ByteArray := prog_11_method_69_code
def yX9_peek : MethodName := ⟨RX9, "peek", "(II)J"⟩
abbrev cX9_shift : ByteArray := prog_11_method_70_code
def yX9_shift : MethodName := ⟨RX9, "shift", "(IIIII)I"⟩
def RJ9 : String := "java/lang/Math"
abbrev cJ9_abs_0f7a4 : ByteArray := prog_12_method_59_code
def yJ9_abs_0f7a4 : MethodName := ⟨RJ9, "abs", "(I)I"⟩
abbrev cJ9_max_7cf53 : ByteArray := prog_12_method_65_code
def yJ9_max_7cf53 : MethodName := ⟨RJ9, "max", "(II)I"⟩
abbrev cJ9_min_7cf53 : ByteArray := prog_12_method_69_code
def yJ9_min_7cf53 : MethodName := ⟨RJ9, "min", "(II)I"⟩
def RJ10 : String := "java/lang/System"
def RJ7 : String := "java/util/Arrays"
abbrev cJ7_fill_d0a16 : ByteArray := prog_14_method_101_code
def yJ7_fill_d0a16 : MethodName := ⟨RJ7, "fill", "([JJ)V"⟩
def RL : String := "SwappedIntervalsLaw"
abbrev cL_law : ByteArray := code
def yL_law : MethodName := ⟨RL, "law", "([I)Z"⟩
abbrev vwCl : List vw_C := [(RX0, TX0, 3), (RX1, TX1, 3), (RX2, TX2, 3), (RX3, TX3, 4), (RX4, TX4, 5), (RX5, TX5, 4), (RX6, TX6, 3), (RX7, TX7, 7), (RX8, TX8, 9), (RX9, TX9, 22)]
end
section
theorem dX0_init_0 : decode cX0_init 0 = .ok (.aload_n 0, 1) := by decide +kernel
theorem dX0_init_1 : decode cX0_init 1 = .ok (.invokespecial 3, 3) := by decide +kernel
theorem dX0_init_4 : decode cX0_init 4 = .ok (.aload_n 0, 1) := by decide +kernel
theorem dX0_init_5 : decode cX0_init 5 = .ok (.bipush 12, 2) := by decide +kernel
theorem dX0_init_7 : decode cX0_init 7 = .ok (.anewarray 9, 3) := by decide +kernel
theorem dX0_init_10 : decode cX0_init 10 = .ok (.putfield 11, 3) := by decide +kernel
theorem dX0_init_13 : decode cX0_init 13 = .ok (.aload_n 0, 1) := by decide +kernel
theorem dX0_init_14 : decode cX0_init 14 = .ok (.iconst 0, 1) := by decide +kernel
theorem dX0_init_15 : decode cX0_init 15 = .ok (.putfield 17, 3) := by decide +kernel
theorem dX0_init_18 : decode cX0_init 18 = .ok (.aload_n 0, 1) := by decide +kernel
theorem dX0_init_19 : decode cX0_init 19 = .ok (.iconst 0, 1) := by decide +kernel
theorem dX0_init_20 : decode cX0_init 20 = .ok (.putfield 21, 3) := by decide +kernel
theorem dX0_init_23 : decode cX0_init 23 = .ok (.iconst 0, 1) := by decide +kernel
theorem dX0_init_24 : decode cX0_init 24 = .ok (.istore_n 1, 1) := by decide +kernel
theorem dX0_init_25 : decode cX0_init 25 = .ok (.iload_n 1, 1) := by decide +kernel
theorem dX0_init_26 : decode cX0_init 26 = .ok (.bipush 12, 2) := by decide +kernel
theorem dX0_init_28 : decode cX0_init 28 = .ok (.if_icmp .ge 22, 3) := by decide +kernel
theorem dX0_init_31 : decode cX0_init 31 = .ok (.aload_n 0, 1) := by decide +kernel
theorem dX0_init_32 : decode cX0_init 32 = .ok (.getfield 11, 3) := by decide +kernel
theorem dX0_init_35 : decode cX0_init 35 = .ok (.iload_n 1, 1) := by decide +kernel
theorem dX0_init_36 : decode cX0_init 36 = .ok (.new 9, 3) := by decide +kernel
theorem dX0_init_39 : decode cX0_init 39 = .ok (.dup, 1) := by decide +kernel
theorem dX0_init_40 : decode cX0_init 40 = .ok (.invokespecial 24, 3) := by decide +kernel
theorem dX0_init_43 : decode cX0_init 43 = .ok (.aastore, 1) := by decide +kernel
theorem dX0_init_44 : decode cX0_init 44 = .ok (.iinc 1 1, 3) := by decide +kernel
theorem dX0_init_47 : decode cX0_init 47 = .ok (.goto (-22), 3) := by decide +kernel
theorem dX0_init_50 : decode cX0_init 50 = .ok (.return_, 1) := by decide +kernel
theorem dX0_forget_0 : decode cX0_forget 0 = .ok (.aload_n 0, 1) := by decide +kernel
theorem dX0_forget_1 : decode cX0_forget 1 = .ok (.iconst 0, 1) := by decide +kernel
theorem dX0_forget_2 : decode cX0_forget 2 = .ok (.putfield 21, 3) := by decide +kernel
theorem dX0_forget_5 : decode cX0_forget 5 = .ok (.return_, 1) := by decide +kernel
theorem dX0_remember_0 : decode cX0_remember 0 = .ok (.aload_n 0, 1) := by decide +kernel
theorem dX0_remember_1 : decode cX0_remember 1 = .ok (.getfield 11, 3) := by decide +kernel
theorem dX0_remember_4 : decode cX0_remember 4 = .ok (.aload_n 0, 1) := by decide +kernel
theorem dX0_remember_5 : decode cX0_remember 5 = .ok (.getfield 17, 3) := by decide +kernel
theorem dX0_remember_8 : decode cX0_remember 8 = .ok (.aaload, 1) := by decide +kernel
theorem dX0_remember_9 : decode cX0_remember 9 = .ok (.aload_n 1, 1) := by decide +kernel
theorem dX0_remember_10 : decode cX0_remember 10 = .ok (.invokevirtual 25, 3) := by decide +kernel
theorem dX0_remember_13 : decode cX0_remember 13 = .ok (.aload_n 0, 1) := by decide +kernel
theorem dX0_remember_14 : decode cX0_remember 14 = .ok (.aload_n 0, 1) := by decide +kernel
theorem dX0_remember_15 : decode cX0_remember 15 = .ok (.getfield 17, 3) := by decide +kernel
theorem dX0_remember_18 : decode cX0_remember 18 = .ok (.bipush 11, 2) := by decide +kernel
theorem dX0_remember_20 : decode cX0_remember 20 = .ok (.if_icmp .ne 7, 3) := by decide +kernel
theorem dX0_remember_23 : decode cX0_remember 23 = .ok (.iconst 0, 1) := by decide +kernel
theorem dX0_remember_24 : decode cX0_remember 24 = .ok (.goto 9, 3) := by decide +kernel
theorem dX0_remember_27 : decode cX0_remember 27 = .ok (.aload_n 0, 1) := by decide +kernel
theorem dX0_remember_28 : decode cX0_remember 28 = .ok (.getfield 17, 3) := by decide +kernel
theorem dX0_remember_31 : decode cX0_remember 31 = .ok (.iconst 1, 1) := by decide +kernel
theorem dX0_remember_32 : decode cX0_remember 32 = .ok (.iadd, 1) := by decide +kernel
theorem dX0_remember_33 : decode cX0_remember 33 = .ok (.putfield 17, 3) := by decide +kernel
theorem dX0_remember_36 : decode cX0_remember 36 = .ok (.aload_n 0, 1) := by decide +kernel
theorem dX0_remember_37 : decode cX0_remember 37 = .ok (.aload_n 0, 1) := by decide +kernel
theorem dX0_remember_38 : decode cX0_remember 38 = .ok (.getfield 21, 3) := by decide +kernel
theorem dX0_remember_41 : decode cX0_remember 41 = .ok (.iconst 1, 1) := by decide +kernel
theorem dX0_remember_42 : decode cX0_remember 42 = .ok (.iadd, 1) := by decide +kernel
theorem dX0_remember_43 : decode cX0_remember 43 = .ok (.bipush 12, 2) := by decide +kernel
theorem dX0_remember_45 : decode cX0_remember 45 = .ok (.invokestatic 29, 3) := by decide +kernel
theorem dX0_remember_48 : decode cX0_remember 48 = .ok (.putfield 21, 3) := by decide +kernel
theorem dX0_remember_51 : decode cX0_remember 51 = .ok (.return_, 1) := by decide +kernel
theorem dX0_restoreLatest_0 : decode cX0_restoreLatest 0 = .ok (.aload_n 0, 1) := by decide +kernel
theorem dX0_restoreLatest_1 : decode cX0_restoreLatest 1 = .ok (.getfield 21, 3) := by decide +kernel
theorem dX0_restoreLatest_4 : decode cX0_restoreLatest 4 = .ok (.ifCond .ne 4, 3) := by decide +kernel
theorem dX0_restoreLatest_7 : decode cX0_restoreLatest 7 = .ok (.return_, 1) := by decide +kernel
theorem dX0_restoreLatest_8 : decode cX0_restoreLatest 8 = .ok (.aload_n 0, 1) := by decide +kernel
theorem dX0_restoreLatest_9 : decode cX0_restoreLatest 9 = .ok (.aload_n 0, 1) := by decide +kernel
theorem dX0_restoreLatest_10 : decode cX0_restoreLatest 10 = .ok (.getfield 17, 3) := by decide +kernel
theorem dX0_restoreLatest_13 : decode cX0_restoreLatest 13 = .ok (.ifCond .ne 8, 3) := by decide +kernel
theorem dX0_restoreLatest_16 : decode cX0_restoreLatest 16 = .ok (.bipush 11, 2) := by decide +kernel
theorem dX0_restoreLatest_18 : decode cX0_restoreLatest 18 = .ok (.goto 9, 3) := by decide +kernel
theorem dX0_restoreLatest_21 : decode cX0_restoreLatest 21 = .ok (.aload_n 0, 1) := by decide +kernel
theorem dX0_restoreLatest_22 : decode cX0_restoreLatest 22 = .ok (.getfield 17, 3) := by decide +kernel
theorem dX0_restoreLatest_25 : decode cX0_restoreLatest 25 = .ok (.iconst 1, 1) := by decide +kernel
theorem dX0_restoreLatest_26 : decode cX0_restoreLatest 26 = .ok (.isub, 1) := by decide +kernel
theorem dX0_restoreLatest_27 : decode cX0_restoreLatest 27 = .ok (.putfield 17, 3) := by decide +kernel
theorem dX0_restoreLatest_30 : decode cX0_restoreLatest 30 = .ok (.aload_n 0, 1) := by decide +kernel
theorem dX0_restoreLatest_31 : decode cX0_restoreLatest 31 = .ok (.dup, 1) := by decide +kernel
theorem dX0_restoreLatest_32 : decode cX0_restoreLatest 32 = .ok (.getfield 21, 3) := by decide +kernel
theorem dX0_restoreLatest_35 : decode cX0_restoreLatest 35 = .ok (.iconst 1, 1) := by decide +kernel
theorem dX0_restoreLatest_36 : decode cX0_restoreLatest 36 = .ok (.isub, 1) := by decide +kernel
theorem dX0_restoreLatest_37 : decode cX0_restoreLatest 37 = .ok (.putfield 21, 3) := by decide +kernel
theorem dX0_restoreLatest_40 : decode cX0_restoreLatest 40 = .ok (.aload_n 1, 1) := by decide +kernel
theorem dX0_restoreLatest_41 : decode cX0_restoreLatest 41 = .ok (.aload_n 0, 1) := by decide +kernel
theorem dX0_restoreLatest_42 : decode cX0_restoreLatest 42 = .ok (.getfield 11, 3) := by decide +kernel
theorem dX0_restoreLatest_45 : decode cX0_restoreLatest 45 = .ok (.aload_n 0, 1) := by decide +kernel
theorem dX0_restoreLatest_46 : decode cX0_restoreLatest 46 = .ok (.getfield 17, 3) := by decide +kernel
theorem dX0_restoreLatest_49 : decode cX0_restoreLatest 49 = .ok (.aaload, 1) := by decide +kernel
theorem dX0_restoreLatest_50 : decode cX0_restoreLatest 50 = .ok (.invokevirtual 25, 3) := by decide +kernel
theorem dX0_restoreLatest_53 : decode cX0_restoreLatest 53 = .ok (.return_, 1) := by decide +kernel
theorem dX1_init_0 : decode cX1_init 0 = .ok (.aload_n 0, 1) := by decide +kernel
theorem dX1_init_1 : decode cX1_init 1 = .ok (.invokespecial 3, 3) := by decide +kernel
theorem dX1_init_4 : decode cX1_init 4 = .ok (.aload_n 0, 1) := by decide +kernel
theorem dX1_init_5 : decode cX1_init 5 = .ok (.sipush 495, 3) := by decide +kernel
theorem dX1_init_8 : decode cX1_init 8 = .ok (.newarray .int, 2) := by decide +kernel
theorem dX1_init_10 : decode cX1_init 10 = .ok (.putfield 9, 3) := by decide +kernel
theorem dX1_init_13 : decode cX1_init 13 = .ok (.aload_n 0, 1) := by decide +kernel
theorem dX1_init_14 : decode cX1_init 14 = .ok (.sipush 495, 3) := by decide +kernel
theorem dX1_init_17 : decode cX1_init 17 = .ok (.newarray .boolean, 2) := by decide +kernel
theorem dX1_init_19 : decode cX1_init 19 = .ok (.putfield 15, 3) := by decide +kernel
theorem dX1_init_22 : decode cX1_init 22 = .ok (.aload_n 0, 1) := by decide +kernel
theorem dX1_init_23 : decode cX1_init 23 = .ok (.iconst 0, 1) := by decide +kernel
theorem dX1_init_24 : decode cX1_init 24 = .ok (.putfield 19, 3) := by decide +kernel
theorem dX1_init_27 : decode cX1_init 27 = .ok (.return_, 1) := by decide +kernel
theorem dX1_lay_0 : decode cX1_lay 0 = .ok (.aload_n 0, 1) := by decide +kernel
theorem dX1_lay_1 : decode cX1_lay 1 = .ok (.iconst 0, 1) := by decide +kernel
theorem dX1_lay_2 : decode cX1_lay 2 = .ok (.putfield 19, 3) := by decide +kernel
theorem dX1_lay_5 : decode cX1_lay 5 = .ok (.iconst 0, 1) := by decide +kernel
theorem dX1_lay_6 : decode cX1_lay 6 = .ok (.istore_n 2, 1) := by decide +kernel
theorem dX1_lay_7 : decode cX1_lay 7 = .ok (.iload_n 2, 1) := by decide +kernel
theorem dX1_lay_8 : decode cX1_lay 8 = .ok (.aload_n 1, 1) := by decide +kernel
theorem dX1_lay_9 : decode cX1_lay 9 = .ok (.getfield 23, 3) := by decide +kernel
theorem dX1_lay_12 : decode cX1_lay 12 = .ok (.if_icmp .ge 81, 3) := by decide +kernel
theorem dX1_lay_15 : decode cX1_lay 15 = .ok (.aload_n 1, 1) := by decide +kernel
theorem dX1_lay_16 : decode cX1_lay 16 = .ok (.getfield 28, 3) := by decide +kernel
theorem dX1_lay_19 : decode cX1_lay 19 = .ok (.iload_n 2, 1) := by decide +kernel
theorem dX1_lay_20 : decode cX1_lay 20 = .ok (.iaload, 1) := by decide +kernel
theorem dX1_lay_21 : decode cX1_lay 21 = .ok (.istore_n 3, 1) := by decide +kernel
theorem dX1_lay_22 : decode cX1_lay 22 = .ok (.aload_n 1, 1) := by decide +kernel
theorem dX1_lay_23 : decode cX1_lay 23 = .ok (.aload_n 1, 1) := by decide +kernel
theorem dX1_lay_24 : decode cX1_lay 24 = .ok (.getfield 31, 3) := by decide +kernel
theorem dX1_lay_27 : decode cX1_lay 27 = .ok (.iload_n 3, 1) := by decide +kernel
theorem dX1_lay_28 : decode cX1_lay 28 = .ok (.invokevirtual 34, 3) := by decide +kernel
theorem dX1_lay_31 : decode cX1_lay 31 = .ok (.istore 4, 2) := by decide +kernel
theorem dX1_lay_33 : decode cX1_lay 33 = .ok (.iconst 0, 1) := by decide +kernel
theorem dX1_lay_34 : decode cX1_lay 34 = .ok (.istore 5, 2) := by decide +kernel
theorem dX1_lay_36 : decode cX1_lay 36 = .ok (.iload 5, 2) := by decide +kernel
theorem dX1_lay_38 : decode cX1_lay 38 = .ok (.aload_n 1, 1) := by decide +kernel
theorem dX1_lay_39 : decode cX1_lay 39 = .ok (.getfield 38, 3) := by decide +kernel
theorem dX1_lay_42 : decode cX1_lay 42 = .ok (.iload_n 3, 1) := by decide +kernel
theorem dX1_lay_43 : decode cX1_lay 43 = .ok (.iaload, 1) := by decide +kernel
theorem dX1_lay_44 : decode cX1_lay 44 = .ok (.if_icmp .ge 43, 3) := by decide +kernel
theorem dX1_lay_47 : decode cX1_lay 47 = .ok (.aload_n 0, 1) := by decide +kernel
theorem dX1_lay_48 : decode cX1_lay 48 = .ok (.getfield 19, 3) := by decide +kernel
theorem dX1_lay_51 : decode cX1_lay 51 = .ok (.sipush 495, 3) := by decide +kernel
theorem dX1_lay_54 : decode cX1_lay 54 = .ok (.if_icmp .ge 33, 3) := by decide +kernel
theorem dX1_lay_57 : decode cX1_lay 57 = .ok (.aload_n 0, 1) := by decide +kernel
theorem dX1_lay_58 : decode cX1_lay 58 = .ok (.getfield 9, 3) := by decide +kernel
theorem dX1_lay_61 : decode cX1_lay 61 = .ok (.aload_n 0, 1) := by decide +kernel
theorem dX1_lay_62 : decode cX1_lay 62 = .ok (.getfield 19, 3) := by decide +kernel
theorem dX1_lay_65 : decode cX1_lay 65 = .ok (.iload 4, 2) := by decide +kernel
theorem dX1_lay_67 : decode cX1_lay 67 = .ok (.iload 5, 2) := by decide +kernel
theorem dX1_lay_69 : decode cX1_lay 69 = .ok (.iadd, 1) := by decide +kernel
theorem dX1_lay_70 : decode cX1_lay 70 = .ok (.iastore, 1) := by decide +kernel
theorem dX1_lay_71 : decode cX1_lay 71 = .ok (.aload_n 0, 1) := by decide +kernel
theorem dX1_lay_72 : decode cX1_lay 72 = .ok (.dup, 1) := by decide +kernel
theorem dX1_lay_73 : decode cX1_lay 73 = .ok (.getfield 19, 3) := by decide +kernel
theorem dX1_lay_76 : decode cX1_lay 76 = .ok (.iconst 1, 1) := by decide +kernel
theorem dX1_lay_77 : decode cX1_lay 77 = .ok (.iadd, 1) := by decide +kernel
theorem dX1_lay_78 : decode cX1_lay 78 = .ok (.putfield 19, 3) := by decide +kernel
theorem dX1_lay_81 : decode cX1_lay 81 = .ok (.iinc 5 1, 3) := by decide +kernel
theorem dX1_lay_84 : decode cX1_lay 84 = .ok (.goto (-48), 3) := by decide +kernel
theorem dX1_lay_87 : decode cX1_lay 87 = .ok (.iinc 2 1, 3) := by decide +kernel
theorem dX1_lay_90 : decode cX1_lay 90 = .ok (.goto (-83), 3) := by decide +kernel
theorem dX1_lay_93 : decode cX1_lay 93 = .ok (.return_, 1) := by decide +kernel
theorem dX1_periodOf_0 : decode cX1_periodOf 0 = .ok (.aload_n 0, 1) := by decide +kernel
theorem dX1_periodOf_1 : decode cX1_periodOf 1 = .ok (.getfield 9, 3) := by decide +kernel
theorem dX1_periodOf_4 : decode cX1_periodOf 4 = .ok (.iload_n 1, 1) := by decide +kernel
theorem dX1_periodOf_5 : decode cX1_periodOf 5 = .ok (.iaload, 1) := by decide +kernel
theorem dX1_periodOf_6 : decode cX1_periodOf 6 = .ok (.istore_n 2, 1) := by decide +kernel
theorem dX1_periodOf_7 : decode cX1_periodOf 7 = .ok (.iconst 1, 1) := by decide +kernel
theorem dX1_periodOf_8 : decode cX1_periodOf 8 = .ok (.istore_n 3, 1) := by decide +kernel
theorem dX1_periodOf_9 : decode cX1_periodOf 9 = .ok (.iload_n 3, 1) := by decide +kernel
theorem dX1_periodOf_10 : decode cX1_periodOf 10 = .ok (.aload_n 0, 1) := by decide +kernel
theorem dX1_periodOf_11 : decode cX1_periodOf 11 = .ok (.getfield 19, 3) := by decide +kernel
theorem dX1_periodOf_14 : decode cX1_periodOf 14 = .ok (.if_icmp .ge 21, 3) := by decide +kernel
theorem dX1_periodOf_17 : decode cX1_periodOf 17 = .ok (.iload_n 2, 1) := by decide +kernel
theorem dX1_periodOf_18 : decode cX1_periodOf 18 = .ok (.iload_n 1, 1) := by decide +kernel
theorem dX1_periodOf_19 : decode cX1_periodOf 19 = .ok (.if_icmp .eq 16, 3) := by decide +kernel
theorem dX1_periodOf_22 : decode cX1_periodOf 22 = .ok (.aload_n 0, 1) := by decide +kernel
theorem dX1_periodOf_23 : decode cX1_periodOf 23 = .ok (.getfield 9, 3) := by decide +kernel
theorem dX1_periodOf_26 : decode cX1_periodOf 26 = .ok (.iload_n 2, 1) := by decide +kernel
theorem dX1_periodOf_27 : decode cX1_periodOf 27 = .ok (.iaload, 1) := by decide +kernel
theorem dX1_periodOf_28 : decode cX1_periodOf 28 = .ok (.istore_n 2, 1) := by decide +kernel
theorem dX1_periodOf_29 : decode cX1_periodOf 29 = .ok (.iinc 3 1, 3) := by decide +kernel
theorem dX1_periodOf_32 : decode cX1_periodOf 32 = .ok (.goto (-23), 3) := by decide +kernel
theorem dX1_periodOf_35 : decode cX1_periodOf 35 = .ok (.iload_n 3, 1) := by decide +kernel
theorem dX1_periodOf_36 : decode cX1_periodOf 36 = .ok (.ireturn, 1) := by decide +kernel
theorem dX1_behind_0 : decode cX1_behind 0 = .ok (.aload_n 0, 1) := by decide +kernel
theorem dX1_behind_1 : decode cX1_behind 1 = .ok (.iload_n 1, 1) := by decide +kernel
theorem dX1_behind_2 : decode cX1_behind 2 = .ok (.invokevirtual 41, 3) := by decide +kernel
theorem dX1_behind_5 : decode cX1_behind 5 = .ok (.istore_n 3, 1) := by decide +kernel
theorem dX1_behind_6 : decode cX1_behind 6 = .ok (.iload_n 3, 1) := by decide +kernel
theorem dX1_behind_7 : decode cX1_behind 7 = .ok (.iconst 1, 1) := by decide +kernel
theorem dX1_behind_8 : decode cX1_behind 8 = .ok (.if_icmp .ge 7, 3) := by decide +kernel
theorem dX1_behind_11 : decode cX1_behind 11 = .ok (.iconst 0, 1) := by decide +kernel
theorem dX1_behind_12 : decode cX1_behind 12 = .ok (.goto 6, 3) := by decide +kernel
theorem dX1_behind_15 : decode cX1_behind 15 = .ok (.iload_n 2, 1) := by decide +kernel
theorem dX1_behind_16 : decode cX1_behind 16 = .ok (.iload_n 3, 1) := by decide +kernel
theorem dX1_behind_17 : decode cX1_behind 17 = .ok (.irem, 1) := by decide +kernel
theorem dX1_behind_18 : decode cX1_behind 18 = .ok (.istore 4, 2) := by decide +kernel
theorem dX1_behind_20 : decode cX1_behind 20 = .ok (.iload_n 1, 1) := by decide +kernel
theorem dX1_behind_21 : decode cX1_behind 21 = .ok (.istore 5, 2) := by decide +kernel
theorem dX1_behind_23 : decode cX1_behind 23 = .ok (.iconst 0, 1) := by decide +kernel
theorem dX1_behind_24 : decode cX1_behind 24 = .ok (.istore 6, 2) := by decide +kernel
theorem dX1_behind_26 : decode cX1_behind 26 = .ok (.iload 6, 2) := by decide +kernel
theorem dX1_behind_28 : decode cX1_behind 28 = .ok (.iload 4, 2) := by decide +kernel
theorem dX1_behind_30 : decode cX1_behind 30 = .ok (.if_icmp .ge 18, 3) := by decide +kernel
theorem dX1_behind_33 : decode cX1_behind 33 = .ok (.aload_n 0, 1) := by decide +kernel
theorem dX1_behind_34 : decode cX1_behind 34 = .ok (.getfield 9, 3) := by decide +kernel
theorem dX1_behind_37 : decode cX1_behind 37 = .ok (.iload 5, 2) := by decide +kernel
theorem dX1_behind_39 : decode cX1_behind 39 = .ok (.iaload, 1) := by decide +kernel
theorem dX1_behind_40 : decode cX1_behind 40 = .ok (.istore 5, 2) := by decide +kernel
theorem dX1_behind_42 : decode cX1_behind 42 = .ok (.iinc 6 1, 3) := by decide +kernel
theorem dX1_behind_45 : decode cX1_behind 45 = .ok (.goto (-19), 3) := by decide +kernel
theorem dX1_behind_48 : decode cX1_behind 48 = .ok (.iload 5, 2) := by decide +kernel
theorem dX1_behind_50 : decode cX1_behind 50 = .ok (.ireturn, 1) := by decide +kernel
theorem dX1_rounds_0 : decode cX1_rounds 0 = .ok (.iconst 0, 1) := by decide +kernel
theorem dX1_rounds_1 : decode cX1_rounds 1 = .ok (.istore_n 1, 1) := by decide +kernel
theorem dX1_rounds_2 : decode cX1_rounds 2 = .ok (.iload_n 1, 1) := by decide +kernel
theorem dX1_rounds_3 : decode cX1_rounds 3 = .ok (.aload_n 0, 1) := by decide +kernel
theorem dX1_rounds_4 : decode cX1_rounds 4 = .ok (.getfield 19, 3) := by decide +kernel
theorem dX1_rounds_7 : decode cX1_rounds 7 = .ok (.if_icmp .ge 16, 3) := by decide +kernel
theorem dX1_rounds_10 : decode cX1_rounds 10 = .ok (.aload_n 0, 1) := by decide +kernel
theorem dX1_rounds_11 : decode cX1_rounds 11 = .ok (.getfield 15, 3) := by decide +kernel
theorem dX1_rounds_14 : decode cX1_rounds 14 = .ok (.iload_n 1, 1) := by decide +kernel
theorem dX1_rounds_15 : decode cX1_rounds 15 = .ok (.iconst 0, 1) := by decide +kernel
theorem dX1_rounds_16 : decode cX1_rounds 16 = .ok (.bastore, 1) := by decide +kernel
theorem dX1_rounds_17 : decode cX1_rounds 17 = .ok (.iinc 1 1, 3) := by decide +kernel
theorem dX1_rounds_20 : decode cX1_rounds 20 = .ok (.goto (-18), 3) := by decide +kernel
theorem dX1_rounds_23 : decode cX1_rounds 23 = .ok (.iconst 0, 1) := by decide +kernel
theorem dX1_rounds_24 : decode cX1_rounds 24 = .ok (.istore_n 1, 1) := by decide +kernel
theorem dX1_rounds_25 : decode cX1_rounds 25 = .ok (.iconst 0, 1) := by decide +kernel
theorem dX1_rounds_26 : decode cX1_rounds 26 = .ok (.istore_n 2, 1) := by decide +kernel
theorem dX1_rounds_27 : decode cX1_rounds 27 = .ok (.iload_n 2, 1) := by decide +kernel
theorem dX1_rounds_28 : decode cX1_rounds 28 = .ok (.aload_n 0, 1) := by decide +kernel
theorem dX1_rounds_29 : decode cX1_rounds 29 = .ok (.getfield 19, 3) := by decide +kernel
theorem dX1_rounds_32 : decode cX1_rounds 32 = .ok (.if_icmp .ge 26, 3) := by decide +kernel
theorem dX1_rounds_35 : decode cX1_rounds 35 = .ok (.aload_n 0, 1) := by decide +kernel
theorem dX1_rounds_36 : decode cX1_rounds 36 = .ok (.getfield 15, 3) := by decide +kernel
theorem dX1_rounds_39 : decode cX1_rounds 39 = .ok (.iload_n 2, 1) := by decide +kernel
theorem dX1_rounds_40 : decode cX1_rounds 40 = .ok (.baload, 1) := by decide +kernel
theorem dX1_rounds_41 : decode cX1_rounds 41 = .ok (.ifCond .ne 11, 3) := by decide +kernel
theorem dX1_rounds_44 : decode cX1_rounds 44 = .ok (.iinc 1 1, 3) := by decide +kernel
theorem dX1_rounds_47 : decode cX1_rounds 47 = .ok (.aload_n 0, 1) := by decide +kernel
theorem dX1_rounds_48 : decode cX1_rounds 48 = .ok (.iload_n 2, 1) := by decide +kernel
theorem dX1_rounds_49 : decode cX1_rounds 49 = .ok (.invokevirtual 45, 3) := by decide +kernel
theorem dX1_rounds_52 : decode cX1_rounds 52 = .ok (.iinc 2 1, 3) := by decide +kernel
theorem dX1_rounds_55 : decode cX1_rounds 55 = .ok (.goto (-28), 3) := by decide +kernel
theorem dX1_rounds_58 : decode cX1_rounds 58 = .ok (.iload_n 1, 1) := by decide +kernel
theorem dX1_rounds_59 : decode cX1_rounds 59 = .ok (.ireturn, 1) := by decide +kernel
theorem dX1_markRound_0 : decode cX1_markRound 0 = .ok (.iload_n 1, 1) := by decide +kernel
theorem dX1_markRound_1 : decode cX1_markRound 1 = .ok (.istore_n 2, 1) := by decide +kernel
theorem dX1_markRound_2 : decode cX1_markRound 2 = .ok (.iconst 0, 1) := by decide +kernel
theorem dX1_markRound_3 : decode cX1_markRound 3 = .ok (.istore_n 3, 1) := by decide +kernel
theorem dX1_markRound_4 : decode cX1_markRound 4 = .ok (.iload_n 3, 1) := by decide +kernel
theorem dX1_markRound_5 : decode cX1_markRound 5 = .ok (.aload_n 0, 1) := by decide +kernel
theorem dX1_markRound_6 : decode cX1_markRound 6 = .ok (.getfield 19, 3) := by decide +kernel
theorem dX1_markRound_9 : decode cX1_markRound 9 = .ok (.if_icmp .ge 32, 3) := by decide +kernel
theorem dX1_markRound_12 : decode cX1_markRound 12 = .ok (.aload_n 0, 1) := by decide +kernel
theorem dX1_markRound_13 : decode cX1_markRound 13 = .ok (.getfield 15, 3) := by decide +kernel
theorem dX1_markRound_16 : decode cX1_markRound 16 = .ok (.iload_n 2, 1) := by decide +kernel
theorem dX1_markRound_17 : decode cX1_markRound 17 = .ok (.baload, 1) := by decide +kernel
theorem dX1_markRound_18 : decode cX1_markRound 18 = .ok (.ifCond .ne 23, 3) := by decide +kernel
theorem dX1_markRound_21 : decode cX1_markRound 21 = .ok (.aload_n 0, 1) := by decide +kernel
theorem dX1_markRound_22 : decode cX1_markRound 22 = .ok (.getfield 15, 3) := by decide +kernel
theorem dX1_markRound_25 : decode cX1_markRound 25 = .ok (.iload_n 2, 1) := by decide +kernel
theorem dX1_markRound_26 : decode cX1_markRound 26 = .ok (.iconst 1, 1) := by decide +kernel
theorem dX1_markRound_27 : decode cX1_markRound 27 = .ok (.bastore, 1) := by decide +kernel
theorem dX1_markRound_28 : decode cX1_markRound 28 = .ok (.aload_n 0, 1) := by decide +kernel
theorem dX1_markRound_29 : decode cX1_markRound 29 = .ok (.getfield 9, 3) := by decide +kernel
theorem dX1_markRound_32 : decode cX1_markRound 32 = .ok (.iload_n 2, 1) := by decide +kernel
theorem dX1_markRound_33 : decode cX1_markRound 33 = .ok (.iaload, 1) := by decide +kernel
theorem dX1_markRound_34 : decode cX1_markRound 34 = .ok (.istore_n 2, 1) := by decide +kernel
theorem dX1_markRound_35 : decode cX1_markRound 35 = .ok (.iinc 3 1, 3) := by decide +kernel
theorem dX1_markRound_38 : decode cX1_markRound 38 = .ok (.goto (-34), 3) := by decide +kernel
theorem dX1_markRound_41 : decode cX1_markRound 41 = .ok (.return_, 1) := by decide +kernel
theorem dX1_goingDown_0 : decode cX1_goingDown 0 = .ok (.iconst 0, 1) := by decide +kernel
theorem dX1_goingDown_1 : decode cX1_goingDown 1 = .ok (.istore_n 1, 1) := by decide +kernel
theorem dX1_goingDown_2 : decode cX1_goingDown 2 = .ok (.iconst 0, 1) := by decide +kernel
theorem dX1_goingDown_3 : decode cX1_goingDown 3 = .ok (.istore_n 2, 1) := by decide +kernel
theorem dX1_goingDown_4 : decode cX1_goingDown 4 = .ok (.iload_n 2, 1) := by decide +kernel
theorem dX1_goingDown_5 : decode cX1_goingDown 5 = .ok (.aload_n 0, 1) := by decide +kernel
theorem dX1_goingDown_6 : decode cX1_goingDown 6 = .ok (.getfield 19, 3) := by decide +kernel
theorem dX1_goingDown_9 : decode cX1_goingDown 9 = .ok (.if_icmp .ge 22, 3) := by decide +kernel
theorem dX1_goingDown_12 : decode cX1_goingDown 12 = .ok (.aload_n 0, 1) := by decide +kernel
theorem dX1_goingDown_13 : decode cX1_goingDown 13 = .ok (.getfield 9, 3) := by decide +kernel
theorem dX1_goingDown_16 : decode cX1_goingDown 16 = .ok (.iload_n 2, 1) := by decide +kernel
theorem dX1_goingDown_17 : decode cX1_goingDown 17 = .ok (.iaload, 1) := by decide +kernel
theorem dX1_goingDown_18 : decode cX1_goingDown 18 = .ok (.iload_n 2, 1) := by decide +kernel
theorem dX1_goingDown_19 : decode cX1_goingDown 19 = .ok (.if_icmp .ge 6, 3) := by decide +kernel
theorem dX1_goingDown_22 : decode cX1_goingDown 22 = .ok (.iinc 1 1, 3) := by decide +kernel
theorem dX1_goingDown_25 : decode cX1_goingDown 25 = .ok (.iinc 2 1, 3) := by decide +kernel
theorem dX1_goingDown_28 : decode cX1_goingDown 28 = .ok (.goto (-24), 3) := by decide +kernel
theorem dX1_goingDown_31 : decode cX1_goingDown 31 = .ok (.iload_n 1, 1) := by decide +kernel
theorem dX1_goingDown_32 : decode cX1_goingDown 32 = .ok (.ireturn, 1) := by decide +kernel
theorem dX1_wayTogether_0 : decode cX1_wayTogether 0 = .ok (.iconst 0, 1) := by decide +kernel
theorem dX1_wayTogether_1 : decode cX1_wayTogether 1 = .ok (.istore_n 1, 1) := by decide +kernel
theorem dX1_wayTogether_2 : decode cX1_wayTogether 2 = .ok (.iconst 0, 1) := by decide +kernel
theorem dX1_wayTogether_3 : decode cX1_wayTogether 3 = .ok (.istore_n 2, 1) := by decide +kernel
theorem dX1_wayTogether_4 : decode cX1_wayTogether 4 = .ok (.iload_n 2, 1) := by decide +kernel
theorem dX1_wayTogether_5 : decode cX1_wayTogether 5 = .ok (.aload_n 0, 1) := by decide +kernel
theorem dX1_wayTogether_6 : decode cX1_wayTogether 6 = .ok (.getfield 19, 3) := by decide +kernel
theorem dX1_wayTogether_9 : decode cX1_wayTogether 9 = .ok (.if_icmp .ge 23, 3) := by decide +kernel
theorem dX1_wayTogether_12 : decode cX1_wayTogether 12 = .ok (.iload_n 1, 1) := by decide +kernel
theorem dX1_wayTogether_13 : decode cX1_wayTogether 13 = .ok (.aload_n 0, 1) := by decide +kernel
theorem dX1_wayTogether_14 : decode cX1_wayTogether 14 = .ok (.getfield 9, 3) := by decide +kernel
theorem dX1_wayTogether_17 : decode cX1_wayTogether 17 = .ok (.iload_n 2, 1) := by decide +kernel
theorem dX1_wayTogether_18 : decode cX1_wayTogether 18 = .ok (.iaload, 1) := by decide +kernel
theorem dX1_wayTogether_19 : decode cX1_wayTogether 19 = .ok (.iload_n 2, 1) := by decide +kernel
theorem dX1_wayTogether_20 : decode cX1_wayTogether 20 = .ok (.isub, 1) := by decide +kernel
theorem dX1_wayTogether_21 : decode cX1_wayTogether 21 = .ok (.invokestatic 49, 3) := by decide +kernel
theorem dX1_wayTogether_24 : decode cX1_wayTogether 24 = .ok (.iadd, 1) := by decide +kernel
theorem dX1_wayTogether_25 : decode cX1_wayTogether 25 = .ok (.istore_n 1, 1) := by decide +kernel
theorem dX1_wayTogether_26 : decode cX1_wayTogether 26 = .ok (.iinc 2 1, 3) := by decide +kernel
theorem dX1_wayTogether_29 : decode cX1_wayTogether 29 = .ok (.goto (-25), 3) := by decide +kernel
theorem dX1_wayTogether_32 : decode cX1_wayTogether 32 = .ok (.iload_n 1, 1) := by decide +kernel
theorem dX1_wayTogether_33 : decode cX1_wayTogether 33 = .ok (.ireturn, 1) := by decide +kernel
theorem dX2_init_0 : decode cX2_init 0 = .ok (.aload_n 0, 1) := by decide +kernel
theorem dX2_init_1 : decode cX2_init 1 = .ok (.invokespecial 3, 3) := by decide +kernel
theorem dX2_init_4 : decode cX2_init 4 = .ok (.aload_n 0, 1) := by decide +kernel
theorem dX2_init_5 : decode cX2_init 5 = .ok (.iconst 0, 1) := by decide +kernel
theorem dX2_init_6 : decode cX2_init 6 = .ok (.putfield 9, 3) := by decide +kernel
theorem dX2_init_9 : decode cX2_init 9 = .ok (.aload_n 0, 1) := by decide +kernel
theorem dX2_init_10 : decode cX2_init 10 = .ok (.iload_n 1, 1) := by decide +kernel
theorem dX2_init_11 : decode cX2_init 11 = .ok (.iconst 0, 1) := by decide +kernel
theorem dX2_init_12 : decode cX2_init 12 = .ok (.invokestatic 15, 3) := by decide +kernel
theorem dX2_init_15 : decode cX2_init 15 = .ok (.newarray .int, 2) := by decide +kernel
theorem dX2_init_17 : decode cX2_init 17 = .ok (.putfield 21, 3) := by decide +kernel
theorem dX2_init_20 : decode cX2_init 20 = .ok (.aload_n 0, 1) := by decide +kernel
theorem dX2_init_21 : decode cX2_init 21 = .ok (.iload_n 1, 1) := by decide +kernel
theorem dX2_init_22 : decode cX2_init 22 = .ok (.iconst 0, 1) := by decide +kernel
theorem dX2_init_23 : decode cX2_init 23 = .ok (.invokestatic 15, 3) := by decide +kernel
theorem dX2_init_26 : decode cX2_init 26 = .ok (.newarray .int, 2) := by decide +kernel
theorem dX2_init_28 : decode cX2_init 28 = .ok (.putfield 25, 3) := by decide +kernel
theorem dX2_init_31 : decode cX2_init 31 = .ok (.return_, 1) := by decide +kernel
theorem dX2_clear_0 : decode cX2_clear 0 = .ok (.aload_n 0, 1) := by decide +kernel
theorem dX2_clear_1 : decode cX2_clear 1 = .ok (.iconst 0, 1) := by decide +kernel
theorem dX2_clear_2 : decode cX2_clear 2 = .ok (.putfield 9, 3) := by decide +kernel
theorem dX2_clear_5 : decode cX2_clear 5 = .ok (.aload_n 0, 1) := by decide +kernel
theorem dX2_clear_6 : decode cX2_clear 6 = .ok (.getfield 9, 3) := by decide +kernel
theorem dX2_clear_9 : decode cX2_clear 9 = .ok (.ireturn, 1) := by decide +kernel
theorem dX2_add_0 : decode cX2_add 0 = .ok (.aload_n 0, 1) := by decide +kernel
theorem dX2_add_1 : decode cX2_add 1 = .ok (.getfield 9, 3) := by decide +kernel
theorem dX2_add_4 : decode cX2_add 4 = .ok (.aload_n 0, 1) := by decide +kernel
theorem dX2_add_5 : decode cX2_add 5 = .ok (.getfield 21, 3) := by decide +kernel
theorem dX2_add_8 : decode cX2_add 8 = .ok (.arraylength, 1) := by decide +kernel
theorem dX2_add_9 : decode cX2_add 9 = .ok (.if_icmp .lt 6, 3) := by decide +kernel
theorem dX2_add_12 : decode cX2_add 12 = .ok (.bipush (-4), 2) := by decide +kernel
theorem dX2_add_14 : decode cX2_add 14 = .ok (.ireturn, 1) := by decide +kernel
theorem dX2_add_15 : decode cX2_add 15 = .ok (.aload_n 0, 1) := by decide +kernel
theorem dX2_add_16 : decode cX2_add 16 = .ok (.getfield 21, 3) := by decide +kernel
theorem dX2_add_19 : decode cX2_add 19 = .ok (.aload_n 0, 1) := by decide +kernel
theorem dX2_add_20 : decode cX2_add 20 = .ok (.getfield 9, 3) := by decide +kernel
theorem dX2_add_23 : decode cX2_add 23 = .ok (.iload_n 1, 1) := by decide +kernel
theorem dX2_add_24 : decode cX2_add 24 = .ok (.iastore, 1) := by decide +kernel
theorem dX2_add_25 : decode cX2_add 25 = .ok (.aload_n 0, 1) := by decide +kernel
theorem dX2_add_26 : decode cX2_add 26 = .ok (.getfield 25, 3) := by decide +kernel
theorem dX2_add_29 : decode cX2_add 29 = .ok (.aload_n 0, 1) := by decide +kernel
theorem dX2_add_30 : decode cX2_add 30 = .ok (.getfield 9, 3) := by decide +kernel
theorem dX2_add_33 : decode cX2_add 33 = .ok (.iload_n 2, 1) := by decide +kernel
theorem dX2_add_34 : decode cX2_add 34 = .ok (.iastore, 1) := by decide +kernel
theorem dX2_add_35 : decode cX2_add 35 = .ok (.aload_n 0, 1) := by decide +kernel
theorem dX2_add_36 : decode cX2_add 36 = .ok (.dup, 1) := by decide +kernel
theorem dX2_add_37 : decode cX2_add 37 = .ok (.getfield 9, 3) := by decide +kernel
theorem dX2_add_40 : decode cX2_add 40 = .ok (.iconst 1, 1) := by decide +kernel
theorem dX2_add_41 : decode cX2_add 41 = .ok (.iadd, 1) := by decide +kernel
theorem dX2_add_42 : decode cX2_add 42 = .ok (.putfield 9, 3) := by decide +kernel
theorem dX2_add_45 : decode cX2_add 45 = .ok (.aload_n 0, 1) := by decide +kernel
theorem dX2_add_46 : decode cX2_add 46 = .ok (.getfield 9, 3) := by decide +kernel
theorem dX2_add_49 : decode cX2_add 49 = .ok (.ireturn, 1) := by decide +kernel
theorem dX2_copyFrom_0 : decode cX2_copyFrom 0 = .ok (.aload_n 0, 1) := by decide +kernel
theorem dX2_copyFrom_1 : decode cX2_copyFrom 1 = .ok (.invokevirtual 28, 3) := by decide +kernel
theorem dX2_copyFrom_4 : decode cX2_copyFrom 4 = .ok (.pop, 1) := by decide +kernel
theorem dX2_copyFrom_5 : decode cX2_copyFrom 5 = .ok (.iconst 0, 1) := by decide +kernel
theorem dX2_copyFrom_6 : decode cX2_copyFrom 6 = .ok (.istore_n 2, 1) := by decide +kernel
theorem dX2_copyFrom_7 : decode cX2_copyFrom 7 = .ok (.iload_n 2, 1) := by decide +kernel
theorem dX2_copyFrom_8 : decode cX2_copyFrom 8 = .ok (.aload_n 1, 1) := by decide +kernel
theorem dX2_copyFrom_9 : decode cX2_copyFrom 9 = .ok (.getfield 9, 3) := by decide +kernel
theorem dX2_copyFrom_12 : decode cX2_copyFrom 12 = .ok (.if_icmp .ge 26, 3) := by decide +kernel
theorem dX2_copyFrom_15 : decode cX2_copyFrom 15 = .ok (.aload_n 0, 1) := by decide +kernel
theorem dX2_copyFrom_16 : decode cX2_copyFrom 16 = .ok (.aload_n 1, 1) := by decide +kernel
theorem dX2_copyFrom_17 : decode cX2_copyFrom 17 = .ok (.getfield 21, 3) := by decide +kernel
theorem dX2_copyFrom_20 : decode cX2_copyFrom 20 = .ok (.iload_n 2, 1) := by decide +kernel
theorem dX2_copyFrom_21 : decode cX2_copyFrom 21 = .ok (.iaload, 1) := by decide +kernel
theorem dX2_copyFrom_22 : decode cX2_copyFrom 22 = .ok (.aload_n 1, 1) := by decide +kernel
theorem dX2_copyFrom_23 : decode cX2_copyFrom 23 = .ok (.getfield 25, 3) := by decide +kernel
theorem dX2_copyFrom_26 : decode cX2_copyFrom 26 = .ok (.iload_n 2, 1) := by decide +kernel
theorem dX2_copyFrom_27 : decode cX2_copyFrom 27 = .ok (.iaload, 1) := by decide +kernel
theorem dX2_copyFrom_28 : decode cX2_copyFrom 28 = .ok (.invokevirtual 32, 3) := by decide +kernel
theorem dX2_copyFrom_31 : decode cX2_copyFrom 31 = .ok (.pop, 1) := by decide +kernel
theorem dX2_copyFrom_32 : decode cX2_copyFrom 32 = .ok (.iinc 2 1, 3) := by decide +kernel
theorem dX2_copyFrom_35 : decode cX2_copyFrom 35 = .ok (.goto (-28), 3) := by decide +kernel
theorem dX2_copyFrom_38 : decode cX2_copyFrom 38 = .ok (.return_, 1) := by decide +kernel
theorem dX3_init_0 : decode cX3_init 0 = .ok (.aload_n 0, 1) := by decide +kernel
theorem dX3_init_1 : decode cX3_init 1 = .ok (.invokespecial 3, 3) := by decide +kernel
theorem dX3_init_4 : decode cX3_init 4 = .ok (.aload_n 0, 1) := by decide +kernel
theorem dX3_init_5 : decode cX3_init 5 = .ok (.iconst 5, 1) := by decide +kernel
theorem dX3_init_6 : decode cX3_init 6 = .ok (.newarray .int, 2) := by decide +kernel
theorem dX3_init_8 : decode cX3_init 8 = .ok (.putfield 9, 3) := by decide +kernel
theorem dX3_init_11 : decode cX3_init 11 = .ok (.aload_n 0, 1) := by decide +kernel
theorem dX3_init_12 : decode cX3_init 12 = .ok (.iconst 5, 1) := by decide +kernel
theorem dX3_init_13 : decode cX3_init 13 = .ok (.newarray .int, 2) := by decide +kernel
theorem dX3_init_15 : decode cX3_init 15 = .ok (.putfield 15, 3) := by decide +kernel
theorem dX3_init_18 : decode cX3_init 18 = .ok (.aload_n 0, 1) := by decide +kernel
theorem dX3_init_19 : decode cX3_init 19 = .ok (.iconst 5, 1) := by decide +kernel
theorem dX3_init_20 : decode cX3_init 20 = .ok (.newarray .int, 2) := by decide +kernel
theorem dX3_init_22 : decode cX3_init 22 = .ok (.putfield 18, 3) := by decide +kernel
theorem dX3_init_25 : decode cX3_init 25 = .ok (.aload_n 0, 1) := by decide +kernel
theorem dX3_init_26 : decode cX3_init 26 = .ok (.iconst 3, 1) := by decide +kernel
theorem dX3_init_27 : decode cX3_init 27 = .ok (.invokevirtual 21, 3) := by decide +kernel
theorem dX3_init_30 : decode cX3_init 30 = .ok (.return_, 1) := by decide +kernel
theorem dX3_begin_0 : decode cX3_begin 0 = .ok (.aload_n 0, 1) := by decide +kernel
theorem dX3_begin_1 : decode cX3_begin 1 = .ok (.iconst 2, 1) := by decide +kernel
theorem dX3_begin_2 : decode cX3_begin 2 = .ok (.iload_n 1, 1) := by decide +kernel
theorem dX3_begin_3 : decode cX3_begin 3 = .ok (.iconst 5, 1) := by decide +kernel
theorem dX3_begin_4 : decode cX3_begin 4 = .ok (.invokestatic 25, 3) := by decide +kernel
theorem dX3_begin_7 : decode cX3_begin 7 = .ok (.invokestatic 31, 3) := by decide +kernel
theorem dX3_begin_10 : decode cX3_begin 10 = .ok (.putfield 34, 3) := by decide +kernel
theorem dX3_begin_13 : decode cX3_begin 13 = .ok (.iconst 0, 1) := by decide +kernel
theorem dX3_begin_14 : decode cX3_begin 14 = .ok (.istore_n 2, 1) := by decide +kernel
theorem dX3_begin_15 : decode cX3_begin 15 = .ok (.iload_n 2, 1) := by decide +kernel
theorem dX3_begin_16 : decode cX3_begin 16 = .ok (.aload_n 0, 1) := by decide +kernel
theorem dX3_begin_17 : decode cX3_begin 17 = .ok (.getfield 34, 3) := by decide +kernel
theorem dX3_begin_20 : decode cX3_begin 20 = .ok (.if_icmp .ge 37, 3) := by decide +kernel
theorem dX3_begin_23 : decode cX3_begin 23 = .ok (.aload_n 0, 1) := by decide +kernel
theorem dX3_begin_24 : decode cX3_begin 24 = .ok (.getfield 9, 3) := by decide +kernel
theorem dX3_begin_27 : decode cX3_begin 27 = .ok (.iload_n 2, 1) := by decide +kernel
theorem dX3_begin_28 : decode cX3_begin 28 = .ok (.iload_n 2, 1) := by decide +kernel
theorem dX3_begin_29 : decode cX3_begin 29 = .ok (.iastore, 1) := by decide +kernel
theorem dX3_begin_30 : decode cX3_begin 30 = .ok (.aload_n 0, 1) := by decide +kernel
theorem dX3_begin_31 : decode cX3_begin 31 = .ok (.getfield 15, 3) := by decide +kernel
theorem dX3_begin_34 : decode cX3_begin 34 = .ok (.iload_n 2, 1) := by decide +kernel
theorem dX3_begin_35 : decode cX3_begin 35 = .ok (.aload_n 0, 1) := by decide +kernel
theorem dX3_begin_36 : decode cX3_begin 36 = .ok (.getfield 34, 3) := by decide +kernel
theorem dX3_begin_39 : decode cX3_begin 39 = .ok (.iconst 1, 1) := by decide +kernel
theorem dX3_begin_40 : decode cX3_begin 40 = .ok (.isub, 1) := by decide +kernel
theorem dX3_begin_41 : decode cX3_begin 41 = .ok (.iload_n 2, 1) := by decide +kernel
theorem dX3_begin_42 : decode cX3_begin 42 = .ok (.isub, 1) := by decide +kernel
theorem dX3_begin_43 : decode cX3_begin 43 = .ok (.iastore, 1) := by decide +kernel
theorem dX3_begin_44 : decode cX3_begin 44 = .ok (.aload_n 0, 1) := by decide +kernel
theorem dX3_begin_45 : decode cX3_begin 45 = .ok (.getfield 18, 3) := by decide +kernel
theorem dX3_begin_48 : decode cX3_begin 48 = .ok (.iload_n 2, 1) := by decide +kernel
theorem dX3_begin_49 : decode cX3_begin 49 = .ok (.iconst 1, 1) := by decide +kernel
theorem dX3_begin_50 : decode cX3_begin 50 = .ok (.iastore, 1) := by decide +kernel
theorem dX3_begin_51 : decode cX3_begin 51 = .ok (.iinc 2 1, 3) := by decide +kernel
theorem dX3_begin_54 : decode cX3_begin 54 = .ok (.goto (-39), 3) := by decide +kernel
theorem dX3_begin_57 : decode cX3_begin 57 = .ok (.return_, 1) := by decide +kernel
theorem dX3_copyFrom_0 : decode cX3_copyFrom 0 = .ok (.aload_n 0, 1) := by decide +kernel
theorem dX3_copyFrom_1 : decode cX3_copyFrom 1 = .ok (.aload_n 1, 1) := by decide +kernel
theorem dX3_copyFrom_2 : decode cX3_copyFrom 2 = .ok (.getfield 34, 3) := by decide +kernel
theorem dX3_copyFrom_5 : decode cX3_copyFrom 5 = .ok (.putfield 34, 3) := by decide +kernel
theorem dX3_copyFrom_8 : decode cX3_copyFrom 8 = .ok (.iconst 0, 1) := by decide +kernel
theorem dX3_copyFrom_9 : decode cX3_copyFrom 9 = .ok (.istore_n 2, 1) := by decide +kernel
theorem dX3_copyFrom_10 : decode cX3_copyFrom 10 = .ok (.iload_n 2, 1) := by decide +kernel
theorem dX3_copyFrom_11 : decode cX3_copyFrom 11 = .ok (.iconst 5, 1) := by decide +kernel
theorem dX3_copyFrom_12 : decode cX3_copyFrom 12 = .ok (.if_icmp .ge 45, 3) := by decide +kernel
theorem dX3_copyFrom_15 : decode cX3_copyFrom 15 = .ok (.aload_n 0, 1) := by decide +kernel
theorem dX3_copyFrom_16 : decode cX3_copyFrom 16 = .ok (.getfield 9, 3) := by decide +kernel
theorem dX3_copyFrom_19 : decode cX3_copyFrom 19 = .ok (.iload_n 2, 1) := by decide +kernel
theorem dX3_copyFrom_20 : decode cX3_copyFrom 20 = .ok (.aload_n 1, 1) := by decide +kernel
theorem dX3_copyFrom_21 : decode cX3_copyFrom 21 = .ok (.getfield 9, 3) := by decide +kernel
theorem dX3_copyFrom_24 : decode cX3_copyFrom 24 = .ok (.iload_n 2, 1) := by decide +kernel
theorem dX3_copyFrom_25 : decode cX3_copyFrom 25 = .ok (.iaload, 1) := by decide +kernel
theorem dX3_copyFrom_26 : decode cX3_copyFrom 26 = .ok (.iastore, 1) := by decide +kernel
theorem dX3_copyFrom_27 : decode cX3_copyFrom 27 = .ok (.aload_n 0, 1) := by decide +kernel
theorem dX3_copyFrom_28 : decode cX3_copyFrom 28 = .ok (.getfield 15, 3) := by decide +kernel
theorem dX3_copyFrom_31 : decode cX3_copyFrom 31 = .ok (.iload_n 2, 1) := by decide +kernel
theorem dX3_copyFrom_32 : decode cX3_copyFrom 32 = .ok (.aload_n 1, 1) := by decide +kernel
theorem dX3_copyFrom_33 : decode cX3_copyFrom 33 = .ok (.getfield 15, 3) := by decide +kernel
theorem dX3_copyFrom_36 : decode cX3_copyFrom 36 = .ok (.iload_n 2, 1) := by decide +kernel
theorem dX3_copyFrom_37 : decode cX3_copyFrom 37 = .ok (.iaload, 1) := by decide +kernel
theorem dX3_copyFrom_38 : decode cX3_copyFrom 38 = .ok (.iastore, 1) := by decide +kernel
theorem dX3_copyFrom_39 : decode cX3_copyFrom 39 = .ok (.aload_n 0, 1) := by decide +kernel
theorem dX3_copyFrom_40 : decode cX3_copyFrom 40 = .ok (.getfield 18, 3) := by decide +kernel
theorem dX3_copyFrom_43 : decode cX3_copyFrom 43 = .ok (.iload_n 2, 1) := by decide +kernel
theorem dX3_copyFrom_44 : decode cX3_copyFrom 44 = .ok (.aload_n 1, 1) := by decide +kernel
theorem dX3_copyFrom_45 : decode cX3_copyFrom 45 = .ok (.getfield 18, 3) := by decide +kernel
theorem dX3_copyFrom_48 : decode cX3_copyFrom 48 = .ok (.iload_n 2, 1) := by decide +kernel
theorem dX3_copyFrom_49 : decode cX3_copyFrom 49 = .ok (.iaload, 1) := by decide +kernel
theorem dX3_copyFrom_50 : decode cX3_copyFrom 50 = .ok (.iastore, 1) := by decide +kernel
theorem dX3_copyFrom_51 : decode cX3_copyFrom 51 = .ok (.iinc 2 1, 3) := by decide +kernel
theorem dX3_copyFrom_54 : decode cX3_copyFrom 54 = .ok (.goto (-44), 3) := by decide +kernel
theorem dX3_copyFrom_57 : decode cX3_copyFrom 57 = .ok (.return_, 1) := by decide +kernel
theorem dX3_hasLetter_0 : decode cX3_hasLetter 0 = .ok (.iload_n 1, 1) := by decide +kernel
theorem dX3_hasLetter_1 : decode cX3_hasLetter 1 = .ok (.ifCond .lt 15, 3) := by decide +kernel
theorem dX3_hasLetter_4 : decode cX3_hasLetter 4 = .ok (.iload_n 1, 1) := by decide +kernel
theorem dX3_hasLetter_5 : decode cX3_hasLetter 5 = .ok (.aload_n 0, 1) := by decide +kernel
theorem dX3_hasLetter_6 : decode cX3_hasLetter 6 = .ok (.getfield 34, 3) := by decide +kernel
theorem dX3_hasLetter_9 : decode cX3_hasLetter 9 = .ok (.if_icmp .ge 7, 3) := by decide +kernel
theorem dX3_hasLetter_12 : decode cX3_hasLetter 12 = .ok (.iconst 1, 1) := by decide +kernel
theorem dX3_hasLetter_13 : decode cX3_hasLetter 13 = .ok (.goto 4, 3) := by decide +kernel
theorem dX3_hasLetter_16 : decode cX3_hasLetter 16 = .ok (.iconst 0, 1) := by decide +kernel
theorem dX3_hasLetter_17 : decode cX3_hasLetter 17 = .ok (.ireturn, 1) := by decide +kernel
theorem dX3_hasPoint_0 : decode cX3_hasPoint 0 = .ok (.iload_n 1, 1) := by decide +kernel
theorem dX3_hasPoint_1 : decode cX3_hasPoint 1 = .ok (.ifCond .lt 15, 3) := by decide +kernel
theorem dX3_hasPoint_4 : decode cX3_hasPoint 4 = .ok (.iload_n 1, 1) := by decide +kernel
theorem dX3_hasPoint_5 : decode cX3_hasPoint 5 = .ok (.aload_n 0, 1) := by decide +kernel
theorem dX3_hasPoint_6 : decode cX3_hasPoint 6 = .ok (.invokevirtual 38, 3) := by decide +kernel
theorem dX3_hasPoint_9 : decode cX3_hasPoint 9 = .ok (.if_icmp .ge 7, 3) := by decide +kernel
theorem dX3_hasPoint_12 : decode cX3_hasPoint 12 = .ok (.iconst 1, 1) := by decide +kernel
theorem dX3_hasPoint_13 : decode cX3_hasPoint 13 = .ok (.goto 4, 3) := by decide +kernel
theorem dX3_hasPoint_16 : decode cX3_hasPoint 16 = .ok (.iconst 0, 1) := by decide +kernel
theorem dX3_hasPoint_17 : decode cX3_hasPoint 17 = .ok (.ireturn, 1) := by decide +kernel
theorem dX3_points_0 : decode cX3_points 0 = .ok (.iconst 0, 1) := by decide +kernel
theorem dX3_points_1 : decode cX3_points 1 = .ok (.istore_n 1, 1) := by decide +kernel
theorem dX3_points_2 : decode cX3_points 2 = .ok (.iconst 0, 1) := by decide +kernel
theorem dX3_points_3 : decode cX3_points 3 = .ok (.istore_n 2, 1) := by decide +kernel
theorem dX3_points_4 : decode cX3_points 4 = .ok (.iload_n 2, 1) := by decide +kernel
theorem dX3_points_5 : decode cX3_points 5 = .ok (.aload_n 0, 1) := by decide +kernel
theorem dX3_points_6 : decode cX3_points 6 = .ok (.getfield 34, 3) := by decide +kernel
theorem dX3_points_9 : decode cX3_points 9 = .ok (.if_icmp .ge 18, 3) := by decide +kernel
theorem dX3_points_12 : decode cX3_points 12 = .ok (.iload_n 1, 1) := by decide +kernel
theorem dX3_points_13 : decode cX3_points 13 = .ok (.aload_n 0, 1) := by decide +kernel
theorem dX3_points_14 : decode cX3_points 14 = .ok (.getfield 18, 3) := by decide +kernel
theorem dX3_points_17 : decode cX3_points 17 = .ok (.iload_n 2, 1) := by decide +kernel
theorem dX3_points_18 : decode cX3_points 18 = .ok (.iaload, 1) := by decide +kernel
theorem dX3_points_19 : decode cX3_points 19 = .ok (.iadd, 1) := by decide +kernel
theorem dX3_points_20 : decode cX3_points 20 = .ok (.istore_n 1, 1) := by decide +kernel
theorem dX3_points_21 : decode cX3_points 21 = .ok (.iinc 2 1, 3) := by decide +kernel
theorem dX3_points_24 : decode cX3_points 24 = .ok (.goto (-20), 3) := by decide +kernel
theorem dX3_points_27 : decode cX3_points 27 = .ok (.iload_n 1, 1) := by decide +kernel
theorem dX3_points_28 : decode cX3_points 28 = .ok (.ireturn, 1) := by decide +kernel
theorem dX3_isCode_0 : decode cX3_isCode 0 = .ok (.iload_n 0, 1) := by decide +kernel
theorem dX3_isCode_1 : decode cX3_isCode 1 = .ok (.istore_n 2, 1) := by decide +kernel
theorem dX3_isCode_2 : decode cX3_isCode 2 = .ok (.iconst 0, 1) := by decide +kernel
theorem dX3_isCode_3 : decode cX3_isCode 3 = .ok (.istore_n 3, 1) := by decide +kernel
theorem dX3_isCode_4 : decode cX3_isCode 4 = .ok (.iconst 0, 1) := by decide +kernel
theorem dX3_isCode_5 : decode cX3_isCode 5 = .ok (.istore 4, 2) := by decide +kernel
theorem dX3_isCode_7 : decode cX3_isCode 7 = .ok (.iload 4, 2) := by decide +kernel
theorem dX3_isCode_9 : decode cX3_isCode 9 = .ok (.iload_n 1, 1) := by decide +kernel
theorem dX3_isCode_10 : decode cX3_isCode 10 = .ok (.if_icmp .ge 41, 3) := by decide +kernel
theorem dX3_isCode_13 : decode cX3_isCode 13 = .ok (.iload_n 2, 1) := by decide +kernel
theorem dX3_isCode_14 : decode cX3_isCode 14 = .ok (.bipush 10, 2) := by decide +kernel
theorem dX3_isCode_16 : decode cX3_isCode 16 = .ok (.irem, 1) := by decide +kernel
theorem dX3_isCode_17 : decode cX3_isCode 17 = .ok (.istore 5, 2) := by decide +kernel
theorem dX3_isCode_19 : decode cX3_isCode 19 = .ok (.iload 5, 2) := by decide +kernel
theorem dX3_isCode_21 : decode cX3_isCode 21 = .ok (.iconst 1, 1) := by decide +kernel
theorem dX3_isCode_22 : decode cX3_isCode 22 = .ok (.if_icmp .lt 9, 3) := by decide +kernel
theorem dX3_isCode_25 : decode cX3_isCode 25 = .ok (.iload 5, 2) := by decide +kernel
theorem dX3_isCode_27 : decode cX3_isCode 27 = .ok (.iload_n 1, 1) := by decide +kernel
theorem dX3_isCode_28 : decode cX3_isCode 28 = .ok (.if_icmp .le 5, 3) := by decide +kernel
theorem dX3_isCode_31 : decode cX3_isCode 31 = .ok (.iconst 0, 1) := by decide +kernel
theorem dX3_isCode_32 : decode cX3_isCode 32 = .ok (.ireturn, 1) := by decide +kernel
theorem dX3_isCode_33 : decode cX3_isCode 33 = .ok (.iload_n 3, 1) := by decide +kernel
theorem dX3_isCode_34 : decode cX3_isCode 34 = .ok (.iconst 1, 1) := by decide +kernel
theorem dX3_isCode_35 : decode cX3_isCode 35 = .ok (.iload 5, 2) := by decide +kernel
theorem dX3_isCode_37 : decode cX3_isCode 37 = .ok (.ishl, 1) := by decide +kernel
theorem dX3_isCode_38 : decode cX3_isCode 38 = .ok (.ior, 1) := by decide +kernel
theorem dX3_isCode_39 : decode cX3_isCode 39 = .ok (.istore_n 3, 1) := by decide +kernel
theorem dX3_isCode_40 : decode cX3_isCode 40 = .ok (.iload_n 2, 1) := by decide +kernel
theorem dX3_isCode_41 : decode cX3_isCode 41 = .ok (.bipush 10, 2) := by decide +kernel
theorem dX3_isCode_43 : decode cX3_isCode 43 = .ok (.idiv, 1) := by decide +kernel
theorem dX3_isCode_44 : decode cX3_isCode 44 = .ok (.istore_n 2, 1) := by decide +kernel
theorem dX3_isCode_45 : decode cX3_isCode 45 = .ok (.iinc 4 1, 3) := by decide +kernel
theorem dX3_isCode_48 : decode cX3_isCode 48 = .ok (.goto (-41), 3) := by decide +kernel
theorem dX3_isCode_51 : decode cX3_isCode 51 = .ok (.iload_n 2, 1) := by decide +kernel
theorem dX3_isCode_52 : decode cX3_isCode 52 = .ok (.ifCond .ne 18, 3) := by decide +kernel
theorem dX3_isCode_55 : decode cX3_isCode 55 = .ok (.iload_n 3, 1) := by decide +kernel
theorem dX3_isCode_56 : decode cX3_isCode 56 = .ok (.iconst 1, 1) := by decide +kernel
theorem dX3_isCode_57 : decode cX3_isCode 57 = .ok (.iload_n 1, 1) := by decide +kernel
theorem dX3_isCode_58 : decode cX3_isCode 58 = .ok (.iconst 1, 1) := by decide +kernel
theorem dX3_isCode_59 : decode cX3_isCode 59 = .ok (.iadd, 1) := by decide +kernel
theorem dX3_isCode_60 : decode cX3_isCode 60 = .ok (.ishl, 1) := by decide +kernel
theorem dX3_isCode_61 : decode cX3_isCode 61 = .ok (.iconst 2, 1) := by decide +kernel
theorem dX3_isCode_62 : decode cX3_isCode 62 = .ok (.isub, 1) := by decide +kernel
theorem dX3_isCode_63 : decode cX3_isCode 63 = .ok (.if_icmp .ne 7, 3) := by decide +kernel
theorem dX3_isCode_66 : decode cX3_isCode 66 = .ok (.iconst 1, 1) := by decide +kernel
theorem dX3_isCode_67 : decode cX3_isCode 67 = .ok (.goto 4, 3) := by decide +kernel
theorem dX3_isCode_70 : decode cX3_isCode 70 = .ok (.iconst 0, 1) := by decide +kernel
theorem dX3_isCode_71 : decode cX3_isCode 71 = .ok (.ireturn, 1) := by decide +kernel
theorem dX3_layCode_0 : decode cX3_layCode 0 = .ok (.iload_n 1, 1) := by decide +kernel
theorem dX3_layCode_1 : decode cX3_layCode 1 = .ok (.istore_n 2, 1) := by decide +kernel
theorem dX3_layCode_2 : decode cX3_layCode 2 = .ok (.aload_n 0, 1) := by decide +kernel
theorem dX3_layCode_3 : decode cX3_layCode 3 = .ok (.getfield 34, 3) := by decide +kernel
theorem dX3_layCode_6 : decode cX3_layCode 6 = .ok (.iconst 1, 1) := by decide +kernel
theorem dX3_layCode_7 : decode cX3_layCode 7 = .ok (.isub, 1) := by decide +kernel
theorem dX3_layCode_8 : decode cX3_layCode 8 = .ok (.istore_n 3, 1) := by decide +kernel
theorem dX3_layCode_9 : decode cX3_layCode 9 = .ok (.iload_n 3, 1) := by decide +kernel
theorem dX3_layCode_10 : decode cX3_layCode 10 = .ok (.ifCond .lt 33, 3) := by decide +kernel
theorem dX3_layCode_13 : decode cX3_layCode 13 = .ok (.aload_n 0, 1) := by decide +kernel
theorem dX3_layCode_14 : decode cX3_layCode 14 = .ok (.getfield 9, 3) := by decide +kernel
theorem dX3_layCode_17 : decode cX3_layCode 17 = .ok (.iload_n 3, 1) := by decide +kernel
theorem dX3_layCode_18 : decode cX3_layCode 18 = .ok (.iload_n 3, 1) := by decide +kernel
theorem dX3_layCode_19 : decode cX3_layCode 19 = .ok (.iastore, 1) := by decide +kernel
theorem dX3_layCode_20 : decode cX3_layCode 20 = .ok (.aload_n 0, 1) := by decide +kernel
theorem dX3_layCode_21 : decode cX3_layCode 21 = .ok (.getfield 15, 3) := by decide +kernel
theorem dX3_layCode_24 : decode cX3_layCode 24 = .ok (.iload_n 3, 1) := by decide +kernel
theorem dX3_layCode_25 : decode cX3_layCode 25 = .ok (.iload_n 2, 1) := by decide +kernel
theorem dX3_layCode_26 : decode cX3_layCode 26 = .ok (.bipush 10, 2) := by decide +kernel
theorem dX3_layCode_28 : decode cX3_layCode 28 = .ok (.irem, 1) := by decide +kernel
theorem dX3_layCode_29 : decode cX3_layCode 29 = .ok (.iconst 1, 1) := by decide +kernel
theorem dX3_layCode_30 : decode cX3_layCode 30 = .ok (.isub, 1) := by decide +kernel
theorem dX3_layCode_31 : decode cX3_layCode 31 = .ok (.iastore, 1) := by decide +kernel
theorem dX3_layCode_32 : decode cX3_layCode 32 = .ok (.iload_n 2, 1) := by decide +kernel
theorem dX3_layCode_33 : decode cX3_layCode 33 = .ok (.bipush 10, 2) := by decide +kernel
theorem dX3_layCode_35 : decode cX3_layCode 35 = .ok (.idiv, 1) := by decide +kernel
theorem dX3_layCode_36 : decode cX3_layCode 36 = .ok (.istore_n 2, 1) := by decide +kernel
theorem dX3_layCode_37 : decode cX3_layCode 37 = .ok (.iinc 3 (-1), 3) := by decide +kernel
theorem dX3_layCode_40 : decode cX3_layCode 40 = .ok (.goto (-31), 3) := by decide +kernel
theorem dX3_layCode_43 : decode cX3_layCode 43 = .ok (.return_, 1) := by decide +kernel
theorem dX3_codeNow_0 : decode cX3_codeNow 0 = .ok (.iconst 0, 1) := by decide +kernel
theorem dX3_codeNow_1 : decode cX3_codeNow 1 = .ok (.istore_n 1, 1) := by decide +kernel
theorem dX3_codeNow_2 : decode cX3_codeNow 2 = .ok (.iconst 0, 1) := by decide +kernel
theorem dX3_codeNow_3 : decode cX3_codeNow 3 = .ok (.istore_n 2, 1) := by decide +kernel
theorem dX3_codeNow_4 : decode cX3_codeNow 4 = .ok (.iload_n 2, 1) := by decide +kernel
theorem dX3_codeNow_5 : decode cX3_codeNow 5 = .ok (.aload_n 0, 1) := by decide +kernel
theorem dX3_codeNow_6 : decode cX3_codeNow 6 = .ok (.getfield 34, 3) := by decide +kernel
theorem dX3_codeNow_9 : decode cX3_codeNow 9 = .ok (.if_icmp .ge 31, 3) := by decide +kernel
theorem dX3_codeNow_12 : decode cX3_codeNow 12 = .ok (.iload_n 1, 1) := by decide +kernel
theorem dX3_codeNow_13 : decode cX3_codeNow 13 = .ok (.bipush 10, 2) := by decide +kernel
theorem dX3_codeNow_15 : decode cX3_codeNow 15 = .ok (.imul, 1) := by decide +kernel
theorem dX3_codeNow_16 : decode cX3_codeNow 16 = .ok (.aload_n 0, 1) := by decide +kernel
theorem dX3_codeNow_17 : decode cX3_codeNow 17 = .ok (.aload_n 0, 1) := by decide +kernel
theorem dX3_codeNow_18 : decode cX3_codeNow 18 = .ok (.getfield 9, 3) := by decide +kernel
theorem dX3_codeNow_21 : decode cX3_codeNow 21 = .ok (.aload_n 0, 1) := by decide +kernel
theorem dX3_codeNow_22 : decode cX3_codeNow 22 = .ok (.getfield 15, 3) := by decide +kernel
theorem dX3_codeNow_25 : decode cX3_codeNow 25 = .ok (.iload_n 2, 1) := by decide +kernel
theorem dX3_codeNow_26 : decode cX3_codeNow 26 = .ok (.iaload, 1) := by decide +kernel
theorem dX3_codeNow_27 : decode cX3_codeNow 27 = .ok (.invokevirtual 42, 3) := by decide +kernel
theorem dX3_codeNow_30 : decode cX3_codeNow 30 = .ok (.iadd, 1) := by decide +kernel
theorem dX3_codeNow_31 : decode cX3_codeNow 31 = .ok (.iconst 1, 1) := by decide +kernel
theorem dX3_codeNow_32 : decode cX3_codeNow 32 = .ok (.iadd, 1) := by decide +kernel
theorem dX3_codeNow_33 : decode cX3_codeNow 33 = .ok (.istore_n 1, 1) := by decide +kernel
theorem dX3_codeNow_34 : decode cX3_codeNow 34 = .ok (.iinc 2 1, 3) := by decide +kernel
theorem dX3_codeNow_37 : decode cX3_codeNow 37 = .ok (.goto (-33), 3) := by decide +kernel
theorem dX3_codeNow_40 : decode cX3_codeNow 40 = .ok (.iload_n 1, 1) := by decide +kernel
theorem dX3_codeNow_41 : decode cX3_codeNow 41 = .ok (.ireturn, 1) := by decide +kernel
theorem dX3_placeIn_0 : decode cX3_placeIn 0 = .ok (.iconst 0, 1) := by decide +kernel
theorem dX3_placeIn_1 : decode cX3_placeIn 1 = .ok (.istore_n 3, 1) := by decide +kernel
theorem dX3_placeIn_2 : decode cX3_placeIn 2 = .ok (.iload_n 3, 1) := by decide +kernel
theorem dX3_placeIn_3 : decode cX3_placeIn 3 = .ok (.aload_n 0, 1) := by decide +kernel
theorem dX3_placeIn_4 : decode cX3_placeIn 4 = .ok (.getfield 34, 3) := by decide +kernel
theorem dX3_placeIn_7 : decode cX3_placeIn 7 = .ok (.if_icmp .ge 18, 3) := by decide +kernel
theorem dX3_placeIn_10 : decode cX3_placeIn 10 = .ok (.aload_n 1, 1) := by decide +kernel
theorem dX3_placeIn_11 : decode cX3_placeIn 11 = .ok (.iload_n 3, 1) := by decide +kernel
theorem dX3_placeIn_12 : decode cX3_placeIn 12 = .ok (.iaload, 1) := by decide +kernel
theorem dX3_placeIn_13 : decode cX3_placeIn 13 = .ok (.iload_n 2, 1) := by decide +kernel
theorem dX3_placeIn_14 : decode cX3_placeIn 14 = .ok (.if_icmp .ne 5, 3) := by decide +kernel
theorem dX3_placeIn_17 : decode cX3_placeIn 17 = .ok (.iload_n 3, 1) := by decide +kernel
theorem dX3_placeIn_18 : decode cX3_placeIn 18 = .ok (.ireturn, 1) := by decide +kernel
theorem dX3_placeIn_19 : decode cX3_placeIn 19 = .ok (.iinc 3 1, 3) := by decide +kernel
theorem dX3_placeIn_22 : decode cX3_placeIn 22 = .ok (.goto (-20), 3) := by decide +kernel
theorem dX3_placeIn_25 : decode cX3_placeIn 25 = .ok (.iconst (-1), 1) := by decide +kernel
theorem dX3_placeIn_26 : decode cX3_placeIn 26 = .ok (.ireturn, 1) := by decide +kernel
theorem dX3_letterBehind_0 : decode cX3_letterBehind 0 = .ok (.aload_n 0, 1) := by decide +kernel
theorem dX3_letterBehind_1 : decode cX3_letterBehind 1 = .ok (.aload_n 1, 1) := by decide +kernel
theorem dX3_letterBehind_2 : decode cX3_letterBehind 2 = .ok (.iload_n 2, 1) := by decide +kernel
theorem dX3_letterBehind_3 : decode cX3_letterBehind 3 = .ok (.invokevirtual 42, 3) := by decide +kernel
theorem dX3_letterBehind_6 : decode cX3_letterBehind 6 = .ok (.istore_n 3, 1) := by decide +kernel
theorem dX3_letterBehind_7 : decode cX3_letterBehind 7 = .ok (.iload_n 3, 1) := by decide +kernel
theorem dX3_letterBehind_8 : decode cX3_letterBehind 8 = .ok (.ifCond .lt 21, 3) := by decide +kernel
theorem dX3_letterBehind_11 : decode cX3_letterBehind 11 = .ok (.iload_n 3, 1) := by decide +kernel
theorem dX3_letterBehind_12 : decode cX3_letterBehind 12 = .ok (.aload_n 0, 1) := by decide +kernel
theorem dX3_letterBehind_13 : decode cX3_letterBehind 13 = .ok (.getfield 34, 3) := by decide +kernel
theorem dX3_letterBehind_16 : decode cX3_letterBehind 16 = .ok (.iconst 1, 1) := by decide +kernel
theorem dX3_letterBehind_17 : decode cX3_letterBehind 17 = .ok (.isub, 1) := by decide +kernel
theorem dX3_letterBehind_18 : decode cX3_letterBehind 18 = .ok (.if_icmp .ge 11, 3) := by decide +kernel
theorem dX3_letterBehind_21 : decode cX3_letterBehind 21 = .ok (.aload_n 1, 1) := by decide +kernel
theorem dX3_letterBehind_22 : decode cX3_letterBehind 22 = .ok (.iload_n 3, 1) := by decide +kernel
theorem dX3_letterBehind_23 : decode cX3_letterBehind 23 = .ok (.iconst 1, 1) := by decide +kernel
theorem dX3_letterBehind_24 : decode cX3_letterBehind 24 = .ok (.iadd, 1) := by decide +kernel
theorem dX3_letterBehind_25 : decode cX3_letterBehind 25 = .ok (.iaload, 1) := by decide +kernel
theorem dX3_letterBehind_26 : decode cX3_letterBehind 26 = .ok (.goto 4, 3) := by decide +kernel
theorem dX3_letterBehind_29 : decode cX3_letterBehind 29 = .ok (.iconst (-1), 1) := by decide +kernel
theorem dX3_letterBehind_30 : decode cX3_letterBehind 30 = .ok (.ireturn, 1) := by decide +kernel
theorem dX3_swapInBottom_0 : decode cX3_swapInBottom 0 = .ok (.iconst 0, 1) := by decide +kernel
theorem dX3_swapInBottom_1 : decode cX3_swapInBottom 1 = .ok (.istore_n 3, 1) := by decide +kernel
theorem dX3_swapInBottom_2 : decode cX3_swapInBottom 2 = .ok (.iload_n 3, 1) := by decide +kernel
theorem dX3_swapInBottom_3 : decode cX3_swapInBottom 3 = .ok (.aload_n 0, 1) := by decide +kernel
theorem dX3_swapInBottom_4 : decode cX3_swapInBottom 4 = .ok (.getfield 34, 3) := by decide +kernel
theorem dX3_swapInBottom_7 : decode cX3_swapInBottom 7 = .ok (.if_icmp .ge 46, 3) := by decide +kernel
theorem dX3_swapInBottom_10 : decode cX3_swapInBottom 10 = .ok (.aload_n 0, 1) := by decide +kernel
theorem dX3_swapInBottom_11 : decode cX3_swapInBottom 11 = .ok (.getfield 15, 3) := by decide +kernel
theorem dX3_swapInBottom_14 : decode cX3_swapInBottom 14 = .ok (.iload_n 3, 1) := by decide +kernel
theorem dX3_swapInBottom_15 : decode cX3_swapInBottom 15 = .ok (.iaload, 1) := by decide +kernel
theorem dX3_swapInBottom_16 : decode cX3_swapInBottom 16 = .ok (.iload_n 1, 1) := by decide +kernel
theorem dX3_swapInBottom_17 : decode cX3_swapInBottom 17 = .ok (.if_icmp .ne 13, 3) := by decide +kernel
theorem dX3_swapInBottom_20 : decode cX3_swapInBottom 20 = .ok (.aload_n 0, 1) := by decide +kernel
theorem dX3_swapInBottom_21 : decode cX3_swapInBottom 21 = .ok (.getfield 15, 3) := by decide +kernel
theorem dX3_swapInBottom_24 : decode cX3_swapInBottom 24 = .ok (.iload_n 3, 1) := by decide +kernel
theorem dX3_swapInBottom_25 : decode cX3_swapInBottom 25 = .ok (.iload_n 2, 1) := by decide +kernel
theorem dX3_swapInBottom_26 : decode cX3_swapInBottom 26 = .ok (.iastore, 1) := by decide +kernel
theorem dX3_swapInBottom_27 : decode cX3_swapInBottom 27 = .ok (.goto 20, 3) := by decide +kernel
theorem dX3_swapInBottom_30 : decode cX3_swapInBottom 30 = .ok (.aload_n 0, 1) := by decide +kernel
theorem dX3_swapInBottom_31 : decode cX3_swapInBottom 31 = .ok (.getfield 15, 3) := by decide +kernel
theorem dX3_swapInBottom_34 : decode cX3_swapInBottom 34 = .ok (.iload_n 3, 1) := by decide +kernel
theorem dX3_swapInBottom_35 : decode cX3_swapInBottom 35 = .ok (.iaload, 1) := by decide +kernel
theorem dX3_swapInBottom_36 : decode cX3_swapInBottom 36 = .ok (.iload_n 2, 1) := by decide +kernel
theorem dX3_swapInBottom_37 : decode cX3_swapInBottom 37 = .ok (.if_icmp .ne 10, 3) := by decide +kernel
theorem dX3_swapInBottom_40 : decode cX3_swapInBottom 40 = .ok (.aload_n 0, 1) := by decide +kernel
theorem dX3_swapInBottom_41 : decode cX3_swapInBottom 41 = .ok (.getfield 15, 3) := by decide +kernel
theorem dX3_swapInBottom_44 : decode cX3_swapInBottom 44 = .ok (.iload_n 3, 1) := by decide +kernel
theorem dX3_swapInBottom_45 : decode cX3_swapInBottom 45 = .ok (.iload_n 1, 1) := by decide +kernel
theorem dX3_swapInBottom_46 : decode cX3_swapInBottom 46 = .ok (.iastore, 1) := by decide +kernel
theorem dX3_swapInBottom_47 : decode cX3_swapInBottom 47 = .ok (.iinc 3 1, 3) := by decide +kernel
theorem dX3_swapInBottom_50 : decode cX3_swapInBottom 50 = .ok (.goto (-48), 3) := by decide +kernel
theorem dX3_swapInBottom_53 : decode cX3_swapInBottom 53 = .ok (.return_, 1) := by decide +kernel
theorem dX3_isWhole_0 : decode cX3_isWhole 0 = .ok (.iconst 0, 1) := by decide +kernel
theorem dX3_isWhole_1 : decode cX3_isWhole 1 = .ok (.istore_n 1, 1) := by decide +kernel
theorem dX3_isWhole_2 : decode cX3_isWhole 2 = .ok (.iconst 0, 1) := by decide +kernel
theorem dX3_isWhole_3 : decode cX3_isWhole 3 = .ok (.istore_n 2, 1) := by decide +kernel
theorem dX3_isWhole_4 : decode cX3_isWhole 4 = .ok (.iconst 0, 1) := by decide +kernel
theorem dX3_isWhole_5 : decode cX3_isWhole 5 = .ok (.istore_n 3, 1) := by decide +kernel
theorem dX3_isWhole_6 : decode cX3_isWhole 6 = .ok (.iload_n 3, 1) := by decide +kernel
theorem dX3_isWhole_7 : decode cX3_isWhole 7 = .ok (.aload_n 0, 1) := by decide +kernel
theorem dX3_isWhole_8 : decode cX3_isWhole 8 = .ok (.getfield 34, 3) := by decide +kernel
theorem dX3_isWhole_11 : decode cX3_isWhole 11 = .ok (.iconst 1, 1) := by decide +kernel
theorem dX3_isWhole_12 : decode cX3_isWhole 12 = .ok (.isub, 1) := by decide +kernel
theorem dX3_isWhole_13 : decode cX3_isWhole 13 = .ok (.if_icmp .ge 38, 3) := by decide +kernel
theorem dX3_isWhole_16 : decode cX3_isWhole 16 = .ok (.iload_n 1, 1) := by decide +kernel
theorem dX3_isWhole_17 : decode cX3_isWhole 17 = .ok (.iconst 1, 1) := by decide +kernel
theorem dX3_isWhole_18 : decode cX3_isWhole 18 = .ok (.aload_n 0, 1) := by decide +kernel
theorem dX3_isWhole_19 : decode cX3_isWhole 19 = .ok (.getfield 9, 3) := by decide +kernel
theorem dX3_isWhole_22 : decode cX3_isWhole 22 = .ok (.iload_n 3, 1) := by decide +kernel
theorem dX3_isWhole_23 : decode cX3_isWhole 23 = .ok (.iaload, 1) := by decide +kernel
theorem dX3_isWhole_24 : decode cX3_isWhole 24 = .ok (.ishl, 1) := by decide +kernel
theorem dX3_isWhole_25 : decode cX3_isWhole 25 = .ok (.ior, 1) := by decide +kernel
theorem dX3_isWhole_26 : decode cX3_isWhole 26 = .ok (.istore_n 1, 1) := by decide +kernel
theorem dX3_isWhole_27 : decode cX3_isWhole 27 = .ok (.iload_n 2, 1) := by decide +kernel
theorem dX3_isWhole_28 : decode cX3_isWhole 28 = .ok (.iconst 1, 1) := by decide +kernel
theorem dX3_isWhole_29 : decode cX3_isWhole 29 = .ok (.aload_n 0, 1) := by decide +kernel
theorem dX3_isWhole_30 : decode cX3_isWhole 30 = .ok (.getfield 15, 3) := by decide +kernel
theorem dX3_isWhole_33 : decode cX3_isWhole 33 = .ok (.iload_n 3, 1) := by decide +kernel
theorem dX3_isWhole_34 : decode cX3_isWhole 34 = .ok (.iaload, 1) := by decide +kernel
theorem dX3_isWhole_35 : decode cX3_isWhole 35 = .ok (.ishl, 1) := by decide +kernel
theorem dX3_isWhole_36 : decode cX3_isWhole 36 = .ok (.ior, 1) := by decide +kernel
theorem dX3_isWhole_37 : decode cX3_isWhole 37 = .ok (.istore_n 2, 1) := by decide +kernel
theorem dX3_isWhole_38 : decode cX3_isWhole 38 = .ok (.iload_n 1, 1) := by decide +kernel
theorem dX3_isWhole_39 : decode cX3_isWhole 39 = .ok (.iload_n 2, 1) := by decide +kernel
theorem dX3_isWhole_40 : decode cX3_isWhole 40 = .ok (.if_icmp .ne 5, 3) := by decide +kernel
theorem dX3_isWhole_43 : decode cX3_isWhole 43 = .ok (.iconst 0, 1) := by decide +kernel
theorem dX3_isWhole_44 : decode cX3_isWhole 44 = .ok (.ireturn, 1) := by decide +kernel
theorem dX3_isWhole_45 : decode cX3_isWhole 45 = .ok (.iinc 3 1, 3) := by decide +kernel
theorem dX3_isWhole_48 : decode cX3_isWhole 48 = .ok (.goto (-42), 3) := by decide +kernel
theorem dX3_isWhole_51 : decode cX3_isWhole 51 = .ok (.iconst 1, 1) := by decide +kernel
theorem dX3_isWhole_52 : decode cX3_isWhole 52 = .ok (.ireturn, 1) := by decide +kernel
theorem dX3_stayingRow_0 : decode cX3_stayingRow 0 = .ok (.iload_n 1, 1) := by decide +kernel
theorem dX3_stayingRow_1 : decode cX3_stayingRow 1 = .ok (.ifCond .ne 10, 3) := by decide +kernel
theorem dX3_stayingRow_4 : decode cX3_stayingRow 4 = .ok (.aload_n 0, 1) := by decide +kernel
theorem dX3_stayingRow_5 : decode cX3_stayingRow 5 = .ok (.getfield 9, 3) := by decide +kernel
theorem dX3_stayingRow_8 : decode cX3_stayingRow 8 = .ok (.goto 7, 3) := by decide +kernel
theorem dX3_stayingRow_11 : decode cX3_stayingRow 11 = .ok (.aload_n 0, 1) := by decide +kernel
theorem dX3_stayingRow_12 : decode cX3_stayingRow 12 = .ok (.getfield 15, 3) := by decide +kernel
theorem dX3_stayingRow_15 : decode cX3_stayingRow 15 = .ok (.areturn, 1) := by decide +kernel
theorem dX3_movingRow_0 : decode cX3_movingRow 0 = .ok (.iload_n 1, 1) := by decide +kernel
theorem dX3_movingRow_1 : decode cX3_movingRow 1 = .ok (.ifCond .ne 10, 3) := by decide +kernel
theorem dX3_movingRow_4 : decode cX3_movingRow 4 = .ok (.aload_n 0, 1) := by decide +kernel
theorem dX3_movingRow_5 : decode cX3_movingRow 5 = .ok (.getfield 15, 3) := by decide +kernel
theorem dX3_movingRow_8 : decode cX3_movingRow 8 = .ok (.goto 7, 3) := by decide +kernel
theorem dX3_movingRow_11 : decode cX3_movingRow 11 = .ok (.aload_n 0, 1) := by decide +kernel
theorem dX3_movingRow_12 : decode cX3_movingRow 12 = .ok (.getfield 9, 3) := by decide +kernel
theorem dX3_movingRow_15 : decode cX3_movingRow 15 = .ok (.areturn, 1) := by decide +kernel
theorem dX3_endsAlike_0 : decode cX3_endsAlike 0 = .ok (.aload_n 0, 1) := by decide +kernel
theorem dX3_endsAlike_1 : decode cX3_endsAlike 1 = .ok (.getfield 9, 3) := by decide +kernel
theorem dX3_endsAlike_4 : decode cX3_endsAlike 4 = .ok (.aload_n 0, 1) := by decide +kernel
theorem dX3_endsAlike_5 : decode cX3_endsAlike 5 = .ok (.getfield 34, 3) := by decide +kernel
theorem dX3_endsAlike_8 : decode cX3_endsAlike 8 = .ok (.iconst 1, 1) := by decide +kernel
theorem dX3_endsAlike_9 : decode cX3_endsAlike 9 = .ok (.isub, 1) := by decide +kernel
theorem dX3_endsAlike_10 : decode cX3_endsAlike 10 = .ok (.iaload, 1) := by decide +kernel
theorem dX3_endsAlike_11 : decode cX3_endsAlike 11 = .ok (.aload_n 0, 1) := by decide +kernel
theorem dX3_endsAlike_12 : decode cX3_endsAlike 12 = .ok (.getfield 15, 3) := by decide +kernel
theorem dX3_endsAlike_15 : decode cX3_endsAlike 15 = .ok (.aload_n 0, 1) := by decide +kernel
theorem dX3_endsAlike_16 : decode cX3_endsAlike 16 = .ok (.getfield 34, 3) := by decide +kernel
theorem dX3_endsAlike_19 : decode cX3_endsAlike 19 = .ok (.iconst 1, 1) := by decide +kernel
theorem dX3_endsAlike_20 : decode cX3_endsAlike 20 = .ok (.isub, 1) := by decide +kernel
theorem dX3_endsAlike_21 : decode cX3_endsAlike 21 = .ok (.iaload, 1) := by decide +kernel
theorem dX3_endsAlike_22 : decode cX3_endsAlike 22 = .ok (.if_icmp .ne 7, 3) := by decide +kernel
theorem dX3_endsAlike_25 : decode cX3_endsAlike 25 = .ok (.iconst 1, 1) := by decide +kernel
theorem dX3_endsAlike_26 : decode cX3_endsAlike 26 = .ok (.goto 4, 3) := by decide +kernel
theorem dX3_endsAlike_29 : decode cX3_endsAlike 29 = .ok (.iconst 0, 1) := by decide +kernel
theorem dX3_endsAlike_30 : decode cX3_endsAlike 30 = .ok (.ireturn, 1) := by decide +kernel
theorem dX3_kindOfStep_0 : decode cX3_kindOfStep 0 = .ok (.aload_n 0, 1) := by decide +kernel
theorem dX3_kindOfStep_1 : decode cX3_kindOfStep 1 = .ok (.getfield 18, 3) := by decide +kernel
theorem dX3_kindOfStep_4 : decode cX3_kindOfStep 4 = .ok (.aload_n 0, 1) := by decide +kernel
theorem dX3_kindOfStep_5 : decode cX3_kindOfStep 5 = .ok (.getfield 9, 3) := by decide +kernel
theorem dX3_kindOfStep_8 : decode cX3_kindOfStep 8 = .ok (.aload_n 0, 1) := by decide +kernel
theorem dX3_kindOfStep_9 : decode cX3_kindOfStep 9 = .ok (.getfield 34, 3) := by decide +kernel
theorem dX3_kindOfStep_12 : decode cX3_kindOfStep 12 = .ok (.iconst 1, 1) := by decide +kernel
theorem dX3_kindOfStep_13 : decode cX3_kindOfStep 13 = .ok (.isub, 1) := by decide +kernel
theorem dX3_kindOfStep_14 : decode cX3_kindOfStep 14 = .ok (.iaload, 1) := by decide +kernel
theorem dX3_kindOfStep_15 : decode cX3_kindOfStep 15 = .ok (.iaload, 1) := by decide +kernel
theorem dX3_kindOfStep_16 : decode cX3_kindOfStep 16 = .ok (.istore_n 1, 1) := by decide +kernel
theorem dX3_kindOfStep_17 : decode cX3_kindOfStep 17 = .ok (.aload_n 0, 1) := by decide +kernel
theorem dX3_kindOfStep_18 : decode cX3_kindOfStep 18 = .ok (.getfield 18, 3) := by decide +kernel
theorem dX3_kindOfStep_21 : decode cX3_kindOfStep 21 = .ok (.aload_n 0, 1) := by decide +kernel
theorem dX3_kindOfStep_22 : decode cX3_kindOfStep 22 = .ok (.getfield 15, 3) := by decide +kernel
theorem dX3_kindOfStep_25 : decode cX3_kindOfStep 25 = .ok (.aload_n 0, 1) := by decide +kernel
theorem dX3_kindOfStep_26 : decode cX3_kindOfStep 26 = .ok (.getfield 34, 3) := by decide +kernel
theorem dX3_kindOfStep_29 : decode cX3_kindOfStep 29 = .ok (.iconst 1, 1) := by decide +kernel
theorem dX3_kindOfStep_30 : decode cX3_kindOfStep 30 = .ok (.isub, 1) := by decide +kernel
theorem dX3_kindOfStep_31 : decode cX3_kindOfStep 31 = .ok (.iaload, 1) := by decide +kernel
theorem dX3_kindOfStep_32 : decode cX3_kindOfStep 32 = .ok (.iaload, 1) := by decide +kernel
theorem dX3_kindOfStep_33 : decode cX3_kindOfStep 33 = .ok (.istore_n 2, 1) := by decide +kernel
theorem dX3_kindOfStep_34 : decode cX3_kindOfStep 34 = .ok (.aload_n 0, 1) := by decide +kernel
theorem dX3_kindOfStep_35 : decode cX3_kindOfStep 35 = .ok (.invokevirtual 46, 3) := by decide +kernel
theorem dX3_kindOfStep_38 : decode cX3_kindOfStep 38 = .ok (.ifCond .ne 8, 3) := by decide +kernel
theorem dX3_kindOfStep_41 : decode cX3_kindOfStep 41 = .ok (.iload_n 1, 1) := by decide +kernel
theorem dX3_kindOfStep_42 : decode cX3_kindOfStep 42 = .ok (.iload_n 2, 1) := by decide +kernel
theorem dX3_kindOfStep_43 : decode cX3_kindOfStep 43 = .ok (.if_icmp .ne 5, 3) := by decide +kernel
theorem dX3_kindOfStep_46 : decode cX3_kindOfStep 46 = .ok (.iconst (-1), 1) := by decide +kernel
theorem dX3_kindOfStep_47 : decode cX3_kindOfStep 47 = .ok (.ireturn, 1) := by decide +kernel
theorem dX3_kindOfStep_48 : decode cX3_kindOfStep 48 = .ok (.iload_n 1, 1) := by decide +kernel
theorem dX3_kindOfStep_49 : decode cX3_kindOfStep 49 = .ok (.iload_n 2, 1) := by decide +kernel
theorem dX3_kindOfStep_50 : decode cX3_kindOfStep 50 = .ok (.if_icmp .le 7, 3) := by decide +kernel
theorem dX3_kindOfStep_53 : decode cX3_kindOfStep 53 = .ok (.iconst 0, 1) := by decide +kernel
theorem dX3_kindOfStep_54 : decode cX3_kindOfStep 54 = .ok (.goto 4, 3) := by decide +kernel
theorem dX3_kindOfStep_57 : decode cX3_kindOfStep 57 = .ok (.iconst 1, 1) := by decide +kernel
theorem dX3_kindOfStep_58 : decode cX3_kindOfStep 58 = .ok (.ireturn, 1) := by decide +kernel
theorem dX3_goStep_0 : decode cX3_goStep 0 = .ok (.aload_n 0, 1) := by decide +kernel
theorem dX3_goStep_1 : decode cX3_goStep 1 = .ok (.iload_n 1, 1) := by decide +kernel
theorem dX3_goStep_2 : decode cX3_goStep 2 = .ok (.invokevirtual 50, 3) := by decide +kernel
theorem dX3_goStep_5 : decode cX3_goStep 5 = .ok (.aload_n 0, 1) := by decide +kernel
theorem dX3_goStep_6 : decode cX3_goStep 6 = .ok (.getfield 34, 3) := by decide +kernel
theorem dX3_goStep_9 : decode cX3_goStep 9 = .ok (.iconst 1, 1) := by decide +kernel
theorem dX3_goStep_10 : decode cX3_goStep 10 = .ok (.isub, 1) := by decide +kernel
theorem dX3_goStep_11 : decode cX3_goStep 11 = .ok (.iaload, 1) := by decide +kernel
theorem dX3_goStep_12 : decode cX3_goStep 12 = .ok (.istore_n 2, 1) := by decide +kernel
theorem dX3_goStep_13 : decode cX3_goStep 13 = .ok (.aload_n 0, 1) := by decide +kernel
theorem dX3_goStep_14 : decode cX3_goStep 14 = .ok (.iload_n 1, 1) := by decide +kernel
theorem dX3_goStep_15 : decode cX3_goStep 15 = .ok (.invokevirtual 54, 3) := by decide +kernel
theorem dX3_goStep_18 : decode cX3_goStep 18 = .ok (.aload_n 0, 1) := by decide +kernel
theorem dX3_goStep_19 : decode cX3_goStep 19 = .ok (.getfield 34, 3) := by decide +kernel
theorem dX3_goStep_22 : decode cX3_goStep 22 = .ok (.iconst 1, 1) := by decide +kernel
theorem dX3_goStep_23 : decode cX3_goStep 23 = .ok (.isub, 1) := by decide +kernel
theorem dX3_goStep_24 : decode cX3_goStep 24 = .ok (.iaload, 1) := by decide +kernel
theorem dX3_goStep_25 : decode cX3_goStep 25 = .ok (.istore_n 3, 1) := by decide +kernel
theorem dX3_goStep_26 : decode cX3_goStep 26 = .ok (.aload_n 0, 1) := by decide +kernel
theorem dX3_goStep_27 : decode cX3_goStep 27 = .ok (.getfield 18, 3) := by decide +kernel
theorem dX3_goStep_30 : decode cX3_goStep 30 = .ok (.iload_n 2, 1) := by decide +kernel
theorem dX3_goStep_31 : decode cX3_goStep 31 = .ok (.dup2, 1) := by decide +kernel
theorem dX3_goStep_32 : decode cX3_goStep 32 = .ok (.iaload, 1) := by decide +kernel
theorem dX3_goStep_33 : decode cX3_goStep 33 = .ok (.aload_n 0, 1) := by decide +kernel
theorem dX3_goStep_34 : decode cX3_goStep 34 = .ok (.getfield 18, 3) := by decide +kernel
theorem dX3_goStep_37 : decode cX3_goStep 37 = .ok (.iload_n 3, 1) := by decide +kernel
theorem dX3_goStep_38 : decode cX3_goStep 38 = .ok (.iaload, 1) := by decide +kernel
theorem dX3_goStep_39 : decode cX3_goStep 39 = .ok (.isub, 1) := by decide +kernel
theorem dX3_goStep_40 : decode cX3_goStep 40 = .ok (.iastore, 1) := by decide +kernel
theorem dX3_goStep_41 : decode cX3_goStep 41 = .ok (.aload_n 0, 1) := by decide +kernel
theorem dX3_goStep_42 : decode cX3_goStep 42 = .ok (.iload_n 1, 1) := by decide +kernel
theorem dX3_goStep_43 : decode cX3_goStep 43 = .ok (.invokevirtual 57, 3) := by decide +kernel
theorem dX3_goStep_46 : decode cX3_goStep 46 = .ok (.return_, 1) := by decide +kernel
theorem dX3_moveForStep_0 : decode cX3_moveForStep 0 = .ok (.aload_n 0, 1) := by decide +kernel
theorem dX3_moveForStep_1 : decode cX3_moveForStep 1 = .ok (.iload_n 1, 1) := by decide +kernel
theorem dX3_moveForStep_2 : decode cX3_moveForStep 2 = .ok (.invokevirtual 50, 3) := by decide +kernel
theorem dX3_moveForStep_5 : decode cX3_moveForStep 5 = .ok (.aload_n 0, 1) := by decide +kernel
theorem dX3_moveForStep_6 : decode cX3_moveForStep 6 = .ok (.getfield 34, 3) := by decide +kernel
theorem dX3_moveForStep_9 : decode cX3_moveForStep 9 = .ok (.iconst 1, 1) := by decide +kernel
theorem dX3_moveForStep_10 : decode cX3_moveForStep 10 = .ok (.isub, 1) := by decide +kernel
theorem dX3_moveForStep_11 : decode cX3_moveForStep 11 = .ok (.iaload, 1) := by decide +kernel
theorem dX3_moveForStep_12 : decode cX3_moveForStep 12 = .ok (.istore_n 2, 1) := by decide +kernel
theorem dX3_moveForStep_13 : decode cX3_moveForStep 13 = .ok (.aload_n 0, 1) := by decide +kernel
theorem dX3_moveForStep_14 : decode cX3_moveForStep 14 = .ok (.iload_n 1, 1) := by decide +kernel
theorem dX3_moveForStep_15 : decode cX3_moveForStep 15 = .ok (.invokevirtual 54, 3) := by decide +kernel
theorem dX3_moveForStep_18 : decode cX3_moveForStep 18 = .ok (.astore_n 3, 1) := by decide +kernel
theorem dX3_moveForStep_19 : decode cX3_moveForStep 19 = .ok (.aload_n 3, 1) := by decide +kernel
theorem dX3_moveForStep_20 : decode cX3_moveForStep 20 = .ok (.aload_n 0, 1) := by decide +kernel
theorem dX3_moveForStep_21 : decode cX3_moveForStep 21 = .ok (.getfield 34, 3) := by decide +kernel
theorem dX3_moveForStep_24 : decode cX3_moveForStep 24 = .ok (.iconst 1, 1) := by decide +kernel
theorem dX3_moveForStep_25 : decode cX3_moveForStep 25 = .ok (.isub, 1) := by decide +kernel
theorem dX3_moveForStep_26 : decode cX3_moveForStep 26 = .ok (.iaload, 1) := by decide +kernel
theorem dX3_moveForStep_27 : decode cX3_moveForStep 27 = .ok (.istore 4, 2) := by decide +kernel
theorem dX3_moveForStep_29 : decode cX3_moveForStep 29 = .ok (.aload_n 0, 1) := by decide +kernel
theorem dX3_moveForStep_30 : decode cX3_moveForStep 30 = .ok (.getfield 34, 3) := by decide +kernel
theorem dX3_moveForStep_33 : decode cX3_moveForStep 33 = .ok (.iconst 1, 1) := by decide +kernel
theorem dX3_moveForStep_34 : decode cX3_moveForStep 34 = .ok (.isub, 1) := by decide +kernel
theorem dX3_moveForStep_35 : decode cX3_moveForStep 35 = .ok (.istore 5, 2) := by decide +kernel
theorem dX3_moveForStep_37 : decode cX3_moveForStep 37 = .ok (.iload 5, 2) := by decide +kernel
theorem dX3_moveForStep_39 : decode cX3_moveForStep 39 = .ok (.ifCond .le 29, 3) := by decide +kernel
theorem dX3_moveForStep_42 : decode cX3_moveForStep 42 = .ok (.aload_n 3, 1) := by decide +kernel
theorem dX3_moveForStep_43 : decode cX3_moveForStep 43 = .ok (.iload 5, 2) := by decide +kernel
theorem dX3_moveForStep_45 : decode cX3_moveForStep 45 = .ok (.iconst 1, 1) := by decide +kernel
theorem dX3_moveForStep_46 : decode cX3_moveForStep 46 = .ok (.isub, 1) := by decide +kernel
theorem dX3_moveForStep_47 : decode cX3_moveForStep 47 = .ok (.iaload, 1) := by decide +kernel
theorem dX3_moveForStep_48 : decode cX3_moveForStep 48 = .ok (.iload_n 2, 1) := by decide +kernel
theorem dX3_moveForStep_49 : decode cX3_moveForStep 49 = .ok (.if_icmp .eq 19, 3) := by decide +kernel
theorem dX3_moveForStep_52 : decode cX3_moveForStep 52 = .ok (.aload_n 3, 1) := by decide +kernel
theorem dX3_moveForStep_53 : decode cX3_moveForStep 53 = .ok (.iload 5, 2) := by decide +kernel
theorem dX3_moveForStep_55 : decode cX3_moveForStep 55 = .ok (.aload_n 3, 1) := by decide +kernel
theorem dX3_moveForStep_56 : decode cX3_moveForStep 56 = .ok (.iload 5, 2) := by decide +kernel
theorem dX3_moveForStep_58 : decode cX3_moveForStep 58 = .ok (.iconst 1, 1) := by decide +kernel
theorem dX3_moveForStep_59 : decode cX3_moveForStep 59 = .ok (.isub, 1) := by decide +kernel
theorem dX3_moveForStep_60 : decode cX3_moveForStep 60 = .ok (.iaload, 1) := by decide +kernel
theorem dX3_moveForStep_61 : decode cX3_moveForStep 61 = .ok (.iastore, 1) := by decide +kernel
theorem dX3_moveForStep_62 : decode cX3_moveForStep 62 = .ok (.iinc 5 (-1), 3) := by decide +kernel
theorem dX3_moveForStep_65 : decode cX3_moveForStep 65 = .ok (.goto (-28), 3) := by decide +kernel
theorem dX3_moveForStep_68 : decode cX3_moveForStep 68 = .ok (.aload_n 3, 1) := by decide +kernel
theorem dX3_moveForStep_69 : decode cX3_moveForStep 69 = .ok (.iload 5, 2) := by decide +kernel
theorem dX3_moveForStep_71 : decode cX3_moveForStep 71 = .ok (.iload 4, 2) := by decide +kernel
theorem dX3_moveForStep_73 : decode cX3_moveForStep 73 = .ok (.iastore, 1) := by decide +kernel
theorem dX3_moveForStep_74 : decode cX3_moveForStep 74 = .ok (.return_, 1) := by decide +kernel
theorem dX3_refusalOfStepBack_0 : decode cX3_refusalOfStepBack 0 = .ok (.aload_n 0, 1) := by decide +kernel
theorem dX3_refusalOfStepBack_1 : decode cX3_refusalOfStepBack 1 = .ok (.iload_n 1, 1) := by decide +kernel
theorem dX3_refusalOfStepBack_2 : decode cX3_refusalOfStepBack 2 = .ok (.invokevirtual 50, 3) := by decide +kernel
theorem dX3_refusalOfStepBack_5 : decode cX3_refusalOfStepBack 5 = .ok (.aload_n 0, 1) := by decide +kernel
theorem dX3_refusalOfStepBack_6 : decode cX3_refusalOfStepBack 6 = .ok (.getfield 34, 3) := by decide +kernel
theorem dX3_refusalOfStepBack_9 : decode cX3_refusalOfStepBack 9 = .ok (.iconst 1, 1) := by decide +kernel
theorem dX3_refusalOfStepBack_10 : decode cX3_refusalOfStepBack 10 = .ok (.isub, 1) := by decide +kernel
theorem dX3_refusalOfStepBack_11 : decode cX3_refusalOfStepBack 11 = .ok (.iaload, 1) := by decide +kernel
theorem dX3_refusalOfStepBack_12 : decode cX3_refusalOfStepBack 12 = .ok (.istore_n 2, 1) := by decide +kernel
theorem dX3_refusalOfStepBack_13 : decode cX3_refusalOfStepBack 13 = .ok (.aload_n 0, 1) := by decide +kernel
theorem dX3_refusalOfStepBack_14 : decode cX3_refusalOfStepBack 14 = .ok (.aload_n 0, 1) := by decide +kernel
theorem dX3_refusalOfStepBack_15 : decode cX3_refusalOfStepBack 15 = .ok (.iload_n 1, 1) := by decide +kernel
theorem dX3_refusalOfStepBack_16 : decode cX3_refusalOfStepBack 16 = .ok (.invokevirtual 54, 3) := by decide +kernel
theorem dX3_refusalOfStepBack_19 : decode cX3_refusalOfStepBack 19 = .ok (.iload_n 2, 1) := by decide +kernel
theorem dX3_refusalOfStepBack_20 : decode cX3_refusalOfStepBack 20 = .ok (.invokevirtual 60, 3) := by decide +kernel
theorem dX3_refusalOfStepBack_23 : decode cX3_refusalOfStepBack 23 = .ok (.istore_n 3, 1) := by decide +kernel
theorem dX3_refusalOfStepBack_24 : decode cX3_refusalOfStepBack 24 = .ok (.iload_n 3, 1) := by decide +kernel
theorem dX3_refusalOfStepBack_25 : decode cX3_refusalOfStepBack 25 = .ok (.iconst (-1), 1) := by decide +kernel
theorem dX3_refusalOfStepBack_26 : decode cX3_refusalOfStepBack 26 = .ok (.if_icmp .ne 6, 3) := by decide +kernel
theorem dX3_refusalOfStepBack_29 : decode cX3_refusalOfStepBack 29 = .ok (.bipush (-3), 2) := by decide +kernel
theorem dX3_refusalOfStepBack_31 : decode cX3_refusalOfStepBack 31 = .ok (.ireturn, 1) := by decide +kernel
theorem dX3_refusalOfStepBack_32 : decode cX3_refusalOfStepBack 32 = .ok (.aload_n 0, 1) := by decide +kernel
theorem dX3_refusalOfStepBack_33 : decode cX3_refusalOfStepBack 33 = .ok (.getfield 18, 3) := by decide +kernel
theorem dX3_refusalOfStepBack_36 : decode cX3_refusalOfStepBack 36 = .ok (.iload_n 2, 1) := by decide +kernel
theorem dX3_refusalOfStepBack_37 : decode cX3_refusalOfStepBack 37 = .ok (.iaload, 1) := by decide +kernel
theorem dX3_refusalOfStepBack_38 : decode cX3_refusalOfStepBack 38 = .ok (.aload_n 0, 1) := by decide +kernel
theorem dX3_refusalOfStepBack_39 : decode cX3_refusalOfStepBack 39 = .ok (.getfield 18, 3) := by decide +kernel
theorem dX3_refusalOfStepBack_42 : decode cX3_refusalOfStepBack 42 = .ok (.iload_n 3, 1) := by decide +kernel
theorem dX3_refusalOfStepBack_43 : decode cX3_refusalOfStepBack 43 = .ok (.iaload, 1) := by decide +kernel
theorem dX3_refusalOfStepBack_44 : decode cX3_refusalOfStepBack 44 = .ok (.iadd, 1) := by decide +kernel
theorem dX3_refusalOfStepBack_45 : decode cX3_refusalOfStepBack 45 = .ok (.bipush 99, 2) := by decide +kernel
theorem dX3_refusalOfStepBack_47 : decode cX3_refusalOfStepBack 47 = .ok (.if_icmp .le 8, 3) := by decide +kernel
theorem dX3_refusalOfStepBack_50 : decode cX3_refusalOfStepBack 50 = .ok (.bipush (-2), 2) := by decide +kernel
theorem dX3_refusalOfStepBack_52 : decode cX3_refusalOfStepBack 52 = .ok (.goto 4, 3) := by decide +kernel
theorem dX3_refusalOfStepBack_55 : decode cX3_refusalOfStepBack 55 = .ok (.iconst 0, 1) := by decide +kernel
theorem dX3_refusalOfStepBack_56 : decode cX3_refusalOfStepBack 56 = .ok (.ireturn, 1) := by decide +kernel
theorem dX3_goStepBack_0 : decode cX3_goStepBack 0 = .ok (.aload_n 0, 1) := by decide +kernel
theorem dX3_goStepBack_1 : decode cX3_goStepBack 1 = .ok (.iload_n 1, 1) := by decide +kernel
theorem dX3_goStepBack_2 : decode cX3_goStepBack 2 = .ok (.invokevirtual 50, 3) := by decide +kernel
theorem dX3_goStepBack_5 : decode cX3_goStepBack 5 = .ok (.aload_n 0, 1) := by decide +kernel
theorem dX3_goStepBack_6 : decode cX3_goStepBack 6 = .ok (.getfield 34, 3) := by decide +kernel
theorem dX3_goStepBack_9 : decode cX3_goStepBack 9 = .ok (.iconst 1, 1) := by decide +kernel
theorem dX3_goStepBack_10 : decode cX3_goStepBack 10 = .ok (.isub, 1) := by decide +kernel
theorem dX3_goStepBack_11 : decode cX3_goStepBack 11 = .ok (.iaload, 1) := by decide +kernel
theorem dX3_goStepBack_12 : decode cX3_goStepBack 12 = .ok (.istore_n 2, 1) := by decide +kernel
theorem dX3_goStepBack_13 : decode cX3_goStepBack 13 = .ok (.aload_n 0, 1) := by decide +kernel
theorem dX3_goStepBack_14 : decode cX3_goStepBack 14 = .ok (.iload_n 1, 1) := by decide +kernel
theorem dX3_goStepBack_15 : decode cX3_goStepBack 15 = .ok (.invokevirtual 54, 3) := by decide +kernel
theorem dX3_goStepBack_18 : decode cX3_goStepBack 18 = .ok (.astore_n 3, 1) := by decide +kernel
theorem dX3_goStepBack_19 : decode cX3_goStepBack 19 = .ok (.aload_n 0, 1) := by decide +kernel
theorem dX3_goStepBack_20 : decode cX3_goStepBack 20 = .ok (.aload_n 3, 1) := by decide +kernel
theorem dX3_goStepBack_21 : decode cX3_goStepBack 21 = .ok (.iload_n 2, 1) := by decide +kernel
theorem dX3_goStepBack_22 : decode cX3_goStepBack 22 = .ok (.invokevirtual 60, 3) := by decide +kernel
theorem dX3_goStepBack_25 : decode cX3_goStepBack 25 = .ok (.istore 4, 2) := by decide +kernel
theorem dX3_goStepBack_27 : decode cX3_goStepBack 27 = .ok (.iload 4, 2) := by decide +kernel
theorem dX3_goStepBack_29 : decode cX3_goStepBack 29 = .ok (.iconst (-1), 1) := by decide +kernel
theorem dX3_goStepBack_30 : decode cX3_goStepBack 30 = .ok (.if_icmp .ne 4, 3) := by decide +kernel
theorem dX3_goStepBack_33 : decode cX3_goStepBack 33 = .ok (.return_, 1) := by decide +kernel
theorem dX3_goStepBack_34 : decode cX3_goStepBack 34 = .ok (.aload_n 0, 1) := by decide +kernel
theorem dX3_goStepBack_35 : decode cX3_goStepBack 35 = .ok (.aload_n 3, 1) := by decide +kernel
theorem dX3_goStepBack_36 : decode cX3_goStepBack 36 = .ok (.iload_n 2, 1) := by decide +kernel
theorem dX3_goStepBack_37 : decode cX3_goStepBack 37 = .ok (.invokevirtual 42, 3) := by decide +kernel
theorem dX3_goStepBack_40 : decode cX3_goStepBack 40 = .ok (.iconst 1, 1) := by decide +kernel
theorem dX3_goStepBack_41 : decode cX3_goStepBack 41 = .ok (.iadd, 1) := by decide +kernel
theorem dX3_goStepBack_42 : decode cX3_goStepBack 42 = .ok (.istore 5, 2) := by decide +kernel
theorem dX3_goStepBack_44 : decode cX3_goStepBack 44 = .ok (.iload 5, 2) := by decide +kernel
theorem dX3_goStepBack_46 : decode cX3_goStepBack 46 = .ok (.aload_n 0, 1) := by decide +kernel
theorem dX3_goStepBack_47 : decode cX3_goStepBack 47 = .ok (.getfield 34, 3) := by decide +kernel
theorem dX3_goStepBack_50 : decode cX3_goStepBack 50 = .ok (.iconst 1, 1) := by decide +kernel
theorem dX3_goStepBack_51 : decode cX3_goStepBack 51 = .ok (.isub, 1) := by decide +kernel
theorem dX3_goStepBack_52 : decode cX3_goStepBack 52 = .ok (.if_icmp .ge 19, 3) := by decide +kernel
theorem dX3_goStepBack_55 : decode cX3_goStepBack 55 = .ok (.aload_n 3, 1) := by decide +kernel
theorem dX3_goStepBack_56 : decode cX3_goStepBack 56 = .ok (.iload 5, 2) := by decide +kernel
theorem dX3_goStepBack_58 : decode cX3_goStepBack 58 = .ok (.aload_n 3, 1) := by decide +kernel
theorem dX3_goStepBack_59 : decode cX3_goStepBack 59 = .ok (.iload 5, 2) := by decide +kernel
theorem dX3_goStepBack_61 : decode cX3_goStepBack 61 = .ok (.iconst 1, 1) := by decide +kernel
theorem dX3_goStepBack_62 : decode cX3_goStepBack 62 = .ok (.iadd, 1) := by decide +kernel
theorem dX3_goStepBack_63 : decode cX3_goStepBack 63 = .ok (.iaload, 1) := by decide +kernel
theorem dX3_goStepBack_64 : decode cX3_goStepBack 64 = .ok (.iastore, 1) := by decide +kernel
theorem dX3_goStepBack_65 : decode cX3_goStepBack 65 = .ok (.iinc 5 1, 3) := by decide +kernel
theorem dX3_goStepBack_68 : decode cX3_goStepBack 68 = .ok (.goto (-24), 3) := by decide +kernel
theorem dX3_goStepBack_71 : decode cX3_goStepBack 71 = .ok (.aload_n 3, 1) := by decide +kernel
theorem dX3_goStepBack_72 : decode cX3_goStepBack 72 = .ok (.aload_n 0, 1) := by decide +kernel
theorem dX3_goStepBack_73 : decode cX3_goStepBack 73 = .ok (.getfield 34, 3) := by decide +kernel
theorem dX3_goStepBack_76 : decode cX3_goStepBack 76 = .ok (.iconst 1, 1) := by decide +kernel
theorem dX3_goStepBack_77 : decode cX3_goStepBack 77 = .ok (.isub, 1) := by decide +kernel
theorem dX3_goStepBack_78 : decode cX3_goStepBack 78 = .ok (.iload 4, 2) := by decide +kernel
theorem dX3_goStepBack_80 : decode cX3_goStepBack 80 = .ok (.iastore, 1) := by decide +kernel
theorem dX3_goStepBack_81 : decode cX3_goStepBack 81 = .ok (.aload_n 0, 1) := by decide +kernel
theorem dX3_goStepBack_82 : decode cX3_goStepBack 82 = .ok (.getfield 18, 3) := by decide +kernel
theorem dX3_goStepBack_85 : decode cX3_goStepBack 85 = .ok (.iload_n 2, 1) := by decide +kernel
theorem dX3_goStepBack_86 : decode cX3_goStepBack 86 = .ok (.dup2, 1) := by decide +kernel
theorem dX3_goStepBack_87 : decode cX3_goStepBack 87 = .ok (.iaload, 1) := by decide +kernel
theorem dX3_goStepBack_88 : decode cX3_goStepBack 88 = .ok (.aload_n 0, 1) := by decide +kernel
theorem dX3_goStepBack_89 : decode cX3_goStepBack 89 = .ok (.getfield 18, 3) := by decide +kernel
theorem dX3_goStepBack_92 : decode cX3_goStepBack 92 = .ok (.iload 4, 2) := by decide +kernel
theorem dX3_goStepBack_94 : decode cX3_goStepBack 94 = .ok (.iaload, 1) := by decide +kernel
theorem dX3_goStepBack_95 : decode cX3_goStepBack 95 = .ok (.iadd, 1) := by decide +kernel
theorem dX3_goStepBack_96 : decode cX3_goStepBack 96 = .ok (.iastore, 1) := by decide +kernel
theorem dX3_goStepBack_97 : decode cX3_goStepBack 97 = .ok (.return_, 1) := by decide +kernel
theorem dX3_happen_0 : decode cX3_happen 0 = .ok (.iload_n 1, 1) := by decide +kernel
theorem dX3_happen_1 : decode cX3_happen 1 = .ok (.ifCond .ne 21, 3) := by decide +kernel
theorem dX3_happen_4 : decode cX3_happen 4 = .ok (.aload_n 0, 1) := by decide +kernel
theorem dX3_happen_5 : decode cX3_happen 5 = .ok (.invokevirtual 63, 3) := by decide +kernel
theorem dX3_happen_8 : decode cX3_happen 8 = .ok (.istore_n 3, 1) := by decide +kernel
theorem dX3_happen_9 : decode cX3_happen 9 = .ok (.iload_n 3, 1) := by decide +kernel
theorem dX3_happen_10 : decode cX3_happen 10 = .ok (.iconst (-1), 1) := by decide +kernel
theorem dX3_happen_11 : decode cX3_happen 11 = .ok (.if_icmp .eq 8, 3) := by decide +kernel
theorem dX3_happen_14 : decode cX3_happen 14 = .ok (.aload_n 0, 1) := by decide +kernel
theorem dX3_happen_15 : decode cX3_happen 15 = .ok (.iload_n 3, 1) := by decide +kernel
theorem dX3_happen_16 : decode cX3_happen 16 = .ok (.invokevirtual 66, 3) := by decide +kernel
theorem dX3_happen_19 : decode cX3_happen 19 = .ok (.goto 51, 3) := by decide +kernel
theorem dX3_happen_22 : decode cX3_happen 22 = .ok (.iload_n 1, 1) := by decide +kernel
theorem dX3_happen_23 : decode cX3_happen 23 = .ok (.iconst 1, 1) := by decide +kernel
theorem dX3_happen_24 : decode cX3_happen 24 = .ok (.if_icmp .ne 33, 3) := by decide +kernel
theorem dX3_happen_27 : decode cX3_happen 27 = .ok (.aload_n 0, 1) := by decide +kernel
theorem dX3_happen_28 : decode cX3_happen 28 = .ok (.iload_n 2, 1) := by decide +kernel
theorem dX3_happen_29 : decode cX3_happen 29 = .ok (.invokevirtual 69, 3) := by decide +kernel
theorem dX3_happen_32 : decode cX3_happen 32 = .ok (.ifCond .eq 38, 3) := by decide +kernel
theorem dX3_happen_35 : decode cX3_happen 35 = .ok (.aload_n 0, 1) := by decide +kernel
theorem dX3_happen_36 : decode cX3_happen 36 = .ok (.getfield 18, 3) := by decide +kernel
theorem dX3_happen_39 : decode cX3_happen 39 = .ok (.iload_n 2, 1) := by decide +kernel
theorem dX3_happen_40 : decode cX3_happen 40 = .ok (.aload_n 0, 1) := by decide +kernel
theorem dX3_happen_41 : decode cX3_happen 41 = .ok (.getfield 18, 3) := by decide +kernel
theorem dX3_happen_44 : decode cX3_happen 44 = .ok (.iload_n 2, 1) := by decide +kernel
theorem dX3_happen_45 : decode cX3_happen 45 = .ok (.iaload, 1) := by decide +kernel
theorem dX3_happen_46 : decode cX3_happen 46 = .ok (.iconst 1, 1) := by decide +kernel
theorem dX3_happen_47 : decode cX3_happen 47 = .ok (.iadd, 1) := by decide +kernel
theorem dX3_happen_48 : decode cX3_happen 48 = .ok (.bipush 99, 2) := by decide +kernel
theorem dX3_happen_50 : decode cX3_happen 50 = .ok (.invokestatic 25, 3) := by decide +kernel
theorem dX3_happen_53 : decode cX3_happen 53 = .ok (.iastore, 1) := by decide +kernel
theorem dX3_happen_54 : decode cX3_happen 54 = .ok (.goto 16, 3) := by decide +kernel
theorem dX3_happen_57 : decode cX3_happen 57 = .ok (.aload_n 0, 1) := by decide +kernel
theorem dX3_happen_58 : decode cX3_happen 58 = .ok (.iload_n 2, 1) := by decide +kernel
theorem dX3_happen_59 : decode cX3_happen 59 = .ok (.invokevirtual 73, 3) := by decide +kernel
theorem dX3_happen_62 : decode cX3_happen 62 = .ok (.ifCond .ne 8, 3) := by decide +kernel
theorem dX3_happen_65 : decode cX3_happen 65 = .ok (.aload_n 0, 1) := by decide +kernel
theorem dX3_happen_66 : decode cX3_happen 66 = .ok (.iload_n 2, 1) := by decide +kernel
theorem dX3_happen_67 : decode cX3_happen 67 = .ok (.invokevirtual 77, 3) := by decide +kernel
theorem dX3_happen_70 : decode cX3_happen 70 = .ok (.return_, 1) := by decide +kernel
theorem dX3_letterAt_0 : decode cX3_letterAt 0 = .ok (.iconst 0, 1) := by decide +kernel
theorem dX3_letterAt_1 : decode cX3_letterAt 1 = .ok (.istore_n 2, 1) := by decide +kernel
theorem dX3_letterAt_2 : decode cX3_letterAt 2 = .ok (.iconst 0, 1) := by decide +kernel
theorem dX3_letterAt_3 : decode cX3_letterAt 3 = .ok (.istore_n 3, 1) := by decide +kernel
theorem dX3_letterAt_4 : decode cX3_letterAt 4 = .ok (.iload_n 3, 1) := by decide +kernel
theorem dX3_letterAt_5 : decode cX3_letterAt 5 = .ok (.aload_n 0, 1) := by decide +kernel
theorem dX3_letterAt_6 : decode cX3_letterAt 6 = .ok (.getfield 34, 3) := by decide +kernel
theorem dX3_letterAt_9 : decode cX3_letterAt 9 = .ok (.if_icmp .ge 35, 3) := by decide +kernel
theorem dX3_letterAt_12 : decode cX3_letterAt 12 = .ok (.iload_n 2, 1) := by decide +kernel
theorem dX3_letterAt_13 : decode cX3_letterAt 13 = .ok (.aload_n 0, 1) := by decide +kernel
theorem dX3_letterAt_14 : decode cX3_letterAt 14 = .ok (.getfield 18, 3) := by decide +kernel
theorem dX3_letterAt_17 : decode cX3_letterAt 17 = .ok (.aload_n 0, 1) := by decide +kernel
theorem dX3_letterAt_18 : decode cX3_letterAt 18 = .ok (.getfield 9, 3) := by decide +kernel
theorem dX3_letterAt_21 : decode cX3_letterAt 21 = .ok (.iload_n 3, 1) := by decide +kernel
theorem dX3_letterAt_22 : decode cX3_letterAt 22 = .ok (.iaload, 1) := by decide +kernel
theorem dX3_letterAt_23 : decode cX3_letterAt 23 = .ok (.iaload, 1) := by decide +kernel
theorem dX3_letterAt_24 : decode cX3_letterAt 24 = .ok (.iadd, 1) := by decide +kernel
theorem dX3_letterAt_25 : decode cX3_letterAt 25 = .ok (.istore_n 2, 1) := by decide +kernel
theorem dX3_letterAt_26 : decode cX3_letterAt 26 = .ok (.iload_n 1, 1) := by decide +kernel
theorem dX3_letterAt_27 : decode cX3_letterAt 27 = .ok (.iload_n 2, 1) := by decide +kernel
theorem dX3_letterAt_28 : decode cX3_letterAt 28 = .ok (.if_icmp .ge 10, 3) := by decide +kernel
theorem dX3_letterAt_31 : decode cX3_letterAt 31 = .ok (.aload_n 0, 1) := by decide +kernel
theorem dX3_letterAt_32 : decode cX3_letterAt 32 = .ok (.getfield 9, 3) := by decide +kernel
theorem dX3_letterAt_35 : decode cX3_letterAt 35 = .ok (.iload_n 3, 1) := by decide +kernel
theorem dX3_letterAt_36 : decode cX3_letterAt 36 = .ok (.iaload, 1) := by decide +kernel
theorem dX3_letterAt_37 : decode cX3_letterAt 37 = .ok (.ireturn, 1) := by decide +kernel
theorem dX3_letterAt_38 : decode cX3_letterAt 38 = .ok (.iinc 3 1, 3) := by decide +kernel
theorem dX3_letterAt_41 : decode cX3_letterAt 41 = .ok (.goto (-37), 3) := by decide +kernel
theorem dX3_letterAt_44 : decode cX3_letterAt 44 = .ok (.iconst (-1), 1) := by decide +kernel
theorem dX3_letterAt_45 : decode cX3_letterAt 45 = .ok (.ireturn, 1) := by decide +kernel
theorem dX3_startIn_0 : decode cX3_startIn 0 = .ok (.iconst 0, 1) := by decide +kernel
theorem dX3_startIn_1 : decode cX3_startIn 1 = .ok (.istore_n 3, 1) := by decide +kernel
theorem dX3_startIn_2 : decode cX3_startIn 2 = .ok (.iconst 0, 1) := by decide +kernel
theorem dX3_startIn_3 : decode cX3_startIn 3 = .ok (.istore 4, 2) := by decide +kernel
theorem dX3_startIn_5 : decode cX3_startIn 5 = .ok (.iload 4, 2) := by decide +kernel
theorem dX3_startIn_7 : decode cX3_startIn 7 = .ok (.aload_n 0, 1) := by decide +kernel
theorem dX3_startIn_8 : decode cX3_startIn 8 = .ok (.getfield 34, 3) := by decide +kernel
theorem dX3_startIn_11 : decode cX3_startIn 11 = .ok (.if_icmp .ge 29, 3) := by decide +kernel
theorem dX3_startIn_14 : decode cX3_startIn 14 = .ok (.aload_n 1, 1) := by decide +kernel
theorem dX3_startIn_15 : decode cX3_startIn 15 = .ok (.iload 4, 2) := by decide +kernel
theorem dX3_startIn_17 : decode cX3_startIn 17 = .ok (.iaload, 1) := by decide +kernel
theorem dX3_startIn_18 : decode cX3_startIn 18 = .ok (.iload_n 2, 1) := by decide +kernel
theorem dX3_startIn_19 : decode cX3_startIn 19 = .ok (.if_icmp .eq 21, 3) := by decide +kernel
theorem dX3_startIn_22 : decode cX3_startIn 22 = .ok (.iload_n 3, 1) := by decide +kernel
theorem dX3_startIn_23 : decode cX3_startIn 23 = .ok (.aload_n 0, 1) := by decide +kernel
theorem dX3_startIn_24 : decode cX3_startIn 24 = .ok (.getfield 18, 3) := by decide +kernel
theorem dX3_startIn_27 : decode cX3_startIn 27 = .ok (.aload_n 1, 1) := by decide +kernel
theorem dX3_startIn_28 : decode cX3_startIn 28 = .ok (.iload 4, 2) := by decide +kernel
theorem dX3_startIn_30 : decode cX3_startIn 30 = .ok (.iaload, 1) := by decide +kernel
theorem dX3_startIn_31 : decode cX3_startIn 31 = .ok (.iaload, 1) := by decide +kernel
theorem dX3_startIn_32 : decode cX3_startIn 32 = .ok (.iadd, 1) := by decide +kernel
theorem dX3_startIn_33 : decode cX3_startIn 33 = .ok (.istore_n 3, 1) := by decide +kernel
theorem dX3_startIn_34 : decode cX3_startIn 34 = .ok (.iinc 4 1, 3) := by decide +kernel
theorem dX3_startIn_37 : decode cX3_startIn 37 = .ok (.goto (-32), 3) := by decide +kernel
theorem dX3_startIn_40 : decode cX3_startIn 40 = .ok (.iload_n 3, 1) := by decide +kernel
theorem dX3_startIn_41 : decode cX3_startIn 41 = .ok (.ireturn, 1) := by decide +kernel
theorem dX3_goesTo_0 : decode cX3_goesTo 0 = .ok (.aload_n 0, 1) := by decide +kernel
theorem dX3_goesTo_1 : decode cX3_goesTo 1 = .ok (.iload_n 1, 1) := by decide +kernel
theorem dX3_goesTo_2 : decode cX3_goesTo 2 = .ok (.invokevirtual 80, 3) := by decide +kernel
theorem dX3_goesTo_5 : decode cX3_goesTo 5 = .ok (.istore_n 2, 1) := by decide +kernel
theorem dX3_goesTo_6 : decode cX3_goesTo 6 = .ok (.iload_n 1, 1) := by decide +kernel
theorem dX3_goesTo_7 : decode cX3_goesTo 7 = .ok (.aload_n 0, 1) := by decide +kernel
theorem dX3_goesTo_8 : decode cX3_goesTo 8 = .ok (.aload_n 0, 1) := by decide +kernel
theorem dX3_goesTo_9 : decode cX3_goesTo 9 = .ok (.getfield 9, 3) := by decide +kernel
theorem dX3_goesTo_12 : decode cX3_goesTo 12 = .ok (.iload_n 2, 1) := by decide +kernel
theorem dX3_goesTo_13 : decode cX3_goesTo 13 = .ok (.invokevirtual 83, 3) := by decide +kernel
theorem dX3_goesTo_16 : decode cX3_goesTo 16 = .ok (.isub, 1) := by decide +kernel
theorem dX3_goesTo_17 : decode cX3_goesTo 17 = .ok (.aload_n 0, 1) := by decide +kernel
theorem dX3_goesTo_18 : decode cX3_goesTo 18 = .ok (.aload_n 0, 1) := by decide +kernel
theorem dX3_goesTo_19 : decode cX3_goesTo 19 = .ok (.getfield 15, 3) := by decide +kernel
theorem dX3_goesTo_22 : decode cX3_goesTo 22 = .ok (.iload_n 2, 1) := by decide +kernel
theorem dX3_goesTo_23 : decode cX3_goesTo 23 = .ok (.invokevirtual 83, 3) := by decide +kernel
theorem dX3_goesTo_26 : decode cX3_goesTo 26 = .ok (.iadd, 1) := by decide +kernel
theorem dX3_goesTo_27 : decode cX3_goesTo 27 = .ok (.ireturn, 1) := by decide +kernel
theorem dX3_meetingBehind_0 : decode cX3_meetingBehind 0 = .ok (.iload_n 1, 1) := by decide +kernel
theorem dX3_meetingBehind_1 : decode cX3_meetingBehind 1 = .ok (.ifCond .ne 12, 3) := by decide +kernel
theorem dX3_meetingBehind_4 : decode cX3_meetingBehind 4 = .ok (.aload_n 0, 1) := by decide +kernel
theorem dX3_meetingBehind_5 : decode cX3_meetingBehind 5 = .ok (.getfield 15, 3) := by decide +kernel
theorem dX3_meetingBehind_8 : decode cX3_meetingBehind 8 = .ok (.iconst 0, 1) := by decide +kernel
theorem dX3_meetingBehind_9 : decode cX3_meetingBehind 9 = .ok (.iaload, 1) := by decide +kernel
theorem dX3_meetingBehind_10 : decode cX3_meetingBehind 10 = .ok (.goto 19, 3) := by decide +kernel
theorem dX3_meetingBehind_13 : decode cX3_meetingBehind 13 = .ok (.aload_n 0, 1) := by decide +kernel
theorem dX3_meetingBehind_14 : decode cX3_meetingBehind 14 = .ok (.aload_n 0, 1) := by decide +kernel
theorem dX3_meetingBehind_15 : decode cX3_meetingBehind 15 = .ok (.getfield 15, 3) := by decide +kernel
theorem dX3_meetingBehind_18 : decode cX3_meetingBehind 18 = .ok (.aload_n 0, 1) := by decide +kernel
theorem dX3_meetingBehind_19 : decode cX3_meetingBehind 19 = .ok (.getfield 9, 3) := by decide +kernel
theorem dX3_meetingBehind_22 : decode cX3_meetingBehind 22 = .ok (.iload_n 1, 1) := by decide +kernel
theorem dX3_meetingBehind_23 : decode cX3_meetingBehind 23 = .ok (.iconst 1, 1) := by decide +kernel
theorem dX3_meetingBehind_24 : decode cX3_meetingBehind 24 = .ok (.isub, 1) := by decide +kernel
theorem dX3_meetingBehind_25 : decode cX3_meetingBehind 25 = .ok (.iaload, 1) := by decide +kernel
theorem dX3_meetingBehind_26 : decode cX3_meetingBehind 26 = .ok (.invokevirtual 60, 3) := by decide +kernel
theorem dX3_meetingBehind_29 : decode cX3_meetingBehind 29 = .ok (.istore_n 2, 1) := by decide +kernel
theorem dX3_meetingBehind_30 : decode cX3_meetingBehind 30 = .ok (.iload_n 2, 1) := by decide +kernel
theorem dX3_meetingBehind_31 : decode cX3_meetingBehind 31 = .ok (.iconst (-1), 1) := by decide +kernel
theorem dX3_meetingBehind_32 : decode cX3_meetingBehind 32 = .ok (.if_icmp .ne 10, 3) := by decide +kernel
theorem dX3_meetingBehind_35 : decode cX3_meetingBehind 35 = .ok (.aload_n 0, 1) := by decide +kernel
theorem dX3_meetingBehind_36 : decode cX3_meetingBehind 36 = .ok (.getfield 34, 3) := by decide +kernel
theorem dX3_meetingBehind_39 : decode cX3_meetingBehind 39 = .ok (.goto 12, 3) := by decide +kernel
theorem dX3_meetingBehind_42 : decode cX3_meetingBehind 42 = .ok (.aload_n 0, 1) := by decide +kernel
theorem dX3_meetingBehind_43 : decode cX3_meetingBehind 43 = .ok (.aload_n 0, 1) := by decide +kernel
theorem dX3_meetingBehind_44 : decode cX3_meetingBehind 44 = .ok (.getfield 9, 3) := by decide +kernel
theorem dX3_meetingBehind_47 : decode cX3_meetingBehind 47 = .ok (.iload_n 2, 1) := by decide +kernel
theorem dX3_meetingBehind_48 : decode cX3_meetingBehind 48 = .ok (.invokevirtual 42, 3) := by decide +kernel
theorem dX3_meetingBehind_51 : decode cX3_meetingBehind 51 = .ok (.ireturn, 1) := by decide +kernel
theorem dX3_corners_0 : decode cX3_corners 0 = .ok (.iconst 0, 1) := by decide +kernel
theorem dX3_corners_1 : decode cX3_corners 1 = .ok (.istore_n 1, 1) := by decide +kernel
theorem dX3_corners_2 : decode cX3_corners 2 = .ok (.iconst 0, 1) := by decide +kernel
theorem dX3_corners_3 : decode cX3_corners 3 = .ok (.istore_n 2, 1) := by decide +kernel
theorem dX3_corners_4 : decode cX3_corners 4 = .ok (.iconst 0, 1) := by decide +kernel
theorem dX3_corners_5 : decode cX3_corners 5 = .ok (.istore_n 3, 1) := by decide +kernel
theorem dX3_corners_6 : decode cX3_corners 6 = .ok (.iload_n 3, 1) := by decide +kernel
theorem dX3_corners_7 : decode cX3_corners 7 = .ok (.aload_n 0, 1) := by decide +kernel
theorem dX3_corners_8 : decode cX3_corners 8 = .ok (.getfield 34, 3) := by decide +kernel
theorem dX3_corners_11 : decode cX3_corners 11 = .ok (.if_icmp .gt 56, 3) := by decide +kernel
theorem dX3_corners_14 : decode cX3_corners 14 = .ok (.iload_n 1, 1) := by decide +kernel
theorem dX3_corners_15 : decode cX3_corners 15 = .ok (.iload_n 3, 1) := by decide +kernel
theorem dX3_corners_16 : decode cX3_corners 16 = .ok (.ishr, 1) := by decide +kernel
theorem dX3_corners_17 : decode cX3_corners 17 = .ok (.iconst 1, 1) := by decide +kernel
theorem dX3_corners_18 : decode cX3_corners 18 = .ok (.iand, 1) := by decide +kernel
theorem dX3_corners_19 : decode cX3_corners 19 = .ok (.ifCond .ne 42, 3) := by decide +kernel
theorem dX3_corners_22 : decode cX3_corners 22 = .ok (.iinc 2 1, 3) := by decide +kernel
theorem dX3_corners_25 : decode cX3_corners 25 = .ok (.iload_n 3, 1) := by decide +kernel
theorem dX3_corners_26 : decode cX3_corners 26 = .ok (.istore 4, 2) := by decide +kernel
theorem dX3_corners_28 : decode cX3_corners 28 = .ok (.iconst 0, 1) := by decide +kernel
theorem dX3_corners_29 : decode cX3_corners 29 = .ok (.istore 5, 2) := by decide +kernel
theorem dX3_corners_31 : decode cX3_corners 31 = .ok (.iload 5, 2) := by decide +kernel
theorem dX3_corners_33 : decode cX3_corners 33 = .ok (.aload_n 0, 1) := by decide +kernel
theorem dX3_corners_34 : decode cX3_corners 34 = .ok (.getfield 34, 3) := by decide +kernel
theorem dX3_corners_37 : decode cX3_corners 37 = .ok (.if_icmp .gt 24, 3) := by decide +kernel
theorem dX3_corners_40 : decode cX3_corners 40 = .ok (.iload_n 1, 1) := by decide +kernel
theorem dX3_corners_41 : decode cX3_corners 41 = .ok (.iconst 1, 1) := by decide +kernel
theorem dX3_corners_42 : decode cX3_corners 42 = .ok (.iload 4, 2) := by decide +kernel
theorem dX3_corners_44 : decode cX3_corners 44 = .ok (.ishl, 1) := by decide +kernel
theorem dX3_corners_45 : decode cX3_corners 45 = .ok (.ior, 1) := by decide +kernel
theorem dX3_corners_46 : decode cX3_corners 46 = .ok (.istore_n 1, 1) := by decide +kernel
theorem dX3_corners_47 : decode cX3_corners 47 = .ok (.aload_n 0, 1) := by decide +kernel
theorem dX3_corners_48 : decode cX3_corners 48 = .ok (.iload 4, 2) := by decide +kernel
theorem dX3_corners_50 : decode cX3_corners 50 = .ok (.invokevirtual 86, 3) := by decide +kernel
theorem dX3_corners_53 : decode cX3_corners 53 = .ok (.istore 4, 2) := by decide +kernel
theorem dX3_corners_55 : decode cX3_corners 55 = .ok (.iinc 5 1, 3) := by decide +kernel
theorem dX3_corners_58 : decode cX3_corners 58 = .ok (.goto (-27), 3) := by decide +kernel
theorem dX3_corners_61 : decode cX3_corners 61 = .ok (.iinc 3 1, 3) := by decide +kernel
theorem dX3_corners_64 : decode cX3_corners 64 = .ok (.goto (-58), 3) := by decide +kernel
theorem dX3_corners_67 : decode cX3_corners 67 = .ok (.iload_n 2, 1) := by decide +kernel
theorem dX3_corners_68 : decode cX3_corners 68 = .ok (.ireturn, 1) := by decide +kernel
theorem dX4_init_0 : decode cX4_init 0 = .ok (.aload_n 0, 1) := by decide +kernel
theorem dX4_init_1 : decode cX4_init 1 = .ok (.invokespecial 3, 3) := by decide +kernel
theorem dX4_init_4 : decode cX4_init 4 = .ok (.aload_n 0, 1) := by decide +kernel
theorem dX4_init_5 : decode cX4_init 5 = .ok (.new 9, 3) := by decide +kernel
theorem dX4_init_8 : decode cX4_init 8 = .ok (.dup, 1) := by decide +kernel
theorem dX4_init_9 : decode cX4_init 9 = .ok (.invokespecial 11, 3) := by decide +kernel
theorem dX4_init_12 : decode cX4_init 12 = .ok (.putfield 12, 3) := by decide +kernel
theorem dX4_init_15 : decode cX4_init 15 = .ok (.aload_n 0, 1) := by decide +kernel
theorem dX4_init_16 : decode cX4_init 16 = .ok (.aload_n 0, 1) := by decide +kernel
theorem dX4_init_17 : decode cX4_init 17 = .ok (.getfield 12, 3) := by decide +kernel
theorem dX4_init_20 : decode cX4_init 20 = .ok (.invokevirtual 18, 3) := by decide +kernel
theorem dX4_init_23 : decode cX4_init 23 = .ok (.putfield 22, 3) := by decide +kernel
theorem dX4_init_26 : decode cX4_init 26 = .ok (.aload_n 0, 1) := by decide +kernel
theorem dX4_init_27 : decode cX4_init 27 = .ok (.new 26, 3) := by decide +kernel
theorem dX4_init_30 : decode cX4_init 30 = .ok (.dup, 1) := by decide +kernel
theorem dX4_init_31 : decode cX4_init 31 = .ok (.iconst 4, 1) := by decide +kernel
theorem dX4_init_32 : decode cX4_init 32 = .ok (.invokespecial 28, 3) := by decide +kernel
theorem dX4_init_35 : decode cX4_init 35 = .ok (.putfield 31, 3) := by decide +kernel
theorem dX4_init_38 : decode cX4_init 38 = .ok (.aload_n 0, 1) := by decide +kernel
theorem dX4_init_39 : decode cX4_init 39 = .ok (.new 26, 3) := by decide +kernel
theorem dX4_init_42 : decode cX4_init 42 = .ok (.dup, 1) := by decide +kernel
theorem dX4_init_43 : decode cX4_init 43 = .ok (.bipush 8, 2) := by decide +kernel
theorem dX4_init_45 : decode cX4_init 45 = .ok (.invokespecial 28, 3) := by decide +kernel
theorem dX4_init_48 : decode cX4_init 48 = .ok (.putfield 35, 3) := by decide +kernel
theorem dX4_init_51 : decode cX4_init 51 = .ok (.aload_n 0, 1) := by decide +kernel
theorem dX4_init_52 : decode cX4_init 52 = .ok (.new 26, 3) := by decide +kernel
theorem dX4_init_55 : decode cX4_init 55 = .ok (.dup, 1) := by decide +kernel
theorem dX4_init_56 : decode cX4_init 56 = .ok (.bipush 8, 2) := by decide +kernel
theorem dX4_init_58 : decode cX4_init 58 = .ok (.invokespecial 28, 3) := by decide +kernel
theorem dX4_init_61 : decode cX4_init 61 = .ok (.putfield 38, 3) := by decide +kernel
theorem dX4_init_64 : decode cX4_init 64 = .ok (.return_, 1) := by decide +kernel
theorem dX4_begin_0 : decode cX4_begin 0 = .ok (.aload_n 0, 1) := by decide +kernel
theorem dX4_begin_1 : decode cX4_begin 1 = .ok (.getfield 12, 3) := by decide +kernel
theorem dX4_begin_4 : decode cX4_begin 4 = .ok (.iload_n 1, 1) := by decide +kernel
theorem dX4_begin_5 : decode cX4_begin 5 = .ok (.invokevirtual 41, 3) := by decide +kernel
theorem dX4_begin_8 : decode cX4_begin 8 = .ok (.aload_n 0, 1) := by decide +kernel
theorem dX4_begin_9 : decode cX4_begin 9 = .ok (.aload_n 0, 1) := by decide +kernel
theorem dX4_begin_10 : decode cX4_begin 10 = .ok (.getfield 12, 3) := by decide +kernel
theorem dX4_begin_13 : decode cX4_begin 13 = .ok (.invokevirtual 18, 3) := by decide +kernel
theorem dX4_begin_16 : decode cX4_begin 16 = .ok (.putfield 22, 3) := by decide +kernel
theorem dX4_begin_19 : decode cX4_begin 19 = .ok (.return_, 1) := by decide +kernel
theorem dX4_copyFrom_0 : decode cX4_copyFrom 0 = .ok (.aload_n 0, 1) := by decide +kernel
theorem dX4_copyFrom_1 : decode cX4_copyFrom 1 = .ok (.getfield 12, 3) := by decide +kernel
theorem dX4_copyFrom_4 : decode cX4_copyFrom 4 = .ok (.aload_n 1, 1) := by decide +kernel
theorem dX4_copyFrom_5 : decode cX4_copyFrom 5 = .ok (.getfield 12, 3) := by decide +kernel
theorem dX4_copyFrom_8 : decode cX4_copyFrom 8 = .ok (.invokevirtual 44, 3) := by decide +kernel
theorem dX4_copyFrom_11 : decode cX4_copyFrom 11 = .ok (.aload_n 0, 1) := by decide +kernel
theorem dX4_copyFrom_12 : decode cX4_copyFrom 12 = .ok (.aload_n 1, 1) := by decide +kernel
theorem dX4_copyFrom_13 : decode cX4_copyFrom 13 = .ok (.getfield 22, 3) := by decide +kernel
theorem dX4_copyFrom_16 : decode cX4_copyFrom 16 = .ok (.putfield 22, 3) := by decide +kernel
theorem dX4_copyFrom_19 : decode cX4_copyFrom 19 = .ok (.aload_n 0, 1) := by decide +kernel
theorem dX4_copyFrom_20 : decode cX4_copyFrom 20 = .ok (.getfield 31, 3) := by decide +kernel
theorem dX4_copyFrom_23 : decode cX4_copyFrom 23 = .ok (.aload_n 1, 1) := by decide +kernel
theorem dX4_copyFrom_24 : decode cX4_copyFrom 24 = .ok (.getfield 31, 3) := by decide +kernel
theorem dX4_copyFrom_27 : decode cX4_copyFrom 27 = .ok (.invokevirtual 48, 3) := by decide +kernel
theorem dX4_copyFrom_30 : decode cX4_copyFrom 30 = .ok (.aload_n 0, 1) := by decide +kernel
theorem dX4_copyFrom_31 : decode cX4_copyFrom 31 = .ok (.getfield 35, 3) := by decide +kernel
theorem dX4_copyFrom_34 : decode cX4_copyFrom 34 = .ok (.aload_n 1, 1) := by decide +kernel
theorem dX4_copyFrom_35 : decode cX4_copyFrom 35 = .ok (.getfield 35, 3) := by decide +kernel
theorem dX4_copyFrom_38 : decode cX4_copyFrom 38 = .ok (.invokevirtual 48, 3) := by decide +kernel
theorem dX4_copyFrom_41 : decode cX4_copyFrom 41 = .ok (.aload_n 0, 1) := by decide +kernel
theorem dX4_copyFrom_42 : decode cX4_copyFrom 42 = .ok (.getfield 38, 3) := by decide +kernel
theorem dX4_copyFrom_45 : decode cX4_copyFrom 45 = .ok (.aload_n 1, 1) := by decide +kernel
theorem dX4_copyFrom_46 : decode cX4_copyFrom 46 = .ok (.getfield 38, 3) := by decide +kernel
theorem dX4_copyFrom_49 : decode cX4_copyFrom 49 = .ok (.invokevirtual 48, 3) := by decide +kernel
theorem dX4_copyFrom_52 : decode cX4_copyFrom 52 = .ok (.return_, 1) := by decide +kernel
theorem dX5_init_0 : decode cX5_init 0 = .ok (.aload_n 0, 1) := by decide +kernel
theorem dX5_init_1 : decode cX5_init 1 = .ok (.invokespecial 3, 3) := by decide +kernel
theorem dX5_init_4 : decode cX5_init 4 = .ok (.aload_n 0, 1) := by decide +kernel
theorem dX5_init_5 : decode cX5_init 5 = .ok (.new 9, 3) := by decide +kernel
theorem dX5_init_8 : decode cX5_init 8 = .ok (.dup, 1) := by decide +kernel
theorem dX5_init_9 : decode cX5_init 9 = .ok (.invokespecial 11, 3) := by decide +kernel
theorem dX5_init_12 : decode cX5_init 12 = .ok (.putfield 12, 3) := by decide +kernel
theorem dX5_init_15 : decode cX5_init 15 = .ok (.aload_n 0, 1) := by decide +kernel
theorem dX5_init_16 : decode cX5_init 16 = .ok (.bipush 120, 2) := by decide +kernel
theorem dX5_init_18 : decode cX5_init 18 = .ok (.newarray .int, 2) := by decide +kernel
theorem dX5_init_20 : decode cX5_init 20 = .ok (.putfield 18, 3) := by decide +kernel
theorem dX5_init_23 : decode cX5_init 23 = .ok (.aload_n 0, 1) := by decide +kernel
theorem dX5_init_24 : decode cX5_init 24 = .ok (.bipush 120, 2) := by decide +kernel
theorem dX5_init_26 : decode cX5_init 26 = .ok (.newarray .int, 2) := by decide +kernel
theorem dX5_init_28 : decode cX5_init 28 = .ok (.putfield 22, 3) := by decide +kernel
theorem dX5_init_31 : decode cX5_init 31 = .ok (.aload_n 0, 1) := by decide +kernel
theorem dX5_init_32 : decode cX5_init 32 = .ok (.iconst 0, 1) := by decide +kernel
theorem dX5_init_33 : decode cX5_init 33 = .ok (.putfield 25, 3) := by decide +kernel
theorem dX5_init_36 : decode cX5_init 36 = .ok (.return_, 1) := by decide +kernel
theorem dX5_follow_0 : decode cX5_follow 0 = .ok (.aload_n 0, 1) := by decide +kernel
theorem dX5_follow_1 : decode cX5_follow 1 = .ok (.getfield 12, 3) := by decide +kernel
theorem dX5_follow_4 : decode cX5_follow 4 = .ok (.iload_n 2, 1) := by decide +kernel
theorem dX5_follow_5 : decode cX5_follow 5 = .ok (.putfield 29, 3) := by decide +kernel
theorem dX5_follow_8 : decode cX5_follow 8 = .ok (.aload_n 0, 1) := by decide +kernel
theorem dX5_follow_9 : decode cX5_follow 9 = .ok (.getfield 12, 3) := by decide +kernel
theorem dX5_follow_12 : decode cX5_follow 12 = .ok (.iload_n 1, 1) := by decide +kernel
theorem dX5_follow_13 : decode cX5_follow 13 = .ok (.invokevirtual 32, 3) := by decide +kernel
theorem dX5_follow_16 : decode cX5_follow 16 = .ok (.aload_n 0, 1) := by decide +kernel
theorem dX5_follow_17 : decode cX5_follow 17 = .ok (.getfield 12, 3) := by decide +kernel
theorem dX5_follow_20 : decode cX5_follow 20 = .ok (.invokevirtual 36, 3) := by decide +kernel
theorem dX5_follow_23 : decode cX5_follow 23 = .ok (.ifCond .eq 6, 3) := by decide +kernel
theorem dX5_follow_26 : decode cX5_follow 26 = .ok (.bipush (-5), 2) := by decide +kernel
theorem dX5_follow_28 : decode cX5_follow 28 = .ok (.ireturn, 1) := by decide +kernel
theorem dX5_follow_29 : decode cX5_follow 29 = .ok (.aload_n 0, 1) := by decide +kernel
theorem dX5_follow_30 : decode cX5_follow 30 = .ok (.getfield 12, 3) := by decide +kernel
theorem dX5_follow_33 : decode cX5_follow 33 = .ok (.iload_n 3, 1) := by decide +kernel
theorem dX5_follow_34 : decode cX5_follow 34 = .ok (.invokevirtual 40, 3) := by decide +kernel
theorem dX5_follow_37 : decode cX5_follow 37 = .ok (.aload_n 0, 1) := by decide +kernel
theorem dX5_follow_38 : decode cX5_follow 38 = .ok (.getfield 12, 3) := by decide +kernel
theorem dX5_follow_41 : decode cX5_follow 41 = .ok (.invokevirtual 43, 3) := by decide +kernel
theorem dX5_follow_44 : decode cX5_follow 44 = .ok (.ireturn, 1) := by decide +kernel
theorem dX5_explore_0 : decode cX5_explore 0 = .ok (.aload_n 0, 1) := by decide +kernel
theorem dX5_explore_1 : decode cX5_explore 1 = .ok (.iconst 0, 1) := by decide +kernel
theorem dX5_explore_2 : decode cX5_explore 2 = .ok (.putfield 25, 3) := by decide +kernel
theorem dX5_explore_5 : decode cX5_explore 5 = .ok (.aload_n 0, 1) := by decide +kernel
theorem dX5_explore_6 : decode cX5_explore 6 = .ok (.iload_n 1, 1) := by decide +kernel
theorem dX5_explore_7 : decode cX5_explore 7 = .ok (.iconst 0, 1) := by decide +kernel
theorem dX5_explore_8 : decode cX5_explore 8 = .ok (.invokevirtual 47, 3) := by decide +kernel
theorem dX5_explore_11 : decode cX5_explore 11 = .ok (.iconst 0, 1) := by decide +kernel
theorem dX5_explore_12 : decode cX5_explore 12 = .ok (.istore_n 3, 1) := by decide +kernel
theorem dX5_explore_13 : decode cX5_explore 13 = .ok (.iload_n 3, 1) := by decide +kernel
theorem dX5_explore_14 : decode cX5_explore 14 = .ok (.aload_n 0, 1) := by decide +kernel
theorem dX5_explore_15 : decode cX5_explore 15 = .ok (.getfield 25, 3) := by decide +kernel
theorem dX5_explore_18 : decode cX5_explore 18 = .ok (.if_icmp .ge 63, 3) := by decide +kernel
theorem dX5_explore_21 : decode cX5_explore 21 = .ok (.iload_n 3, 1) := by decide +kernel
theorem dX5_explore_22 : decode cX5_explore 22 = .ok (.bipush 120, 2) := by decide +kernel
theorem dX5_explore_24 : decode cX5_explore 24 = .ok (.if_icmp .ge 57, 3) := by decide +kernel
theorem dX5_explore_27 : decode cX5_explore 27 = .ok (.aload_n 0, 1) := by decide +kernel
theorem dX5_explore_28 : decode cX5_explore 28 = .ok (.aload_n 0, 1) := by decide +kernel
theorem dX5_explore_29 : decode cX5_explore 29 = .ok (.aload_n 0, 1) := by decide +kernel
theorem dX5_explore_30 : decode cX5_explore 30 = .ok (.getfield 18, 3) := by decide +kernel
theorem dX5_explore_33 : decode cX5_explore 33 = .ok (.iload_n 3, 1) := by decide +kernel
theorem dX5_explore_34 : decode cX5_explore 34 = .ok (.iaload, 1) := by decide +kernel
theorem dX5_explore_35 : decode cX5_explore 35 = .ok (.iload_n 2, 1) := by decide +kernel
theorem dX5_explore_36 : decode cX5_explore 36 = .ok (.iconst 0, 1) := by decide +kernel
theorem dX5_explore_37 : decode cX5_explore 37 = .ok (.invokevirtual 51, 3) := by decide +kernel
theorem dX5_explore_40 : decode cX5_explore 40 = .ok (.aload_n 0, 1) := by decide +kernel
theorem dX5_explore_41 : decode cX5_explore 41 = .ok (.getfield 22, 3) := by decide +kernel
theorem dX5_explore_44 : decode cX5_explore 44 = .ok (.iload_n 3, 1) := by decide +kernel
theorem dX5_explore_45 : decode cX5_explore 45 = .ok (.iaload, 1) := by decide +kernel
theorem dX5_explore_46 : decode cX5_explore 46 = .ok (.iconst 1, 1) := by decide +kernel
theorem dX5_explore_47 : decode cX5_explore 47 = .ok (.iadd, 1) := by decide +kernel
theorem dX5_explore_48 : decode cX5_explore 48 = .ok (.invokevirtual 47, 3) := by decide +kernel
theorem dX5_explore_51 : decode cX5_explore 51 = .ok (.aload_n 0, 1) := by decide +kernel
theorem dX5_explore_52 : decode cX5_explore 52 = .ok (.aload_n 0, 1) := by decide +kernel
theorem dX5_explore_53 : decode cX5_explore 53 = .ok (.aload_n 0, 1) := by decide +kernel
theorem dX5_explore_54 : decode cX5_explore 54 = .ok (.getfield 18, 3) := by decide +kernel
theorem dX5_explore_57 : decode cX5_explore 57 = .ok (.iload_n 3, 1) := by decide +kernel
theorem dX5_explore_58 : decode cX5_explore 58 = .ok (.iaload, 1) := by decide +kernel
theorem dX5_explore_59 : decode cX5_explore 59 = .ok (.iload_n 2, 1) := by decide +kernel
theorem dX5_explore_60 : decode cX5_explore 60 = .ok (.iconst 1, 1) := by decide +kernel
theorem dX5_explore_61 : decode cX5_explore 61 = .ok (.invokevirtual 51, 3) := by decide +kernel
theorem dX5_explore_64 : decode cX5_explore 64 = .ok (.aload_n 0, 1) := by decide +kernel
theorem dX5_explore_65 : decode cX5_explore 65 = .ok (.getfield 22, 3) := by decide +kernel
theorem dX5_explore_68 : decode cX5_explore 68 = .ok (.iload_n 3, 1) := by decide +kernel
theorem dX5_explore_69 : decode cX5_explore 69 = .ok (.iaload, 1) := by decide +kernel
theorem dX5_explore_70 : decode cX5_explore 70 = .ok (.iconst 1, 1) := by decide +kernel
theorem dX5_explore_71 : decode cX5_explore 71 = .ok (.iadd, 1) := by decide +kernel
theorem dX5_explore_72 : decode cX5_explore 72 = .ok (.invokevirtual 47, 3) := by decide +kernel
theorem dX5_explore_75 : decode cX5_explore 75 = .ok (.iinc 3 1, 3) := by decide +kernel
theorem dX5_explore_78 : decode cX5_explore 78 = .ok (.goto (-65), 3) := by decide +kernel
theorem dX5_explore_81 : decode cX5_explore 81 = .ok (.return_, 1) := by decide +kernel
theorem dX5_note_0 : decode cX5_note 0 = .ok (.iload_n 1, 1) := by decide +kernel
theorem dX5_note_1 : decode cX5_note 1 = .ok (.bipush (-5), 2) := by decide +kernel
theorem dX5_note_3 : decode cX5_note 3 = .ok (.if_icmp .eq 21, 3) := by decide +kernel
theorem dX5_note_6 : decode cX5_note 6 = .ok (.aload_n 0, 1) := by decide +kernel
theorem dX5_note_7 : decode cX5_note 7 = .ok (.iload_n 1, 1) := by decide +kernel
theorem dX5_note_8 : decode cX5_note 8 = .ok (.invokevirtual 55, 3) := by decide +kernel
theorem dX5_note_11 : decode cX5_note 11 = .ok (.iconst (-1), 1) := by decide +kernel
theorem dX5_note_12 : decode cX5_note 12 = .ok (.if_icmp .ne 12, 3) := by decide +kernel
theorem dX5_note_15 : decode cX5_note 15 = .ok (.aload_n 0, 1) := by decide +kernel
theorem dX5_note_16 : decode cX5_note 16 = .ok (.getfield 25, 3) := by decide +kernel
theorem dX5_note_19 : decode cX5_note 19 = .ok (.bipush 120, 2) := by decide +kernel
theorem dX5_note_21 : decode cX5_note 21 = .ok (.if_icmp .lt 4, 3) := by decide +kernel
theorem dX5_note_24 : decode cX5_note 24 = .ok (.return_, 1) := by decide +kernel
theorem dX5_note_25 : decode cX5_note 25 = .ok (.aload_n 0, 1) := by decide +kernel
theorem dX5_note_26 : decode cX5_note 26 = .ok (.getfield 18, 3) := by decide +kernel
theorem dX5_note_29 : decode cX5_note 29 = .ok (.aload_n 0, 1) := by decide +kernel
theorem dX5_note_30 : decode cX5_note 30 = .ok (.getfield 25, 3) := by decide +kernel
theorem dX5_note_33 : decode cX5_note 33 = .ok (.iload_n 1, 1) := by decide +kernel
theorem dX5_note_34 : decode cX5_note 34 = .ok (.iastore, 1) := by decide +kernel
theorem dX5_note_35 : decode cX5_note 35 = .ok (.aload_n 0, 1) := by decide +kernel
theorem dX5_note_36 : decode cX5_note 36 = .ok (.getfield 22, 3) := by decide +kernel
theorem dX5_note_39 : decode cX5_note 39 = .ok (.aload_n 0, 1) := by decide +kernel
theorem dX5_note_40 : decode cX5_note 40 = .ok (.getfield 25, 3) := by decide +kernel
theorem dX5_note_43 : decode cX5_note 43 = .ok (.iload_n 2, 1) := by decide +kernel
theorem dX5_note_44 : decode cX5_note 44 = .ok (.iastore, 1) := by decide +kernel
theorem dX5_note_45 : decode cX5_note 45 = .ok (.aload_n 0, 1) := by decide +kernel
theorem dX5_note_46 : decode cX5_note 46 = .ok (.dup, 1) := by decide +kernel
theorem dX5_note_47 : decode cX5_note 47 = .ok (.getfield 25, 3) := by decide +kernel
theorem dX5_note_50 : decode cX5_note 50 = .ok (.iconst 1, 1) := by decide +kernel
theorem dX5_note_51 : decode cX5_note 51 = .ok (.iadd, 1) := by decide +kernel
theorem dX5_note_52 : decode cX5_note 52 = .ok (.putfield 25, 3) := by decide +kernel
theorem dX5_note_55 : decode cX5_note 55 = .ok (.return_, 1) := by decide +kernel
theorem dX5_indexOf_0 : decode cX5_indexOf 0 = .ok (.iconst 0, 1) := by decide +kernel
theorem dX5_indexOf_1 : decode cX5_indexOf 1 = .ok (.istore_n 2, 1) := by decide +kernel
theorem dX5_indexOf_2 : decode cX5_indexOf 2 = .ok (.iload_n 2, 1) := by decide +kernel
theorem dX5_indexOf_3 : decode cX5_indexOf 3 = .ok (.aload_n 0, 1) := by decide +kernel
theorem dX5_indexOf_4 : decode cX5_indexOf 4 = .ok (.getfield 25, 3) := by decide +kernel
theorem dX5_indexOf_7 : decode cX5_indexOf 7 = .ok (.if_icmp .ge 21, 3) := by decide +kernel
theorem dX5_indexOf_10 : decode cX5_indexOf 10 = .ok (.aload_n 0, 1) := by decide +kernel
theorem dX5_indexOf_11 : decode cX5_indexOf 11 = .ok (.getfield 18, 3) := by decide +kernel
theorem dX5_indexOf_14 : decode cX5_indexOf 14 = .ok (.iload_n 2, 1) := by decide +kernel
theorem dX5_indexOf_15 : decode cX5_indexOf 15 = .ok (.iaload, 1) := by decide +kernel
theorem dX5_indexOf_16 : decode cX5_indexOf 16 = .ok (.iload_n 1, 1) := by decide +kernel
theorem dX5_indexOf_17 : decode cX5_indexOf 17 = .ok (.if_icmp .ne 5, 3) := by decide +kernel
theorem dX5_indexOf_20 : decode cX5_indexOf 20 = .ok (.iload_n 2, 1) := by decide +kernel
theorem dX5_indexOf_21 : decode cX5_indexOf 21 = .ok (.ireturn, 1) := by decide +kernel
theorem dX5_indexOf_22 : decode cX5_indexOf 22 = .ok (.iinc 2 1, 3) := by decide +kernel
theorem dX5_indexOf_25 : decode cX5_indexOf 25 = .ok (.goto (-23), 3) := by decide +kernel
theorem dX5_indexOf_28 : decode cX5_indexOf 28 = .ok (.iconst (-1), 1) := by decide +kernel
theorem dX5_indexOf_29 : decode cX5_indexOf 29 = .ok (.ireturn, 1) := by decide +kernel
theorem dX5_stepsTo_0 : decode cX5_stepsTo 0 = .ok (.aload_n 0, 1) := by decide +kernel
theorem dX5_stepsTo_1 : decode cX5_stepsTo 1 = .ok (.iload_n 1, 1) := by decide +kernel
theorem dX5_stepsTo_2 : decode cX5_stepsTo 2 = .ok (.invokevirtual 55, 3) := by decide +kernel
theorem dX5_stepsTo_5 : decode cX5_stepsTo 5 = .ok (.istore_n 2, 1) := by decide +kernel
theorem dX5_stepsTo_6 : decode cX5_stepsTo 6 = .ok (.iload_n 2, 1) := by decide +kernel
theorem dX5_stepsTo_7 : decode cX5_stepsTo 7 = .ok (.iconst (-1), 1) := by decide +kernel
theorem dX5_stepsTo_8 : decode cX5_stepsTo 8 = .ok (.if_icmp .ne 8, 3) := by decide +kernel
theorem dX5_stepsTo_11 : decode cX5_stepsTo 11 = .ok (.bipush (-5), 2) := by decide +kernel
theorem dX5_stepsTo_13 : decode cX5_stepsTo 13 = .ok (.goto 9, 3) := by decide +kernel
theorem dX5_stepsTo_16 : decode cX5_stepsTo 16 = .ok (.aload_n 0, 1) := by decide +kernel
theorem dX5_stepsTo_17 : decode cX5_stepsTo 17 = .ok (.getfield 22, 3) := by decide +kernel
theorem dX5_stepsTo_20 : decode cX5_stepsTo 20 = .ok (.iload_n 2, 1) := by decide +kernel
theorem dX5_stepsTo_21 : decode cX5_stepsTo 21 = .ok (.iaload, 1) := by decide +kernel
theorem dX5_stepsTo_22 : decode cX5_stepsTo 22 = .ok (.ireturn, 1) := by decide +kernel
theorem dX5_codeOfRank_0 : decode cX5_codeOfRank 0 = .ok (.iconst 0, 1) := by decide +kernel
theorem dX5_codeOfRank_1 : decode cX5_codeOfRank 1 = .ok (.istore_n 2, 1) := by decide +kernel
theorem dX5_codeOfRank_2 : decode cX5_codeOfRank 2 = .ok (.iload_n 2, 1) := by decide +kernel
theorem dX5_codeOfRank_3 : decode cX5_codeOfRank 3 = .ok (.aload_n 0, 1) := by decide +kernel
theorem dX5_codeOfRank_4 : decode cX5_codeOfRank 4 = .ok (.getfield 25, 3) := by decide +kernel
theorem dX5_codeOfRank_7 : decode cX5_codeOfRank 7 = .ok (.if_icmp .ge 30, 3) := by decide +kernel
theorem dX5_codeOfRank_10 : decode cX5_codeOfRank 10 = .ok (.aload_n 0, 1) := by decide +kernel
theorem dX5_codeOfRank_11 : decode cX5_codeOfRank 11 = .ok (.aload_n 0, 1) := by decide +kernel
theorem dX5_codeOfRank_12 : decode cX5_codeOfRank 12 = .ok (.getfield 18, 3) := by decide +kernel
theorem dX5_codeOfRank_15 : decode cX5_codeOfRank 15 = .ok (.iload_n 2, 1) := by decide +kernel
theorem dX5_codeOfRank_16 : decode cX5_codeOfRank 16 = .ok (.iaload, 1) := by decide +kernel
theorem dX5_codeOfRank_17 : decode cX5_codeOfRank 17 = .ok (.invokevirtual 59, 3) := by decide +kernel
theorem dX5_codeOfRank_20 : decode cX5_codeOfRank 20 = .ok (.iload_n 1, 1) := by decide +kernel
theorem dX5_codeOfRank_21 : decode cX5_codeOfRank 21 = .ok (.if_icmp .ne 10, 3) := by decide +kernel
end
section
theorem dX5_codeOfRank_24 : decode cX5_codeOfRank 24 = .ok (.aload_n 0, 1) := by decide +kernel
theorem dX5_codeOfRank_25 : decode cX5_codeOfRank 25 = .ok (.getfield 18, 3) := by decide +kernel
theorem dX5_codeOfRank_28 : decode cX5_codeOfRank 28 = .ok (.iload_n 2, 1) := by decide +kernel
theorem dX5_codeOfRank_29 : decode cX5_codeOfRank 29 = .ok (.iaload, 1) := by decide +kernel
theorem dX5_codeOfRank_30 : decode cX5_codeOfRank 30 = .ok (.ireturn, 1) := by decide +kernel
theorem dX5_codeOfRank_31 : decode cX5_codeOfRank 31 = .ok (.iinc 2 1, 3) := by decide +kernel
theorem dX5_codeOfRank_34 : decode cX5_codeOfRank 34 = .ok (.goto (-32), 3) := by decide +kernel
theorem dX5_codeOfRank_37 : decode cX5_codeOfRank 37 = .ok (.bipush (-5), 2) := by decide +kernel
theorem dX5_codeOfRank_39 : decode cX5_codeOfRank 39 = .ok (.ireturn, 1) := by decide +kernel
theorem dX5_rankOf_0 : decode cX5_rankOf 0 = .ok (.iconst 0, 1) := by decide +kernel
theorem dX5_rankOf_1 : decode cX5_rankOf 1 = .ok (.istore_n 2, 1) := by decide +kernel
theorem dX5_rankOf_2 : decode cX5_rankOf 2 = .ok (.iconst 0, 1) := by decide +kernel
theorem dX5_rankOf_3 : decode cX5_rankOf 3 = .ok (.istore_n 3, 1) := by decide +kernel
theorem dX5_rankOf_4 : decode cX5_rankOf 4 = .ok (.iload_n 3, 1) := by decide +kernel
theorem dX5_rankOf_5 : decode cX5_rankOf 5 = .ok (.aload_n 0, 1) := by decide +kernel
theorem dX5_rankOf_6 : decode cX5_rankOf 6 = .ok (.getfield 25, 3) := by decide +kernel
theorem dX5_rankOf_9 : decode cX5_rankOf 9 = .ok (.if_icmp .ge 22, 3) := by decide +kernel
theorem dX5_rankOf_12 : decode cX5_rankOf 12 = .ok (.aload_n 0, 1) := by decide +kernel
theorem dX5_rankOf_13 : decode cX5_rankOf 13 = .ok (.getfield 18, 3) := by decide +kernel
theorem dX5_rankOf_16 : decode cX5_rankOf 16 = .ok (.iload_n 3, 1) := by decide +kernel
theorem dX5_rankOf_17 : decode cX5_rankOf 17 = .ok (.iaload, 1) := by decide +kernel
theorem dX5_rankOf_18 : decode cX5_rankOf 18 = .ok (.iload_n 1, 1) := by decide +kernel
theorem dX5_rankOf_19 : decode cX5_rankOf 19 = .ok (.if_icmp .ge 6, 3) := by decide +kernel
theorem dX5_rankOf_22 : decode cX5_rankOf 22 = .ok (.iinc 2 1, 3) := by decide +kernel
theorem dX5_rankOf_25 : decode cX5_rankOf 25 = .ok (.iinc 3 1, 3) := by decide +kernel
theorem dX5_rankOf_28 : decode cX5_rankOf 28 = .ok (.goto (-24), 3) := by decide +kernel
theorem dX5_rankOf_31 : decode cX5_rankOf 31 = .ok (.iload_n 2, 1) := by decide +kernel
theorem dX5_rankOf_32 : decode cX5_rankOf 32 = .ok (.ireturn, 1) := by decide +kernel
theorem dX6_init_0 : decode cX6_init 0 = .ok (.aload_n 0, 1) := by decide +kernel
theorem dX6_init_1 : decode cX6_init 1 = .ok (.invokespecial 3, 3) := by decide +kernel
theorem dX6_init_4 : decode cX6_init 4 = .ok (.aload_n 0, 1) := by decide +kernel
theorem dX6_init_5 : decode cX6_init 5 = .ok (.iconst (-1), 1) := by decide +kernel
theorem dX6_init_6 : decode cX6_init 6 = .ok (.putfield 9, 3) := by decide +kernel
theorem dX6_init_9 : decode cX6_init 9 = .ok (.aload_n 0, 1) := by decide +kernel
theorem dX6_init_10 : decode cX6_init 10 = .ok (.iconst 0, 1) := by decide +kernel
theorem dX6_init_11 : decode cX6_init 11 = .ok (.putfield 15, 3) := by decide +kernel
theorem dX6_init_14 : decode cX6_init 14 = .ok (.aload_n 0, 1) := by decide +kernel
theorem dX6_init_15 : decode cX6_init 15 = .ok (.bipush 60, 2) := by decide +kernel
theorem dX6_init_17 : decode cX6_init 17 = .ok (.newarray .long, 2) := by decide +kernel
theorem dX6_init_19 : decode cX6_init 19 = .ok (.putfield 18, 3) := by decide +kernel
theorem dX6_init_22 : decode cX6_init 22 = .ok (.return_, 1) := by decide +kernel
theorem dX6_become_0 : decode cX6_become 0 = .ok (.aload_n 0, 1) := by decide +kernel
theorem dX6_become_1 : decode cX6_become 1 = .ok (.iload_n 1, 1) := by decide +kernel
theorem dX6_become_2 : decode cX6_become 2 = .ok (.putfield 9, 3) := by decide +kernel
theorem dX6_become_5 : decode cX6_become 5 = .ok (.aload_n 0, 1) := by decide +kernel
theorem dX6_become_6 : decode cX6_become 6 = .ok (.iconst 0, 1) := by decide +kernel
theorem dX6_become_7 : decode cX6_become 7 = .ok (.iload_n 2, 1) := by decide +kernel
theorem dX6_become_8 : decode cX6_become 8 = .ok (.bipush 60, 2) := by decide +kernel
theorem dX6_become_10 : decode cX6_become 10 = .ok (.invokestatic 22, 3) := by decide +kernel
theorem dX6_become_13 : decode cX6_become 13 = .ok (.invokestatic 28, 3) := by decide +kernel
theorem dX6_become_16 : decode cX6_become 16 = .ok (.putfield 15, 3) := by decide +kernel
theorem dX6_become_19 : decode cX6_become 19 = .ok (.aload_n 0, 1) := by decide +kernel
theorem dX6_become_20 : decode cX6_become 20 = .ok (.getfield 18, 3) := by decide +kernel
theorem dX6_become_23 : decode cX6_become 23 = .ok (.lconst 0, 1) := by decide +kernel
theorem dX6_become_24 : decode cX6_become 24 = .ok (.invokestatic 31, 3) := by decide +kernel
theorem dX6_become_27 : decode cX6_become 27 = .ok (.return_, 1) := by decide +kernel
theorem dX6_hasPlace_0 : decode cX6_hasPlace 0 = .ok (.iload_n 1, 1) := by decide +kernel
theorem dX6_hasPlace_1 : decode cX6_hasPlace 1 = .ok (.ifCond .lt 15, 3) := by decide +kernel
theorem dX6_hasPlace_4 : decode cX6_hasPlace 4 = .ok (.iload_n 1, 1) := by decide +kernel
theorem dX6_hasPlace_5 : decode cX6_hasPlace 5 = .ok (.aload_n 0, 1) := by decide +kernel
theorem dX6_hasPlace_6 : decode cX6_hasPlace 6 = .ok (.getfield 15, 3) := by decide +kernel
theorem dX6_hasPlace_9 : decode cX6_hasPlace 9 = .ok (.if_icmp .ge 7, 3) := by decide +kernel
theorem dX6_hasPlace_12 : decode cX6_hasPlace 12 = .ok (.iconst 1, 1) := by decide +kernel
theorem dX6_hasPlace_13 : decode cX6_hasPlace 13 = .ok (.goto 4, 3) := by decide +kernel
theorem dX6_hasPlace_16 : decode cX6_hasPlace 16 = .ok (.iconst 0, 1) := by decide +kernel
theorem dX6_hasPlace_17 : decode cX6_hasPlace 17 = .ok (.ireturn, 1) := by decide +kernel
theorem dX6_hasRun_0 : decode cX6_hasRun 0 = .ok (.iload_n 1, 1) := by decide +kernel
theorem dX6_hasRun_1 : decode cX6_hasRun 1 = .ok (.ifCond .lt 21, 3) := by decide +kernel
theorem dX6_hasRun_4 : decode cX6_hasRun 4 = .ok (.iload_n 2, 1) := by decide +kernel
theorem dX6_hasRun_5 : decode cX6_hasRun 5 = .ok (.ifCond .lt 17, 3) := by decide +kernel
theorem dX6_hasRun_8 : decode cX6_hasRun 8 = .ok (.iload_n 1, 1) := by decide +kernel
theorem dX6_hasRun_9 : decode cX6_hasRun 9 = .ok (.aload_n 0, 1) := by decide +kernel
theorem dX6_hasRun_10 : decode cX6_hasRun 10 = .ok (.getfield 15, 3) := by decide +kernel
theorem dX6_hasRun_13 : decode cX6_hasRun 13 = .ok (.iload_n 2, 1) := by decide +kernel
theorem dX6_hasRun_14 : decode cX6_hasRun 14 = .ok (.isub, 1) := by decide +kernel
theorem dX6_hasRun_15 : decode cX6_hasRun 15 = .ok (.if_icmp .gt 7, 3) := by decide +kernel
theorem dX6_hasRun_18 : decode cX6_hasRun 18 = .ok (.iconst 1, 1) := by decide +kernel
theorem dX6_hasRun_19 : decode cX6_hasRun 19 = .ok (.goto 4, 3) := by decide +kernel
theorem dX6_hasRun_22 : decode cX6_hasRun 22 = .ok (.iconst 0, 1) := by decide +kernel
theorem dX6_hasRun_23 : decode cX6_hasRun 23 = .ok (.ireturn, 1) := by decide +kernel
theorem dX6_put_0 : decode cX6_put 0 = .ok (.aload_n 0, 1) := by decide +kernel
theorem dX6_put_1 : decode cX6_put 1 = .ok (.iload_n 1, 1) := by decide +kernel
theorem dX6_put_2 : decode cX6_put 2 = .ok (.invokevirtual 37, 3) := by decide +kernel
theorem dX6_put_5 : decode cX6_put 5 = .ok (.ifCond .ne 4, 3) := by decide +kernel
theorem dX6_put_8 : decode cX6_put 8 = .ok (.return_, 1) := by decide +kernel
theorem dX6_put_9 : decode cX6_put 9 = .ok (.aload_n 0, 1) := by decide +kernel
theorem dX6_put_10 : decode cX6_put 10 = .ok (.getfield 9, 3) := by decide +kernel
theorem dX6_put_13 : decode cX6_put 13 = .ok (.tableswitch 79 0 3 #[31, 44, 57, 69], 31) := by decide +kernel
theorem dX6_put_44 : decode cX6_put 44 = .ok (.aload_n 0, 1) := by decide +kernel
theorem dX6_put_45 : decode cX6_put 45 = .ok (.getfield 18, 3) := by decide +kernel
theorem dX6_put_48 : decode cX6_put 48 = .ok (.iload_n 1, 1) := by decide +kernel
theorem dX6_put_49 : decode cX6_put 49 = .ok (.lload_n 2, 1) := by decide +kernel
theorem dX6_put_50 : decode cX6_put 50 = .ok (.l2i, 1) := by decide +kernel
theorem dX6_put_51 : decode cX6_put 51 = .ok (.i2b, 1) := by decide +kernel
theorem dX6_put_52 : decode cX6_put 52 = .ok (.i2l, 1) := by decide +kernel
theorem dX6_put_53 : decode cX6_put 53 = .ok (.lastore, 1) := by decide +kernel
theorem dX6_put_54 : decode cX6_put 54 = .ok (.goto 55, 3) := by decide +kernel
theorem dX6_put_57 : decode cX6_put 57 = .ok (.aload_n 0, 1) := by decide +kernel
theorem dX6_put_58 : decode cX6_put 58 = .ok (.getfield 18, 3) := by decide +kernel
theorem dX6_put_61 : decode cX6_put 61 = .ok (.iload_n 1, 1) := by decide +kernel
theorem dX6_put_62 : decode cX6_put 62 = .ok (.lload_n 2, 1) := by decide +kernel
theorem dX6_put_63 : decode cX6_put 63 = .ok (.l2i, 1) := by decide +kernel
theorem dX6_put_64 : decode cX6_put 64 = .ok (.i2s, 1) := by decide +kernel
theorem dX6_put_65 : decode cX6_put 65 = .ok (.i2l, 1) := by decide +kernel
theorem dX6_put_66 : decode cX6_put 66 = .ok (.lastore, 1) := by decide +kernel
theorem dX6_put_67 : decode cX6_put 67 = .ok (.goto 42, 3) := by decide +kernel
theorem dX6_put_70 : decode cX6_put 70 = .ok (.aload_n 0, 1) := by decide +kernel
theorem dX6_put_71 : decode cX6_put 71 = .ok (.getfield 18, 3) := by decide +kernel
theorem dX6_put_74 : decode cX6_put 74 = .ok (.iload_n 1, 1) := by decide +kernel
theorem dX6_put_75 : decode cX6_put 75 = .ok (.lload_n 2, 1) := by decide +kernel
theorem dX6_put_76 : decode cX6_put 76 = .ok (.l2i, 1) := by decide +kernel
theorem dX6_put_77 : decode cX6_put 77 = .ok (.i2l, 1) := by decide +kernel
theorem dX6_put_78 : decode cX6_put 78 = .ok (.lastore, 1) := by decide +kernel
theorem dX6_put_79 : decode cX6_put 79 = .ok (.goto 30, 3) := by decide +kernel
theorem dX6_put_82 : decode cX6_put 82 = .ok (.aload_n 0, 1) := by decide +kernel
theorem dX6_put_83 : decode cX6_put 83 = .ok (.getfield 18, 3) := by decide +kernel
theorem dX6_put_86 : decode cX6_put 86 = .ok (.iload_n 1, 1) := by decide +kernel
theorem dX6_put_87 : decode cX6_put 87 = .ok (.lload_n 2, 1) := by decide +kernel
theorem dX6_put_88 : decode cX6_put 88 = .ok (.lastore, 1) := by decide +kernel
theorem dX6_put_89 : decode cX6_put 89 = .ok (.goto 20, 3) := by decide +kernel
theorem dX6_put_92 : decode cX6_put 92 = .ok (.aload_n 0, 1) := by decide +kernel
theorem dX6_put_93 : decode cX6_put 93 = .ok (.getfield 18, 3) := by decide +kernel
theorem dX6_put_96 : decode cX6_put 96 = .ok (.iload_n 1, 1) := by decide +kernel
theorem dX6_put_97 : decode cX6_put 97 = .ok (.lload_n 2, 1) := by decide +kernel
theorem dX6_put_98 : decode cX6_put 98 = .ok (.lconst 0, 1) := by decide +kernel
theorem dX6_put_99 : decode cX6_put 99 = .ok (.lcmp, 1) := by decide +kernel
theorem dX6_put_100 : decode cX6_put 100 = .ok (.ifCond .eq 7, 3) := by decide +kernel
theorem dX6_put_103 : decode cX6_put 103 = .ok (.lconst 1, 1) := by decide +kernel
theorem dX6_put_104 : decode cX6_put 104 = .ok (.goto 4, 3) := by decide +kernel
theorem dX6_put_107 : decode cX6_put 107 = .ok (.lconst 0, 1) := by decide +kernel
theorem dX6_put_108 : decode cX6_put 108 = .ok (.lastore, 1) := by decide +kernel
theorem dX6_put_109 : decode cX6_put 109 = .ok (.return_, 1) := by decide +kernel
theorem dX7_init_0 : decode cX7_init 0 = .ok (.aload_n 0, 1) := by decide +kernel
theorem dX7_init_1 : decode cX7_init 1 = .ok (.invokespecial 3, 3) := by decide +kernel
theorem dX7_init_4 : decode cX7_init 4 = .ok (.aload_n 0, 1) := by decide +kernel
theorem dX7_init_5 : decode cX7_init 5 = .ok (.bipush 100, 2) := by decide +kernel
theorem dX7_init_7 : decode cX7_init 7 = .ok (.newarray .byte, 2) := by decide +kernel
theorem dX7_init_9 : decode cX7_init 9 = .ok (.putfield 9, 3) := by decide +kernel
theorem dX7_init_12 : decode cX7_init 12 = .ok (.aload_n 0, 1) := by decide +kernel
theorem dX7_init_13 : decode cX7_init 13 = .ok (.iconst 0, 1) := by decide +kernel
theorem dX7_init_14 : decode cX7_init 14 = .ok (.putfield 15, 3) := by decide +kernel
theorem dX7_init_17 : decode cX7_init 17 = .ok (.aload_n 0, 1) := by decide +kernel
theorem dX7_init_18 : decode cX7_init 18 = .ok (.iconst 0, 1) := by decide +kernel
theorem dX7_init_19 : decode cX7_init 19 = .ok (.putfield 19, 3) := by decide +kernel
theorem dX7_init_22 : decode cX7_init 22 = .ok (.aload_n 0, 1) := by decide +kernel
theorem dX7_init_23 : decode cX7_init 23 = .ok (.iconst 0, 1) := by decide +kernel
theorem dX7_init_24 : decode cX7_init 24 = .ok (.putfield 22, 3) := by decide +kernel
theorem dX7_init_27 : decode cX7_init 27 = .ok (.aload_n 0, 1) := by decide +kernel
theorem dX7_init_28 : decode cX7_init 28 = .ok (.bipush 12, 2) := by decide +kernel
theorem dX7_init_30 : decode cX7_init 30 = .ok (.newarray .int, 2) := by decide +kernel
theorem dX7_init_32 : decode cX7_init 32 = .ok (.putfield 25, 3) := by decide +kernel
theorem dX7_init_35 : decode cX7_init 35 = .ok (.aload_n 0, 1) := by decide +kernel
theorem dX7_init_36 : decode cX7_init 36 = .ok (.bipush 12, 2) := by decide +kernel
theorem dX7_init_38 : decode cX7_init 38 = .ok (.newarray .int, 2) := by decide +kernel
theorem dX7_init_40 : decode cX7_init 40 = .ok (.putfield 29, 3) := by decide +kernel
theorem dX7_init_43 : decode cX7_init 43 = .ok (.aload_n 0, 1) := by decide +kernel
theorem dX7_init_44 : decode cX7_init 44 = .ok (.bipush 12, 2) := by decide +kernel
theorem dX7_init_46 : decode cX7_init 46 = .ok (.newarray .int, 2) := by decide +kernel
theorem dX7_init_48 : decode cX7_init 48 = .ok (.putfield 32, 3) := by decide +kernel
theorem dX7_init_51 : decode cX7_init 51 = .ok (.return_, 1) := by decide +kernel
theorem dX7_add_0 : decode cX7_add 0 = .ok (.aload_n 0, 1) := by decide +kernel
theorem dX7_add_1 : decode cX7_add 1 = .ok (.getfield 19, 3) := by decide +kernel
theorem dX7_add_4 : decode cX7_add 4 = .ok (.bipush 100, 2) := by decide +kernel
theorem dX7_add_6 : decode cX7_add 6 = .ok (.if_icmp .lt 6, 3) := by decide +kernel
theorem dX7_add_9 : decode cX7_add 9 = .ok (.bipush (-4), 2) := by decide +kernel
theorem dX7_add_11 : decode cX7_add 11 = .ok (.ireturn, 1) := by decide +kernel
theorem dX7_add_12 : decode cX7_add 12 = .ok (.aload_n 0, 1) := by decide +kernel
theorem dX7_add_13 : decode cX7_add 13 = .ok (.getfield 9, 3) := by decide +kernel
theorem dX7_add_16 : decode cX7_add 16 = .ok (.aload_n 0, 1) := by decide +kernel
theorem dX7_add_17 : decode cX7_add 17 = .ok (.getfield 19, 3) := by decide +kernel
theorem dX7_add_20 : decode cX7_add 20 = .ok (.iload_n 1, 1) := by decide +kernel
theorem dX7_add_21 : decode cX7_add 21 = .ok (.i2b, 1) := by decide +kernel
theorem dX7_add_22 : decode cX7_add 22 = .ok (.bastore, 1) := by decide +kernel
theorem dX7_add_23 : decode cX7_add 23 = .ok (.aload_n 0, 1) := by decide +kernel
theorem dX7_add_24 : decode cX7_add 24 = .ok (.dup, 1) := by decide +kernel
theorem dX7_add_25 : decode cX7_add 25 = .ok (.getfield 19, 3) := by decide +kernel
theorem dX7_add_28 : decode cX7_add 28 = .ok (.iconst 1, 1) := by decide +kernel
theorem dX7_add_29 : decode cX7_add 29 = .ok (.iadd, 1) := by decide +kernel
theorem dX7_add_30 : decode cX7_add 30 = .ok (.putfield 19, 3) := by decide +kernel
theorem dX7_add_33 : decode cX7_add 33 = .ok (.aload_n 0, 1) := by decide +kernel
theorem dX7_add_34 : decode cX7_add 34 = .ok (.getfield 19, 3) := by decide +kernel
theorem dX7_add_37 : decode cX7_add 37 = .ok (.ireturn, 1) := by decide +kernel
theorem dX7_clear_0 : decode cX7_clear 0 = .ok (.aload_n 0, 1) := by decide +kernel
theorem dX7_clear_1 : decode cX7_clear 1 = .ok (.iconst 0, 1) := by decide +kernel
theorem dX7_clear_2 : decode cX7_clear 2 = .ok (.putfield 19, 3) := by decide +kernel
theorem dX7_clear_5 : decode cX7_clear 5 = .ok (.return_, 1) := by decide +kernel
theorem dX7_findFault_0 : decode cX7_findFault 0 = .ok (.aload_n 0, 1) := by decide +kernel
theorem dX7_findFault_1 : decode cX7_findFault 1 = .ok (.iconst 0, 1) := by decide +kernel
theorem dX7_findFault_2 : decode cX7_findFault 2 = .ok (.putfield 15, 3) := by decide +kernel
theorem dX7_findFault_5 : decode cX7_findFault 5 = .ok (.aload_n 0, 1) := by decide +kernel
theorem dX7_findFault_6 : decode cX7_findFault 6 = .ok (.iconst 0, 1) := by decide +kernel
theorem dX7_findFault_7 : decode cX7_findFault 7 = .ok (.putfield 22, 3) := by decide +kernel
theorem dX7_findFault_10 : decode cX7_findFault 10 = .ok (.iconst 0, 1) := by decide +kernel
theorem dX7_findFault_11 : decode cX7_findFault 11 = .ok (.istore_n 1, 1) := by decide +kernel
theorem dX7_findFault_12 : decode cX7_findFault 12 = .ok (.iload_n 1, 1) := by decide +kernel
theorem dX7_findFault_13 : decode cX7_findFault 13 = .ok (.bipush 12, 2) := by decide +kernel
theorem dX7_findFault_15 : decode cX7_findFault 15 = .ok (.if_icmp .ge 75, 3) := by decide +kernel
theorem dX7_findFault_18 : decode cX7_findFault 18 = .ok (.aload_n 0, 1) := by decide +kernel
theorem dX7_findFault_19 : decode cX7_findFault 19 = .ok (.iload_n 1, 1) := by decide +kernel
theorem dX7_findFault_20 : decode cX7_findFault 20 = .ok (.invokevirtual 35, 3) := by decide +kernel
theorem dX7_findFault_23 : decode cX7_findFault 23 = .ok (.ifCond .ne 8, 3) := by decide +kernel
theorem dX7_findFault_26 : decode cX7_findFault 26 = .ok (.aload_n 0, 1) := by decide +kernel
theorem dX7_findFault_27 : decode cX7_findFault 27 = .ok (.getfield 15, 3) := by decide +kernel
theorem dX7_findFault_30 : decode cX7_findFault 30 = .ok (.ireturn, 1) := by decide +kernel
theorem dX7_findFault_31 : decode cX7_findFault 31 = .ok (.aload_n 0, 1) := by decide +kernel
theorem dX7_findFault_32 : decode cX7_findFault 32 = .ok (.iload_n 1, 1) := by decide +kernel
theorem dX7_findFault_33 : decode cX7_findFault 33 = .ok (.iconst 1, 1) := by decide +kernel
theorem dX7_findFault_34 : decode cX7_findFault 34 = .ok (.iadd, 1) := by decide +kernel
theorem dX7_findFault_35 : decode cX7_findFault 35 = .ok (.putfield 22, 3) := by decide +kernel
theorem dX7_findFault_38 : decode cX7_findFault 38 = .ok (.aload_n 0, 1) := by decide +kernel
theorem dX7_findFault_39 : decode cX7_findFault 39 = .ok (.getfield 15, 3) := by decide +kernel
theorem dX7_findFault_42 : decode cX7_findFault 42 = .ok (.aload_n 0, 1) := by decide +kernel
theorem dX7_findFault_43 : decode cX7_findFault 43 = .ok (.getfield 19, 3) := by decide +kernel
theorem dX7_findFault_46 : decode cX7_findFault 46 = .ok (.if_icmp .ne 5, 3) := by decide +kernel
theorem dX7_findFault_49 : decode cX7_findFault 49 = .ok (.iconst (-1), 1) := by decide +kernel
theorem dX7_findFault_50 : decode cX7_findFault 50 = .ok (.ireturn, 1) := by decide +kernel
theorem dX7_findFault_51 : decode cX7_findFault 51 = .ok (.aload_n 0, 1) := by decide +kernel
theorem dX7_findFault_52 : decode cX7_findFault 52 = .ok (.invokevirtual 39, 3) := by decide +kernel
theorem dX7_findFault_55 : decode cX7_findFault 55 = .ok (.bipush 59, 2) := by decide +kernel
theorem dX7_findFault_57 : decode cX7_findFault 57 = .ok (.if_icmp .ne 12, 3) := by decide +kernel
theorem dX7_findFault_60 : decode cX7_findFault 60 = .ok (.aload_n 0, 1) := by decide +kernel
theorem dX7_findFault_61 : decode cX7_findFault 61 = .ok (.getfield 22, 3) := by decide +kernel
theorem dX7_findFault_64 : decode cX7_findFault 64 = .ok (.bipush 12, 2) := by decide +kernel
theorem dX7_findFault_66 : decode cX7_findFault 66 = .ok (.if_icmp .ne 8, 3) := by decide +kernel
theorem dX7_findFault_69 : decode cX7_findFault 69 = .ok (.aload_n 0, 1) := by decide +kernel
theorem dX7_findFault_70 : decode cX7_findFault 70 = .ok (.getfield 15, 3) := by decide +kernel
theorem dX7_findFault_73 : decode cX7_findFault 73 = .ok (.ireturn, 1) := by decide +kernel
theorem dX7_findFault_74 : decode cX7_findFault 74 = .ok (.aload_n 0, 1) := by decide +kernel
theorem dX7_findFault_75 : decode cX7_findFault 75 = .ok (.dup, 1) := by decide +kernel
theorem dX7_findFault_76 : decode cX7_findFault 76 = .ok (.getfield 15, 3) := by decide +kernel
theorem dX7_findFault_79 : decode cX7_findFault 79 = .ok (.iconst 1, 1) := by decide +kernel
theorem dX7_findFault_80 : decode cX7_findFault 80 = .ok (.iadd, 1) := by decide +kernel
theorem dX7_findFault_81 : decode cX7_findFault 81 = .ok (.putfield 15, 3) := by decide +kernel
theorem dX7_findFault_84 : decode cX7_findFault 84 = .ok (.iinc 1 1, 3) := by decide +kernel
theorem dX7_findFault_87 : decode cX7_findFault 87 = .ok (.goto (-75), 3) := by decide +kernel
theorem dX7_findFault_90 : decode cX7_findFault 90 = .ok (.aload_n 0, 1) := by decide +kernel
theorem dX7_findFault_91 : decode cX7_findFault 91 = .ok (.getfield 15, 3) := by decide +kernel
theorem dX7_findFault_94 : decode cX7_findFault 94 = .ok (.ireturn, 1) := by decide +kernel
theorem dX7_takeClause_0 : decode cX7_takeClause 0 = .ok (.aload_n 0, 1) := by decide +kernel
theorem dX7_takeClause_1 : decode cX7_takeClause 1 = .ok (.invokevirtual 39, 3) := by decide +kernel
theorem dX7_takeClause_4 : decode cX7_takeClause 4 = .ok (.istore_n 2, 1) := by decide +kernel
theorem dX7_takeClause_5 : decode cX7_takeClause 5 = .ok (.iload_n 2, 1) := by decide +kernel
theorem dX7_takeClause_6 : decode cX7_takeClause 6 = .ok (.iconst 0, 1) := by decide +kernel
theorem dX7_takeClause_7 : decode cX7_takeClause 7 = .ok (.invokestatic 43, 3) := by decide +kernel
theorem dX7_takeClause_10 : decode cX7_takeClause 10 = .ok (.istore_n 3, 1) := by decide +kernel
theorem dX7_takeClause_11 : decode cX7_takeClause 11 = .ok (.iload_n 3, 1) := by decide +kernel
theorem dX7_takeClause_12 : decode cX7_takeClause 12 = .ok (.iconst (-1), 1) := by decide +kernel
theorem dX7_takeClause_13 : decode cX7_takeClause 13 = .ok (.if_icmp .ne 5, 3) := by decide +kernel
theorem dX7_takeClause_16 : decode cX7_takeClause 16 = .ok (.iconst 0, 1) := by decide +kernel
theorem dX7_takeClause_17 : decode cX7_takeClause 17 = .ok (.ireturn, 1) := by decide +kernel
theorem dX7_takeClause_18 : decode cX7_takeClause 18 = .ok (.aload_n 0, 1) := by decide +kernel
theorem dX7_takeClause_19 : decode cX7_takeClause 19 = .ok (.dup, 1) := by decide +kernel
theorem dX7_takeClause_20 : decode cX7_takeClause 20 = .ok (.getfield 15, 3) := by decide +kernel
theorem dX7_takeClause_23 : decode cX7_takeClause 23 = .ok (.iconst 1, 1) := by decide +kernel
theorem dX7_takeClause_24 : decode cX7_takeClause 24 = .ok (.iadd, 1) := by decide +kernel
theorem dX7_takeClause_25 : decode cX7_takeClause 25 = .ok (.putfield 15, 3) := by decide +kernel
theorem dX7_takeClause_28 : decode cX7_takeClause 28 = .ok (.aload_n 0, 1) := by decide +kernel
theorem dX7_takeClause_29 : decode cX7_takeClause 29 = .ok (.iload_n 3, 1) := by decide +kernel
theorem dX7_takeClause_30 : decode cX7_takeClause 30 = .ok (.invokevirtual 47, 3) := by decide +kernel
theorem dX7_takeClause_33 : decode cX7_takeClause 33 = .ok (.istore 4, 2) := by decide +kernel
theorem dX7_takeClause_35 : decode cX7_takeClause 35 = .ok (.iload 4, 2) := by decide +kernel
theorem dX7_takeClause_37 : decode cX7_takeClause 37 = .ok (.iconst (-1), 1) := by decide +kernel
theorem dX7_takeClause_38 : decode cX7_takeClause 38 = .ok (.if_icmp .ne 5, 3) := by decide +kernel
theorem dX7_takeClause_41 : decode cX7_takeClause 41 = .ok (.iconst 0, 1) := by decide +kernel
theorem dX7_takeClause_42 : decode cX7_takeClause 42 = .ok (.ireturn, 1) := by decide +kernel
theorem dX7_takeClause_43 : decode cX7_takeClause 43 = .ok (.aload_n 0, 1) := by decide +kernel
theorem dX7_takeClause_44 : decode cX7_takeClause 44 = .ok (.iload_n 2, 1) := by decide +kernel
theorem dX7_takeClause_45 : decode cX7_takeClause 45 = .ok (.iconst 1, 1) := by decide +kernel
theorem dX7_takeClause_46 : decode cX7_takeClause 46 = .ok (.invokestatic 43, 3) := by decide +kernel
theorem dX7_takeClause_49 : decode cX7_takeClause 49 = .ok (.invokevirtual 47, 3) := by decide +kernel
theorem dX7_takeClause_52 : decode cX7_takeClause 52 = .ok (.istore 5, 2) := by decide +kernel
theorem dX7_takeClause_54 : decode cX7_takeClause 54 = .ok (.aload_n 0, 1) := by decide +kernel
theorem dX7_takeClause_55 : decode cX7_takeClause 55 = .ok (.getfield 25, 3) := by decide +kernel
theorem dX7_takeClause_58 : decode cX7_takeClause 58 = .ok (.iload_n 1, 1) := by decide +kernel
theorem dX7_takeClause_59 : decode cX7_takeClause 59 = .ok (.iload_n 2, 1) := by decide +kernel
theorem dX7_takeClause_60 : decode cX7_takeClause 60 = .ok (.iastore, 1) := by decide +kernel
theorem dX7_takeClause_61 : decode cX7_takeClause 61 = .ok (.aload_n 0, 1) := by decide +kernel
theorem dX7_takeClause_62 : decode cX7_takeClause 62 = .ok (.getfield 29, 3) := by decide +kernel
theorem dX7_takeClause_65 : decode cX7_takeClause 65 = .ok (.iload_n 1, 1) := by decide +kernel
theorem dX7_takeClause_66 : decode cX7_takeClause 66 = .ok (.iload 4, 2) := by decide +kernel
theorem dX7_takeClause_68 : decode cX7_takeClause 68 = .ok (.iastore, 1) := by decide +kernel
theorem dX7_takeClause_69 : decode cX7_takeClause 69 = .ok (.aload_n 0, 1) := by decide +kernel
theorem dX7_takeClause_70 : decode cX7_takeClause 70 = .ok (.getfield 32, 3) := by decide +kernel
theorem dX7_takeClause_73 : decode cX7_takeClause 73 = .ok (.iload_n 1, 1) := by decide +kernel
theorem dX7_takeClause_74 : decode cX7_takeClause 74 = .ok (.iload 5, 2) := by decide +kernel
theorem dX7_takeClause_76 : decode cX7_takeClause 76 = .ok (.iastore, 1) := by decide +kernel
theorem dX7_takeClause_77 : decode cX7_takeClause 77 = .ok (.iload 5, 2) := by decide +kernel
theorem dX7_takeClause_79 : decode cX7_takeClause 79 = .ok (.iconst (-1), 1) := by decide +kernel
theorem dX7_takeClause_80 : decode cX7_takeClause 80 = .ok (.if_icmp .eq 7, 3) := by decide +kernel
theorem dX7_takeClause_83 : decode cX7_takeClause 83 = .ok (.iconst 1, 1) := by decide +kernel
theorem dX7_takeClause_84 : decode cX7_takeClause 84 = .ok (.goto 4, 3) := by decide +kernel
theorem dX7_takeClause_87 : decode cX7_takeClause 87 = .ok (.iconst 0, 1) := by decide +kernel
theorem dX7_takeClause_88 : decode cX7_takeClause 88 = .ok (.ireturn, 1) := by decide +kernel
theorem dX7_mostDigits_0 : decode cX7_mostDigits 0 = .ok (.iload_n 0, 1) := by decide +kernel
theorem dX7_mostDigits_1 : decode cX7_mostDigits 1 = .ok (.tableswitch 151 98 119 #[113, 151, 151, 151, 151, 151, 151, 151, 151, 147, 133, 151, 103, 151, 151, 151, 123, 145, 151, 149, 151, 143], 103) := by decide +kernel
theorem dX7_mostDigits_104 : decode cX7_mostDigits 104 = .ok (.iload_n 1, 1) := by decide +kernel
theorem dX7_mostDigits_105 : decode cX7_mostDigits 105 = .ok (.ifCond .ne 7, 3) := by decide +kernel
theorem dX7_mostDigits_108 : decode cX7_mostDigits 108 = .ok (.iconst 1, 1) := by decide +kernel
theorem dX7_mostDigits_109 : decode cX7_mostDigits 109 = .ok (.goto 4, 3) := by decide +kernel
theorem dX7_mostDigits_112 : decode cX7_mostDigits 112 = .ok (.iconst 0, 1) := by decide +kernel
theorem dX7_mostDigits_113 : decode cX7_mostDigits 113 = .ok (.ireturn, 1) := by decide +kernel
theorem dX7_mostDigits_114 : decode cX7_mostDigits 114 = .ok (.iload_n 1, 1) := by decide +kernel
theorem dX7_mostDigits_115 : decode cX7_mostDigits 115 = .ok (.ifCond .ne 7, 3) := by decide +kernel
theorem dX7_mostDigits_118 : decode cX7_mostDigits 118 = .ok (.iconst 1, 1) := by decide +kernel
theorem dX7_mostDigits_119 : decode cX7_mostDigits 119 = .ok (.goto 4, 3) := by decide +kernel
theorem dX7_mostDigits_122 : decode cX7_mostDigits 122 = .ok (.iconst 0, 1) := by decide +kernel
theorem dX7_mostDigits_123 : decode cX7_mostDigits 123 = .ok (.ireturn, 1) := by decide +kernel
theorem dX7_mostDigits_124 : decode cX7_mostDigits 124 = .ok (.iload_n 1, 1) := by decide +kernel
theorem dX7_mostDigits_125 : decode cX7_mostDigits 125 = .ok (.ifCond .ne 7, 3) := by decide +kernel
theorem dX7_mostDigits_128 : decode cX7_mostDigits 128 = .ok (.iconst 5, 1) := by decide +kernel
theorem dX7_mostDigits_129 : decode cX7_mostDigits 129 = .ok (.goto 4, 3) := by decide +kernel
theorem dX7_mostDigits_132 : decode cX7_mostDigits 132 = .ok (.iconst 0, 1) := by decide +kernel
theorem dX7_mostDigits_133 : decode cX7_mostDigits 133 = .ok (.ireturn, 1) := by decide +kernel
theorem dX7_mostDigits_134 : decode cX7_mostDigits 134 = .ok (.iload_n 1, 1) := by decide +kernel
theorem dX7_mostDigits_135 : decode cX7_mostDigits 135 = .ok (.ifCond .ne 7, 3) := by decide +kernel
theorem dX7_mostDigits_138 : decode cX7_mostDigits 138 = .ok (.iconst 1, 1) := by decide +kernel
theorem dX7_mostDigits_139 : decode cX7_mostDigits 139 = .ok (.goto 4, 3) := by decide +kernel
theorem dX7_mostDigits_142 : decode cX7_mostDigits 142 = .ok (.iconst 3, 1) := by decide +kernel
theorem dX7_mostDigits_143 : decode cX7_mostDigits 143 = .ok (.ireturn, 1) := by decide +kernel
theorem dX7_mostDigits_144 : decode cX7_mostDigits 144 = .ok (.iconst 1, 1) := by decide +kernel
theorem dX7_mostDigits_145 : decode cX7_mostDigits 145 = .ok (.ireturn, 1) := by decide +kernel
theorem dX7_mostDigits_146 : decode cX7_mostDigits 146 = .ok (.iconst 0, 1) := by decide +kernel
theorem dX7_mostDigits_147 : decode cX7_mostDigits 147 = .ok (.ireturn, 1) := by decide +kernel
theorem dX7_mostDigits_148 : decode cX7_mostDigits 148 = .ok (.iconst 0, 1) := by decide +kernel
theorem dX7_mostDigits_149 : decode cX7_mostDigits 149 = .ok (.ireturn, 1) := by decide +kernel
theorem dX7_mostDigits_150 : decode cX7_mostDigits 150 = .ok (.iconst 0, 1) := by decide +kernel
theorem dX7_mostDigits_151 : decode cX7_mostDigits 151 = .ok (.ireturn, 1) := by decide +kernel
theorem dX7_mostDigits_152 : decode cX7_mostDigits 152 = .ok (.iconst (-1), 1) := by decide +kernel
theorem dX7_mostDigits_153 : decode cX7_mostDigits 153 = .ok (.ireturn, 1) := by decide +kernel
theorem dX7_takeNumber_0 : decode cX7_takeNumber 0 = .ok (.iconst 0, 1) := by decide +kernel
theorem dX7_takeNumber_1 : decode cX7_takeNumber 1 = .ok (.istore_n 2, 1) := by decide +kernel
theorem dX7_takeNumber_2 : decode cX7_takeNumber 2 = .ok (.iconst 0, 1) := by decide +kernel
theorem dX7_takeNumber_3 : decode cX7_takeNumber 3 = .ok (.istore_n 3, 1) := by decide +kernel
theorem dX7_takeNumber_4 : decode cX7_takeNumber 4 = .ok (.iload_n 3, 1) := by decide +kernel
theorem dX7_takeNumber_5 : decode cX7_takeNumber 5 = .ok (.iload_n 1, 1) := by decide +kernel
theorem dX7_takeNumber_6 : decode cX7_takeNumber 6 = .ok (.if_icmp .ge 58, 3) := by decide +kernel
theorem dX7_takeNumber_9 : decode cX7_takeNumber 9 = .ok (.aload_n 0, 1) := by decide +kernel
theorem dX7_takeNumber_10 : decode cX7_takeNumber 10 = .ok (.invokevirtual 39, 3) := by decide +kernel
theorem dX7_takeNumber_13 : decode cX7_takeNumber 13 = .ok (.bipush 48, 2) := by decide +kernel
theorem dX7_takeNumber_15 : decode cX7_takeNumber 15 = .ok (.isub, 1) := by decide +kernel
theorem dX7_takeNumber_16 : decode cX7_takeNumber 16 = .ok (.istore 4, 2) := by decide +kernel
theorem dX7_takeNumber_18 : decode cX7_takeNumber 18 = .ok (.iload 4, 2) := by decide +kernel
theorem dX7_takeNumber_20 : decode cX7_takeNumber 20 = .ok (.ifCond .lt 10, 3) := by decide +kernel
theorem dX7_takeNumber_23 : decode cX7_takeNumber 23 = .ok (.iload 4, 2) := by decide +kernel
theorem dX7_takeNumber_25 : decode cX7_takeNumber 25 = .ok (.bipush 9, 2) := by decide +kernel
theorem dX7_takeNumber_27 : decode cX7_takeNumber 27 = .ok (.if_icmp .le 13, 3) := by decide +kernel
theorem dX7_takeNumber_30 : decode cX7_takeNumber 30 = .ok (.iload_n 3, 1) := by decide +kernel
theorem dX7_takeNumber_31 : decode cX7_takeNumber 31 = .ok (.ifCond .ne 7, 3) := by decide +kernel
theorem dX7_takeNumber_34 : decode cX7_takeNumber 34 = .ok (.iconst (-1), 1) := by decide +kernel
theorem dX7_takeNumber_35 : decode cX7_takeNumber 35 = .ok (.goto 4, 3) := by decide +kernel
theorem dX7_takeNumber_38 : decode cX7_takeNumber 38 = .ok (.iload_n 2, 1) := by decide +kernel
theorem dX7_takeNumber_39 : decode cX7_takeNumber 39 = .ok (.ireturn, 1) := by decide +kernel
theorem dX7_takeNumber_40 : decode cX7_takeNumber 40 = .ok (.iload_n 2, 1) := by decide +kernel
theorem dX7_takeNumber_41 : decode cX7_takeNumber 41 = .ok (.bipush 10, 2) := by decide +kernel
theorem dX7_takeNumber_43 : decode cX7_takeNumber 43 = .ok (.imul, 1) := by decide +kernel
theorem dX7_takeNumber_44 : decode cX7_takeNumber 44 = .ok (.iload 4, 2) := by decide +kernel
theorem dX7_takeNumber_46 : decode cX7_takeNumber 46 = .ok (.iadd, 1) := by decide +kernel
theorem dX7_takeNumber_47 : decode cX7_takeNumber 47 = .ok (.istore_n 2, 1) := by decide +kernel
theorem dX7_takeNumber_48 : decode cX7_takeNumber 48 = .ok (.aload_n 0, 1) := by decide +kernel
theorem dX7_takeNumber_49 : decode cX7_takeNumber 49 = .ok (.dup, 1) := by decide +kernel
theorem dX7_takeNumber_50 : decode cX7_takeNumber 50 = .ok (.getfield 15, 3) := by decide +kernel
theorem dX7_takeNumber_53 : decode cX7_takeNumber 53 = .ok (.iconst 1, 1) := by decide +kernel
theorem dX7_takeNumber_54 : decode cX7_takeNumber 54 = .ok (.iadd, 1) := by decide +kernel
theorem dX7_takeNumber_55 : decode cX7_takeNumber 55 = .ok (.putfield 15, 3) := by decide +kernel
theorem dX7_takeNumber_58 : decode cX7_takeNumber 58 = .ok (.iinc 3 1, 3) := by decide +kernel
theorem dX7_takeNumber_61 : decode cX7_takeNumber 61 = .ok (.goto (-57), 3) := by decide +kernel
theorem dX7_takeNumber_64 : decode cX7_takeNumber 64 = .ok (.iload_n 2, 1) := by decide +kernel
theorem dX7_takeNumber_65 : decode cX7_takeNumber 65 = .ok (.ireturn, 1) := by decide +kernel
theorem dX7_signHere_0 : decode cX7_signHere 0 = .ok (.aload_n 0, 1) := by decide +kernel
theorem dX7_signHere_1 : decode cX7_signHere 1 = .ok (.getfield 15, 3) := by decide +kernel
theorem dX7_signHere_4 : decode cX7_signHere 4 = .ok (.ifCond .lt 26, 3) := by decide +kernel
theorem dX7_signHere_7 : decode cX7_signHere 7 = .ok (.aload_n 0, 1) := by decide +kernel
theorem dX7_signHere_8 : decode cX7_signHere 8 = .ok (.getfield 15, 3) := by decide +kernel
theorem dX7_signHere_11 : decode cX7_signHere 11 = .ok (.aload_n 0, 1) := by decide +kernel
theorem dX7_signHere_12 : decode cX7_signHere 12 = .ok (.getfield 19, 3) := by decide +kernel
theorem dX7_signHere_15 : decode cX7_signHere 15 = .ok (.if_icmp .ge 15, 3) := by decide +kernel
theorem dX7_signHere_18 : decode cX7_signHere 18 = .ok (.aload_n 0, 1) := by decide +kernel
theorem dX7_signHere_19 : decode cX7_signHere 19 = .ok (.getfield 9, 3) := by decide +kernel
theorem dX7_signHere_22 : decode cX7_signHere 22 = .ok (.aload_n 0, 1) := by decide +kernel
theorem dX7_signHere_23 : decode cX7_signHere 23 = .ok (.getfield 15, 3) := by decide +kernel
theorem dX7_signHere_26 : decode cX7_signHere 26 = .ok (.baload, 1) := by decide +kernel
theorem dX7_signHere_27 : decode cX7_signHere 27 = .ok (.goto 4, 3) := by decide +kernel
theorem dX7_signHere_30 : decode cX7_signHere 30 = .ok (.iconst (-1), 1) := by decide +kernel
theorem dX7_signHere_31 : decode cX7_signHere 31 = .ok (.ireturn, 1) := by decide +kernel
theorem dX8_init_0 : decode cX8_init 0 = .ok (.aload_n 0, 1) := by decide +kernel
theorem dX8_init_1 : decode cX8_init 1 = .ok (.invokespecial 5, 3) := by decide +kernel
theorem dX8_init_4 : decode cX8_init 4 = .ok (.aload_n 0, 1) := by decide +kernel
theorem dX8_init_5 : decode cX8_init 5 = .ok (.new 11, 3) := by decide +kernel
theorem dX8_init_8 : decode cX8_init 8 = .ok (.dup, 1) := by decide +kernel
theorem dX8_init_9 : decode cX8_init 9 = .ok (.invokespecial 13, 3) := by decide +kernel
theorem dX8_init_12 : decode cX8_init 12 = .ok (.putfield 14, 3) := by decide +kernel
theorem dX8_init_15 : decode cX8_init 15 = .ok (.aload_n 0, 1) := by decide +kernel
theorem dX8_init_16 : decode cX8_init 16 = .ok (.new 11, 3) := by decide +kernel
theorem dX8_init_19 : decode cX8_init 19 = .ok (.dup, 1) := by decide +kernel
theorem dX8_init_20 : decode cX8_init 20 = .ok (.invokespecial 13, 3) := by decide +kernel
theorem dX8_init_23 : decode cX8_init 23 = .ok (.putfield 18, 3) := by decide +kernel
theorem dX8_init_26 : decode cX8_init 26 = .ok (.aload_n 0, 1) := by decide +kernel
theorem dX8_init_27 : decode cX8_init 27 = .ok (.iconst 0, 1) := by decide +kernel
theorem dX8_init_28 : decode cX8_init 28 = .ok (.putfield 21, 3) := by decide +kernel
theorem dX8_init_31 : decode cX8_init 31 = .ok (.aload_n 0, 1) := by decide +kernel
theorem dX8_init_32 : decode cX8_init 32 = .ok (.new 25, 3) := by decide +kernel
theorem dX8_init_35 : decode cX8_init 35 = .ok (.dup, 1) := by decide +kernel
theorem dX8_init_36 : decode cX8_init 36 = .ok (.invokespecial 27, 3) := by decide +kernel
theorem dX8_init_39 : decode cX8_init 39 = .ok (.putfield 28, 3) := by decide +kernel
theorem dX8_init_42 : decode cX8_init 42 = .ok (.aload_n 0, 1) := by decide +kernel
theorem dX8_init_43 : decode cX8_init 43 = .ok (.new 32, 3) := by decide +kernel
theorem dX8_init_46 : decode cX8_init 46 = .ok (.dup, 1) := by decide +kernel
theorem dX8_init_47 : decode cX8_init 47 = .ok (.invokespecial 34, 3) := by decide +kernel
theorem dX8_init_50 : decode cX8_init 50 = .ok (.putfield 35, 3) := by decide +kernel
theorem dX8_init_53 : decode cX8_init 53 = .ok (.aload_n 0, 1) := by decide +kernel
theorem dX8_init_54 : decode cX8_init 54 = .ok (.new 39, 3) := by decide +kernel
theorem dX8_init_57 : decode cX8_init 57 = .ok (.dup, 1) := by decide +kernel
theorem dX8_init_58 : decode cX8_init 58 = .ok (.invokespecial 41, 3) := by decide +kernel
theorem dX8_init_61 : decode cX8_init 61 = .ok (.putfield 42, 3) := by decide +kernel
theorem dX8_init_64 : decode cX8_init 64 = .ok (.aload_n 0, 1) := by decide +kernel
theorem dX8_init_65 : decode cX8_init 65 = .ok (.new 46, 3) := by decide +kernel
theorem dX8_init_68 : decode cX8_init 68 = .ok (.dup, 1) := by decide +kernel
theorem dX8_init_69 : decode cX8_init 69 = .ok (.invokespecial 48, 3) := by decide +kernel
theorem dX8_init_72 : decode cX8_init 72 = .ok (.putfield 49, 3) := by decide +kernel
theorem dX8_init_75 : decode cX8_init 75 = .ok (.aload_n 0, 1) := by decide +kernel
theorem dX8_init_76 : decode cX8_init 76 = .ok (.new 53, 3) := by decide +kernel
theorem dX8_init_79 : decode cX8_init 79 = .ok (.dup, 1) := by decide +kernel
theorem dX8_init_80 : decode cX8_init 80 = .ok (.invokespecial 55, 3) := by decide +kernel
theorem dX8_init_83 : decode cX8_init 83 = .ok (.putfield 56, 3) := by decide +kernel
theorem dX8_init_86 : decode cX8_init 86 = .ok (.aload_n 0, 1) := by decide +kernel
theorem dX8_init_87 : decode cX8_init 87 = .ok (.bipush 6, 2) := by decide +kernel
theorem dX8_init_89 : decode cX8_init 89 = .ok (.anewarray 60, 3) := by decide +kernel
theorem dX8_init_92 : decode cX8_init 92 = .ok (.putfield 62, 3) := by decide +kernel
theorem dX8_init_95 : decode cX8_init 95 = .ok (.iconst 0, 1) := by decide +kernel
theorem dX8_init_96 : decode cX8_init 96 = .ok (.istore_n 1, 1) := by decide +kernel
theorem dX8_init_97 : decode cX8_init 97 = .ok (.iload_n 1, 1) := by decide +kernel
theorem dX8_init_98 : decode cX8_init 98 = .ok (.bipush 6, 2) := by decide +kernel
theorem dX8_init_100 : decode cX8_init 100 = .ok (.if_icmp .ge 22, 3) := by decide +kernel
theorem dX8_init_103 : decode cX8_init 103 = .ok (.aload_n 0, 1) := by decide +kernel
theorem dX8_init_104 : decode cX8_init 104 = .ok (.getfield 62, 3) := by decide +kernel
theorem dX8_init_107 : decode cX8_init 107 = .ok (.iload_n 1, 1) := by decide +kernel
theorem dX8_init_108 : decode cX8_init 108 = .ok (.new 60, 3) := by decide +kernel
theorem dX8_init_111 : decode cX8_init 111 = .ok (.dup, 1) := by decide +kernel
theorem dX8_init_112 : decode cX8_init 112 = .ok (.invokespecial 66, 3) := by decide +kernel
theorem dX8_init_115 : decode cX8_init 115 = .ok (.aastore, 1) := by decide +kernel
theorem dX8_init_116 : decode cX8_init 116 = .ok (.iinc 1 1, 3) := by decide +kernel
theorem dX8_init_119 : decode cX8_init 119 = .ok (.goto (-22), 3) := by decide +kernel
theorem dX8_init_122 : decode cX8_init 122 = .ok (.return_, 1) := by decide +kernel
theorem dX8_letters_0 : decode cX8_letters 0 = .ok (.iload_n 1, 1) := by decide +kernel
theorem dX8_letters_1 : decode cX8_letters 1 = .ok (.iconst 2, 1) := by decide +kernel
theorem dX8_letters_2 : decode cX8_letters 2 = .ok (.if_icmp .lt 8, 3) := by decide +kernel
theorem dX8_letters_5 : decode cX8_letters 5 = .ok (.iload_n 1, 1) := by decide +kernel
theorem dX8_letters_6 : decode cX8_letters 6 = .ok (.iconst 5, 1) := by decide +kernel
theorem dX8_letters_7 : decode cX8_letters 7 = .ok (.if_icmp .le 6, 3) := by decide +kernel
theorem dX8_letters_10 : decode cX8_letters 10 = .ok (.bipush (-2), 2) := by decide +kernel
theorem dX8_letters_12 : decode cX8_letters 12 = .ok (.ireturn, 1) := by decide +kernel
theorem dX8_letters_13 : decode cX8_letters 13 = .ok (.aload_n 0, 1) := by decide +kernel
theorem dX8_letters_14 : decode cX8_letters 14 = .ok (.getfield 14, 3) := by decide +kernel
theorem dX8_letters_17 : decode cX8_letters 17 = .ok (.getfield 67, 3) := by decide +kernel
theorem dX8_letters_20 : decode cX8_letters 20 = .ok (.getfield 70, 3) := by decide +kernel
theorem dX8_letters_23 : decode cX8_letters 23 = .ok (.istore_n 2, 1) := by decide +kernel
theorem dX8_letters_24 : decode cX8_letters 24 = .ok (.aload_n 0, 1) := by decide +kernel
theorem dX8_letters_25 : decode cX8_letters 25 = .ok (.getfield 14, 3) := by decide +kernel
theorem dX8_letters_28 : decode cX8_letters 28 = .ok (.iload_n 1, 1) := by decide +kernel
theorem dX8_letters_29 : decode cX8_letters 29 = .ok (.invokevirtual 74, 3) := by decide +kernel
theorem dX8_letters_32 : decode cX8_letters 32 = .ok (.aload_n 0, 1) := by decide +kernel
theorem dX8_letters_33 : decode cX8_letters 33 = .ok (.getfield 28, 3) := by decide +kernel
theorem dX8_letters_36 : decode cX8_letters 36 = .ok (.invokevirtual 78, 3) := by decide +kernel
theorem dX8_letters_39 : decode cX8_letters 39 = .ok (.iload_n 2, 1) := by decide +kernel
theorem dX8_letters_40 : decode cX8_letters 40 = .ok (.ireturn, 1) := by decide +kernel
theorem dX8_bottom_0 : decode cX8_bottom 0 = .ok (.iload_n 1, 1) := by decide +kernel
theorem dX8_bottom_1 : decode cX8_bottom 1 = .ok (.aload_n 0, 1) := by decide +kernel
theorem dX8_bottom_2 : decode cX8_bottom 2 = .ok (.getfield 14, 3) := by decide +kernel
theorem dX8_bottom_5 : decode cX8_bottom 5 = .ok (.getfield 67, 3) := by decide +kernel
theorem dX8_bottom_8 : decode cX8_bottom 8 = .ok (.getfield 70, 3) := by decide +kernel
theorem dX8_bottom_11 : decode cX8_bottom 11 = .ok (.invokestatic 81, 3) := by decide +kernel
theorem dX8_bottom_14 : decode cX8_bottom 14 = .ok (.ifCond .ne 6, 3) := by decide +kernel
theorem dX8_bottom_17 : decode cX8_bottom 17 = .ok (.bipush (-2), 2) := by decide +kernel
theorem dX8_bottom_19 : decode cX8_bottom 19 = .ok (.ireturn, 1) := by decide +kernel
theorem dX8_bottom_20 : decode cX8_bottom 20 = .ok (.aload_n 0, 1) := by decide +kernel
theorem dX8_bottom_21 : decode cX8_bottom 21 = .ok (.getfield 14, 3) := by decide +kernel
theorem dX8_bottom_24 : decode cX8_bottom 24 = .ok (.getfield 67, 3) := by decide +kernel
theorem dX8_bottom_27 : decode cX8_bottom 27 = .ok (.iload_n 1, 1) := by decide +kernel
theorem dX8_bottom_28 : decode cX8_bottom 28 = .ok (.invokevirtual 85, 3) := by decide +kernel
theorem dX8_bottom_31 : decode cX8_bottom 31 = .ok (.aload_n 0, 1) := by decide +kernel
theorem dX8_bottom_32 : decode cX8_bottom 32 = .ok (.getfield 28, 3) := by decide +kernel
theorem dX8_bottom_35 : decode cX8_bottom 35 = .ok (.invokevirtual 78, 3) := by decide +kernel
theorem dX8_bottom_38 : decode cX8_bottom 38 = .ok (.iconst 1, 1) := by decide +kernel
theorem dX8_bottom_39 : decode cX8_bottom 39 = .ok (.ireturn, 1) := by decide +kernel
theorem dX8_length_0 : decode cX8_length 0 = .ok (.aload_n 0, 1) := by decide +kernel
theorem dX8_length_1 : decode cX8_length 1 = .ok (.getfield 14, 3) := by decide +kernel
theorem dX8_length_4 : decode cX8_length 4 = .ok (.getfield 67, 3) := by decide +kernel
theorem dX8_length_7 : decode cX8_length 7 = .ok (.iload_n 1, 1) := by decide +kernel
theorem dX8_length_8 : decode cX8_length 8 = .ok (.invokevirtual 88, 3) := by decide +kernel
theorem dX8_length_11 : decode cX8_length 11 = .ok (.ifCond .ne 5, 3) := by decide +kernel
theorem dX8_length_14 : decode cX8_length 14 = .ok (.iconst (-1), 1) := by decide +kernel
theorem dX8_length_15 : decode cX8_length 15 = .ok (.ireturn, 1) := by decide +kernel
theorem dX8_length_16 : decode cX8_length 16 = .ok (.iload_n 2, 1) := by decide +kernel
theorem dX8_length_17 : decode cX8_length 17 = .ok (.invokestatic 92, 3) := by decide +kernel
theorem dX8_length_20 : decode cX8_length 20 = .ok (.ifCond .ne 6, 3) := by decide +kernel
theorem dX8_length_23 : decode cX8_length 23 = .ok (.bipush (-2), 2) := by decide +kernel
theorem dX8_length_25 : decode cX8_length 25 = .ok (.ireturn, 1) := by decide +kernel
theorem dX8_length_26 : decode cX8_length 26 = .ok (.aload_n 0, 1) := by decide +kernel
theorem dX8_length_27 : decode cX8_length 27 = .ok (.getfield 28, 3) := by decide +kernel
theorem dX8_length_30 : decode cX8_length 30 = .ok (.aload_n 0, 1) := by decide +kernel
theorem dX8_length_31 : decode cX8_length 31 = .ok (.getfield 14, 3) := by decide +kernel
theorem dX8_length_34 : decode cX8_length 34 = .ok (.getfield 67, 3) := by decide +kernel
theorem dX8_length_37 : decode cX8_length 37 = .ok (.invokevirtual 95, 3) := by decide +kernel
theorem dX8_length_40 : decode cX8_length 40 = .ok (.aload_n 0, 1) := by decide +kernel
theorem dX8_length_41 : decode cX8_length 41 = .ok (.getfield 14, 3) := by decide +kernel
theorem dX8_length_44 : decode cX8_length 44 = .ok (.getfield 67, 3) := by decide +kernel
theorem dX8_length_47 : decode cX8_length 47 = .ok (.getfield 99, 3) := by decide +kernel
theorem dX8_length_50 : decode cX8_length 50 = .ok (.iload_n 1, 1) := by decide +kernel
theorem dX8_length_51 : decode cX8_length 51 = .ok (.iaload, 1) := by decide +kernel
theorem dX8_length_52 : decode cX8_length 52 = .ok (.istore_n 3, 1) := by decide +kernel
theorem dX8_length_53 : decode cX8_length 53 = .ok (.aload_n 0, 1) := by decide +kernel
theorem dX8_length_54 : decode cX8_length 54 = .ok (.getfield 14, 3) := by decide +kernel
theorem dX8_length_57 : decode cX8_length 57 = .ok (.getfield 67, 3) := by decide +kernel
theorem dX8_length_60 : decode cX8_length 60 = .ok (.getfield 99, 3) := by decide +kernel
theorem dX8_length_63 : decode cX8_length 63 = .ok (.iload_n 1, 1) := by decide +kernel
theorem dX8_length_64 : decode cX8_length 64 = .ok (.iload_n 2, 1) := by decide +kernel
theorem dX8_length_65 : decode cX8_length 65 = .ok (.iastore, 1) := by decide +kernel
theorem dX8_length_66 : decode cX8_length 66 = .ok (.iload_n 3, 1) := by decide +kernel
theorem dX8_length_67 : decode cX8_length 67 = .ok (.ireturn, 1) := by decide +kernel
theorem dX8_swap_0 : decode cX8_swap 0 = .ok (.aload_n 0, 1) := by decide +kernel
theorem dX8_swap_1 : decode cX8_swap 1 = .ok (.getfield 14, 3) := by decide +kernel
theorem dX8_swap_4 : decode cX8_swap 4 = .ok (.getfield 67, 3) := by decide +kernel
theorem dX8_swap_7 : decode cX8_swap 7 = .ok (.iload_n 1, 1) := by decide +kernel
theorem dX8_swap_8 : decode cX8_swap 8 = .ok (.invokevirtual 88, 3) := by decide +kernel
theorem dX8_swap_11 : decode cX8_swap 11 = .ok (.ifCond .eq 22, 3) := by decide +kernel
theorem dX8_swap_14 : decode cX8_swap 14 = .ok (.aload_n 0, 1) := by decide +kernel
theorem dX8_swap_15 : decode cX8_swap 15 = .ok (.getfield 14, 3) := by decide +kernel
theorem dX8_swap_18 : decode cX8_swap 18 = .ok (.getfield 67, 3) := by decide +kernel
theorem dX8_swap_21 : decode cX8_swap 21 = .ok (.iload_n 2, 1) := by decide +kernel
theorem dX8_swap_22 : decode cX8_swap 22 = .ok (.invokevirtual 88, 3) := by decide +kernel
theorem dX8_swap_25 : decode cX8_swap 25 = .ok (.ifCond .eq 8, 3) := by decide +kernel
theorem dX8_swap_28 : decode cX8_swap 28 = .ok (.iload_n 1, 1) := by decide +kernel
theorem dX8_swap_29 : decode cX8_swap 29 = .ok (.iload_n 2, 1) := by decide +kernel
theorem dX8_swap_30 : decode cX8_swap 30 = .ok (.if_icmp .ne 5, 3) := by decide +kernel
theorem dX8_swap_33 : decode cX8_swap 33 = .ok (.iconst (-1), 1) := by decide +kernel
theorem dX8_swap_34 : decode cX8_swap 34 = .ok (.ireturn, 1) := by decide +kernel
theorem dX8_swap_35 : decode cX8_swap 35 = .ok (.aload_n 0, 1) := by decide +kernel
theorem dX8_swap_36 : decode cX8_swap 36 = .ok (.getfield 28, 3) := by decide +kernel
theorem dX8_swap_39 : decode cX8_swap 39 = .ok (.aload_n 0, 1) := by decide +kernel
theorem dX8_swap_40 : decode cX8_swap 40 = .ok (.getfield 14, 3) := by decide +kernel
theorem dX8_swap_43 : decode cX8_swap 43 = .ok (.getfield 67, 3) := by decide +kernel
theorem dX8_swap_46 : decode cX8_swap 46 = .ok (.invokevirtual 95, 3) := by decide +kernel
theorem dX8_swap_49 : decode cX8_swap 49 = .ok (.aload_n 0, 1) := by decide +kernel
theorem dX8_swap_50 : decode cX8_swap 50 = .ok (.getfield 14, 3) := by decide +kernel
theorem dX8_swap_53 : decode cX8_swap 53 = .ok (.getfield 67, 3) := by decide +kernel
theorem dX8_swap_56 : decode cX8_swap 56 = .ok (.iload_n 1, 1) := by decide +kernel
theorem dX8_swap_57 : decode cX8_swap 57 = .ok (.iload_n 2, 1) := by decide +kernel
theorem dX8_swap_58 : decode cX8_swap 58 = .ok (.invokevirtual 103, 3) := by decide +kernel
theorem dX8_swap_61 : decode cX8_swap 61 = .ok (.iconst 1, 1) := by decide +kernel
theorem dX8_swap_62 : decode cX8_swap 62 = .ok (.ireturn, 1) := by decide +kernel
theorem dX8_step_0 : decode cX8_step 0 = .ok (.aload_n 0, 1) := by decide +kernel
theorem dX8_step_1 : decode cX8_step 1 = .ok (.getfield 14, 3) := by decide +kernel
theorem dX8_step_4 : decode cX8_step 4 = .ok (.getfield 67, 3) := by decide +kernel
theorem dX8_step_7 : decode cX8_step 7 = .ok (.invokevirtual 107, 3) := by decide +kernel
theorem dX8_step_10 : decode cX8_step 10 = .ok (.istore_n 1, 1) := by decide +kernel
theorem dX8_step_11 : decode cX8_step 11 = .ok (.iload_n 1, 1) := by decide +kernel
theorem dX8_step_12 : decode cX8_step 12 = .ok (.iconst (-1), 1) := by decide +kernel
theorem dX8_step_13 : decode cX8_step 13 = .ok (.if_icmp .ne 6, 3) := by decide +kernel
theorem dX8_step_16 : decode cX8_step 16 = .ok (.bipush (-3), 2) := by decide +kernel
theorem dX8_step_18 : decode cX8_step 18 = .ok (.ireturn, 1) := by decide +kernel
theorem dX8_step_19 : decode cX8_step 19 = .ok (.aload_n 0, 1) := by decide +kernel
theorem dX8_step_20 : decode cX8_step 20 = .ok (.getfield 28, 3) := by decide +kernel
theorem dX8_step_23 : decode cX8_step 23 = .ok (.aload_n 0, 1) := by decide +kernel
theorem dX8_step_24 : decode cX8_step 24 = .ok (.getfield 14, 3) := by decide +kernel
theorem dX8_step_27 : decode cX8_step 27 = .ok (.getfield 67, 3) := by decide +kernel
theorem dX8_step_30 : decode cX8_step 30 = .ok (.invokevirtual 95, 3) := by decide +kernel
theorem dX8_step_33 : decode cX8_step 33 = .ok (.aload_n 0, 1) := by decide +kernel
theorem dX8_step_34 : decode cX8_step 34 = .ok (.getfield 14, 3) := by decide +kernel
theorem dX8_step_37 : decode cX8_step 37 = .ok (.getfield 67, 3) := by decide +kernel
theorem dX8_step_40 : decode cX8_step 40 = .ok (.iload_n 1, 1) := by decide +kernel
theorem dX8_step_41 : decode cX8_step 41 = .ok (.invokevirtual 111, 3) := by decide +kernel
theorem dX8_step_44 : decode cX8_step 44 = .ok (.iload_n 1, 1) := by decide +kernel
theorem dX8_step_45 : decode cX8_step 45 = .ok (.ireturn, 1) := by decide +kernel
theorem dX8_back_0 : decode cX8_back 0 = .ok (.iload_n 1, 1) := by decide +kernel
theorem dX8_back_1 : decode cX8_back 1 = .ok (.invokestatic 114, 3) := by decide +kernel
theorem dX8_back_4 : decode cX8_back 4 = .ok (.ifCond .ne 5, 3) := by decide +kernel
theorem dX8_back_7 : decode cX8_back 7 = .ok (.iconst (-1), 1) := by decide +kernel
theorem dX8_back_8 : decode cX8_back 8 = .ok (.ireturn, 1) := by decide +kernel
theorem dX8_back_9 : decode cX8_back 9 = .ok (.aload_n 0, 1) := by decide +kernel
theorem dX8_back_10 : decode cX8_back 10 = .ok (.getfield 14, 3) := by decide +kernel
theorem dX8_back_13 : decode cX8_back 13 = .ok (.getfield 67, 3) := by decide +kernel
theorem dX8_back_16 : decode cX8_back 16 = .ok (.iload_n 1, 1) := by decide +kernel
theorem dX8_back_17 : decode cX8_back 17 = .ok (.invokevirtual 117, 3) := by decide +kernel
theorem dX8_back_20 : decode cX8_back 20 = .ok (.istore_n 2, 1) := by decide +kernel
theorem dX8_back_21 : decode cX8_back 21 = .ok (.iload_n 2, 1) := by decide +kernel
theorem dX8_back_22 : decode cX8_back 22 = .ok (.ifCond .ge 5, 3) := by decide +kernel
theorem dX8_back_25 : decode cX8_back 25 = .ok (.iload_n 2, 1) := by decide +kernel
theorem dX8_back_26 : decode cX8_back 26 = .ok (.ireturn, 1) := by decide +kernel
theorem dX8_back_27 : decode cX8_back 27 = .ok (.aload_n 0, 1) := by decide +kernel
theorem dX8_back_28 : decode cX8_back 28 = .ok (.getfield 28, 3) := by decide +kernel
theorem dX8_back_31 : decode cX8_back 31 = .ok (.aload_n 0, 1) := by decide +kernel
theorem dX8_back_32 : decode cX8_back 32 = .ok (.getfield 14, 3) := by decide +kernel
theorem dX8_back_35 : decode cX8_back 35 = .ok (.getfield 67, 3) := by decide +kernel
theorem dX8_back_38 : decode cX8_back 38 = .ok (.invokevirtual 95, 3) := by decide +kernel
theorem dX8_back_41 : decode cX8_back 41 = .ok (.aload_n 0, 1) := by decide +kernel
theorem dX8_back_42 : decode cX8_back 42 = .ok (.getfield 14, 3) := by decide +kernel
theorem dX8_back_45 : decode cX8_back 45 = .ok (.getfield 67, 3) := by decide +kernel
theorem dX8_back_48 : decode cX8_back 48 = .ok (.iload_n 1, 1) := by decide +kernel
theorem dX8_back_49 : decode cX8_back 49 = .ok (.invokevirtual 121, 3) := by decide +kernel
theorem dX8_back_52 : decode cX8_back 52 = .ok (.aload_n 0, 1) := by decide +kernel
theorem dX8_back_53 : decode cX8_back 53 = .ok (.getfield 14, 3) := by decide +kernel
theorem dX8_back_56 : decode cX8_back 56 = .ok (.getfield 67, 3) := by decide +kernel
theorem dX8_back_59 : decode cX8_back 59 = .ok (.invokevirtual 124, 3) := by decide +kernel
theorem dX8_back_62 : decode cX8_back 62 = .ok (.ireturn, 1) := by decide +kernel
theorem dX8_takeBack_0 : decode cX8_takeBack 0 = .ok (.aload_n 0, 1) := by decide +kernel
theorem dX8_takeBack_1 : decode cX8_takeBack 1 = .ok (.getfield 28, 3) := by decide +kernel
theorem dX8_takeBack_4 : decode cX8_takeBack 4 = .ok (.getfield 127, 3) := by decide +kernel
theorem dX8_takeBack_7 : decode cX8_takeBack 7 = .ok (.ifCond .ne 6, 3) := by decide +kernel
theorem dX8_takeBack_10 : decode cX8_takeBack 10 = .ok (.bipush (-3), 2) := by decide +kernel
theorem dX8_takeBack_12 : decode cX8_takeBack 12 = .ok (.ireturn, 1) := by decide +kernel
theorem dX8_takeBack_13 : decode cX8_takeBack 13 = .ok (.aload_n 0, 1) := by decide +kernel
theorem dX8_takeBack_14 : decode cX8_takeBack 14 = .ok (.getfield 28, 3) := by decide +kernel
theorem dX8_takeBack_17 : decode cX8_takeBack 17 = .ok (.aload_n 0, 1) := by decide +kernel
theorem dX8_takeBack_18 : decode cX8_takeBack 18 = .ok (.getfield 14, 3) := by decide +kernel
theorem dX8_takeBack_21 : decode cX8_takeBack 21 = .ok (.getfield 67, 3) := by decide +kernel
theorem dX8_takeBack_24 : decode cX8_takeBack 24 = .ok (.invokevirtual 130, 3) := by decide +kernel
theorem dX8_takeBack_27 : decode cX8_takeBack 27 = .ok (.aload_n 0, 1) := by decide +kernel
theorem dX8_takeBack_28 : decode cX8_takeBack 28 = .ok (.getfield 28, 3) := by decide +kernel
theorem dX8_takeBack_31 : decode cX8_takeBack 31 = .ok (.getfield 127, 3) := by decide +kernel
theorem dX8_takeBack_34 : decode cX8_takeBack 34 = .ok (.ireturn, 1) := by decide +kernel
theorem dX8_keep_0 : decode cX8_keep 0 = .ok (.aload_n 0, 1) := by decide +kernel
theorem dX8_keep_1 : decode cX8_keep 1 = .ok (.getfield 14, 3) := by decide +kernel
theorem dX8_keep_4 : decode cX8_keep 4 = .ok (.aload_n 0, 1) := by decide +kernel
theorem dX8_keep_5 : decode cX8_keep 5 = .ok (.getfield 14, 3) := by decide +kernel
theorem dX8_keep_8 : decode cX8_keep 8 = .ok (.getfield 67, 3) := by decide +kernel
theorem dX8_keep_11 : decode cX8_keep 11 = .ok (.invokevirtual 133, 3) := by decide +kernel
theorem dX8_keep_14 : decode cX8_keep 14 = .ok (.putfield 136, 3) := by decide +kernel
theorem dX8_keep_17 : decode cX8_keep 17 = .ok (.aload_n 0, 1) := by decide +kernel
theorem dX8_keep_18 : decode cX8_keep 18 = .ok (.getfield 14, 3) := by decide +kernel
theorem dX8_keep_21 : decode cX8_keep 21 = .ok (.getfield 136, 3) := by decide +kernel
theorem dX8_keep_24 : decode cX8_keep 24 = .ok (.ireturn, 1) := by decide +kernel
theorem dX8_feed_0 : decode cX8_feed 0 = .ok (.iload_n 1, 1) := by decide +kernel
theorem dX8_feed_1 : decode cX8_feed 1 = .ok (.ifCond .lt 9, 3) := by decide +kernel
theorem dX8_feed_4 : decode cX8_feed 4 = .ok (.iload_n 1, 1) := by decide +kernel
theorem dX8_feed_5 : decode cX8_feed 5 = .ok (.bipush 127, 2) := by decide +kernel
theorem dX8_feed_7 : decode cX8_feed 7 = .ok (.if_icmp .le 6, 3) := by decide +kernel
theorem dX8_feed_10 : decode cX8_feed 10 = .ok (.bipush (-2), 2) := by decide +kernel
theorem dX8_feed_12 : decode cX8_feed 12 = .ok (.ireturn, 1) := by decide +kernel
theorem dX8_feed_13 : decode cX8_feed 13 = .ok (.aload_n 0, 1) := by decide +kernel
theorem dX8_feed_14 : decode cX8_feed 14 = .ok (.getfield 35, 3) := by decide +kernel
theorem dX8_feed_17 : decode cX8_feed 17 = .ok (.iload_n 1, 1) := by decide +kernel
theorem dX8_feed_18 : decode cX8_feed 18 = .ok (.invokevirtual 139, 3) := by decide +kernel
theorem dX8_feed_21 : decode cX8_feed 21 = .ok (.ireturn, 1) := by decide +kernel
theorem dX8_read_0 : decode cX8_read 0 = .ok (.aload_n 0, 1) := by decide +kernel
theorem dX8_read_1 : decode cX8_read 1 = .ok (.getfield 35, 3) := by decide +kernel
theorem dX8_read_4 : decode cX8_read 4 = .ok (.invokevirtual 142, 3) := by decide +kernel
theorem dX8_read_7 : decode cX8_read 7 = .ok (.istore_n 1, 1) := by decide +kernel
theorem dX8_read_8 : decode cX8_read 8 = .ok (.aload_n 0, 1) := by decide +kernel
theorem dX8_read_9 : decode cX8_read 9 = .ok (.getfield 35, 3) := by decide +kernel
theorem dX8_read_12 : decode cX8_read 12 = .ok (.invokevirtual 145, 3) := by decide +kernel
theorem dX8_read_15 : decode cX8_read 15 = .ok (.iload_n 1, 1) := by decide +kernel
theorem dX8_read_16 : decode cX8_read 16 = .ok (.iconst (-1), 1) := by decide +kernel
theorem dX8_read_17 : decode cX8_read 17 = .ok (.if_icmp .eq 8, 3) := by decide +kernel
theorem dX8_read_20 : decode cX8_read 20 = .ok (.bipush (-10), 2) := by decide +kernel
theorem dX8_read_22 : decode cX8_read 22 = .ok (.iload_n 1, 1) := by decide +kernel
theorem dX8_read_23 : decode cX8_read 23 = .ok (.isub, 1) := by decide +kernel
theorem dX8_read_24 : decode cX8_read 24 = .ok (.ireturn, 1) := by decide +kernel
theorem dX8_read_25 : decode cX8_read 25 = .ok (.iconst 0, 1) := by decide +kernel
theorem dX8_read_26 : decode cX8_read 26 = .ok (.istore_n 2, 1) := by decide +kernel
theorem dX8_read_27 : decode cX8_read 27 = .ok (.iconst 0, 1) := by decide +kernel
theorem dX8_read_28 : decode cX8_read 28 = .ok (.istore_n 3, 1) := by decide +kernel
theorem dX8_read_29 : decode cX8_read 29 = .ok (.iload_n 3, 1) := by decide +kernel
theorem dX8_read_30 : decode cX8_read 30 = .ok (.aload_n 0, 1) := by decide +kernel
theorem dX8_read_31 : decode cX8_read 31 = .ok (.getfield 35, 3) := by decide +kernel
theorem dX8_read_34 : decode cX8_read 34 = .ok (.getfield 148, 3) := by decide +kernel
theorem dX8_read_37 : decode cX8_read 37 = .ok (.if_icmp .ge 46, 3) := by decide +kernel
theorem dX8_read_40 : decode cX8_read 40 = .ok (.aload_n 0, 1) := by decide +kernel
theorem dX8_read_41 : decode cX8_read 41 = .ok (.aload_n 0, 1) := by decide +kernel
theorem dX8_read_42 : decode cX8_read 42 = .ok (.getfield 35, 3) := by decide +kernel
theorem dX8_read_45 : decode cX8_read 45 = .ok (.getfield 151, 3) := by decide +kernel
theorem dX8_read_48 : decode cX8_read 48 = .ok (.iload_n 3, 1) := by decide +kernel
theorem dX8_read_49 : decode cX8_read 49 = .ok (.iaload, 1) := by decide +kernel
theorem dX8_read_50 : decode cX8_read 50 = .ok (.aload_n 0, 1) := by decide +kernel
theorem dX8_read_51 : decode cX8_read 51 = .ok (.getfield 35, 3) := by decide +kernel
theorem dX8_read_54 : decode cX8_read 54 = .ok (.getfield 154, 3) := by decide +kernel
theorem dX8_read_57 : decode cX8_read 57 = .ok (.iload_n 3, 1) := by decide +kernel
theorem dX8_read_58 : decode cX8_read 58 = .ok (.iaload, 1) := by decide +kernel
theorem dX8_read_59 : decode cX8_read 59 = .ok (.aload_n 0, 1) := by decide +kernel
theorem dX8_read_60 : decode cX8_read 60 = .ok (.getfield 35, 3) := by decide +kernel
theorem dX8_read_63 : decode cX8_read 63 = .ok (.getfield 157, 3) := by decide +kernel
theorem dX8_read_66 : decode cX8_read 66 = .ok (.iload_n 3, 1) := by decide +kernel
theorem dX8_read_67 : decode cX8_read 67 = .ok (.iaload, 1) := by decide +kernel
theorem dX8_read_68 : decode cX8_read 68 = .ok (.invokevirtual 160, 3) := by decide +kernel
theorem dX8_read_71 : decode cX8_read 71 = .ok (.ifCond .lt 6, 3) := by decide +kernel
theorem dX8_read_74 : decode cX8_read 74 = .ok (.iinc 2 1, 3) := by decide +kernel
theorem dX8_read_77 : decode cX8_read 77 = .ok (.iinc 3 1, 3) := by decide +kernel
theorem dX8_read_80 : decode cX8_read 80 = .ok (.goto (-51), 3) := by decide +kernel
theorem dX8_read_83 : decode cX8_read 83 = .ok (.iload_n 2, 1) := by decide +kernel
theorem dX8_read_84 : decode cX8_read 84 = .ok (.ireturn, 1) := by decide +kernel
theorem dX8_doClause_0 : decode cX8_doClause 0 = .ok (.iload_n 1, 1) := by decide +kernel
theorem dX8_doClause_1 : decode cX8_doClause 1 = .ok (.tableswitch 150 98 119 #[127, 150, 150, 150, 150, 150, 150, 150, 150, 140, 109, 150, 103, 150, 150, 150, 116, 122, 150, 145, 150, 133], 103) := by decide +kernel
theorem dX8_doClause_104 : decode cX8_doClause 104 = .ok (.aload_n 0, 1) := by decide +kernel
theorem dX8_doClause_105 : decode cX8_doClause 105 = .ok (.iload_n 2, 1) := by decide +kernel
theorem dX8_doClause_106 : decode cX8_doClause 106 = .ok (.invokevirtual 164, 3) := by decide +kernel
theorem dX8_doClause_109 : decode cX8_doClause 109 = .ok (.ireturn, 1) := by decide +kernel
theorem dX8_doClause_110 : decode cX8_doClause 110 = .ok (.aload_n 0, 1) := by decide +kernel
theorem dX8_doClause_111 : decode cX8_doClause 111 = .ok (.iload_n 2, 1) := by decide +kernel
theorem dX8_doClause_112 : decode cX8_doClause 112 = .ok (.iload_n 3, 1) := by decide +kernel
theorem dX8_doClause_113 : decode cX8_doClause 113 = .ok (.invokevirtual 167, 3) := by decide +kernel
theorem dX8_doClause_116 : decode cX8_doClause 116 = .ok (.ireturn, 1) := by decide +kernel
theorem dX8_doClause_117 : decode cX8_doClause 117 = .ok (.aload_n 0, 1) := by decide +kernel
theorem dX8_doClause_118 : decode cX8_doClause 118 = .ok (.iload_n 2, 1) := by decide +kernel
theorem dX8_doClause_119 : decode cX8_doClause 119 = .ok (.invokevirtual 171, 3) := by decide +kernel
theorem dX8_doClause_122 : decode cX8_doClause 122 = .ok (.ireturn, 1) := by decide +kernel
theorem dX8_doClause_123 : decode cX8_doClause 123 = .ok (.aload_n 0, 1) := by decide +kernel
theorem dX8_doClause_124 : decode cX8_doClause 124 = .ok (.invokevirtual 174, 3) := by decide +kernel
theorem dX8_doClause_127 : decode cX8_doClause 127 = .ok (.ireturn, 1) := by decide +kernel
theorem dX8_doClause_128 : decode cX8_doClause 128 = .ok (.aload_n 0, 1) := by decide +kernel
theorem dX8_doClause_129 : decode cX8_doClause 129 = .ok (.iload_n 2, 1) := by decide +kernel
theorem dX8_doClause_130 : decode cX8_doClause 130 = .ok (.invokevirtual 177, 3) := by decide +kernel
theorem dX8_doClause_133 : decode cX8_doClause 133 = .ok (.ireturn, 1) := by decide +kernel
theorem dX8_doClause_134 : decode cX8_doClause 134 = .ok (.aload_n 0, 1) := by decide +kernel
theorem dX8_doClause_135 : decode cX8_doClause 135 = .ok (.iload_n 2, 1) := by decide +kernel
theorem dX8_doClause_136 : decode cX8_doClause 136 = .ok (.iload_n 3, 1) := by decide +kernel
theorem dX8_doClause_137 : decode cX8_doClause 137 = .ok (.invokevirtual 180, 3) := by decide +kernel
theorem dX8_doClause_140 : decode cX8_doClause 140 = .ok (.ireturn, 1) := by decide +kernel
theorem dX8_doClause_141 : decode cX8_doClause 141 = .ok (.aload_n 0, 1) := by decide +kernel
theorem dX8_doClause_142 : decode cX8_doClause 142 = .ok (.invokevirtual 183, 3) := by decide +kernel
theorem dX8_doClause_145 : decode cX8_doClause 145 = .ok (.ireturn, 1) := by decide +kernel
theorem dX8_doClause_146 : decode cX8_doClause 146 = .ok (.aload_n 0, 1) := by decide +kernel
theorem dX8_doClause_147 : decode cX8_doClause 147 = .ok (.invokevirtual 186, 3) := by decide +kernel
theorem dX8_doClause_150 : decode cX8_doClause 150 = .ok (.ireturn, 1) := by decide +kernel
theorem dX8_doClause_151 : decode cX8_doClause 151 = .ok (.iconst (-1), 1) := by decide +kernel
theorem dX8_doClause_152 : decode cX8_doClause 152 = .ok (.ireturn, 1) := by decide +kernel
theorem dX8_of_0 : decode cX8_of 0 = .ok (.aload_n 0, 1) := by decide +kernel
theorem dX8_of_1 : decode cX8_of 1 = .ok (.getfield 14, 3) := by decide +kernel
theorem dX8_of_4 : decode cX8_of 4 = .ok (.getfield 67, 3) := by decide +kernel
theorem dX8_of_7 : decode cX8_of 7 = .ok (.iload_n 1, 1) := by decide +kernel
theorem dX8_of_8 : decode cX8_of 8 = .ok (.invokevirtual 88, 3) := by decide +kernel
theorem dX8_of_11 : decode cX8_of 11 = .ok (.ifCond .ne 5, 3) := by decide +kernel
theorem dX8_of_14 : decode cX8_of 14 = .ok (.iconst (-1), 1) := by decide +kernel
theorem dX8_of_15 : decode cX8_of 15 = .ok (.ireturn, 1) := by decide +kernel
theorem dX8_of_16 : decode cX8_of 16 = .ok (.iload_n 2, 1) := by decide +kernel
theorem dX8_of_17 : decode cX8_of 17 = .ok (.tableswitch 66 0 2 #[27, 40, 53], 27) := by decide +kernel
theorem dX8_of_44 : decode cX8_of 44 = .ok (.aload_n 0, 1) := by decide +kernel
theorem dX8_of_45 : decode cX8_of 45 = .ok (.getfield 14, 3) := by decide +kernel
theorem dX8_of_48 : decode cX8_of 48 = .ok (.getfield 67, 3) := by decide +kernel
theorem dX8_of_51 : decode cX8_of 51 = .ok (.getfield 189, 3) := by decide +kernel
theorem dX8_of_54 : decode cX8_of 54 = .ok (.iload_n 1, 1) := by decide +kernel
theorem dX8_of_55 : decode cX8_of 55 = .ok (.iaload, 1) := by decide +kernel
theorem dX8_of_56 : decode cX8_of 56 = .ok (.ireturn, 1) := by decide +kernel
theorem dX8_of_57 : decode cX8_of 57 = .ok (.aload_n 0, 1) := by decide +kernel
theorem dX8_of_58 : decode cX8_of 58 = .ok (.getfield 14, 3) := by decide +kernel
theorem dX8_of_61 : decode cX8_of 61 = .ok (.getfield 67, 3) := by decide +kernel
theorem dX8_of_64 : decode cX8_of 64 = .ok (.getfield 192, 3) := by decide +kernel
theorem dX8_of_67 : decode cX8_of 67 = .ok (.iload_n 1, 1) := by decide +kernel
theorem dX8_of_68 : decode cX8_of 68 = .ok (.iaload, 1) := by decide +kernel
theorem dX8_of_69 : decode cX8_of 69 = .ok (.ireturn, 1) := by decide +kernel
theorem dX8_of_70 : decode cX8_of 70 = .ok (.aload_n 0, 1) := by decide +kernel
theorem dX8_of_71 : decode cX8_of 71 = .ok (.getfield 14, 3) := by decide +kernel
theorem dX8_of_74 : decode cX8_of 74 = .ok (.getfield 67, 3) := by decide +kernel
theorem dX8_of_77 : decode cX8_of 77 = .ok (.getfield 99, 3) := by decide +kernel
theorem dX8_of_80 : decode cX8_of 80 = .ok (.iload_n 1, 1) := by decide +kernel
theorem dX8_of_81 : decode cX8_of 81 = .ok (.iaload, 1) := by decide +kernel
theorem dX8_of_82 : decode cX8_of 82 = .ok (.ireturn, 1) := by decide +kernel
theorem dX8_of_83 : decode cX8_of 83 = .ok (.iconst (-1), 1) := by decide +kernel
theorem dX8_of_84 : decode cX8_of 84 = .ok (.ireturn, 1) := by decide +kernel
theorem dX8_told_0 : decode cX8_told 0 = .ok (.iload_n 1, 1) := by decide +kernel
theorem dX8_told_1 : decode cX8_told 1 = .ok (.tableswitch 155 0 10 #[59, 70, 81, 92, 100, 119, 124, 129, 140, 145, 150], 59) := by decide +kernel
theorem dX8_told_60 : decode cX8_told 60 = .ok (.aload_n 0, 1) := by decide +kernel
theorem dX8_told_61 : decode cX8_told 61 = .ok (.getfield 14, 3) := by decide +kernel
theorem dX8_told_64 : decode cX8_told 64 = .ok (.getfield 67, 3) := by decide +kernel
theorem dX8_told_67 : decode cX8_told 67 = .ok (.getfield 70, 3) := by decide +kernel
theorem dX8_told_70 : decode cX8_told 70 = .ok (.ireturn, 1) := by decide +kernel
theorem dX8_told_71 : decode cX8_told 71 = .ok (.aload_n 0, 1) := by decide +kernel
theorem dX8_told_72 : decode cX8_told 72 = .ok (.getfield 14, 3) := by decide +kernel
theorem dX8_told_75 : decode cX8_told 75 = .ok (.getfield 67, 3) := by decide +kernel
theorem dX8_told_78 : decode cX8_told 78 = .ok (.invokevirtual 124, 3) := by decide +kernel
theorem dX8_told_81 : decode cX8_told 81 = .ok (.ireturn, 1) := by decide +kernel
theorem dX8_told_82 : decode cX8_told 82 = .ok (.aload_n 0, 1) := by decide +kernel
theorem dX8_told_83 : decode cX8_told 83 = .ok (.getfield 14, 3) := by decide +kernel
theorem dX8_told_86 : decode cX8_told 86 = .ok (.getfield 67, 3) := by decide +kernel
theorem dX8_told_89 : decode cX8_told 89 = .ok (.invokevirtual 133, 3) := by decide +kernel
theorem dX8_told_92 : decode cX8_told 92 = .ok (.ireturn, 1) := by decide +kernel
theorem dX8_told_93 : decode cX8_told 93 = .ok (.aload_n 0, 1) := by decide +kernel
theorem dX8_told_94 : decode cX8_told 94 = .ok (.getfield 14, 3) := by decide +kernel
theorem dX8_told_97 : decode cX8_told 97 = .ok (.getfield 136, 3) := by decide +kernel
theorem dX8_told_100 : decode cX8_told 100 = .ok (.ireturn, 1) := by decide +kernel
theorem dX8_told_101 : decode cX8_told 101 = .ok (.aload_n 0, 1) := by decide +kernel
theorem dX8_told_102 : decode cX8_told 102 = .ok (.getfield 14, 3) := by decide +kernel
theorem dX8_told_105 : decode cX8_told 105 = .ok (.getfield 67, 3) := by decide +kernel
theorem dX8_told_108 : decode cX8_told 108 = .ok (.invokevirtual 194, 3) := by decide +kernel
theorem dX8_told_111 : decode cX8_told 111 = .ok (.ifCond .eq 7, 3) := by decide +kernel
theorem dX8_told_114 : decode cX8_told 114 = .ok (.iconst 1, 1) := by decide +kernel
theorem dX8_told_115 : decode cX8_told 115 = .ok (.goto 4, 3) := by decide +kernel
theorem dX8_told_118 : decode cX8_told 118 = .ok (.iconst 0, 1) := by decide +kernel
theorem dX8_told_119 : decode cX8_told 119 = .ok (.ireturn, 1) := by decide +kernel
theorem dX8_told_120 : decode cX8_told 120 = .ok (.aload_n 0, 1) := by decide +kernel
theorem dX8_told_121 : decode cX8_told 121 = .ok (.invokevirtual 198, 3) := by decide +kernel
theorem dX8_told_124 : decode cX8_told 124 = .ok (.ireturn, 1) := by decide +kernel
theorem dX8_told_125 : decode cX8_told 125 = .ok (.aload_n 0, 1) := by decide +kernel
theorem dX8_told_126 : decode cX8_told 126 = .ok (.invokevirtual 201, 3) := by decide +kernel
theorem dX8_told_129 : decode cX8_told 129 = .ok (.ireturn, 1) := by decide +kernel
theorem dX8_told_130 : decode cX8_told 130 = .ok (.aload_n 0, 1) := by decide +kernel
theorem dX8_told_131 : decode cX8_told 131 = .ok (.getfield 14, 3) := by decide +kernel
theorem dX8_told_134 : decode cX8_told 134 = .ok (.getfield 67, 3) := by decide +kernel
theorem dX8_told_137 : decode cX8_told 137 = .ok (.invokevirtual 204, 3) := by decide +kernel
theorem dX8_told_140 : decode cX8_told 140 = .ok (.ireturn, 1) := by decide +kernel
theorem dX8_told_141 : decode cX8_told 141 = .ok (.aload_n 0, 1) := by decide +kernel
theorem dX8_told_142 : decode cX8_told 142 = .ok (.invokevirtual 207, 3) := by decide +kernel
theorem dX8_told_145 : decode cX8_told 145 = .ok (.ireturn, 1) := by decide +kernel
theorem dX8_told_146 : decode cX8_told 146 = .ok (.aload_n 0, 1) := by decide +kernel
theorem dX8_told_147 : decode cX8_told 147 = .ok (.invokevirtual 210, 3) := by decide +kernel
theorem dX8_told_150 : decode cX8_told 150 = .ok (.ireturn, 1) := by decide +kernel
theorem dX8_told_151 : decode cX8_told 151 = .ok (.aload_n 0, 1) := by decide +kernel
theorem dX8_told_152 : decode cX8_told 152 = .ok (.invokevirtual 213, 3) := by decide +kernel
theorem dX8_told_155 : decode cX8_told 155 = .ok (.ireturn, 1) := by decide +kernel
theorem dX8_told_156 : decode cX8_told 156 = .ok (.iconst (-1), 1) := by decide +kernel
theorem dX8_told_157 : decode cX8_told 157 = .ok (.ireturn, 1) := by decide +kernel
theorem dX8_exploreClass_0 : decode cX8_exploreClass 0 = .ok (.aload_n 0, 1) := by decide +kernel
theorem dX8_exploreClass_1 : decode cX8_exploreClass 1 = .ok (.getfield 49, 3) := by decide +kernel
theorem dX8_exploreClass_4 : decode cX8_exploreClass 4 = .ok (.aload_n 0, 1) := by decide +kernel
theorem dX8_exploreClass_5 : decode cX8_exploreClass 5 = .ok (.getfield 14, 3) := by decide +kernel
theorem dX8_exploreClass_8 : decode cX8_exploreClass 8 = .ok (.getfield 67, 3) := by decide +kernel
theorem dX8_exploreClass_11 : decode cX8_exploreClass 11 = .ok (.invokevirtual 133, 3) := by decide +kernel
theorem dX8_exploreClass_14 : decode cX8_exploreClass 14 = .ok (.aload_n 0, 1) := by decide +kernel
theorem dX8_exploreClass_15 : decode cX8_exploreClass 15 = .ok (.getfield 14, 3) := by decide +kernel
theorem dX8_exploreClass_18 : decode cX8_exploreClass 18 = .ok (.getfield 67, 3) := by decide +kernel
theorem dX8_exploreClass_21 : decode cX8_exploreClass 21 = .ok (.getfield 70, 3) := by decide +kernel
theorem dX8_exploreClass_24 : decode cX8_exploreClass 24 = .ok (.invokevirtual 216, 3) := by decide +kernel
theorem dX8_exploreClass_27 : decode cX8_exploreClass 27 = .ok (.aload_n 0, 1) := by decide +kernel
theorem dX8_exploreClass_28 : decode cX8_exploreClass 28 = .ok (.getfield 49, 3) := by decide +kernel
theorem dX8_exploreClass_31 : decode cX8_exploreClass 31 = .ok (.getfield 219, 3) := by decide +kernel
theorem dX8_exploreClass_34 : decode cX8_exploreClass 34 = .ok (.ireturn, 1) := by decide +kernel
theorem dX8_stepsToKept_0 : decode cX8_stepsToKept 0 = .ok (.aload_n 0, 1) := by decide +kernel
theorem dX8_stepsToKept_1 : decode cX8_stepsToKept 1 = .ok (.invokevirtual 198, 3) := by decide +kernel
theorem dX8_stepsToKept_4 : decode cX8_stepsToKept 4 = .ok (.pop, 1) := by decide +kernel
theorem dX8_stepsToKept_5 : decode cX8_stepsToKept 5 = .ok (.aload_n 0, 1) := by decide +kernel
theorem dX8_stepsToKept_6 : decode cX8_stepsToKept 6 = .ok (.getfield 49, 3) := by decide +kernel
theorem dX8_stepsToKept_9 : decode cX8_stepsToKept 9 = .ok (.aload_n 0, 1) := by decide +kernel
theorem dX8_stepsToKept_10 : decode cX8_stepsToKept 10 = .ok (.getfield 14, 3) := by decide +kernel
theorem dX8_stepsToKept_13 : decode cX8_stepsToKept 13 = .ok (.getfield 136, 3) := by decide +kernel
theorem dX8_stepsToKept_16 : decode cX8_stepsToKept 16 = .ok (.invokevirtual 222, 3) := by decide +kernel
theorem dX8_stepsToKept_19 : decode cX8_stepsToKept 19 = .ok (.ireturn, 1) := by decide +kernel
theorem dX8_genus_0 : decode cX8_genus 0 = .ok (.aload_n 0, 1) := by decide +kernel
theorem dX8_genus_1 : decode cX8_genus 1 = .ok (.getfield 14, 3) := by decide +kernel
theorem dX8_genus_4 : decode cX8_genus 4 = .ok (.getfield 67, 3) := by decide +kernel
theorem dX8_genus_7 : decode cX8_genus 7 = .ok (.invokevirtual 194, 3) := by decide +kernel
theorem dX8_genus_10 : decode cX8_genus 10 = .ok (.ifCond .ne 6, 3) := by decide +kernel
theorem dX8_genus_13 : decode cX8_genus 13 = .ok (.bipush (-5), 2) := by decide +kernel
theorem dX8_genus_15 : decode cX8_genus 15 = .ok (.ireturn, 1) := by decide +kernel
theorem dX8_genus_16 : decode cX8_genus 16 = .ok (.aload_n 0, 1) := by decide +kernel
theorem dX8_genus_17 : decode cX8_genus 17 = .ok (.getfield 14, 3) := by decide +kernel
theorem dX8_genus_20 : decode cX8_genus 20 = .ok (.getfield 67, 3) := by decide +kernel
theorem dX8_genus_23 : decode cX8_genus 23 = .ok (.getfield 70, 3) := by decide +kernel
theorem dX8_genus_26 : decode cX8_genus 26 = .ok (.iconst 1, 1) := by decide +kernel
theorem dX8_genus_27 : decode cX8_genus 27 = .ok (.iadd, 1) := by decide +kernel
theorem dX8_genus_28 : decode cX8_genus 28 = .ok (.aload_n 0, 1) := by decide +kernel
theorem dX8_genus_29 : decode cX8_genus 29 = .ok (.getfield 14, 3) := by decide +kernel
theorem dX8_genus_32 : decode cX8_genus 32 = .ok (.getfield 67, 3) := by decide +kernel
theorem dX8_genus_35 : decode cX8_genus 35 = .ok (.invokevirtual 204, 3) := by decide +kernel
theorem dX8_genus_38 : decode cX8_genus 38 = .ok (.isub, 1) := by decide +kernel
theorem dX8_genus_39 : decode cX8_genus 39 = .ok (.iconst 2, 1) := by decide +kernel
theorem dX8_genus_40 : decode cX8_genus 40 = .ok (.idiv, 1) := by decide +kernel
theorem dX8_genus_41 : decode cX8_genus 41 = .ok (.ireturn, 1) := by decide +kernel
theorem dX8_rounds_0 : decode cX8_rounds 0 = .ok (.aload_n 0, 1) := by decide +kernel
theorem dX8_rounds_1 : decode cX8_rounds 1 = .ok (.getfield 42, 3) := by decide +kernel
theorem dX8_rounds_4 : decode cX8_rounds 4 = .ok (.aload_n 0, 1) := by decide +kernel
theorem dX8_rounds_5 : decode cX8_rounds 5 = .ok (.getfield 14, 3) := by decide +kernel
theorem dX8_rounds_8 : decode cX8_rounds 8 = .ok (.getfield 67, 3) := by decide +kernel
theorem dX8_rounds_11 : decode cX8_rounds 11 = .ok (.invokevirtual 225, 3) := by decide +kernel
theorem dX8_rounds_14 : decode cX8_rounds 14 = .ok (.aload_n 0, 1) := by decide +kernel
theorem dX8_rounds_15 : decode cX8_rounds 15 = .ok (.getfield 42, 3) := by decide +kernel
theorem dX8_rounds_18 : decode cX8_rounds 18 = .ok (.invokevirtual 228, 3) := by decide +kernel
theorem dX8_rounds_21 : decode cX8_rounds 21 = .ok (.ireturn, 1) := by decide +kernel
theorem dX8_ends_0 : decode cX8_ends 0 = .ok (.aload_n 0, 1) := by decide +kernel
theorem dX8_ends_1 : decode cX8_ends 1 = .ok (.getfield 56, 3) := by decide +kernel
theorem dX8_ends_4 : decode cX8_ends 4 = .ok (.aload_n 0, 1) := by decide +kernel
theorem dX8_ends_5 : decode cX8_ends 5 = .ok (.getfield 14, 3) := by decide +kernel
theorem dX8_ends_8 : decode cX8_ends 8 = .ok (.getfield 67, 3) := by decide +kernel
theorem dX8_ends_11 : decode cX8_ends 11 = .ok (.invokevirtual 229, 3) := by decide +kernel
theorem dX8_ends_14 : decode cX8_ends 14 = .ok (.iconst 0, 1) := by decide +kernel
theorem dX8_ends_15 : decode cX8_ends 15 = .ok (.istore_n 1, 1) := by decide +kernel
theorem dX8_ends_16 : decode cX8_ends 16 = .ok (.iload_n 1, 1) := by decide +kernel
theorem dX8_ends_17 : decode cX8_ends 17 = .ok (.sipush 9999, 3) := by decide +kernel
theorem dX8_ends_20 : decode cX8_ends 20 = .ok (.if_icmp .ge 32, 3) := by decide +kernel
theorem dX8_ends_23 : decode cX8_ends 23 = .ok (.aload_n 0, 1) := by decide +kernel
theorem dX8_ends_24 : decode cX8_ends 24 = .ok (.getfield 56, 3) := by decide +kernel
theorem dX8_ends_27 : decode cX8_ends 27 = .ok (.invokevirtual 107, 3) := by decide +kernel
theorem dX8_ends_30 : decode cX8_ends 30 = .ok (.istore_n 2, 1) := by decide +kernel
theorem dX8_ends_31 : decode cX8_ends 31 = .ok (.iload_n 2, 1) := by decide +kernel
theorem dX8_ends_32 : decode cX8_ends 32 = .ok (.iconst (-1), 1) := by decide +kernel
theorem dX8_ends_33 : decode cX8_ends 33 = .ok (.if_icmp .ne 5, 3) := by decide +kernel
theorem dX8_ends_36 : decode cX8_ends 36 = .ok (.iload_n 1, 1) := by decide +kernel
theorem dX8_ends_37 : decode cX8_ends 37 = .ok (.ireturn, 1) := by decide +kernel
theorem dX8_ends_38 : decode cX8_ends 38 = .ok (.aload_n 0, 1) := by decide +kernel
theorem dX8_ends_39 : decode cX8_ends 39 = .ok (.getfield 56, 3) := by decide +kernel
theorem dX8_ends_42 : decode cX8_ends 42 = .ok (.iload_n 2, 1) := by decide +kernel
theorem dX8_ends_43 : decode cX8_ends 43 = .ok (.invokevirtual 111, 3) := by decide +kernel
theorem dX8_ends_46 : decode cX8_ends 46 = .ok (.iinc 1 1, 3) := by decide +kernel
theorem dX8_ends_49 : decode cX8_ends 49 = .ok (.goto (-33), 3) := by decide +kernel
theorem dX8_ends_52 : decode cX8_ends 52 = .ok (.sipush 9999, 3) := by decide +kernel
theorem dX8_ends_55 : decode cX8_ends 55 = .ok (.ireturn, 1) := by decide +kernel
theorem dX8_point_0 : decode cX8_point 0 = .ok (.aload_n 0, 1) := by decide +kernel
theorem dX8_point_1 : decode cX8_point 1 = .ok (.getfield 14, 3) := by decide +kernel
theorem dX8_point_4 : decode cX8_point 4 = .ok (.getfield 67, 3) := by decide +kernel
theorem dX8_point_7 : decode cX8_point 7 = .ok (.iload_n 1, 1) := by decide +kernel
theorem dX8_point_8 : decode cX8_point 8 = .ok (.invokevirtual 232, 3) := by decide +kernel
theorem dX8_point_11 : decode cX8_point 11 = .ok (.ifCond .ne 5, 3) := by decide +kernel
theorem dX8_point_14 : decode cX8_point 14 = .ok (.iconst (-1), 1) := by decide +kernel
theorem dX8_point_15 : decode cX8_point 15 = .ok (.ireturn, 1) := by decide +kernel
theorem dX8_point_16 : decode cX8_point 16 = .ok (.iload_n 2, 1) := by decide +kernel
theorem dX8_point_17 : decode cX8_point 17 = .ok (.tableswitch 57 0 2 #[27, 39, 51], 27) := by decide +kernel
theorem dX8_point_44 : decode cX8_point 44 = .ok (.aload_n 0, 1) := by decide +kernel
theorem dX8_point_45 : decode cX8_point 45 = .ok (.getfield 14, 3) := by decide +kernel
theorem dX8_point_48 : decode cX8_point 48 = .ok (.getfield 67, 3) := by decide +kernel
theorem dX8_point_51 : decode cX8_point 51 = .ok (.iload_n 1, 1) := by decide +kernel
theorem dX8_point_52 : decode cX8_point 52 = .ok (.invokevirtual 235, 3) := by decide +kernel
theorem dX8_point_55 : decode cX8_point 55 = .ok (.ireturn, 1) := by decide +kernel
theorem dX8_point_56 : decode cX8_point 56 = .ok (.aload_n 0, 1) := by decide +kernel
theorem dX8_point_57 : decode cX8_point 57 = .ok (.getfield 14, 3) := by decide +kernel
theorem dX8_point_60 : decode cX8_point 60 = .ok (.getfield 67, 3) := by decide +kernel
theorem dX8_point_63 : decode cX8_point 63 = .ok (.iload_n 1, 1) := by decide +kernel
theorem dX8_point_64 : decode cX8_point 64 = .ok (.invokevirtual 238, 3) := by decide +kernel
theorem dX8_point_67 : decode cX8_point 67 = .ok (.ireturn, 1) := by decide +kernel
theorem dX8_point_68 : decode cX8_point 68 = .ok (.aload_n 0, 1) := by decide +kernel
theorem dX8_point_69 : decode cX8_point 69 = .ok (.iload_n 1, 1) := by decide +kernel
theorem dX8_point_70 : decode cX8_point 70 = .ok (.invokevirtual 241, 3) := by decide +kernel
theorem dX8_point_73 : decode cX8_point 73 = .ok (.ireturn, 1) := by decide +kernel
theorem dX8_point_74 : decode cX8_point 74 = .ok (.iconst (-1), 1) := by decide +kernel
theorem dX8_point_75 : decode cX8_point 75 = .ok (.ireturn, 1) := by decide +kernel
theorem dX8_period_0 : decode cX8_period 0 = .ok (.aload_n 0, 1) := by decide +kernel
theorem dX8_period_1 : decode cX8_period 1 = .ok (.getfield 42, 3) := by decide +kernel
theorem dX8_period_4 : decode cX8_period 4 = .ok (.aload_n 0, 1) := by decide +kernel
theorem dX8_period_5 : decode cX8_period 5 = .ok (.getfield 14, 3) := by decide +kernel
theorem dX8_period_8 : decode cX8_period 8 = .ok (.getfield 67, 3) := by decide +kernel
theorem dX8_period_11 : decode cX8_period 11 = .ok (.invokevirtual 225, 3) := by decide +kernel
theorem dX8_period_14 : decode cX8_period 14 = .ok (.aload_n 0, 1) := by decide +kernel
theorem dX8_period_15 : decode cX8_period 15 = .ok (.getfield 42, 3) := by decide +kernel
theorem dX8_period_18 : decode cX8_period 18 = .ok (.iload_n 1, 1) := by decide +kernel
theorem dX8_period_19 : decode cX8_period 19 = .ok (.invokevirtual 244, 3) := by decide +kernel
theorem dX8_period_22 : decode cX8_period 22 = .ok (.ireturn, 1) := by decide +kernel
theorem dX8_gone_0 : decode cX8_gone 0 = .ok (.aload_n 0, 1) := by decide +kernel
theorem dX8_gone_1 : decode cX8_gone 1 = .ok (.getfield 14, 3) := by decide +kernel
theorem dX8_gone_4 : decode cX8_gone 4 = .ok (.getfield 67, 3) := by decide +kernel
theorem dX8_gone_7 : decode cX8_gone 7 = .ok (.iload_n 1, 1) := by decide +kernel
theorem dX8_gone_8 : decode cX8_gone 8 = .ok (.invokevirtual 232, 3) := by decide +kernel
theorem dX8_gone_11 : decode cX8_gone 11 = .ok (.ifCond .ne 5, 3) := by decide +kernel
theorem dX8_gone_14 : decode cX8_gone 14 = .ok (.iconst (-1), 1) := by decide +kernel
theorem dX8_gone_15 : decode cX8_gone 15 = .ok (.ireturn, 1) := by decide +kernel
theorem dX8_gone_16 : decode cX8_gone 16 = .ok (.iload_n 2, 1) := by decide +kernel
theorem dX8_gone_17 : decode cX8_gone 17 = .ok (.ifCond .lt 10, 3) := by decide +kernel
theorem dX8_gone_20 : decode cX8_gone 20 = .ok (.iload_n 2, 1) := by decide +kernel
theorem dX8_gone_21 : decode cX8_gone 21 = .ok (.sipush 9999, 3) := by decide +kernel
theorem dX8_gone_24 : decode cX8_gone 24 = .ok (.if_icmp .le 6, 3) := by decide +kernel
theorem dX8_gone_27 : decode cX8_gone 27 = .ok (.bipush (-2), 2) := by decide +kernel
theorem dX8_gone_29 : decode cX8_gone 29 = .ok (.ireturn, 1) := by decide +kernel
theorem dX8_gone_30 : decode cX8_gone 30 = .ok (.aload_n 0, 1) := by decide +kernel
theorem dX8_gone_31 : decode cX8_gone 31 = .ok (.getfield 42, 3) := by decide +kernel
theorem dX8_gone_34 : decode cX8_gone 34 = .ok (.aload_n 0, 1) := by decide +kernel
theorem dX8_gone_35 : decode cX8_gone 35 = .ok (.getfield 14, 3) := by decide +kernel
theorem dX8_gone_38 : decode cX8_gone 38 = .ok (.getfield 67, 3) := by decide +kernel
theorem dX8_gone_41 : decode cX8_gone 41 = .ok (.invokevirtual 225, 3) := by decide +kernel
theorem dX8_gone_44 : decode cX8_gone 44 = .ok (.aload_n 0, 1) := by decide +kernel
theorem dX8_gone_45 : decode cX8_gone 45 = .ok (.getfield 42, 3) := by decide +kernel
theorem dX8_gone_48 : decode cX8_gone 48 = .ok (.iload_n 1, 1) := by decide +kernel
theorem dX8_gone_49 : decode cX8_gone 49 = .ok (.iload_n 2, 1) := by decide +kernel
theorem dX8_gone_50 : decode cX8_gone 50 = .ok (.invokevirtual 247, 3) := by decide +kernel
theorem dX8_gone_53 : decode cX8_gone 53 = .ok (.ireturn, 1) := by decide +kernel
theorem dX8_code_0 : decode cX8_code 0 = .ok (.iload_n 1, 1) := by decide +kernel
theorem dX8_code_1 : decode cX8_code 1 = .ok (.ifCond .ge 5, 3) := by decide +kernel
theorem dX8_code_4 : decode cX8_code 4 = .ok (.iconst (-1), 1) := by decide +kernel
theorem dX8_code_5 : decode cX8_code 5 = .ok (.ireturn, 1) := by decide +kernel
theorem dX8_code_6 : decode cX8_code 6 = .ok (.aload_n 0, 1) := by decide +kernel
theorem dX8_code_7 : decode cX8_code 7 = .ok (.invokevirtual 198, 3) := by decide +kernel
theorem dX8_code_10 : decode cX8_code 10 = .ok (.pop, 1) := by decide +kernel
theorem dX8_code_11 : decode cX8_code 11 = .ok (.aload_n 0, 1) := by decide +kernel
theorem dX8_code_12 : decode cX8_code 12 = .ok (.getfield 49, 3) := by decide +kernel
theorem dX8_code_15 : decode cX8_code 15 = .ok (.iload_n 1, 1) := by decide +kernel
theorem dX8_code_16 : decode cX8_code 16 = .ok (.invokevirtual 250, 3) := by decide +kernel
theorem dX8_code_19 : decode cX8_code 19 = .ok (.ireturn, 1) := by decide +kernel
theorem dX8_next_0 : decode cX8_next 0 = .ok (.iload_n 2, 1) := by decide +kernel
theorem dX8_next_1 : decode cX8_next 1 = .ok (.invokestatic 114, 3) := by decide +kernel
theorem dX8_next_4 : decode cX8_next 4 = .ok (.ifCond .ne 5, 3) := by decide +kernel
theorem dX8_next_7 : decode cX8_next 7 = .ok (.iconst (-1), 1) := by decide +kernel
theorem dX8_next_8 : decode cX8_next 8 = .ok (.ireturn, 1) := by decide +kernel
theorem dX8_next_9 : decode cX8_next 9 = .ok (.iload_n 1, 1) := by decide +kernel
theorem dX8_next_10 : decode cX8_next 10 = .ok (.aload_n 0, 1) := by decide +kernel
theorem dX8_next_11 : decode cX8_next 11 = .ok (.getfield 14, 3) := by decide +kernel
theorem dX8_next_14 : decode cX8_next 14 = .ok (.getfield 67, 3) := by decide +kernel
theorem dX8_next_17 : decode cX8_next 17 = .ok (.getfield 70, 3) := by decide +kernel
theorem dX8_next_20 : decode cX8_next 20 = .ok (.invokestatic 81, 3) := by decide +kernel
theorem dX8_next_23 : decode cX8_next 23 = .ok (.ifCond .ne 6, 3) := by decide +kernel
theorem dX8_next_26 : decode cX8_next 26 = .ok (.bipush (-2), 2) := by decide +kernel
theorem dX8_next_28 : decode cX8_next 28 = .ok (.ireturn, 1) := by decide +kernel
theorem dX8_next_29 : decode cX8_next 29 = .ok (.aload_n 0, 1) := by decide +kernel
theorem dX8_next_30 : decode cX8_next 30 = .ok (.getfield 49, 3) := by decide +kernel
theorem dX8_next_33 : decode cX8_next 33 = .ok (.iload_n 1, 1) := by decide +kernel
theorem dX8_next_34 : decode cX8_next 34 = .ok (.aload_n 0, 1) := by decide +kernel
theorem dX8_next_35 : decode cX8_next 35 = .ok (.getfield 14, 3) := by decide +kernel
theorem dX8_next_38 : decode cX8_next 38 = .ok (.getfield 67, 3) := by decide +kernel
theorem dX8_next_41 : decode cX8_next 41 = .ok (.getfield 70, 3) := by decide +kernel
theorem dX8_next_44 : decode cX8_next 44 = .ok (.iload_n 2, 1) := by decide +kernel
theorem dX8_next_45 : decode cX8_next 45 = .ok (.invokevirtual 253, 3) := by decide +kernel
theorem dX8_next_48 : decode cX8_next 48 = .ok (.ireturn, 1) := by decide +kernel
theorem dX8_meeting_0 : decode cX8_meeting 0 = .ok (.iload_n 1, 1) := by decide +kernel
theorem dX8_meeting_1 : decode cX8_meeting 1 = .ok (.ifCond .lt 17, 3) := by decide +kernel
theorem dX8_meeting_4 : decode cX8_meeting 4 = .ok (.iload_n 1, 1) := by decide +kernel
theorem dX8_meeting_5 : decode cX8_meeting 5 = .ok (.aload_n 0, 1) := by decide +kernel
theorem dX8_meeting_6 : decode cX8_meeting 6 = .ok (.getfield 14, 3) := by decide +kernel
theorem dX8_meeting_9 : decode cX8_meeting 9 = .ok (.getfield 67, 3) := by decide +kernel
theorem dX8_meeting_12 : decode cX8_meeting 12 = .ok (.getfield 70, 3) := by decide +kernel
theorem dX8_meeting_15 : decode cX8_meeting 15 = .ok (.if_icmp .le 5, 3) := by decide +kernel
theorem dX8_meeting_18 : decode cX8_meeting 18 = .ok (.iconst (-1), 1) := by decide +kernel
theorem dX8_meeting_19 : decode cX8_meeting 19 = .ok (.ireturn, 1) := by decide +kernel
theorem dX8_meeting_20 : decode cX8_meeting 20 = .ok (.aload_n 0, 1) := by decide +kernel
theorem dX8_meeting_21 : decode cX8_meeting 21 = .ok (.getfield 14, 3) := by decide +kernel
theorem dX8_meeting_24 : decode cX8_meeting 24 = .ok (.getfield 67, 3) := by decide +kernel
theorem dX8_meeting_27 : decode cX8_meeting 27 = .ok (.iload_n 1, 1) := by decide +kernel
theorem dX8_meeting_28 : decode cX8_meeting 28 = .ok (.invokevirtual 256, 3) := by decide +kernel
theorem dX8_meeting_31 : decode cX8_meeting 31 = .ok (.ireturn, 1) := by decide +kernel
theorem dX8_see_0 : decode cX8_see 0 = .ok (.iload_n 1, 1) := by decide +kernel
theorem dX8_see_1 : decode cX8_see 1 = .ok (.iconst (-1), 1) := by decide +kernel
theorem dX8_see_2 : decode cX8_see 2 = .ok (.if_icmp .ne 14, 3) := by decide +kernel
theorem dX8_see_5 : decode cX8_see 5 = .ok (.aload_n 0, 1) := by decide +kernel
theorem dX8_see_6 : decode cX8_see 6 = .ok (.getfield 14, 3) := by decide +kernel
theorem dX8_see_9 : decode cX8_see 9 = .ok (.getfield 259, 3) := by decide +kernel
theorem dX8_see_12 : decode cX8_see 12 = .ok (.invokevirtual 263, 3) := by decide +kernel
theorem dX8_see_15 : decode cX8_see 15 = .ok (.ireturn, 1) := by decide +kernel
theorem dX8_see_16 : decode cX8_see 16 = .ok (.iload_n 1, 1) := by decide +kernel
theorem dX8_see_17 : decode cX8_see 17 = .ok (.invokestatic 267, 3) := by decide +kernel
theorem dX8_see_20 : decode cX8_see 20 = .ok (.ifCond .eq 10, 3) := by decide +kernel
theorem dX8_see_23 : decode cX8_see 23 = .ok (.iload_n 2, 1) := by decide +kernel
theorem dX8_see_24 : decode cX8_see 24 = .ok (.invokestatic 267, 3) := by decide +kernel
theorem dX8_see_27 : decode cX8_see 27 = .ok (.ifCond .ne 6, 3) := by decide +kernel
theorem dX8_see_30 : decode cX8_see 30 = .ok (.bipush (-2), 2) := by decide +kernel
theorem dX8_see_32 : decode cX8_see 32 = .ok (.ireturn, 1) := by decide +kernel
theorem dX8_see_33 : decode cX8_see 33 = .ok (.aload_n 0, 1) := by decide +kernel
theorem dX8_see_34 : decode cX8_see 34 = .ok (.getfield 14, 3) := by decide +kernel
theorem dX8_see_37 : decode cX8_see 37 = .ok (.getfield 259, 3) := by decide +kernel
theorem dX8_see_40 : decode cX8_see 40 = .ok (.iload_n 1, 1) := by decide +kernel
theorem dX8_see_41 : decode cX8_see 41 = .ok (.iload_n 2, 1) := by decide +kernel
theorem dX8_see_42 : decode cX8_see 42 = .ok (.invokevirtual 270, 3) := by decide +kernel
theorem dX8_see_45 : decode cX8_see 45 = .ok (.ireturn, 1) := by decide +kernel
theorem dX8_canBeSeen_0 : decode cX8_canBeSeen 0 = .ok (.iload_n 0, 1) := by decide +kernel
theorem dX8_canBeSeen_1 : decode cX8_canBeSeen 1 = .ok (.ifCond .lt 14, 3) := by decide +kernel
theorem dX8_canBeSeen_4 : decode cX8_canBeSeen 4 = .ok (.iload_n 0, 1) := by decide +kernel
theorem dX8_canBeSeen_5 : decode cX8_canBeSeen 5 = .ok (.sipush 499, 3) := by decide +kernel
theorem dX8_canBeSeen_8 : decode cX8_canBeSeen 8 = .ok (.if_icmp .gt 7, 3) := by decide +kernel
theorem dX8_canBeSeen_11 : decode cX8_canBeSeen 11 = .ok (.iconst 1, 1) := by decide +kernel
theorem dX8_canBeSeen_12 : decode cX8_canBeSeen 12 = .ok (.goto 4, 3) := by decide +kernel
theorem dX8_canBeSeen_15 : decode cX8_canBeSeen 15 = .ok (.iconst 0, 1) := by decide +kernel
theorem dX8_canBeSeen_16 : decode cX8_canBeSeen 16 = .ok (.ireturn, 1) := by decide +kernel
theorem dX8_fits_0 : decode cX8_fits 0 = .ok (.aload_n 0, 1) := by decide +kernel
theorem dX8_fits_1 : decode cX8_fits 1 = .ok (.getfield 14, 3) := by decide +kernel
theorem dX8_fits_4 : decode cX8_fits 4 = .ok (.getfield 67, 3) := by decide +kernel
theorem dX8_fits_7 : decode cX8_fits 7 = .ok (.iload_n 1, 1) := by decide +kernel
theorem dX8_fits_8 : decode cX8_fits 8 = .ok (.invokevirtual 88, 3) := by decide +kernel
theorem dX8_fits_11 : decode cX8_fits 11 = .ok (.ifCond .eq 12, 3) := by decide +kernel
theorem dX8_fits_14 : decode cX8_fits 14 = .ok (.iload_n 2, 1) := by decide +kernel
theorem dX8_fits_15 : decode cX8_fits 15 = .ok (.ifCond .lt 8, 3) := by decide +kernel
theorem dX8_fits_18 : decode cX8_fits 18 = .ok (.iload_n 2, 1) := by decide +kernel
theorem dX8_fits_19 : decode cX8_fits 19 = .ok (.iconst 1, 1) := by decide +kernel
theorem dX8_fits_20 : decode cX8_fits 20 = .ok (.if_icmp .le 5, 3) := by decide +kernel
theorem dX8_fits_23 : decode cX8_fits 23 = .ok (.iconst (-1), 1) := by decide +kernel
theorem dX8_fits_24 : decode cX8_fits 24 = .ok (.ireturn, 1) := by decide +kernel
theorem dX8_fits_25 : decode cX8_fits 25 = .ok (.aload_n 0, 1) := by decide +kernel
theorem dX8_fits_26 : decode cX8_fits 26 = .ok (.getfield 56, 3) := by decide +kernel
theorem dX8_fits_29 : decode cX8_fits 29 = .ok (.aload_n 0, 1) := by decide +kernel
theorem dX8_fits_30 : decode cX8_fits 30 = .ok (.getfield 14, 3) := by decide +kernel
theorem dX8_fits_33 : decode cX8_fits 33 = .ok (.getfield 67, 3) := by decide +kernel
theorem dX8_fits_36 : decode cX8_fits 36 = .ok (.invokevirtual 229, 3) := by decide +kernel
theorem dX8_fits_39 : decode cX8_fits 39 = .ok (.iconst 0, 1) := by decide +kernel
theorem dX8_fits_40 : decode cX8_fits 40 = .ok (.istore_n 3, 1) := by decide +kernel
theorem dX8_fits_41 : decode cX8_fits 41 = .ok (.bipush (-5), 2) := by decide +kernel
theorem dX8_fits_43 : decode cX8_fits 43 = .ok (.istore 4, 2) := by decide +kernel
theorem dX8_fits_45 : decode cX8_fits 45 = .ok (.iconst 1, 1) := by decide +kernel
theorem dX8_fits_46 : decode cX8_fits 46 = .ok (.istore 5, 2) := by decide +kernel
theorem dX8_fits_48 : decode cX8_fits 48 = .ok (.iload 5, 2) := by decide +kernel
theorem dX8_fits_50 : decode cX8_fits 50 = .ok (.bipush 40, 2) := by decide +kernel
theorem dX8_fits_52 : decode cX8_fits 52 = .ok (.if_icmp .gt 45, 3) := by decide +kernel
theorem dX8_fits_55 : decode cX8_fits 55 = .ok (.aload_n 0, 1) := by decide +kernel
theorem dX8_fits_56 : decode cX8_fits 56 = .ok (.getfield 56, 3) := by decide +kernel
theorem dX8_fits_59 : decode cX8_fits 59 = .ok (.getfield 99, 3) := by decide +kernel
theorem dX8_fits_62 : decode cX8_fits 62 = .ok (.iload_n 1, 1) := by decide +kernel
theorem dX8_fits_63 : decode cX8_fits 63 = .ok (.iload 5, 2) := by decide +kernel
theorem dX8_fits_65 : decode cX8_fits 65 = .ok (.iastore, 1) := by decide +kernel
theorem dX8_fits_66 : decode cX8_fits 66 = .ok (.aload_n 0, 1) := by decide +kernel
theorem dX8_fits_67 : decode cX8_fits 67 = .ok (.aload_n 0, 1) := by decide +kernel
theorem dX8_fits_68 : decode cX8_fits 68 = .ok (.getfield 56, 3) := by decide +kernel
theorem dX8_fits_71 : decode cX8_fits 71 = .ok (.invokevirtual 272, 3) := by decide +kernel
theorem dX8_fits_74 : decode cX8_fits 74 = .ok (.ifCond .eq 17, 3) := by decide +kernel
theorem dX8_fits_77 : decode cX8_fits 77 = .ok (.iinc 3 1, 3) := by decide +kernel
theorem dX8_fits_80 : decode cX8_fits 80 = .ok (.iload 4, 2) := by decide +kernel
theorem dX8_fits_82 : decode cX8_fits 82 = .ok (.bipush (-5), 2) := by decide +kernel
theorem dX8_fits_84 : decode cX8_fits 84 = .ok (.if_icmp .ne 7, 3) := by decide +kernel
theorem dX8_fits_87 : decode cX8_fits 87 = .ok (.iload 5, 2) := by decide +kernel
theorem dX8_fits_89 : decode cX8_fits 89 = .ok (.istore 4, 2) := by decide +kernel
theorem dX8_fits_91 : decode cX8_fits 91 = .ok (.iinc 5 1, 3) := by decide +kernel
theorem dX8_fits_94 : decode cX8_fits 94 = .ok (.goto (-46), 3) := by decide +kernel
theorem dX8_fits_97 : decode cX8_fits 97 = .ok (.iload_n 2, 1) := by decide +kernel
theorem dX8_fits_98 : decode cX8_fits 98 = .ok (.ifCond .ne 7, 3) := by decide +kernel
theorem dX8_fits_101 : decode cX8_fits 101 = .ok (.iload_n 3, 1) := by decide +kernel
theorem dX8_fits_102 : decode cX8_fits 102 = .ok (.goto 5, 3) := by decide +kernel
theorem dX8_fits_105 : decode cX8_fits 105 = .ok (.iload 4, 2) := by decide +kernel
theorem dX8_fits_107 : decode cX8_fits 107 = .ok (.ireturn, 1) := by decide +kernel
theorem dX8_isAllSeen_0 : decode cX8_isAllSeen 0 = .ok (.iconst 0, 1) := by decide +kernel
theorem dX8_isAllSeen_1 : decode cX8_isAllSeen 1 = .ok (.istore_n 2, 1) := by decide +kernel
theorem dX8_isAllSeen_2 : decode cX8_isAllSeen 2 = .ok (.iload_n 2, 1) := by decide +kernel
theorem dX8_isAllSeen_3 : decode cX8_isAllSeen 3 = .ok (.aload_n 0, 1) := by decide +kernel
theorem dX8_isAllSeen_4 : decode cX8_isAllSeen 4 = .ok (.getfield 14, 3) := by decide +kernel
theorem dX8_isAllSeen_7 : decode cX8_isAllSeen 7 = .ok (.getfield 259, 3) := by decide +kernel
theorem dX8_isAllSeen_10 : decode cX8_isAllSeen 10 = .ok (.getfield 276, 3) := by decide +kernel
theorem dX8_isAllSeen_13 : decode cX8_isAllSeen 13 = .ok (.if_icmp .ge 52, 3) := by decide +kernel
theorem dX8_isAllSeen_16 : decode cX8_isAllSeen 16 = .ok (.aload_n 0, 1) := by decide +kernel
theorem dX8_isAllSeen_17 : decode cX8_isAllSeen 17 = .ok (.getfield 14, 3) := by decide +kernel
theorem dX8_isAllSeen_20 : decode cX8_isAllSeen 20 = .ok (.getfield 259, 3) := by decide +kernel
theorem dX8_isAllSeen_23 : decode cX8_isAllSeen 23 = .ok (.getfield 277, 3) := by decide +kernel
theorem dX8_isAllSeen_26 : decode cX8_isAllSeen 26 = .ok (.iload_n 2, 1) := by decide +kernel
theorem dX8_isAllSeen_27 : decode cX8_isAllSeen 27 = .ok (.iaload, 1) := by decide +kernel
theorem dX8_isAllSeen_28 : decode cX8_isAllSeen 28 = .ok (.istore_n 3, 1) := by decide +kernel
theorem dX8_isAllSeen_29 : decode cX8_isAllSeen 29 = .ok (.aload_n 1, 1) := by decide +kernel
theorem dX8_isAllSeen_30 : decode cX8_isAllSeen 30 = .ok (.iload_n 3, 1) := by decide +kernel
theorem dX8_isAllSeen_31 : decode cX8_isAllSeen 31 = .ok (.invokevirtual 232, 3) := by decide +kernel
theorem dX8_isAllSeen_34 : decode cX8_isAllSeen 34 = .ok (.ifCond .eq 23, 3) := by decide +kernel
theorem dX8_isAllSeen_37 : decode cX8_isAllSeen 37 = .ok (.aload_n 1, 1) := by decide +kernel
theorem dX8_isAllSeen_38 : decode cX8_isAllSeen 38 = .ok (.iload_n 3, 1) := by decide +kernel
theorem dX8_isAllSeen_39 : decode cX8_isAllSeen 39 = .ok (.invokevirtual 235, 3) := by decide +kernel
theorem dX8_isAllSeen_42 : decode cX8_isAllSeen 42 = .ok (.aload_n 0, 1) := by decide +kernel
theorem dX8_isAllSeen_43 : decode cX8_isAllSeen 43 = .ok (.getfield 14, 3) := by decide +kernel
theorem dX8_isAllSeen_46 : decode cX8_isAllSeen 46 = .ok (.getfield 259, 3) := by decide +kernel
theorem dX8_isAllSeen_49 : decode cX8_isAllSeen 49 = .ok (.getfield 278, 3) := by decide +kernel
theorem dX8_isAllSeen_52 : decode cX8_isAllSeen 52 = .ok (.iload_n 2, 1) := by decide +kernel
theorem dX8_isAllSeen_53 : decode cX8_isAllSeen 53 = .ok (.iaload, 1) := by decide +kernel
theorem dX8_isAllSeen_54 : decode cX8_isAllSeen 54 = .ok (.if_icmp .eq 5, 3) := by decide +kernel
theorem dX8_isAllSeen_57 : decode cX8_isAllSeen 57 = .ok (.iconst 0, 1) := by decide +kernel
theorem dX8_isAllSeen_58 : decode cX8_isAllSeen 58 = .ok (.ireturn, 1) := by decide +kernel
theorem dX8_isAllSeen_59 : decode cX8_isAllSeen 59 = .ok (.iinc 2 1, 3) := by decide +kernel
theorem dX8_isAllSeen_62 : decode cX8_isAllSeen 62 = .ok (.goto (-60), 3) := by decide +kernel
theorem dX8_isAllSeen_65 : decode cX8_isAllSeen 65 = .ok (.iconst 1, 1) := by decide +kernel
theorem dX8_isAllSeen_66 : decode cX8_isAllSeen 66 = .ok (.ireturn, 1) := by decide +kernel
theorem dX8_odds_0 : decode cX8_odds 0 = .ok (.aload_n 0, 1) := by decide +kernel
theorem dX8_odds_1 : decode cX8_odds 1 = .ok (.getfield 42, 3) := by decide +kernel
theorem dX8_odds_4 : decode cX8_odds 4 = .ok (.aload_n 0, 1) := by decide +kernel
theorem dX8_odds_5 : decode cX8_odds 5 = .ok (.getfield 14, 3) := by decide +kernel
theorem dX8_odds_8 : decode cX8_odds 8 = .ok (.getfield 67, 3) := by decide +kernel
theorem dX8_odds_11 : decode cX8_odds 11 = .ok (.invokevirtual 225, 3) := by decide +kernel
theorem dX8_odds_14 : decode cX8_odds 14 = .ok (.aload_n 0, 1) := by decide +kernel
theorem dX8_odds_15 : decode cX8_odds 15 = .ok (.getfield 42, 3) := by decide +kernel
theorem dX8_odds_18 : decode cX8_odds 18 = .ok (.invokevirtual 279, 3) := by decide +kernel
theorem dX8_odds_21 : decode cX8_odds 21 = .ok (.aload_n 0, 1) := by decide +kernel
theorem dX8_odds_22 : decode cX8_odds 22 = .ok (.getfield 42, 3) := by decide +kernel
theorem dX8_odds_25 : decode cX8_odds 25 = .ok (.getfield 282, 3) := by decide +kernel
theorem dX8_odds_28 : decode cX8_odds 28 = .ok (.iload_n 1, 1) := by decide +kernel
theorem dX8_odds_29 : decode cX8_odds 29 = .ok (.invokestatic 284, 3) := by decide +kernel
theorem dX8_odds_32 : decode cX8_odds 32 = .ok (.lreturn, 1) := by decide +kernel
theorem dX8_mean_0 : decode cX8_mean 0 = .ok (.aload_n 0, 1) := by decide +kernel
theorem dX8_mean_1 : decode cX8_mean 1 = .ok (.getfield 42, 3) := by decide +kernel
theorem dX8_mean_4 : decode cX8_mean 4 = .ok (.aload_n 0, 1) := by decide +kernel
theorem dX8_mean_5 : decode cX8_mean 5 = .ok (.getfield 14, 3) := by decide +kernel
theorem dX8_mean_8 : decode cX8_mean 8 = .ok (.getfield 67, 3) := by decide +kernel
theorem dX8_mean_11 : decode cX8_mean 11 = .ok (.invokevirtual 225, 3) := by decide +kernel
theorem dX8_mean_14 : decode cX8_mean 14 = .ok (.aload_n 0, 1) := by decide +kernel
theorem dX8_mean_15 : decode cX8_mean 15 = .ok (.getfield 42, 3) := by decide +kernel
theorem dX8_mean_18 : decode cX8_mean 18 = .ok (.invokevirtual 288, 3) := by decide +kernel
theorem dX8_mean_21 : decode cX8_mean 21 = .ok (.aload_n 0, 1) := by decide +kernel
theorem dX8_mean_22 : decode cX8_mean 22 = .ok (.getfield 42, 3) := by decide +kernel
theorem dX8_mean_25 : decode cX8_mean 25 = .ok (.getfield 282, 3) := by decide +kernel
theorem dX8_mean_28 : decode cX8_mean 28 = .ok (.iload_n 1, 1) := by decide +kernel
theorem dX8_mean_29 : decode cX8_mean 29 = .ok (.invokestatic 284, 3) := by decide +kernel
theorem dX8_mean_32 : decode cX8_mean 32 = .ok (.lreturn, 1) := by decide +kernel
theorem dX8_partInLowestTerms_0 : decode cX8_partInLowestTerms 0 = .ok (.iload_n 2, 1) := by decide +kernel
theorem dX8_partInLowestTerms_1 : decode cX8_partInLowestTerms 1 = .ok (.ifCond .eq 12, 3) := by decide +kernel
theorem dX8_partInLowestTerms_4 : decode cX8_partInLowestTerms 4 = .ok (.iload_n 2, 1) := by decide +kernel
theorem dX8_partInLowestTerms_5 : decode cX8_partInLowestTerms 5 = .ok (.iconst 1, 1) := by decide +kernel
theorem dX8_partInLowestTerms_6 : decode cX8_partInLowestTerms 6 = .ok (.if_icmp .eq 7, 3) := by decide +kernel
theorem dX8_partInLowestTerms_9 : decode cX8_partInLowestTerms 9 = .ok (.ldc2_w 291, 3) := by decide +kernel
theorem dX8_partInLowestTerms_12 : decode cX8_partInLowestTerms 12 = .ok (.lreturn, 1) := by decide +kernel
theorem dX8_partInLowestTerms_13 : decode cX8_partInLowestTerms 13 = .ok (.iload_n 0, 1) := by decide +kernel
theorem dX8_partInLowestTerms_14 : decode cX8_partInLowestTerms 14 = .ok (.iload_n 1, 1) := by decide +kernel
theorem dX8_partInLowestTerms_15 : decode cX8_partInLowestTerms 15 = .ok (.invokestatic 293, 3) := by decide +kernel
theorem dX8_partInLowestTerms_18 : decode cX8_partInLowestTerms 18 = .ok (.istore_n 3, 1) := by decide +kernel
theorem dX8_partInLowestTerms_19 : decode cX8_partInLowestTerms 19 = .ok (.iload_n 3, 1) := by decide +kernel
theorem dX8_partInLowestTerms_20 : decode cX8_partInLowestTerms 20 = .ok (.iconst 1, 1) := by decide +kernel
theorem dX8_partInLowestTerms_21 : decode cX8_partInLowestTerms 21 = .ok (.if_icmp .ge 7, 3) := by decide +kernel
theorem dX8_partInLowestTerms_24 : decode cX8_partInLowestTerms 24 = .ok (.ldc2_w 291, 3) := by decide +kernel
theorem dX8_partInLowestTerms_27 : decode cX8_partInLowestTerms 27 = .ok (.lreturn, 1) := by decide +kernel
theorem dX8_partInLowestTerms_28 : decode cX8_partInLowestTerms 28 = .ok (.iload_n 2, 1) := by decide +kernel
theorem dX8_partInLowestTerms_29 : decode cX8_partInLowestTerms 29 = .ok (.ifCond .ne 10, 3) := by decide +kernel
theorem dX8_partInLowestTerms_32 : decode cX8_partInLowestTerms 32 = .ok (.iload_n 0, 1) := by decide +kernel
theorem dX8_partInLowestTerms_33 : decode cX8_partInLowestTerms 33 = .ok (.iload_n 3, 1) := by decide +kernel
theorem dX8_partInLowestTerms_34 : decode cX8_partInLowestTerms 34 = .ok (.idiv, 1) := by decide +kernel
theorem dX8_partInLowestTerms_35 : decode cX8_partInLowestTerms 35 = .ok (.i2l, 1) := by decide +kernel
theorem dX8_partInLowestTerms_36 : decode cX8_partInLowestTerms 36 = .ok (.goto 7, 3) := by decide +kernel
theorem dX8_partInLowestTerms_39 : decode cX8_partInLowestTerms 39 = .ok (.iload_n 1, 1) := by decide +kernel
theorem dX8_partInLowestTerms_40 : decode cX8_partInLowestTerms 40 = .ok (.iload_n 3, 1) := by decide +kernel
theorem dX8_partInLowestTerms_41 : decode cX8_partInLowestTerms 41 = .ok (.idiv, 1) := by decide +kernel
theorem dX8_partInLowestTerms_42 : decode cX8_partInLowestTerms 42 = .ok (.i2l, 1) := by decide +kernel
theorem dX8_partInLowestTerms_43 : decode cX8_partInLowestTerms 43 = .ok (.lreturn, 1) := by decide +kernel
theorem dX8_greatestDivisor_0 : decode cX8_greatestDivisor 0 = .ok (.iload_n 0, 1) := by decide +kernel
theorem dX8_greatestDivisor_1 : decode cX8_greatestDivisor 1 = .ok (.istore_n 2, 1) := by decide +kernel
theorem dX8_greatestDivisor_2 : decode cX8_greatestDivisor 2 = .ok (.iload_n 1, 1) := by decide +kernel
theorem dX8_greatestDivisor_3 : decode cX8_greatestDivisor 3 = .ok (.istore_n 3, 1) := by decide +kernel
theorem dX8_greatestDivisor_4 : decode cX8_greatestDivisor 4 = .ok (.iconst 0, 1) := by decide +kernel
theorem dX8_greatestDivisor_5 : decode cX8_greatestDivisor 5 = .ok (.istore 4, 2) := by decide +kernel
theorem dX8_greatestDivisor_7 : decode cX8_greatestDivisor 7 = .ok (.iload 4, 2) := by decide +kernel
theorem dX8_greatestDivisor_9 : decode cX8_greatestDivisor 9 = .ok (.bipush 64, 2) := by decide +kernel
theorem dX8_greatestDivisor_11 : decode cX8_greatestDivisor 11 = .ok (.if_icmp .ge 23, 3) := by decide +kernel
theorem dX8_greatestDivisor_14 : decode cX8_greatestDivisor 14 = .ok (.iload_n 3, 1) := by decide +kernel
theorem dX8_greatestDivisor_15 : decode cX8_greatestDivisor 15 = .ok (.ifCond .eq 19, 3) := by decide +kernel
theorem dX8_greatestDivisor_18 : decode cX8_greatestDivisor 18 = .ok (.iload_n 2, 1) := by decide +kernel
theorem dX8_greatestDivisor_19 : decode cX8_greatestDivisor 19 = .ok (.iload_n 3, 1) := by decide +kernel
theorem dX8_greatestDivisor_20 : decode cX8_greatestDivisor 20 = .ok (.irem, 1) := by decide +kernel
theorem dX8_greatestDivisor_21 : decode cX8_greatestDivisor 21 = .ok (.istore 5, 2) := by decide +kernel
theorem dX8_greatestDivisor_23 : decode cX8_greatestDivisor 23 = .ok (.iload_n 3, 1) := by decide +kernel
theorem dX8_greatestDivisor_24 : decode cX8_greatestDivisor 24 = .ok (.istore_n 2, 1) := by decide +kernel
theorem dX8_greatestDivisor_25 : decode cX8_greatestDivisor 25 = .ok (.iload 5, 2) := by decide +kernel
theorem dX8_greatestDivisor_27 : decode cX8_greatestDivisor 27 = .ok (.istore_n 3, 1) := by decide +kernel
theorem dX8_greatestDivisor_28 : decode cX8_greatestDivisor 28 = .ok (.iinc 4 1, 3) := by decide +kernel
theorem dX8_greatestDivisor_31 : decode cX8_greatestDivisor 31 = .ok (.goto (-24), 3) := by decide +kernel
theorem dX8_greatestDivisor_34 : decode cX8_greatestDivisor 34 = .ok (.iload_n 2, 1) := by decide +kernel
theorem dX8_greatestDivisor_35 : decode cX8_greatestDivisor 35 = .ok (.ireturn, 1) := by decide +kernel
theorem dX8_event_0 : decode cX8_event 0 = .ok (.iload_n 1, 1) := by decide +kernel
theorem dX8_event_1 : decode cX8_event 1 = .ok (.iconst (-1), 1) := by decide +kernel
theorem dX8_event_2 : decode cX8_event 2 = .ok (.if_icmp .ne 14, 3) := by decide +kernel
theorem dX8_event_5 : decode cX8_event 5 = .ok (.aload_n 0, 1) := by decide +kernel
theorem dX8_event_6 : decode cX8_event 6 = .ok (.getfield 14, 3) := by decide +kernel
theorem dX8_event_9 : decode cX8_event 9 = .ok (.getfield 296, 3) := by decide +kernel
theorem dX8_event_12 : decode cX8_event 12 = .ok (.invokevirtual 263, 3) := by decide +kernel
theorem dX8_event_15 : decode cX8_event 15 = .ok (.ireturn, 1) := by decide +kernel
theorem dX8_event_16 : decode cX8_event 16 = .ok (.iload_n 1, 1) := by decide +kernel
theorem dX8_event_17 : decode cX8_event 17 = .ok (.ifCond .lt 8, 3) := by decide +kernel
theorem dX8_event_20 : decode cX8_event 20 = .ok (.iload_n 1, 1) := by decide +kernel
theorem dX8_event_21 : decode cX8_event 21 = .ok (.iconst 2, 1) := by decide +kernel
theorem dX8_event_22 : decode cX8_event 22 = .ok (.if_icmp .le 5, 3) := by decide +kernel
theorem dX8_event_25 : decode cX8_event 25 = .ok (.iconst (-1), 1) := by decide +kernel
theorem dX8_event_26 : decode cX8_event 26 = .ok (.ireturn, 1) := by decide +kernel
theorem dX8_event_27 : decode cX8_event 27 = .ok (.iload_n 1, 1) := by decide +kernel
theorem dX8_event_28 : decode cX8_event 28 = .ok (.iconst 1, 1) := by decide +kernel
theorem dX8_event_29 : decode cX8_event 29 = .ok (.if_icmp .ne 19, 3) := by decide +kernel
theorem dX8_event_32 : decode cX8_event 32 = .ok (.aload_n 0, 1) := by decide +kernel
theorem dX8_event_33 : decode cX8_event 33 = .ok (.getfield 14, 3) := by decide +kernel
theorem dX8_event_36 : decode cX8_event 36 = .ok (.getfield 67, 3) := by decide +kernel
theorem dX8_event_39 : decode cX8_event 39 = .ok (.iload_n 2, 1) := by decide +kernel
theorem dX8_event_40 : decode cX8_event 40 = .ok (.invokevirtual 88, 3) := by decide +kernel
theorem dX8_event_43 : decode cX8_event 43 = .ok (.ifCond .ne 5, 3) := by decide +kernel
theorem dX8_event_46 : decode cX8_event 46 = .ok (.iconst (-1), 1) := by decide +kernel
theorem dX8_event_47 : decode cX8_event 47 = .ok (.ireturn, 1) := by decide +kernel
theorem dX8_event_48 : decode cX8_event 48 = .ok (.iload_n 1, 1) := by decide +kernel
theorem dX8_event_49 : decode cX8_event 49 = .ok (.iconst 2, 1) := by decide +kernel
theorem dX8_event_50 : decode cX8_event 50 = .ok (.if_icmp .ne 12, 3) := by decide +kernel
theorem dX8_event_53 : decode cX8_event 53 = .ok (.iload_n 2, 1) := by decide +kernel
theorem dX8_event_54 : decode cX8_event 54 = .ok (.invokestatic 114, 3) := by decide +kernel
theorem dX8_event_57 : decode cX8_event 57 = .ok (.ifCond .ne 5, 3) := by decide +kernel
theorem dX8_event_60 : decode cX8_event 60 = .ok (.iconst (-1), 1) := by decide +kernel
theorem dX8_event_61 : decode cX8_event 61 = .ok (.ireturn, 1) := by decide +kernel
theorem dX8_event_62 : decode cX8_event 62 = .ok (.iload_n 1, 1) := by decide +kernel
theorem dX8_event_63 : decode cX8_event 63 = .ok (.ifCond .ne 10, 3) := by decide +kernel
theorem dX8_event_66 : decode cX8_event 66 = .ok (.iload_n 2, 1) := by decide +kernel
theorem dX8_event_67 : decode cX8_event 67 = .ok (.ifCond .eq 6, 3) := by decide +kernel
theorem dX8_event_70 : decode cX8_event 70 = .ok (.bipush (-2), 2) := by decide +kernel
theorem dX8_event_72 : decode cX8_event 72 = .ok (.ireturn, 1) := by decide +kernel
theorem dX8_event_73 : decode cX8_event 73 = .ok (.aload_n 0, 1) := by decide +kernel
theorem dX8_event_74 : decode cX8_event 74 = .ok (.getfield 14, 3) := by decide +kernel
theorem dX8_event_77 : decode cX8_event 77 = .ok (.getfield 296, 3) := by decide +kernel
theorem dX8_event_80 : decode cX8_event 80 = .ok (.iload_n 1, 1) := by decide +kernel
theorem dX8_event_81 : decode cX8_event 81 = .ok (.iload_n 2, 1) := by decide +kernel
theorem dX8_event_82 : decode cX8_event 82 = .ok (.invokevirtual 270, 3) := by decide +kernel
theorem dX8_event_85 : decode cX8_event 85 = .ok (.ireturn, 1) := by decide +kernel
theorem dX8_after_0 : decode cX8_after 0 = .ok (.iload_n 1, 1) := by decide +kernel
theorem dX8_after_1 : decode cX8_after 1 = .ok (.ifCond .lt 8, 3) := by decide +kernel
theorem dX8_after_4 : decode cX8_after 4 = .ok (.iload_n 1, 1) := by decide +kernel
theorem dX8_after_5 : decode cX8_after 5 = .ok (.iconst 2, 1) := by decide +kernel
theorem dX8_after_6 : decode cX8_after 6 = .ok (.if_icmp .le 5, 3) := by decide +kernel
theorem dX8_after_9 : decode cX8_after 9 = .ok (.iconst (-1), 1) := by decide +kernel
theorem dX8_after_10 : decode cX8_after 10 = .ok (.ireturn, 1) := by decide +kernel
theorem dX8_after_11 : decode cX8_after 11 = .ok (.aload_n 0, 1) := by decide +kernel
theorem dX8_after_12 : decode cX8_after 12 = .ok (.getfield 56, 3) := by decide +kernel
theorem dX8_after_15 : decode cX8_after 15 = .ok (.aload_n 0, 1) := by decide +kernel
theorem dX8_after_16 : decode cX8_after 16 = .ok (.getfield 14, 3) := by decide +kernel
theorem dX8_after_19 : decode cX8_after 19 = .ok (.getfield 67, 3) := by decide +kernel
theorem dX8_after_22 : decode cX8_after 22 = .ok (.invokevirtual 229, 3) := by decide +kernel
theorem dX8_after_25 : decode cX8_after 25 = .ok (.iconst 0, 1) := by decide +kernel
theorem dX8_after_26 : decode cX8_after 26 = .ok (.istore_n 2, 1) := by decide +kernel
theorem dX8_after_27 : decode cX8_after 27 = .ok (.iload_n 2, 1) := by decide +kernel
theorem dX8_after_28 : decode cX8_after 28 = .ok (.aload_n 0, 1) := by decide +kernel
theorem dX8_after_29 : decode cX8_after 29 = .ok (.getfield 14, 3) := by decide +kernel
theorem dX8_after_32 : decode cX8_after 32 = .ok (.getfield 296, 3) := by decide +kernel
theorem dX8_after_35 : decode cX8_after 35 = .ok (.getfield 276, 3) := by decide +kernel
theorem dX8_after_38 : decode cX8_after 38 = .ok (.if_icmp .ge 40, 3) := by decide +kernel
theorem dX8_after_41 : decode cX8_after 41 = .ok (.aload_n 0, 1) := by decide +kernel
theorem dX8_after_42 : decode cX8_after 42 = .ok (.getfield 56, 3) := by decide +kernel
theorem dX8_after_45 : decode cX8_after 45 = .ok (.aload_n 0, 1) := by decide +kernel
theorem dX8_after_46 : decode cX8_after 46 = .ok (.getfield 14, 3) := by decide +kernel
theorem dX8_after_49 : decode cX8_after 49 = .ok (.getfield 296, 3) := by decide +kernel
theorem dX8_after_52 : decode cX8_after 52 = .ok (.getfield 277, 3) := by decide +kernel
theorem dX8_after_55 : decode cX8_after 55 = .ok (.iload_n 2, 1) := by decide +kernel
theorem dX8_after_56 : decode cX8_after 56 = .ok (.iaload, 1) := by decide +kernel
theorem dX8_after_57 : decode cX8_after 57 = .ok (.aload_n 0, 1) := by decide +kernel
theorem dX8_after_58 : decode cX8_after 58 = .ok (.getfield 14, 3) := by decide +kernel
theorem dX8_after_61 : decode cX8_after 61 = .ok (.getfield 296, 3) := by decide +kernel
theorem dX8_after_64 : decode cX8_after 64 = .ok (.getfield 278, 3) := by decide +kernel
theorem dX8_after_67 : decode cX8_after 67 = .ok (.iload_n 2, 1) := by decide +kernel
theorem dX8_after_68 : decode cX8_after 68 = .ok (.iaload, 1) := by decide +kernel
theorem dX8_after_69 : decode cX8_after 69 = .ok (.invokevirtual 299, 3) := by decide +kernel
theorem dX8_after_72 : decode cX8_after 72 = .ok (.iinc 2 1, 3) := by decide +kernel
theorem dX8_after_75 : decode cX8_after 75 = .ok (.goto (-48), 3) := by decide +kernel
theorem dX8_after_78 : decode cX8_after 78 = .ok (.iload_n 1, 1) := by decide +kernel
theorem dX8_after_79 : decode cX8_after 79 = .ok (.lookupswitch 41 #[(0, 25), (1, 33)], 25) := by decide +kernel
theorem dX8_after_104 : decode cX8_after 104 = .ok (.aload_n 0, 1) := by decide +kernel
theorem dX8_after_105 : decode cX8_after 105 = .ok (.getfield 56, 3) := by decide +kernel
theorem dX8_after_108 : decode cX8_after 108 = .ok (.invokevirtual 124, 3) := by decide +kernel
theorem dX8_after_111 : decode cX8_after 111 = .ok (.ireturn, 1) := by decide +kernel
theorem dX8_after_112 : decode cX8_after 112 = .ok (.aload_n 0, 1) := by decide +kernel
theorem dX8_after_113 : decode cX8_after 113 = .ok (.getfield 56, 3) := by decide +kernel
theorem dX8_after_116 : decode cX8_after 116 = .ok (.invokevirtual 133, 3) := by decide +kernel
theorem dX8_after_119 : decode cX8_after 119 = .ok (.ireturn, 1) := by decide +kernel
theorem dX8_after_120 : decode cX8_after 120 = .ok (.aload_n 0, 1) := by decide +kernel
theorem dX8_after_121 : decode cX8_after 121 = .ok (.getfield 56, 3) := by decide +kernel
theorem dX8_after_124 : decode cX8_after 124 = .ok (.invokevirtual 194, 3) := by decide +kernel
theorem dX8_after_127 : decode cX8_after 127 = .ok (.ifCond .eq 7, 3) := by decide +kernel
theorem dX8_after_130 : decode cX8_after 130 = .ok (.iconst 1, 1) := by decide +kernel
theorem dX8_after_131 : decode cX8_after 131 = .ok (.goto 4, 3) := by decide +kernel
theorem dX8_after_134 : decode cX8_after 134 = .ok (.iconst 0, 1) := by decide +kernel
theorem dX8_after_135 : decode cX8_after 135 = .ok (.ireturn, 1) := by decide +kernel
theorem dX8_book_0 : decode cX8_book 0 = .ok (.iload_n 1, 1) := by decide +kernel
theorem dX8_book_1 : decode cX8_book 1 = .ok (.iconst (-1), 1) := by decide +kernel
theorem dX8_book_2 : decode cX8_book 2 = .ok (.if_icmp .ne 14, 3) := by decide +kernel
theorem dX8_book_5 : decode cX8_book 5 = .ok (.aload_n 0, 1) := by decide +kernel
theorem dX8_book_6 : decode cX8_book 6 = .ok (.getfield 14, 3) := by decide +kernel
theorem dX8_book_9 : decode cX8_book 9 = .ok (.getfield 302, 3) := by decide +kernel
theorem dX8_book_12 : decode cX8_book 12 = .ok (.invokevirtual 263, 3) := by decide +kernel
theorem dX8_book_15 : decode cX8_book 15 = .ok (.ireturn, 1) := by decide +kernel
theorem dX8_book_16 : decode cX8_book 16 = .ok (.aload_n 0, 1) := by decide +kernel
theorem dX8_book_17 : decode cX8_book 17 = .ok (.getfield 14, 3) := by decide +kernel
theorem dX8_book_20 : decode cX8_book 20 = .ok (.getfield 67, 3) := by decide +kernel
theorem dX8_book_23 : decode cX8_book 23 = .ok (.iload_n 1, 1) := by decide +kernel
theorem dX8_book_24 : decode cX8_book 24 = .ok (.invokevirtual 88, 3) := by decide +kernel
theorem dX8_book_27 : decode cX8_book 27 = .ok (.ifCond .ne 5, 3) := by decide +kernel
theorem dX8_book_30 : decode cX8_book 30 = .ok (.iconst (-1), 1) := by decide +kernel
theorem dX8_book_31 : decode cX8_book 31 = .ok (.ireturn, 1) := by decide +kernel
theorem dX8_book_32 : decode cX8_book 32 = .ok (.iload_n 2, 1) := by decide +kernel
theorem dX8_book_33 : decode cX8_book 33 = .ok (.invokestatic 92, 3) := by decide +kernel
theorem dX8_book_36 : decode cX8_book 36 = .ok (.ifCond .ne 6, 3) := by decide +kernel
theorem dX8_book_39 : decode cX8_book 39 = .ok (.bipush (-2), 2) := by decide +kernel
theorem dX8_book_41 : decode cX8_book 41 = .ok (.ireturn, 1) := by decide +kernel
theorem dX8_book_42 : decode cX8_book 42 = .ok (.aload_n 0, 1) := by decide +kernel
theorem dX8_book_43 : decode cX8_book 43 = .ok (.getfield 14, 3) := by decide +kernel
theorem dX8_book_46 : decode cX8_book 46 = .ok (.getfield 302, 3) := by decide +kernel
theorem dX8_book_49 : decode cX8_book 49 = .ok (.iload_n 1, 1) := by decide +kernel
theorem dX8_book_50 : decode cX8_book 50 = .ok (.iload_n 2, 1) := by decide +kernel
theorem dX8_book_51 : decode cX8_book 51 = .ok (.invokevirtual 270, 3) := by decide +kernel
theorem dX8_book_54 : decode cX8_book 54 = .ok (.ireturn, 1) := by decide +kernel
theorem dX8_looked_0 : decode cX8_looked 0 = .ok (.iconst 0, 1) := by decide +kernel
theorem dX8_looked_1 : decode cX8_looked 1 = .ok (.istore_n 1, 1) := by decide +kernel
theorem dX8_looked_2 : decode cX8_looked 2 = .ok (.iload_n 1, 1) := by decide +kernel
theorem dX8_looked_3 : decode cX8_looked 3 = .ok (.aload_n 0, 1) := by decide +kernel
theorem dX8_looked_4 : decode cX8_looked 4 = .ok (.getfield 14, 3) := by decide +kernel
theorem dX8_looked_7 : decode cX8_looked 7 = .ok (.getfield 302, 3) := by decide +kernel
theorem dX8_looked_10 : decode cX8_looked 10 = .ok (.getfield 276, 3) := by decide +kernel
theorem dX8_looked_13 : decode cX8_looked 13 = .ok (.if_icmp .ge 65, 3) := by decide +kernel
theorem dX8_looked_16 : decode cX8_looked 16 = .ok (.aload_n 0, 1) := by decide +kernel
theorem dX8_looked_17 : decode cX8_looked 17 = .ok (.getfield 14, 3) := by decide +kernel
theorem dX8_looked_20 : decode cX8_looked 20 = .ok (.getfield 302, 3) := by decide +kernel
theorem dX8_looked_23 : decode cX8_looked 23 = .ok (.getfield 277, 3) := by decide +kernel
theorem dX8_looked_26 : decode cX8_looked 26 = .ok (.iload_n 1, 1) := by decide +kernel
theorem dX8_looked_27 : decode cX8_looked 27 = .ok (.iaload, 1) := by decide +kernel
theorem dX8_looked_28 : decode cX8_looked 28 = .ok (.istore_n 2, 1) := by decide +kernel
theorem dX8_looked_29 : decode cX8_looked 29 = .ok (.aload_n 0, 1) := by decide +kernel
theorem dX8_looked_30 : decode cX8_looked 30 = .ok (.getfield 14, 3) := by decide +kernel
theorem dX8_looked_33 : decode cX8_looked 33 = .ok (.getfield 67, 3) := by decide +kernel
theorem dX8_looked_36 : decode cX8_looked 36 = .ok (.iload_n 2, 1) := by decide +kernel
theorem dX8_looked_37 : decode cX8_looked 37 = .ok (.invokevirtual 88, 3) := by decide +kernel
theorem dX8_looked_40 : decode cX8_looked 40 = .ok (.ifCond .eq 30, 3) := by decide +kernel
theorem dX8_looked_43 : decode cX8_looked 43 = .ok (.aload_n 0, 1) := by decide +kernel
theorem dX8_looked_44 : decode cX8_looked 44 = .ok (.getfield 14, 3) := by decide +kernel
theorem dX8_looked_47 : decode cX8_looked 47 = .ok (.getfield 67, 3) := by decide +kernel
theorem dX8_looked_50 : decode cX8_looked 50 = .ok (.getfield 99, 3) := by decide +kernel
theorem dX8_looked_53 : decode cX8_looked 53 = .ok (.iload_n 2, 1) := by decide +kernel
theorem dX8_looked_54 : decode cX8_looked 54 = .ok (.iaload, 1) := by decide +kernel
theorem dX8_looked_55 : decode cX8_looked 55 = .ok (.aload_n 0, 1) := by decide +kernel
theorem dX8_looked_56 : decode cX8_looked 56 = .ok (.getfield 14, 3) := by decide +kernel
theorem dX8_looked_59 : decode cX8_looked 59 = .ok (.getfield 302, 3) := by decide +kernel
theorem dX8_looked_62 : decode cX8_looked 62 = .ok (.getfield 278, 3) := by decide +kernel
theorem dX8_looked_65 : decode cX8_looked 65 = .ok (.iload_n 1, 1) := by decide +kernel
theorem dX8_looked_66 : decode cX8_looked 66 = .ok (.iaload, 1) := by decide +kernel
theorem dX8_looked_67 : decode cX8_looked 67 = .ok (.if_icmp .eq 5, 3) := by decide +kernel
theorem dX8_looked_70 : decode cX8_looked 70 = .ok (.iload_n 1, 1) := by decide +kernel
theorem dX8_looked_71 : decode cX8_looked 71 = .ok (.ireturn, 1) := by decide +kernel
theorem dX8_looked_72 : decode cX8_looked 72 = .ok (.iinc 1 1, 3) := by decide +kernel
theorem dX8_looked_75 : decode cX8_looked 75 = .ok (.goto (-73), 3) := by decide +kernel
theorem dX8_looked_78 : decode cX8_looked 78 = .ok (.bipush (-5), 2) := by decide +kernel
theorem dX8_looked_80 : decode cX8_looked 80 = .ok (.ireturn, 1) := by decide +kernel
theorem dX8_judge_0 : decode cX8_judge 0 = .ok (.iload_n 1, 1) := by decide +kernel
theorem dX8_judge_1 : decode cX8_judge 1 = .ok (.invokestatic 305, 3) := by decide +kernel
theorem dX8_judge_4 : decode cX8_judge 4 = .ok (.ifCond .ne 5, 3) := by decide +kernel
theorem dX8_judge_7 : decode cX8_judge 7 = .ok (.iconst (-1), 1) := by decide +kernel
theorem dX8_judge_8 : decode cX8_judge 8 = .ok (.ireturn, 1) := by decide +kernel
theorem dX8_judge_9 : decode cX8_judge 9 = .ok (.aload_n 0, 1) := by decide +kernel
theorem dX8_judge_10 : decode cX8_judge 10 = .ok (.getfield 62, 3) := by decide +kernel
theorem dX8_judge_13 : decode cX8_judge 13 = .ok (.iload_n 1, 1) := by decide +kernel
theorem dX8_judge_14 : decode cX8_judge 14 = .ok (.aaload, 1) := by decide +kernel
theorem dX8_judge_15 : decode cX8_judge 15 = .ok (.astore_n 3, 1) := by decide +kernel
theorem dX8_judge_16 : decode cX8_judge 16 = .ok (.aload_n 3, 1) := by decide +kernel
theorem dX8_judge_17 : decode cX8_judge 17 = .ok (.getfield 308, 3) := by decide +kernel
theorem dX8_judge_20 : decode cX8_judge 20 = .ok (.iconst (-1), 1) := by decide +kernel
theorem dX8_judge_21 : decode cX8_judge 21 = .ok (.if_icmp .ne 6, 3) := by decide +kernel
theorem dX8_judge_24 : decode cX8_judge 24 = .ok (.bipush 100, 2) := by decide +kernel
theorem dX8_judge_26 : decode cX8_judge 26 = .ok (.ireturn, 1) := by decide +kernel
theorem dX8_judge_27 : decode cX8_judge 27 = .ok (.aload_n 3, 1) := by decide +kernel
end
section
theorem dX8_judge_28 : decode cX8_judge 28 = .ok (.getfield 308, 3) := by decide +kernel
theorem dX8_judge_31 : decode cX8_judge 31 = .ok (.iconst 1, 1) := by decide +kernel
theorem dX8_judge_32 : decode cX8_judge 32 = .ok (.if_icmp .eq 6, 3) := by decide +kernel
theorem dX8_judge_35 : decode cX8_judge 35 = .ok (.bipush (-12), 2) := by decide +kernel
theorem dX8_judge_37 : decode cX8_judge 37 = .ok (.ireturn, 1) := by decide +kernel
theorem dX8_judge_38 : decode cX8_judge 38 = .ok (.iload_n 2, 1) := by decide +kernel
theorem dX8_judge_39 : decode cX8_judge 39 = .ok (.ifCond .ge 6, 3) := by decide +kernel
theorem dX8_judge_42 : decode cX8_judge 42 = .ok (.bipush 100, 2) := by decide +kernel
theorem dX8_judge_44 : decode cX8_judge 44 = .ok (.ireturn, 1) := by decide +kernel
theorem dX8_judge_45 : decode cX8_judge 45 = .ok (.iconst 0, 1) := by decide +kernel
theorem dX8_judge_46 : decode cX8_judge 46 = .ok (.istore 4, 2) := by decide +kernel
theorem dX8_judge_48 : decode cX8_judge 48 = .ok (.iload 4, 2) := by decide +kernel
theorem dX8_judge_50 : decode cX8_judge 50 = .ok (.aload_n 0, 1) := by decide +kernel
theorem dX8_judge_51 : decode cX8_judge 51 = .ok (.getfield 14, 3) := by decide +kernel
theorem dX8_judge_54 : decode cX8_judge 54 = .ok (.getfield 67, 3) := by decide +kernel
theorem dX8_judge_57 : decode cX8_judge 57 = .ok (.getfield 70, 3) := by decide +kernel
theorem dX8_judge_60 : decode cX8_judge 60 = .ok (.if_icmp .ge 56, 3) := by decide +kernel
theorem dX8_judge_63 : decode cX8_judge 63 = .ok (.iload_n 2, 1) := by decide +kernel
theorem dX8_judge_64 : decode cX8_judge 64 = .ok (.aload_n 3, 1) := by decide +kernel
theorem dX8_judge_65 : decode cX8_judge 65 = .ok (.getfield 311, 3) := by decide +kernel
theorem dX8_judge_68 : decode cX8_judge 68 = .ok (.iload 4, 2) := by decide +kernel
theorem dX8_judge_70 : decode cX8_judge 70 = .ok (.isub, 1) := by decide +kernel
theorem dX8_judge_71 : decode cX8_judge 71 = .ok (.if_icmp .lt 9, 3) := by decide +kernel
theorem dX8_judge_74 : decode cX8_judge 74 = .ok (.bipush 100, 2) := by decide +kernel
theorem dX8_judge_76 : decode cX8_judge 76 = .ok (.iload 4, 2) := by decide +kernel
theorem dX8_judge_78 : decode cX8_judge 78 = .ok (.iadd, 1) := by decide +kernel
theorem dX8_judge_79 : decode cX8_judge 79 = .ok (.ireturn, 1) := by decide +kernel
theorem dX8_judge_80 : decode cX8_judge 80 = .ok (.aload_n 3, 1) := by decide +kernel
theorem dX8_judge_81 : decode cX8_judge 81 = .ok (.getfield 312, 3) := by decide +kernel
theorem dX8_judge_84 : decode cX8_judge 84 = .ok (.iload_n 2, 1) := by decide +kernel
theorem dX8_judge_85 : decode cX8_judge 85 = .ok (.iload 4, 2) := by decide +kernel
theorem dX8_judge_87 : decode cX8_judge 87 = .ok (.iadd, 1) := by decide +kernel
theorem dX8_judge_88 : decode cX8_judge 88 = .ok (.laload, 1) := by decide +kernel
theorem dX8_judge_89 : decode cX8_judge 89 = .ok (.aload_n 0, 1) := by decide +kernel
theorem dX8_judge_90 : decode cX8_judge 90 = .ok (.getfield 14, 3) := by decide +kernel
theorem dX8_judge_93 : decode cX8_judge 93 = .ok (.getfield 67, 3) := by decide +kernel
theorem dX8_judge_96 : decode cX8_judge 96 = .ok (.getfield 99, 3) := by decide +kernel
theorem dX8_judge_99 : decode cX8_judge 99 = .ok (.iload 4, 2) := by decide +kernel
theorem dX8_judge_101 : decode cX8_judge 101 = .ok (.iaload, 1) := by decide +kernel
theorem dX8_judge_102 : decode cX8_judge 102 = .ok (.i2l, 1) := by decide +kernel
theorem dX8_judge_103 : decode cX8_judge 103 = .ok (.lcmp, 1) := by decide +kernel
theorem dX8_judge_104 : decode cX8_judge 104 = .ok (.ifCond .eq 6, 3) := by decide +kernel
theorem dX8_judge_107 : decode cX8_judge 107 = .ok (.iload 4, 2) := by decide +kernel
theorem dX8_judge_109 : decode cX8_judge 109 = .ok (.ireturn, 1) := by decide +kernel
theorem dX8_judge_110 : decode cX8_judge 110 = .ok (.iinc 4 1, 3) := by decide +kernel
theorem dX8_judge_113 : decode cX8_judge 113 = .ok (.goto (-65), 3) := by decide +kernel
theorem dX8_judge_116 : decode cX8_judge 116 = .ok (.bipush (-5), 2) := by decide +kernel
theorem dX8_judge_118 : decode cX8_judge 118 = .ok (.ireturn, 1) := by decide +kernel
theorem dX8_image_0 : decode cX8_image 0 = .ok (.aload_n 0, 1) := by decide +kernel
theorem dX8_image_1 : decode cX8_image 1 = .ok (.getfield 18, 3) := by decide +kernel
theorem dX8_image_4 : decode cX8_image 4 = .ok (.aload_n 0, 1) := by decide +kernel
theorem dX8_image_5 : decode cX8_image 5 = .ok (.getfield 14, 3) := by decide +kernel
theorem dX8_image_8 : decode cX8_image 8 = .ok (.invokevirtual 316, 3) := by decide +kernel
theorem dX8_image_11 : decode cX8_image 11 = .ok (.aload_n 0, 1) := by decide +kernel
theorem dX8_image_12 : decode cX8_image 12 = .ok (.iconst 1, 1) := by decide +kernel
theorem dX8_image_13 : decode cX8_image 13 = .ok (.putfield 21, 3) := by decide +kernel
theorem dX8_image_16 : decode cX8_image 16 = .ok (.aload_n 0, 1) := by decide +kernel
theorem dX8_image_17 : decode cX8_image 17 = .ok (.getfield 14, 3) := by decide +kernel
theorem dX8_image_20 : decode cX8_image 20 = .ok (.getfield 67, 3) := by decide +kernel
theorem dX8_image_23 : decode cX8_image 23 = .ok (.invokevirtual 124, 3) := by decide +kernel
theorem dX8_image_26 : decode cX8_image 26 = .ok (.ireturn, 1) := by decide +kernel
theorem dX8_undo_0 : decode cX8_undo 0 = .ok (.aload_n 0, 1) := by decide +kernel
theorem dX8_undo_1 : decode cX8_undo 1 = .ok (.getfield 21, 3) := by decide +kernel
theorem dX8_undo_4 : decode cX8_undo 4 = .ok (.ifCond .ne 6, 3) := by decide +kernel
theorem dX8_undo_7 : decode cX8_undo 7 = .ok (.bipush (-3), 2) := by decide +kernel
theorem dX8_undo_9 : decode cX8_undo 9 = .ok (.ireturn, 1) := by decide +kernel
theorem dX8_undo_10 : decode cX8_undo 10 = .ok (.aload_n 0, 1) := by decide +kernel
theorem dX8_undo_11 : decode cX8_undo 11 = .ok (.getfield 14, 3) := by decide +kernel
theorem dX8_undo_14 : decode cX8_undo 14 = .ok (.aload_n 0, 1) := by decide +kernel
theorem dX8_undo_15 : decode cX8_undo 15 = .ok (.getfield 18, 3) := by decide +kernel
theorem dX8_undo_18 : decode cX8_undo 18 = .ok (.invokevirtual 316, 3) := by decide +kernel
theorem dX8_undo_21 : decode cX8_undo 21 = .ok (.aload_n 0, 1) := by decide +kernel
theorem dX8_undo_22 : decode cX8_undo 22 = .ok (.getfield 28, 3) := by decide +kernel
theorem dX8_undo_25 : decode cX8_undo 25 = .ok (.invokevirtual 78, 3) := by decide +kernel
theorem dX8_undo_28 : decode cX8_undo 28 = .ok (.aload_n 0, 1) := by decide +kernel
theorem dX8_undo_29 : decode cX8_undo 29 = .ok (.getfield 14, 3) := by decide +kernel
theorem dX8_undo_32 : decode cX8_undo 32 = .ok (.getfield 67, 3) := by decide +kernel
theorem dX8_undo_35 : decode cX8_undo 35 = .ok (.invokevirtual 124, 3) := by decide +kernel
theorem dX8_undo_38 : decode cX8_undo 38 = .ok (.ireturn, 1) := by decide +kernel
theorem dX8_count_0 : decode cX8_count 0 = .ok (.iload_n 1, 1) := by decide +kernel
theorem dX8_count_1 : decode cX8_count 1 = .ok (.tableswitch 84 0 4 #[35, 46, 57, 68, 76], 35) := by decide +kernel
theorem dX8_count_36 : decode cX8_count 36 = .ok (.aload_n 0, 1) := by decide +kernel
theorem dX8_count_37 : decode cX8_count 37 = .ok (.getfield 14, 3) := by decide +kernel
theorem dX8_count_40 : decode cX8_count 40 = .ok (.getfield 259, 3) := by decide +kernel
theorem dX8_count_43 : decode cX8_count 43 = .ok (.getfield 276, 3) := by decide +kernel
theorem dX8_count_46 : decode cX8_count 46 = .ok (.ireturn, 1) := by decide +kernel
theorem dX8_count_47 : decode cX8_count 47 = .ok (.aload_n 0, 1) := by decide +kernel
theorem dX8_count_48 : decode cX8_count 48 = .ok (.getfield 14, 3) := by decide +kernel
theorem dX8_count_51 : decode cX8_count 51 = .ok (.getfield 296, 3) := by decide +kernel
theorem dX8_count_54 : decode cX8_count 54 = .ok (.getfield 276, 3) := by decide +kernel
theorem dX8_count_57 : decode cX8_count 57 = .ok (.ireturn, 1) := by decide +kernel
theorem dX8_count_58 : decode cX8_count 58 = .ok (.aload_n 0, 1) := by decide +kernel
theorem dX8_count_59 : decode cX8_count 59 = .ok (.getfield 14, 3) := by decide +kernel
theorem dX8_count_62 : decode cX8_count 62 = .ok (.getfield 302, 3) := by decide +kernel
theorem dX8_count_65 : decode cX8_count 65 = .ok (.getfield 276, 3) := by decide +kernel
theorem dX8_count_68 : decode cX8_count 68 = .ok (.ireturn, 1) := by decide +kernel
theorem dX8_count_69 : decode cX8_count 69 = .ok (.aload_n 0, 1) := by decide +kernel
theorem dX8_count_70 : decode cX8_count 70 = .ok (.getfield 35, 3) := by decide +kernel
theorem dX8_count_73 : decode cX8_count 73 = .ok (.getfield 319, 3) := by decide +kernel
theorem dX8_count_76 : decode cX8_count 76 = .ok (.ireturn, 1) := by decide +kernel
theorem dX8_count_77 : decode cX8_count 77 = .ok (.aload_n 0, 1) := by decide +kernel
theorem dX8_count_78 : decode cX8_count 78 = .ok (.getfield 28, 3) := by decide +kernel
theorem dX8_count_81 : decode cX8_count 81 = .ok (.getfield 127, 3) := by decide +kernel
theorem dX8_count_84 : decode cX8_count 84 = .ok (.ireturn, 1) := by decide +kernel
theorem dX8_count_85 : decode cX8_count 85 = .ok (.bipush (-2), 2) := by decide +kernel
theorem dX8_count_87 : decode cX8_count 87 = .ok (.ireturn, 1) := by decide +kernel
theorem dX8_tape_0 : decode cX8_tape 0 = .ok (.iload_n 1, 1) := by decide +kernel
theorem dX8_tape_1 : decode cX8_tape 1 = .ok (.invokestatic 305, 3) := by decide +kernel
theorem dX8_tape_4 : decode cX8_tape 4 = .ok (.ifCond .ne 5, 3) := by decide +kernel
theorem dX8_tape_7 : decode cX8_tape 7 = .ok (.iconst (-1), 1) := by decide +kernel
theorem dX8_tape_8 : decode cX8_tape 8 = .ok (.ireturn, 1) := by decide +kernel
theorem dX8_tape_9 : decode cX8_tape 9 = .ok (.iload_n 2, 1) := by decide +kernel
theorem dX8_tape_10 : decode cX8_tape 10 = .ok (.iconst (-1), 1) := by decide +kernel
theorem dX8_tape_11 : decode cX8_tape 11 = .ok (.if_icmp .ne 16, 3) := by decide +kernel
theorem dX8_tape_14 : decode cX8_tape 14 = .ok (.aload_n 0, 1) := by decide +kernel
theorem dX8_tape_15 : decode cX8_tape 15 = .ok (.getfield 62, 3) := by decide +kernel
theorem dX8_tape_18 : decode cX8_tape 18 = .ok (.iload_n 1, 1) := by decide +kernel
theorem dX8_tape_19 : decode cX8_tape 19 = .ok (.aaload, 1) := by decide +kernel
theorem dX8_tape_20 : decode cX8_tape 20 = .ok (.iconst (-1), 1) := by decide +kernel
theorem dX8_tape_21 : decode cX8_tape 21 = .ok (.iconst 0, 1) := by decide +kernel
theorem dX8_tape_22 : decode cX8_tape 22 = .ok (.invokevirtual 320, 3) := by decide +kernel
theorem dX8_tape_25 : decode cX8_tape 25 = .ok (.iconst 1, 1) := by decide +kernel
theorem dX8_tape_26 : decode cX8_tape 26 = .ok (.ireturn, 1) := by decide +kernel
theorem dX8_tape_27 : decode cX8_tape 27 = .ok (.iload_n 2, 1) := by decide +kernel
theorem dX8_tape_28 : decode cX8_tape 28 = .ok (.ifCond .lt 14, 3) := by decide +kernel
theorem dX8_tape_31 : decode cX8_tape 31 = .ok (.iload_n 2, 1) := by decide +kernel
theorem dX8_tape_32 : decode cX8_tape 32 = .ok (.iconst 4, 1) := by decide +kernel
theorem dX8_tape_33 : decode cX8_tape 33 = .ok (.if_icmp .gt 9, 3) := by decide +kernel
theorem dX8_tape_36 : decode cX8_tape 36 = .ok (.iload_n 3, 1) := by decide +kernel
theorem dX8_tape_37 : decode cX8_tape 37 = .ok (.bipush 60, 2) := by decide +kernel
theorem dX8_tape_39 : decode cX8_tape 39 = .ok (.if_icmp .le 6, 3) := by decide +kernel
theorem dX8_tape_42 : decode cX8_tape 42 = .ok (.bipush (-2), 2) := by decide +kernel
theorem dX8_tape_44 : decode cX8_tape 44 = .ok (.ireturn, 1) := by decide +kernel
theorem dX8_tape_45 : decode cX8_tape 45 = .ok (.iload_n 3, 1) := by decide +kernel
theorem dX8_tape_46 : decode cX8_tape 46 = .ok (.ifCond .ge 6, 3) := by decide +kernel
theorem dX8_tape_49 : decode cX8_tape 49 = .ok (.bipush (-14), 2) := by decide +kernel
theorem dX8_tape_51 : decode cX8_tape 51 = .ok (.ireturn, 1) := by decide +kernel
theorem dX8_tape_52 : decode cX8_tape 52 = .ok (.aload_n 0, 1) := by decide +kernel
theorem dX8_tape_53 : decode cX8_tape 53 = .ok (.getfield 62, 3) := by decide +kernel
theorem dX8_tape_56 : decode cX8_tape 56 = .ok (.iload_n 1, 1) := by decide +kernel
theorem dX8_tape_57 : decode cX8_tape 57 = .ok (.aaload, 1) := by decide +kernel
theorem dX8_tape_58 : decode cX8_tape 58 = .ok (.iload_n 2, 1) := by decide +kernel
theorem dX8_tape_59 : decode cX8_tape 59 = .ok (.iload_n 3, 1) := by decide +kernel
theorem dX8_tape_60 : decode cX8_tape 60 = .ok (.invokevirtual 320, 3) := by decide +kernel
theorem dX8_tape_63 : decode cX8_tape 63 = .ok (.iconst 1, 1) := by decide +kernel
theorem dX8_tape_64 : decode cX8_tape 64 = .ok (.ireturn, 1) := by decide +kernel
theorem dX8_item_0 : decode cX8_item 0 = .ok (.iload_n 1, 1) := by decide +kernel
theorem dX8_item_1 : decode cX8_item 1 = .ok (.invokestatic 305, 3) := by decide +kernel
theorem dX8_item_4 : decode cX8_item 4 = .ok (.ifCond .ne 5, 3) := by decide +kernel
theorem dX8_item_7 : decode cX8_item 7 = .ok (.iconst (-1), 1) := by decide +kernel
theorem dX8_item_8 : decode cX8_item 8 = .ok (.ireturn, 1) := by decide +kernel
theorem dX8_item_9 : decode cX8_item 9 = .ok (.aload_n 0, 1) := by decide +kernel
theorem dX8_item_10 : decode cX8_item 10 = .ok (.getfield 62, 3) := by decide +kernel
theorem dX8_item_13 : decode cX8_item 13 = .ok (.iload_n 1, 1) := by decide +kernel
theorem dX8_item_14 : decode cX8_item 14 = .ok (.aaload, 1) := by decide +kernel
theorem dX8_item_15 : decode cX8_item 15 = .ok (.getfield 308, 3) := by decide +kernel
theorem dX8_item_18 : decode cX8_item 18 = .ok (.iconst (-1), 1) := by decide +kernel
theorem dX8_item_19 : decode cX8_item 19 = .ok (.if_icmp .ne 6, 3) := by decide +kernel
theorem dX8_item_22 : decode cX8_item 22 = .ok (.bipush (-11), 2) := by decide +kernel
theorem dX8_item_24 : decode cX8_item 24 = .ok (.ireturn, 1) := by decide +kernel
theorem dX8_item_25 : decode cX8_item 25 = .ok (.aload_n 0, 1) := by decide +kernel
theorem dX8_item_26 : decode cX8_item 26 = .ok (.getfield 62, 3) := by decide +kernel
theorem dX8_item_29 : decode cX8_item 29 = .ok (.iload_n 1, 1) := by decide +kernel
theorem dX8_item_30 : decode cX8_item 30 = .ok (.aaload, 1) := by decide +kernel
theorem dX8_item_31 : decode cX8_item 31 = .ok (.iload_n 2, 1) := by decide +kernel
theorem dX8_item_32 : decode cX8_item 32 = .ok (.invokevirtual 323, 3) := by decide +kernel
theorem dX8_item_35 : decode cX8_item 35 = .ok (.ifCond .ne 6, 3) := by decide +kernel
theorem dX8_item_38 : decode cX8_item 38 = .ok (.bipush (-13), 2) := by decide +kernel
theorem dX8_item_40 : decode cX8_item 40 = .ok (.ireturn, 1) := by decide +kernel
theorem dX8_item_41 : decode cX8_item 41 = .ok (.aload_n 0, 1) := by decide +kernel
theorem dX8_item_42 : decode cX8_item 42 = .ok (.getfield 62, 3) := by decide +kernel
theorem dX8_item_45 : decode cX8_item 45 = .ok (.iload_n 1, 1) := by decide +kernel
theorem dX8_item_46 : decode cX8_item 46 = .ok (.aaload, 1) := by decide +kernel
theorem dX8_item_47 : decode cX8_item 47 = .ok (.iload_n 2, 1) := by decide +kernel
theorem dX8_item_48 : decode cX8_item 48 = .ok (.lload_n 3, 1) := by decide +kernel
theorem dX8_item_49 : decode cX8_item 49 = .ok (.invokevirtual 326, 3) := by decide +kernel
theorem dX8_item_52 : decode cX8_item 52 = .ok (.iconst 1, 1) := by decide +kernel
theorem dX8_item_53 : decode cX8_item 53 = .ok (.ireturn, 1) := by decide +kernel
theorem dX8_peek_0 : decode cX8_peek 0 = .ok (.iload_n 1, 1) := by decide +kernel
theorem dX8_peek_1 : decode cX8_peek 1 = .ok (.invokestatic 305, 3) := by decide +kernel
theorem dX8_peek_4 : decode cX8_peek 4 = .ok (.ifCond .eq 16, 3) := by decide +kernel
theorem dX8_peek_7 : decode cX8_peek 7 = .ok (.aload_n 0, 1) := by decide +kernel
theorem dX8_peek_8 : decode cX8_peek 8 = .ok (.getfield 62, 3) := by decide +kernel
theorem dX8_peek_11 : decode cX8_peek 11 = .ok (.iload_n 1, 1) := by decide +kernel
theorem dX8_peek_12 : decode cX8_peek 12 = .ok (.aaload, 1) := by decide +kernel
theorem dX8_peek_13 : decode cX8_peek 13 = .ok (.iload_n 2, 1) := by decide +kernel
theorem dX8_peek_14 : decode cX8_peek 14 = .ok (.invokevirtual 323, 3) := by decide +kernel
theorem dX8_peek_17 : decode cX8_peek 17 = .ok (.ifCond .ne 7, 3) := by decide +kernel
theorem dX8_peek_20 : decode cX8_peek 20 = .ok (.ldc2_w 291, 3) := by decide +kernel
theorem dX8_peek_23 : decode cX8_peek 23 = .ok (.lreturn, 1) := by decide +kernel
theorem dX8_peek_24 : decode cX8_peek 24 = .ok (.aload_n 0, 1) := by decide +kernel
theorem dX8_peek_25 : decode cX8_peek 25 = .ok (.getfield 62, 3) := by decide +kernel
theorem dX8_peek_28 : decode cX8_peek 28 = .ok (.iload_n 1, 1) := by decide +kernel
theorem dX8_peek_29 : decode cX8_peek 29 = .ok (.aaload, 1) := by decide +kernel
theorem dX8_peek_30 : decode cX8_peek 30 = .ok (.getfield 312, 3) := by decide +kernel
theorem dX8_peek_33 : decode cX8_peek 33 = .ok (.iload_n 2, 1) := by decide +kernel
theorem dX8_peek_34 : decode cX8_peek 34 = .ok (.laload, 1) := by decide +kernel
theorem dX8_peek_35 : decode cX8_peek 35 = .ok (.lreturn, 1) := by decide +kernel
theorem dX8_shift_0 : decode cX8_shift 0 = .ok (.iload_n 1, 1) := by decide +kernel
theorem dX8_shift_1 : decode cX8_shift 1 = .ok (.invokestatic 305, 3) := by decide +kernel
theorem dX8_shift_4 : decode cX8_shift 4 = .ok (.ifCond .eq 10, 3) := by decide +kernel
theorem dX8_shift_7 : decode cX8_shift 7 = .ok (.iload_n 3, 1) := by decide +kernel
theorem dX8_shift_8 : decode cX8_shift 8 = .ok (.invokestatic 305, 3) := by decide +kernel
theorem dX8_shift_11 : decode cX8_shift 11 = .ok (.ifCond .ne 5, 3) := by decide +kernel
theorem dX8_shift_14 : decode cX8_shift 14 = .ok (.iconst (-1), 1) := by decide +kernel
theorem dX8_shift_15 : decode cX8_shift 15 = .ok (.ireturn, 1) := by decide +kernel
theorem dX8_shift_16 : decode cX8_shift 16 = .ok (.aload_n 0, 1) := by decide +kernel
theorem dX8_shift_17 : decode cX8_shift 17 = .ok (.getfield 62, 3) := by decide +kernel
theorem dX8_shift_20 : decode cX8_shift 20 = .ok (.iload_n 1, 1) := by decide +kernel
theorem dX8_shift_21 : decode cX8_shift 21 = .ok (.aaload, 1) := by decide +kernel
theorem dX8_shift_22 : decode cX8_shift 22 = .ok (.astore 6, 2) := by decide +kernel
theorem dX8_shift_24 : decode cX8_shift 24 = .ok (.aload_n 0, 1) := by decide +kernel
theorem dX8_shift_25 : decode cX8_shift 25 = .ok (.getfield 62, 3) := by decide +kernel
theorem dX8_shift_28 : decode cX8_shift 28 = .ok (.iload_n 3, 1) := by decide +kernel
theorem dX8_shift_29 : decode cX8_shift 29 = .ok (.aaload, 1) := by decide +kernel
theorem dX8_shift_30 : decode cX8_shift 30 = .ok (.astore 7, 2) := by decide +kernel
theorem dX8_shift_32 : decode cX8_shift 32 = .ok (.aload 6, 2) := by decide +kernel
theorem dX8_shift_34 : decode cX8_shift 34 = .ok (.getfield 308, 3) := by decide +kernel
theorem dX8_shift_37 : decode cX8_shift 37 = .ok (.iconst (-1), 1) := by decide +kernel
theorem dX8_shift_38 : decode cX8_shift 38 = .ok (.if_icmp .eq 12, 3) := by decide +kernel
theorem dX8_shift_41 : decode cX8_shift 41 = .ok (.aload 7, 2) := by decide +kernel
theorem dX8_shift_43 : decode cX8_shift 43 = .ok (.getfield 308, 3) := by decide +kernel
theorem dX8_shift_46 : decode cX8_shift 46 = .ok (.iconst (-1), 1) := by decide +kernel
theorem dX8_shift_47 : decode cX8_shift 47 = .ok (.if_icmp .ne 6, 3) := by decide +kernel
theorem dX8_shift_50 : decode cX8_shift 50 = .ok (.bipush (-11), 2) := by decide +kernel
theorem dX8_shift_52 : decode cX8_shift 52 = .ok (.ireturn, 1) := by decide +kernel
theorem dX8_shift_53 : decode cX8_shift 53 = .ok (.aload 6, 2) := by decide +kernel
theorem dX8_shift_55 : decode cX8_shift 55 = .ok (.getfield 308, 3) := by decide +kernel
theorem dX8_shift_58 : decode cX8_shift 58 = .ok (.aload 7, 2) := by decide +kernel
theorem dX8_shift_60 : decode cX8_shift 60 = .ok (.getfield 308, 3) := by decide +kernel
theorem dX8_shift_63 : decode cX8_shift 63 = .ok (.if_icmp .eq 6, 3) := by decide +kernel
theorem dX8_shift_66 : decode cX8_shift 66 = .ok (.bipush (-12), 2) := by decide +kernel
theorem dX8_shift_68 : decode cX8_shift 68 = .ok (.ireturn, 1) := by decide +kernel
theorem dX8_shift_69 : decode cX8_shift 69 = .ok (.aload 6, 2) := by decide +kernel
theorem dX8_shift_71 : decode cX8_shift 71 = .ok (.iload_n 2, 1) := by decide +kernel
theorem dX8_shift_72 : decode cX8_shift 72 = .ok (.iload 5, 2) := by decide +kernel
theorem dX8_shift_74 : decode cX8_shift 74 = .ok (.invokevirtual 330, 3) := by decide +kernel
theorem dX8_shift_77 : decode cX8_shift 77 = .ok (.ifCond .eq 15, 3) := by decide +kernel
theorem dX8_shift_80 : decode cX8_shift 80 = .ok (.aload 7, 2) := by decide +kernel
theorem dX8_shift_82 : decode cX8_shift 82 = .ok (.iload 4, 2) := by decide +kernel
theorem dX8_shift_84 : decode cX8_shift 84 = .ok (.iload 5, 2) := by decide +kernel
theorem dX8_shift_86 : decode cX8_shift 86 = .ok (.invokevirtual 330, 3) := by decide +kernel
theorem dX8_shift_89 : decode cX8_shift 89 = .ok (.ifCond .ne 6, 3) := by decide +kernel
theorem dX8_shift_92 : decode cX8_shift 92 = .ok (.bipush (-13), 2) := by decide +kernel
theorem dX8_shift_94 : decode cX8_shift 94 = .ok (.ireturn, 1) := by decide +kernel
theorem dX8_shift_95 : decode cX8_shift 95 = .ok (.aload 6, 2) := by decide +kernel
theorem dX8_shift_97 : decode cX8_shift 97 = .ok (.getfield 312, 3) := by decide +kernel
theorem dX8_shift_100 : decode cX8_shift 100 = .ok (.iload_n 2, 1) := by decide +kernel
theorem dX8_shift_101 : decode cX8_shift 101 = .ok (.aload 7, 2) := by decide +kernel
theorem dX8_shift_103 : decode cX8_shift 103 = .ok (.getfield 312, 3) := by decide +kernel
theorem dX8_shift_106 : decode cX8_shift 106 = .ok (.iload 4, 2) := by decide +kernel
theorem dX8_shift_108 : decode cX8_shift 108 = .ok (.iload 5, 2) := by decide +kernel
theorem dX8_shift_110 : decode cX8_shift 110 = .ok (.invokestatic 333, 3) := by decide +kernel
theorem dX8_shift_113 : decode cX8_shift 113 = .ok (.iload 5, 2) := by decide +kernel
theorem dX8_shift_115 : decode cX8_shift 115 = .ok (.ireturn, 1) := by decide +kernel
theorem dX8_isTape_0 : decode cX8_isTape 0 = .ok (.iload_n 0, 1) := by decide +kernel
theorem dX8_isTape_1 : decode cX8_isTape 1 = .ok (.ifCond .lt 13, 3) := by decide +kernel
theorem dX8_isTape_4 : decode cX8_isTape 4 = .ok (.iload_n 0, 1) := by decide +kernel
theorem dX8_isTape_5 : decode cX8_isTape 5 = .ok (.bipush 6, 2) := by decide +kernel
theorem dX8_isTape_7 : decode cX8_isTape 7 = .ok (.if_icmp .ge 7, 3) := by decide +kernel
theorem dX8_isTape_10 : decode cX8_isTape 10 = .ok (.iconst 1, 1) := by decide +kernel
theorem dX8_isTape_11 : decode cX8_isTape 11 = .ok (.goto 4, 3) := by decide +kernel
theorem dX8_isTape_14 : decode cX8_isTape 14 = .ok (.iconst 0, 1) := by decide +kernel
theorem dX8_isTape_15 : decode cX8_isTape 15 = .ok (.ireturn, 1) := by decide +kernel
theorem dX8_isKind_0 : decode cX8_isKind 0 = .ok (.iload_n 0, 1) := by decide +kernel
theorem dX8_isKind_1 : decode cX8_isKind 1 = .ok (.ifCond .eq 8, 3) := by decide +kernel
theorem dX8_isKind_4 : decode cX8_isKind 4 = .ok (.iload_n 0, 1) := by decide +kernel
theorem dX8_isKind_5 : decode cX8_isKind 5 = .ok (.iconst 1, 1) := by decide +kernel
theorem dX8_isKind_6 : decode cX8_isKind 6 = .ok (.if_icmp .ne 7, 3) := by decide +kernel
theorem dX8_isKind_9 : decode cX8_isKind 9 = .ok (.iconst 1, 1) := by decide +kernel
theorem dX8_isKind_10 : decode cX8_isKind 10 = .ok (.goto 4, 3) := by decide +kernel
theorem dX8_isKind_13 : decode cX8_isKind 13 = .ok (.iconst 0, 1) := by decide +kernel
theorem dX8_isKind_14 : decode cX8_isKind 14 = .ok (.ireturn, 1) := by decide +kernel
theorem dX8_isLength_0 : decode cX8_isLength 0 = .ok (.iload_n 0, 1) := by decide +kernel
theorem dX8_isLength_1 : decode cX8_isLength 1 = .ok (.iconst 1, 1) := by decide +kernel
theorem dX8_isLength_2 : decode cX8_isLength 2 = .ok (.if_icmp .lt 13, 3) := by decide +kernel
theorem dX8_isLength_5 : decode cX8_isLength 5 = .ok (.iload_n 0, 1) := by decide +kernel
theorem dX8_isLength_6 : decode cX8_isLength 6 = .ok (.bipush 99, 2) := by decide +kernel
theorem dX8_isLength_8 : decode cX8_isLength 8 = .ok (.if_icmp .gt 7, 3) := by decide +kernel
theorem dX8_isLength_11 : decode cX8_isLength 11 = .ok (.iconst 1, 1) := by decide +kernel
theorem dX8_isLength_12 : decode cX8_isLength 12 = .ok (.goto 4, 3) := by decide +kernel
theorem dX8_isLength_15 : decode cX8_isLength 15 = .ok (.iconst 0, 1) := by decide +kernel
theorem dX8_isLength_16 : decode cX8_isLength 16 = .ok (.ireturn, 1) := by decide +kernel
theorem dX9_init_0 : decode cX9_init 0 = .ok (.aload_n 0, 1) := by decide +kernel
theorem dX9_init_1 : decode cX9_init 1 = .ok (.invokespecial 5, 3) := by decide +kernel
theorem dX9_init_4 : decode cX9_init 4 = .ok (.aload_n 0, 1) := by decide +kernel
theorem dX9_init_5 : decode cX9_init 5 = .ok (.bipush 60, 2) := by decide +kernel
theorem dX9_init_7 : decode cX9_init 7 = .ok (.newarray .int, 2) := by decide +kernel
theorem dX9_init_9 : decode cX9_init 9 = .ok (.putfield 11, 3) := by decide +kernel
theorem dX9_init_12 : decode cX9_init 12 = .ok (.aload_n 0, 1) := by decide +kernel
theorem dX9_init_13 : decode cX9_init 13 = .ok (.bipush 60, 2) := by decide +kernel
theorem dX9_init_15 : decode cX9_init 15 = .ok (.newarray .int, 2) := by decide +kernel
theorem dX9_init_17 : decode cX9_init 17 = .ok (.putfield 15, 3) := by decide +kernel
theorem dX9_init_20 : decode cX9_init 20 = .ok (.aload_n 0, 1) := by decide +kernel
theorem dX9_init_21 : decode cX9_init 21 = .ok (.sipush 180, 3) := by decide +kernel
theorem dX9_init_24 : decode cX9_init 24 = .ok (.newarray .int, 2) := by decide +kernel
theorem dX9_init_26 : decode cX9_init 26 = .ok (.putfield 18, 3) := by decide +kernel
theorem dX9_init_29 : decode cX9_init 29 = .ok (.aload_n 0, 1) := by decide +kernel
theorem dX9_init_30 : decode cX9_init 30 = .ok (.iconst 5, 1) := by decide +kernel
theorem dX9_init_31 : decode cX9_init 31 = .ok (.newarray .int, 2) := by decide +kernel
theorem dX9_init_33 : decode cX9_init 33 = .ok (.putfield 21, 3) := by decide +kernel
theorem dX9_init_36 : decode cX9_init 36 = .ok (.aload_n 0, 1) := by decide +kernel
theorem dX9_init_37 : decode cX9_init 37 = .ok (.bipush 100, 2) := by decide +kernel
theorem dX9_init_39 : decode cX9_init 39 = .ok (.newarray .int, 2) := by decide +kernel
theorem dX9_init_41 : decode cX9_init 41 = .ok (.putfield 24, 3) := by decide +kernel
theorem dX9_init_44 : decode cX9_init 44 = .ok (.aload_n 0, 1) := by decide +kernel
theorem dX9_init_45 : decode cX9_init 45 = .ok (.iconst 2, 1) := by decide +kernel
theorem dX9_init_46 : decode cX9_init 46 = .ok (.newarray .int, 2) := by decide +kernel
theorem dX9_init_48 : decode cX9_init 48 = .ok (.putfield 27, 3) := by decide +kernel
theorem dX9_init_51 : decode cX9_init 51 = .ok (.aload_n 0, 1) := by decide +kernel
theorem dX9_init_52 : decode cX9_init 52 = .ok (.sipush 500, 3) := by decide +kernel
theorem dX9_init_55 : decode cX9_init 55 = .ok (.newarray .int, 2) := by decide +kernel
theorem dX9_init_57 : decode cX9_init 57 = .ok (.putfield 30, 3) := by decide +kernel
theorem dX9_init_60 : decode cX9_init 60 = .ok (.aload_n 0, 1) := by decide +kernel
theorem dX9_init_61 : decode cX9_init 61 = .ok (.sipush 500, 3) := by decide +kernel
theorem dX9_init_64 : decode cX9_init 64 = .ok (.newarray .int, 2) := by decide +kernel
theorem dX9_init_66 : decode cX9_init 66 = .ok (.putfield 33, 3) := by decide +kernel
theorem dX9_init_69 : decode cX9_init 69 = .ok (.aload_n 0, 1) := by decide +kernel
theorem dX9_init_70 : decode cX9_init 70 = .ok (.iconst 5, 1) := by decide +kernel
theorem dX9_init_71 : decode cX9_init 71 = .ok (.newarray .int, 2) := by decide +kernel
theorem dX9_init_73 : decode cX9_init 73 = .ok (.putfield 36, 3) := by decide +kernel
theorem dX9_init_76 : decode cX9_init 76 = .ok (.aload_n 0, 1) := by decide +kernel
theorem dX9_init_77 : decode cX9_init 77 = .ok (.sipush 500, 3) := by decide +kernel
theorem dX9_init_80 : decode cX9_init 80 = .ok (.newarray .boolean, 2) := by decide +kernel
theorem dX9_init_82 : decode cX9_init 82 = .ok (.putfield 39, 3) := by decide +kernel
theorem dX9_init_85 : decode cX9_init 85 = .ok (.aload_n 0, 1) := by decide +kernel
theorem dX9_init_86 : decode cX9_init 86 = .ok (.bipush 60, 2) := by decide +kernel
theorem dX9_init_88 : decode cX9_init 88 = .ok (.newarray .int, 2) := by decide +kernel
theorem dX9_init_90 : decode cX9_init 90 = .ok (.putfield 43, 3) := by decide +kernel
theorem dX9_init_93 : decode cX9_init 93 = .ok (.aload_n 0, 1) := by decide +kernel
theorem dX9_init_94 : decode cX9_init 94 = .ok (.bipush 120, 2) := by decide +kernel
theorem dX9_init_96 : decode cX9_init 96 = .ok (.newarray .int, 2) := by decide +kernel
theorem dX9_init_98 : decode cX9_init 98 = .ok (.putfield 46, 3) := by decide +kernel
theorem dX9_init_101 : decode cX9_init 101 = .ok (.aload_n 0, 1) := by decide +kernel
theorem dX9_init_102 : decode cX9_init 102 = .ok (.bipush 120, 2) := by decide +kernel
theorem dX9_init_104 : decode cX9_init 104 = .ok (.newarray .int, 2) := by decide +kernel
theorem dX9_init_106 : decode cX9_init 106 = .ok (.putfield 49, 3) := by decide +kernel
theorem dX9_init_109 : decode cX9_init 109 = .ok (.aload_n 0, 1) := by decide +kernel
theorem dX9_init_110 : decode cX9_init 110 = .ok (.bipush 6, 2) := by decide +kernel
theorem dX9_init_112 : decode cX9_init 112 = .ok (.newarray .int, 2) := by decide +kernel
theorem dX9_init_114 : decode cX9_init 114 = .ok (.putfield 52, 3) := by decide +kernel
theorem dX9_init_117 : decode cX9_init 117 = .ok (.aload_n 0, 1) := by decide +kernel
theorem dX9_init_118 : decode cX9_init 118 = .ok (.bipush 6, 2) := by decide +kernel
theorem dX9_init_120 : decode cX9_init 120 = .ok (.newarray .int, 2) := by decide +kernel
theorem dX9_init_122 : decode cX9_init 122 = .ok (.putfield 55, 3) := by decide +kernel
theorem dX9_init_125 : decode cX9_init 125 = .ok (.aload_n 0, 1) := by decide +kernel
theorem dX9_init_126 : decode cX9_init 126 = .ok (.sipush 360, 3) := by decide +kernel
theorem dX9_init_129 : decode cX9_init 129 = .ok (.newarray .long, 2) := by decide +kernel
theorem dX9_init_131 : decode cX9_init 131 = .ok (.putfield 58, 3) := by decide +kernel
theorem dX9_init_134 : decode cX9_init 134 = .ok (.aload_n 0, 1) := by decide +kernel
theorem dX9_init_135 : decode cX9_init 135 = .ok (.iconst 3, 1) := by decide +kernel
theorem dX9_init_136 : decode cX9_init 136 = .ok (.invokevirtual 62, 3) := by decide +kernel
theorem dX9_init_139 : decode cX9_init 139 = .ok (.iconst 0, 1) := by decide +kernel
theorem dX9_init_140 : decode cX9_init 140 = .ok (.istore_n 1, 1) := by decide +kernel
theorem dX9_init_141 : decode cX9_init 141 = .ok (.iload_n 1, 1) := by decide +kernel
theorem dX9_init_142 : decode cX9_init 142 = .ok (.bipush 6, 2) := by decide +kernel
theorem dX9_init_144 : decode cX9_init 144 = .ok (.if_icmp .ge 16, 3) := by decide +kernel
theorem dX9_init_147 : decode cX9_init 147 = .ok (.aload_n 0, 1) := by decide +kernel
theorem dX9_init_148 : decode cX9_init 148 = .ok (.getfield 52, 3) := by decide +kernel
theorem dX9_init_151 : decode cX9_init 151 = .ok (.iload_n 1, 1) := by decide +kernel
theorem dX9_init_152 : decode cX9_init 152 = .ok (.iconst (-1), 1) := by decide +kernel
theorem dX9_init_153 : decode cX9_init 153 = .ok (.iastore, 1) := by decide +kernel
theorem dX9_init_154 : decode cX9_init 154 = .ok (.iinc 1 1, 3) := by decide +kernel
theorem dX9_init_157 : decode cX9_init 157 = .ok (.goto (-16), 3) := by decide +kernel
theorem dX9_init_160 : decode cX9_init 160 = .ok (.return_, 1) := by decide +kernel
theorem dX9_in_0 : decode cX9_in 0 = .ok (.lload_n 0, 1) := by decide +kernel
theorem dX9_in_1 : decode cX9_in 1 = .ok (.lload_n 2, 1) := by decide +kernel
theorem dX9_in_2 : decode cX9_in 2 = .ok (.lcmp, 1) := by decide +kernel
theorem dX9_in_3 : decode cX9_in 3 = .ok (.ifCond .lt 14, 3) := by decide +kernel
theorem dX9_in_6 : decode cX9_in 6 = .ok (.lload_n 0, 1) := by decide +kernel
theorem dX9_in_7 : decode cX9_in 7 = .ok (.lload 4, 2) := by decide +kernel
theorem dX9_in_9 : decode cX9_in 9 = .ok (.lcmp, 1) := by decide +kernel
theorem dX9_in_10 : decode cX9_in 10 = .ok (.ifCond .gt 7, 3) := by decide +kernel
theorem dX9_in_13 : decode cX9_in 13 = .ok (.iconst 1, 1) := by decide +kernel
theorem dX9_in_14 : decode cX9_in 14 = .ok (.goto 4, 3) := by decide +kernel
theorem dX9_in_17 : decode cX9_in 17 = .ok (.iconst 0, 1) := by decide +kernel
theorem dX9_in_18 : decode cX9_in 18 = .ok (.ireturn, 1) := by decide +kernel
theorem dX9_bit_0 : decode cX9_bit 0 = .ok (.iload_n 0, 1) := by decide +kernel
theorem dX9_bit_1 : decode cX9_bit 1 = .ok (.ifCond .eq 7, 3) := by decide +kernel
theorem dX9_bit_4 : decode cX9_bit 4 = .ok (.iconst 1, 1) := by decide +kernel
theorem dX9_bit_5 : decode cX9_bit 5 = .ok (.goto 4, 3) := by decide +kernel
theorem dX9_bit_8 : decode cX9_bit 8 = .ok (.iconst 0, 1) := by decide +kernel
theorem dX9_bit_9 : decode cX9_bit 9 = .ok (.ireturn, 1) := by decide +kernel
theorem dX9_isLetter_0 : decode cX9_isLetter 0 = .ok (.iload_n 1, 1) := by decide +kernel
theorem dX9_isLetter_1 : decode cX9_isLetter 1 = .ok (.i2l, 1) := by decide +kernel
theorem dX9_isLetter_2 : decode cX9_isLetter 2 = .ok (.lconst 0, 1) := by decide +kernel
theorem dX9_isLetter_3 : decode cX9_isLetter 3 = .ok (.aload_n 0, 1) := by decide +kernel
theorem dX9_isLetter_4 : decode cX9_isLetter 4 = .ok (.getfield 11, 3) := by decide +kernel
theorem dX9_isLetter_7 : decode cX9_isLetter 7 = .ok (.iconst 0, 1) := by decide +kernel
theorem dX9_isLetter_8 : decode cX9_isLetter 8 = .ok (.iaload, 1) := by decide +kernel
theorem dX9_isLetter_9 : decode cX9_isLetter 9 = .ok (.iconst 1, 1) := by decide +kernel
theorem dX9_isLetter_10 : decode cX9_isLetter 10 = .ok (.isub, 1) := by decide +kernel
theorem dX9_isLetter_11 : decode cX9_isLetter 11 = .ok (.i2l, 1) := by decide +kernel
theorem dX9_isLetter_12 : decode cX9_isLetter 12 = .ok (.invokestatic 66, 3) := by decide +kernel
theorem dX9_isLetter_15 : decode cX9_isLetter 15 = .ok (.ireturn, 1) := by decide +kernel
theorem dX9_begins_0 : decode cX9_begins 0 = .ok (.aload_n 0, 1) := by decide +kernel
theorem dX9_begins_1 : decode cX9_begins 1 = .ok (.getfield 11, 3) := by decide +kernel
theorem dX9_begins_4 : decode cX9_begins 4 = .ok (.iconst 0, 1) := by decide +kernel
theorem dX9_begins_5 : decode cX9_begins 5 = .ok (.iload_n 1, 1) := by decide +kernel
theorem dX9_begins_6 : decode cX9_begins 6 = .ok (.iastore, 1) := by decide +kernel
theorem dX9_begins_7 : decode cX9_begins 7 = .ok (.aload_n 0, 1) := by decide +kernel
theorem dX9_begins_8 : decode cX9_begins 8 = .ok (.getfield 11, 3) := by decide +kernel
theorem dX9_begins_11 : decode cX9_begins 11 = .ok (.iconst 1, 1) := by decide +kernel
theorem dX9_begins_12 : decode cX9_begins 12 = .ok (.iconst 0, 1) := by decide +kernel
theorem dX9_begins_13 : decode cX9_begins 13 = .ok (.iastore, 1) := by decide +kernel
theorem dX9_begins_14 : decode cX9_begins 14 = .ok (.iconst 0, 1) := by decide +kernel
theorem dX9_begins_15 : decode cX9_begins 15 = .ok (.istore_n 2, 1) := by decide +kernel
theorem dX9_begins_16 : decode cX9_begins 16 = .ok (.iload_n 2, 1) := by decide +kernel
theorem dX9_begins_17 : decode cX9_begins 17 = .ok (.iload_n 1, 1) := by decide +kernel
theorem dX9_begins_18 : decode cX9_begins 18 = .ok (.if_icmp .ge 61, 3) := by decide +kernel
theorem dX9_begins_21 : decode cX9_begins 21 = .ok (.aload_n 0, 1) := by decide +kernel
theorem dX9_begins_22 : decode cX9_begins 22 = .ok (.getfield 11, 3) := by decide +kernel
theorem dX9_begins_25 : decode cX9_begins 25 = .ok (.iconst 2, 1) := by decide +kernel
theorem dX9_begins_26 : decode cX9_begins 26 = .ok (.iload_n 2, 1) := by decide +kernel
theorem dX9_begins_27 : decode cX9_begins 27 = .ok (.iadd, 1) := by decide +kernel
theorem dX9_begins_28 : decode cX9_begins 28 = .ok (.iload_n 2, 1) := by decide +kernel
theorem dX9_begins_29 : decode cX9_begins 29 = .ok (.iastore, 1) := by decide +kernel
theorem dX9_begins_30 : decode cX9_begins 30 = .ok (.aload_n 0, 1) := by decide +kernel
theorem dX9_begins_31 : decode cX9_begins 31 = .ok (.getfield 11, 3) := by decide +kernel
theorem dX9_begins_34 : decode cX9_begins 34 = .ok (.bipush 7, 2) := by decide +kernel
theorem dX9_begins_36 : decode cX9_begins 36 = .ok (.iload_n 2, 1) := by decide +kernel
theorem dX9_begins_37 : decode cX9_begins 37 = .ok (.iadd, 1) := by decide +kernel
theorem dX9_begins_38 : decode cX9_begins 38 = .ok (.iload_n 1, 1) := by decide +kernel
theorem dX9_begins_39 : decode cX9_begins 39 = .ok (.iconst 1, 1) := by decide +kernel
theorem dX9_begins_40 : decode cX9_begins 40 = .ok (.isub, 1) := by decide +kernel
theorem dX9_begins_41 : decode cX9_begins 41 = .ok (.iload_n 2, 1) := by decide +kernel
theorem dX9_begins_42 : decode cX9_begins 42 = .ok (.isub, 1) := by decide +kernel
theorem dX9_begins_43 : decode cX9_begins 43 = .ok (.iastore, 1) := by decide +kernel
theorem dX9_begins_44 : decode cX9_begins 44 = .ok (.aload_n 0, 1) := by decide +kernel
theorem dX9_begins_45 : decode cX9_begins 45 = .ok (.getfield 11, 3) := by decide +kernel
theorem dX9_begins_48 : decode cX9_begins 48 = .ok (.bipush 12, 2) := by decide +kernel
theorem dX9_begins_50 : decode cX9_begins 50 = .ok (.iload_n 2, 1) := by decide +kernel
theorem dX9_begins_51 : decode cX9_begins 51 = .ok (.iadd, 1) := by decide +kernel
theorem dX9_begins_52 : decode cX9_begins 52 = .ok (.iconst 1, 1) := by decide +kernel
theorem dX9_begins_53 : decode cX9_begins 53 = .ok (.iastore, 1) := by decide +kernel
theorem dX9_begins_54 : decode cX9_begins 54 = .ok (.aload_n 0, 1) := by decide +kernel
theorem dX9_begins_55 : decode cX9_begins 55 = .ok (.getfield 11, 3) := by decide +kernel
theorem dX9_begins_58 : decode cX9_begins 58 = .ok (.iconst 1, 1) := by decide +kernel
theorem dX9_begins_59 : decode cX9_begins 59 = .ok (.bipush 10, 2) := by decide +kernel
theorem dX9_begins_61 : decode cX9_begins 61 = .ok (.aload_n 0, 1) := by decide +kernel
theorem dX9_begins_62 : decode cX9_begins 62 = .ok (.getfield 11, 3) := by decide +kernel
theorem dX9_begins_65 : decode cX9_begins 65 = .ok (.iconst 1, 1) := by decide +kernel
theorem dX9_begins_66 : decode cX9_begins 66 = .ok (.iaload, 1) := by decide +kernel
theorem dX9_begins_67 : decode cX9_begins 67 = .ok (.imul, 1) := by decide +kernel
theorem dX9_begins_68 : decode cX9_begins 68 = .ok (.iload_n 1, 1) := by decide +kernel
theorem dX9_begins_69 : decode cX9_begins 69 = .ok (.iadd, 1) := by decide +kernel
theorem dX9_begins_70 : decode cX9_begins 70 = .ok (.iload_n 2, 1) := by decide +kernel
theorem dX9_begins_71 : decode cX9_begins 71 = .ok (.isub, 1) := by decide +kernel
theorem dX9_begins_72 : decode cX9_begins 72 = .ok (.iastore, 1) := by decide +kernel
theorem dX9_begins_73 : decode cX9_begins 73 = .ok (.iinc 2 1, 3) := by decide +kernel
theorem dX9_begins_76 : decode cX9_begins 76 = .ok (.goto (-60), 3) := by decide +kernel
theorem dX9_begins_79 : decode cX9_begins 79 = .ok (.aload_n 0, 1) := by decide +kernel
theorem dX9_begins_80 : decode cX9_begins 80 = .ok (.iconst 0, 1) := by decide +kernel
theorem dX9_begins_81 : decode cX9_begins 81 = .ok (.putfield 70, 3) := by decide +kernel
theorem dX9_begins_84 : decode cX9_begins 84 = .ok (.return_, 1) := by decide +kernel
theorem dX9_placeIn_0 : decode cX9_placeIn 0 = .ok (.iconst 0, 1) := by decide +kernel
theorem dX9_placeIn_1 : decode cX9_placeIn 1 = .ok (.istore_n 3, 1) := by decide +kernel
theorem dX9_placeIn_2 : decode cX9_placeIn 2 = .ok (.aload_n 0, 1) := by decide +kernel
theorem dX9_placeIn_3 : decode cX9_placeIn 3 = .ok (.getfield 11, 3) := by decide +kernel
theorem dX9_placeIn_6 : decode cX9_placeIn 6 = .ok (.iload_n 1, 1) := by decide +kernel
theorem dX9_placeIn_7 : decode cX9_placeIn 7 = .ok (.iload_n 3, 1) := by decide +kernel
theorem dX9_placeIn_8 : decode cX9_placeIn 8 = .ok (.iadd, 1) := by decide +kernel
theorem dX9_placeIn_9 : decode cX9_placeIn 9 = .ok (.iaload, 1) := by decide +kernel
theorem dX9_placeIn_10 : decode cX9_placeIn 10 = .ok (.iload_n 2, 1) := by decide +kernel
theorem dX9_placeIn_11 : decode cX9_placeIn 11 = .ok (.if_icmp .eq 9, 3) := by decide +kernel
theorem dX9_placeIn_14 : decode cX9_placeIn 14 = .ok (.iinc 3 1, 3) := by decide +kernel
theorem dX9_placeIn_17 : decode cX9_placeIn 17 = .ok (.goto (-15), 3) := by decide +kernel
theorem dX9_placeIn_20 : decode cX9_placeIn 20 = .ok (.iload_n 3, 1) := by decide +kernel
theorem dX9_placeIn_21 : decode cX9_placeIn 21 = .ok (.ireturn, 1) := by decide +kernel
theorem dX9_lastIn_0 : decode cX9_lastIn 0 = .ok (.aload_n 0, 1) := by decide +kernel
theorem dX9_lastIn_1 : decode cX9_lastIn 1 = .ok (.getfield 11, 3) := by decide +kernel
theorem dX9_lastIn_4 : decode cX9_lastIn 4 = .ok (.iload_n 1, 1) := by decide +kernel
theorem dX9_lastIn_5 : decode cX9_lastIn 5 = .ok (.aload_n 0, 1) := by decide +kernel
theorem dX9_lastIn_6 : decode cX9_lastIn 6 = .ok (.getfield 11, 3) := by decide +kernel
theorem dX9_lastIn_9 : decode cX9_lastIn 9 = .ok (.iconst 0, 1) := by decide +kernel
theorem dX9_lastIn_10 : decode cX9_lastIn 10 = .ok (.iaload, 1) := by decide +kernel
theorem dX9_lastIn_11 : decode cX9_lastIn 11 = .ok (.iadd, 1) := by decide +kernel
theorem dX9_lastIn_12 : decode cX9_lastIn 12 = .ok (.iconst 1, 1) := by decide +kernel
theorem dX9_lastIn_13 : decode cX9_lastIn 13 = .ok (.isub, 1) := by decide +kernel
theorem dX9_lastIn_14 : decode cX9_lastIn 14 = .ok (.iaload, 1) := by decide +kernel
theorem dX9_lastIn_15 : decode cX9_lastIn 15 = .ok (.ireturn, 1) := by decide +kernel
theorem dX9_movesBehind_0 : decode cX9_movesBehind 0 = .ok (.aload_n 0, 1) := by decide +kernel
theorem dX9_movesBehind_1 : decode cX9_movesBehind 1 = .ok (.iload_n 1, 1) := by decide +kernel
theorem dX9_movesBehind_2 : decode cX9_movesBehind 2 = .ok (.invokevirtual 74, 3) := by decide +kernel
theorem dX9_movesBehind_5 : decode cX9_movesBehind 5 = .ok (.istore_n 3, 1) := by decide +kernel
theorem dX9_movesBehind_6 : decode cX9_movesBehind 6 = .ok (.aload_n 0, 1) := by decide +kernel
theorem dX9_movesBehind_7 : decode cX9_movesBehind 7 = .ok (.iload_n 1, 1) := by decide +kernel
theorem dX9_movesBehind_8 : decode cX9_movesBehind 8 = .ok (.iload_n 2, 1) := by decide +kernel
theorem dX9_movesBehind_9 : decode cX9_movesBehind 9 = .ok (.invokevirtual 78, 3) := by decide +kernel
theorem dX9_movesBehind_12 : decode cX9_movesBehind 12 = .ok (.iconst 1, 1) := by decide +kernel
theorem dX9_movesBehind_13 : decode cX9_movesBehind 13 = .ok (.iadd, 1) := by decide +kernel
theorem dX9_movesBehind_14 : decode cX9_movesBehind 14 = .ok (.istore 4, 2) := by decide +kernel
theorem dX9_movesBehind_16 : decode cX9_movesBehind 16 = .ok (.aload_n 0, 1) := by decide +kernel
theorem dX9_movesBehind_17 : decode cX9_movesBehind 17 = .ok (.getfield 11, 3) := by decide +kernel
theorem dX9_movesBehind_20 : decode cX9_movesBehind 20 = .ok (.iconst 0, 1) := by decide +kernel
theorem dX9_movesBehind_21 : decode cX9_movesBehind 21 = .ok (.iaload, 1) := by decide +kernel
theorem dX9_movesBehind_22 : decode cX9_movesBehind 22 = .ok (.iconst 1, 1) := by decide +kernel
theorem dX9_movesBehind_23 : decode cX9_movesBehind 23 = .ok (.isub, 1) := by decide +kernel
theorem dX9_movesBehind_24 : decode cX9_movesBehind 24 = .ok (.istore 5, 2) := by decide +kernel
theorem dX9_movesBehind_26 : decode cX9_movesBehind 26 = .ok (.iload 5, 2) := by decide +kernel
theorem dX9_movesBehind_28 : decode cX9_movesBehind 28 = .ok (.iload 4, 2) := by decide +kernel
theorem dX9_movesBehind_30 : decode cX9_movesBehind 30 = .ok (.if_icmp .le 29, 3) := by decide +kernel
theorem dX9_movesBehind_33 : decode cX9_movesBehind 33 = .ok (.aload_n 0, 1) := by decide +kernel
theorem dX9_movesBehind_34 : decode cX9_movesBehind 34 = .ok (.getfield 11, 3) := by decide +kernel
theorem dX9_movesBehind_37 : decode cX9_movesBehind 37 = .ok (.iload_n 1, 1) := by decide +kernel
theorem dX9_movesBehind_38 : decode cX9_movesBehind 38 = .ok (.iload 5, 2) := by decide +kernel
theorem dX9_movesBehind_40 : decode cX9_movesBehind 40 = .ok (.iadd, 1) := by decide +kernel
theorem dX9_movesBehind_41 : decode cX9_movesBehind 41 = .ok (.aload_n 0, 1) := by decide +kernel
theorem dX9_movesBehind_42 : decode cX9_movesBehind 42 = .ok (.getfield 11, 3) := by decide +kernel
theorem dX9_movesBehind_45 : decode cX9_movesBehind 45 = .ok (.iload_n 1, 1) := by decide +kernel
theorem dX9_movesBehind_46 : decode cX9_movesBehind 46 = .ok (.iload 5, 2) := by decide +kernel
theorem dX9_movesBehind_48 : decode cX9_movesBehind 48 = .ok (.iadd, 1) := by decide +kernel
theorem dX9_movesBehind_49 : decode cX9_movesBehind 49 = .ok (.iconst 1, 1) := by decide +kernel
theorem dX9_movesBehind_50 : decode cX9_movesBehind 50 = .ok (.isub, 1) := by decide +kernel
theorem dX9_movesBehind_51 : decode cX9_movesBehind 51 = .ok (.iaload, 1) := by decide +kernel
theorem dX9_movesBehind_52 : decode cX9_movesBehind 52 = .ok (.iastore, 1) := by decide +kernel
theorem dX9_movesBehind_53 : decode cX9_movesBehind 53 = .ok (.iinc 5 (-1), 3) := by decide +kernel
theorem dX9_movesBehind_56 : decode cX9_movesBehind 56 = .ok (.goto (-30), 3) := by decide +kernel
theorem dX9_movesBehind_59 : decode cX9_movesBehind 59 = .ok (.aload_n 0, 1) := by decide +kernel
theorem dX9_movesBehind_60 : decode cX9_movesBehind 60 = .ok (.getfield 11, 3) := by decide +kernel
theorem dX9_movesBehind_63 : decode cX9_movesBehind 63 = .ok (.iload_n 1, 1) := by decide +kernel
theorem dX9_movesBehind_64 : decode cX9_movesBehind 64 = .ok (.iload 4, 2) := by decide +kernel
theorem dX9_movesBehind_66 : decode cX9_movesBehind 66 = .ok (.iadd, 1) := by decide +kernel
theorem dX9_movesBehind_67 : decode cX9_movesBehind 67 = .ok (.iload_n 3, 1) := by decide +kernel
theorem dX9_movesBehind_68 : decode cX9_movesBehind 68 = .ok (.iastore, 1) := by decide +kernel
theorem dX9_movesBehind_69 : decode cX9_movesBehind 69 = .ok (.return_, 1) := by decide +kernel
theorem dX9_movesToEnd_0 : decode cX9_movesToEnd 0 = .ok (.aload_n 0, 1) := by decide +kernel
theorem dX9_movesToEnd_1 : decode cX9_movesToEnd 1 = .ok (.iload_n 1, 1) := by decide +kernel
theorem dX9_movesToEnd_2 : decode cX9_movesToEnd 2 = .ok (.iload_n 2, 1) := by decide +kernel
theorem dX9_movesToEnd_3 : decode cX9_movesToEnd 3 = .ok (.invokevirtual 78, 3) := by decide +kernel
theorem dX9_movesToEnd_6 : decode cX9_movesToEnd 6 = .ok (.iconst 1, 1) := by decide +kernel
theorem dX9_movesToEnd_7 : decode cX9_movesToEnd 7 = .ok (.iadd, 1) := by decide +kernel
theorem dX9_movesToEnd_8 : decode cX9_movesToEnd 8 = .ok (.istore_n 3, 1) := by decide +kernel
theorem dX9_movesToEnd_9 : decode cX9_movesToEnd 9 = .ok (.iload_n 3, 1) := by decide +kernel
theorem dX9_movesToEnd_10 : decode cX9_movesToEnd 10 = .ok (.aload_n 0, 1) := by decide +kernel
theorem dX9_movesToEnd_11 : decode cX9_movesToEnd 11 = .ok (.getfield 11, 3) := by decide +kernel
theorem dX9_movesToEnd_14 : decode cX9_movesToEnd 14 = .ok (.iconst 0, 1) := by decide +kernel
theorem dX9_movesToEnd_15 : decode cX9_movesToEnd 15 = .ok (.iaload, 1) := by decide +kernel
theorem dX9_movesToEnd_16 : decode cX9_movesToEnd 16 = .ok (.if_icmp .ne 5, 3) := by decide +kernel
theorem dX9_movesToEnd_19 : decode cX9_movesToEnd 19 = .ok (.iconst (-1), 1) := by decide +kernel
theorem dX9_movesToEnd_20 : decode cX9_movesToEnd 20 = .ok (.ireturn, 1) := by decide +kernel
theorem dX9_movesToEnd_21 : decode cX9_movesToEnd 21 = .ok (.aload_n 0, 1) := by decide +kernel
theorem dX9_movesToEnd_22 : decode cX9_movesToEnd 22 = .ok (.getfield 11, 3) := by decide +kernel
theorem dX9_movesToEnd_25 : decode cX9_movesToEnd 25 = .ok (.iload_n 1, 1) := by decide +kernel
theorem dX9_movesToEnd_26 : decode cX9_movesToEnd 26 = .ok (.iload_n 3, 1) := by decide +kernel
theorem dX9_movesToEnd_27 : decode cX9_movesToEnd 27 = .ok (.iadd, 1) := by decide +kernel
theorem dX9_movesToEnd_28 : decode cX9_movesToEnd 28 = .ok (.iaload, 1) := by decide +kernel
theorem dX9_movesToEnd_29 : decode cX9_movesToEnd 29 = .ok (.istore 4, 2) := by decide +kernel
theorem dX9_movesToEnd_31 : decode cX9_movesToEnd 31 = .ok (.iload_n 3, 1) := by decide +kernel
theorem dX9_movesToEnd_32 : decode cX9_movesToEnd 32 = .ok (.istore 5, 2) := by decide +kernel
theorem dX9_movesToEnd_34 : decode cX9_movesToEnd 34 = .ok (.iload 5, 2) := by decide +kernel
theorem dX9_movesToEnd_36 : decode cX9_movesToEnd 36 = .ok (.iconst 1, 1) := by decide +kernel
theorem dX9_movesToEnd_37 : decode cX9_movesToEnd 37 = .ok (.iadd, 1) := by decide +kernel
theorem dX9_movesToEnd_38 : decode cX9_movesToEnd 38 = .ok (.aload_n 0, 1) := by decide +kernel
theorem dX9_movesToEnd_39 : decode cX9_movesToEnd 39 = .ok (.getfield 11, 3) := by decide +kernel
theorem dX9_movesToEnd_42 : decode cX9_movesToEnd 42 = .ok (.iconst 0, 1) := by decide +kernel
theorem dX9_movesToEnd_43 : decode cX9_movesToEnd 43 = .ok (.iaload, 1) := by decide +kernel
theorem dX9_movesToEnd_44 : decode cX9_movesToEnd 44 = .ok (.if_icmp .ge 29, 3) := by decide +kernel
theorem dX9_movesToEnd_47 : decode cX9_movesToEnd 47 = .ok (.aload_n 0, 1) := by decide +kernel
theorem dX9_movesToEnd_48 : decode cX9_movesToEnd 48 = .ok (.getfield 11, 3) := by decide +kernel
theorem dX9_movesToEnd_51 : decode cX9_movesToEnd 51 = .ok (.iload_n 1, 1) := by decide +kernel
theorem dX9_movesToEnd_52 : decode cX9_movesToEnd 52 = .ok (.iload 5, 2) := by decide +kernel
theorem dX9_movesToEnd_54 : decode cX9_movesToEnd 54 = .ok (.iadd, 1) := by decide +kernel
theorem dX9_movesToEnd_55 : decode cX9_movesToEnd 55 = .ok (.aload_n 0, 1) := by decide +kernel
theorem dX9_movesToEnd_56 : decode cX9_movesToEnd 56 = .ok (.getfield 11, 3) := by decide +kernel
theorem dX9_movesToEnd_59 : decode cX9_movesToEnd 59 = .ok (.iload_n 1, 1) := by decide +kernel
theorem dX9_movesToEnd_60 : decode cX9_movesToEnd 60 = .ok (.iload 5, 2) := by decide +kernel
theorem dX9_movesToEnd_62 : decode cX9_movesToEnd 62 = .ok (.iadd, 1) := by decide +kernel
theorem dX9_movesToEnd_63 : decode cX9_movesToEnd 63 = .ok (.iconst 1, 1) := by decide +kernel
theorem dX9_movesToEnd_64 : decode cX9_movesToEnd 64 = .ok (.iadd, 1) := by decide +kernel
theorem dX9_movesToEnd_65 : decode cX9_movesToEnd 65 = .ok (.iaload, 1) := by decide +kernel
theorem dX9_movesToEnd_66 : decode cX9_movesToEnd 66 = .ok (.iastore, 1) := by decide +kernel
theorem dX9_movesToEnd_67 : decode cX9_movesToEnd 67 = .ok (.iinc 5 1, 3) := by decide +kernel
theorem dX9_movesToEnd_70 : decode cX9_movesToEnd 70 = .ok (.goto (-36), 3) := by decide +kernel
theorem dX9_movesToEnd_73 : decode cX9_movesToEnd 73 = .ok (.aload_n 0, 1) := by decide +kernel
theorem dX9_movesToEnd_74 : decode cX9_movesToEnd 74 = .ok (.getfield 11, 3) := by decide +kernel
theorem dX9_movesToEnd_77 : decode cX9_movesToEnd 77 = .ok (.iload_n 1, 1) := by decide +kernel
theorem dX9_movesToEnd_78 : decode cX9_movesToEnd 78 = .ok (.aload_n 0, 1) := by decide +kernel
theorem dX9_movesToEnd_79 : decode cX9_movesToEnd 79 = .ok (.getfield 11, 3) := by decide +kernel
theorem dX9_movesToEnd_82 : decode cX9_movesToEnd 82 = .ok (.iconst 0, 1) := by decide +kernel
theorem dX9_movesToEnd_83 : decode cX9_movesToEnd 83 = .ok (.iaload, 1) := by decide +kernel
theorem dX9_movesToEnd_84 : decode cX9_movesToEnd 84 = .ok (.iadd, 1) := by decide +kernel
theorem dX9_movesToEnd_85 : decode cX9_movesToEnd 85 = .ok (.iconst 1, 1) := by decide +kernel
theorem dX9_movesToEnd_86 : decode cX9_movesToEnd 86 = .ok (.isub, 1) := by decide +kernel
theorem dX9_movesToEnd_87 : decode cX9_movesToEnd 87 = .ok (.iload 4, 2) := by decide +kernel
theorem dX9_movesToEnd_89 : decode cX9_movesToEnd 89 = .ok (.iastore, 1) := by decide +kernel
theorem dX9_movesToEnd_90 : decode cX9_movesToEnd 90 = .ok (.iload 4, 2) := by decide +kernel
theorem dX9_movesToEnd_92 : decode cX9_movesToEnd 92 = .ok (.ireturn, 1) := by decide +kernel
theorem dX9_points_0 : decode cX9_points 0 = .ok (.iconst 0, 1) := by decide +kernel
theorem dX9_points_1 : decode cX9_points 1 = .ok (.istore_n 1, 1) := by decide +kernel
theorem dX9_points_2 : decode cX9_points 2 = .ok (.iconst 0, 1) := by decide +kernel
theorem dX9_points_3 : decode cX9_points 3 = .ok (.istore_n 2, 1) := by decide +kernel
theorem dX9_points_4 : decode cX9_points 4 = .ok (.iload_n 2, 1) := by decide +kernel
theorem dX9_points_5 : decode cX9_points 5 = .ok (.aload_n 0, 1) := by decide +kernel
theorem dX9_points_6 : decode cX9_points 6 = .ok (.getfield 11, 3) := by decide +kernel
theorem dX9_points_9 : decode cX9_points 9 = .ok (.iconst 0, 1) := by decide +kernel
theorem dX9_points_10 : decode cX9_points 10 = .ok (.iaload, 1) := by decide +kernel
theorem dX9_points_11 : decode cX9_points 11 = .ok (.if_icmp .ge 21, 3) := by decide +kernel
theorem dX9_points_14 : decode cX9_points 14 = .ok (.iload_n 1, 1) := by decide +kernel
theorem dX9_points_15 : decode cX9_points 15 = .ok (.aload_n 0, 1) := by decide +kernel
theorem dX9_points_16 : decode cX9_points 16 = .ok (.getfield 11, 3) := by decide +kernel
theorem dX9_points_19 : decode cX9_points 19 = .ok (.bipush 12, 2) := by decide +kernel
theorem dX9_points_21 : decode cX9_points 21 = .ok (.iload_n 2, 1) := by decide +kernel
theorem dX9_points_22 : decode cX9_points 22 = .ok (.iadd, 1) := by decide +kernel
theorem dX9_points_23 : decode cX9_points 23 = .ok (.iaload, 1) := by decide +kernel
theorem dX9_points_24 : decode cX9_points 24 = .ok (.iadd, 1) := by decide +kernel
theorem dX9_points_25 : decode cX9_points 25 = .ok (.istore_n 1, 1) := by decide +kernel
theorem dX9_points_26 : decode cX9_points 26 = .ok (.iinc 2 1, 3) := by decide +kernel
theorem dX9_points_29 : decode cX9_points 29 = .ok (.goto (-25), 3) := by decide +kernel
theorem dX9_points_32 : decode cX9_points 32 = .ok (.iload_n 1, 1) := by decide +kernel
theorem dX9_points_33 : decode cX9_points 33 = .ok (.ireturn, 1) := by decide +kernel
theorem dX9_codeNow_0 : decode cX9_codeNow 0 = .ok (.iconst 0, 1) := by decide +kernel
theorem dX9_codeNow_1 : decode cX9_codeNow 1 = .ok (.istore_n 1, 1) := by decide +kernel
theorem dX9_codeNow_2 : decode cX9_codeNow 2 = .ok (.iconst 0, 1) := by decide +kernel
theorem dX9_codeNow_3 : decode cX9_codeNow 3 = .ok (.istore_n 2, 1) := by decide +kernel
theorem dX9_codeNow_4 : decode cX9_codeNow 4 = .ok (.iload_n 2, 1) := by decide +kernel
theorem dX9_codeNow_5 : decode cX9_codeNow 5 = .ok (.aload_n 0, 1) := by decide +kernel
theorem dX9_codeNow_6 : decode cX9_codeNow 6 = .ok (.getfield 11, 3) := by decide +kernel
theorem dX9_codeNow_9 : decode cX9_codeNow 9 = .ok (.iconst 0, 1) := by decide +kernel
theorem dX9_codeNow_10 : decode cX9_codeNow 10 = .ok (.iaload, 1) := by decide +kernel
theorem dX9_codeNow_11 : decode cX9_codeNow 11 = .ok (.if_icmp .ge 31, 3) := by decide +kernel
theorem dX9_codeNow_14 : decode cX9_codeNow 14 = .ok (.bipush 10, 2) := by decide +kernel
theorem dX9_codeNow_16 : decode cX9_codeNow 16 = .ok (.iload_n 1, 1) := by decide +kernel
theorem dX9_codeNow_17 : decode cX9_codeNow 17 = .ok (.imul, 1) := by decide +kernel
theorem dX9_codeNow_18 : decode cX9_codeNow 18 = .ok (.iconst 1, 1) := by decide +kernel
theorem dX9_codeNow_19 : decode cX9_codeNow 19 = .ok (.iadd, 1) := by decide +kernel
theorem dX9_codeNow_20 : decode cX9_codeNow 20 = .ok (.aload_n 0, 1) := by decide +kernel
theorem dX9_codeNow_21 : decode cX9_codeNow 21 = .ok (.iconst 2, 1) := by decide +kernel
theorem dX9_codeNow_22 : decode cX9_codeNow 22 = .ok (.aload_n 0, 1) := by decide +kernel
theorem dX9_codeNow_23 : decode cX9_codeNow 23 = .ok (.getfield 11, 3) := by decide +kernel
theorem dX9_codeNow_26 : decode cX9_codeNow 26 = .ok (.bipush 7, 2) := by decide +kernel
theorem dX9_codeNow_28 : decode cX9_codeNow 28 = .ok (.iload_n 2, 1) := by decide +kernel
theorem dX9_codeNow_29 : decode cX9_codeNow 29 = .ok (.iadd, 1) := by decide +kernel
theorem dX9_codeNow_30 : decode cX9_codeNow 30 = .ok (.iaload, 1) := by decide +kernel
theorem dX9_codeNow_31 : decode cX9_codeNow 31 = .ok (.invokevirtual 78, 3) := by decide +kernel
theorem dX9_codeNow_34 : decode cX9_codeNow 34 = .ok (.iadd, 1) := by decide +kernel
theorem dX9_codeNow_35 : decode cX9_codeNow 35 = .ok (.istore_n 1, 1) := by decide +kernel
theorem dX9_codeNow_36 : decode cX9_codeNow 36 = .ok (.iinc 2 1, 3) := by decide +kernel
theorem dX9_codeNow_39 : decode cX9_codeNow 39 = .ok (.goto (-35), 3) := by decide +kernel
theorem dX9_codeNow_42 : decode cX9_codeNow 42 = .ok (.iload_n 1, 1) := by decide +kernel
theorem dX9_codeNow_43 : decode cX9_codeNow 43 = .ok (.ireturn, 1) := by decide +kernel
theorem dX9_isWhole_0 : decode cX9_isWhole 0 = .ok (.iconst 0, 1) := by decide +kernel
theorem dX9_isWhole_1 : decode cX9_isWhole 1 = .ok (.istore_n 1, 1) := by decide +kernel
theorem dX9_isWhole_2 : decode cX9_isWhole 2 = .ok (.iconst 0, 1) := by decide +kernel
theorem dX9_isWhole_3 : decode cX9_isWhole 3 = .ok (.istore_n 2, 1) := by decide +kernel
theorem dX9_isWhole_4 : decode cX9_isWhole 4 = .ok (.iconst 0, 1) := by decide +kernel
theorem dX9_isWhole_5 : decode cX9_isWhole 5 = .ok (.istore_n 3, 1) := by decide +kernel
theorem dX9_isWhole_6 : decode cX9_isWhole 6 = .ok (.iload_n 3, 1) := by decide +kernel
theorem dX9_isWhole_7 : decode cX9_isWhole 7 = .ok (.iconst 1, 1) := by decide +kernel
theorem dX9_isWhole_8 : decode cX9_isWhole 8 = .ok (.iadd, 1) := by decide +kernel
theorem dX9_isWhole_9 : decode cX9_isWhole 9 = .ok (.aload_n 0, 1) := by decide +kernel
theorem dX9_isWhole_10 : decode cX9_isWhole 10 = .ok (.getfield 11, 3) := by decide +kernel
theorem dX9_isWhole_13 : decode cX9_isWhole 13 = .ok (.iconst 0, 1) := by decide +kernel
theorem dX9_isWhole_14 : decode cX9_isWhole 14 = .ok (.iaload, 1) := by decide +kernel
theorem dX9_isWhole_15 : decode cX9_isWhole 15 = .ok (.if_icmp .ge 43, 3) := by decide +kernel
theorem dX9_isWhole_18 : decode cX9_isWhole 18 = .ok (.iload_n 1, 1) := by decide +kernel
theorem dX9_isWhole_19 : decode cX9_isWhole 19 = .ok (.iconst 1, 1) := by decide +kernel
theorem dX9_isWhole_20 : decode cX9_isWhole 20 = .ok (.aload_n 0, 1) := by decide +kernel
theorem dX9_isWhole_21 : decode cX9_isWhole 21 = .ok (.getfield 11, 3) := by decide +kernel
theorem dX9_isWhole_24 : decode cX9_isWhole 24 = .ok (.iconst 2, 1) := by decide +kernel
theorem dX9_isWhole_25 : decode cX9_isWhole 25 = .ok (.iload_n 3, 1) := by decide +kernel
theorem dX9_isWhole_26 : decode cX9_isWhole 26 = .ok (.iadd, 1) := by decide +kernel
theorem dX9_isWhole_27 : decode cX9_isWhole 27 = .ok (.iaload, 1) := by decide +kernel
theorem dX9_isWhole_28 : decode cX9_isWhole 28 = .ok (.ishl, 1) := by decide +kernel
theorem dX9_isWhole_29 : decode cX9_isWhole 29 = .ok (.ior, 1) := by decide +kernel
theorem dX9_isWhole_30 : decode cX9_isWhole 30 = .ok (.istore_n 1, 1) := by decide +kernel
theorem dX9_isWhole_31 : decode cX9_isWhole 31 = .ok (.iload_n 2, 1) := by decide +kernel
theorem dX9_isWhole_32 : decode cX9_isWhole 32 = .ok (.iconst 1, 1) := by decide +kernel
theorem dX9_isWhole_33 : decode cX9_isWhole 33 = .ok (.aload_n 0, 1) := by decide +kernel
theorem dX9_isWhole_34 : decode cX9_isWhole 34 = .ok (.getfield 11, 3) := by decide +kernel
theorem dX9_isWhole_37 : decode cX9_isWhole 37 = .ok (.bipush 7, 2) := by decide +kernel
theorem dX9_isWhole_39 : decode cX9_isWhole 39 = .ok (.iload_n 3, 1) := by decide +kernel
theorem dX9_isWhole_40 : decode cX9_isWhole 40 = .ok (.iadd, 1) := by decide +kernel
theorem dX9_isWhole_41 : decode cX9_isWhole 41 = .ok (.iaload, 1) := by decide +kernel
theorem dX9_isWhole_42 : decode cX9_isWhole 42 = .ok (.ishl, 1) := by decide +kernel
theorem dX9_isWhole_43 : decode cX9_isWhole 43 = .ok (.ior, 1) := by decide +kernel
theorem dX9_isWhole_44 : decode cX9_isWhole 44 = .ok (.istore_n 2, 1) := by decide +kernel
theorem dX9_isWhole_45 : decode cX9_isWhole 45 = .ok (.iload_n 1, 1) := by decide +kernel
theorem dX9_isWhole_46 : decode cX9_isWhole 46 = .ok (.iload_n 2, 1) := by decide +kernel
theorem dX9_isWhole_47 : decode cX9_isWhole 47 = .ok (.if_icmp .ne 5, 3) := by decide +kernel
theorem dX9_isWhole_50 : decode cX9_isWhole 50 = .ok (.iconst 0, 1) := by decide +kernel
theorem dX9_isWhole_51 : decode cX9_isWhole 51 = .ok (.ireturn, 1) := by decide +kernel
theorem dX9_isWhole_52 : decode cX9_isWhole 52 = .ok (.iinc 3 1, 3) := by decide +kernel
theorem dX9_isWhole_55 : decode cX9_isWhole 55 = .ok (.goto (-49), 3) := by decide +kernel
theorem dX9_isWhole_58 : decode cX9_isWhole 58 = .ok (.iconst 1, 1) := by decide +kernel
theorem dX9_isWhole_59 : decode cX9_isWhole 59 = .ok (.ireturn, 1) := by decide +kernel
theorem dX9_kindNow_0 : decode cX9_kindNow 0 = .ok (.aload_n 0, 1) := by decide +kernel
theorem dX9_kindNow_1 : decode cX9_kindNow 1 = .ok (.iconst 2, 1) := by decide +kernel
theorem dX9_kindNow_2 : decode cX9_kindNow 2 = .ok (.invokevirtual 74, 3) := by decide +kernel
theorem dX9_kindNow_5 : decode cX9_kindNow 5 = .ok (.istore_n 1, 1) := by decide +kernel
theorem dX9_kindNow_6 : decode cX9_kindNow 6 = .ok (.aload_n 0, 1) := by decide +kernel
theorem dX9_kindNow_7 : decode cX9_kindNow 7 = .ok (.bipush 7, 2) := by decide +kernel
theorem dX9_kindNow_9 : decode cX9_kindNow 9 = .ok (.invokevirtual 74, 3) := by decide +kernel
theorem dX9_kindNow_12 : decode cX9_kindNow 12 = .ok (.istore_n 2, 1) := by decide +kernel
theorem dX9_kindNow_13 : decode cX9_kindNow 13 = .ok (.aload_n 0, 1) := by decide +kernel
theorem dX9_kindNow_14 : decode cX9_kindNow 14 = .ok (.getfield 11, 3) := by decide +kernel
theorem dX9_kindNow_17 : decode cX9_kindNow 17 = .ok (.bipush 12, 2) := by decide +kernel
theorem dX9_kindNow_19 : decode cX9_kindNow 19 = .ok (.iload_n 1, 1) := by decide +kernel
theorem dX9_kindNow_20 : decode cX9_kindNow 20 = .ok (.iadd, 1) := by decide +kernel
theorem dX9_kindNow_21 : decode cX9_kindNow 21 = .ok (.iaload, 1) := by decide +kernel
theorem dX9_kindNow_22 : decode cX9_kindNow 22 = .ok (.aload_n 0, 1) := by decide +kernel
theorem dX9_kindNow_23 : decode cX9_kindNow 23 = .ok (.getfield 11, 3) := by decide +kernel
theorem dX9_kindNow_26 : decode cX9_kindNow 26 = .ok (.bipush 12, 2) := by decide +kernel
theorem dX9_kindNow_28 : decode cX9_kindNow 28 = .ok (.iload_n 2, 1) := by decide +kernel
theorem dX9_kindNow_29 : decode cX9_kindNow 29 = .ok (.iadd, 1) := by decide +kernel
theorem dX9_kindNow_30 : decode cX9_kindNow 30 = .ok (.iaload, 1) := by decide +kernel
theorem dX9_kindNow_31 : decode cX9_kindNow 31 = .ok (.isub, 1) := by decide +kernel
theorem dX9_kindNow_32 : decode cX9_kindNow 32 = .ok (.istore_n 3, 1) := by decide +kernel
theorem dX9_kindNow_33 : decode cX9_kindNow 33 = .ok (.iload_n 3, 1) := by decide +kernel
theorem dX9_kindNow_34 : decode cX9_kindNow 34 = .ok (.ifCond .ne 7, 3) := by decide +kernel
theorem dX9_kindNow_37 : decode cX9_kindNow 37 = .ok (.iconst (-1), 1) := by decide +kernel
theorem dX9_kindNow_38 : decode cX9_kindNow 38 = .ok (.goto 12, 3) := by decide +kernel
theorem dX9_kindNow_41 : decode cX9_kindNow 41 = .ok (.iload_n 3, 1) := by decide +kernel
theorem dX9_kindNow_42 : decode cX9_kindNow 42 = .ok (.ifCond .le 7, 3) := by decide +kernel
theorem dX9_kindNow_45 : decode cX9_kindNow 45 = .ok (.iconst 0, 1) := by decide +kernel
theorem dX9_kindNow_46 : decode cX9_kindNow 46 = .ok (.goto 4, 3) := by decide +kernel
theorem dX9_kindNow_49 : decode cX9_kindNow 49 = .ok (.iconst 1, 1) := by decide +kernel
theorem dX9_kindNow_50 : decode cX9_kindNow 50 = .ok (.ireturn, 1) := by decide +kernel
theorem dX9_steps_0 : decode cX9_steps 0 = .ok (.aload_n 0, 1) := by decide +kernel
theorem dX9_steps_1 : decode cX9_steps 1 = .ok (.iconst 2, 1) := by decide +kernel
theorem dX9_steps_2 : decode cX9_steps 2 = .ok (.invokevirtual 74, 3) := by decide +kernel
theorem dX9_steps_5 : decode cX9_steps 5 = .ok (.istore_n 2, 1) := by decide +kernel
theorem dX9_steps_6 : decode cX9_steps 6 = .ok (.aload_n 0, 1) := by decide +kernel
theorem dX9_steps_7 : decode cX9_steps 7 = .ok (.bipush 7, 2) := by decide +kernel
theorem dX9_steps_9 : decode cX9_steps 9 = .ok (.invokevirtual 74, 3) := by decide +kernel
theorem dX9_steps_12 : decode cX9_steps 12 = .ok (.istore_n 3, 1) := by decide +kernel
theorem dX9_steps_13 : decode cX9_steps 13 = .ok (.iload_n 1, 1) := by decide +kernel
theorem dX9_steps_14 : decode cX9_steps 14 = .ok (.ifCond .ne 34, 3) := by decide +kernel
theorem dX9_steps_17 : decode cX9_steps 17 = .ok (.aload_n 0, 1) := by decide +kernel
theorem dX9_steps_18 : decode cX9_steps 18 = .ok (.getfield 11, 3) := by decide +kernel
theorem dX9_steps_21 : decode cX9_steps 21 = .ok (.bipush 12, 2) := by decide +kernel
theorem dX9_steps_23 : decode cX9_steps 23 = .ok (.iload_n 2, 1) := by decide +kernel
theorem dX9_steps_24 : decode cX9_steps 24 = .ok (.iadd, 1) := by decide +kernel
theorem dX9_steps_25 : decode cX9_steps 25 = .ok (.dup2, 1) := by decide +kernel
theorem dX9_steps_26 : decode cX9_steps 26 = .ok (.iaload, 1) := by decide +kernel
theorem dX9_steps_27 : decode cX9_steps 27 = .ok (.aload_n 0, 1) := by decide +kernel
theorem dX9_steps_28 : decode cX9_steps 28 = .ok (.getfield 11, 3) := by decide +kernel
theorem dX9_steps_31 : decode cX9_steps 31 = .ok (.bipush 12, 2) := by decide +kernel
theorem dX9_steps_33 : decode cX9_steps 33 = .ok (.iload_n 3, 1) := by decide +kernel
theorem dX9_steps_34 : decode cX9_steps 34 = .ok (.iadd, 1) := by decide +kernel
theorem dX9_steps_35 : decode cX9_steps 35 = .ok (.iaload, 1) := by decide +kernel
theorem dX9_steps_36 : decode cX9_steps 36 = .ok (.isub, 1) := by decide +kernel
theorem dX9_steps_37 : decode cX9_steps 37 = .ok (.iastore, 1) := by decide +kernel
theorem dX9_steps_38 : decode cX9_steps 38 = .ok (.aload_n 0, 1) := by decide +kernel
theorem dX9_steps_39 : decode cX9_steps 39 = .ok (.bipush 7, 2) := by decide +kernel
theorem dX9_steps_41 : decode cX9_steps 41 = .ok (.iload_n 2, 1) := by decide +kernel
theorem dX9_steps_42 : decode cX9_steps 42 = .ok (.invokevirtual 82, 3) := by decide +kernel
theorem dX9_steps_45 : decode cX9_steps 45 = .ok (.goto 30, 3) := by decide +kernel
theorem dX9_steps_48 : decode cX9_steps 48 = .ok (.aload_n 0, 1) := by decide +kernel
theorem dX9_steps_49 : decode cX9_steps 49 = .ok (.getfield 11, 3) := by decide +kernel
theorem dX9_steps_52 : decode cX9_steps 52 = .ok (.bipush 12, 2) := by decide +kernel
theorem dX9_steps_54 : decode cX9_steps 54 = .ok (.iload_n 3, 1) := by decide +kernel
theorem dX9_steps_55 : decode cX9_steps 55 = .ok (.iadd, 1) := by decide +kernel
theorem dX9_steps_56 : decode cX9_steps 56 = .ok (.dup2, 1) := by decide +kernel
theorem dX9_steps_57 : decode cX9_steps 57 = .ok (.iaload, 1) := by decide +kernel
theorem dX9_steps_58 : decode cX9_steps 58 = .ok (.aload_n 0, 1) := by decide +kernel
theorem dX9_steps_59 : decode cX9_steps 59 = .ok (.getfield 11, 3) := by decide +kernel
theorem dX9_steps_62 : decode cX9_steps 62 = .ok (.bipush 12, 2) := by decide +kernel
theorem dX9_steps_64 : decode cX9_steps 64 = .ok (.iload_n 2, 1) := by decide +kernel
theorem dX9_steps_65 : decode cX9_steps 65 = .ok (.iadd, 1) := by decide +kernel
theorem dX9_steps_66 : decode cX9_steps 66 = .ok (.iaload, 1) := by decide +kernel
theorem dX9_steps_67 : decode cX9_steps 67 = .ok (.isub, 1) := by decide +kernel
theorem dX9_steps_68 : decode cX9_steps 68 = .ok (.iastore, 1) := by decide +kernel
theorem dX9_steps_69 : decode cX9_steps 69 = .ok (.aload_n 0, 1) := by decide +kernel
theorem dX9_steps_70 : decode cX9_steps 70 = .ok (.iconst 2, 1) := by decide +kernel
theorem dX9_steps_71 : decode cX9_steps 71 = .ok (.iload_n 3, 1) := by decide +kernel
theorem dX9_steps_72 : decode cX9_steps 72 = .ok (.invokevirtual 82, 3) := by decide +kernel
theorem dX9_steps_75 : decode cX9_steps 75 = .ok (.return_, 1) := by decide +kernel
theorem dX9_stepsBack_0 : decode cX9_stepsBack 0 = .ok (.aload_n 0, 1) := by decide +kernel
theorem dX9_stepsBack_1 : decode cX9_stepsBack 1 = .ok (.iload_n 1, 1) := by decide +kernel
theorem dX9_stepsBack_2 : decode cX9_stepsBack 2 = .ok (.ifCond .ne 7, 3) := by decide +kernel
theorem dX9_stepsBack_5 : decode cX9_stepsBack 5 = .ok (.iconst 2, 1) := by decide +kernel
theorem dX9_stepsBack_6 : decode cX9_stepsBack 6 = .ok (.goto 5, 3) := by decide +kernel
theorem dX9_stepsBack_9 : decode cX9_stepsBack 9 = .ok (.bipush 7, 2) := by decide +kernel
theorem dX9_stepsBack_11 : decode cX9_stepsBack 11 = .ok (.invokevirtual 74, 3) := by decide +kernel
theorem dX9_stepsBack_14 : decode cX9_stepsBack 14 = .ok (.istore_n 2, 1) := by decide +kernel
theorem dX9_stepsBack_15 : decode cX9_stepsBack 15 = .ok (.aload_n 0, 1) := by decide +kernel
theorem dX9_stepsBack_16 : decode cX9_stepsBack 16 = .ok (.iload_n 1, 1) := by decide +kernel
theorem dX9_stepsBack_17 : decode cX9_stepsBack 17 = .ok (.ifCond .ne 8, 3) := by decide +kernel
theorem dX9_stepsBack_20 : decode cX9_stepsBack 20 = .ok (.bipush 7, 2) := by decide +kernel
theorem dX9_stepsBack_22 : decode cX9_stepsBack 22 = .ok (.goto 4, 3) := by decide +kernel
theorem dX9_stepsBack_25 : decode cX9_stepsBack 25 = .ok (.iconst 2, 1) := by decide +kernel
theorem dX9_stepsBack_26 : decode cX9_stepsBack 26 = .ok (.iload_n 2, 1) := by decide +kernel
theorem dX9_stepsBack_27 : decode cX9_stepsBack 27 = .ok (.invokevirtual 86, 3) := by decide +kernel
theorem dX9_stepsBack_30 : decode cX9_stepsBack 30 = .ok (.istore_n 3, 1) := by decide +kernel
theorem dX9_stepsBack_31 : decode cX9_stepsBack 31 = .ok (.iload_n 3, 1) := by decide +kernel
theorem dX9_stepsBack_32 : decode cX9_stepsBack 32 = .ok (.iconst (-1), 1) := by decide +kernel
theorem dX9_stepsBack_33 : decode cX9_stepsBack 33 = .ok (.if_icmp .eq 24, 3) := by decide +kernel
theorem dX9_stepsBack_36 : decode cX9_stepsBack 36 = .ok (.aload_n 0, 1) := by decide +kernel
theorem dX9_stepsBack_37 : decode cX9_stepsBack 37 = .ok (.getfield 11, 3) := by decide +kernel
theorem dX9_stepsBack_40 : decode cX9_stepsBack 40 = .ok (.bipush 12, 2) := by decide +kernel
theorem dX9_stepsBack_42 : decode cX9_stepsBack 42 = .ok (.iload_n 2, 1) := by decide +kernel
theorem dX9_stepsBack_43 : decode cX9_stepsBack 43 = .ok (.iadd, 1) := by decide +kernel
theorem dX9_stepsBack_44 : decode cX9_stepsBack 44 = .ok (.dup2, 1) := by decide +kernel
theorem dX9_stepsBack_45 : decode cX9_stepsBack 45 = .ok (.iaload, 1) := by decide +kernel
theorem dX9_stepsBack_46 : decode cX9_stepsBack 46 = .ok (.aload_n 0, 1) := by decide +kernel
theorem dX9_stepsBack_47 : decode cX9_stepsBack 47 = .ok (.getfield 11, 3) := by decide +kernel
theorem dX9_stepsBack_50 : decode cX9_stepsBack 50 = .ok (.bipush 12, 2) := by decide +kernel
theorem dX9_stepsBack_52 : decode cX9_stepsBack 52 = .ok (.iload_n 3, 1) := by decide +kernel
theorem dX9_stepsBack_53 : decode cX9_stepsBack 53 = .ok (.iadd, 1) := by decide +kernel
theorem dX9_stepsBack_54 : decode cX9_stepsBack 54 = .ok (.iaload, 1) := by decide +kernel
theorem dX9_stepsBack_55 : decode cX9_stepsBack 55 = .ok (.iadd, 1) := by decide +kernel
theorem dX9_stepsBack_56 : decode cX9_stepsBack 56 = .ok (.iastore, 1) := by decide +kernel
theorem dX9_stepsBack_57 : decode cX9_stepsBack 57 = .ok (.iload_n 3, 1) := by decide +kernel
theorem dX9_stepsBack_58 : decode cX9_stepsBack 58 = .ok (.iconst (-1), 1) := by decide +kernel
theorem dX9_stepsBack_59 : decode cX9_stepsBack 59 = .ok (.if_icmp .ne 7, 3) := by decide +kernel
theorem dX9_stepsBack_62 : decode cX9_stepsBack 62 = .ok (.iconst (-1), 1) := by decide +kernel
theorem dX9_stepsBack_63 : decode cX9_stepsBack 63 = .ok (.goto 4, 3) := by decide +kernel
theorem dX9_stepsBack_66 : decode cX9_stepsBack 66 = .ok (.iload_n 2, 1) := by decide +kernel
theorem dX9_stepsBack_67 : decode cX9_stepsBack 67 = .ok (.ireturn, 1) := by decide +kernel
theorem dX9_keeps_0 : decode cX9_keeps 0 = .ok (.aload_n 0, 1) := by decide +kernel
theorem dX9_keeps_1 : decode cX9_keeps 1 = .ok (.getfield 70, 3) := by decide +kernel
theorem dX9_keeps_4 : decode cX9_keeps 4 = .ok (.bipush 12, 2) := by decide +kernel
theorem dX9_keeps_6 : decode cX9_keeps 6 = .ok (.if_icmp .ne 30, 3) := by decide +kernel
theorem dX9_keeps_9 : decode cX9_keeps 9 = .ok (.aload_n 0, 1) := by decide +kernel
theorem dX9_keeps_10 : decode cX9_keeps 10 = .ok (.getfield 18, 3) := by decide +kernel
theorem dX9_keeps_13 : decode cX9_keeps 13 = .ok (.bipush 15, 2) := by decide +kernel
theorem dX9_keeps_15 : decode cX9_keeps 15 = .ok (.aload_n 0, 1) := by decide +kernel
theorem dX9_keeps_16 : decode cX9_keeps 16 = .ok (.getfield 18, 3) := by decide +kernel
theorem dX9_keeps_19 : decode cX9_keeps 19 = .ok (.iconst 0, 1) := by decide +kernel
theorem dX9_keeps_20 : decode cX9_keeps 20 = .ok (.sipush 165, 3) := by decide +kernel
theorem dX9_keeps_23 : decode cX9_keeps 23 = .ok (.invokestatic 89, 3) := by decide +kernel
theorem dX9_keeps_26 : decode cX9_keeps 26 = .ok (.aload_n 0, 1) := by decide +kernel
theorem dX9_keeps_27 : decode cX9_keeps 27 = .ok (.dup, 1) := by decide +kernel
theorem dX9_keeps_28 : decode cX9_keeps 28 = .ok (.getfield 70, 3) := by decide +kernel
theorem dX9_keeps_31 : decode cX9_keeps 31 = .ok (.iconst 1, 1) := by decide +kernel
theorem dX9_keeps_32 : decode cX9_keeps 32 = .ok (.isub, 1) := by decide +kernel
theorem dX9_keeps_33 : decode cX9_keeps 33 = .ok (.putfield 70, 3) := by decide +kernel
theorem dX9_keeps_36 : decode cX9_keeps 36 = .ok (.aload_n 0, 1) := by decide +kernel
theorem dX9_keeps_37 : decode cX9_keeps 37 = .ok (.getfield 11, 3) := by decide +kernel
theorem dX9_keeps_40 : decode cX9_keeps 40 = .ok (.iconst 2, 1) := by decide +kernel
theorem dX9_keeps_41 : decode cX9_keeps 41 = .ok (.aload_n 0, 1) := by decide +kernel
theorem dX9_keeps_42 : decode cX9_keeps 42 = .ok (.getfield 18, 3) := by decide +kernel
theorem dX9_keeps_45 : decode cX9_keeps 45 = .ok (.bipush 15, 2) := by decide +kernel
theorem dX9_keeps_47 : decode cX9_keeps 47 = .ok (.aload_n 0, 1) := by decide +kernel
theorem dX9_keeps_48 : decode cX9_keeps 48 = .ok (.getfield 70, 3) := by decide +kernel
theorem dX9_keeps_51 : decode cX9_keeps 51 = .ok (.imul, 1) := by decide +kernel
theorem dX9_keeps_52 : decode cX9_keeps 52 = .ok (.bipush 15, 2) := by decide +kernel
theorem dX9_keeps_54 : decode cX9_keeps 54 = .ok (.invokestatic 89, 3) := by decide +kernel
theorem dX9_keeps_57 : decode cX9_keeps 57 = .ok (.aload_n 0, 1) := by decide +kernel
theorem dX9_keeps_58 : decode cX9_keeps 58 = .ok (.dup, 1) := by decide +kernel
theorem dX9_keeps_59 : decode cX9_keeps 59 = .ok (.getfield 70, 3) := by decide +kernel
theorem dX9_keeps_62 : decode cX9_keeps 62 = .ok (.iconst 1, 1) := by decide +kernel
theorem dX9_keeps_63 : decode cX9_keeps 63 = .ok (.iadd, 1) := by decide +kernel
theorem dX9_keeps_64 : decode cX9_keeps 64 = .ok (.putfield 70, 3) := by decide +kernel
theorem dX9_keeps_67 : decode cX9_keeps 67 = .ok (.return_, 1) := by decide +kernel
theorem dX9_undoes_0 : decode cX9_undoes 0 = .ok (.aload_n 0, 1) := by decide +kernel
theorem dX9_undoes_1 : decode cX9_undoes 1 = .ok (.dup, 1) := by decide +kernel
theorem dX9_undoes_2 : decode cX9_undoes 2 = .ok (.getfield 70, 3) := by decide +kernel
theorem dX9_undoes_5 : decode cX9_undoes 5 = .ok (.iconst 1, 1) := by decide +kernel
theorem dX9_undoes_6 : decode cX9_undoes 6 = .ok (.isub, 1) := by decide +kernel
theorem dX9_undoes_7 : decode cX9_undoes 7 = .ok (.putfield 70, 3) := by decide +kernel
theorem dX9_undoes_10 : decode cX9_undoes 10 = .ok (.aload_n 0, 1) := by decide +kernel
theorem dX9_undoes_11 : decode cX9_undoes 11 = .ok (.getfield 18, 3) := by decide +kernel
theorem dX9_undoes_14 : decode cX9_undoes 14 = .ok (.bipush 15, 2) := by decide +kernel
theorem dX9_undoes_16 : decode cX9_undoes 16 = .ok (.aload_n 0, 1) := by decide +kernel
theorem dX9_undoes_17 : decode cX9_undoes 17 = .ok (.getfield 70, 3) := by decide +kernel
theorem dX9_undoes_20 : decode cX9_undoes 20 = .ok (.imul, 1) := by decide +kernel
theorem dX9_undoes_21 : decode cX9_undoes 21 = .ok (.aload_n 0, 1) := by decide +kernel
theorem dX9_undoes_22 : decode cX9_undoes 22 = .ok (.getfield 11, 3) := by decide +kernel
theorem dX9_undoes_25 : decode cX9_undoes 25 = .ok (.iconst 2, 1) := by decide +kernel
theorem dX9_undoes_26 : decode cX9_undoes 26 = .ok (.bipush 15, 2) := by decide +kernel
theorem dX9_undoes_28 : decode cX9_undoes 28 = .ok (.invokestatic 89, 3) := by decide +kernel
theorem dX9_undoes_31 : decode cX9_undoes 31 = .ok (.return_, 1) := by decide +kernel
theorem dX9_letters_0 : decode cX9_letters 0 = .ok (.iload_n 1, 1) := by decide +kernel
theorem dX9_letters_1 : decode cX9_letters 1 = .ok (.i2l, 1) := by decide +kernel
theorem dX9_letters_2 : decode cX9_letters 2 = .ok (.ldc2_w 95, 3) := by decide +kernel
theorem dX9_letters_5 : decode cX9_letters 5 = .ok (.ldc2_w 97, 3) := by decide +kernel
theorem dX9_letters_8 : decode cX9_letters 8 = .ok (.invokestatic 66, 3) := by decide +kernel
theorem dX9_letters_11 : decode cX9_letters 11 = .ok (.ifCond .ne 6, 3) := by decide +kernel
theorem dX9_letters_14 : decode cX9_letters 14 = .ok (.bipush (-2), 2) := by decide +kernel
theorem dX9_letters_16 : decode cX9_letters 16 = .ok (.ireturn, 1) := by decide +kernel
theorem dX9_letters_17 : decode cX9_letters 17 = .ok (.aload_n 0, 1) := by decide +kernel
theorem dX9_letters_18 : decode cX9_letters 18 = .ok (.getfield 11, 3) := by decide +kernel
theorem dX9_letters_21 : decode cX9_letters 21 = .ok (.iconst 0, 1) := by decide +kernel
theorem dX9_letters_22 : decode cX9_letters 22 = .ok (.iaload, 1) := by decide +kernel
theorem dX9_letters_23 : decode cX9_letters 23 = .ok (.istore_n 2, 1) := by decide +kernel
theorem dX9_letters_24 : decode cX9_letters 24 = .ok (.aload_n 0, 1) := by decide +kernel
theorem dX9_letters_25 : decode cX9_letters 25 = .ok (.iload_n 1, 1) := by decide +kernel
theorem dX9_letters_26 : decode cX9_letters 26 = .ok (.invokevirtual 62, 3) := by decide +kernel
theorem dX9_letters_29 : decode cX9_letters 29 = .ok (.iload_n 2, 1) := by decide +kernel
theorem dX9_letters_30 : decode cX9_letters 30 = .ok (.ireturn, 1) := by decide +kernel
theorem dX9_isCode_0 : decode cX9_isCode 0 = .ok (.iload_n 1, 1) := by decide +kernel
theorem dX9_isCode_1 : decode cX9_isCode 1 = .ok (.istore_n 2, 1) := by decide +kernel
theorem dX9_isCode_2 : decode cX9_isCode 2 = .ok (.iconst 0, 1) := by decide +kernel
theorem dX9_isCode_3 : decode cX9_isCode 3 = .ok (.istore_n 3, 1) := by decide +kernel
theorem dX9_isCode_4 : decode cX9_isCode 4 = .ok (.aload_n 0, 1) := by decide +kernel
theorem dX9_isCode_5 : decode cX9_isCode 5 = .ok (.getfield 11, 3) := by decide +kernel
theorem dX9_isCode_8 : decode cX9_isCode 8 = .ok (.iconst 0, 1) := by decide +kernel
theorem dX9_isCode_9 : decode cX9_isCode 9 = .ok (.iaload, 1) := by decide +kernel
theorem dX9_isCode_10 : decode cX9_isCode 10 = .ok (.iconst 1, 1) := by decide +kernel
theorem dX9_isCode_11 : decode cX9_isCode 11 = .ok (.isub, 1) := by decide +kernel
theorem dX9_isCode_12 : decode cX9_isCode 12 = .ok (.istore 4, 2) := by decide +kernel
theorem dX9_isCode_14 : decode cX9_isCode 14 = .ok (.iload 4, 2) := by decide +kernel
theorem dX9_isCode_16 : decode cX9_isCode 16 = .ok (.ifCond .lt 55, 3) := by decide +kernel
theorem dX9_isCode_19 : decode cX9_isCode 19 = .ok (.aload_n 0, 1) := by decide +kernel
theorem dX9_isCode_20 : decode cX9_isCode 20 = .ok (.getfield 21, 3) := by decide +kernel
theorem dX9_isCode_23 : decode cX9_isCode 23 = .ok (.iload 4, 2) := by decide +kernel
theorem dX9_isCode_25 : decode cX9_isCode 25 = .ok (.iload_n 2, 1) := by decide +kernel
theorem dX9_isCode_26 : decode cX9_isCode 26 = .ok (.bipush 10, 2) := by decide +kernel
theorem dX9_isCode_28 : decode cX9_isCode 28 = .ok (.irem, 1) := by decide +kernel
theorem dX9_isCode_29 : decode cX9_isCode 29 = .ok (.iconst 1, 1) := by decide +kernel
theorem dX9_isCode_30 : decode cX9_isCode 30 = .ok (.isub, 1) := by decide +kernel
theorem dX9_isCode_31 : decode cX9_isCode 31 = .ok (.iastore, 1) := by decide +kernel
theorem dX9_isCode_32 : decode cX9_isCode 32 = .ok (.iload_n 2, 1) := by decide +kernel
theorem dX9_isCode_33 : decode cX9_isCode 33 = .ok (.bipush 10, 2) := by decide +kernel
theorem dX9_isCode_35 : decode cX9_isCode 35 = .ok (.idiv, 1) := by decide +kernel
theorem dX9_isCode_36 : decode cX9_isCode 36 = .ok (.istore_n 2, 1) := by decide +kernel
theorem dX9_isCode_37 : decode cX9_isCode 37 = .ok (.aload_n 0, 1) := by decide +kernel
theorem dX9_isCode_38 : decode cX9_isCode 38 = .ok (.aload_n 0, 1) := by decide +kernel
theorem dX9_isCode_39 : decode cX9_isCode 39 = .ok (.getfield 21, 3) := by decide +kernel
theorem dX9_isCode_42 : decode cX9_isCode 42 = .ok (.iload 4, 2) := by decide +kernel
theorem dX9_isCode_44 : decode cX9_isCode 44 = .ok (.iaload, 1) := by decide +kernel
theorem dX9_isCode_45 : decode cX9_isCode 45 = .ok (.invokevirtual 99, 3) := by decide +kernel
theorem dX9_isCode_48 : decode cX9_isCode 48 = .ok (.ifCond .ne 5, 3) := by decide +kernel
theorem dX9_isCode_51 : decode cX9_isCode 51 = .ok (.iconst 0, 1) := by decide +kernel
theorem dX9_isCode_52 : decode cX9_isCode 52 = .ok (.ireturn, 1) := by decide +kernel
theorem dX9_isCode_53 : decode cX9_isCode 53 = .ok (.iload_n 3, 1) := by decide +kernel
theorem dX9_isCode_54 : decode cX9_isCode 54 = .ok (.iconst 1, 1) := by decide +kernel
theorem dX9_isCode_55 : decode cX9_isCode 55 = .ok (.aload_n 0, 1) := by decide +kernel
theorem dX9_isCode_56 : decode cX9_isCode 56 = .ok (.getfield 21, 3) := by decide +kernel
theorem dX9_isCode_59 : decode cX9_isCode 59 = .ok (.iload 4, 2) := by decide +kernel
theorem dX9_isCode_61 : decode cX9_isCode 61 = .ok (.iaload, 1) := by decide +kernel
theorem dX9_isCode_62 : decode cX9_isCode 62 = .ok (.ishl, 1) := by decide +kernel
theorem dX9_isCode_63 : decode cX9_isCode 63 = .ok (.ior, 1) := by decide +kernel
theorem dX9_isCode_64 : decode cX9_isCode 64 = .ok (.istore_n 3, 1) := by decide +kernel
theorem dX9_isCode_65 : decode cX9_isCode 65 = .ok (.iinc 4 (-1), 3) := by decide +kernel
theorem dX9_isCode_68 : decode cX9_isCode 68 = .ok (.goto (-54), 3) := by decide +kernel
theorem dX9_isCode_71 : decode cX9_isCode 71 = .ok (.iload_n 2, 1) := by decide +kernel
theorem dX9_isCode_72 : decode cX9_isCode 72 = .ok (.ifCond .ne 25, 3) := by decide +kernel
theorem dX9_isCode_75 : decode cX9_isCode 75 = .ok (.iload_n 1, 1) := by decide +kernel
theorem dX9_isCode_76 : decode cX9_isCode 76 = .ok (.ifCond .le 21, 3) := by decide +kernel
theorem dX9_isCode_79 : decode cX9_isCode 79 = .ok (.iload_n 3, 1) := by decide +kernel
theorem dX9_isCode_80 : decode cX9_isCode 80 = .ok (.iconst 1, 1) := by decide +kernel
theorem dX9_isCode_81 : decode cX9_isCode 81 = .ok (.aload_n 0, 1) := by decide +kernel
theorem dX9_isCode_82 : decode cX9_isCode 82 = .ok (.getfield 11, 3) := by decide +kernel
theorem dX9_isCode_85 : decode cX9_isCode 85 = .ok (.iconst 0, 1) := by decide +kernel
theorem dX9_isCode_86 : decode cX9_isCode 86 = .ok (.iaload, 1) := by decide +kernel
theorem dX9_isCode_87 : decode cX9_isCode 87 = .ok (.ishl, 1) := by decide +kernel
theorem dX9_isCode_88 : decode cX9_isCode 88 = .ok (.iconst 1, 1) := by decide +kernel
theorem dX9_isCode_89 : decode cX9_isCode 89 = .ok (.isub, 1) := by decide +kernel
theorem dX9_isCode_90 : decode cX9_isCode 90 = .ok (.if_icmp .ne 7, 3) := by decide +kernel
theorem dX9_isCode_93 : decode cX9_isCode 93 = .ok (.iconst 1, 1) := by decide +kernel
theorem dX9_isCode_94 : decode cX9_isCode 94 = .ok (.goto 4, 3) := by decide +kernel
theorem dX9_isCode_97 : decode cX9_isCode 97 = .ok (.iconst 0, 1) := by decide +kernel
theorem dX9_isCode_98 : decode cX9_isCode 98 = .ok (.ireturn, 1) := by decide +kernel
theorem dX9_bottom_0 : decode cX9_bottom 0 = .ok (.aload_n 0, 1) := by decide +kernel
theorem dX9_bottom_1 : decode cX9_bottom 1 = .ok (.iload_n 1, 1) := by decide +kernel
theorem dX9_bottom_2 : decode cX9_bottom 2 = .ok (.invokevirtual 103, 3) := by decide +kernel
theorem dX9_bottom_5 : decode cX9_bottom 5 = .ok (.ifCond .ne 6, 3) := by decide +kernel
theorem dX9_bottom_8 : decode cX9_bottom 8 = .ok (.bipush (-2), 2) := by decide +kernel
theorem dX9_bottom_10 : decode cX9_bottom 10 = .ok (.ireturn, 1) := by decide +kernel
theorem dX9_bottom_11 : decode cX9_bottom 11 = .ok (.iconst 0, 1) := by decide +kernel
theorem dX9_bottom_12 : decode cX9_bottom 12 = .ok (.istore_n 2, 1) := by decide +kernel
theorem dX9_bottom_13 : decode cX9_bottom 13 = .ok (.iload_n 2, 1) := by decide +kernel
theorem dX9_bottom_14 : decode cX9_bottom 14 = .ok (.aload_n 0, 1) := by decide +kernel
theorem dX9_bottom_15 : decode cX9_bottom 15 = .ok (.getfield 11, 3) := by decide +kernel
theorem dX9_bottom_18 : decode cX9_bottom 18 = .ok (.iconst 0, 1) := by decide +kernel
theorem dX9_bottom_19 : decode cX9_bottom 19 = .ok (.iaload, 1) := by decide +kernel
theorem dX9_bottom_20 : decode cX9_bottom 20 = .ok (.if_icmp .ge 33, 3) := by decide +kernel
theorem dX9_bottom_23 : decode cX9_bottom 23 = .ok (.aload_n 0, 1) := by decide +kernel
theorem dX9_bottom_24 : decode cX9_bottom 24 = .ok (.getfield 11, 3) := by decide +kernel
theorem dX9_bottom_27 : decode cX9_bottom 27 = .ok (.iconst 2, 1) := by decide +kernel
theorem dX9_bottom_28 : decode cX9_bottom 28 = .ok (.iload_n 2, 1) := by decide +kernel
theorem dX9_bottom_29 : decode cX9_bottom 29 = .ok (.iadd, 1) := by decide +kernel
theorem dX9_bottom_30 : decode cX9_bottom 30 = .ok (.iload_n 2, 1) := by decide +kernel
theorem dX9_bottom_31 : decode cX9_bottom 31 = .ok (.iastore, 1) := by decide +kernel
theorem dX9_bottom_32 : decode cX9_bottom 32 = .ok (.aload_n 0, 1) := by decide +kernel
theorem dX9_bottom_33 : decode cX9_bottom 33 = .ok (.getfield 11, 3) := by decide +kernel
theorem dX9_bottom_36 : decode cX9_bottom 36 = .ok (.bipush 7, 2) := by decide +kernel
theorem dX9_bottom_38 : decode cX9_bottom 38 = .ok (.iload_n 2, 1) := by decide +kernel
theorem dX9_bottom_39 : decode cX9_bottom 39 = .ok (.iadd, 1) := by decide +kernel
theorem dX9_bottom_40 : decode cX9_bottom 40 = .ok (.aload_n 0, 1) := by decide +kernel
theorem dX9_bottom_41 : decode cX9_bottom 41 = .ok (.getfield 21, 3) := by decide +kernel
theorem dX9_bottom_44 : decode cX9_bottom 44 = .ok (.iload_n 2, 1) := by decide +kernel
theorem dX9_bottom_45 : decode cX9_bottom 45 = .ok (.iaload, 1) := by decide +kernel
theorem dX9_bottom_46 : decode cX9_bottom 46 = .ok (.iastore, 1) := by decide +kernel
theorem dX9_bottom_47 : decode cX9_bottom 47 = .ok (.iinc 2 1, 3) := by decide +kernel
theorem dX9_bottom_50 : decode cX9_bottom 50 = .ok (.goto (-37), 3) := by decide +kernel
theorem dX9_bottom_53 : decode cX9_bottom 53 = .ok (.aload_n 0, 1) := by decide +kernel
theorem dX9_bottom_54 : decode cX9_bottom 54 = .ok (.iconst 0, 1) := by decide +kernel
theorem dX9_bottom_55 : decode cX9_bottom 55 = .ok (.putfield 70, 3) := by decide +kernel
theorem dX9_bottom_58 : decode cX9_bottom 58 = .ok (.iconst 1, 1) := by decide +kernel
theorem dX9_bottom_59 : decode cX9_bottom 59 = .ok (.ireturn, 1) := by decide +kernel
theorem dX9_length_0 : decode cX9_length 0 = .ok (.aload_n 0, 1) := by decide +kernel
theorem dX9_length_1 : decode cX9_length 1 = .ok (.iload_n 1, 1) := by decide +kernel
theorem dX9_length_2 : decode cX9_length 2 = .ok (.invokevirtual 99, 3) := by decide +kernel
theorem dX9_length_5 : decode cX9_length 5 = .ok (.ifCond .ne 5, 3) := by decide +kernel
theorem dX9_length_8 : decode cX9_length 8 = .ok (.iconst (-1), 1) := by decide +kernel
theorem dX9_length_9 : decode cX9_length 9 = .ok (.ireturn, 1) := by decide +kernel
theorem dX9_length_10 : decode cX9_length 10 = .ok (.iload_n 2, 1) := by decide +kernel
theorem dX9_length_11 : decode cX9_length 11 = .ok (.i2l, 1) := by decide +kernel
theorem dX9_length_12 : decode cX9_length 12 = .ok (.lconst 1, 1) := by decide +kernel
theorem dX9_length_13 : decode cX9_length 13 = .ok (.ldc2_w 106, 3) := by decide +kernel
theorem dX9_length_16 : decode cX9_length 16 = .ok (.invokestatic 66, 3) := by decide +kernel
theorem dX9_length_19 : decode cX9_length 19 = .ok (.ifCond .ne 6, 3) := by decide +kernel
theorem dX9_length_22 : decode cX9_length 22 = .ok (.bipush (-2), 2) := by decide +kernel
theorem dX9_length_24 : decode cX9_length 24 = .ok (.ireturn, 1) := by decide +kernel
theorem dX9_length_25 : decode cX9_length 25 = .ok (.aload_n 0, 1) := by decide +kernel
theorem dX9_length_26 : decode cX9_length 26 = .ok (.invokevirtual 108, 3) := by decide +kernel
theorem dX9_length_29 : decode cX9_length 29 = .ok (.aload_n 0, 1) := by decide +kernel
theorem dX9_length_30 : decode cX9_length 30 = .ok (.getfield 11, 3) := by decide +kernel
theorem dX9_length_33 : decode cX9_length 33 = .ok (.bipush 12, 2) := by decide +kernel
theorem dX9_length_35 : decode cX9_length 35 = .ok (.iload_n 1, 1) := by decide +kernel
theorem dX9_length_36 : decode cX9_length 36 = .ok (.iadd, 1) := by decide +kernel
theorem dX9_length_37 : decode cX9_length 37 = .ok (.iaload, 1) := by decide +kernel
theorem dX9_length_38 : decode cX9_length 38 = .ok (.istore_n 3, 1) := by decide +kernel
theorem dX9_length_39 : decode cX9_length 39 = .ok (.aload_n 0, 1) := by decide +kernel
theorem dX9_length_40 : decode cX9_length 40 = .ok (.getfield 11, 3) := by decide +kernel
theorem dX9_length_43 : decode cX9_length 43 = .ok (.bipush 12, 2) := by decide +kernel
theorem dX9_length_45 : decode cX9_length 45 = .ok (.iload_n 1, 1) := by decide +kernel
theorem dX9_length_46 : decode cX9_length 46 = .ok (.iadd, 1) := by decide +kernel
theorem dX9_length_47 : decode cX9_length 47 = .ok (.iload_n 2, 1) := by decide +kernel
theorem dX9_length_48 : decode cX9_length 48 = .ok (.iastore, 1) := by decide +kernel
theorem dX9_length_49 : decode cX9_length 49 = .ok (.iload_n 3, 1) := by decide +kernel
theorem dX9_length_50 : decode cX9_length 50 = .ok (.ireturn, 1) := by decide +kernel
theorem dX9_swap_0 : decode cX9_swap 0 = .ok (.aload_n 0, 1) := by decide +kernel
theorem dX9_swap_1 : decode cX9_swap 1 = .ok (.iload_n 1, 1) := by decide +kernel
theorem dX9_swap_2 : decode cX9_swap 2 = .ok (.invokevirtual 99, 3) := by decide +kernel
theorem dX9_swap_5 : decode cX9_swap 5 = .ok (.ifCond .eq 16, 3) := by decide +kernel
theorem dX9_swap_8 : decode cX9_swap 8 = .ok (.aload_n 0, 1) := by decide +kernel
theorem dX9_swap_9 : decode cX9_swap 9 = .ok (.iload_n 2, 1) := by decide +kernel
theorem dX9_swap_10 : decode cX9_swap 10 = .ok (.invokevirtual 99, 3) := by decide +kernel
theorem dX9_swap_13 : decode cX9_swap 13 = .ok (.ifCond .eq 8, 3) := by decide +kernel
theorem dX9_swap_16 : decode cX9_swap 16 = .ok (.iload_n 1, 1) := by decide +kernel
theorem dX9_swap_17 : decode cX9_swap 17 = .ok (.iload_n 2, 1) := by decide +kernel
theorem dX9_swap_18 : decode cX9_swap 18 = .ok (.if_icmp .ne 5, 3) := by decide +kernel
theorem dX9_swap_21 : decode cX9_swap 21 = .ok (.iconst (-1), 1) := by decide +kernel
theorem dX9_swap_22 : decode cX9_swap 22 = .ok (.ireturn, 1) := by decide +kernel
theorem dX9_swap_23 : decode cX9_swap 23 = .ok (.aload_n 0, 1) := by decide +kernel
theorem dX9_swap_24 : decode cX9_swap 24 = .ok (.invokevirtual 108, 3) := by decide +kernel
theorem dX9_swap_27 : decode cX9_swap 27 = .ok (.aload_n 0, 1) := by decide +kernel
theorem dX9_swap_28 : decode cX9_swap 28 = .ok (.bipush 7, 2) := by decide +kernel
theorem dX9_swap_30 : decode cX9_swap 30 = .ok (.iload_n 1, 1) := by decide +kernel
theorem dX9_swap_31 : decode cX9_swap 31 = .ok (.invokevirtual 78, 3) := by decide +kernel
theorem dX9_swap_34 : decode cX9_swap 34 = .ok (.istore_n 3, 1) := by decide +kernel
theorem dX9_swap_35 : decode cX9_swap 35 = .ok (.aload_n 0, 1) := by decide +kernel
theorem dX9_swap_36 : decode cX9_swap 36 = .ok (.bipush 7, 2) := by decide +kernel
theorem dX9_swap_38 : decode cX9_swap 38 = .ok (.iload_n 2, 1) := by decide +kernel
theorem dX9_swap_39 : decode cX9_swap 39 = .ok (.invokevirtual 78, 3) := by decide +kernel
theorem dX9_swap_42 : decode cX9_swap 42 = .ok (.istore 4, 2) := by decide +kernel
theorem dX9_swap_44 : decode cX9_swap 44 = .ok (.aload_n 0, 1) := by decide +kernel
theorem dX9_swap_45 : decode cX9_swap 45 = .ok (.getfield 11, 3) := by decide +kernel
theorem dX9_swap_48 : decode cX9_swap 48 = .ok (.bipush 7, 2) := by decide +kernel
theorem dX9_swap_50 : decode cX9_swap 50 = .ok (.iload_n 3, 1) := by decide +kernel
theorem dX9_swap_51 : decode cX9_swap 51 = .ok (.iadd, 1) := by decide +kernel
theorem dX9_swap_52 : decode cX9_swap 52 = .ok (.iload_n 2, 1) := by decide +kernel
theorem dX9_swap_53 : decode cX9_swap 53 = .ok (.iastore, 1) := by decide +kernel
theorem dX9_swap_54 : decode cX9_swap 54 = .ok (.aload_n 0, 1) := by decide +kernel
theorem dX9_swap_55 : decode cX9_swap 55 = .ok (.getfield 11, 3) := by decide +kernel
theorem dX9_swap_58 : decode cX9_swap 58 = .ok (.bipush 7, 2) := by decide +kernel
theorem dX9_swap_60 : decode cX9_swap 60 = .ok (.iload 4, 2) := by decide +kernel
theorem dX9_swap_62 : decode cX9_swap 62 = .ok (.iadd, 1) := by decide +kernel
theorem dX9_swap_63 : decode cX9_swap 63 = .ok (.iload_n 1, 1) := by decide +kernel
theorem dX9_swap_64 : decode cX9_swap 64 = .ok (.iastore, 1) := by decide +kernel
theorem dX9_swap_65 : decode cX9_swap 65 = .ok (.iconst 1, 1) := by decide +kernel
theorem dX9_swap_66 : decode cX9_swap 66 = .ok (.ireturn, 1) := by decide +kernel
theorem dX9_step_0 : decode cX9_step 0 = .ok (.aload_n 0, 1) := by decide +kernel
theorem dX9_step_1 : decode cX9_step 1 = .ok (.invokevirtual 111, 3) := by decide +kernel
theorem dX9_step_4 : decode cX9_step 4 = .ok (.istore_n 1, 1) := by decide +kernel
theorem dX9_step_5 : decode cX9_step 5 = .ok (.iload_n 1, 1) := by decide +kernel
theorem dX9_step_6 : decode cX9_step 6 = .ok (.iconst (-1), 1) := by decide +kernel
theorem dX9_step_7 : decode cX9_step 7 = .ok (.if_icmp .ne 6, 3) := by decide +kernel
theorem dX9_step_10 : decode cX9_step 10 = .ok (.bipush (-3), 2) := by decide +kernel
theorem dX9_step_12 : decode cX9_step 12 = .ok (.ireturn, 1) := by decide +kernel
theorem dX9_step_13 : decode cX9_step 13 = .ok (.aload_n 0, 1) := by decide +kernel
theorem dX9_step_14 : decode cX9_step 14 = .ok (.invokevirtual 108, 3) := by decide +kernel
theorem dX9_step_17 : decode cX9_step 17 = .ok (.aload_n 0, 1) := by decide +kernel
theorem dX9_step_18 : decode cX9_step 18 = .ok (.iload_n 1, 1) := by decide +kernel
theorem dX9_step_19 : decode cX9_step 19 = .ok (.invokevirtual 115, 3) := by decide +kernel
theorem dX9_step_22 : decode cX9_step 22 = .ok (.iload_n 1, 1) := by decide +kernel
theorem dX9_step_23 : decode cX9_step 23 = .ok (.ireturn, 1) := by decide +kernel
theorem dX9_back_0 : decode cX9_back 0 = .ok (.iload_n 1, 1) := by decide +kernel
theorem dX9_back_1 : decode cX9_back 1 = .ok (.i2l, 1) := by decide +kernel
theorem dX9_back_2 : decode cX9_back 2 = .ok (.lconst 0, 1) := by decide +kernel
theorem dX9_back_3 : decode cX9_back 3 = .ok (.lconst 1, 1) := by decide +kernel
theorem dX9_back_4 : decode cX9_back 4 = .ok (.invokestatic 66, 3) := by decide +kernel
theorem dX9_back_7 : decode cX9_back 7 = .ok (.ifCond .ne 5, 3) := by decide +kernel
theorem dX9_back_10 : decode cX9_back 10 = .ok (.iconst (-1), 1) := by decide +kernel
theorem dX9_back_11 : decode cX9_back 11 = .ok (.ireturn, 1) := by decide +kernel
theorem dX9_back_12 : decode cX9_back 12 = .ok (.aload_n 0, 1) := by decide +kernel
theorem dX9_back_13 : decode cX9_back 13 = .ok (.iload_n 1, 1) := by decide +kernel
theorem dX9_back_14 : decode cX9_back 14 = .ok (.ifCond .ne 7, 3) := by decide +kernel
theorem dX9_back_17 : decode cX9_back 17 = .ok (.iconst 2, 1) := by decide +kernel
theorem dX9_back_18 : decode cX9_back 18 = .ok (.goto 5, 3) := by decide +kernel
theorem dX9_back_21 : decode cX9_back 21 = .ok (.bipush 7, 2) := by decide +kernel
theorem dX9_back_23 : decode cX9_back 23 = .ok (.invokevirtual 74, 3) := by decide +kernel
theorem dX9_back_26 : decode cX9_back 26 = .ok (.istore_n 2, 1) := by decide +kernel
theorem dX9_back_27 : decode cX9_back 27 = .ok (.iload_n 1, 1) := by decide +kernel
theorem dX9_back_28 : decode cX9_back 28 = .ok (.ifCond .ne 8, 3) := by decide +kernel
theorem dX9_back_31 : decode cX9_back 31 = .ok (.bipush 7, 2) := by decide +kernel
theorem dX9_back_33 : decode cX9_back 33 = .ok (.goto 4, 3) := by decide +kernel
theorem dX9_back_36 : decode cX9_back 36 = .ok (.iconst 2, 1) := by decide +kernel
theorem dX9_back_37 : decode cX9_back 37 = .ok (.istore_n 3, 1) := by decide +kernel
theorem dX9_back_38 : decode cX9_back 38 = .ok (.aload_n 0, 1) := by decide +kernel
theorem dX9_back_39 : decode cX9_back 39 = .ok (.iload_n 3, 1) := by decide +kernel
theorem dX9_back_40 : decode cX9_back 40 = .ok (.iload_n 2, 1) := by decide +kernel
theorem dX9_back_41 : decode cX9_back 41 = .ok (.invokevirtual 78, 3) := by decide +kernel
theorem dX9_back_44 : decode cX9_back 44 = .ok (.istore 4, 2) := by decide +kernel
theorem dX9_back_46 : decode cX9_back 46 = .ok (.iload 4, 2) := by decide +kernel
theorem dX9_back_48 : decode cX9_back 48 = .ok (.iconst 1, 1) := by decide +kernel
theorem dX9_back_49 : decode cX9_back 49 = .ok (.iadd, 1) := by decide +kernel
theorem dX9_back_50 : decode cX9_back 50 = .ok (.aload_n 0, 1) := by decide +kernel
theorem dX9_back_51 : decode cX9_back 51 = .ok (.getfield 11, 3) := by decide +kernel
theorem dX9_back_54 : decode cX9_back 54 = .ok (.iconst 0, 1) := by decide +kernel
theorem dX9_back_55 : decode cX9_back 55 = .ok (.iaload, 1) := by decide +kernel
theorem dX9_back_56 : decode cX9_back 56 = .ok (.if_icmp .ne 6, 3) := by decide +kernel
theorem dX9_back_59 : decode cX9_back 59 = .ok (.bipush (-3), 2) := by decide +kernel
theorem dX9_back_61 : decode cX9_back 61 = .ok (.ireturn, 1) := by decide +kernel
theorem dX9_back_62 : decode cX9_back 62 = .ok (.aload_n 0, 1) := by decide +kernel
theorem dX9_back_63 : decode cX9_back 63 = .ok (.getfield 11, 3) := by decide +kernel
theorem dX9_back_66 : decode cX9_back 66 = .ok (.bipush 12, 2) := by decide +kernel
theorem dX9_back_68 : decode cX9_back 68 = .ok (.iload_n 2, 1) := by decide +kernel
theorem dX9_back_69 : decode cX9_back 69 = .ok (.iadd, 1) := by decide +kernel
theorem dX9_back_70 : decode cX9_back 70 = .ok (.iaload, 1) := by decide +kernel
theorem dX9_back_71 : decode cX9_back 71 = .ok (.aload_n 0, 1) := by decide +kernel
theorem dX9_back_72 : decode cX9_back 72 = .ok (.getfield 11, 3) := by decide +kernel
theorem dX9_back_75 : decode cX9_back 75 = .ok (.bipush 12, 2) := by decide +kernel
theorem dX9_back_77 : decode cX9_back 77 = .ok (.aload_n 0, 1) := by decide +kernel
theorem dX9_back_78 : decode cX9_back 78 = .ok (.getfield 11, 3) := by decide +kernel
theorem dX9_back_81 : decode cX9_back 81 = .ok (.iload_n 3, 1) := by decide +kernel
theorem dX9_back_82 : decode cX9_back 82 = .ok (.iload 4, 2) := by decide +kernel
theorem dX9_back_84 : decode cX9_back 84 = .ok (.iadd, 1) := by decide +kernel
theorem dX9_back_85 : decode cX9_back 85 = .ok (.iconst 1, 1) := by decide +kernel
theorem dX9_back_86 : decode cX9_back 86 = .ok (.iadd, 1) := by decide +kernel
theorem dX9_back_87 : decode cX9_back 87 = .ok (.iaload, 1) := by decide +kernel
theorem dX9_back_88 : decode cX9_back 88 = .ok (.iadd, 1) := by decide +kernel
theorem dX9_back_89 : decode cX9_back 89 = .ok (.iaload, 1) := by decide +kernel
theorem dX9_back_90 : decode cX9_back 90 = .ok (.iadd, 1) := by decide +kernel
theorem dX9_back_91 : decode cX9_back 91 = .ok (.bipush 99, 2) := by decide +kernel
theorem dX9_back_93 : decode cX9_back 93 = .ok (.if_icmp .le 6, 3) := by decide +kernel
theorem dX9_back_96 : decode cX9_back 96 = .ok (.bipush (-2), 2) := by decide +kernel
theorem dX9_back_98 : decode cX9_back 98 = .ok (.ireturn, 1) := by decide +kernel
theorem dX9_back_99 : decode cX9_back 99 = .ok (.aload_n 0, 1) := by decide +kernel
theorem dX9_back_100 : decode cX9_back 100 = .ok (.invokevirtual 108, 3) := by decide +kernel
theorem dX9_back_103 : decode cX9_back 103 = .ok (.aload_n 0, 1) := by decide +kernel
theorem dX9_back_104 : decode cX9_back 104 = .ok (.iload_n 1, 1) := by decide +kernel
theorem dX9_back_105 : decode cX9_back 105 = .ok (.invokevirtual 118, 3) := by decide +kernel
theorem dX9_back_108 : decode cX9_back 108 = .ok (.istore 5, 2) := by decide +kernel
theorem dX9_back_110 : decode cX9_back 110 = .ok (.aload_n 0, 1) := by decide +kernel
theorem dX9_back_111 : decode cX9_back 111 = .ok (.invokevirtual 121, 3) := by decide +kernel
theorem dX9_back_114 : decode cX9_back 114 = .ok (.ireturn, 1) := by decide +kernel
theorem dX9_takeBack_0 : decode cX9_takeBack 0 = .ok (.aload_n 0, 1) := by decide +kernel
theorem dX9_takeBack_1 : decode cX9_takeBack 1 = .ok (.getfield 70, 3) := by decide +kernel
theorem dX9_takeBack_4 : decode cX9_takeBack 4 = .ok (.ifCond .ne 6, 3) := by decide +kernel
theorem dX9_takeBack_7 : decode cX9_takeBack 7 = .ok (.bipush (-3), 2) := by decide +kernel
theorem dX9_takeBack_9 : decode cX9_takeBack 9 = .ok (.ireturn, 1) := by decide +kernel
theorem dX9_takeBack_10 : decode cX9_takeBack 10 = .ok (.aload_n 0, 1) := by decide +kernel
theorem dX9_takeBack_11 : decode cX9_takeBack 11 = .ok (.invokevirtual 124, 3) := by decide +kernel
theorem dX9_takeBack_14 : decode cX9_takeBack 14 = .ok (.aload_n 0, 1) := by decide +kernel
theorem dX9_takeBack_15 : decode cX9_takeBack 15 = .ok (.getfield 70, 3) := by decide +kernel
theorem dX9_takeBack_18 : decode cX9_takeBack 18 = .ok (.ireturn, 1) := by decide +kernel
theorem dX9_keep_0 : decode cX9_keep 0 = .ok (.aload_n 0, 1) := by decide +kernel
theorem dX9_keep_1 : decode cX9_keep 1 = .ok (.getfield 11, 3) := by decide +kernel
theorem dX9_keep_4 : decode cX9_keep 4 = .ok (.iconst 1, 1) := by decide +kernel
theorem dX9_keep_5 : decode cX9_keep 5 = .ok (.aload_n 0, 1) := by decide +kernel
theorem dX9_keep_6 : decode cX9_keep 6 = .ok (.invokevirtual 127, 3) := by decide +kernel
theorem dX9_keep_9 : decode cX9_keep 9 = .ok (.iastore, 1) := by decide +kernel
theorem dX9_keep_10 : decode cX9_keep 10 = .ok (.aload_n 0, 1) := by decide +kernel
theorem dX9_keep_11 : decode cX9_keep 11 = .ok (.getfield 11, 3) := by decide +kernel
theorem dX9_keep_14 : decode cX9_keep 14 = .ok (.iconst 1, 1) := by decide +kernel
theorem dX9_keep_15 : decode cX9_keep 15 = .ok (.iaload, 1) := by decide +kernel
theorem dX9_keep_16 : decode cX9_keep 16 = .ok (.ireturn, 1) := by decide +kernel
theorem dX9_feed_0 : decode cX9_feed 0 = .ok (.iload_n 1, 1) := by decide +kernel
theorem dX9_feed_1 : decode cX9_feed 1 = .ok (.i2l, 1) := by decide +kernel
theorem dX9_feed_2 : decode cX9_feed 2 = .ok (.lconst 0, 1) := by decide +kernel
theorem dX9_feed_3 : decode cX9_feed 3 = .ok (.ldc2_w 130, 3) := by decide +kernel
theorem dX9_feed_6 : decode cX9_feed 6 = .ok (.invokestatic 66, 3) := by decide +kernel
theorem dX9_feed_9 : decode cX9_feed 9 = .ok (.ifCond .ne 6, 3) := by decide +kernel
theorem dX9_feed_12 : decode cX9_feed 12 = .ok (.bipush (-2), 2) := by decide +kernel
theorem dX9_feed_14 : decode cX9_feed 14 = .ok (.ireturn, 1) := by decide +kernel
theorem dX9_feed_15 : decode cX9_feed 15 = .ok (.aload_n 0, 1) := by decide +kernel
theorem dX9_feed_16 : decode cX9_feed 16 = .ok (.getfield 132, 3) := by decide +kernel
theorem dX9_feed_19 : decode cX9_feed 19 = .ok (.bipush 100, 2) := by decide +kernel
theorem dX9_feed_21 : decode cX9_feed 21 = .ok (.if_icmp .ne 6, 3) := by decide +kernel
theorem dX9_feed_24 : decode cX9_feed 24 = .ok (.bipush (-4), 2) := by decide +kernel
theorem dX9_feed_26 : decode cX9_feed 26 = .ok (.ireturn, 1) := by decide +kernel
theorem dX9_feed_27 : decode cX9_feed 27 = .ok (.aload_n 0, 1) := by decide +kernel
theorem dX9_feed_28 : decode cX9_feed 28 = .ok (.getfield 24, 3) := by decide +kernel
theorem dX9_feed_31 : decode cX9_feed 31 = .ok (.aload_n 0, 1) := by decide +kernel
theorem dX9_feed_32 : decode cX9_feed 32 = .ok (.getfield 132, 3) := by decide +kernel
theorem dX9_feed_35 : decode cX9_feed 35 = .ok (.iload_n 1, 1) := by decide +kernel
theorem dX9_feed_36 : decode cX9_feed 36 = .ok (.iastore, 1) := by decide +kernel
theorem dX9_feed_37 : decode cX9_feed 37 = .ok (.aload_n 0, 1) := by decide +kernel
theorem dX9_feed_38 : decode cX9_feed 38 = .ok (.dup, 1) := by decide +kernel
theorem dX9_feed_39 : decode cX9_feed 39 = .ok (.getfield 132, 3) := by decide +kernel
theorem dX9_feed_42 : decode cX9_feed 42 = .ok (.iconst 1, 1) := by decide +kernel
theorem dX9_feed_43 : decode cX9_feed 43 = .ok (.iadd, 1) := by decide +kernel
theorem dX9_feed_44 : decode cX9_feed 44 = .ok (.putfield 132, 3) := by decide +kernel
theorem dX9_feed_47 : decode cX9_feed 47 = .ok (.aload_n 0, 1) := by decide +kernel
theorem dX9_feed_48 : decode cX9_feed 48 = .ok (.getfield 132, 3) := by decide +kernel
theorem dX9_feed_51 : decode cX9_feed 51 = .ok (.ireturn, 1) := by decide +kernel
theorem dX9_isDigit_0 : decode cX9_isDigit 0 = .ok (.aload_n 0, 1) := by decide +kernel
theorem dX9_isDigit_1 : decode cX9_isDigit 1 = .ok (.getfield 135, 3) := by decide +kernel
theorem dX9_isDigit_4 : decode cX9_isDigit 4 = .ok (.aload_n 0, 1) := by decide +kernel
theorem dX9_isDigit_5 : decode cX9_isDigit 5 = .ok (.getfield 132, 3) := by decide +kernel
theorem dX9_isDigit_8 : decode cX9_isDigit 8 = .ok (.if_icmp .ge 29, 3) := by decide +kernel
theorem dX9_isDigit_11 : decode cX9_isDigit 11 = .ok (.aload_n 0, 1) := by decide +kernel
theorem dX9_isDigit_12 : decode cX9_isDigit 12 = .ok (.getfield 24, 3) := by decide +kernel
theorem dX9_isDigit_15 : decode cX9_isDigit 15 = .ok (.aload_n 0, 1) := by decide +kernel
theorem dX9_isDigit_16 : decode cX9_isDigit 16 = .ok (.getfield 135, 3) := by decide +kernel
theorem dX9_isDigit_19 : decode cX9_isDigit 19 = .ok (.iaload, 1) := by decide +kernel
theorem dX9_isDigit_20 : decode cX9_isDigit 20 = .ok (.i2l, 1) := by decide +kernel
theorem dX9_isDigit_21 : decode cX9_isDigit 21 = .ok (.ldc2_w 138, 3) := by decide +kernel
theorem dX9_isDigit_24 : decode cX9_isDigit 24 = .ok (.ldc2_w 140, 3) := by decide +kernel
theorem dX9_isDigit_27 : decode cX9_isDigit 27 = .ok (.invokestatic 66, 3) := by decide +kernel
theorem dX9_isDigit_30 : decode cX9_isDigit 30 = .ok (.ifCond .eq 7, 3) := by decide +kernel
theorem dX9_isDigit_33 : decode cX9_isDigit 33 = .ok (.iconst 1, 1) := by decide +kernel
theorem dX9_isDigit_34 : decode cX9_isDigit 34 = .ok (.goto 4, 3) := by decide +kernel
theorem dX9_isDigit_37 : decode cX9_isDigit 37 = .ok (.iconst 0, 1) := by decide +kernel
theorem dX9_isDigit_38 : decode cX9_isDigit 38 = .ok (.ireturn, 1) := by decide +kernel
theorem dX9_digitsTold_0 : decode cX9_digitsTold 0 = .ok (.aload_n 0, 1) := by decide +kernel
theorem dX9_digitsTold_1 : decode cX9_digitsTold 1 = .ok (.getfield 135, 3) := by decide +kernel
theorem dX9_digitsTold_4 : decode cX9_digitsTold 4 = .ok (.istore_n 2, 1) := by decide +kernel
theorem dX9_digitsTold_5 : decode cX9_digitsTold 5 = .ok (.iconst 0, 1) := by decide +kernel
theorem dX9_digitsTold_6 : decode cX9_digitsTold 6 = .ok (.istore_n 3, 1) := by decide +kernel
theorem dX9_digitsTold_7 : decode cX9_digitsTold 7 = .ok (.aload_n 0, 1) := by decide +kernel
theorem dX9_digitsTold_8 : decode cX9_digitsTold 8 = .ok (.invokevirtual 142, 3) := by decide +kernel
theorem dX9_digitsTold_11 : decode cX9_digitsTold 11 = .ok (.ifCond .eq 44, 3) := by decide +kernel
theorem dX9_digitsTold_14 : decode cX9_digitsTold 14 = .ok (.aload_n 0, 1) := by decide +kernel
theorem dX9_digitsTold_15 : decode cX9_digitsTold 15 = .ok (.getfield 135, 3) := by decide +kernel
theorem dX9_digitsTold_18 : decode cX9_digitsTold 18 = .ok (.iload_n 2, 1) := by decide +kernel
theorem dX9_digitsTold_19 : decode cX9_digitsTold 19 = .ok (.iload_n 1, 1) := by decide +kernel
theorem dX9_digitsTold_20 : decode cX9_digitsTold 20 = .ok (.iadd, 1) := by decide +kernel
theorem dX9_digitsTold_21 : decode cX9_digitsTold 21 = .ok (.if_icmp .ge 34, 3) := by decide +kernel
theorem dX9_digitsTold_24 : decode cX9_digitsTold 24 = .ok (.bipush 10, 2) := by decide +kernel
theorem dX9_digitsTold_26 : decode cX9_digitsTold 26 = .ok (.iload_n 3, 1) := by decide +kernel
theorem dX9_digitsTold_27 : decode cX9_digitsTold 27 = .ok (.imul, 1) := by decide +kernel
theorem dX9_digitsTold_28 : decode cX9_digitsTold 28 = .ok (.aload_n 0, 1) := by decide +kernel
theorem dX9_digitsTold_29 : decode cX9_digitsTold 29 = .ok (.getfield 24, 3) := by decide +kernel
theorem dX9_digitsTold_32 : decode cX9_digitsTold 32 = .ok (.aload_n 0, 1) := by decide +kernel
theorem dX9_digitsTold_33 : decode cX9_digitsTold 33 = .ok (.getfield 135, 3) := by decide +kernel
theorem dX9_digitsTold_36 : decode cX9_digitsTold 36 = .ok (.iaload, 1) := by decide +kernel
theorem dX9_digitsTold_37 : decode cX9_digitsTold 37 = .ok (.iadd, 1) := by decide +kernel
theorem dX9_digitsTold_38 : decode cX9_digitsTold 38 = .ok (.bipush 48, 2) := by decide +kernel
theorem dX9_digitsTold_40 : decode cX9_digitsTold 40 = .ok (.isub, 1) := by decide +kernel
theorem dX9_digitsTold_41 : decode cX9_digitsTold 41 = .ok (.istore_n 3, 1) := by decide +kernel
theorem dX9_digitsTold_42 : decode cX9_digitsTold 42 = .ok (.aload_n 0, 1) := by decide +kernel
theorem dX9_digitsTold_43 : decode cX9_digitsTold 43 = .ok (.dup, 1) := by decide +kernel
theorem dX9_digitsTold_44 : decode cX9_digitsTold 44 = .ok (.getfield 135, 3) := by decide +kernel
theorem dX9_digitsTold_47 : decode cX9_digitsTold 47 = .ok (.iconst 1, 1) := by decide +kernel
theorem dX9_digitsTold_48 : decode cX9_digitsTold 48 = .ok (.iadd, 1) := by decide +kernel
theorem dX9_digitsTold_49 : decode cX9_digitsTold 49 = .ok (.putfield 135, 3) := by decide +kernel
theorem dX9_digitsTold_52 : decode cX9_digitsTold 52 = .ok (.goto (-45), 3) := by decide +kernel
theorem dX9_digitsTold_55 : decode cX9_digitsTold 55 = .ok (.aload_n 0, 1) := by decide +kernel
theorem dX9_digitsTold_56 : decode cX9_digitsTold 56 = .ok (.getfield 135, 3) := by decide +kernel
theorem dX9_digitsTold_59 : decode cX9_digitsTold 59 = .ok (.iload_n 2, 1) := by decide +kernel
theorem dX9_digitsTold_60 : decode cX9_digitsTold 60 = .ok (.if_icmp .ne 18, 3) := by decide +kernel
theorem dX9_digitsTold_63 : decode cX9_digitsTold 63 = .ok (.aload_n 0, 1) := by decide +kernel
theorem dX9_digitsTold_64 : decode cX9_digitsTold 64 = .ok (.getfield 146, 3) := by decide +kernel
theorem dX9_digitsTold_67 : decode cX9_digitsTold 67 = .ok (.ifCond .ge 11, 3) := by decide +kernel
theorem dX9_digitsTold_70 : decode cX9_digitsTold 70 = .ok (.aload_n 0, 1) := by decide +kernel
theorem dX9_digitsTold_71 : decode cX9_digitsTold 71 = .ok (.aload_n 0, 1) := by decide +kernel
theorem dX9_digitsTold_72 : decode cX9_digitsTold 72 = .ok (.getfield 135, 3) := by decide +kernel
theorem dX9_digitsTold_75 : decode cX9_digitsTold 75 = .ok (.putfield 146, 3) := by decide +kernel
theorem dX9_digitsTold_78 : decode cX9_digitsTold 78 = .ok (.iload_n 3, 1) := by decide +kernel
theorem dX9_digitsTold_79 : decode cX9_digitsTold 79 = .ok (.ireturn, 1) := by decide +kernel
theorem dX9_clause_0 : decode cX9_clause 0 = .ok (.aload_n 0, 1) := by decide +kernel
theorem dX9_clause_1 : decode cX9_clause 1 = .ok (.getfield 135, 3) := by decide +kernel
theorem dX9_clause_4 : decode cX9_clause 4 = .ok (.aload_n 0, 1) := by decide +kernel
theorem dX9_clause_5 : decode cX9_clause 5 = .ok (.getfield 132, 3) := by decide +kernel
theorem dX9_clause_8 : decode cX9_clause 8 = .ok (.if_icmp .ge 15, 3) := by decide +kernel
theorem dX9_clause_11 : decode cX9_clause 11 = .ok (.aload_n 0, 1) := by decide +kernel
theorem dX9_clause_12 : decode cX9_clause 12 = .ok (.getfield 24, 3) := by decide +kernel
theorem dX9_clause_15 : decode cX9_clause 15 = .ok (.aload_n 0, 1) := by decide +kernel
theorem dX9_clause_16 : decode cX9_clause 16 = .ok (.getfield 135, 3) := by decide +kernel
theorem dX9_clause_19 : decode cX9_clause 19 = .ok (.iaload, 1) := by decide +kernel
theorem dX9_clause_20 : decode cX9_clause 20 = .ok (.goto 4, 3) := by decide +kernel
theorem dX9_clause_23 : decode cX9_clause 23 = .ok (.iconst (-1), 1) := by decide +kernel
theorem dX9_clause_24 : decode cX9_clause 24 = .ok (.istore_n 1, 1) := by decide +kernel
theorem dX9_clause_25 : decode cX9_clause 25 = .ok (.iload_n 1, 1) := by decide +kernel
theorem dX9_clause_26 : decode cX9_clause 26 = .ok (.tableswitch 255 98 119 #[115, 255, 255, 255, 255, 255, 255, 255, 255, 102, 163, 255, 115, 255, 255, 255, 139, 102, 255, 102, 255, 209], 102) := by decide +kernel
theorem dX9_clause_128 : decode cX9_clause 128 = .ok (.aload_n 0, 1) := by decide +kernel
theorem dX9_clause_129 : decode cX9_clause 129 = .ok (.dup, 1) := by decide +kernel
theorem dX9_clause_130 : decode cX9_clause 130 = .ok (.getfield 135, 3) := by decide +kernel
theorem dX9_clause_133 : decode cX9_clause 133 = .ok (.iconst 1, 1) := by decide +kernel
theorem dX9_clause_134 : decode cX9_clause 134 = .ok (.iadd, 1) := by decide +kernel
theorem dX9_clause_135 : decode cX9_clause 135 = .ok (.putfield 135, 3) := by decide +kernel
theorem dX9_clause_138 : decode cX9_clause 138 = .ok (.goto 151, 3) := by decide +kernel
theorem dX9_clause_141 : decode cX9_clause 141 = .ok (.aload_n 0, 1) := by decide +kernel
theorem dX9_clause_142 : decode cX9_clause 142 = .ok (.dup, 1) := by decide +kernel
theorem dX9_clause_143 : decode cX9_clause 143 = .ok (.getfield 135, 3) := by decide +kernel
theorem dX9_clause_146 : decode cX9_clause 146 = .ok (.iconst 1, 1) := by decide +kernel
theorem dX9_clause_147 : decode cX9_clause 147 = .ok (.iadd, 1) := by decide +kernel
theorem dX9_clause_148 : decode cX9_clause 148 = .ok (.putfield 135, 3) := by decide +kernel
theorem dX9_clause_151 : decode cX9_clause 151 = .ok (.aload_n 0, 1) := by decide +kernel
theorem dX9_clause_152 : decode cX9_clause 152 = .ok (.getfield 27, 3) := by decide +kernel
theorem dX9_clause_155 : decode cX9_clause 155 = .ok (.iconst 0, 1) := by decide +kernel
theorem dX9_clause_156 : decode cX9_clause 156 = .ok (.aload_n 0, 1) := by decide +kernel
theorem dX9_clause_157 : decode cX9_clause 157 = .ok (.iconst 1, 1) := by decide +kernel
theorem dX9_clause_158 : decode cX9_clause 158 = .ok (.invokevirtual 149, 3) := by decide +kernel
theorem dX9_clause_161 : decode cX9_clause 161 = .ok (.iastore, 1) := by decide +kernel
theorem dX9_clause_162 : decode cX9_clause 162 = .ok (.goto 127, 3) := by decide +kernel
theorem dX9_clause_165 : decode cX9_clause 165 = .ok (.aload_n 0, 1) := by decide +kernel
theorem dX9_clause_166 : decode cX9_clause 166 = .ok (.dup, 1) := by decide +kernel
theorem dX9_clause_167 : decode cX9_clause 167 = .ok (.getfield 135, 3) := by decide +kernel
theorem dX9_clause_170 : decode cX9_clause 170 = .ok (.iconst 1, 1) := by decide +kernel
theorem dX9_clause_171 : decode cX9_clause 171 = .ok (.iadd, 1) := by decide +kernel
theorem dX9_clause_172 : decode cX9_clause 172 = .ok (.putfield 135, 3) := by decide +kernel
theorem dX9_clause_175 : decode cX9_clause 175 = .ok (.aload_n 0, 1) := by decide +kernel
theorem dX9_clause_176 : decode cX9_clause 176 = .ok (.getfield 27, 3) := by decide +kernel
theorem dX9_clause_179 : decode cX9_clause 179 = .ok (.iconst 0, 1) := by decide +kernel
theorem dX9_clause_180 : decode cX9_clause 180 = .ok (.aload_n 0, 1) := by decide +kernel
theorem dX9_clause_181 : decode cX9_clause 181 = .ok (.iconst 5, 1) := by decide +kernel
theorem dX9_clause_182 : decode cX9_clause 182 = .ok (.invokevirtual 149, 3) := by decide +kernel
theorem dX9_clause_185 : decode cX9_clause 185 = .ok (.iastore, 1) := by decide +kernel
theorem dX9_clause_186 : decode cX9_clause 186 = .ok (.goto 103, 3) := by decide +kernel
theorem dX9_clause_189 : decode cX9_clause 189 = .ok (.aload_n 0, 1) := by decide +kernel
theorem dX9_clause_190 : decode cX9_clause 190 = .ok (.dup, 1) := by decide +kernel
theorem dX9_clause_191 : decode cX9_clause 191 = .ok (.getfield 135, 3) := by decide +kernel
theorem dX9_clause_194 : decode cX9_clause 194 = .ok (.iconst 1, 1) := by decide +kernel
theorem dX9_clause_195 : decode cX9_clause 195 = .ok (.iadd, 1) := by decide +kernel
theorem dX9_clause_196 : decode cX9_clause 196 = .ok (.putfield 135, 3) := by decide +kernel
theorem dX9_clause_199 : decode cX9_clause 199 = .ok (.aload_n 0, 1) := by decide +kernel
theorem dX9_clause_200 : decode cX9_clause 200 = .ok (.getfield 27, 3) := by decide +kernel
theorem dX9_clause_203 : decode cX9_clause 203 = .ok (.iconst 0, 1) := by decide +kernel
theorem dX9_clause_204 : decode cX9_clause 204 = .ok (.aload_n 0, 1) := by decide +kernel
theorem dX9_clause_205 : decode cX9_clause 205 = .ok (.iconst 1, 1) := by decide +kernel
theorem dX9_clause_206 : decode cX9_clause 206 = .ok (.invokevirtual 149, 3) := by decide +kernel
theorem dX9_clause_209 : decode cX9_clause 209 = .ok (.iastore, 1) := by decide +kernel
theorem dX9_clause_210 : decode cX9_clause 210 = .ok (.aload_n 0, 1) := by decide +kernel
theorem dX9_clause_211 : decode cX9_clause 211 = .ok (.getfield 27, 3) := by decide +kernel
theorem dX9_clause_214 : decode cX9_clause 214 = .ok (.iconst 1, 1) := by decide +kernel
theorem dX9_clause_215 : decode cX9_clause 215 = .ok (.aload_n 0, 1) := by decide +kernel
theorem dX9_clause_216 : decode cX9_clause 216 = .ok (.getfield 146, 3) := by decide +kernel
theorem dX9_clause_219 : decode cX9_clause 219 = .ok (.ifCond .ge 11, 3) := by decide +kernel
theorem dX9_clause_222 : decode cX9_clause 222 = .ok (.aload_n 0, 1) := by decide +kernel
theorem dX9_clause_223 : decode cX9_clause 223 = .ok (.iconst 3, 1) := by decide +kernel
theorem dX9_clause_224 : decode cX9_clause 224 = .ok (.invokevirtual 149, 3) := by decide +kernel
theorem dX9_clause_227 : decode cX9_clause 227 = .ok (.goto 4, 3) := by decide +kernel
theorem dX9_clause_230 : decode cX9_clause 230 = .ok (.iconst 0, 1) := by decide +kernel
theorem dX9_clause_231 : decode cX9_clause 231 = .ok (.iastore, 1) := by decide +kernel
theorem dX9_clause_232 : decode cX9_clause 232 = .ok (.goto 57, 3) := by decide +kernel
theorem dX9_clause_235 : decode cX9_clause 235 = .ok (.aload_n 0, 1) := by decide +kernel
theorem dX9_clause_236 : decode cX9_clause 236 = .ok (.dup, 1) := by decide +kernel
theorem dX9_clause_237 : decode cX9_clause 237 = .ok (.getfield 135, 3) := by decide +kernel
theorem dX9_clause_240 : decode cX9_clause 240 = .ok (.iconst 1, 1) := by decide +kernel
theorem dX9_clause_241 : decode cX9_clause 241 = .ok (.iadd, 1) := by decide +kernel
theorem dX9_clause_242 : decode cX9_clause 242 = .ok (.putfield 135, 3) := by decide +kernel
theorem dX9_clause_245 : decode cX9_clause 245 = .ok (.aload_n 0, 1) := by decide +kernel
theorem dX9_clause_246 : decode cX9_clause 246 = .ok (.getfield 27, 3) := by decide +kernel
theorem dX9_clause_249 : decode cX9_clause 249 = .ok (.iconst 0, 1) := by decide +kernel
theorem dX9_clause_250 : decode cX9_clause 250 = .ok (.aload_n 0, 1) := by decide +kernel
theorem dX9_clause_251 : decode cX9_clause 251 = .ok (.iconst 1, 1) := by decide +kernel
theorem dX9_clause_252 : decode cX9_clause 252 = .ok (.invokevirtual 149, 3) := by decide +kernel
theorem dX9_clause_255 : decode cX9_clause 255 = .ok (.iastore, 1) := by decide +kernel
theorem dX9_clause_256 : decode cX9_clause 256 = .ok (.aload_n 0, 1) := by decide +kernel
theorem dX9_clause_257 : decode cX9_clause 257 = .ok (.getfield 27, 3) := by decide +kernel
theorem dX9_clause_260 : decode cX9_clause 260 = .ok (.iconst 1, 1) := by decide +kernel
theorem dX9_clause_261 : decode cX9_clause 261 = .ok (.aload_n 0, 1) := by decide +kernel
theorem dX9_clause_262 : decode cX9_clause 262 = .ok (.getfield 146, 3) := by decide +kernel
theorem dX9_clause_265 : decode cX9_clause 265 = .ok (.ifCond .ge 11, 3) := by decide +kernel
theorem dX9_clause_268 : decode cX9_clause 268 = .ok (.aload_n 0, 1) := by decide +kernel
theorem dX9_clause_269 : decode cX9_clause 269 = .ok (.iconst 1, 1) := by decide +kernel
theorem dX9_clause_270 : decode cX9_clause 270 = .ok (.invokevirtual 149, 3) := by decide +kernel
theorem dX9_clause_273 : decode cX9_clause 273 = .ok (.goto 4, 3) := by decide +kernel
theorem dX9_clause_276 : decode cX9_clause 276 = .ok (.iconst 0, 1) := by decide +kernel
theorem dX9_clause_277 : decode cX9_clause 277 = .ok (.iastore, 1) := by decide +kernel
theorem dX9_clause_278 : decode cX9_clause 278 = .ok (.goto 11, 3) := by decide +kernel
theorem dX9_clause_281 : decode cX9_clause 281 = .ok (.aload_n 0, 1) := by decide +kernel
theorem dX9_clause_282 : decode cX9_clause 282 = .ok (.aload_n 0, 1) := by decide +kernel
theorem dX9_clause_283 : decode cX9_clause 283 = .ok (.getfield 135, 3) := by decide +kernel
theorem dX9_clause_286 : decode cX9_clause 286 = .ok (.putfield 146, 3) := by decide +kernel
theorem dX9_clause_289 : decode cX9_clause 289 = .ok (.iload_n 1, 1) := by decide +kernel
theorem dX9_clause_290 : decode cX9_clause 290 = .ok (.ireturn, 1) := by decide +kernel
theorem dX9_does_0 : decode cX9_does 0 = .ok (.iload_n 1, 1) := by decide +kernel
theorem dX9_does_1 : decode cX9_does 1 = .ok (.tableswitch 216 98 117 #[153, 216, 216, 216, 216, 216, 216, 216, 216, 108, 191, 216, 134, 216, 216, 216, 172, 95, 216, 121], 95) := by decide +kernel
theorem dX9_does_96 : decode cX9_does 96 = .ok (.aload_n 0, 1) := by decide +kernel
theorem dX9_does_97 : decode cX9_does 97 = .ok (.invokevirtual 152, 3) := by decide +kernel
theorem dX9_does_100 : decode cX9_does 100 = .ok (.ifCond .lt 7, 3) := by decide +kernel
theorem dX9_does_103 : decode cX9_does 103 = .ok (.iconst 1, 1) := by decide +kernel
theorem dX9_does_104 : decode cX9_does 104 = .ok (.goto 4, 3) := by decide +kernel
theorem dX9_does_107 : decode cX9_does 107 = .ok (.iconst 0, 1) := by decide +kernel
theorem dX9_does_108 : decode cX9_does 108 = .ok (.ireturn, 1) := by decide +kernel
theorem dX9_does_109 : decode cX9_does 109 = .ok (.aload_n 0, 1) := by decide +kernel
theorem dX9_does_110 : decode cX9_does 110 = .ok (.invokevirtual 155, 3) := by decide +kernel
theorem dX9_does_113 : decode cX9_does 113 = .ok (.ifCond .lt 7, 3) := by decide +kernel
theorem dX9_does_116 : decode cX9_does 116 = .ok (.iconst 1, 1) := by decide +kernel
theorem dX9_does_117 : decode cX9_does 117 = .ok (.goto 4, 3) := by decide +kernel
theorem dX9_does_120 : decode cX9_does 120 = .ok (.iconst 0, 1) := by decide +kernel
theorem dX9_does_121 : decode cX9_does 121 = .ok (.ireturn, 1) := by decide +kernel
theorem dX9_does_122 : decode cX9_does 122 = .ok (.aload_n 0, 1) := by decide +kernel
theorem dX9_does_123 : decode cX9_does 123 = .ok (.invokevirtual 158, 3) := by decide +kernel
theorem dX9_does_126 : decode cX9_does 126 = .ok (.ifCond .lt 7, 3) := by decide +kernel
theorem dX9_does_129 : decode cX9_does 129 = .ok (.iconst 1, 1) := by decide +kernel
theorem dX9_does_130 : decode cX9_does 130 = .ok (.goto 4, 3) := by decide +kernel
theorem dX9_does_133 : decode cX9_does 133 = .ok (.iconst 0, 1) := by decide +kernel
theorem dX9_does_134 : decode cX9_does 134 = .ok (.ireturn, 1) := by decide +kernel
theorem dX9_does_135 : decode cX9_does 135 = .ok (.aload_n 0, 1) := by decide +kernel
theorem dX9_does_136 : decode cX9_does 136 = .ok (.aload_n 0, 1) := by decide +kernel
theorem dX9_does_137 : decode cX9_does 137 = .ok (.getfield 27, 3) := by decide +kernel
theorem dX9_does_140 : decode cX9_does 140 = .ok (.iconst 0, 1) := by decide +kernel
theorem dX9_does_141 : decode cX9_does 141 = .ok (.iaload, 1) := by decide +kernel
theorem dX9_does_142 : decode cX9_does 142 = .ok (.invokevirtual 161, 3) := by decide +kernel
theorem dX9_does_145 : decode cX9_does 145 = .ok (.ifCond .lt 7, 3) := by decide +kernel
theorem dX9_does_148 : decode cX9_does 148 = .ok (.iconst 1, 1) := by decide +kernel
theorem dX9_does_149 : decode cX9_does 149 = .ok (.goto 4, 3) := by decide +kernel
theorem dX9_does_152 : decode cX9_does 152 = .ok (.iconst 0, 1) := by decide +kernel
theorem dX9_does_153 : decode cX9_does 153 = .ok (.ireturn, 1) := by decide +kernel
theorem dX9_does_154 : decode cX9_does 154 = .ok (.aload_n 0, 1) := by decide +kernel
end
section
theorem dX9_does_155 : decode cX9_does 155 = .ok (.aload_n 0, 1) := by decide +kernel
theorem dX9_does_156 : decode cX9_does 156 = .ok (.getfield 27, 3) := by decide +kernel
theorem dX9_does_159 : decode cX9_does 159 = .ok (.iconst 0, 1) := by decide +kernel
theorem dX9_does_160 : decode cX9_does 160 = .ok (.iaload, 1) := by decide +kernel
theorem dX9_does_161 : decode cX9_does 161 = .ok (.invokevirtual 164, 3) := by decide +kernel
theorem dX9_does_164 : decode cX9_does 164 = .ok (.ifCond .lt 7, 3) := by decide +kernel
theorem dX9_does_167 : decode cX9_does 167 = .ok (.iconst 1, 1) := by decide +kernel
theorem dX9_does_168 : decode cX9_does 168 = .ok (.goto 4, 3) := by decide +kernel
theorem dX9_does_171 : decode cX9_does 171 = .ok (.iconst 0, 1) := by decide +kernel
theorem dX9_does_172 : decode cX9_does 172 = .ok (.ireturn, 1) := by decide +kernel
theorem dX9_does_173 : decode cX9_does 173 = .ok (.aload_n 0, 1) := by decide +kernel
theorem dX9_does_174 : decode cX9_does 174 = .ok (.aload_n 0, 1) := by decide +kernel
theorem dX9_does_175 : decode cX9_does 175 = .ok (.getfield 27, 3) := by decide +kernel
theorem dX9_does_178 : decode cX9_does 178 = .ok (.iconst 0, 1) := by decide +kernel
theorem dX9_does_179 : decode cX9_does 179 = .ok (.iaload, 1) := by decide +kernel
theorem dX9_does_180 : decode cX9_does 180 = .ok (.invokevirtual 167, 3) := by decide +kernel
theorem dX9_does_183 : decode cX9_does 183 = .ok (.ifCond .lt 7, 3) := by decide +kernel
theorem dX9_does_186 : decode cX9_does 186 = .ok (.iconst 1, 1) := by decide +kernel
theorem dX9_does_187 : decode cX9_does 187 = .ok (.goto 4, 3) := by decide +kernel
theorem dX9_does_190 : decode cX9_does 190 = .ok (.iconst 0, 1) := by decide +kernel
theorem dX9_does_191 : decode cX9_does 191 = .ok (.ireturn, 1) := by decide +kernel
theorem dX9_does_192 : decode cX9_does 192 = .ok (.aload_n 0, 1) := by decide +kernel
theorem dX9_does_193 : decode cX9_does 193 = .ok (.aload_n 0, 1) := by decide +kernel
theorem dX9_does_194 : decode cX9_does 194 = .ok (.getfield 27, 3) := by decide +kernel
theorem dX9_does_197 : decode cX9_does 197 = .ok (.iconst 0, 1) := by decide +kernel
theorem dX9_does_198 : decode cX9_does 198 = .ok (.iaload, 1) := by decide +kernel
theorem dX9_does_199 : decode cX9_does 199 = .ok (.aload_n 0, 1) := by decide +kernel
theorem dX9_does_200 : decode cX9_does 200 = .ok (.getfield 27, 3) := by decide +kernel
theorem dX9_does_203 : decode cX9_does 203 = .ok (.iconst 1, 1) := by decide +kernel
theorem dX9_does_204 : decode cX9_does 204 = .ok (.iaload, 1) := by decide +kernel
theorem dX9_does_205 : decode cX9_does 205 = .ok (.invokevirtual 170, 3) := by decide +kernel
theorem dX9_does_208 : decode cX9_does 208 = .ok (.ifCond .lt 7, 3) := by decide +kernel
theorem dX9_does_211 : decode cX9_does 211 = .ok (.iconst 1, 1) := by decide +kernel
theorem dX9_does_212 : decode cX9_does 212 = .ok (.goto 4, 3) := by decide +kernel
theorem dX9_does_215 : decode cX9_does 215 = .ok (.iconst 0, 1) := by decide +kernel
theorem dX9_does_216 : decode cX9_does 216 = .ok (.ireturn, 1) := by decide +kernel
theorem dX9_does_217 : decode cX9_does 217 = .ok (.aload_n 0, 1) := by decide +kernel
theorem dX9_does_218 : decode cX9_does 218 = .ok (.aload_n 0, 1) := by decide +kernel
theorem dX9_does_219 : decode cX9_does 219 = .ok (.getfield 27, 3) := by decide +kernel
theorem dX9_does_222 : decode cX9_does 222 = .ok (.iconst 0, 1) := by decide +kernel
theorem dX9_does_223 : decode cX9_does 223 = .ok (.iaload, 1) := by decide +kernel
theorem dX9_does_224 : decode cX9_does 224 = .ok (.aload_n 0, 1) := by decide +kernel
theorem dX9_does_225 : decode cX9_does 225 = .ok (.getfield 27, 3) := by decide +kernel
theorem dX9_does_228 : decode cX9_does 228 = .ok (.iconst 1, 1) := by decide +kernel
theorem dX9_does_229 : decode cX9_does 229 = .ok (.iaload, 1) := by decide +kernel
theorem dX9_does_230 : decode cX9_does 230 = .ok (.invokevirtual 172, 3) := by decide +kernel
theorem dX9_does_233 : decode cX9_does 233 = .ok (.ifCond .lt 7, 3) := by decide +kernel
theorem dX9_does_236 : decode cX9_does 236 = .ok (.iconst 1, 1) := by decide +kernel
theorem dX9_does_237 : decode cX9_does 237 = .ok (.goto 4, 3) := by decide +kernel
theorem dX9_does_240 : decode cX9_does 240 = .ok (.iconst 0, 1) := by decide +kernel
theorem dX9_does_241 : decode cX9_does 241 = .ok (.ireturn, 1) := by decide +kernel
theorem dX9_goesThrough_0 : decode cX9_goesThrough 0 = .ok (.aload_n 0, 1) := by decide +kernel
theorem dX9_goesThrough_1 : decode cX9_goesThrough 1 = .ok (.iconst 0, 1) := by decide +kernel
theorem dX9_goesThrough_2 : decode cX9_goesThrough 2 = .ok (.putfield 135, 3) := by decide +kernel
theorem dX9_goesThrough_5 : decode cX9_goesThrough 5 = .ok (.aload_n 0, 1) := by decide +kernel
theorem dX9_goesThrough_6 : decode cX9_goesThrough 6 = .ok (.iconst (-1), 1) := by decide +kernel
theorem dX9_goesThrough_7 : decode cX9_goesThrough 7 = .ok (.putfield 146, 3) := by decide +kernel
theorem dX9_goesThrough_10 : decode cX9_goesThrough 10 = .ok (.iconst 0, 1) := by decide +kernel
theorem dX9_goesThrough_11 : decode cX9_goesThrough 11 = .ok (.istore_n 2, 1) := by decide +kernel
theorem dX9_goesThrough_12 : decode cX9_goesThrough 12 = .ok (.iconst 0, 1) := by decide +kernel
theorem dX9_goesThrough_13 : decode cX9_goesThrough 13 = .ok (.istore_n 3, 1) := by decide +kernel
theorem dX9_goesThrough_14 : decode cX9_goesThrough 14 = .ok (.iconst 1, 1) := by decide +kernel
theorem dX9_goesThrough_15 : decode cX9_goesThrough 15 = .ok (.istore 4, 2) := by decide +kernel
theorem dX9_goesThrough_17 : decode cX9_goesThrough 17 = .ok (.iload 4, 2) := by decide +kernel
theorem dX9_goesThrough_19 : decode cX9_goesThrough 19 = .ok (.ifCond .eq 109, 3) := by decide +kernel
theorem dX9_goesThrough_22 : decode cX9_goesThrough 22 = .ok (.aload_n 0, 1) := by decide +kernel
theorem dX9_goesThrough_23 : decode cX9_goesThrough 23 = .ok (.invokevirtual 175, 3) := by decide +kernel
theorem dX9_goesThrough_26 : decode cX9_goesThrough 26 = .ok (.istore 5, 2) := by decide +kernel
theorem dX9_goesThrough_28 : decode cX9_goesThrough 28 = .ok (.iinc 3 1, 3) := by decide +kernel
theorem dX9_goesThrough_31 : decode cX9_goesThrough 31 = .ok (.iload_n 1, 1) := by decide +kernel
theorem dX9_goesThrough_32 : decode cX9_goesThrough 32 = .ok (.ifCond .eq 22, 3) := by decide +kernel
theorem dX9_goesThrough_35 : decode cX9_goesThrough 35 = .ok (.aload_n 0, 1) := by decide +kernel
theorem dX9_goesThrough_36 : decode cX9_goesThrough 36 = .ok (.getfield 146, 3) := by decide +kernel
theorem dX9_goesThrough_39 : decode cX9_goesThrough 39 = .ok (.ifCond .ge 15, 3) := by decide +kernel
theorem dX9_goesThrough_42 : decode cX9_goesThrough 42 = .ok (.iload_n 2, 1) := by decide +kernel
theorem dX9_goesThrough_43 : decode cX9_goesThrough 43 = .ok (.aload_n 0, 1) := by decide +kernel
theorem dX9_goesThrough_44 : decode cX9_goesThrough 44 = .ok (.iload 5, 2) := by decide +kernel
theorem dX9_goesThrough_46 : decode cX9_goesThrough 46 = .ok (.invokevirtual 178, 3) := by decide +kernel
theorem dX9_goesThrough_49 : decode cX9_goesThrough 49 = .ok (.invokestatic 181, 3) := by decide +kernel
theorem dX9_goesThrough_52 : decode cX9_goesThrough 52 = .ok (.iadd, 1) := by decide +kernel
theorem dX9_goesThrough_53 : decode cX9_goesThrough 53 = .ok (.istore_n 2, 1) := by decide +kernel
theorem dX9_goesThrough_54 : decode cX9_goesThrough 54 = .ok (.aload_n 0, 1) := by decide +kernel
theorem dX9_goesThrough_55 : decode cX9_goesThrough 55 = .ok (.getfield 146, 3) := by decide +kernel
theorem dX9_goesThrough_58 : decode cX9_goesThrough 58 = .ok (.ifCond .ge 18, 3) := by decide +kernel
theorem dX9_goesThrough_61 : decode cX9_goesThrough 61 = .ok (.aload_n 0, 1) := by decide +kernel
theorem dX9_goesThrough_62 : decode cX9_goesThrough 62 = .ok (.getfield 135, 3) := by decide +kernel
theorem dX9_goesThrough_65 : decode cX9_goesThrough 65 = .ok (.aload_n 0, 1) := by decide +kernel
theorem dX9_goesThrough_66 : decode cX9_goesThrough 66 = .ok (.getfield 132, 3) := by decide +kernel
theorem dX9_goesThrough_69 : decode cX9_goesThrough 69 = .ok (.if_icmp .ge 7, 3) := by decide +kernel
theorem dX9_goesThrough_72 : decode cX9_goesThrough 72 = .ok (.iconst 1, 1) := by decide +kernel
theorem dX9_goesThrough_73 : decode cX9_goesThrough 73 = .ok (.goto 4, 3) := by decide +kernel
theorem dX9_goesThrough_76 : decode cX9_goesThrough 76 = .ok (.iconst 0, 1) := by decide +kernel
theorem dX9_goesThrough_77 : decode cX9_goesThrough 77 = .ok (.istore 4, 2) := by decide +kernel
theorem dX9_goesThrough_79 : decode cX9_goesThrough 79 = .ok (.iload 4, 2) := by decide +kernel
theorem dX9_goesThrough_81 : decode cX9_goesThrough 81 = .ok (.ifCond .eq 34, 3) := by decide +kernel
theorem dX9_goesThrough_84 : decode cX9_goesThrough 84 = .ok (.aload_n 0, 1) := by decide +kernel
theorem dX9_goesThrough_85 : decode cX9_goesThrough 85 = .ok (.getfield 24, 3) := by decide +kernel
theorem dX9_goesThrough_88 : decode cX9_goesThrough 88 = .ok (.aload_n 0, 1) := by decide +kernel
theorem dX9_goesThrough_89 : decode cX9_goesThrough 89 = .ok (.getfield 135, 3) := by decide +kernel
theorem dX9_goesThrough_92 : decode cX9_goesThrough 92 = .ok (.iaload, 1) := by decide +kernel
theorem dX9_goesThrough_93 : decode cX9_goesThrough 93 = .ok (.bipush 59, 2) := by decide +kernel
theorem dX9_goesThrough_95 : decode cX9_goesThrough 95 = .ok (.if_icmp .ne 9, 3) := by decide +kernel
theorem dX9_goesThrough_98 : decode cX9_goesThrough 98 = .ok (.iload_n 3, 1) := by decide +kernel
theorem dX9_goesThrough_99 : decode cX9_goesThrough 99 = .ok (.bipush 12, 2) := by decide +kernel
theorem dX9_goesThrough_101 : decode cX9_goesThrough 101 = .ok (.if_icmp .ne 14, 3) := by decide +kernel
theorem dX9_goesThrough_104 : decode cX9_goesThrough 104 = .ok (.aload_n 0, 1) := by decide +kernel
theorem dX9_goesThrough_105 : decode cX9_goesThrough 105 = .ok (.aload_n 0, 1) := by decide +kernel
theorem dX9_goesThrough_106 : decode cX9_goesThrough 106 = .ok (.getfield 135, 3) := by decide +kernel
theorem dX9_goesThrough_109 : decode cX9_goesThrough 109 = .ok (.putfield 146, 3) := by decide +kernel
theorem dX9_goesThrough_112 : decode cX9_goesThrough 112 = .ok (.iconst 0, 1) := by decide +kernel
theorem dX9_goesThrough_113 : decode cX9_goesThrough 113 = .ok (.istore 4, 2) := by decide +kernel
theorem dX9_goesThrough_115 : decode cX9_goesThrough 115 = .ok (.aload_n 0, 1) := by decide +kernel
theorem dX9_goesThrough_116 : decode cX9_goesThrough 116 = .ok (.dup, 1) := by decide +kernel
theorem dX9_goesThrough_117 : decode cX9_goesThrough 117 = .ok (.getfield 135, 3) := by decide +kernel
theorem dX9_goesThrough_120 : decode cX9_goesThrough 120 = .ok (.iconst 1, 1) := by decide +kernel
theorem dX9_goesThrough_121 : decode cX9_goesThrough 121 = .ok (.iadd, 1) := by decide +kernel
theorem dX9_goesThrough_122 : decode cX9_goesThrough 122 = .ok (.putfield 135, 3) := by decide +kernel
theorem dX9_goesThrough_125 : decode cX9_goesThrough 125 = .ok (.goto (-108), 3) := by decide +kernel
theorem dX9_goesThrough_128 : decode cX9_goesThrough 128 = .ok (.iload_n 2, 1) := by decide +kernel
theorem dX9_goesThrough_129 : decode cX9_goesThrough 129 = .ok (.ireturn, 1) := by decide +kernel
theorem dX9_read_0 : decode cX9_read 0 = .ok (.aload_n 0, 1) := by decide +kernel
theorem dX9_read_1 : decode cX9_read 1 = .ok (.iconst 0, 1) := by decide +kernel
theorem dX9_read_2 : decode cX9_read 2 = .ok (.invokevirtual 185, 3) := by decide +kernel
theorem dX9_read_5 : decode cX9_read 5 = .ok (.istore_n 1, 1) := by decide +kernel
theorem dX9_read_6 : decode cX9_read 6 = .ok (.aload_n 0, 1) := by decide +kernel
theorem dX9_read_7 : decode cX9_read 7 = .ok (.getfield 146, 3) := by decide +kernel
theorem dX9_read_10 : decode cX9_read 10 = .ok (.ifCond .ge 11, 3) := by decide +kernel
theorem dX9_read_13 : decode cX9_read 13 = .ok (.aload_n 0, 1) := by decide +kernel
theorem dX9_read_14 : decode cX9_read 14 = .ok (.iconst 1, 1) := by decide +kernel
theorem dX9_read_15 : decode cX9_read 15 = .ok (.invokevirtual 185, 3) := by decide +kernel
theorem dX9_read_18 : decode cX9_read 18 = .ok (.goto 10, 3) := by decide +kernel
theorem dX9_read_21 : decode cX9_read 21 = .ok (.bipush (-10), 2) := by decide +kernel
theorem dX9_read_23 : decode cX9_read 23 = .ok (.aload_n 0, 1) := by decide +kernel
theorem dX9_read_24 : decode cX9_read 24 = .ok (.getfield 146, 3) := by decide +kernel
theorem dX9_read_27 : decode cX9_read 27 = .ok (.isub, 1) := by decide +kernel
theorem dX9_read_28 : decode cX9_read 28 = .ok (.istore_n 1, 1) := by decide +kernel
theorem dX9_read_29 : decode cX9_read 29 = .ok (.aload_n 0, 1) := by decide +kernel
theorem dX9_read_30 : decode cX9_read 30 = .ok (.iconst 0, 1) := by decide +kernel
theorem dX9_read_31 : decode cX9_read 31 = .ok (.putfield 132, 3) := by decide +kernel
theorem dX9_read_34 : decode cX9_read 34 = .ok (.iload_n 1, 1) := by decide +kernel
theorem dX9_read_35 : decode cX9_read 35 = .ok (.ireturn, 1) := by decide +kernel
theorem dX9_findsPoints_0 : decode cX9_findsPoints 0 = .ok (.iconst 0, 1) := by decide +kernel
theorem dX9_findsPoints_1 : decode cX9_findsPoints 1 = .ok (.istore_n 1, 1) := by decide +kernel
theorem dX9_findsPoints_2 : decode cX9_findsPoints 2 = .ok (.iconst 0, 1) := by decide +kernel
theorem dX9_findsPoints_3 : decode cX9_findsPoints 3 = .ok (.istore_n 2, 1) := by decide +kernel
theorem dX9_findsPoints_4 : decode cX9_findsPoints 4 = .ok (.iload_n 2, 1) := by decide +kernel
theorem dX9_findsPoints_5 : decode cX9_findsPoints 5 = .ok (.aload_n 0, 1) := by decide +kernel
theorem dX9_findsPoints_6 : decode cX9_findsPoints 6 = .ok (.getfield 11, 3) := by decide +kernel
theorem dX9_findsPoints_9 : decode cX9_findsPoints 9 = .ok (.iconst 0, 1) := by decide +kernel
theorem dX9_findsPoints_10 : decode cX9_findsPoints 10 = .ok (.iaload, 1) := by decide +kernel
theorem dX9_findsPoints_11 : decode cX9_findsPoints 11 = .ok (.if_icmp .ge 44, 3) := by decide +kernel
theorem dX9_findsPoints_14 : decode cX9_findsPoints 14 = .ok (.aload_n 0, 1) := by decide +kernel
theorem dX9_findsPoints_15 : decode cX9_findsPoints 15 = .ok (.getfield 36, 3) := by decide +kernel
theorem dX9_findsPoints_18 : decode cX9_findsPoints 18 = .ok (.aload_n 0, 1) := by decide +kernel
theorem dX9_findsPoints_19 : decode cX9_findsPoints 19 = .ok (.getfield 11, 3) := by decide +kernel
theorem dX9_findsPoints_22 : decode cX9_findsPoints 22 = .ok (.bipush 7, 2) := by decide +kernel
theorem dX9_findsPoints_24 : decode cX9_findsPoints 24 = .ok (.iload_n 2, 1) := by decide +kernel
theorem dX9_findsPoints_25 : decode cX9_findsPoints 25 = .ok (.iadd, 1) := by decide +kernel
theorem dX9_findsPoints_26 : decode cX9_findsPoints 26 = .ok (.iaload, 1) := by decide +kernel
theorem dX9_findsPoints_27 : decode cX9_findsPoints 27 = .ok (.iload_n 1, 1) := by decide +kernel
theorem dX9_findsPoints_28 : decode cX9_findsPoints 28 = .ok (.iastore, 1) := by decide +kernel
theorem dX9_findsPoints_29 : decode cX9_findsPoints 29 = .ok (.iload_n 1, 1) := by decide +kernel
theorem dX9_findsPoints_30 : decode cX9_findsPoints 30 = .ok (.aload_n 0, 1) := by decide +kernel
theorem dX9_findsPoints_31 : decode cX9_findsPoints 31 = .ok (.getfield 11, 3) := by decide +kernel
theorem dX9_findsPoints_34 : decode cX9_findsPoints 34 = .ok (.bipush 12, 2) := by decide +kernel
theorem dX9_findsPoints_36 : decode cX9_findsPoints 36 = .ok (.aload_n 0, 1) := by decide +kernel
theorem dX9_findsPoints_37 : decode cX9_findsPoints 37 = .ok (.getfield 11, 3) := by decide +kernel
theorem dX9_findsPoints_40 : decode cX9_findsPoints 40 = .ok (.bipush 7, 2) := by decide +kernel
theorem dX9_findsPoints_42 : decode cX9_findsPoints 42 = .ok (.iload_n 2, 1) := by decide +kernel
theorem dX9_findsPoints_43 : decode cX9_findsPoints 43 = .ok (.iadd, 1) := by decide +kernel
theorem dX9_findsPoints_44 : decode cX9_findsPoints 44 = .ok (.iaload, 1) := by decide +kernel
theorem dX9_findsPoints_45 : decode cX9_findsPoints 45 = .ok (.iadd, 1) := by decide +kernel
theorem dX9_findsPoints_46 : decode cX9_findsPoints 46 = .ok (.iaload, 1) := by decide +kernel
theorem dX9_findsPoints_47 : decode cX9_findsPoints 47 = .ok (.iadd, 1) := by decide +kernel
theorem dX9_findsPoints_48 : decode cX9_findsPoints 48 = .ok (.istore_n 1, 1) := by decide +kernel
theorem dX9_findsPoints_49 : decode cX9_findsPoints 49 = .ok (.iinc 2 1, 3) := by decide +kernel
theorem dX9_findsPoints_52 : decode cX9_findsPoints 52 = .ok (.goto (-48), 3) := by decide +kernel
theorem dX9_findsPoints_55 : decode cX9_findsPoints 55 = .ok (.iconst 0, 1) := by decide +kernel
theorem dX9_findsPoints_56 : decode cX9_findsPoints 56 = .ok (.istore_n 1, 1) := by decide +kernel
theorem dX9_findsPoints_57 : decode cX9_findsPoints 57 = .ok (.iconst 0, 1) := by decide +kernel
theorem dX9_findsPoints_58 : decode cX9_findsPoints 58 = .ok (.istore_n 2, 1) := by decide +kernel
theorem dX9_findsPoints_59 : decode cX9_findsPoints 59 = .ok (.iload_n 2, 1) := by decide +kernel
theorem dX9_findsPoints_60 : decode cX9_findsPoints 60 = .ok (.aload_n 0, 1) := by decide +kernel
theorem dX9_findsPoints_61 : decode cX9_findsPoints 61 = .ok (.getfield 11, 3) := by decide +kernel
theorem dX9_findsPoints_64 : decode cX9_findsPoints 64 = .ok (.iconst 0, 1) := by decide +kernel
theorem dX9_findsPoints_65 : decode cX9_findsPoints 65 = .ok (.iaload, 1) := by decide +kernel
theorem dX9_findsPoints_66 : decode cX9_findsPoints 66 = .ok (.if_icmp .ge 66, 3) := by decide +kernel
theorem dX9_findsPoints_69 : decode cX9_findsPoints 69 = .ok (.aload_n 0, 1) := by decide +kernel
theorem dX9_findsPoints_70 : decode cX9_findsPoints 70 = .ok (.getfield 11, 3) := by decide +kernel
theorem dX9_findsPoints_73 : decode cX9_findsPoints 73 = .ok (.iconst 2, 1) := by decide +kernel
theorem dX9_findsPoints_74 : decode cX9_findsPoints 74 = .ok (.iload_n 2, 1) := by decide +kernel
theorem dX9_findsPoints_75 : decode cX9_findsPoints 75 = .ok (.iadd, 1) := by decide +kernel
theorem dX9_findsPoints_76 : decode cX9_findsPoints 76 = .ok (.iaload, 1) := by decide +kernel
theorem dX9_findsPoints_77 : decode cX9_findsPoints 77 = .ok (.istore_n 3, 1) := by decide +kernel
theorem dX9_findsPoints_78 : decode cX9_findsPoints 78 = .ok (.iconst 0, 1) := by decide +kernel
theorem dX9_findsPoints_79 : decode cX9_findsPoints 79 = .ok (.istore 4, 2) := by decide +kernel
theorem dX9_findsPoints_81 : decode cX9_findsPoints 81 = .ok (.iload 4, 2) := by decide +kernel
theorem dX9_findsPoints_83 : decode cX9_findsPoints 83 = .ok (.aload_n 0, 1) := by decide +kernel
theorem dX9_findsPoints_84 : decode cX9_findsPoints 84 = .ok (.getfield 11, 3) := by decide +kernel
theorem dX9_findsPoints_87 : decode cX9_findsPoints 87 = .ok (.bipush 12, 2) := by decide +kernel
theorem dX9_findsPoints_89 : decode cX9_findsPoints 89 = .ok (.iload_n 3, 1) := by decide +kernel
theorem dX9_findsPoints_90 : decode cX9_findsPoints 90 = .ok (.iadd, 1) := by decide +kernel
theorem dX9_findsPoints_91 : decode cX9_findsPoints 91 = .ok (.iaload, 1) := by decide +kernel
theorem dX9_findsPoints_92 : decode cX9_findsPoints 92 = .ok (.if_icmp .ge 34, 3) := by decide +kernel
theorem dX9_findsPoints_95 : decode cX9_findsPoints 95 = .ok (.aload_n 0, 1) := by decide +kernel
theorem dX9_findsPoints_96 : decode cX9_findsPoints 96 = .ok (.getfield 33, 3) := by decide +kernel
theorem dX9_findsPoints_99 : decode cX9_findsPoints 99 = .ok (.iload_n 1, 1) := by decide +kernel
theorem dX9_findsPoints_100 : decode cX9_findsPoints 100 = .ok (.iload_n 3, 1) := by decide +kernel
theorem dX9_findsPoints_101 : decode cX9_findsPoints 101 = .ok (.iastore, 1) := by decide +kernel
theorem dX9_findsPoints_102 : decode cX9_findsPoints 102 = .ok (.aload_n 0, 1) := by decide +kernel
theorem dX9_findsPoints_103 : decode cX9_findsPoints 103 = .ok (.getfield 30, 3) := by decide +kernel
theorem dX9_findsPoints_106 : decode cX9_findsPoints 106 = .ok (.iload_n 1, 1) := by decide +kernel
theorem dX9_findsPoints_107 : decode cX9_findsPoints 107 = .ok (.aload_n 0, 1) := by decide +kernel
theorem dX9_findsPoints_108 : decode cX9_findsPoints 108 = .ok (.getfield 36, 3) := by decide +kernel
theorem dX9_findsPoints_111 : decode cX9_findsPoints 111 = .ok (.iload_n 3, 1) := by decide +kernel
theorem dX9_findsPoints_112 : decode cX9_findsPoints 112 = .ok (.iaload, 1) := by decide +kernel
theorem dX9_findsPoints_113 : decode cX9_findsPoints 113 = .ok (.iload 4, 2) := by decide +kernel
theorem dX9_findsPoints_115 : decode cX9_findsPoints 115 = .ok (.iadd, 1) := by decide +kernel
theorem dX9_findsPoints_116 : decode cX9_findsPoints 116 = .ok (.iastore, 1) := by decide +kernel
theorem dX9_findsPoints_117 : decode cX9_findsPoints 117 = .ok (.iinc 1 1, 3) := by decide +kernel
theorem dX9_findsPoints_120 : decode cX9_findsPoints 120 = .ok (.iinc 4 1, 3) := by decide +kernel
theorem dX9_findsPoints_123 : decode cX9_findsPoints 123 = .ok (.goto (-42), 3) := by decide +kernel
theorem dX9_findsPoints_126 : decode cX9_findsPoints 126 = .ok (.iinc 2 1, 3) := by decide +kernel
theorem dX9_findsPoints_129 : decode cX9_findsPoints 129 = .ok (.goto (-70), 3) := by decide +kernel
theorem dX9_findsPoints_132 : decode cX9_findsPoints 132 = .ok (.iload_n 1, 1) := by decide +kernel
theorem dX9_findsPoints_133 : decode cX9_findsPoints 133 = .ok (.ireturn, 1) := by decide +kernel
theorem dX9_of_0 : decode cX9_of 0 = .ok (.aload_n 0, 1) := by decide +kernel
theorem dX9_of_1 : decode cX9_of 1 = .ok (.iload_n 1, 1) := by decide +kernel
theorem dX9_of_2 : decode cX9_of 2 = .ok (.invokevirtual 99, 3) := by decide +kernel
theorem dX9_of_5 : decode cX9_of 5 = .ok (.ifCond .eq 15, 3) := by decide +kernel
theorem dX9_of_8 : decode cX9_of 8 = .ok (.iload_n 2, 1) := by decide +kernel
theorem dX9_of_9 : decode cX9_of 9 = .ok (.i2l, 1) := by decide +kernel
theorem dX9_of_10 : decode cX9_of 10 = .ok (.lconst 0, 1) := by decide +kernel
theorem dX9_of_11 : decode cX9_of 11 = .ok (.ldc2_w 95, 3) := by decide +kernel
theorem dX9_of_14 : decode cX9_of 14 = .ok (.invokestatic 66, 3) := by decide +kernel
theorem dX9_of_17 : decode cX9_of 17 = .ok (.ifCond .ne 5, 3) := by decide +kernel
theorem dX9_of_20 : decode cX9_of 20 = .ok (.iconst (-1), 1) := by decide +kernel
theorem dX9_of_21 : decode cX9_of 21 = .ok (.ireturn, 1) := by decide +kernel
theorem dX9_of_22 : decode cX9_of 22 = .ok (.aload_n 0, 1) := by decide +kernel
theorem dX9_of_23 : decode cX9_of 23 = .ok (.getfield 11, 3) := by decide +kernel
theorem dX9_of_26 : decode cX9_of 26 = .ok (.iload_n 2, 1) := by decide +kernel
theorem dX9_of_27 : decode cX9_of 27 = .ok (.ifCond .ne 9, 3) := by decide +kernel
theorem dX9_of_30 : decode cX9_of 30 = .ok (.iconst 2, 1) := by decide +kernel
theorem dX9_of_31 : decode cX9_of 31 = .ok (.iload_n 1, 1) := by decide +kernel
theorem dX9_of_32 : decode cX9_of 32 = .ok (.iadd, 1) := by decide +kernel
theorem dX9_of_33 : decode cX9_of 33 = .ok (.goto 19, 3) := by decide +kernel
theorem dX9_of_36 : decode cX9_of 36 = .ok (.iload_n 2, 1) := by decide +kernel
theorem dX9_of_37 : decode cX9_of 37 = .ok (.iconst 1, 1) := by decide +kernel
theorem dX9_of_38 : decode cX9_of 38 = .ok (.if_icmp .ne 10, 3) := by decide +kernel
theorem dX9_of_41 : decode cX9_of 41 = .ok (.bipush 7, 2) := by decide +kernel
theorem dX9_of_43 : decode cX9_of 43 = .ok (.iload_n 1, 1) := by decide +kernel
theorem dX9_of_44 : decode cX9_of 44 = .ok (.iadd, 1) := by decide +kernel
theorem dX9_of_45 : decode cX9_of 45 = .ok (.goto 7, 3) := by decide +kernel
theorem dX9_of_48 : decode cX9_of 48 = .ok (.bipush 12, 2) := by decide +kernel
theorem dX9_of_50 : decode cX9_of 50 = .ok (.iload_n 1, 1) := by decide +kernel
theorem dX9_of_51 : decode cX9_of 51 = .ok (.iadd, 1) := by decide +kernel
theorem dX9_of_52 : decode cX9_of 52 = .ok (.iaload, 1) := by decide +kernel
theorem dX9_of_53 : decode cX9_of 53 = .ok (.ireturn, 1) := by decide +kernel
theorem dX9_rounds_0 : decode cX9_rounds 0 = .ok (.aload_n 0, 1) := by decide +kernel
theorem dX9_rounds_1 : decode cX9_rounds 1 = .ok (.invokevirtual 188, 3) := by decide +kernel
theorem dX9_rounds_4 : decode cX9_rounds 4 = .ok (.istore_n 1, 1) := by decide +kernel
theorem dX9_rounds_5 : decode cX9_rounds 5 = .ok (.iconst 0, 1) := by decide +kernel
theorem dX9_rounds_6 : decode cX9_rounds 6 = .ok (.istore_n 2, 1) := by decide +kernel
theorem dX9_rounds_7 : decode cX9_rounds 7 = .ok (.iload_n 2, 1) := by decide +kernel
theorem dX9_rounds_8 : decode cX9_rounds 8 = .ok (.iload_n 1, 1) := by decide +kernel
theorem dX9_rounds_9 : decode cX9_rounds 9 = .ok (.if_icmp .ge 16, 3) := by decide +kernel
theorem dX9_rounds_12 : decode cX9_rounds 12 = .ok (.aload_n 0, 1) := by decide +kernel
theorem dX9_rounds_13 : decode cX9_rounds 13 = .ok (.getfield 39, 3) := by decide +kernel
theorem dX9_rounds_16 : decode cX9_rounds 16 = .ok (.iload_n 2, 1) := by decide +kernel
theorem dX9_rounds_17 : decode cX9_rounds 17 = .ok (.iconst 0, 1) := by decide +kernel
theorem dX9_rounds_18 : decode cX9_rounds 18 = .ok (.bastore, 1) := by decide +kernel
theorem dX9_rounds_19 : decode cX9_rounds 19 = .ok (.iinc 2 1, 3) := by decide +kernel
theorem dX9_rounds_22 : decode cX9_rounds 22 = .ok (.goto (-15), 3) := by decide +kernel
theorem dX9_rounds_25 : decode cX9_rounds 25 = .ok (.iconst 0, 1) := by decide +kernel
theorem dX9_rounds_26 : decode cX9_rounds 26 = .ok (.istore_n 2, 1) := by decide +kernel
theorem dX9_rounds_27 : decode cX9_rounds 27 = .ok (.iconst 0, 1) := by decide +kernel
theorem dX9_rounds_28 : decode cX9_rounds 28 = .ok (.istore_n 3, 1) := by decide +kernel
theorem dX9_rounds_29 : decode cX9_rounds 29 = .ok (.iload_n 3, 1) := by decide +kernel
theorem dX9_rounds_30 : decode cX9_rounds 30 = .ok (.iload_n 1, 1) := by decide +kernel
theorem dX9_rounds_31 : decode cX9_rounds 31 = .ok (.if_icmp .ge 62, 3) := by decide +kernel
theorem dX9_rounds_34 : decode cX9_rounds 34 = .ok (.iload_n 2, 1) := by decide +kernel
theorem dX9_rounds_35 : decode cX9_rounds 35 = .ok (.aload_n 0, 1) := by decide +kernel
theorem dX9_rounds_36 : decode cX9_rounds 36 = .ok (.getfield 39, 3) := by decide +kernel
theorem dX9_rounds_39 : decode cX9_rounds 39 = .ok (.iload_n 3, 1) := by decide +kernel
theorem dX9_rounds_40 : decode cX9_rounds 40 = .ok (.baload, 1) := by decide +kernel
theorem dX9_rounds_41 : decode cX9_rounds 41 = .ok (.ifCond .ne 7, 3) := by decide +kernel
theorem dX9_rounds_44 : decode cX9_rounds 44 = .ok (.iconst 1, 1) := by decide +kernel
theorem dX9_rounds_45 : decode cX9_rounds 45 = .ok (.goto 4, 3) := by decide +kernel
theorem dX9_rounds_48 : decode cX9_rounds 48 = .ok (.iconst 0, 1) := by decide +kernel
theorem dX9_rounds_49 : decode cX9_rounds 49 = .ok (.invokestatic 181, 3) := by decide +kernel
theorem dX9_rounds_52 : decode cX9_rounds 52 = .ok (.iadd, 1) := by decide +kernel
theorem dX9_rounds_53 : decode cX9_rounds 53 = .ok (.istore_n 2, 1) := by decide +kernel
theorem dX9_rounds_54 : decode cX9_rounds 54 = .ok (.iload_n 3, 1) := by decide +kernel
theorem dX9_rounds_55 : decode cX9_rounds 55 = .ok (.istore 4, 2) := by decide +kernel
theorem dX9_rounds_57 : decode cX9_rounds 57 = .ok (.aload_n 0, 1) := by decide +kernel
theorem dX9_rounds_58 : decode cX9_rounds 58 = .ok (.getfield 39, 3) := by decide +kernel
theorem dX9_rounds_61 : decode cX9_rounds 61 = .ok (.iload 4, 2) := by decide +kernel
theorem dX9_rounds_63 : decode cX9_rounds 63 = .ok (.baload, 1) := by decide +kernel
theorem dX9_rounds_64 : decode cX9_rounds 64 = .ok (.ifCond .ne 23, 3) := by decide +kernel
theorem dX9_rounds_67 : decode cX9_rounds 67 = .ok (.aload_n 0, 1) := by decide +kernel
theorem dX9_rounds_68 : decode cX9_rounds 68 = .ok (.getfield 39, 3) := by decide +kernel
theorem dX9_rounds_71 : decode cX9_rounds 71 = .ok (.iload 4, 2) := by decide +kernel
theorem dX9_rounds_73 : decode cX9_rounds 73 = .ok (.iconst 1, 1) := by decide +kernel
theorem dX9_rounds_74 : decode cX9_rounds 74 = .ok (.bastore, 1) := by decide +kernel
theorem dX9_rounds_75 : decode cX9_rounds 75 = .ok (.aload_n 0, 1) := by decide +kernel
theorem dX9_rounds_76 : decode cX9_rounds 76 = .ok (.getfield 30, 3) := by decide +kernel
theorem dX9_rounds_79 : decode cX9_rounds 79 = .ok (.iload 4, 2) := by decide +kernel
theorem dX9_rounds_81 : decode cX9_rounds 81 = .ok (.iaload, 1) := by decide +kernel
theorem dX9_rounds_82 : decode cX9_rounds 82 = .ok (.istore 4, 2) := by decide +kernel
theorem dX9_rounds_84 : decode cX9_rounds 84 = .ok (.goto (-27), 3) := by decide +kernel
theorem dX9_rounds_87 : decode cX9_rounds 87 = .ok (.iinc 3 1, 3) := by decide +kernel
theorem dX9_rounds_90 : decode cX9_rounds 90 = .ok (.goto (-61), 3) := by decide +kernel
theorem dX9_rounds_93 : decode cX9_rounds 93 = .ok (.iload_n 2, 1) := by decide +kernel
theorem dX9_rounds_94 : decode cX9_rounds 94 = .ok (.ireturn, 1) := by decide +kernel
theorem dX9_ends_0 : decode cX9_ends 0 = .ok (.aload_n 0, 1) := by decide +kernel
theorem dX9_ends_1 : decode cX9_ends 1 = .ok (.getfield 11, 3) := by decide +kernel
theorem dX9_ends_4 : decode cX9_ends 4 = .ok (.iconst 0, 1) := by decide +kernel
theorem dX9_ends_5 : decode cX9_ends 5 = .ok (.aload_n 0, 1) := by decide +kernel
theorem dX9_ends_6 : decode cX9_ends 6 = .ok (.getfield 43, 3) := by decide +kernel
theorem dX9_ends_9 : decode cX9_ends 9 = .ok (.iconst 0, 1) := by decide +kernel
theorem dX9_ends_10 : decode cX9_ends 10 = .ok (.bipush 60, 2) := by decide +kernel
theorem dX9_ends_12 : decode cX9_ends 12 = .ok (.invokestatic 89, 3) := by decide +kernel
theorem dX9_ends_15 : decode cX9_ends 15 = .ok (.iconst 0, 1) := by decide +kernel
theorem dX9_ends_16 : decode cX9_ends 16 = .ok (.istore_n 1, 1) := by decide +kernel
theorem dX9_ends_17 : decode cX9_ends 17 = .ok (.iload_n 1, 1) := by decide +kernel
theorem dX9_ends_18 : decode cX9_ends 18 = .ok (.sipush 9999, 3) := by decide +kernel
theorem dX9_ends_21 : decode cX9_ends 21 = .ok (.if_icmp .ge 25, 3) := by decide +kernel
theorem dX9_ends_24 : decode cX9_ends 24 = .ok (.aload_n 0, 1) := by decide +kernel
theorem dX9_ends_25 : decode cX9_ends 25 = .ok (.invokevirtual 111, 3) := by decide +kernel
theorem dX9_ends_28 : decode cX9_ends 28 = .ok (.iconst (-1), 1) := by decide +kernel
theorem dX9_ends_29 : decode cX9_ends 29 = .ok (.if_icmp .eq 17, 3) := by decide +kernel
theorem dX9_ends_32 : decode cX9_ends 32 = .ok (.aload_n 0, 1) := by decide +kernel
theorem dX9_ends_33 : decode cX9_ends 33 = .ok (.aload_n 0, 1) := by decide +kernel
theorem dX9_ends_34 : decode cX9_ends 34 = .ok (.invokevirtual 111, 3) := by decide +kernel
theorem dX9_ends_37 : decode cX9_ends 37 = .ok (.invokevirtual 115, 3) := by decide +kernel
theorem dX9_ends_40 : decode cX9_ends 40 = .ok (.iinc 1 1, 3) := by decide +kernel
theorem dX9_ends_43 : decode cX9_ends 43 = .ok (.goto (-26), 3) := by decide +kernel
theorem dX9_ends_46 : decode cX9_ends 46 = .ok (.aload_n 0, 1) := by decide +kernel
theorem dX9_ends_47 : decode cX9_ends 47 = .ok (.getfield 43, 3) := by decide +kernel
theorem dX9_ends_50 : decode cX9_ends 50 = .ok (.iconst 0, 1) := by decide +kernel
theorem dX9_ends_51 : decode cX9_ends 51 = .ok (.aload_n 0, 1) := by decide +kernel
theorem dX9_ends_52 : decode cX9_ends 52 = .ok (.getfield 11, 3) := by decide +kernel
theorem dX9_ends_55 : decode cX9_ends 55 = .ok (.iconst 0, 1) := by decide +kernel
theorem dX9_ends_56 : decode cX9_ends 56 = .ok (.bipush 60, 2) := by decide +kernel
theorem dX9_ends_58 : decode cX9_ends 58 = .ok (.invokestatic 89, 3) := by decide +kernel
theorem dX9_ends_61 : decode cX9_ends 61 = .ok (.iload_n 1, 1) := by decide +kernel
theorem dX9_ends_62 : decode cX9_ends 62 = .ok (.ireturn, 1) := by decide +kernel
theorem dX9_nextOf_0 : decode cX9_nextOf 0 = .ok (.aload_n 0, 1) := by decide +kernel
theorem dX9_nextOf_1 : decode cX9_nextOf 1 = .ok (.iload_n 1, 1) := by decide +kernel
theorem dX9_nextOf_2 : decode cX9_nextOf 2 = .ok (.invokevirtual 103, 3) := by decide +kernel
theorem dX9_nextOf_5 : decode cX9_nextOf 5 = .ok (.pop, 1) := by decide +kernel
theorem dX9_nextOf_6 : decode cX9_nextOf 6 = .ok (.aload_n 0, 1) := by decide +kernel
theorem dX9_nextOf_7 : decode cX9_nextOf 7 = .ok (.getfield 11, 3) := by decide +kernel
theorem dX9_nextOf_10 : decode cX9_nextOf 10 = .ok (.iconst 0, 1) := by decide +kernel
theorem dX9_nextOf_11 : decode cX9_nextOf 11 = .ok (.iaload, 1) := by decide +kernel
theorem dX9_nextOf_12 : decode cX9_nextOf 12 = .ok (.istore_n 3, 1) := by decide +kernel
theorem dX9_nextOf_13 : decode cX9_nextOf 13 = .ok (.aload_n 0, 1) := by decide +kernel
theorem dX9_nextOf_14 : decode cX9_nextOf 14 = .ok (.getfield 21, 3) := by decide +kernel
theorem dX9_nextOf_17 : decode cX9_nextOf 17 = .ok (.iload_n 3, 1) := by decide +kernel
theorem dX9_nextOf_18 : decode cX9_nextOf 18 = .ok (.iconst 1, 1) := by decide +kernel
theorem dX9_nextOf_19 : decode cX9_nextOf 19 = .ok (.isub, 1) := by decide +kernel
theorem dX9_nextOf_20 : decode cX9_nextOf 20 = .ok (.iaload, 1) := by decide +kernel
theorem dX9_nextOf_21 : decode cX9_nextOf 21 = .ok (.istore 4, 2) := by decide +kernel
theorem dX9_nextOf_23 : decode cX9_nextOf 23 = .ok (.iload 4, 2) := by decide +kernel
theorem dX9_nextOf_25 : decode cX9_nextOf 25 = .ok (.iload_n 3, 1) := by decide +kernel
theorem dX9_nextOf_26 : decode cX9_nextOf 26 = .ok (.iconst 1, 1) := by decide +kernel
theorem dX9_nextOf_27 : decode cX9_nextOf 27 = .ok (.isub, 1) := by decide +kernel
theorem dX9_nextOf_28 : decode cX9_nextOf 28 = .ok (.if_icmp .ne 6, 3) := by decide +kernel
theorem dX9_nextOf_31 : decode cX9_nextOf 31 = .ok (.bipush (-5), 2) := by decide +kernel
theorem dX9_nextOf_33 : decode cX9_nextOf 33 = .ok (.ireturn, 1) := by decide +kernel
theorem dX9_nextOf_34 : decode cX9_nextOf 34 = .ok (.iconst 0, 1) := by decide +kernel
theorem dX9_nextOf_35 : decode cX9_nextOf 35 = .ok (.istore 5, 2) := by decide +kernel
theorem dX9_nextOf_37 : decode cX9_nextOf 37 = .ok (.iload_n 2, 1) := by decide +kernel
theorem dX9_nextOf_38 : decode cX9_nextOf 38 = .ok (.ifCond .ne 70, 3) := by decide +kernel
theorem dX9_nextOf_41 : decode cX9_nextOf 41 = .ok (.iconst 0, 1) := by decide +kernel
theorem dX9_nextOf_42 : decode cX9_nextOf 42 = .ok (.istore 6, 2) := by decide +kernel
theorem dX9_nextOf_44 : decode cX9_nextOf 44 = .ok (.iload 6, 2) := by decide +kernel
theorem dX9_nextOf_46 : decode cX9_nextOf 46 = .ok (.iload_n 3, 1) := by decide +kernel
theorem dX9_nextOf_47 : decode cX9_nextOf 47 = .ok (.iconst 1, 1) := by decide +kernel
theorem dX9_nextOf_48 : decode cX9_nextOf 48 = .ok (.isub, 1) := by decide +kernel
theorem dX9_nextOf_49 : decode cX9_nextOf 49 = .ok (.if_icmp .ge 56, 3) := by decide +kernel
theorem dX9_nextOf_52 : decode cX9_nextOf 52 = .ok (.bipush 10, 2) := by decide +kernel
theorem dX9_nextOf_54 : decode cX9_nextOf 54 = .ok (.iload 5, 2) := by decide +kernel
theorem dX9_nextOf_56 : decode cX9_nextOf 56 = .ok (.imul, 1) := by decide +kernel
theorem dX9_nextOf_57 : decode cX9_nextOf 57 = .ok (.aload_n 0, 1) := by decide +kernel
theorem dX9_nextOf_58 : decode cX9_nextOf 58 = .ok (.getfield 21, 3) := by decide +kernel
theorem dX9_nextOf_61 : decode cX9_nextOf 61 = .ok (.iload 6, 2) := by decide +kernel
theorem dX9_nextOf_63 : decode cX9_nextOf 63 = .ok (.iaload, 1) := by decide +kernel
theorem dX9_nextOf_64 : decode cX9_nextOf 64 = .ok (.iadd, 1) := by decide +kernel
theorem dX9_nextOf_65 : decode cX9_nextOf 65 = .ok (.iconst 1, 1) := by decide +kernel
theorem dX9_nextOf_66 : decode cX9_nextOf 66 = .ok (.iadd, 1) := by decide +kernel
theorem dX9_nextOf_67 : decode cX9_nextOf 67 = .ok (.istore 5, 2) := by decide +kernel
theorem dX9_nextOf_69 : decode cX9_nextOf 69 = .ok (.aload_n 0, 1) := by decide +kernel
theorem dX9_nextOf_70 : decode cX9_nextOf 70 = .ok (.getfield 21, 3) := by decide +kernel
theorem dX9_nextOf_73 : decode cX9_nextOf 73 = .ok (.iload 6, 2) := by decide +kernel
theorem dX9_nextOf_75 : decode cX9_nextOf 75 = .ok (.iaload, 1) := by decide +kernel
theorem dX9_nextOf_76 : decode cX9_nextOf 76 = .ok (.iload_n 3, 1) := by decide +kernel
theorem dX9_nextOf_77 : decode cX9_nextOf 77 = .ok (.iconst 1, 1) := by decide +kernel
theorem dX9_nextOf_78 : decode cX9_nextOf 78 = .ok (.isub, 1) := by decide +kernel
theorem dX9_nextOf_79 : decode cX9_nextOf 79 = .ok (.if_icmp .ne 16, 3) := by decide +kernel
theorem dX9_nextOf_82 : decode cX9_nextOf 82 = .ok (.bipush 10, 2) := by decide +kernel
theorem dX9_nextOf_84 : decode cX9_nextOf 84 = .ok (.iload 5, 2) := by decide +kernel
theorem dX9_nextOf_86 : decode cX9_nextOf 86 = .ok (.imul, 1) := by decide +kernel
theorem dX9_nextOf_87 : decode cX9_nextOf 87 = .ok (.iload 4, 2) := by decide +kernel
theorem dX9_nextOf_89 : decode cX9_nextOf 89 = .ok (.iadd, 1) := by decide +kernel
theorem dX9_nextOf_90 : decode cX9_nextOf 90 = .ok (.iconst 1, 1) := by decide +kernel
theorem dX9_nextOf_91 : decode cX9_nextOf 91 = .ok (.iadd, 1) := by decide +kernel
theorem dX9_nextOf_92 : decode cX9_nextOf 92 = .ok (.goto 5, 3) := by decide +kernel
theorem dX9_nextOf_95 : decode cX9_nextOf 95 = .ok (.iload 5, 2) := by decide +kernel
theorem dX9_nextOf_97 : decode cX9_nextOf 97 = .ok (.istore 5, 2) := by decide +kernel
theorem dX9_nextOf_99 : decode cX9_nextOf 99 = .ok (.iinc 6 1, 3) := by decide +kernel
theorem dX9_nextOf_102 : decode cX9_nextOf 102 = .ok (.goto (-58), 3) := by decide +kernel
theorem dX9_nextOf_105 : decode cX9_nextOf 105 = .ok (.iload 5, 2) := by decide +kernel
theorem dX9_nextOf_107 : decode cX9_nextOf 107 = .ok (.ireturn, 1) := by decide +kernel
theorem dX9_nextOf_108 : decode cX9_nextOf 108 = .ok (.iconst 0, 1) := by decide +kernel
theorem dX9_nextOf_109 : decode cX9_nextOf 109 = .ok (.istore 6, 2) := by decide +kernel
theorem dX9_nextOf_111 : decode cX9_nextOf 111 = .ok (.iload 6, 2) := by decide +kernel
theorem dX9_nextOf_113 : decode cX9_nextOf 113 = .ok (.iload_n 3, 1) := by decide +kernel
theorem dX9_nextOf_114 : decode cX9_nextOf 114 = .ok (.if_icmp .ge 70, 3) := by decide +kernel
theorem dX9_nextOf_117 : decode cX9_nextOf 117 = .ok (.bipush 10, 2) := by decide +kernel
theorem dX9_nextOf_119 : decode cX9_nextOf 119 = .ok (.iload 5, 2) := by decide +kernel
theorem dX9_nextOf_121 : decode cX9_nextOf 121 = .ok (.imul, 1) := by decide +kernel
theorem dX9_nextOf_122 : decode cX9_nextOf 122 = .ok (.iconst 1, 1) := by decide +kernel
theorem dX9_nextOf_123 : decode cX9_nextOf 123 = .ok (.iadd, 1) := by decide +kernel
theorem dX9_nextOf_124 : decode cX9_nextOf 124 = .ok (.aload_n 0, 1) := by decide +kernel
theorem dX9_nextOf_125 : decode cX9_nextOf 125 = .ok (.getfield 21, 3) := by decide +kernel
theorem dX9_nextOf_128 : decode cX9_nextOf 128 = .ok (.iload 6, 2) := by decide +kernel
theorem dX9_nextOf_130 : decode cX9_nextOf 130 = .ok (.iaload, 1) := by decide +kernel
theorem dX9_nextOf_131 : decode cX9_nextOf 131 = .ok (.iload_n 3, 1) := by decide +kernel
theorem dX9_nextOf_132 : decode cX9_nextOf 132 = .ok (.iconst 1, 1) := by decide +kernel
theorem dX9_nextOf_133 : decode cX9_nextOf 133 = .ok (.isub, 1) := by decide +kernel
theorem dX9_nextOf_134 : decode cX9_nextOf 134 = .ok (.if_icmp .ne 10, 3) := by decide +kernel
theorem dX9_nextOf_137 : decode cX9_nextOf 137 = .ok (.iload 4, 2) := by decide +kernel
theorem dX9_nextOf_139 : decode cX9_nextOf 139 = .ok (.iconst 1, 1) := by decide +kernel
theorem dX9_nextOf_140 : decode cX9_nextOf 140 = .ok (.iadd, 1) := by decide +kernel
theorem dX9_nextOf_141 : decode cX9_nextOf 141 = .ok (.goto 34, 3) := by decide +kernel
theorem dX9_nextOf_144 : decode cX9_nextOf 144 = .ok (.aload_n 0, 1) := by decide +kernel
theorem dX9_nextOf_145 : decode cX9_nextOf 145 = .ok (.getfield 21, 3) := by decide +kernel
theorem dX9_nextOf_148 : decode cX9_nextOf 148 = .ok (.iload 6, 2) := by decide +kernel
theorem dX9_nextOf_150 : decode cX9_nextOf 150 = .ok (.iaload, 1) := by decide +kernel
theorem dX9_nextOf_151 : decode cX9_nextOf 151 = .ok (.iload 4, 2) := by decide +kernel
theorem dX9_nextOf_153 : decode cX9_nextOf 153 = .ok (.if_icmp .le 15, 3) := by decide +kernel
theorem dX9_nextOf_156 : decode cX9_nextOf 156 = .ok (.aload_n 0, 1) := by decide +kernel
theorem dX9_nextOf_157 : decode cX9_nextOf 157 = .ok (.getfield 21, 3) := by decide +kernel
theorem dX9_nextOf_160 : decode cX9_nextOf 160 = .ok (.iload 6, 2) := by decide +kernel
theorem dX9_nextOf_162 : decode cX9_nextOf 162 = .ok (.iaload, 1) := by decide +kernel
theorem dX9_nextOf_163 : decode cX9_nextOf 163 = .ok (.iconst 1, 1) := by decide +kernel
theorem dX9_nextOf_164 : decode cX9_nextOf 164 = .ok (.iadd, 1) := by decide +kernel
theorem dX9_nextOf_165 : decode cX9_nextOf 165 = .ok (.goto 10, 3) := by decide +kernel
theorem dX9_nextOf_168 : decode cX9_nextOf 168 = .ok (.aload_n 0, 1) := by decide +kernel
theorem dX9_nextOf_169 : decode cX9_nextOf 169 = .ok (.getfield 21, 3) := by decide +kernel
theorem dX9_nextOf_172 : decode cX9_nextOf 172 = .ok (.iload 6, 2) := by decide +kernel
theorem dX9_nextOf_174 : decode cX9_nextOf 174 = .ok (.iaload, 1) := by decide +kernel
theorem dX9_nextOf_175 : decode cX9_nextOf 175 = .ok (.iadd, 1) := by decide +kernel
theorem dX9_nextOf_176 : decode cX9_nextOf 176 = .ok (.istore 5, 2) := by decide +kernel
theorem dX9_nextOf_178 : decode cX9_nextOf 178 = .ok (.iinc 6 1, 3) := by decide +kernel
theorem dX9_nextOf_181 : decode cX9_nextOf 181 = .ok (.goto (-70), 3) := by decide +kernel
theorem dX9_nextOf_184 : decode cX9_nextOf 184 = .ok (.iload 5, 2) := by decide +kernel
theorem dX9_nextOf_186 : decode cX9_nextOf 186 = .ok (.ireturn, 1) := by decide +kernel
theorem dX9_numberOf_0 : decode cX9_numberOf 0 = .ok (.iconst 0, 1) := by decide +kernel
theorem dX9_numberOf_1 : decode cX9_numberOf 1 = .ok (.istore_n 2, 1) := by decide +kernel
theorem dX9_numberOf_2 : decode cX9_numberOf 2 = .ok (.iload_n 2, 1) := by decide +kernel
theorem dX9_numberOf_3 : decode cX9_numberOf 3 = .ok (.aload_n 0, 1) := by decide +kernel
theorem dX9_numberOf_4 : decode cX9_numberOf 4 = .ok (.getfield 191, 3) := by decide +kernel
theorem dX9_numberOf_7 : decode cX9_numberOf 7 = .ok (.if_icmp .ge 21, 3) := by decide +kernel
theorem dX9_numberOf_10 : decode cX9_numberOf 10 = .ok (.aload_n 0, 1) := by decide +kernel
theorem dX9_numberOf_11 : decode cX9_numberOf 11 = .ok (.getfield 46, 3) := by decide +kernel
theorem dX9_numberOf_14 : decode cX9_numberOf 14 = .ok (.iload_n 2, 1) := by decide +kernel
theorem dX9_numberOf_15 : decode cX9_numberOf 15 = .ok (.iaload, 1) := by decide +kernel
theorem dX9_numberOf_16 : decode cX9_numberOf 16 = .ok (.iload_n 1, 1) := by decide +kernel
theorem dX9_numberOf_17 : decode cX9_numberOf 17 = .ok (.if_icmp .ne 5, 3) := by decide +kernel
theorem dX9_numberOf_20 : decode cX9_numberOf 20 = .ok (.iload_n 2, 1) := by decide +kernel
theorem dX9_numberOf_21 : decode cX9_numberOf 21 = .ok (.ireturn, 1) := by decide +kernel
theorem dX9_numberOf_22 : decode cX9_numberOf 22 = .ok (.iinc 2 1, 3) := by decide +kernel
theorem dX9_numberOf_25 : decode cX9_numberOf 25 = .ok (.goto (-23), 3) := by decide +kernel
theorem dX9_numberOf_28 : decode cX9_numberOf 28 = .ok (.iconst (-1), 1) := by decide +kernel
theorem dX9_numberOf_29 : decode cX9_numberOf 29 = .ok (.ireturn, 1) := by decide +kernel
theorem dX9_findsClass_0 : decode cX9_findsClass 0 = .ok (.aload_n 0, 1) := by decide +kernel
theorem dX9_findsClass_1 : decode cX9_findsClass 1 = .ok (.getfield 46, 3) := by decide +kernel
theorem dX9_findsClass_4 : decode cX9_findsClass 4 = .ok (.iconst 0, 1) := by decide +kernel
theorem dX9_findsClass_5 : decode cX9_findsClass 5 = .ok (.aload_n 0, 1) := by decide +kernel
theorem dX9_findsClass_6 : decode cX9_findsClass 6 = .ok (.invokevirtual 127, 3) := by decide +kernel
theorem dX9_findsClass_9 : decode cX9_findsClass 9 = .ok (.iastore, 1) := by decide +kernel
theorem dX9_findsClass_10 : decode cX9_findsClass 10 = .ok (.aload_n 0, 1) := by decide +kernel
theorem dX9_findsClass_11 : decode cX9_findsClass 11 = .ok (.getfield 49, 3) := by decide +kernel
theorem dX9_findsClass_14 : decode cX9_findsClass 14 = .ok (.iconst 0, 1) := by decide +kernel
theorem dX9_findsClass_15 : decode cX9_findsClass 15 = .ok (.iconst 0, 1) := by decide +kernel
theorem dX9_findsClass_16 : decode cX9_findsClass 16 = .ok (.iastore, 1) := by decide +kernel
theorem dX9_findsClass_17 : decode cX9_findsClass 17 = .ok (.aload_n 0, 1) := by decide +kernel
theorem dX9_findsClass_18 : decode cX9_findsClass 18 = .ok (.iconst 1, 1) := by decide +kernel
theorem dX9_findsClass_19 : decode cX9_findsClass 19 = .ok (.putfield 191, 3) := by decide +kernel
theorem dX9_findsClass_22 : decode cX9_findsClass 22 = .ok (.iconst 0, 1) := by decide +kernel
theorem dX9_findsClass_23 : decode cX9_findsClass 23 = .ok (.istore_n 1, 1) := by decide +kernel
theorem dX9_findsClass_24 : decode cX9_findsClass 24 = .ok (.iload_n 1, 1) := by decide +kernel
theorem dX9_findsClass_25 : decode cX9_findsClass 25 = .ok (.aload_n 0, 1) := by decide +kernel
theorem dX9_findsClass_26 : decode cX9_findsClass 26 = .ok (.getfield 191, 3) := by decide +kernel
theorem dX9_findsClass_29 : decode cX9_findsClass 29 = .ok (.if_icmp .ge 86, 3) := by decide +kernel
theorem dX9_findsClass_32 : decode cX9_findsClass 32 = .ok (.iconst 0, 1) := by decide +kernel
theorem dX9_findsClass_33 : decode cX9_findsClass 33 = .ok (.istore_n 2, 1) := by decide +kernel
theorem dX9_findsClass_34 : decode cX9_findsClass 34 = .ok (.iload_n 2, 1) := by decide +kernel
theorem dX9_findsClass_35 : decode cX9_findsClass 35 = .ok (.iconst 2, 1) := by decide +kernel
theorem dX9_findsClass_36 : decode cX9_findsClass 36 = .ok (.if_icmp .ge 73, 3) := by decide +kernel
theorem dX9_findsClass_39 : decode cX9_findsClass 39 = .ok (.aload_n 0, 1) := by decide +kernel
theorem dX9_findsClass_40 : decode cX9_findsClass 40 = .ok (.aload_n 0, 1) := by decide +kernel
theorem dX9_findsClass_41 : decode cX9_findsClass 41 = .ok (.getfield 46, 3) := by decide +kernel
theorem dX9_findsClass_44 : decode cX9_findsClass 44 = .ok (.iload_n 1, 1) := by decide +kernel
theorem dX9_findsClass_45 : decode cX9_findsClass 45 = .ok (.iaload, 1) := by decide +kernel
theorem dX9_findsClass_46 : decode cX9_findsClass 46 = .ok (.iload_n 2, 1) := by decide +kernel
theorem dX9_findsClass_47 : decode cX9_findsClass 47 = .ok (.invokevirtual 194, 3) := by decide +kernel
theorem dX9_findsClass_50 : decode cX9_findsClass 50 = .ok (.istore_n 3, 1) := by decide +kernel
theorem dX9_findsClass_51 : decode cX9_findsClass 51 = .ok (.iload_n 3, 1) := by decide +kernel
theorem dX9_findsClass_52 : decode cX9_findsClass 52 = .ok (.bipush (-5), 2) := by decide +kernel
theorem dX9_findsClass_54 : decode cX9_findsClass 54 = .ok (.if_icmp .eq 49, 3) := by decide +kernel
theorem dX9_findsClass_57 : decode cX9_findsClass 57 = .ok (.aload_n 0, 1) := by decide +kernel
theorem dX9_findsClass_58 : decode cX9_findsClass 58 = .ok (.iload_n 3, 1) := by decide +kernel
theorem dX9_findsClass_59 : decode cX9_findsClass 59 = .ok (.invokevirtual 197, 3) := by decide +kernel
theorem dX9_findsClass_62 : decode cX9_findsClass 62 = .ok (.iconst (-1), 1) := by decide +kernel
theorem dX9_findsClass_63 : decode cX9_findsClass 63 = .ok (.if_icmp .ne 40, 3) := by decide +kernel
theorem dX9_findsClass_66 : decode cX9_findsClass 66 = .ok (.aload_n 0, 1) := by decide +kernel
theorem dX9_findsClass_67 : decode cX9_findsClass 67 = .ok (.getfield 46, 3) := by decide +kernel
theorem dX9_findsClass_70 : decode cX9_findsClass 70 = .ok (.aload_n 0, 1) := by decide +kernel
theorem dX9_findsClass_71 : decode cX9_findsClass 71 = .ok (.getfield 191, 3) := by decide +kernel
theorem dX9_findsClass_74 : decode cX9_findsClass 74 = .ok (.iload_n 3, 1) := by decide +kernel
theorem dX9_findsClass_75 : decode cX9_findsClass 75 = .ok (.iastore, 1) := by decide +kernel
theorem dX9_findsClass_76 : decode cX9_findsClass 76 = .ok (.aload_n 0, 1) := by decide +kernel
theorem dX9_findsClass_77 : decode cX9_findsClass 77 = .ok (.getfield 49, 3) := by decide +kernel
theorem dX9_findsClass_80 : decode cX9_findsClass 80 = .ok (.aload_n 0, 1) := by decide +kernel
theorem dX9_findsClass_81 : decode cX9_findsClass 81 = .ok (.getfield 191, 3) := by decide +kernel
theorem dX9_findsClass_84 : decode cX9_findsClass 84 = .ok (.aload_n 0, 1) := by decide +kernel
theorem dX9_findsClass_85 : decode cX9_findsClass 85 = .ok (.getfield 49, 3) := by decide +kernel
theorem dX9_findsClass_88 : decode cX9_findsClass 88 = .ok (.iload_n 1, 1) := by decide +kernel
theorem dX9_findsClass_89 : decode cX9_findsClass 89 = .ok (.iaload, 1) := by decide +kernel
theorem dX9_findsClass_90 : decode cX9_findsClass 90 = .ok (.iconst 1, 1) := by decide +kernel
theorem dX9_findsClass_91 : decode cX9_findsClass 91 = .ok (.iadd, 1) := by decide +kernel
theorem dX9_findsClass_92 : decode cX9_findsClass 92 = .ok (.iastore, 1) := by decide +kernel
theorem dX9_findsClass_93 : decode cX9_findsClass 93 = .ok (.aload_n 0, 1) := by decide +kernel
theorem dX9_findsClass_94 : decode cX9_findsClass 94 = .ok (.dup, 1) := by decide +kernel
theorem dX9_findsClass_95 : decode cX9_findsClass 95 = .ok (.getfield 191, 3) := by decide +kernel
theorem dX9_findsClass_98 : decode cX9_findsClass 98 = .ok (.iconst 1, 1) := by decide +kernel
theorem dX9_findsClass_99 : decode cX9_findsClass 99 = .ok (.iadd, 1) := by decide +kernel
theorem dX9_findsClass_100 : decode cX9_findsClass 100 = .ok (.putfield 191, 3) := by decide +kernel
theorem dX9_findsClass_103 : decode cX9_findsClass 103 = .ok (.iinc 2 1, 3) := by decide +kernel
theorem dX9_findsClass_106 : decode cX9_findsClass 106 = .ok (.goto (-72), 3) := by decide +kernel
theorem dX9_findsClass_109 : decode cX9_findsClass 109 = .ok (.iinc 1 1, 3) := by decide +kernel
theorem dX9_findsClass_112 : decode cX9_findsClass 112 = .ok (.goto (-88), 3) := by decide +kernel
theorem dX9_findsClass_115 : decode cX9_findsClass 115 = .ok (.return_, 1) := by decide +kernel
theorem dX9_code_0 : decode cX9_code 0 = .ok (.iload_n 1, 1) := by decide +kernel
theorem dX9_code_1 : decode cX9_code 1 = .ok (.ifCond .ge 5, 3) := by decide +kernel
theorem dX9_code_4 : decode cX9_code 4 = .ok (.iconst (-1), 1) := by decide +kernel
theorem dX9_code_5 : decode cX9_code 5 = .ok (.ireturn, 1) := by decide +kernel
theorem dX9_code_6 : decode cX9_code 6 = .ok (.aload_n 0, 1) := by decide +kernel
theorem dX9_code_7 : decode cX9_code 7 = .ok (.invokevirtual 200, 3) := by decide +kernel
theorem dX9_code_10 : decode cX9_code 10 = .ok (.iconst 0, 1) := by decide +kernel
theorem dX9_code_11 : decode cX9_code 11 = .ok (.istore_n 2, 1) := by decide +kernel
theorem dX9_code_12 : decode cX9_code 12 = .ok (.iload_n 2, 1) := by decide +kernel
theorem dX9_code_13 : decode cX9_code 13 = .ok (.aload_n 0, 1) := by decide +kernel
theorem dX9_code_14 : decode cX9_code 14 = .ok (.getfield 191, 3) := by decide +kernel
theorem dX9_code_17 : decode cX9_code 17 = .ok (.if_icmp .ge 68, 3) := by decide +kernel
theorem dX9_code_20 : decode cX9_code 20 = .ok (.iconst 0, 1) := by decide +kernel
theorem dX9_code_21 : decode cX9_code 21 = .ok (.istore_n 3, 1) := by decide +kernel
theorem dX9_code_22 : decode cX9_code 22 = .ok (.iconst 0, 1) := by decide +kernel
theorem dX9_code_23 : decode cX9_code 23 = .ok (.istore 4, 2) := by decide +kernel
theorem dX9_code_25 : decode cX9_code 25 = .ok (.iload 4, 2) := by decide +kernel
theorem dX9_code_27 : decode cX9_code 27 = .ok (.aload_n 0, 1) := by decide +kernel
theorem dX9_code_28 : decode cX9_code 28 = .ok (.getfield 191, 3) := by decide +kernel
theorem dX9_code_31 : decode cX9_code 31 = .ok (.if_icmp .ge 36, 3) := by decide +kernel
theorem dX9_code_34 : decode cX9_code 34 = .ok (.iload_n 3, 1) := by decide +kernel
theorem dX9_code_35 : decode cX9_code 35 = .ok (.aload_n 0, 1) := by decide +kernel
theorem dX9_code_36 : decode cX9_code 36 = .ok (.getfield 46, 3) := by decide +kernel
theorem dX9_code_39 : decode cX9_code 39 = .ok (.iload 4, 2) := by decide +kernel
theorem dX9_code_41 : decode cX9_code 41 = .ok (.iaload, 1) := by decide +kernel
theorem dX9_code_42 : decode cX9_code 42 = .ok (.aload_n 0, 1) := by decide +kernel
theorem dX9_code_43 : decode cX9_code 43 = .ok (.getfield 46, 3) := by decide +kernel
theorem dX9_code_46 : decode cX9_code 46 = .ok (.iload_n 2, 1) := by decide +kernel
theorem dX9_code_47 : decode cX9_code 47 = .ok (.iaload, 1) := by decide +kernel
theorem dX9_code_48 : decode cX9_code 48 = .ok (.if_icmp .ge 7, 3) := by decide +kernel
theorem dX9_code_51 : decode cX9_code 51 = .ok (.iconst 1, 1) := by decide +kernel
theorem dX9_code_52 : decode cX9_code 52 = .ok (.goto 4, 3) := by decide +kernel
theorem dX9_code_55 : decode cX9_code 55 = .ok (.iconst 0, 1) := by decide +kernel
theorem dX9_code_56 : decode cX9_code 56 = .ok (.invokestatic 181, 3) := by decide +kernel
theorem dX9_code_59 : decode cX9_code 59 = .ok (.iadd, 1) := by decide +kernel
theorem dX9_code_60 : decode cX9_code 60 = .ok (.istore_n 3, 1) := by decide +kernel
theorem dX9_code_61 : decode cX9_code 61 = .ok (.iinc 4 1, 3) := by decide +kernel
theorem dX9_code_64 : decode cX9_code 64 = .ok (.goto (-39), 3) := by decide +kernel
theorem dX9_code_67 : decode cX9_code 67 = .ok (.iload_n 3, 1) := by decide +kernel
theorem dX9_code_68 : decode cX9_code 68 = .ok (.iload_n 1, 1) := by decide +kernel
theorem dX9_code_69 : decode cX9_code 69 = .ok (.if_icmp .ne 10, 3) := by decide +kernel
theorem dX9_code_72 : decode cX9_code 72 = .ok (.aload_n 0, 1) := by decide +kernel
theorem dX9_code_73 : decode cX9_code 73 = .ok (.getfield 46, 3) := by decide +kernel
theorem dX9_code_76 : decode cX9_code 76 = .ok (.iload_n 2, 1) := by decide +kernel
theorem dX9_code_77 : decode cX9_code 77 = .ok (.iaload, 1) := by decide +kernel
theorem dX9_code_78 : decode cX9_code 78 = .ok (.ireturn, 1) := by decide +kernel
theorem dX9_code_79 : decode cX9_code 79 = .ok (.iinc 2 1, 3) := by decide +kernel
theorem dX9_code_82 : decode cX9_code 82 = .ok (.goto (-70), 3) := by decide +kernel
theorem dX9_code_85 : decode cX9_code 85 = .ok (.bipush (-5), 2) := by decide +kernel
theorem dX9_code_87 : decode cX9_code 87 = .ok (.ireturn, 1) := by decide +kernel
theorem dX9_next_0 : decode cX9_next 0 = .ok (.iload_n 2, 1) := by decide +kernel
theorem dX9_next_1 : decode cX9_next 1 = .ok (.i2l, 1) := by decide +kernel
theorem dX9_next_2 : decode cX9_next 2 = .ok (.lconst 0, 1) := by decide +kernel
theorem dX9_next_3 : decode cX9_next 3 = .ok (.lconst 1, 1) := by decide +kernel
theorem dX9_next_4 : decode cX9_next 4 = .ok (.invokestatic 66, 3) := by decide +kernel
theorem dX9_next_7 : decode cX9_next 7 = .ok (.ifCond .ne 5, 3) := by decide +kernel
theorem dX9_next_10 : decode cX9_next 10 = .ok (.iconst (-1), 1) := by decide +kernel
theorem dX9_next_11 : decode cX9_next 11 = .ok (.ireturn, 1) := by decide +kernel
theorem dX9_next_12 : decode cX9_next 12 = .ok (.aload_n 0, 1) := by decide +kernel
theorem dX9_next_13 : decode cX9_next 13 = .ok (.iload_n 1, 1) := by decide +kernel
theorem dX9_next_14 : decode cX9_next 14 = .ok (.invokevirtual 103, 3) := by decide +kernel
theorem dX9_next_17 : decode cX9_next 17 = .ok (.ifCond .eq 12, 3) := by decide +kernel
theorem dX9_next_20 : decode cX9_next 20 = .ok (.aload_n 0, 1) := by decide +kernel
theorem dX9_next_21 : decode cX9_next 21 = .ok (.iload_n 1, 1) := by decide +kernel
theorem dX9_next_22 : decode cX9_next 22 = .ok (.iload_n 2, 1) := by decide +kernel
theorem dX9_next_23 : decode cX9_next 23 = .ok (.invokevirtual 194, 3) := by decide +kernel
theorem dX9_next_26 : decode cX9_next 26 = .ok (.goto 5, 3) := by decide +kernel
theorem dX9_next_29 : decode cX9_next 29 = .ok (.bipush (-2), 2) := by decide +kernel
theorem dX9_next_31 : decode cX9_next 31 = .ok (.ireturn, 1) := by decide +kernel
theorem dX9_meetingOf_0 : decode cX9_meetingOf 0 = .ok (.iload_n 1, 1) := by decide +kernel
theorem dX9_meetingOf_1 : decode cX9_meetingOf 1 = .ok (.ifCond .ne 16, 3) := by decide +kernel
theorem dX9_meetingOf_4 : decode cX9_meetingOf 4 = .ok (.aload_n 0, 1) := by decide +kernel
theorem dX9_meetingOf_5 : decode cX9_meetingOf 5 = .ok (.iconst 2, 1) := by decide +kernel
theorem dX9_meetingOf_6 : decode cX9_meetingOf 6 = .ok (.aload_n 0, 1) := by decide +kernel
theorem dX9_meetingOf_7 : decode cX9_meetingOf 7 = .ok (.getfield 11, 3) := by decide +kernel
theorem dX9_meetingOf_10 : decode cX9_meetingOf 10 = .ok (.bipush 7, 2) := by decide +kernel
theorem dX9_meetingOf_12 : decode cX9_meetingOf 12 = .ok (.iaload, 1) := by decide +kernel
theorem dX9_meetingOf_13 : decode cX9_meetingOf 13 = .ok (.invokevirtual 78, 3) := by decide +kernel
theorem dX9_meetingOf_16 : decode cX9_meetingOf 16 = .ok (.ireturn, 1) := by decide +kernel
theorem dX9_meetingOf_17 : decode cX9_meetingOf 17 = .ok (.aload_n 0, 1) := by decide +kernel
theorem dX9_meetingOf_18 : decode cX9_meetingOf 18 = .ok (.bipush 7, 2) := by decide +kernel
theorem dX9_meetingOf_20 : decode cX9_meetingOf 20 = .ok (.aload_n 0, 1) := by decide +kernel
theorem dX9_meetingOf_21 : decode cX9_meetingOf 21 = .ok (.getfield 11, 3) := by decide +kernel
theorem dX9_meetingOf_24 : decode cX9_meetingOf 24 = .ok (.iconst 2, 1) := by decide +kernel
theorem dX9_meetingOf_25 : decode cX9_meetingOf 25 = .ok (.iload_n 1, 1) := by decide +kernel
theorem dX9_meetingOf_26 : decode cX9_meetingOf 26 = .ok (.iadd, 1) := by decide +kernel
theorem dX9_meetingOf_27 : decode cX9_meetingOf 27 = .ok (.iconst 1, 1) := by decide +kernel
theorem dX9_meetingOf_28 : decode cX9_meetingOf 28 = .ok (.isub, 1) := by decide +kernel
theorem dX9_meetingOf_29 : decode cX9_meetingOf 29 = .ok (.iaload, 1) := by decide +kernel
theorem dX9_meetingOf_30 : decode cX9_meetingOf 30 = .ok (.invokevirtual 78, 3) := by decide +kernel
theorem dX9_meetingOf_33 : decode cX9_meetingOf 33 = .ok (.istore_n 2, 1) := by decide +kernel
theorem dX9_meetingOf_34 : decode cX9_meetingOf 34 = .ok (.iload_n 2, 1) := by decide +kernel
theorem dX9_meetingOf_35 : decode cX9_meetingOf 35 = .ok (.iconst 1, 1) := by decide +kernel
theorem dX9_meetingOf_36 : decode cX9_meetingOf 36 = .ok (.iadd, 1) := by decide +kernel
theorem dX9_meetingOf_37 : decode cX9_meetingOf 37 = .ok (.aload_n 0, 1) := by decide +kernel
theorem dX9_meetingOf_38 : decode cX9_meetingOf 38 = .ok (.getfield 11, 3) := by decide +kernel
theorem dX9_meetingOf_41 : decode cX9_meetingOf 41 = .ok (.iconst 0, 1) := by decide +kernel
theorem dX9_meetingOf_42 : decode cX9_meetingOf 42 = .ok (.iaload, 1) := by decide +kernel
theorem dX9_meetingOf_43 : decode cX9_meetingOf 43 = .ok (.if_icmp .ne 12, 3) := by decide +kernel
theorem dX9_meetingOf_46 : decode cX9_meetingOf 46 = .ok (.aload_n 0, 1) := by decide +kernel
theorem dX9_meetingOf_47 : decode cX9_meetingOf 47 = .ok (.getfield 11, 3) := by decide +kernel
theorem dX9_meetingOf_50 : decode cX9_meetingOf 50 = .ok (.iconst 0, 1) := by decide +kernel
theorem dX9_meetingOf_51 : decode cX9_meetingOf 51 = .ok (.iaload, 1) := by decide +kernel
theorem dX9_meetingOf_52 : decode cX9_meetingOf 52 = .ok (.goto 19, 3) := by decide +kernel
theorem dX9_meetingOf_55 : decode cX9_meetingOf 55 = .ok (.aload_n 0, 1) := by decide +kernel
theorem dX9_meetingOf_56 : decode cX9_meetingOf 56 = .ok (.iconst 2, 1) := by decide +kernel
theorem dX9_meetingOf_57 : decode cX9_meetingOf 57 = .ok (.aload_n 0, 1) := by decide +kernel
theorem dX9_meetingOf_58 : decode cX9_meetingOf 58 = .ok (.getfield 11, 3) := by decide +kernel
theorem dX9_meetingOf_61 : decode cX9_meetingOf 61 = .ok (.bipush 7, 2) := by decide +kernel
theorem dX9_meetingOf_63 : decode cX9_meetingOf 63 = .ok (.iload_n 2, 1) := by decide +kernel
theorem dX9_meetingOf_64 : decode cX9_meetingOf 64 = .ok (.iadd, 1) := by decide +kernel
theorem dX9_meetingOf_65 : decode cX9_meetingOf 65 = .ok (.iconst 1, 1) := by decide +kernel
theorem dX9_meetingOf_66 : decode cX9_meetingOf 66 = .ok (.iadd, 1) := by decide +kernel
theorem dX9_meetingOf_67 : decode cX9_meetingOf 67 = .ok (.iaload, 1) := by decide +kernel
theorem dX9_meetingOf_68 : decode cX9_meetingOf 68 = .ok (.invokevirtual 78, 3) := by decide +kernel
theorem dX9_meetingOf_71 : decode cX9_meetingOf 71 = .ok (.ireturn, 1) := by decide +kernel
theorem dX9_meeting_0 : decode cX9_meeting 0 = .ok (.iload_n 1, 1) := by decide +kernel
theorem dX9_meeting_1 : decode cX9_meeting 1 = .ok (.i2l, 1) := by decide +kernel
theorem dX9_meeting_2 : decode cX9_meeting 2 = .ok (.lconst 0, 1) := by decide +kernel
theorem dX9_meeting_3 : decode cX9_meeting 3 = .ok (.aload_n 0, 1) := by decide +kernel
theorem dX9_meeting_4 : decode cX9_meeting 4 = .ok (.getfield 11, 3) := by decide +kernel
theorem dX9_meeting_7 : decode cX9_meeting 7 = .ok (.iconst 0, 1) := by decide +kernel
theorem dX9_meeting_8 : decode cX9_meeting 8 = .ok (.iaload, 1) := by decide +kernel
theorem dX9_meeting_9 : decode cX9_meeting 9 = .ok (.i2l, 1) := by decide +kernel
theorem dX9_meeting_10 : decode cX9_meeting 10 = .ok (.invokestatic 66, 3) := by decide +kernel
theorem dX9_meeting_13 : decode cX9_meeting 13 = .ok (.ifCond .eq 11, 3) := by decide +kernel
theorem dX9_meeting_16 : decode cX9_meeting 16 = .ok (.aload_n 0, 1) := by decide +kernel
theorem dX9_meeting_17 : decode cX9_meeting 17 = .ok (.iload_n 1, 1) := by decide +kernel
theorem dX9_meeting_18 : decode cX9_meeting 18 = .ok (.invokevirtual 203, 3) := by decide +kernel
theorem dX9_meeting_21 : decode cX9_meeting 21 = .ok (.goto 4, 3) := by decide +kernel
theorem dX9_meeting_24 : decode cX9_meeting 24 = .ok (.iconst (-1), 1) := by decide +kernel
theorem dX9_meeting_25 : decode cX9_meeting 25 = .ok (.ireturn, 1) := by decide +kernel
theorem dX9_corners_0 : decode cX9_corners 0 = .ok (.iconst 0, 1) := by decide +kernel
theorem dX9_corners_1 : decode cX9_corners 1 = .ok (.istore_n 1, 1) := by decide +kernel
theorem dX9_corners_2 : decode cX9_corners 2 = .ok (.iconst 0, 1) := by decide +kernel
theorem dX9_corners_3 : decode cX9_corners 3 = .ok (.istore_n 2, 1) := by decide +kernel
theorem dX9_corners_4 : decode cX9_corners 4 = .ok (.iconst 0, 1) := by decide +kernel
theorem dX9_corners_5 : decode cX9_corners 5 = .ok (.istore_n 3, 1) := by decide +kernel
theorem dX9_corners_6 : decode cX9_corners 6 = .ok (.iload_n 3, 1) := by decide +kernel
theorem dX9_corners_7 : decode cX9_corners 7 = .ok (.aload_n 0, 1) := by decide +kernel
theorem dX9_corners_8 : decode cX9_corners 8 = .ok (.getfield 11, 3) := by decide +kernel
theorem dX9_corners_11 : decode cX9_corners 11 = .ok (.iconst 0, 1) := by decide +kernel
theorem dX9_corners_12 : decode cX9_corners 12 = .ok (.iaload, 1) := by decide +kernel
theorem dX9_corners_13 : decode cX9_corners 13 = .ok (.if_icmp .gt 58, 3) := by decide +kernel
theorem dX9_corners_16 : decode cX9_corners 16 = .ok (.iload_n 2, 1) := by decide +kernel
theorem dX9_corners_17 : decode cX9_corners 17 = .ok (.iload_n 1, 1) := by decide +kernel
theorem dX9_corners_18 : decode cX9_corners 18 = .ok (.iload_n 3, 1) := by decide +kernel
theorem dX9_corners_19 : decode cX9_corners 19 = .ok (.ishr, 1) := by decide +kernel
theorem dX9_corners_20 : decode cX9_corners 20 = .ok (.iconst 1, 1) := by decide +kernel
theorem dX9_corners_21 : decode cX9_corners 21 = .ok (.iand, 1) := by decide +kernel
theorem dX9_corners_22 : decode cX9_corners 22 = .ok (.ifCond .ne 7, 3) := by decide +kernel
theorem dX9_corners_25 : decode cX9_corners 25 = .ok (.iconst 1, 1) := by decide +kernel
theorem dX9_corners_26 : decode cX9_corners 26 = .ok (.goto 4, 3) := by decide +kernel
theorem dX9_corners_29 : decode cX9_corners 29 = .ok (.iconst 0, 1) := by decide +kernel
theorem dX9_corners_30 : decode cX9_corners 30 = .ok (.invokestatic 181, 3) := by decide +kernel
theorem dX9_corners_33 : decode cX9_corners 33 = .ok (.iadd, 1) := by decide +kernel
theorem dX9_corners_34 : decode cX9_corners 34 = .ok (.istore_n 2, 1) := by decide +kernel
theorem dX9_corners_35 : decode cX9_corners 35 = .ok (.iload_n 3, 1) := by decide +kernel
theorem dX9_corners_36 : decode cX9_corners 36 = .ok (.istore 4, 2) := by decide +kernel
theorem dX9_corners_38 : decode cX9_corners 38 = .ok (.iload_n 1, 1) := by decide +kernel
theorem dX9_corners_39 : decode cX9_corners 39 = .ok (.iload 4, 2) := by decide +kernel
theorem dX9_corners_41 : decode cX9_corners 41 = .ok (.ishr, 1) := by decide +kernel
theorem dX9_corners_42 : decode cX9_corners 42 = .ok (.iconst 1, 1) := by decide +kernel
theorem dX9_corners_43 : decode cX9_corners 43 = .ok (.iand, 1) := by decide +kernel
theorem dX9_corners_44 : decode cX9_corners 44 = .ok (.ifCond .ne 21, 3) := by decide +kernel
theorem dX9_corners_47 : decode cX9_corners 47 = .ok (.iload_n 1, 1) := by decide +kernel
theorem dX9_corners_48 : decode cX9_corners 48 = .ok (.iconst 1, 1) := by decide +kernel
theorem dX9_corners_49 : decode cX9_corners 49 = .ok (.iload 4, 2) := by decide +kernel
theorem dX9_corners_51 : decode cX9_corners 51 = .ok (.ishl, 1) := by decide +kernel
theorem dX9_corners_52 : decode cX9_corners 52 = .ok (.ior, 1) := by decide +kernel
theorem dX9_corners_53 : decode cX9_corners 53 = .ok (.istore_n 1, 1) := by decide +kernel
theorem dX9_corners_54 : decode cX9_corners 54 = .ok (.aload_n 0, 1) := by decide +kernel
theorem dX9_corners_55 : decode cX9_corners 55 = .ok (.iload 4, 2) := by decide +kernel
theorem dX9_corners_57 : decode cX9_corners 57 = .ok (.invokevirtual 203, 3) := by decide +kernel
theorem dX9_corners_60 : decode cX9_corners 60 = .ok (.istore 4, 2) := by decide +kernel
theorem dX9_corners_62 : decode cX9_corners 62 = .ok (.goto (-24), 3) := by decide +kernel
theorem dX9_corners_65 : decode cX9_corners 65 = .ok (.iinc 3 1, 3) := by decide +kernel
theorem dX9_corners_68 : decode cX9_corners 68 = .ok (.goto (-62), 3) := by decide +kernel
theorem dX9_corners_71 : decode cX9_corners 71 = .ok (.iload_n 2, 1) := by decide +kernel
theorem dX9_corners_72 : decode cX9_corners 72 = .ok (.ireturn, 1) := by decide +kernel
theorem dX9_told_0 : decode cX9_told 0 = .ok (.iload_n 1, 1) := by decide +kernel
theorem dX9_told_1 : decode cX9_told 1 = .ok (.tableswitch 175 0 10 #[59, 66, 71, 76, 83, 91, 100, 132, 137, 165, 170], 59) := by decide +kernel
theorem dX9_told_60 : decode cX9_told 60 = .ok (.aload_n 0, 1) := by decide +kernel
theorem dX9_told_61 : decode cX9_told 61 = .ok (.getfield 11, 3) := by decide +kernel
theorem dX9_told_64 : decode cX9_told 64 = .ok (.iconst 0, 1) := by decide +kernel
theorem dX9_told_65 : decode cX9_told 65 = .ok (.iaload, 1) := by decide +kernel
theorem dX9_told_66 : decode cX9_told 66 = .ok (.ireturn, 1) := by decide +kernel
theorem dX9_told_67 : decode cX9_told 67 = .ok (.aload_n 0, 1) := by decide +kernel
theorem dX9_told_68 : decode cX9_told 68 = .ok (.invokevirtual 121, 3) := by decide +kernel
theorem dX9_told_71 : decode cX9_told 71 = .ok (.ireturn, 1) := by decide +kernel
theorem dX9_told_72 : decode cX9_told 72 = .ok (.aload_n 0, 1) := by decide +kernel
theorem dX9_told_73 : decode cX9_told 73 = .ok (.invokevirtual 127, 3) := by decide +kernel
theorem dX9_told_76 : decode cX9_told 76 = .ok (.ireturn, 1) := by decide +kernel
theorem dX9_told_77 : decode cX9_told 77 = .ok (.aload_n 0, 1) := by decide +kernel
theorem dX9_told_78 : decode cX9_told 78 = .ok (.getfield 11, 3) := by decide +kernel
theorem dX9_told_81 : decode cX9_told 81 = .ok (.iconst 1, 1) := by decide +kernel
theorem dX9_told_82 : decode cX9_told 82 = .ok (.iaload, 1) := by decide +kernel
theorem dX9_told_83 : decode cX9_told 83 = .ok (.ireturn, 1) := by decide +kernel
theorem dX9_told_84 : decode cX9_told 84 = .ok (.aload_n 0, 1) := by decide +kernel
theorem dX9_told_85 : decode cX9_told 85 = .ok (.invokevirtual 206, 3) := by decide +kernel
theorem dX9_told_88 : decode cX9_told 88 = .ok (.invokestatic 181, 3) := by decide +kernel
theorem dX9_told_91 : decode cX9_told 91 = .ok (.ireturn, 1) := by decide +kernel
theorem dX9_told_92 : decode cX9_told 92 = .ok (.aload_n 0, 1) := by decide +kernel
theorem dX9_told_93 : decode cX9_told 93 = .ok (.invokevirtual 200, 3) := by decide +kernel
theorem dX9_told_96 : decode cX9_told 96 = .ok (.aload_n 0, 1) := by decide +kernel
theorem dX9_told_97 : decode cX9_told 97 = .ok (.getfield 191, 3) := by decide +kernel
theorem dX9_told_100 : decode cX9_told 100 = .ok (.ireturn, 1) := by decide +kernel
theorem dX9_told_101 : decode cX9_told 101 = .ok (.aload_n 0, 1) := by decide +kernel
theorem dX9_told_102 : decode cX9_told 102 = .ok (.invokevirtual 200, 3) := by decide +kernel
theorem dX9_told_105 : decode cX9_told 105 = .ok (.aload_n 0, 1) := by decide +kernel
theorem dX9_told_106 : decode cX9_told 106 = .ok (.aload_n 0, 1) := by decide +kernel
theorem dX9_told_107 : decode cX9_told 107 = .ok (.getfield 11, 3) := by decide +kernel
theorem dX9_told_110 : decode cX9_told 110 = .ok (.iconst 1, 1) := by decide +kernel
theorem dX9_told_111 : decode cX9_told 111 = .ok (.iaload, 1) := by decide +kernel
theorem dX9_told_112 : decode cX9_told 112 = .ok (.invokevirtual 197, 3) := by decide +kernel
theorem dX9_told_115 : decode cX9_told 115 = .ok (.istore_n 2, 1) := by decide +kernel
theorem dX9_told_116 : decode cX9_told 116 = .ok (.iload_n 2, 1) := by decide +kernel
theorem dX9_told_117 : decode cX9_told 117 = .ok (.iconst (-1), 1) := by decide +kernel
theorem dX9_told_118 : decode cX9_told 118 = .ok (.if_icmp .ne 8, 3) := by decide +kernel
theorem dX9_told_121 : decode cX9_told 121 = .ok (.bipush (-5), 2) := by decide +kernel
theorem dX9_told_123 : decode cX9_told 123 = .ok (.goto 9, 3) := by decide +kernel
theorem dX9_told_126 : decode cX9_told 126 = .ok (.aload_n 0, 1) := by decide +kernel
theorem dX9_told_127 : decode cX9_told 127 = .ok (.getfield 49, 3) := by decide +kernel
theorem dX9_told_130 : decode cX9_told 130 = .ok (.iload_n 2, 1) := by decide +kernel
theorem dX9_told_131 : decode cX9_told 131 = .ok (.iaload, 1) := by decide +kernel
theorem dX9_told_132 : decode cX9_told 132 = .ok (.ireturn, 1) := by decide +kernel
theorem dX9_told_133 : decode cX9_told 133 = .ok (.aload_n 0, 1) := by decide +kernel
theorem dX9_told_134 : decode cX9_told 134 = .ok (.invokevirtual 209, 3) := by decide +kernel
theorem dX9_told_137 : decode cX9_told 137 = .ok (.ireturn, 1) := by decide +kernel
theorem dX9_told_138 : decode cX9_told 138 = .ok (.aload_n 0, 1) := by decide +kernel
theorem dX9_told_139 : decode cX9_told 139 = .ok (.invokevirtual 206, 3) := by decide +kernel
theorem dX9_told_142 : decode cX9_told 142 = .ok (.ifCond .eq 21, 3) := by decide +kernel
theorem dX9_told_145 : decode cX9_told 145 = .ok (.aload_n 0, 1) := by decide +kernel
theorem dX9_told_146 : decode cX9_told 146 = .ok (.getfield 11, 3) := by decide +kernel
theorem dX9_told_149 : decode cX9_told 149 = .ok (.iconst 0, 1) := by decide +kernel
theorem dX9_told_150 : decode cX9_told 150 = .ok (.iaload, 1) := by decide +kernel
theorem dX9_told_151 : decode cX9_told 151 = .ok (.iconst 1, 1) := by decide +kernel
theorem dX9_told_152 : decode cX9_told 152 = .ok (.iadd, 1) := by decide +kernel
theorem dX9_told_153 : decode cX9_told 153 = .ok (.aload_n 0, 1) := by decide +kernel
theorem dX9_told_154 : decode cX9_told 154 = .ok (.invokevirtual 209, 3) := by decide +kernel
theorem dX9_told_157 : decode cX9_told 157 = .ok (.isub, 1) := by decide +kernel
theorem dX9_told_158 : decode cX9_told 158 = .ok (.iconst 2, 1) := by decide +kernel
theorem dX9_told_159 : decode cX9_told 159 = .ok (.idiv, 1) := by decide +kernel
theorem dX9_told_160 : decode cX9_told 160 = .ok (.goto 5, 3) := by decide +kernel
theorem dX9_told_163 : decode cX9_told 163 = .ok (.bipush (-5), 2) := by decide +kernel
theorem dX9_told_165 : decode cX9_told 165 = .ok (.ireturn, 1) := by decide +kernel
theorem dX9_told_166 : decode cX9_told 166 = .ok (.aload_n 0, 1) := by decide +kernel
theorem dX9_told_167 : decode cX9_told 167 = .ok (.invokevirtual 212, 3) := by decide +kernel
theorem dX9_told_170 : decode cX9_told 170 = .ok (.ireturn, 1) := by decide +kernel
theorem dX9_told_171 : decode cX9_told 171 = .ok (.aload_n 0, 1) := by decide +kernel
theorem dX9_told_172 : decode cX9_told 172 = .ok (.invokevirtual 215, 3) := by decide +kernel
theorem dX9_told_175 : decode cX9_told 175 = .ok (.ireturn, 1) := by decide +kernel
theorem dX9_told_176 : decode cX9_told 176 = .ok (.iconst (-1), 1) := by decide +kernel
theorem dX9_told_177 : decode cX9_told 177 = .ok (.ireturn, 1) := by decide +kernel
theorem dX9_point_0 : decode cX9_point 0 = .ok (.iload_n 1, 1) := by decide +kernel
theorem dX9_point_1 : decode cX9_point 1 = .ok (.i2l, 1) := by decide +kernel
theorem dX9_point_2 : decode cX9_point 2 = .ok (.lconst 0, 1) := by decide +kernel
theorem dX9_point_3 : decode cX9_point 3 = .ok (.aload_n 0, 1) := by decide +kernel
theorem dX9_point_4 : decode cX9_point 4 = .ok (.invokevirtual 121, 3) := by decide +kernel
theorem dX9_point_7 : decode cX9_point 7 = .ok (.iconst 1, 1) := by decide +kernel
theorem dX9_point_8 : decode cX9_point 8 = .ok (.isub, 1) := by decide +kernel
theorem dX9_point_9 : decode cX9_point 9 = .ok (.i2l, 1) := by decide +kernel
theorem dX9_point_10 : decode cX9_point 10 = .ok (.invokestatic 66, 3) := by decide +kernel
theorem dX9_point_13 : decode cX9_point 13 = .ok (.ifCond .eq 15, 3) := by decide +kernel
theorem dX9_point_16 : decode cX9_point 16 = .ok (.iload_n 2, 1) := by decide +kernel
theorem dX9_point_17 : decode cX9_point 17 = .ok (.i2l, 1) := by decide +kernel
theorem dX9_point_18 : decode cX9_point 18 = .ok (.lconst 0, 1) := by decide +kernel
theorem dX9_point_19 : decode cX9_point 19 = .ok (.ldc2_w 95, 3) := by decide +kernel
theorem dX9_point_22 : decode cX9_point 22 = .ok (.invokestatic 66, 3) := by decide +kernel
theorem dX9_point_25 : decode cX9_point 25 = .ok (.ifCond .ne 5, 3) := by decide +kernel
theorem dX9_point_28 : decode cX9_point 28 = .ok (.iconst (-1), 1) := by decide +kernel
theorem dX9_point_29 : decode cX9_point 29 = .ok (.ireturn, 1) := by decide +kernel
theorem dX9_point_30 : decode cX9_point 30 = .ok (.aload_n 0, 1) := by decide +kernel
theorem dX9_point_31 : decode cX9_point 31 = .ok (.invokevirtual 188, 3) := by decide +kernel
theorem dX9_point_34 : decode cX9_point 34 = .ok (.pop, 1) := by decide +kernel
theorem dX9_point_35 : decode cX9_point 35 = .ok (.iload_n 2, 1) := by decide +kernel
theorem dX9_point_36 : decode cX9_point 36 = .ok (.iconst 2, 1) := by decide +kernel
theorem dX9_point_37 : decode cX9_point 37 = .ok (.if_icmp .ge 23, 3) := by decide +kernel
theorem dX9_point_40 : decode cX9_point 40 = .ok (.iload_n 2, 1) := by decide +kernel
theorem dX9_point_41 : decode cX9_point 41 = .ok (.ifCond .ne 12, 3) := by decide +kernel
theorem dX9_point_44 : decode cX9_point 44 = .ok (.aload_n 0, 1) := by decide +kernel
theorem dX9_point_45 : decode cX9_point 45 = .ok (.getfield 30, 3) := by decide +kernel
theorem dX9_point_48 : decode cX9_point 48 = .ok (.iload_n 1, 1) := by decide +kernel
theorem dX9_point_49 : decode cX9_point 49 = .ok (.iaload, 1) := by decide +kernel
theorem dX9_point_50 : decode cX9_point 50 = .ok (.goto 9, 3) := by decide +kernel
theorem dX9_point_53 : decode cX9_point 53 = .ok (.aload_n 0, 1) := by decide +kernel
theorem dX9_point_54 : decode cX9_point 54 = .ok (.getfield 33, 3) := by decide +kernel
theorem dX9_point_57 : decode cX9_point 57 = .ok (.iload_n 1, 1) := by decide +kernel
theorem dX9_point_58 : decode cX9_point 58 = .ok (.iaload, 1) := by decide +kernel
theorem dX9_point_59 : decode cX9_point 59 = .ok (.ireturn, 1) := by decide +kernel
theorem dX9_point_60 : decode cX9_point 60 = .ok (.iconst 1, 1) := by decide +kernel
theorem dX9_point_61 : decode cX9_point 61 = .ok (.istore_n 3, 1) := by decide +kernel
theorem dX9_point_62 : decode cX9_point 62 = .ok (.aload_n 0, 1) := by decide +kernel
theorem dX9_point_63 : decode cX9_point 63 = .ok (.getfield 30, 3) := by decide +kernel
theorem dX9_point_66 : decode cX9_point 66 = .ok (.iload_n 1, 1) := by decide +kernel
theorem dX9_point_67 : decode cX9_point 67 = .ok (.iaload, 1) := by decide +kernel
theorem dX9_point_68 : decode cX9_point 68 = .ok (.istore 4, 2) := by decide +kernel
theorem dX9_point_70 : decode cX9_point 70 = .ok (.iload 4, 2) := by decide +kernel
theorem dX9_point_72 : decode cX9_point 72 = .ok (.iload_n 1, 1) := by decide +kernel
theorem dX9_point_73 : decode cX9_point 73 = .ok (.if_icmp .eq 18, 3) := by decide +kernel
theorem dX9_point_76 : decode cX9_point 76 = .ok (.iinc 3 1, 3) := by decide +kernel
theorem dX9_point_79 : decode cX9_point 79 = .ok (.aload_n 0, 1) := by decide +kernel
theorem dX9_point_80 : decode cX9_point 80 = .ok (.getfield 30, 3) := by decide +kernel
theorem dX9_point_83 : decode cX9_point 83 = .ok (.iload 4, 2) := by decide +kernel
theorem dX9_point_85 : decode cX9_point 85 = .ok (.iaload, 1) := by decide +kernel
theorem dX9_point_86 : decode cX9_point 86 = .ok (.istore 4, 2) := by decide +kernel
theorem dX9_point_88 : decode cX9_point 88 = .ok (.goto (-18), 3) := by decide +kernel
theorem dX9_point_91 : decode cX9_point 91 = .ok (.iload_n 3, 1) := by decide +kernel
theorem dX9_point_92 : decode cX9_point 92 = .ok (.ireturn, 1) := by decide +kernel
theorem dX9_gone_0 : decode cX9_gone 0 = .ok (.iload_n 1, 1) := by decide +kernel
theorem dX9_gone_1 : decode cX9_gone 1 = .ok (.i2l, 1) := by decide +kernel
theorem dX9_gone_2 : decode cX9_gone 2 = .ok (.lconst 0, 1) := by decide +kernel
theorem dX9_gone_3 : decode cX9_gone 3 = .ok (.aload_n 0, 1) := by decide +kernel
theorem dX9_gone_4 : decode cX9_gone 4 = .ok (.invokevirtual 121, 3) := by decide +kernel
theorem dX9_gone_7 : decode cX9_gone 7 = .ok (.iconst 1, 1) := by decide +kernel
theorem dX9_gone_8 : decode cX9_gone 8 = .ok (.isub, 1) := by decide +kernel
theorem dX9_gone_9 : decode cX9_gone 9 = .ok (.i2l, 1) := by decide +kernel
theorem dX9_gone_10 : decode cX9_gone 10 = .ok (.invokestatic 66, 3) := by decide +kernel
theorem dX9_gone_13 : decode cX9_gone 13 = .ok (.ifCond .ne 5, 3) := by decide +kernel
theorem dX9_gone_16 : decode cX9_gone 16 = .ok (.iconst (-1), 1) := by decide +kernel
theorem dX9_gone_17 : decode cX9_gone 17 = .ok (.ireturn, 1) := by decide +kernel
theorem dX9_gone_18 : decode cX9_gone 18 = .ok (.iload_n 2, 1) := by decide +kernel
theorem dX9_gone_19 : decode cX9_gone 19 = .ok (.i2l, 1) := by decide +kernel
theorem dX9_gone_20 : decode cX9_gone 20 = .ok (.lconst 0, 1) := by decide +kernel
theorem dX9_gone_21 : decode cX9_gone 21 = .ok (.ldc2_w 218, 3) := by decide +kernel
theorem dX9_gone_24 : decode cX9_gone 24 = .ok (.invokestatic 66, 3) := by decide +kernel
theorem dX9_gone_27 : decode cX9_gone 27 = .ok (.ifCond .ne 6, 3) := by decide +kernel
theorem dX9_gone_30 : decode cX9_gone 30 = .ok (.bipush (-2), 2) := by decide +kernel
theorem dX9_gone_32 : decode cX9_gone 32 = .ok (.ireturn, 1) := by decide +kernel
theorem dX9_gone_33 : decode cX9_gone 33 = .ok (.aload_n 0, 1) := by decide +kernel
theorem dX9_gone_34 : decode cX9_gone 34 = .ok (.invokevirtual 188, 3) := by decide +kernel
theorem dX9_gone_37 : decode cX9_gone 37 = .ok (.pop, 1) := by decide +kernel
theorem dX9_gone_38 : decode cX9_gone 38 = .ok (.iload_n 1, 1) := by decide +kernel
theorem dX9_gone_39 : decode cX9_gone 39 = .ok (.istore_n 3, 1) := by decide +kernel
theorem dX9_gone_40 : decode cX9_gone 40 = .ok (.iconst 0, 1) := by decide +kernel
theorem dX9_gone_41 : decode cX9_gone 41 = .ok (.istore 4, 2) := by decide +kernel
theorem dX9_gone_43 : decode cX9_gone 43 = .ok (.iload 4, 2) := by decide +kernel
theorem dX9_gone_45 : decode cX9_gone 45 = .ok (.iload_n 2, 1) := by decide +kernel
theorem dX9_gone_46 : decode cX9_gone 46 = .ok (.if_icmp .ge 16, 3) := by decide +kernel
theorem dX9_gone_49 : decode cX9_gone 49 = .ok (.aload_n 0, 1) := by decide +kernel
theorem dX9_gone_50 : decode cX9_gone 50 = .ok (.getfield 30, 3) := by decide +kernel
theorem dX9_gone_53 : decode cX9_gone 53 = .ok (.iload_n 3, 1) := by decide +kernel
theorem dX9_gone_54 : decode cX9_gone 54 = .ok (.iaload, 1) := by decide +kernel
theorem dX9_gone_55 : decode cX9_gone 55 = .ok (.istore_n 3, 1) := by decide +kernel
theorem dX9_gone_56 : decode cX9_gone 56 = .ok (.iinc 4 1, 3) := by decide +kernel
theorem dX9_gone_59 : decode cX9_gone 59 = .ok (.goto (-16), 3) := by decide +kernel
theorem dX9_gone_62 : decode cX9_gone 62 = .ok (.iload_n 3, 1) := by decide +kernel
theorem dX9_gone_63 : decode cX9_gone 63 = .ok (.ireturn, 1) := by decide +kernel
theorem dX9_see_0 : decode cX9_see 0 = .ok (.iload_n 1, 1) := by decide +kernel
theorem dX9_see_1 : decode cX9_see 1 = .ok (.iconst (-1), 1) := by decide +kernel
theorem dX9_see_2 : decode cX9_see 2 = .ok (.if_icmp .ne 13, 3) := by decide +kernel
theorem dX9_see_5 : decode cX9_see 5 = .ok (.aload_n 0, 1) := by decide +kernel
theorem dX9_see_6 : decode cX9_see 6 = .ok (.getfield 11, 3) := by decide +kernel
theorem dX9_see_9 : decode cX9_see 9 = .ok (.bipush 17, 2) := by decide +kernel
theorem dX9_see_11 : decode cX9_see 11 = .ok (.iconst 0, 1) := by decide +kernel
theorem dX9_see_12 : decode cX9_see 12 = .ok (.iastore, 1) := by decide +kernel
theorem dX9_see_13 : decode cX9_see 13 = .ok (.iconst 0, 1) := by decide +kernel
theorem dX9_see_14 : decode cX9_see 14 = .ok (.ireturn, 1) := by decide +kernel
theorem dX9_see_15 : decode cX9_see 15 = .ok (.iload_n 1, 1) := by decide +kernel
theorem dX9_see_16 : decode cX9_see 16 = .ok (.i2l, 1) := by decide +kernel
theorem dX9_see_17 : decode cX9_see 17 = .ok (.lconst 0, 1) := by decide +kernel
theorem dX9_see_18 : decode cX9_see 18 = .ok (.ldc2_w 220, 3) := by decide +kernel
theorem dX9_see_21 : decode cX9_see 21 = .ok (.invokestatic 66, 3) := by decide +kernel
theorem dX9_see_24 : decode cX9_see 24 = .ok (.ifCond .eq 15, 3) := by decide +kernel
theorem dX9_see_27 : decode cX9_see 27 = .ok (.iload_n 2, 1) := by decide +kernel
theorem dX9_see_28 : decode cX9_see 28 = .ok (.i2l, 1) := by decide +kernel
theorem dX9_see_29 : decode cX9_see 29 = .ok (.lconst 0, 1) := by decide +kernel
theorem dX9_see_30 : decode cX9_see 30 = .ok (.ldc2_w 220, 3) := by decide +kernel
theorem dX9_see_33 : decode cX9_see 33 = .ok (.invokestatic 66, 3) := by decide +kernel
theorem dX9_see_36 : decode cX9_see 36 = .ok (.ifCond .ne 6, 3) := by decide +kernel
theorem dX9_see_39 : decode cX9_see 39 = .ok (.bipush (-2), 2) := by decide +kernel
theorem dX9_see_41 : decode cX9_see 41 = .ok (.ireturn, 1) := by decide +kernel
theorem dX9_see_42 : decode cX9_see 42 = .ok (.aload_n 0, 1) := by decide +kernel
theorem dX9_see_43 : decode cX9_see 43 = .ok (.getfield 11, 3) := by decide +kernel
theorem dX9_see_46 : decode cX9_see 46 = .ok (.bipush 17, 2) := by decide +kernel
theorem dX9_see_48 : decode cX9_see 48 = .ok (.iaload, 1) := by decide +kernel
theorem dX9_see_49 : decode cX9_see 49 = .ok (.iconst 4, 1) := by decide +kernel
theorem dX9_see_50 : decode cX9_see 50 = .ok (.if_icmp .ne 6, 3) := by decide +kernel
theorem dX9_see_53 : decode cX9_see 53 = .ok (.bipush (-4), 2) := by decide +kernel
theorem dX9_see_55 : decode cX9_see 55 = .ok (.ireturn, 1) := by decide +kernel
theorem dX9_see_56 : decode cX9_see 56 = .ok (.aload_n 0, 1) := by decide +kernel
theorem dX9_see_57 : decode cX9_see 57 = .ok (.getfield 11, 3) := by decide +kernel
theorem dX9_see_60 : decode cX9_see 60 = .ok (.bipush 18, 2) := by decide +kernel
theorem dX9_see_62 : decode cX9_see 62 = .ok (.iconst 2, 1) := by decide +kernel
theorem dX9_see_63 : decode cX9_see 63 = .ok (.aload_n 0, 1) := by decide +kernel
theorem dX9_see_64 : decode cX9_see 64 = .ok (.getfield 11, 3) := by decide +kernel
theorem dX9_see_67 : decode cX9_see 67 = .ok (.bipush 17, 2) := by decide +kernel
theorem dX9_see_69 : decode cX9_see 69 = .ok (.iaload, 1) := by decide +kernel
theorem dX9_see_70 : decode cX9_see 70 = .ok (.imul, 1) := by decide +kernel
theorem dX9_see_71 : decode cX9_see 71 = .ok (.iadd, 1) := by decide +kernel
theorem dX9_see_72 : decode cX9_see 72 = .ok (.iload_n 1, 1) := by decide +kernel
theorem dX9_see_73 : decode cX9_see 73 = .ok (.iastore, 1) := by decide +kernel
theorem dX9_see_74 : decode cX9_see 74 = .ok (.aload_n 0, 1) := by decide +kernel
theorem dX9_see_75 : decode cX9_see 75 = .ok (.getfield 11, 3) := by decide +kernel
theorem dX9_see_78 : decode cX9_see 78 = .ok (.bipush 18, 2) := by decide +kernel
theorem dX9_see_80 : decode cX9_see 80 = .ok (.iconst 2, 1) := by decide +kernel
theorem dX9_see_81 : decode cX9_see 81 = .ok (.aload_n 0, 1) := by decide +kernel
theorem dX9_see_82 : decode cX9_see 82 = .ok (.getfield 11, 3) := by decide +kernel
theorem dX9_see_85 : decode cX9_see 85 = .ok (.bipush 17, 2) := by decide +kernel
theorem dX9_see_87 : decode cX9_see 87 = .ok (.iaload, 1) := by decide +kernel
theorem dX9_see_88 : decode cX9_see 88 = .ok (.imul, 1) := by decide +kernel
theorem dX9_see_89 : decode cX9_see 89 = .ok (.iadd, 1) := by decide +kernel
theorem dX9_see_90 : decode cX9_see 90 = .ok (.iconst 1, 1) := by decide +kernel
theorem dX9_see_91 : decode cX9_see 91 = .ok (.iadd, 1) := by decide +kernel
theorem dX9_see_92 : decode cX9_see 92 = .ok (.iload_n 2, 1) := by decide +kernel
theorem dX9_see_93 : decode cX9_see 93 = .ok (.iastore, 1) := by decide +kernel
theorem dX9_see_94 : decode cX9_see 94 = .ok (.aload_n 0, 1) := by decide +kernel
theorem dX9_see_95 : decode cX9_see 95 = .ok (.getfield 11, 3) := by decide +kernel
theorem dX9_see_98 : decode cX9_see 98 = .ok (.bipush 17, 2) := by decide +kernel
theorem dX9_see_100 : decode cX9_see 100 = .ok (.dup2, 1) := by decide +kernel
theorem dX9_see_101 : decode cX9_see 101 = .ok (.iaload, 1) := by decide +kernel
theorem dX9_see_102 : decode cX9_see 102 = .ok (.iconst 1, 1) := by decide +kernel
theorem dX9_see_103 : decode cX9_see 103 = .ok (.iadd, 1) := by decide +kernel
theorem dX9_see_104 : decode cX9_see 104 = .ok (.iastore, 1) := by decide +kernel
theorem dX9_see_105 : decode cX9_see 105 = .ok (.aload_n 0, 1) := by decide +kernel
theorem dX9_see_106 : decode cX9_see 106 = .ok (.getfield 11, 3) := by decide +kernel
theorem dX9_see_109 : decode cX9_see 109 = .ok (.bipush 17, 2) := by decide +kernel
theorem dX9_see_111 : decode cX9_see 111 = .ok (.iaload, 1) := by decide +kernel
theorem dX9_see_112 : decode cX9_see 112 = .ok (.ireturn, 1) := by decide +kernel
theorem dX9_isAllSeen_0 : decode cX9_isAllSeen 0 = .ok (.aload_n 0, 1) := by decide +kernel
theorem dX9_isAllSeen_1 : decode cX9_isAllSeen 1 = .ok (.invokevirtual 188, 3) := by decide +kernel
theorem dX9_isAllSeen_4 : decode cX9_isAllSeen 4 = .ok (.istore_n 1, 1) := by decide +kernel
theorem dX9_isAllSeen_5 : decode cX9_isAllSeen 5 = .ok (.iconst 0, 1) := by decide +kernel
theorem dX9_isAllSeen_6 : decode cX9_isAllSeen 6 = .ok (.istore_n 2, 1) := by decide +kernel
theorem dX9_isAllSeen_7 : decode cX9_isAllSeen 7 = .ok (.iload_n 2, 1) := by decide +kernel
theorem dX9_isAllSeen_8 : decode cX9_isAllSeen 8 = .ok (.aload_n 0, 1) := by decide +kernel
theorem dX9_isAllSeen_9 : decode cX9_isAllSeen 9 = .ok (.getfield 11, 3) := by decide +kernel
theorem dX9_isAllSeen_12 : decode cX9_isAllSeen 12 = .ok (.bipush 17, 2) := by decide +kernel
theorem dX9_isAllSeen_14 : decode cX9_isAllSeen 14 = .ok (.iaload, 1) := by decide +kernel
theorem dX9_isAllSeen_15 : decode cX9_isAllSeen 15 = .ok (.if_icmp .ge 50, 3) := by decide +kernel
theorem dX9_isAllSeen_18 : decode cX9_isAllSeen 18 = .ok (.aload_n 0, 1) := by decide +kernel
theorem dX9_isAllSeen_19 : decode cX9_isAllSeen 19 = .ok (.getfield 11, 3) := by decide +kernel
theorem dX9_isAllSeen_22 : decode cX9_isAllSeen 22 = .ok (.bipush 18, 2) := by decide +kernel
theorem dX9_isAllSeen_24 : decode cX9_isAllSeen 24 = .ok (.iconst 2, 1) := by decide +kernel
theorem dX9_isAllSeen_25 : decode cX9_isAllSeen 25 = .ok (.iload_n 2, 1) := by decide +kernel
theorem dX9_isAllSeen_26 : decode cX9_isAllSeen 26 = .ok (.imul, 1) := by decide +kernel
theorem dX9_isAllSeen_27 : decode cX9_isAllSeen 27 = .ok (.iadd, 1) := by decide +kernel
theorem dX9_isAllSeen_28 : decode cX9_isAllSeen 28 = .ok (.iaload, 1) := by decide +kernel
theorem dX9_isAllSeen_29 : decode cX9_isAllSeen 29 = .ok (.istore_n 3, 1) := by decide +kernel
theorem dX9_isAllSeen_30 : decode cX9_isAllSeen 30 = .ok (.iload_n 3, 1) := by decide +kernel
theorem dX9_isAllSeen_31 : decode cX9_isAllSeen 31 = .ok (.iload_n 1, 1) := by decide +kernel
theorem dX9_isAllSeen_32 : decode cX9_isAllSeen 32 = .ok (.if_icmp .ge 25, 3) := by decide +kernel
theorem dX9_isAllSeen_35 : decode cX9_isAllSeen 35 = .ok (.aload_n 0, 1) := by decide +kernel
theorem dX9_isAllSeen_36 : decode cX9_isAllSeen 36 = .ok (.getfield 30, 3) := by decide +kernel
theorem dX9_isAllSeen_39 : decode cX9_isAllSeen 39 = .ok (.iload_n 3, 1) := by decide +kernel
theorem dX9_isAllSeen_40 : decode cX9_isAllSeen 40 = .ok (.iaload, 1) := by decide +kernel
theorem dX9_isAllSeen_41 : decode cX9_isAllSeen 41 = .ok (.aload_n 0, 1) := by decide +kernel
theorem dX9_isAllSeen_42 : decode cX9_isAllSeen 42 = .ok (.getfield 11, 3) := by decide +kernel
theorem dX9_isAllSeen_45 : decode cX9_isAllSeen 45 = .ok (.bipush 18, 2) := by decide +kernel
theorem dX9_isAllSeen_47 : decode cX9_isAllSeen 47 = .ok (.iconst 2, 1) := by decide +kernel
theorem dX9_isAllSeen_48 : decode cX9_isAllSeen 48 = .ok (.iload_n 2, 1) := by decide +kernel
theorem dX9_isAllSeen_49 : decode cX9_isAllSeen 49 = .ok (.imul, 1) := by decide +kernel
theorem dX9_isAllSeen_50 : decode cX9_isAllSeen 50 = .ok (.iadd, 1) := by decide +kernel
theorem dX9_isAllSeen_51 : decode cX9_isAllSeen 51 = .ok (.iconst 1, 1) := by decide +kernel
theorem dX9_isAllSeen_52 : decode cX9_isAllSeen 52 = .ok (.iadd, 1) := by decide +kernel
theorem dX9_isAllSeen_53 : decode cX9_isAllSeen 53 = .ok (.iaload, 1) := by decide +kernel
theorem dX9_isAllSeen_54 : decode cX9_isAllSeen 54 = .ok (.if_icmp .eq 5, 3) := by decide +kernel
theorem dX9_isAllSeen_57 : decode cX9_isAllSeen 57 = .ok (.iconst 0, 1) := by decide +kernel
theorem dX9_isAllSeen_58 : decode cX9_isAllSeen 58 = .ok (.ireturn, 1) := by decide +kernel
theorem dX9_isAllSeen_59 : decode cX9_isAllSeen 59 = .ok (.iinc 2 1, 3) := by decide +kernel
theorem dX9_isAllSeen_62 : decode cX9_isAllSeen 62 = .ok (.goto (-55), 3) := by decide +kernel
theorem dX9_isAllSeen_65 : decode cX9_isAllSeen 65 = .ok (.iconst 1, 1) := by decide +kernel
theorem dX9_isAllSeen_66 : decode cX9_isAllSeen 66 = .ok (.ireturn, 1) := by decide +kernel
theorem dX9_fits_0 : decode cX9_fits 0 = .ok (.aload_n 0, 1) := by decide +kernel
theorem dX9_fits_1 : decode cX9_fits 1 = .ok (.iload_n 1, 1) := by decide +kernel
theorem dX9_fits_2 : decode cX9_fits 2 = .ok (.invokevirtual 99, 3) := by decide +kernel
theorem dX9_fits_5 : decode cX9_fits 5 = .ok (.ifCond .eq 13, 3) := by decide +kernel
theorem dX9_fits_8 : decode cX9_fits 8 = .ok (.iload_n 2, 1) := by decide +kernel
theorem dX9_fits_9 : decode cX9_fits 9 = .ok (.i2l, 1) := by decide +kernel
theorem dX9_fits_10 : decode cX9_fits 10 = .ok (.lconst 0, 1) := by decide +kernel
theorem dX9_fits_11 : decode cX9_fits 11 = .ok (.lconst 1, 1) := by decide +kernel
theorem dX9_fits_12 : decode cX9_fits 12 = .ok (.invokestatic 66, 3) := by decide +kernel
theorem dX9_fits_15 : decode cX9_fits 15 = .ok (.ifCond .ne 5, 3) := by decide +kernel
theorem dX9_fits_18 : decode cX9_fits 18 = .ok (.iconst (-1), 1) := by decide +kernel
theorem dX9_fits_19 : decode cX9_fits 19 = .ok (.ireturn, 1) := by decide +kernel
theorem dX9_fits_20 : decode cX9_fits 20 = .ok (.aload_n 0, 1) := by decide +kernel
theorem dX9_fits_21 : decode cX9_fits 21 = .ok (.getfield 11, 3) := by decide +kernel
theorem dX9_fits_24 : decode cX9_fits 24 = .ok (.bipush 12, 2) := by decide +kernel
theorem dX9_fits_26 : decode cX9_fits 26 = .ok (.iload_n 1, 1) := by decide +kernel
theorem dX9_fits_27 : decode cX9_fits 27 = .ok (.iadd, 1) := by decide +kernel
theorem dX9_fits_28 : decode cX9_fits 28 = .ok (.iaload, 1) := by decide +kernel
theorem dX9_fits_29 : decode cX9_fits 29 = .ok (.istore_n 3, 1) := by decide +kernel
theorem dX9_fits_30 : decode cX9_fits 30 = .ok (.iconst 0, 1) := by decide +kernel
theorem dX9_fits_31 : decode cX9_fits 31 = .ok (.istore 4, 2) := by decide +kernel
theorem dX9_fits_33 : decode cX9_fits 33 = .ok (.bipush (-5), 2) := by decide +kernel
theorem dX9_fits_35 : decode cX9_fits 35 = .ok (.istore 5, 2) := by decide +kernel
theorem dX9_fits_37 : decode cX9_fits 37 = .ok (.iconst 1, 1) := by decide +kernel
theorem dX9_fits_38 : decode cX9_fits 38 = .ok (.istore 6, 2) := by decide +kernel
theorem dX9_fits_40 : decode cX9_fits 40 = .ok (.iload 6, 2) := by decide +kernel
theorem dX9_fits_42 : decode cX9_fits 42 = .ok (.bipush 40, 2) := by decide +kernel
theorem dX9_fits_44 : decode cX9_fits 44 = .ok (.if_icmp .gt 44, 3) := by decide +kernel
theorem dX9_fits_47 : decode cX9_fits 47 = .ok (.aload_n 0, 1) := by decide +kernel
theorem dX9_fits_48 : decode cX9_fits 48 = .ok (.getfield 11, 3) := by decide +kernel
theorem dX9_fits_51 : decode cX9_fits 51 = .ok (.bipush 12, 2) := by decide +kernel
theorem dX9_fits_53 : decode cX9_fits 53 = .ok (.iload_n 1, 1) := by decide +kernel
theorem dX9_fits_54 : decode cX9_fits 54 = .ok (.iadd, 1) := by decide +kernel
theorem dX9_fits_55 : decode cX9_fits 55 = .ok (.iload 6, 2) := by decide +kernel
theorem dX9_fits_57 : decode cX9_fits 57 = .ok (.iastore, 1) := by decide +kernel
theorem dX9_fits_58 : decode cX9_fits 58 = .ok (.aload_n 0, 1) := by decide +kernel
theorem dX9_fits_59 : decode cX9_fits 59 = .ok (.invokevirtual 222, 3) := by decide +kernel
theorem dX9_fits_62 : decode cX9_fits 62 = .ok (.ifCond .eq 20, 3) := by decide +kernel
theorem dX9_fits_65 : decode cX9_fits 65 = .ok (.iload 4, 2) := by decide +kernel
theorem dX9_fits_67 : decode cX9_fits 67 = .ok (.ifCond .ne 8, 3) := by decide +kernel
theorem dX9_fits_70 : decode cX9_fits 70 = .ok (.iload 6, 2) := by decide +kernel
theorem dX9_fits_72 : decode cX9_fits 72 = .ok (.goto 5, 3) := by decide +kernel
theorem dX9_fits_75 : decode cX9_fits 75 = .ok (.iload 5, 2) := by decide +kernel
theorem dX9_fits_77 : decode cX9_fits 77 = .ok (.istore 5, 2) := by decide +kernel
theorem dX9_fits_79 : decode cX9_fits 79 = .ok (.iinc 4 1, 3) := by decide +kernel
theorem dX9_fits_82 : decode cX9_fits 82 = .ok (.iinc 6 1, 3) := by decide +kernel
theorem dX9_fits_85 : decode cX9_fits 85 = .ok (.goto (-45), 3) := by decide +kernel
theorem dX9_fits_88 : decode cX9_fits 88 = .ok (.aload_n 0, 1) := by decide +kernel
theorem dX9_fits_89 : decode cX9_fits 89 = .ok (.getfield 11, 3) := by decide +kernel
theorem dX9_fits_92 : decode cX9_fits 92 = .ok (.bipush 12, 2) := by decide +kernel
theorem dX9_fits_94 : decode cX9_fits 94 = .ok (.iload_n 1, 1) := by decide +kernel
theorem dX9_fits_95 : decode cX9_fits 95 = .ok (.iadd, 1) := by decide +kernel
theorem dX9_fits_96 : decode cX9_fits 96 = .ok (.iload_n 3, 1) := by decide +kernel
theorem dX9_fits_97 : decode cX9_fits 97 = .ok (.iastore, 1) := by decide +kernel
theorem dX9_fits_98 : decode cX9_fits 98 = .ok (.iload_n 2, 1) := by decide +kernel
theorem dX9_fits_99 : decode cX9_fits 99 = .ok (.ifCond .ne 8, 3) := by decide +kernel
theorem dX9_fits_102 : decode cX9_fits 102 = .ok (.iload 4, 2) := by decide +kernel
theorem dX9_fits_104 : decode cX9_fits 104 = .ok (.goto 5, 3) := by decide +kernel
theorem dX9_fits_107 : decode cX9_fits 107 = .ok (.iload 5, 2) := by decide +kernel
theorem dX9_fits_109 : decode cX9_fits 109 = .ok (.ireturn, 1) := by decide +kernel
theorem dX9_told__0 : decode cX9_told_ 0 = .ok (.lload_n 0, 1) := by decide +kernel
theorem dX9_told__1 : decode cX9_told_ 1 = .ok (.lstore 5, 2) := by decide +kernel
theorem dX9_told__3 : decode cX9_told_ 3 = .ok (.lload_n 2, 1) := by decide +kernel
theorem dX9_told__4 : decode cX9_told_ 4 = .ok (.lstore 7, 2) := by decide +kernel
theorem dX9_told__6 : decode cX9_told_ 6 = .ok (.lload 7, 2) := by decide +kernel
theorem dX9_told__8 : decode cX9_told_ 8 = .ok (.lconst 0, 1) := by decide +kernel
theorem dX9_told__9 : decode cX9_told_ 9 = .ok (.lcmp, 1) := by decide +kernel
theorem dX9_told__10 : decode cX9_told_ 10 = .ok (.ifCond .eq 21, 3) := by decide +kernel
theorem dX9_told__13 : decode cX9_told_ 13 = .ok (.lload 5, 2) := by decide +kernel
theorem dX9_told__15 : decode cX9_told_ 15 = .ok (.lload 7, 2) := by decide +kernel
theorem dX9_told__17 : decode cX9_told_ 17 = .ok (.lrem, 1) := by decide +kernel
theorem dX9_told__18 : decode cX9_told_ 18 = .ok (.lstore 9, 2) := by decide +kernel
theorem dX9_told__20 : decode cX9_told_ 20 = .ok (.lload 7, 2) := by decide +kernel
theorem dX9_told__22 : decode cX9_told_ 22 = .ok (.lstore 5, 2) := by decide +kernel
theorem dX9_told__24 : decode cX9_told_ 24 = .ok (.lload 9, 2) := by decide +kernel
theorem dX9_told__26 : decode cX9_told_ 26 = .ok (.lstore 7, 2) := by decide +kernel
theorem dX9_told__28 : decode cX9_told_ 28 = .ok (.goto (-22), 3) := by decide +kernel
theorem dX9_told__31 : decode cX9_told_ 31 = .ok (.iload 4, 2) := by decide +kernel
theorem dX9_told__33 : decode cX9_told_ 33 = .ok (.ifCond .ne 10, 3) := by decide +kernel
theorem dX9_told__36 : decode cX9_told_ 36 = .ok (.lload_n 0, 1) := by decide +kernel
theorem dX9_told__37 : decode cX9_told_ 37 = .ok (.lload 5, 2) := by decide +kernel
theorem dX9_told__39 : decode cX9_told_ 39 = .ok (.ldiv, 1) := by decide +kernel
theorem dX9_told__40 : decode cX9_told_ 40 = .ok (.goto 7, 3) := by decide +kernel
theorem dX9_told__43 : decode cX9_told_ 43 = .ok (.lload_n 2, 1) := by decide +kernel
theorem dX9_told__44 : decode cX9_told_ 44 = .ok (.lload 5, 2) := by decide +kernel
theorem dX9_told__46 : decode cX9_told_ 46 = .ok (.ldiv, 1) := by decide +kernel
theorem dX9_told__47 : decode cX9_told_ 47 = .ok (.lreturn, 1) := by decide +kernel
theorem dX9_odds_0 : decode cX9_odds 0 = .ok (.iload_n 1, 1) := by decide +kernel
theorem dX9_odds_1 : decode cX9_odds 1 = .ok (.i2l, 1) := by decide +kernel
theorem dX9_odds_2 : decode cX9_odds 2 = .ok (.lconst 0, 1) := by decide +kernel
theorem dX9_odds_3 : decode cX9_odds 3 = .ok (.lconst 1, 1) := by decide +kernel
theorem dX9_odds_4 : decode cX9_odds 4 = .ok (.invokestatic 66, 3) := by decide +kernel
theorem dX9_odds_7 : decode cX9_odds 7 = .ok (.ifCond .ne 7, 3) := by decide +kernel
theorem dX9_odds_10 : decode cX9_odds 10 = .ok (.ldc2_w 225, 3) := by decide +kernel
theorem dX9_odds_13 : decode cX9_odds 13 = .ok (.lreturn, 1) := by decide +kernel
theorem dX9_odds_14 : decode cX9_odds 14 = .ok (.aload_n 0, 1) := by decide +kernel
theorem dX9_odds_15 : decode cX9_odds 15 = .ok (.invokevirtual 188, 3) := by decide +kernel
theorem dX9_odds_18 : decode cX9_odds 18 = .ok (.istore_n 2, 1) := by decide +kernel
theorem dX9_odds_19 : decode cX9_odds 19 = .ok (.iconst 0, 1) := by decide +kernel
theorem dX9_odds_20 : decode cX9_odds 20 = .ok (.istore_n 3, 1) := by decide +kernel
theorem dX9_odds_21 : decode cX9_odds 21 = .ok (.iconst 0, 1) := by decide +kernel
theorem dX9_odds_22 : decode cX9_odds 22 = .ok (.istore 4, 2) := by decide +kernel
theorem dX9_odds_24 : decode cX9_odds 24 = .ok (.iload 4, 2) := by decide +kernel
theorem dX9_odds_26 : decode cX9_odds 26 = .ok (.iload_n 2, 1) := by decide +kernel
theorem dX9_odds_27 : decode cX9_odds 27 = .ok (.if_icmp .ge 32, 3) := by decide +kernel
theorem dX9_odds_30 : decode cX9_odds 30 = .ok (.iload_n 3, 1) := by decide +kernel
theorem dX9_odds_31 : decode cX9_odds 31 = .ok (.aload_n 0, 1) := by decide +kernel
theorem dX9_odds_32 : decode cX9_odds 32 = .ok (.getfield 30, 3) := by decide +kernel
theorem dX9_odds_35 : decode cX9_odds 35 = .ok (.iload 4, 2) := by decide +kernel
theorem dX9_odds_37 : decode cX9_odds 37 = .ok (.iaload, 1) := by decide +kernel
theorem dX9_odds_38 : decode cX9_odds 38 = .ok (.iload 4, 2) := by decide +kernel
theorem dX9_odds_40 : decode cX9_odds 40 = .ok (.if_icmp .ge 7, 3) := by decide +kernel
theorem dX9_odds_43 : decode cX9_odds 43 = .ok (.iconst 1, 1) := by decide +kernel
theorem dX9_odds_44 : decode cX9_odds 44 = .ok (.goto 4, 3) := by decide +kernel
theorem dX9_odds_47 : decode cX9_odds 47 = .ok (.iconst 0, 1) := by decide +kernel
theorem dX9_odds_48 : decode cX9_odds 48 = .ok (.invokestatic 181, 3) := by decide +kernel
theorem dX9_odds_51 : decode cX9_odds 51 = .ok (.iadd, 1) := by decide +kernel
theorem dX9_odds_52 : decode cX9_odds 52 = .ok (.istore_n 3, 1) := by decide +kernel
theorem dX9_odds_53 : decode cX9_odds 53 = .ok (.iinc 4 1, 3) := by decide +kernel
theorem dX9_odds_56 : decode cX9_odds 56 = .ok (.goto (-32), 3) := by decide +kernel
theorem dX9_odds_59 : decode cX9_odds 59 = .ok (.iload_n 3, 1) := by decide +kernel
theorem dX9_odds_60 : decode cX9_odds 60 = .ok (.i2l, 1) := by decide +kernel
theorem dX9_odds_61 : decode cX9_odds 61 = .ok (.iload_n 2, 1) := by decide +kernel
theorem dX9_odds_62 : decode cX9_odds 62 = .ok (.i2l, 1) := by decide +kernel
theorem dX9_odds_63 : decode cX9_odds 63 = .ok (.iload_n 1, 1) := by decide +kernel
theorem dX9_odds_64 : decode cX9_odds 64 = .ok (.invokestatic 227, 3) := by decide +kernel
theorem dX9_odds_67 : decode cX9_odds 67 = .ok (.lreturn, 1) := by decide +kernel
theorem dX9_mean_0 : decode cX9_mean 0 = .ok (.iload_n 1, 1) := by decide +kernel
theorem dX9_mean_1 : decode cX9_mean 1 = .ok (.i2l, 1) := by decide +kernel
theorem dX9_mean_2 : decode cX9_mean 2 = .ok (.lconst 0, 1) := by decide +kernel
theorem dX9_mean_3 : decode cX9_mean 3 = .ok (.lconst 1, 1) := by decide +kernel
theorem dX9_mean_4 : decode cX9_mean 4 = .ok (.invokestatic 66, 3) := by decide +kernel
theorem dX9_mean_7 : decode cX9_mean 7 = .ok (.ifCond .ne 7, 3) := by decide +kernel
theorem dX9_mean_10 : decode cX9_mean 10 = .ok (.ldc2_w 225, 3) := by decide +kernel
theorem dX9_mean_13 : decode cX9_mean 13 = .ok (.lreturn, 1) := by decide +kernel
theorem dX9_mean_14 : decode cX9_mean 14 = .ok (.aload_n 0, 1) := by decide +kernel
theorem dX9_mean_15 : decode cX9_mean 15 = .ok (.invokevirtual 188, 3) := by decide +kernel
theorem dX9_mean_18 : decode cX9_mean 18 = .ok (.istore_n 2, 1) := by decide +kernel
theorem dX9_mean_19 : decode cX9_mean 19 = .ok (.iconst 0, 1) := by decide +kernel
theorem dX9_mean_20 : decode cX9_mean 20 = .ok (.istore_n 3, 1) := by decide +kernel
theorem dX9_mean_21 : decode cX9_mean 21 = .ok (.iconst 0, 1) := by decide +kernel
theorem dX9_mean_22 : decode cX9_mean 22 = .ok (.istore 4, 2) := by decide +kernel
theorem dX9_mean_24 : decode cX9_mean 24 = .ok (.iload 4, 2) := by decide +kernel
theorem dX9_mean_26 : decode cX9_mean 26 = .ok (.iload_n 2, 1) := by decide +kernel
theorem dX9_mean_27 : decode cX9_mean 27 = .ok (.if_icmp .ge 47, 3) := by decide +kernel
theorem dX9_mean_30 : decode cX9_mean 30 = .ok (.iload_n 3, 1) := by decide +kernel
theorem dX9_mean_31 : decode cX9_mean 31 = .ok (.aload_n 0, 1) := by decide +kernel
theorem dX9_mean_32 : decode cX9_mean 32 = .ok (.getfield 30, 3) := by decide +kernel
theorem dX9_mean_35 : decode cX9_mean 35 = .ok (.iload 4, 2) := by decide +kernel
theorem dX9_mean_37 : decode cX9_mean 37 = .ok (.iaload, 1) := by decide +kernel
theorem dX9_mean_38 : decode cX9_mean 38 = .ok (.iload 4, 2) := by decide +kernel
theorem dX9_mean_40 : decode cX9_mean 40 = .ok (.if_icmp .ge 16, 3) := by decide +kernel
theorem dX9_mean_43 : decode cX9_mean 43 = .ok (.iload 4, 2) := by decide +kernel
theorem dX9_mean_45 : decode cX9_mean 45 = .ok (.aload_n 0, 1) := by decide +kernel
theorem dX9_mean_46 : decode cX9_mean 46 = .ok (.getfield 30, 3) := by decide +kernel
theorem dX9_mean_49 : decode cX9_mean 49 = .ok (.iload 4, 2) := by decide +kernel
theorem dX9_mean_51 : decode cX9_mean 51 = .ok (.iaload, 1) := by decide +kernel
theorem dX9_mean_52 : decode cX9_mean 52 = .ok (.isub, 1) := by decide +kernel
theorem dX9_mean_53 : decode cX9_mean 53 = .ok (.goto 13, 3) := by decide +kernel
theorem dX9_mean_56 : decode cX9_mean 56 = .ok (.aload_n 0, 1) := by decide +kernel
theorem dX9_mean_57 : decode cX9_mean 57 = .ok (.getfield 30, 3) := by decide +kernel
theorem dX9_mean_60 : decode cX9_mean 60 = .ok (.iload 4, 2) := by decide +kernel
theorem dX9_mean_62 : decode cX9_mean 62 = .ok (.iaload, 1) := by decide +kernel
theorem dX9_mean_63 : decode cX9_mean 63 = .ok (.iload 4, 2) := by decide +kernel
theorem dX9_mean_65 : decode cX9_mean 65 = .ok (.isub, 1) := by decide +kernel
theorem dX9_mean_66 : decode cX9_mean 66 = .ok (.iadd, 1) := by decide +kernel
theorem dX9_mean_67 : decode cX9_mean 67 = .ok (.istore_n 3, 1) := by decide +kernel
theorem dX9_mean_68 : decode cX9_mean 68 = .ok (.iinc 4 1, 3) := by decide +kernel
theorem dX9_mean_71 : decode cX9_mean 71 = .ok (.goto (-47), 3) := by decide +kernel
theorem dX9_mean_74 : decode cX9_mean 74 = .ok (.iload_n 3, 1) := by decide +kernel
theorem dX9_mean_75 : decode cX9_mean 75 = .ok (.i2l, 1) := by decide +kernel
theorem dX9_mean_76 : decode cX9_mean 76 = .ok (.iload_n 2, 1) := by decide +kernel
theorem dX9_mean_77 : decode cX9_mean 77 = .ok (.i2l, 1) := by decide +kernel
theorem dX9_mean_78 : decode cX9_mean 78 = .ok (.iload_n 1, 1) := by decide +kernel
theorem dX9_mean_79 : decode cX9_mean 79 = .ok (.invokestatic 227, 3) := by decide +kernel
theorem dX9_mean_82 : decode cX9_mean 82 = .ok (.lreturn, 1) := by decide +kernel
theorem dX9_event_0 : decode cX9_event 0 = .ok (.iload_n 1, 1) := by decide +kernel
theorem dX9_event_1 : decode cX9_event 1 = .ok (.iconst (-1), 1) := by decide +kernel
theorem dX9_event_2 : decode cX9_event 2 = .ok (.if_icmp .ne 13, 3) := by decide +kernel
theorem dX9_event_5 : decode cX9_event 5 = .ok (.aload_n 0, 1) := by decide +kernel
theorem dX9_event_6 : decode cX9_event 6 = .ok (.getfield 11, 3) := by decide +kernel
theorem dX9_event_9 : decode cX9_event 9 = .ok (.bipush 26, 2) := by decide +kernel
theorem dX9_event_11 : decode cX9_event 11 = .ok (.iconst 0, 1) := by decide +kernel
theorem dX9_event_12 : decode cX9_event 12 = .ok (.iastore, 1) := by decide +kernel
theorem dX9_event_13 : decode cX9_event 13 = .ok (.iconst 0, 1) := by decide +kernel
theorem dX9_event_14 : decode cX9_event 14 = .ok (.ireturn, 1) := by decide +kernel
theorem dX9_event_15 : decode cX9_event 15 = .ok (.iload_n 1, 1) := by decide +kernel
theorem dX9_event_16 : decode cX9_event 16 = .ok (.i2l, 1) := by decide +kernel
theorem dX9_event_17 : decode cX9_event 17 = .ok (.lconst 0, 1) := by decide +kernel
theorem dX9_event_18 : decode cX9_event 18 = .ok (.ldc2_w 95, 3) := by decide +kernel
theorem dX9_event_21 : decode cX9_event 21 = .ok (.invokestatic 66, 3) := by decide +kernel
theorem dX9_event_24 : decode cX9_event 24 = .ok (.ifCond .eq 31, 3) := by decide +kernel
theorem dX9_event_27 : decode cX9_event 27 = .ok (.iload_n 1, 1) := by decide +kernel
theorem dX9_event_28 : decode cX9_event 28 = .ok (.iconst 1, 1) := by decide +kernel
theorem dX9_event_29 : decode cX9_event 29 = .ok (.if_icmp .ne 11, 3) := by decide +kernel
theorem dX9_event_32 : decode cX9_event 32 = .ok (.aload_n 0, 1) := by decide +kernel
theorem dX9_event_33 : decode cX9_event 33 = .ok (.iload_n 2, 1) := by decide +kernel
theorem dX9_event_34 : decode cX9_event 34 = .ok (.invokevirtual 99, 3) := by decide +kernel
theorem dX9_event_37 : decode cX9_event 37 = .ok (.ifCond .eq 18, 3) := by decide +kernel
theorem dX9_event_40 : decode cX9_event 40 = .ok (.iload_n 1, 1) := by decide +kernel
theorem dX9_event_41 : decode cX9_event 41 = .ok (.iconst 2, 1) := by decide +kernel
theorem dX9_event_42 : decode cX9_event 42 = .ok (.if_icmp .ne 15, 3) := by decide +kernel
theorem dX9_event_45 : decode cX9_event 45 = .ok (.iload_n 2, 1) := by decide +kernel
theorem dX9_event_46 : decode cX9_event 46 = .ok (.i2l, 1) := by decide +kernel
theorem dX9_event_47 : decode cX9_event 47 = .ok (.lconst 0, 1) := by decide +kernel
theorem dX9_event_48 : decode cX9_event 48 = .ok (.lconst 1, 1) := by decide +kernel
theorem dX9_event_49 : decode cX9_event 49 = .ok (.invokestatic 66, 3) := by decide +kernel
theorem dX9_event_52 : decode cX9_event 52 = .ok (.ifCond .ne 5, 3) := by decide +kernel
theorem dX9_event_55 : decode cX9_event 55 = .ok (.iconst (-1), 1) := by decide +kernel
theorem dX9_event_56 : decode cX9_event 56 = .ok (.ireturn, 1) := by decide +kernel
theorem dX9_event_57 : decode cX9_event 57 = .ok (.iload_n 1, 1) := by decide +kernel
theorem dX9_event_58 : decode cX9_event 58 = .ok (.ifCond .ne 10, 3) := by decide +kernel
theorem dX9_event_61 : decode cX9_event 61 = .ok (.iload_n 2, 1) := by decide +kernel
theorem dX9_event_62 : decode cX9_event 62 = .ok (.ifCond .eq 6, 3) := by decide +kernel
theorem dX9_event_65 : decode cX9_event 65 = .ok (.bipush (-2), 2) := by decide +kernel
theorem dX9_event_67 : decode cX9_event 67 = .ok (.ireturn, 1) := by decide +kernel
theorem dX9_event_68 : decode cX9_event 68 = .ok (.aload_n 0, 1) := by decide +kernel
theorem dX9_event_69 : decode cX9_event 69 = .ok (.getfield 11, 3) := by decide +kernel
theorem dX9_event_72 : decode cX9_event 72 = .ok (.bipush 26, 2) := by decide +kernel
theorem dX9_event_74 : decode cX9_event 74 = .ok (.iaload, 1) := by decide +kernel
theorem dX9_event_75 : decode cX9_event 75 = .ok (.bipush 8, 2) := by decide +kernel
theorem dX9_event_77 : decode cX9_event 77 = .ok (.if_icmp .ne 6, 3) := by decide +kernel
theorem dX9_event_80 : decode cX9_event 80 = .ok (.bipush (-4), 2) := by decide +kernel
theorem dX9_event_82 : decode cX9_event 82 = .ok (.ireturn, 1) := by decide +kernel
theorem dX9_event_83 : decode cX9_event 83 = .ok (.aload_n 0, 1) := by decide +kernel
theorem dX9_event_84 : decode cX9_event 84 = .ok (.getfield 11, 3) := by decide +kernel
theorem dX9_event_87 : decode cX9_event 87 = .ok (.bipush 27, 2) := by decide +kernel
theorem dX9_event_89 : decode cX9_event 89 = .ok (.iconst 2, 1) := by decide +kernel
theorem dX9_event_90 : decode cX9_event 90 = .ok (.aload_n 0, 1) := by decide +kernel
theorem dX9_event_91 : decode cX9_event 91 = .ok (.getfield 11, 3) := by decide +kernel
theorem dX9_event_94 : decode cX9_event 94 = .ok (.bipush 26, 2) := by decide +kernel
theorem dX9_event_96 : decode cX9_event 96 = .ok (.iaload, 1) := by decide +kernel
theorem dX9_event_97 : decode cX9_event 97 = .ok (.imul, 1) := by decide +kernel
theorem dX9_event_98 : decode cX9_event 98 = .ok (.iadd, 1) := by decide +kernel
theorem dX9_event_99 : decode cX9_event 99 = .ok (.iload_n 1, 1) := by decide +kernel
theorem dX9_event_100 : decode cX9_event 100 = .ok (.iastore, 1) := by decide +kernel
theorem dX9_event_101 : decode cX9_event 101 = .ok (.aload_n 0, 1) := by decide +kernel
theorem dX9_event_102 : decode cX9_event 102 = .ok (.getfield 11, 3) := by decide +kernel
theorem dX9_event_105 : decode cX9_event 105 = .ok (.bipush 27, 2) := by decide +kernel
theorem dX9_event_107 : decode cX9_event 107 = .ok (.iconst 2, 1) := by decide +kernel
theorem dX9_event_108 : decode cX9_event 108 = .ok (.aload_n 0, 1) := by decide +kernel
theorem dX9_event_109 : decode cX9_event 109 = .ok (.getfield 11, 3) := by decide +kernel
theorem dX9_event_112 : decode cX9_event 112 = .ok (.bipush 26, 2) := by decide +kernel
theorem dX9_event_114 : decode cX9_event 114 = .ok (.iaload, 1) := by decide +kernel
theorem dX9_event_115 : decode cX9_event 115 = .ok (.imul, 1) := by decide +kernel
theorem dX9_event_116 : decode cX9_event 116 = .ok (.iadd, 1) := by decide +kernel
theorem dX9_event_117 : decode cX9_event 117 = .ok (.iconst 1, 1) := by decide +kernel
theorem dX9_event_118 : decode cX9_event 118 = .ok (.iadd, 1) := by decide +kernel
theorem dX9_event_119 : decode cX9_event 119 = .ok (.iload_n 2, 1) := by decide +kernel
theorem dX9_event_120 : decode cX9_event 120 = .ok (.iastore, 1) := by decide +kernel
theorem dX9_event_121 : decode cX9_event 121 = .ok (.aload_n 0, 1) := by decide +kernel
theorem dX9_event_122 : decode cX9_event 122 = .ok (.getfield 11, 3) := by decide +kernel
theorem dX9_event_125 : decode cX9_event 125 = .ok (.bipush 26, 2) := by decide +kernel
theorem dX9_event_127 : decode cX9_event 127 = .ok (.dup2, 1) := by decide +kernel
theorem dX9_event_128 : decode cX9_event 128 = .ok (.iaload, 1) := by decide +kernel
theorem dX9_event_129 : decode cX9_event 129 = .ok (.iconst 1, 1) := by decide +kernel
theorem dX9_event_130 : decode cX9_event 130 = .ok (.iadd, 1) := by decide +kernel
theorem dX9_event_131 : decode cX9_event 131 = .ok (.iastore, 1) := by decide +kernel
theorem dX9_event_132 : decode cX9_event 132 = .ok (.aload_n 0, 1) := by decide +kernel
theorem dX9_event_133 : decode cX9_event 133 = .ok (.getfield 11, 3) := by decide +kernel
theorem dX9_event_136 : decode cX9_event 136 = .ok (.bipush 26, 2) := by decide +kernel
theorem dX9_event_138 : decode cX9_event 138 = .ok (.iaload, 1) := by decide +kernel
theorem dX9_event_139 : decode cX9_event 139 = .ok (.ireturn, 1) := by decide +kernel
theorem dX9_happens_0 : decode cX9_happens 0 = .ok (.iload_n 1, 1) := by decide +kernel
theorem dX9_happens_1 : decode cX9_happens 1 = .ok (.ifCond .ne 19, 3) := by decide +kernel
theorem dX9_happens_4 : decode cX9_happens 4 = .ok (.aload_n 0, 1) := by decide +kernel
theorem dX9_happens_5 : decode cX9_happens 5 = .ok (.invokevirtual 111, 3) := by decide +kernel
theorem dX9_happens_8 : decode cX9_happens 8 = .ok (.iconst (-1), 1) := by decide +kernel
theorem dX9_happens_9 : decode cX9_happens 9 = .ok (.if_icmp .eq 11, 3) := by decide +kernel
theorem dX9_happens_12 : decode cX9_happens 12 = .ok (.aload_n 0, 1) := by decide +kernel
theorem dX9_happens_13 : decode cX9_happens 13 = .ok (.aload_n 0, 1) := by decide +kernel
theorem dX9_happens_14 : decode cX9_happens 14 = .ok (.invokevirtual 111, 3) := by decide +kernel
theorem dX9_happens_17 : decode cX9_happens 17 = .ok (.invokevirtual 115, 3) := by decide +kernel
theorem dX9_happens_20 : decode cX9_happens 20 = .ok (.iload_n 1, 1) := by decide +kernel
theorem dX9_happens_21 : decode cX9_happens 21 = .ok (.iconst 1, 1) := by decide +kernel
theorem dX9_happens_22 : decode cX9_happens 22 = .ok (.if_icmp .ne 38, 3) := by decide +kernel
theorem dX9_happens_25 : decode cX9_happens 25 = .ok (.aload_n 0, 1) := by decide +kernel
theorem dX9_happens_26 : decode cX9_happens 26 = .ok (.iload_n 2, 1) := by decide +kernel
theorem dX9_happens_27 : decode cX9_happens 27 = .ok (.invokevirtual 99, 3) := by decide +kernel
theorem dX9_happens_30 : decode cX9_happens 30 = .ok (.ifCond .eq 30, 3) := by decide +kernel
theorem dX9_happens_33 : decode cX9_happens 33 = .ok (.aload_n 0, 1) := by decide +kernel
theorem dX9_happens_34 : decode cX9_happens 34 = .ok (.getfield 11, 3) := by decide +kernel
theorem dX9_happens_37 : decode cX9_happens 37 = .ok (.bipush 12, 2) := by decide +kernel
theorem dX9_happens_39 : decode cX9_happens 39 = .ok (.iload_n 2, 1) := by decide +kernel
theorem dX9_happens_40 : decode cX9_happens 40 = .ok (.iadd, 1) := by decide +kernel
theorem dX9_happens_41 : decode cX9_happens 41 = .ok (.iaload, 1) := by decide +kernel
theorem dX9_happens_42 : decode cX9_happens 42 = .ok (.bipush 99, 2) := by decide +kernel
theorem dX9_happens_44 : decode cX9_happens 44 = .ok (.if_icmp .ge 16, 3) := by decide +kernel
theorem dX9_happens_47 : decode cX9_happens 47 = .ok (.aload_n 0, 1) := by decide +kernel
theorem dX9_happens_48 : decode cX9_happens 48 = .ok (.getfield 11, 3) := by decide +kernel
theorem dX9_happens_51 : decode cX9_happens 51 = .ok (.bipush 12, 2) := by decide +kernel
theorem dX9_happens_53 : decode cX9_happens 53 = .ok (.iload_n 2, 1) := by decide +kernel
theorem dX9_happens_54 : decode cX9_happens 54 = .ok (.iadd, 1) := by decide +kernel
theorem dX9_happens_55 : decode cX9_happens 55 = .ok (.dup2, 1) := by decide +kernel
theorem dX9_happens_56 : decode cX9_happens 56 = .ok (.iaload, 1) := by decide +kernel
theorem dX9_happens_57 : decode cX9_happens 57 = .ok (.iconst 1, 1) := by decide +kernel
theorem dX9_happens_58 : decode cX9_happens 58 = .ok (.iadd, 1) := by decide +kernel
theorem dX9_happens_59 : decode cX9_happens 59 = .ok (.iastore, 1) := by decide +kernel
theorem dX9_happens_60 : decode cX9_happens 60 = .ok (.iload_n 1, 1) := by decide +kernel
theorem dX9_happens_61 : decode cX9_happens 61 = .ok (.iconst 2, 1) := by decide +kernel
theorem dX9_happens_62 : decode cX9_happens 62 = .ok (.if_icmp .ne 94, 3) := by decide +kernel
theorem dX9_happens_65 : decode cX9_happens 65 = .ok (.aload_n 0, 1) := by decide +kernel
theorem dX9_happens_66 : decode cX9_happens 66 = .ok (.iload_n 2, 1) := by decide +kernel
theorem dX9_happens_67 : decode cX9_happens 67 = .ok (.ifCond .ne 7, 3) := by decide +kernel
theorem dX9_happens_70 : decode cX9_happens 70 = .ok (.iconst 2, 1) := by decide +kernel
theorem dX9_happens_71 : decode cX9_happens 71 = .ok (.goto 5, 3) := by decide +kernel
theorem dX9_happens_74 : decode cX9_happens 74 = .ok (.bipush 7, 2) := by decide +kernel
theorem dX9_happens_76 : decode cX9_happens 76 = .ok (.invokevirtual 74, 3) := by decide +kernel
theorem dX9_happens_79 : decode cX9_happens 79 = .ok (.istore_n 3, 1) := by decide +kernel
theorem dX9_happens_80 : decode cX9_happens 80 = .ok (.iload_n 2, 1) := by decide +kernel
theorem dX9_happens_81 : decode cX9_happens 81 = .ok (.ifCond .ne 8, 3) := by decide +kernel
theorem dX9_happens_84 : decode cX9_happens 84 = .ok (.bipush 7, 2) := by decide +kernel
theorem dX9_happens_86 : decode cX9_happens 86 = .ok (.goto 4, 3) := by decide +kernel
theorem dX9_happens_89 : decode cX9_happens 89 = .ok (.iconst 2, 1) := by decide +kernel
theorem dX9_happens_90 : decode cX9_happens 90 = .ok (.istore 4, 2) := by decide +kernel
theorem dX9_happens_92 : decode cX9_happens 92 = .ok (.aload_n 0, 1) := by decide +kernel
theorem dX9_happens_93 : decode cX9_happens 93 = .ok (.iload 4, 2) := by decide +kernel
theorem dX9_happens_95 : decode cX9_happens 95 = .ok (.iload_n 3, 1) := by decide +kernel
theorem dX9_happens_96 : decode cX9_happens 96 = .ok (.invokevirtual 78, 3) := by decide +kernel
theorem dX9_happens_99 : decode cX9_happens 99 = .ok (.istore 5, 2) := by decide +kernel
theorem dX9_happens_101 : decode cX9_happens 101 = .ok (.iload 5, 2) := by decide +kernel
theorem dX9_happens_103 : decode cX9_happens 103 = .ok (.iconst 1, 1) := by decide +kernel
theorem dX9_happens_104 : decode cX9_happens 104 = .ok (.iadd, 1) := by decide +kernel
theorem dX9_happens_105 : decode cX9_happens 105 = .ok (.aload_n 0, 1) := by decide +kernel
theorem dX9_happens_106 : decode cX9_happens 106 = .ok (.getfield 11, 3) := by decide +kernel
theorem dX9_happens_109 : decode cX9_happens 109 = .ok (.iconst 0, 1) := by decide +kernel
theorem dX9_happens_110 : decode cX9_happens 110 = .ok (.iaload, 1) := by decide +kernel
theorem dX9_happens_111 : decode cX9_happens 111 = .ok (.if_icmp .ge 45, 3) := by decide +kernel
theorem dX9_happens_114 : decode cX9_happens 114 = .ok (.aload_n 0, 1) := by decide +kernel
theorem dX9_happens_115 : decode cX9_happens 115 = .ok (.getfield 11, 3) := by decide +kernel
theorem dX9_happens_118 : decode cX9_happens 118 = .ok (.bipush 12, 2) := by decide +kernel
theorem dX9_happens_120 : decode cX9_happens 120 = .ok (.iload_n 3, 1) := by decide +kernel
theorem dX9_happens_121 : decode cX9_happens 121 = .ok (.iadd, 1) := by decide +kernel
theorem dX9_happens_122 : decode cX9_happens 122 = .ok (.iaload, 1) := by decide +kernel
theorem dX9_happens_123 : decode cX9_happens 123 = .ok (.aload_n 0, 1) := by decide +kernel
theorem dX9_happens_124 : decode cX9_happens 124 = .ok (.getfield 11, 3) := by decide +kernel
theorem dX9_happens_127 : decode cX9_happens 127 = .ok (.bipush 12, 2) := by decide +kernel
theorem dX9_happens_129 : decode cX9_happens 129 = .ok (.aload_n 0, 1) := by decide +kernel
theorem dX9_happens_130 : decode cX9_happens 130 = .ok (.getfield 11, 3) := by decide +kernel
theorem dX9_happens_133 : decode cX9_happens 133 = .ok (.iload 4, 2) := by decide +kernel
theorem dX9_happens_135 : decode cX9_happens 135 = .ok (.iload 5, 2) := by decide +kernel
theorem dX9_happens_137 : decode cX9_happens 137 = .ok (.iadd, 1) := by decide +kernel
theorem dX9_happens_138 : decode cX9_happens 138 = .ok (.iconst 1, 1) := by decide +kernel
theorem dX9_happens_139 : decode cX9_happens 139 = .ok (.iadd, 1) := by decide +kernel
theorem dX9_happens_140 : decode cX9_happens 140 = .ok (.iaload, 1) := by decide +kernel
theorem dX9_happens_141 : decode cX9_happens 141 = .ok (.iadd, 1) := by decide +kernel
theorem dX9_happens_142 : decode cX9_happens 142 = .ok (.iaload, 1) := by decide +kernel
theorem dX9_happens_143 : decode cX9_happens 143 = .ok (.iadd, 1) := by decide +kernel
theorem dX9_happens_144 : decode cX9_happens 144 = .ok (.bipush 99, 2) := by decide +kernel
theorem dX9_happens_146 : decode cX9_happens 146 = .ok (.if_icmp .gt 10, 3) := by decide +kernel
theorem dX9_happens_149 : decode cX9_happens 149 = .ok (.aload_n 0, 1) := by decide +kernel
theorem dX9_happens_150 : decode cX9_happens 150 = .ok (.iload_n 2, 1) := by decide +kernel
theorem dX9_happens_151 : decode cX9_happens 151 = .ok (.invokevirtual 118, 3) := by decide +kernel
theorem dX9_happens_154 : decode cX9_happens 154 = .ok (.istore 6, 2) := by decide +kernel
theorem dX9_happens_156 : decode cX9_happens 156 = .ok (.return_, 1) := by decide +kernel
theorem dX9_after_0 : decode cX9_after 0 = .ok (.iload_n 1, 1) := by decide +kernel
theorem dX9_after_1 : decode cX9_after 1 = .ok (.i2l, 1) := by decide +kernel
theorem dX9_after_2 : decode cX9_after 2 = .ok (.lconst 0, 1) := by decide +kernel
theorem dX9_after_3 : decode cX9_after 3 = .ok (.ldc2_w 95, 3) := by decide +kernel
theorem dX9_after_6 : decode cX9_after 6 = .ok (.invokestatic 66, 3) := by decide +kernel
theorem dX9_after_9 : decode cX9_after 9 = .ok (.ifCond .ne 5, 3) := by decide +kernel
theorem dX9_after_12 : decode cX9_after 12 = .ok (.iconst (-1), 1) := by decide +kernel
theorem dX9_after_13 : decode cX9_after 13 = .ok (.ireturn, 1) := by decide +kernel
theorem dX9_after_14 : decode cX9_after 14 = .ok (.aload_n 0, 1) := by decide +kernel
theorem dX9_after_15 : decode cX9_after 15 = .ok (.getfield 11, 3) := by decide +kernel
theorem dX9_after_18 : decode cX9_after 18 = .ok (.iconst 0, 1) := by decide +kernel
theorem dX9_after_19 : decode cX9_after 19 = .ok (.aload_n 0, 1) := by decide +kernel
theorem dX9_after_20 : decode cX9_after 20 = .ok (.getfield 43, 3) := by decide +kernel
theorem dX9_after_23 : decode cX9_after 23 = .ok (.iconst 0, 1) := by decide +kernel
theorem dX9_after_24 : decode cX9_after 24 = .ok (.bipush 60, 2) := by decide +kernel
theorem dX9_after_26 : decode cX9_after 26 = .ok (.invokestatic 89, 3) := by decide +kernel
theorem dX9_after_29 : decode cX9_after 29 = .ok (.iconst 0, 1) := by decide +kernel
theorem dX9_after_30 : decode cX9_after 30 = .ok (.istore_n 2, 1) := by decide +kernel
theorem dX9_after_31 : decode cX9_after 31 = .ok (.iload_n 2, 1) := by decide +kernel
theorem dX9_after_32 : decode cX9_after 32 = .ok (.aload_n 0, 1) := by decide +kernel
theorem dX9_after_33 : decode cX9_after 33 = .ok (.getfield 43, 3) := by decide +kernel
theorem dX9_after_36 : decode cX9_after 36 = .ok (.bipush 26, 2) := by decide +kernel
theorem dX9_after_38 : decode cX9_after 38 = .ok (.iaload, 1) := by decide +kernel
theorem dX9_after_39 : decode cX9_after 39 = .ok (.if_icmp .ge 37, 3) := by decide +kernel
theorem dX9_after_42 : decode cX9_after 42 = .ok (.aload_n 0, 1) := by decide +kernel
theorem dX9_after_43 : decode cX9_after 43 = .ok (.aload_n 0, 1) := by decide +kernel
theorem dX9_after_44 : decode cX9_after 44 = .ok (.getfield 43, 3) := by decide +kernel
theorem dX9_after_47 : decode cX9_after 47 = .ok (.bipush 27, 2) := by decide +kernel
theorem dX9_after_49 : decode cX9_after 49 = .ok (.iconst 2, 1) := by decide +kernel
theorem dX9_after_50 : decode cX9_after 50 = .ok (.iload_n 2, 1) := by decide +kernel
theorem dX9_after_51 : decode cX9_after 51 = .ok (.imul, 1) := by decide +kernel
theorem dX9_after_52 : decode cX9_after 52 = .ok (.iadd, 1) := by decide +kernel
theorem dX9_after_53 : decode cX9_after 53 = .ok (.iaload, 1) := by decide +kernel
theorem dX9_after_54 : decode cX9_after 54 = .ok (.aload_n 0, 1) := by decide +kernel
theorem dX9_after_55 : decode cX9_after 55 = .ok (.getfield 43, 3) := by decide +kernel
theorem dX9_after_58 : decode cX9_after 58 = .ok (.bipush 27, 2) := by decide +kernel
end
section
theorem dX9_after_60 : decode cX9_after 60 = .ok (.iconst 2, 1) := by decide +kernel
theorem dX9_after_61 : decode cX9_after 61 = .ok (.iload_n 2, 1) := by decide +kernel
theorem dX9_after_62 : decode cX9_after 62 = .ok (.imul, 1) := by decide +kernel
theorem dX9_after_63 : decode cX9_after 63 = .ok (.iadd, 1) := by decide +kernel
theorem dX9_after_64 : decode cX9_after 64 = .ok (.iconst 1, 1) := by decide +kernel
theorem dX9_after_65 : decode cX9_after 65 = .ok (.iadd, 1) := by decide +kernel
theorem dX9_after_66 : decode cX9_after 66 = .ok (.iaload, 1) := by decide +kernel
theorem dX9_after_67 : decode cX9_after 67 = .ok (.invokevirtual 230, 3) := by decide +kernel
theorem dX9_after_70 : decode cX9_after 70 = .ok (.iinc 2 1, 3) := by decide +kernel
theorem dX9_after_73 : decode cX9_after 73 = .ok (.goto (-42), 3) := by decide +kernel
theorem dX9_after_76 : decode cX9_after 76 = .ok (.iload_n 1, 1) := by decide +kernel
theorem dX9_after_77 : decode cX9_after 77 = .ok (.ifCond .ne 10, 3) := by decide +kernel
theorem dX9_after_80 : decode cX9_after 80 = .ok (.aload_n 0, 1) := by decide +kernel
theorem dX9_after_81 : decode cX9_after 81 = .ok (.invokevirtual 121, 3) := by decide +kernel
theorem dX9_after_84 : decode cX9_after 84 = .ok (.goto 22, 3) := by decide +kernel
theorem dX9_after_87 : decode cX9_after 87 = .ok (.iload_n 1, 1) := by decide +kernel
theorem dX9_after_88 : decode cX9_after 88 = .ok (.iconst 1, 1) := by decide +kernel
theorem dX9_after_89 : decode cX9_after 89 = .ok (.if_icmp .ne 10, 3) := by decide +kernel
theorem dX9_after_92 : decode cX9_after 92 = .ok (.aload_n 0, 1) := by decide +kernel
theorem dX9_after_93 : decode cX9_after 93 = .ok (.invokevirtual 127, 3) := by decide +kernel
theorem dX9_after_96 : decode cX9_after 96 = .ok (.goto 10, 3) := by decide +kernel
theorem dX9_after_99 : decode cX9_after 99 = .ok (.aload_n 0, 1) := by decide +kernel
theorem dX9_after_100 : decode cX9_after 100 = .ok (.invokevirtual 206, 3) := by decide +kernel
theorem dX9_after_103 : decode cX9_after 103 = .ok (.invokestatic 181, 3) := by decide +kernel
theorem dX9_after_106 : decode cX9_after 106 = .ok (.istore_n 2, 1) := by decide +kernel
theorem dX9_after_107 : decode cX9_after 107 = .ok (.aload_n 0, 1) := by decide +kernel
theorem dX9_after_108 : decode cX9_after 108 = .ok (.getfield 43, 3) := by decide +kernel
theorem dX9_after_111 : decode cX9_after 111 = .ok (.iconst 0, 1) := by decide +kernel
theorem dX9_after_112 : decode cX9_after 112 = .ok (.aload_n 0, 1) := by decide +kernel
theorem dX9_after_113 : decode cX9_after 113 = .ok (.getfield 11, 3) := by decide +kernel
theorem dX9_after_116 : decode cX9_after 116 = .ok (.iconst 0, 1) := by decide +kernel
theorem dX9_after_117 : decode cX9_after 117 = .ok (.bipush 60, 2) := by decide +kernel
theorem dX9_after_119 : decode cX9_after 119 = .ok (.invokestatic 89, 3) := by decide +kernel
theorem dX9_after_122 : decode cX9_after 122 = .ok (.iload_n 2, 1) := by decide +kernel
theorem dX9_after_123 : decode cX9_after 123 = .ok (.ireturn, 1) := by decide +kernel
theorem dX9_book_0 : decode cX9_book 0 = .ok (.iload_n 1, 1) := by decide +kernel
theorem dX9_book_1 : decode cX9_book 1 = .ok (.iconst (-1), 1) := by decide +kernel
theorem dX9_book_2 : decode cX9_book 2 = .ok (.if_icmp .ne 13, 3) := by decide +kernel
theorem dX9_book_5 : decode cX9_book 5 = .ok (.aload_n 0, 1) := by decide +kernel
theorem dX9_book_6 : decode cX9_book 6 = .ok (.getfield 11, 3) := by decide +kernel
theorem dX9_book_9 : decode cX9_book 9 = .ok (.bipush 43, 2) := by decide +kernel
theorem dX9_book_11 : decode cX9_book 11 = .ok (.iconst 0, 1) := by decide +kernel
theorem dX9_book_12 : decode cX9_book 12 = .ok (.iastore, 1) := by decide +kernel
theorem dX9_book_13 : decode cX9_book 13 = .ok (.iconst 0, 1) := by decide +kernel
theorem dX9_book_14 : decode cX9_book 14 = .ok (.ireturn, 1) := by decide +kernel
theorem dX9_book_15 : decode cX9_book 15 = .ok (.aload_n 0, 1) := by decide +kernel
theorem dX9_book_16 : decode cX9_book 16 = .ok (.iload_n 1, 1) := by decide +kernel
theorem dX9_book_17 : decode cX9_book 17 = .ok (.invokevirtual 99, 3) := by decide +kernel
theorem dX9_book_20 : decode cX9_book 20 = .ok (.ifCond .ne 5, 3) := by decide +kernel
theorem dX9_book_23 : decode cX9_book 23 = .ok (.iconst (-1), 1) := by decide +kernel
theorem dX9_book_24 : decode cX9_book 24 = .ok (.ireturn, 1) := by decide +kernel
theorem dX9_book_25 : decode cX9_book 25 = .ok (.iload_n 2, 1) := by decide +kernel
theorem dX9_book_26 : decode cX9_book 26 = .ok (.i2l, 1) := by decide +kernel
theorem dX9_book_27 : decode cX9_book 27 = .ok (.lconst 1, 1) := by decide +kernel
theorem dX9_book_28 : decode cX9_book 28 = .ok (.ldc2_w 106, 3) := by decide +kernel
theorem dX9_book_31 : decode cX9_book 31 = .ok (.invokestatic 66, 3) := by decide +kernel
theorem dX9_book_34 : decode cX9_book 34 = .ok (.ifCond .ne 6, 3) := by decide +kernel
theorem dX9_book_37 : decode cX9_book 37 = .ok (.bipush (-2), 2) := by decide +kernel
theorem dX9_book_39 : decode cX9_book 39 = .ok (.ireturn, 1) := by decide +kernel
theorem dX9_book_40 : decode cX9_book 40 = .ok (.aload_n 0, 1) := by decide +kernel
theorem dX9_book_41 : decode cX9_book 41 = .ok (.getfield 11, 3) := by decide +kernel
theorem dX9_book_44 : decode cX9_book 44 = .ok (.bipush 43, 2) := by decide +kernel
theorem dX9_book_46 : decode cX9_book 46 = .ok (.iaload, 1) := by decide +kernel
theorem dX9_book_47 : decode cX9_book 47 = .ok (.bipush 8, 2) := by decide +kernel
theorem dX9_book_49 : decode cX9_book 49 = .ok (.if_icmp .ne 6, 3) := by decide +kernel
theorem dX9_book_52 : decode cX9_book 52 = .ok (.bipush (-4), 2) := by decide +kernel
theorem dX9_book_54 : decode cX9_book 54 = .ok (.ireturn, 1) := by decide +kernel
theorem dX9_book_55 : decode cX9_book 55 = .ok (.aload_n 0, 1) := by decide +kernel
theorem dX9_book_56 : decode cX9_book 56 = .ok (.getfield 11, 3) := by decide +kernel
theorem dX9_book_59 : decode cX9_book 59 = .ok (.bipush 44, 2) := by decide +kernel
theorem dX9_book_61 : decode cX9_book 61 = .ok (.iconst 2, 1) := by decide +kernel
theorem dX9_book_62 : decode cX9_book 62 = .ok (.aload_n 0, 1) := by decide +kernel
theorem dX9_book_63 : decode cX9_book 63 = .ok (.getfield 11, 3) := by decide +kernel
theorem dX9_book_66 : decode cX9_book 66 = .ok (.bipush 43, 2) := by decide +kernel
theorem dX9_book_68 : decode cX9_book 68 = .ok (.iaload, 1) := by decide +kernel
theorem dX9_book_69 : decode cX9_book 69 = .ok (.imul, 1) := by decide +kernel
theorem dX9_book_70 : decode cX9_book 70 = .ok (.iadd, 1) := by decide +kernel
theorem dX9_book_71 : decode cX9_book 71 = .ok (.iload_n 1, 1) := by decide +kernel
theorem dX9_book_72 : decode cX9_book 72 = .ok (.iastore, 1) := by decide +kernel
theorem dX9_book_73 : decode cX9_book 73 = .ok (.aload_n 0, 1) := by decide +kernel
theorem dX9_book_74 : decode cX9_book 74 = .ok (.getfield 11, 3) := by decide +kernel
theorem dX9_book_77 : decode cX9_book 77 = .ok (.bipush 44, 2) := by decide +kernel
theorem dX9_book_79 : decode cX9_book 79 = .ok (.iconst 2, 1) := by decide +kernel
theorem dX9_book_80 : decode cX9_book 80 = .ok (.aload_n 0, 1) := by decide +kernel
theorem dX9_book_81 : decode cX9_book 81 = .ok (.getfield 11, 3) := by decide +kernel
theorem dX9_book_84 : decode cX9_book 84 = .ok (.bipush 43, 2) := by decide +kernel
theorem dX9_book_86 : decode cX9_book 86 = .ok (.iaload, 1) := by decide +kernel
theorem dX9_book_87 : decode cX9_book 87 = .ok (.imul, 1) := by decide +kernel
theorem dX9_book_88 : decode cX9_book 88 = .ok (.iadd, 1) := by decide +kernel
theorem dX9_book_89 : decode cX9_book 89 = .ok (.iconst 1, 1) := by decide +kernel
theorem dX9_book_90 : decode cX9_book 90 = .ok (.iadd, 1) := by decide +kernel
theorem dX9_book_91 : decode cX9_book 91 = .ok (.iload_n 2, 1) := by decide +kernel
theorem dX9_book_92 : decode cX9_book 92 = .ok (.iastore, 1) := by decide +kernel
theorem dX9_book_93 : decode cX9_book 93 = .ok (.aload_n 0, 1) := by decide +kernel
theorem dX9_book_94 : decode cX9_book 94 = .ok (.getfield 11, 3) := by decide +kernel
theorem dX9_book_97 : decode cX9_book 97 = .ok (.bipush 43, 2) := by decide +kernel
theorem dX9_book_99 : decode cX9_book 99 = .ok (.dup2, 1) := by decide +kernel
theorem dX9_book_100 : decode cX9_book 100 = .ok (.iaload, 1) := by decide +kernel
theorem dX9_book_101 : decode cX9_book 101 = .ok (.iconst 1, 1) := by decide +kernel
theorem dX9_book_102 : decode cX9_book 102 = .ok (.iadd, 1) := by decide +kernel
theorem dX9_book_103 : decode cX9_book 103 = .ok (.iastore, 1) := by decide +kernel
theorem dX9_book_104 : decode cX9_book 104 = .ok (.aload_n 0, 1) := by decide +kernel
theorem dX9_book_105 : decode cX9_book 105 = .ok (.getfield 11, 3) := by decide +kernel
theorem dX9_book_108 : decode cX9_book 108 = .ok (.bipush 43, 2) := by decide +kernel
theorem dX9_book_110 : decode cX9_book 110 = .ok (.iaload, 1) := by decide +kernel
theorem dX9_book_111 : decode cX9_book 111 = .ok (.ireturn, 1) := by decide +kernel
theorem dX9_looked_0 : decode cX9_looked 0 = .ok (.iconst 0, 1) := by decide +kernel
theorem dX9_looked_1 : decode cX9_looked 1 = .ok (.istore_n 1, 1) := by decide +kernel
theorem dX9_looked_2 : decode cX9_looked 2 = .ok (.iload_n 1, 1) := by decide +kernel
theorem dX9_looked_3 : decode cX9_looked 3 = .ok (.aload_n 0, 1) := by decide +kernel
theorem dX9_looked_4 : decode cX9_looked 4 = .ok (.getfield 11, 3) := by decide +kernel
theorem dX9_looked_7 : decode cX9_looked 7 = .ok (.bipush 43, 2) := by decide +kernel
theorem dX9_looked_9 : decode cX9_looked 9 = .ok (.iaload, 1) := by decide +kernel
theorem dX9_looked_10 : decode cX9_looked 10 = .ok (.if_icmp .ge 56, 3) := by decide +kernel
theorem dX9_looked_13 : decode cX9_looked 13 = .ok (.aload_n 0, 1) := by decide +kernel
theorem dX9_looked_14 : decode cX9_looked 14 = .ok (.getfield 11, 3) := by decide +kernel
theorem dX9_looked_17 : decode cX9_looked 17 = .ok (.bipush 44, 2) := by decide +kernel
theorem dX9_looked_19 : decode cX9_looked 19 = .ok (.iconst 2, 1) := by decide +kernel
theorem dX9_looked_20 : decode cX9_looked 20 = .ok (.iload_n 1, 1) := by decide +kernel
theorem dX9_looked_21 : decode cX9_looked 21 = .ok (.imul, 1) := by decide +kernel
theorem dX9_looked_22 : decode cX9_looked 22 = .ok (.iadd, 1) := by decide +kernel
theorem dX9_looked_23 : decode cX9_looked 23 = .ok (.iaload, 1) := by decide +kernel
theorem dX9_looked_24 : decode cX9_looked 24 = .ok (.istore_n 2, 1) := by decide +kernel
theorem dX9_looked_25 : decode cX9_looked 25 = .ok (.aload_n 0, 1) := by decide +kernel
theorem dX9_looked_26 : decode cX9_looked 26 = .ok (.iload_n 2, 1) := by decide +kernel
theorem dX9_looked_27 : decode cX9_looked 27 = .ok (.invokevirtual 99, 3) := by decide +kernel
theorem dX9_looked_30 : decode cX9_looked 30 = .ok (.ifCond .eq 28, 3) := by decide +kernel
theorem dX9_looked_33 : decode cX9_looked 33 = .ok (.aload_n 0, 1) := by decide +kernel
theorem dX9_looked_34 : decode cX9_looked 34 = .ok (.getfield 11, 3) := by decide +kernel
theorem dX9_looked_37 : decode cX9_looked 37 = .ok (.bipush 12, 2) := by decide +kernel
theorem dX9_looked_39 : decode cX9_looked 39 = .ok (.iload_n 2, 1) := by decide +kernel
theorem dX9_looked_40 : decode cX9_looked 40 = .ok (.iadd, 1) := by decide +kernel
theorem dX9_looked_41 : decode cX9_looked 41 = .ok (.iaload, 1) := by decide +kernel
theorem dX9_looked_42 : decode cX9_looked 42 = .ok (.aload_n 0, 1) := by decide +kernel
theorem dX9_looked_43 : decode cX9_looked 43 = .ok (.getfield 11, 3) := by decide +kernel
theorem dX9_looked_46 : decode cX9_looked 46 = .ok (.bipush 44, 2) := by decide +kernel
theorem dX9_looked_48 : decode cX9_looked 48 = .ok (.iconst 2, 1) := by decide +kernel
theorem dX9_looked_49 : decode cX9_looked 49 = .ok (.iload_n 1, 1) := by decide +kernel
theorem dX9_looked_50 : decode cX9_looked 50 = .ok (.imul, 1) := by decide +kernel
theorem dX9_looked_51 : decode cX9_looked 51 = .ok (.iadd, 1) := by decide +kernel
theorem dX9_looked_52 : decode cX9_looked 52 = .ok (.iconst 1, 1) := by decide +kernel
theorem dX9_looked_53 : decode cX9_looked 53 = .ok (.iadd, 1) := by decide +kernel
theorem dX9_looked_54 : decode cX9_looked 54 = .ok (.iaload, 1) := by decide +kernel
theorem dX9_looked_55 : decode cX9_looked 55 = .ok (.if_icmp .eq 5, 3) := by decide +kernel
theorem dX9_looked_58 : decode cX9_looked 58 = .ok (.iload_n 1, 1) := by decide +kernel
theorem dX9_looked_59 : decode cX9_looked 59 = .ok (.ireturn, 1) := by decide +kernel
theorem dX9_looked_60 : decode cX9_looked 60 = .ok (.iinc 1 1, 3) := by decide +kernel
theorem dX9_looked_63 : decode cX9_looked 63 = .ok (.goto (-61), 3) := by decide +kernel
theorem dX9_looked_66 : decode cX9_looked 66 = .ok (.bipush (-5), 2) := by decide +kernel
theorem dX9_looked_68 : decode cX9_looked 68 = .ok (.ireturn, 1) := by decide +kernel
theorem dX9_isTape_0 : decode cX9_isTape 0 = .ok (.iload_n 0, 1) := by decide +kernel
theorem dX9_isTape_1 : decode cX9_isTape 1 = .ok (.i2l, 1) := by decide +kernel
theorem dX9_isTape_2 : decode cX9_isTape 2 = .ok (.lconst 0, 1) := by decide +kernel
theorem dX9_isTape_3 : decode cX9_isTape 3 = .ok (.ldc2_w 97, 3) := by decide +kernel
theorem dX9_isTape_6 : decode cX9_isTape 6 = .ok (.invokestatic 66, 3) := by decide +kernel
theorem dX9_isTape_9 : decode cX9_isTape 9 = .ok (.ireturn, 1) := by decide +kernel
theorem dX9_judge_0 : decode cX9_judge 0 = .ok (.iload_n 1, 1) := by decide +kernel
theorem dX9_judge_1 : decode cX9_judge 1 = .ok (.invokestatic 233, 3) := by decide +kernel
theorem dX9_judge_4 : decode cX9_judge 4 = .ok (.ifCond .ne 5, 3) := by decide +kernel
theorem dX9_judge_7 : decode cX9_judge 7 = .ok (.iconst (-1), 1) := by decide +kernel
theorem dX9_judge_8 : decode cX9_judge 8 = .ok (.ireturn, 1) := by decide +kernel
theorem dX9_judge_9 : decode cX9_judge 9 = .ok (.aload_n 0, 1) := by decide +kernel
theorem dX9_judge_10 : decode cX9_judge 10 = .ok (.getfield 52, 3) := by decide +kernel
theorem dX9_judge_13 : decode cX9_judge 13 = .ok (.iload_n 1, 1) := by decide +kernel
theorem dX9_judge_14 : decode cX9_judge 14 = .ok (.iaload, 1) := by decide +kernel
theorem dX9_judge_15 : decode cX9_judge 15 = .ok (.iconst (-1), 1) := by decide +kernel
theorem dX9_judge_16 : decode cX9_judge 16 = .ok (.if_icmp .eq 16, 3) := by decide +kernel
theorem dX9_judge_19 : decode cX9_judge 19 = .ok (.aload_n 0, 1) := by decide +kernel
theorem dX9_judge_20 : decode cX9_judge 20 = .ok (.getfield 52, 3) := by decide +kernel
theorem dX9_judge_23 : decode cX9_judge 23 = .ok (.iload_n 1, 1) := by decide +kernel
theorem dX9_judge_24 : decode cX9_judge 24 = .ok (.iaload, 1) := by decide +kernel
theorem dX9_judge_25 : decode cX9_judge 25 = .ok (.iconst 1, 1) := by decide +kernel
theorem dX9_judge_26 : decode cX9_judge 26 = .ok (.if_icmp .eq 6, 3) := by decide +kernel
theorem dX9_judge_29 : decode cX9_judge 29 = .ok (.bipush (-12), 2) := by decide +kernel
theorem dX9_judge_31 : decode cX9_judge 31 = .ok (.ireturn, 1) := by decide +kernel
theorem dX9_judge_32 : decode cX9_judge 32 = .ok (.iconst 0, 1) := by decide +kernel
theorem dX9_judge_33 : decode cX9_judge 33 = .ok (.istore_n 3, 1) := by decide +kernel
theorem dX9_judge_34 : decode cX9_judge 34 = .ok (.iload_n 3, 1) := by decide +kernel
theorem dX9_judge_35 : decode cX9_judge 35 = .ok (.aload_n 0, 1) := by decide +kernel
theorem dX9_judge_36 : decode cX9_judge 36 = .ok (.getfield 11, 3) := by decide +kernel
theorem dX9_judge_39 : decode cX9_judge 39 = .ok (.iconst 0, 1) := by decide +kernel
theorem dX9_judge_40 : decode cX9_judge 40 = .ok (.iaload, 1) := by decide +kernel
theorem dX9_judge_41 : decode cX9_judge 41 = .ok (.if_icmp .ge 56, 3) := by decide +kernel
theorem dX9_judge_44 : decode cX9_judge 44 = .ok (.aload_n 0, 1) := by decide +kernel
theorem dX9_judge_45 : decode cX9_judge 45 = .ok (.iload_n 1, 1) := by decide +kernel
theorem dX9_judge_46 : decode cX9_judge 46 = .ok (.iload_n 2, 1) := by decide +kernel
theorem dX9_judge_47 : decode cX9_judge 47 = .ok (.i2l, 1) := by decide +kernel
theorem dX9_judge_48 : decode cX9_judge 48 = .ok (.iload_n 3, 1) := by decide +kernel
theorem dX9_judge_49 : decode cX9_judge 49 = .ok (.i2l, 1) := by decide +kernel
theorem dX9_judge_50 : decode cX9_judge 50 = .ok (.ladd, 1) := by decide +kernel
theorem dX9_judge_51 : decode cX9_judge 51 = .ok (.invokevirtual 236, 3) := by decide +kernel
theorem dX9_judge_54 : decode cX9_judge 54 = .ok (.ifCond .ne 8, 3) := by decide +kernel
theorem dX9_judge_57 : decode cX9_judge 57 = .ok (.bipush 100, 2) := by decide +kernel
theorem dX9_judge_59 : decode cX9_judge 59 = .ok (.iload_n 3, 1) := by decide +kernel
theorem dX9_judge_60 : decode cX9_judge 60 = .ok (.iadd, 1) := by decide +kernel
theorem dX9_judge_61 : decode cX9_judge 61 = .ok (.ireturn, 1) := by decide +kernel
theorem dX9_judge_62 : decode cX9_judge 62 = .ok (.aload_n 0, 1) := by decide +kernel
theorem dX9_judge_63 : decode cX9_judge 63 = .ok (.getfield 58, 3) := by decide +kernel
theorem dX9_judge_66 : decode cX9_judge 66 = .ok (.bipush 60, 2) := by decide +kernel
theorem dX9_judge_68 : decode cX9_judge 68 = .ok (.iload_n 1, 1) := by decide +kernel
theorem dX9_judge_69 : decode cX9_judge 69 = .ok (.imul, 1) := by decide +kernel
theorem dX9_judge_70 : decode cX9_judge 70 = .ok (.iload_n 2, 1) := by decide +kernel
theorem dX9_judge_71 : decode cX9_judge 71 = .ok (.iadd, 1) := by decide +kernel
theorem dX9_judge_72 : decode cX9_judge 72 = .ok (.iload_n 3, 1) := by decide +kernel
theorem dX9_judge_73 : decode cX9_judge 73 = .ok (.iadd, 1) := by decide +kernel
theorem dX9_judge_74 : decode cX9_judge 74 = .ok (.laload, 1) := by decide +kernel
theorem dX9_judge_75 : decode cX9_judge 75 = .ok (.aload_n 0, 1) := by decide +kernel
theorem dX9_judge_76 : decode cX9_judge 76 = .ok (.getfield 11, 3) := by decide +kernel
theorem dX9_judge_79 : decode cX9_judge 79 = .ok (.bipush 12, 2) := by decide +kernel
theorem dX9_judge_81 : decode cX9_judge 81 = .ok (.iload_n 3, 1) := by decide +kernel
theorem dX9_judge_82 : decode cX9_judge 82 = .ok (.iadd, 1) := by decide +kernel
theorem dX9_judge_83 : decode cX9_judge 83 = .ok (.iaload, 1) := by decide +kernel
theorem dX9_judge_84 : decode cX9_judge 84 = .ok (.i2l, 1) := by decide +kernel
theorem dX9_judge_85 : decode cX9_judge 85 = .ok (.lcmp, 1) := by decide +kernel
theorem dX9_judge_86 : decode cX9_judge 86 = .ok (.ifCond .eq 5, 3) := by decide +kernel
theorem dX9_judge_89 : decode cX9_judge 89 = .ok (.iload_n 3, 1) := by decide +kernel
theorem dX9_judge_90 : decode cX9_judge 90 = .ok (.ireturn, 1) := by decide +kernel
theorem dX9_judge_91 : decode cX9_judge 91 = .ok (.iinc 3 1, 3) := by decide +kernel
theorem dX9_judge_94 : decode cX9_judge 94 = .ok (.goto (-60), 3) := by decide +kernel
theorem dX9_judge_97 : decode cX9_judge 97 = .ok (.bipush (-5), 2) := by decide +kernel
theorem dX9_judge_99 : decode cX9_judge 99 = .ok (.ireturn, 1) := by decide +kernel
theorem dX9_image_0 : decode cX9_image 0 = .ok (.aload_n 0, 1) := by decide +kernel
theorem dX9_image_1 : decode cX9_image 1 = .ok (.getfield 11, 3) := by decide +kernel
theorem dX9_image_4 : decode cX9_image 4 = .ok (.iconst 0, 1) := by decide +kernel
theorem dX9_image_5 : decode cX9_image 5 = .ok (.aload_n 0, 1) := by decide +kernel
theorem dX9_image_6 : decode cX9_image 6 = .ok (.getfield 15, 3) := by decide +kernel
theorem dX9_image_9 : decode cX9_image 9 = .ok (.iconst 0, 1) := by decide +kernel
theorem dX9_image_10 : decode cX9_image 10 = .ok (.bipush 60, 2) := by decide +kernel
theorem dX9_image_12 : decode cX9_image 12 = .ok (.invokestatic 89, 3) := by decide +kernel
theorem dX9_image_15 : decode cX9_image 15 = .ok (.aload_n 0, 1) := by decide +kernel
theorem dX9_image_16 : decode cX9_image 16 = .ok (.iconst 1, 1) := by decide +kernel
theorem dX9_image_17 : decode cX9_image 17 = .ok (.putfield 240, 3) := by decide +kernel
theorem dX9_image_20 : decode cX9_image 20 = .ok (.aload_n 0, 1) := by decide +kernel
theorem dX9_image_21 : decode cX9_image 21 = .ok (.invokevirtual 121, 3) := by decide +kernel
theorem dX9_image_24 : decode cX9_image 24 = .ok (.ireturn, 1) := by decide +kernel
theorem dX9_undo_0 : decode cX9_undo 0 = .ok (.aload_n 0, 1) := by decide +kernel
theorem dX9_undo_1 : decode cX9_undo 1 = .ok (.getfield 240, 3) := by decide +kernel
theorem dX9_undo_4 : decode cX9_undo 4 = .ok (.ifCond .ne 6, 3) := by decide +kernel
theorem dX9_undo_7 : decode cX9_undo 7 = .ok (.bipush (-3), 2) := by decide +kernel
theorem dX9_undo_9 : decode cX9_undo 9 = .ok (.ireturn, 1) := by decide +kernel
theorem dX9_undo_10 : decode cX9_undo 10 = .ok (.aload_n 0, 1) := by decide +kernel
theorem dX9_undo_11 : decode cX9_undo 11 = .ok (.getfield 15, 3) := by decide +kernel
theorem dX9_undo_14 : decode cX9_undo 14 = .ok (.iconst 0, 1) := by decide +kernel
theorem dX9_undo_15 : decode cX9_undo 15 = .ok (.aload_n 0, 1) := by decide +kernel
theorem dX9_undo_16 : decode cX9_undo 16 = .ok (.getfield 11, 3) := by decide +kernel
theorem dX9_undo_19 : decode cX9_undo 19 = .ok (.iconst 0, 1) := by decide +kernel
theorem dX9_undo_20 : decode cX9_undo 20 = .ok (.bipush 60, 2) := by decide +kernel
theorem dX9_undo_22 : decode cX9_undo 22 = .ok (.invokestatic 89, 3) := by decide +kernel
theorem dX9_undo_25 : decode cX9_undo 25 = .ok (.aload_n 0, 1) := by decide +kernel
theorem dX9_undo_26 : decode cX9_undo 26 = .ok (.iconst 0, 1) := by decide +kernel
theorem dX9_undo_27 : decode cX9_undo 27 = .ok (.putfield 70, 3) := by decide +kernel
theorem dX9_undo_30 : decode cX9_undo 30 = .ok (.aload_n 0, 1) := by decide +kernel
theorem dX9_undo_31 : decode cX9_undo 31 = .ok (.invokevirtual 121, 3) := by decide +kernel
theorem dX9_undo_34 : decode cX9_undo 34 = .ok (.ireturn, 1) := by decide +kernel
theorem dX9_count_0 : decode cX9_count 0 = .ok (.iload_n 1, 1) := by decide +kernel
theorem dX9_count_1 : decode cX9_count 1 = .ok (.tableswitch 69 0 4 #[35, 43, 51, 59, 64], 35) := by decide +kernel
theorem dX9_count_36 : decode cX9_count 36 = .ok (.aload_n 0, 1) := by decide +kernel
theorem dX9_count_37 : decode cX9_count 37 = .ok (.getfield 11, 3) := by decide +kernel
theorem dX9_count_40 : decode cX9_count 40 = .ok (.bipush 17, 2) := by decide +kernel
theorem dX9_count_42 : decode cX9_count 42 = .ok (.iaload, 1) := by decide +kernel
theorem dX9_count_43 : decode cX9_count 43 = .ok (.ireturn, 1) := by decide +kernel
theorem dX9_count_44 : decode cX9_count 44 = .ok (.aload_n 0, 1) := by decide +kernel
theorem dX9_count_45 : decode cX9_count 45 = .ok (.getfield 11, 3) := by decide +kernel
theorem dX9_count_48 : decode cX9_count 48 = .ok (.bipush 26, 2) := by decide +kernel
theorem dX9_count_50 : decode cX9_count 50 = .ok (.iaload, 1) := by decide +kernel
theorem dX9_count_51 : decode cX9_count 51 = .ok (.ireturn, 1) := by decide +kernel
theorem dX9_count_52 : decode cX9_count 52 = .ok (.aload_n 0, 1) := by decide +kernel
theorem dX9_count_53 : decode cX9_count 53 = .ok (.getfield 11, 3) := by decide +kernel
theorem dX9_count_56 : decode cX9_count 56 = .ok (.bipush 43, 2) := by decide +kernel
theorem dX9_count_58 : decode cX9_count 58 = .ok (.iaload, 1) := by decide +kernel
theorem dX9_count_59 : decode cX9_count 59 = .ok (.ireturn, 1) := by decide +kernel
theorem dX9_count_60 : decode cX9_count 60 = .ok (.aload_n 0, 1) := by decide +kernel
theorem dX9_count_61 : decode cX9_count 61 = .ok (.getfield 132, 3) := by decide +kernel
theorem dX9_count_64 : decode cX9_count 64 = .ok (.ireturn, 1) := by decide +kernel
theorem dX9_count_65 : decode cX9_count 65 = .ok (.aload_n 0, 1) := by decide +kernel
theorem dX9_count_66 : decode cX9_count 66 = .ok (.getfield 70, 3) := by decide +kernel
theorem dX9_count_69 : decode cX9_count 69 = .ok (.ireturn, 1) := by decide +kernel
theorem dX9_count_70 : decode cX9_count 70 = .ok (.bipush (-2), 2) := by decide +kernel
theorem dX9_count_72 : decode cX9_count 72 = .ok (.ireturn, 1) := by decide +kernel
theorem dX9_isItem_0 : decode cX9_isItem 0 = .ok (.aload_n 0, 1) := by decide +kernel
theorem dX9_isItem_1 : decode cX9_isItem 1 = .ok (.getfield 52, 3) := by decide +kernel
theorem dX9_isItem_4 : decode cX9_isItem 4 = .ok (.iload_n 1, 1) := by decide +kernel
theorem dX9_isItem_5 : decode cX9_isItem 5 = .ok (.iaload, 1) := by decide +kernel
theorem dX9_isItem_6 : decode cX9_isItem 6 = .ok (.iconst (-1), 1) := by decide +kernel
theorem dX9_isItem_7 : decode cX9_isItem 7 = .ok (.if_icmp .eq 24, 3) := by decide +kernel
theorem dX9_isItem_10 : decode cX9_isItem 10 = .ok (.lload_n 2, 1) := by decide +kernel
theorem dX9_isItem_11 : decode cX9_isItem 11 = .ok (.lconst 0, 1) := by decide +kernel
theorem dX9_isItem_12 : decode cX9_isItem 12 = .ok (.aload_n 0, 1) := by decide +kernel
theorem dX9_isItem_13 : decode cX9_isItem 13 = .ok (.getfield 55, 3) := by decide +kernel
theorem dX9_isItem_16 : decode cX9_isItem 16 = .ok (.iload_n 1, 1) := by decide +kernel
theorem dX9_isItem_17 : decode cX9_isItem 17 = .ok (.iaload, 1) := by decide +kernel
theorem dX9_isItem_18 : decode cX9_isItem 18 = .ok (.i2l, 1) := by decide +kernel
theorem dX9_isItem_19 : decode cX9_isItem 19 = .ok (.lconst 1, 1) := by decide +kernel
theorem dX9_isItem_20 : decode cX9_isItem 20 = .ok (.lsub, 1) := by decide +kernel
theorem dX9_isItem_21 : decode cX9_isItem 21 = .ok (.invokestatic 66, 3) := by decide +kernel
theorem dX9_isItem_24 : decode cX9_isItem 24 = .ok (.ifCond .eq 7, 3) := by decide +kernel
theorem dX9_isItem_27 : decode cX9_isItem 27 = .ok (.iconst 1, 1) := by decide +kernel
theorem dX9_isItem_28 : decode cX9_isItem 28 = .ok (.goto 4, 3) := by decide +kernel
theorem dX9_isItem_31 : decode cX9_isItem 31 = .ok (.iconst 0, 1) := by decide +kernel
theorem dX9_isItem_32 : decode cX9_isItem 32 = .ok (.ireturn, 1) := by decide +kernel
theorem dX9_tape_0 : decode cX9_tape 0 = .ok (.iload_n 1, 1) := by decide +kernel
theorem dX9_tape_1 : decode cX9_tape 1 = .ok (.invokestatic 233, 3) := by decide +kernel
theorem dX9_tape_4 : decode cX9_tape 4 = .ok (.ifCond .ne 5, 3) := by decide +kernel
theorem dX9_tape_7 : decode cX9_tape 7 = .ok (.iconst (-1), 1) := by decide +kernel
theorem dX9_tape_8 : decode cX9_tape 8 = .ok (.ireturn, 1) := by decide +kernel
theorem dX9_tape_9 : decode cX9_tape 9 = .ok (.iload_n 2, 1) := by decide +kernel
theorem dX9_tape_10 : decode cX9_tape 10 = .ok (.i2l, 1) := by decide +kernel
theorem dX9_tape_11 : decode cX9_tape 11 = .ok (.ldc2_w 244, 3) := by decide +kernel
theorem dX9_tape_14 : decode cX9_tape 14 = .ok (.ldc2_w 246, 3) := by decide +kernel
theorem dX9_tape_17 : decode cX9_tape 17 = .ok (.invokestatic 66, 3) := by decide +kernel
theorem dX9_tape_20 : decode cX9_tape 20 = .ok (.ifCond .eq 14, 3) := by decide +kernel
theorem dX9_tape_23 : decode cX9_tape 23 = .ok (.iload_n 2, 1) := by decide +kernel
theorem dX9_tape_24 : decode cX9_tape 24 = .ok (.iconst (-1), 1) := by decide +kernel
theorem dX9_tape_25 : decode cX9_tape 25 = .ok (.if_icmp .eq 12, 3) := by decide +kernel
theorem dX9_tape_28 : decode cX9_tape 28 = .ok (.iload_n 3, 1) := by decide +kernel
theorem dX9_tape_29 : decode cX9_tape 29 = .ok (.bipush 60, 2) := by decide +kernel
theorem dX9_tape_31 : decode cX9_tape 31 = .ok (.if_icmp .le 6, 3) := by decide +kernel
theorem dX9_tape_34 : decode cX9_tape 34 = .ok (.bipush (-2), 2) := by decide +kernel
theorem dX9_tape_36 : decode cX9_tape 36 = .ok (.ireturn, 1) := by decide +kernel
theorem dX9_tape_37 : decode cX9_tape 37 = .ok (.iload_n 2, 1) := by decide +kernel
theorem dX9_tape_38 : decode cX9_tape 38 = .ok (.iconst (-1), 1) := by decide +kernel
theorem dX9_tape_39 : decode cX9_tape 39 = .ok (.if_icmp .eq 10, 3) := by decide +kernel
theorem dX9_tape_42 : decode cX9_tape 42 = .ok (.iload_n 3, 1) := by decide +kernel
theorem dX9_tape_43 : decode cX9_tape 43 = .ok (.ifCond .ge 6, 3) := by decide +kernel
theorem dX9_tape_46 : decode cX9_tape 46 = .ok (.bipush (-14), 2) := by decide +kernel
theorem dX9_tape_48 : decode cX9_tape 48 = .ok (.ireturn, 1) := by decide +kernel
theorem dX9_tape_49 : decode cX9_tape 49 = .ok (.aload_n 0, 1) := by decide +kernel
theorem dX9_tape_50 : decode cX9_tape 50 = .ok (.getfield 52, 3) := by decide +kernel
theorem dX9_tape_53 : decode cX9_tape 53 = .ok (.iload_n 1, 1) := by decide +kernel
theorem dX9_tape_54 : decode cX9_tape 54 = .ok (.iload_n 2, 1) := by decide +kernel
theorem dX9_tape_55 : decode cX9_tape 55 = .ok (.iastore, 1) := by decide +kernel
theorem dX9_tape_56 : decode cX9_tape 56 = .ok (.aload_n 0, 1) := by decide +kernel
theorem dX9_tape_57 : decode cX9_tape 57 = .ok (.getfield 55, 3) := by decide +kernel
theorem dX9_tape_60 : decode cX9_tape 60 = .ok (.iload_n 1, 1) := by decide +kernel
theorem dX9_tape_61 : decode cX9_tape 61 = .ok (.iload_n 2, 1) := by decide +kernel
theorem dX9_tape_62 : decode cX9_tape 62 = .ok (.iconst (-1), 1) := by decide +kernel
theorem dX9_tape_63 : decode cX9_tape 63 = .ok (.if_icmp .ne 7, 3) := by decide +kernel
theorem dX9_tape_66 : decode cX9_tape 66 = .ok (.iconst 0, 1) := by decide +kernel
theorem dX9_tape_67 : decode cX9_tape 67 = .ok (.goto 4, 3) := by decide +kernel
theorem dX9_tape_70 : decode cX9_tape 70 = .ok (.iload_n 3, 1) := by decide +kernel
theorem dX9_tape_71 : decode cX9_tape 71 = .ok (.iastore, 1) := by decide +kernel
theorem dX9_tape_72 : decode cX9_tape 72 = .ok (.iconst 0, 1) := by decide +kernel
theorem dX9_tape_73 : decode cX9_tape 73 = .ok (.istore 4, 2) := by decide +kernel
theorem dX9_tape_75 : decode cX9_tape 75 = .ok (.iload 4, 2) := by decide +kernel
theorem dX9_tape_77 : decode cX9_tape 77 = .ok (.bipush 60, 2) := by decide +kernel
theorem dX9_tape_79 : decode cX9_tape 79 = .ok (.if_icmp .ge 22, 3) := by decide +kernel
theorem dX9_tape_82 : decode cX9_tape 82 = .ok (.aload_n 0, 1) := by decide +kernel
theorem dX9_tape_83 : decode cX9_tape 83 = .ok (.getfield 58, 3) := by decide +kernel
theorem dX9_tape_86 : decode cX9_tape 86 = .ok (.bipush 60, 2) := by decide +kernel
theorem dX9_tape_88 : decode cX9_tape 88 = .ok (.iload_n 1, 1) := by decide +kernel
theorem dX9_tape_89 : decode cX9_tape 89 = .ok (.imul, 1) := by decide +kernel
theorem dX9_tape_90 : decode cX9_tape 90 = .ok (.iload 4, 2) := by decide +kernel
theorem dX9_tape_92 : decode cX9_tape 92 = .ok (.iadd, 1) := by decide +kernel
theorem dX9_tape_93 : decode cX9_tape 93 = .ok (.lconst 0, 1) := by decide +kernel
theorem dX9_tape_94 : decode cX9_tape 94 = .ok (.lastore, 1) := by decide +kernel
theorem dX9_tape_95 : decode cX9_tape 95 = .ok (.iinc 4 1, 3) := by decide +kernel
theorem dX9_tape_98 : decode cX9_tape 98 = .ok (.goto (-23), 3) := by decide +kernel
theorem dX9_tape_101 : decode cX9_tape 101 = .ok (.iconst 1, 1) := by decide +kernel
theorem dX9_tape_102 : decode cX9_tape 102 = .ok (.ireturn, 1) := by decide +kernel
theorem dX9_held_0 : decode cX9_held 0 = .ok (.iload_n 0, 1) := by decide +kernel
theorem dX9_held_1 : decode cX9_held 1 = .ok (.tableswitch 47 0 3 #[31, 36, 41, 45], 31) := by decide +kernel
theorem dX9_held_32 : decode cX9_held 32 = .ok (.lload_n 1, 1) := by decide +kernel
theorem dX9_held_33 : decode cX9_held 33 = .ok (.l2i, 1) := by decide +kernel
theorem dX9_held_34 : decode cX9_held 34 = .ok (.i2b, 1) := by decide +kernel
theorem dX9_held_35 : decode cX9_held 35 = .ok (.i2l, 1) := by decide +kernel
theorem dX9_held_36 : decode cX9_held 36 = .ok (.lreturn, 1) := by decide +kernel
theorem dX9_held_37 : decode cX9_held 37 = .ok (.lload_n 1, 1) := by decide +kernel
theorem dX9_held_38 : decode cX9_held 38 = .ok (.l2i, 1) := by decide +kernel
theorem dX9_held_39 : decode cX9_held 39 = .ok (.i2s, 1) := by decide +kernel
theorem dX9_held_40 : decode cX9_held 40 = .ok (.i2l, 1) := by decide +kernel
theorem dX9_held_41 : decode cX9_held 41 = .ok (.lreturn, 1) := by decide +kernel
theorem dX9_held_42 : decode cX9_held 42 = .ok (.lload_n 1, 1) := by decide +kernel
theorem dX9_held_43 : decode cX9_held 43 = .ok (.l2i, 1) := by decide +kernel
theorem dX9_held_44 : decode cX9_held 44 = .ok (.i2l, 1) := by decide +kernel
theorem dX9_held_45 : decode cX9_held 45 = .ok (.lreturn, 1) := by decide +kernel
theorem dX9_held_46 : decode cX9_held 46 = .ok (.lload_n 1, 1) := by decide +kernel
theorem dX9_held_47 : decode cX9_held 47 = .ok (.lreturn, 1) := by decide +kernel
theorem dX9_held_48 : decode cX9_held 48 = .ok (.lload_n 1, 1) := by decide +kernel
theorem dX9_held_49 : decode cX9_held 49 = .ok (.lconst 0, 1) := by decide +kernel
theorem dX9_held_50 : decode cX9_held 50 = .ok (.lcmp, 1) := by decide +kernel
theorem dX9_held_51 : decode cX9_held 51 = .ok (.ifCond .eq 7, 3) := by decide +kernel
theorem dX9_held_54 : decode cX9_held 54 = .ok (.lconst 1, 1) := by decide +kernel
theorem dX9_held_55 : decode cX9_held 55 = .ok (.goto 4, 3) := by decide +kernel
theorem dX9_held_58 : decode cX9_held 58 = .ok (.lconst 0, 1) := by decide +kernel
theorem dX9_held_59 : decode cX9_held 59 = .ok (.lreturn, 1) := by decide +kernel
theorem dX9_item_0 : decode cX9_item 0 = .ok (.iload_n 1, 1) := by decide +kernel
theorem dX9_item_1 : decode cX9_item 1 = .ok (.invokestatic 233, 3) := by decide +kernel
theorem dX9_item_4 : decode cX9_item 4 = .ok (.ifCond .ne 5, 3) := by decide +kernel
theorem dX9_item_7 : decode cX9_item 7 = .ok (.iconst (-1), 1) := by decide +kernel
theorem dX9_item_8 : decode cX9_item 8 = .ok (.ireturn, 1) := by decide +kernel
theorem dX9_item_9 : decode cX9_item 9 = .ok (.aload_n 0, 1) := by decide +kernel
theorem dX9_item_10 : decode cX9_item 10 = .ok (.getfield 52, 3) := by decide +kernel
theorem dX9_item_13 : decode cX9_item 13 = .ok (.iload_n 1, 1) := by decide +kernel
theorem dX9_item_14 : decode cX9_item 14 = .ok (.iaload, 1) := by decide +kernel
theorem dX9_item_15 : decode cX9_item 15 = .ok (.iconst (-1), 1) := by decide +kernel
theorem dX9_item_16 : decode cX9_item 16 = .ok (.if_icmp .ne 6, 3) := by decide +kernel
theorem dX9_item_19 : decode cX9_item 19 = .ok (.bipush (-11), 2) := by decide +kernel
theorem dX9_item_21 : decode cX9_item 21 = .ok (.ireturn, 1) := by decide +kernel
theorem dX9_item_22 : decode cX9_item 22 = .ok (.aload_n 0, 1) := by decide +kernel
theorem dX9_item_23 : decode cX9_item 23 = .ok (.iload_n 1, 1) := by decide +kernel
theorem dX9_item_24 : decode cX9_item 24 = .ok (.iload_n 2, 1) := by decide +kernel
theorem dX9_item_25 : decode cX9_item 25 = .ok (.i2l, 1) := by decide +kernel
theorem dX9_item_26 : decode cX9_item 26 = .ok (.invokevirtual 236, 3) := by decide +kernel
theorem dX9_item_29 : decode cX9_item 29 = .ok (.ifCond .ne 6, 3) := by decide +kernel
theorem dX9_item_32 : decode cX9_item 32 = .ok (.bipush (-13), 2) := by decide +kernel
theorem dX9_item_34 : decode cX9_item 34 = .ok (.ireturn, 1) := by decide +kernel
theorem dX9_item_35 : decode cX9_item 35 = .ok (.aload_n 0, 1) := by decide +kernel
theorem dX9_item_36 : decode cX9_item 36 = .ok (.getfield 58, 3) := by decide +kernel
theorem dX9_item_39 : decode cX9_item 39 = .ok (.bipush 60, 2) := by decide +kernel
theorem dX9_item_41 : decode cX9_item 41 = .ok (.iload_n 1, 1) := by decide +kernel
theorem dX9_item_42 : decode cX9_item 42 = .ok (.imul, 1) := by decide +kernel
theorem dX9_item_43 : decode cX9_item 43 = .ok (.iload_n 2, 1) := by decide +kernel
theorem dX9_item_44 : decode cX9_item 44 = .ok (.iadd, 1) := by decide +kernel
theorem dX9_item_45 : decode cX9_item 45 = .ok (.aload_n 0, 1) := by decide +kernel
theorem dX9_item_46 : decode cX9_item 46 = .ok (.getfield 52, 3) := by decide +kernel
theorem dX9_item_49 : decode cX9_item 49 = .ok (.iload_n 1, 1) := by decide +kernel
theorem dX9_item_50 : decode cX9_item 50 = .ok (.iaload, 1) := by decide +kernel
theorem dX9_item_51 : decode cX9_item 51 = .ok (.lload_n 3, 1) := by decide +kernel
theorem dX9_item_52 : decode cX9_item 52 = .ok (.invokestatic 248, 3) := by decide +kernel
theorem dX9_item_55 : decode cX9_item 55 = .ok (.lastore, 1) := by decide +kernel
theorem dX9_item_56 : decode cX9_item 56 = .ok (.iconst 1, 1) := by decide +kernel
theorem dX9_item_57 : decode cX9_item 57 = .ok (.ireturn, 1) := by decide +kernel
theorem dX9_peek_0 : decode cX9_peek 0 = .ok (.iload_n 1, 1) := by decide +kernel
theorem dX9_peek_1 : decode cX9_peek 1 = .ok (.invokestatic 233, 3) := by decide +kernel
theorem dX9_peek_4 : decode cX9_peek 4 = .ok (.ifCond .eq 27, 3) := by decide +kernel
theorem dX9_peek_7 : decode cX9_peek 7 = .ok (.aload_n 0, 1) := by decide +kernel
theorem dX9_peek_8 : decode cX9_peek 8 = .ok (.iload_n 1, 1) := by decide +kernel
theorem dX9_peek_9 : decode cX9_peek 9 = .ok (.iload_n 2, 1) := by decide +kernel
theorem dX9_peek_10 : decode cX9_peek 10 = .ok (.i2l, 1) := by decide +kernel
theorem dX9_peek_11 : decode cX9_peek 11 = .ok (.invokevirtual 236, 3) := by decide +kernel
theorem dX9_peek_14 : decode cX9_peek 14 = .ok (.ifCond .eq 17, 3) := by decide +kernel
theorem dX9_peek_17 : decode cX9_peek 17 = .ok (.aload_n 0, 1) := by decide +kernel
theorem dX9_peek_18 : decode cX9_peek 18 = .ok (.getfield 58, 3) := by decide +kernel
theorem dX9_peek_21 : decode cX9_peek 21 = .ok (.bipush 60, 2) := by decide +kernel
theorem dX9_peek_23 : decode cX9_peek 23 = .ok (.iload_n 1, 1) := by decide +kernel
theorem dX9_peek_24 : decode cX9_peek 24 = .ok (.imul, 1) := by decide +kernel
theorem dX9_peek_25 : decode cX9_peek 25 = .ok (.iload_n 2, 1) := by decide +kernel
theorem dX9_peek_26 : decode cX9_peek 26 = .ok (.iadd, 1) := by decide +kernel
theorem dX9_peek_27 : decode cX9_peek 27 = .ok (.laload, 1) := by decide +kernel
theorem dX9_peek_28 : decode cX9_peek 28 = .ok (.goto 6, 3) := by decide +kernel
theorem dX9_peek_31 : decode cX9_peek 31 = .ok (.ldc2_w 225, 3) := by decide +kernel
theorem dX9_peek_34 : decode cX9_peek 34 = .ok (.lreturn, 1) := by decide +kernel
theorem dX9_shift_0 : decode cX9_shift 0 = .ok (.iload_n 1, 1) := by decide +kernel
theorem dX9_shift_1 : decode cX9_shift 1 = .ok (.invokestatic 233, 3) := by decide +kernel
theorem dX9_shift_4 : decode cX9_shift 4 = .ok (.ifCond .eq 10, 3) := by decide +kernel
theorem dX9_shift_7 : decode cX9_shift 7 = .ok (.iload_n 3, 1) := by decide +kernel
theorem dX9_shift_8 : decode cX9_shift 8 = .ok (.invokestatic 233, 3) := by decide +kernel
theorem dX9_shift_11 : decode cX9_shift 11 = .ok (.ifCond .ne 5, 3) := by decide +kernel
theorem dX9_shift_14 : decode cX9_shift 14 = .ok (.iconst (-1), 1) := by decide +kernel
theorem dX9_shift_15 : decode cX9_shift 15 = .ok (.ireturn, 1) := by decide +kernel
theorem dX9_shift_16 : decode cX9_shift 16 = .ok (.aload_n 0, 1) := by decide +kernel
theorem dX9_shift_17 : decode cX9_shift 17 = .ok (.getfield 52, 3) := by decide +kernel
theorem dX9_shift_20 : decode cX9_shift 20 = .ok (.iload_n 1, 1) := by decide +kernel
theorem dX9_shift_21 : decode cX9_shift 21 = .ok (.iaload, 1) := by decide +kernel
theorem dX9_shift_22 : decode cX9_shift 22 = .ok (.iconst (-1), 1) := by decide +kernel
theorem dX9_shift_23 : decode cX9_shift 23 = .ok (.if_icmp .eq 13, 3) := by decide +kernel
theorem dX9_shift_26 : decode cX9_shift 26 = .ok (.aload_n 0, 1) := by decide +kernel
theorem dX9_shift_27 : decode cX9_shift 27 = .ok (.getfield 52, 3) := by decide +kernel
theorem dX9_shift_30 : decode cX9_shift 30 = .ok (.iload_n 3, 1) := by decide +kernel
theorem dX9_shift_31 : decode cX9_shift 31 = .ok (.iaload, 1) := by decide +kernel
theorem dX9_shift_32 : decode cX9_shift 32 = .ok (.iconst (-1), 1) := by decide +kernel
theorem dX9_shift_33 : decode cX9_shift 33 = .ok (.if_icmp .ne 6, 3) := by decide +kernel
theorem dX9_shift_36 : decode cX9_shift 36 = .ok (.bipush (-11), 2) := by decide +kernel
theorem dX9_shift_38 : decode cX9_shift 38 = .ok (.ireturn, 1) := by decide +kernel
theorem dX9_shift_39 : decode cX9_shift 39 = .ok (.aload_n 0, 1) := by decide +kernel
theorem dX9_shift_40 : decode cX9_shift 40 = .ok (.getfield 52, 3) := by decide +kernel
theorem dX9_shift_43 : decode cX9_shift 43 = .ok (.iload_n 1, 1) := by decide +kernel
theorem dX9_shift_44 : decode cX9_shift 44 = .ok (.iaload, 1) := by decide +kernel
theorem dX9_shift_45 : decode cX9_shift 45 = .ok (.aload_n 0, 1) := by decide +kernel
theorem dX9_shift_46 : decode cX9_shift 46 = .ok (.getfield 52, 3) := by decide +kernel
theorem dX9_shift_49 : decode cX9_shift 49 = .ok (.iload_n 3, 1) := by decide +kernel
theorem dX9_shift_50 : decode cX9_shift 50 = .ok (.iaload, 1) := by decide +kernel
theorem dX9_shift_51 : decode cX9_shift 51 = .ok (.if_icmp .eq 6, 3) := by decide +kernel
theorem dX9_shift_54 : decode cX9_shift 54 = .ok (.bipush (-12), 2) := by decide +kernel
theorem dX9_shift_56 : decode cX9_shift 56 = .ok (.ireturn, 1) := by decide +kernel
theorem dX9_shift_57 : decode cX9_shift 57 = .ok (.iload 5, 2) := by decide +kernel
theorem dX9_shift_59 : decode cX9_shift 59 = .ok (.ifCond .lt 39, 3) := by decide +kernel
theorem dX9_shift_62 : decode cX9_shift 62 = .ok (.iload_n 2, 1) := by decide +kernel
theorem dX9_shift_63 : decode cX9_shift 63 = .ok (.ifCond .lt 35, 3) := by decide +kernel
theorem dX9_shift_66 : decode cX9_shift 66 = .ok (.iload 4, 2) := by decide +kernel
theorem dX9_shift_68 : decode cX9_shift 68 = .ok (.ifCond .lt 30, 3) := by decide +kernel
theorem dX9_shift_71 : decode cX9_shift 71 = .ok (.iload_n 2, 1) := by decide +kernel
theorem dX9_shift_72 : decode cX9_shift 72 = .ok (.aload_n 0, 1) := by decide +kernel
theorem dX9_shift_73 : decode cX9_shift 73 = .ok (.getfield 55, 3) := by decide +kernel
theorem dX9_shift_76 : decode cX9_shift 76 = .ok (.iload_n 1, 1) := by decide +kernel
theorem dX9_shift_77 : decode cX9_shift 77 = .ok (.iaload, 1) := by decide +kernel
theorem dX9_shift_78 : decode cX9_shift 78 = .ok (.iload 5, 2) := by decide +kernel
theorem dX9_shift_80 : decode cX9_shift 80 = .ok (.isub, 1) := by decide +kernel
theorem dX9_shift_81 : decode cX9_shift 81 = .ok (.if_icmp .gt 17, 3) := by decide +kernel
theorem dX9_shift_84 : decode cX9_shift 84 = .ok (.iload 4, 2) := by decide +kernel
theorem dX9_shift_86 : decode cX9_shift 86 = .ok (.aload_n 0, 1) := by decide +kernel
theorem dX9_shift_87 : decode cX9_shift 87 = .ok (.getfield 55, 3) := by decide +kernel
theorem dX9_shift_90 : decode cX9_shift 90 = .ok (.iload_n 3, 1) := by decide +kernel
theorem dX9_shift_91 : decode cX9_shift 91 = .ok (.iaload, 1) := by decide +kernel
theorem dX9_shift_92 : decode cX9_shift 92 = .ok (.iload 5, 2) := by decide +kernel
theorem dX9_shift_94 : decode cX9_shift 94 = .ok (.isub, 1) := by decide +kernel
theorem dX9_shift_95 : decode cX9_shift 95 = .ok (.if_icmp .le 6, 3) := by decide +kernel
theorem dX9_shift_98 : decode cX9_shift 98 = .ok (.bipush (-13), 2) := by decide +kernel
theorem dX9_shift_100 : decode cX9_shift 100 = .ok (.ireturn, 1) := by decide +kernel
theorem dX9_shift_101 : decode cX9_shift 101 = .ok (.aload_n 0, 1) := by decide +kernel
theorem dX9_shift_102 : decode cX9_shift 102 = .ok (.getfield 58, 3) := by decide +kernel
theorem dX9_shift_105 : decode cX9_shift 105 = .ok (.bipush 60, 2) := by decide +kernel
theorem dX9_shift_107 : decode cX9_shift 107 = .ok (.iload_n 1, 1) := by decide +kernel
theorem dX9_shift_108 : decode cX9_shift 108 = .ok (.imul, 1) := by decide +kernel
theorem dX9_shift_109 : decode cX9_shift 109 = .ok (.iload_n 2, 1) := by decide +kernel
theorem dX9_shift_110 : decode cX9_shift 110 = .ok (.iadd, 1) := by decide +kernel
theorem dX9_shift_111 : decode cX9_shift 111 = .ok (.aload_n 0, 1) := by decide +kernel
theorem dX9_shift_112 : decode cX9_shift 112 = .ok (.getfield 58, 3) := by decide +kernel
theorem dX9_shift_115 : decode cX9_shift 115 = .ok (.bipush 60, 2) := by decide +kernel
theorem dX9_shift_117 : decode cX9_shift 117 = .ok (.iload_n 3, 1) := by decide +kernel
theorem dX9_shift_118 : decode cX9_shift 118 = .ok (.imul, 1) := by decide +kernel
theorem dX9_shift_119 : decode cX9_shift 119 = .ok (.iload 4, 2) := by decide +kernel
theorem dX9_shift_121 : decode cX9_shift 121 = .ok (.iadd, 1) := by decide +kernel
theorem dX9_shift_122 : decode cX9_shift 122 = .ok (.iload 5, 2) := by decide +kernel
theorem dX9_shift_124 : decode cX9_shift 124 = .ok (.invokestatic 89, 3) := by decide +kernel
theorem dX9_shift_127 : decode cX9_shift 127 = .ok (.iload 5, 2) := by decide +kernel
theorem dX9_shift_129 : decode cX9_shift 129 = .ok (.ireturn, 1) := by decide +kernel
theorem dJ9_abs_0f7a4_0 : decode cJ9_abs_0f7a4 0 = .ok (.iload_n 0, 1) := by decide +kernel
theorem dJ9_abs_0f7a4_1 : decode cJ9_abs_0f7a4 1 = .ok (.ifCond .ge 8, 3) := by decide +kernel
theorem dJ9_abs_0f7a4_4 : decode cJ9_abs_0f7a4 4 = .ok (.iload_n 0, 1) := by decide +kernel
theorem dJ9_abs_0f7a4_5 : decode cJ9_abs_0f7a4 5 = .ok (.ineg, 1) := by decide +kernel
theorem dJ9_abs_0f7a4_6 : decode cJ9_abs_0f7a4 6 = .ok (.goto 4, 3) := by decide +kernel
theorem dJ9_abs_0f7a4_9 : decode cJ9_abs_0f7a4 9 = .ok (.iload_n 0, 1) := by decide +kernel
theorem dJ9_abs_0f7a4_10 : decode cJ9_abs_0f7a4 10 = .ok (.ireturn, 1) := by decide +kernel
theorem dJ9_max_7cf53_0 : decode cJ9_max_7cf53 0 = .ok (.iload_n 0, 1) := by decide +kernel
theorem dJ9_max_7cf53_1 : decode cJ9_max_7cf53 1 = .ok (.iload_n 1, 1) := by decide +kernel
theorem dJ9_max_7cf53_2 : decode cJ9_max_7cf53 2 = .ok (.if_icmp .lt 7, 3) := by decide +kernel
theorem dJ9_max_7cf53_5 : decode cJ9_max_7cf53 5 = .ok (.iload_n 0, 1) := by decide +kernel
theorem dJ9_max_7cf53_6 : decode cJ9_max_7cf53 6 = .ok (.goto 4, 3) := by decide +kernel
theorem dJ9_max_7cf53_9 : decode cJ9_max_7cf53 9 = .ok (.iload_n 1, 1) := by decide +kernel
theorem dJ9_max_7cf53_10 : decode cJ9_max_7cf53 10 = .ok (.ireturn, 1) := by decide +kernel
theorem dJ9_min_7cf53_0 : decode cJ9_min_7cf53 0 = .ok (.iload_n 0, 1) := by decide +kernel
theorem dJ9_min_7cf53_1 : decode cJ9_min_7cf53 1 = .ok (.iload_n 1, 1) := by decide +kernel
theorem dJ9_min_7cf53_2 : decode cJ9_min_7cf53 2 = .ok (.if_icmp .gt 7, 3) := by decide +kernel
theorem dJ9_min_7cf53_5 : decode cJ9_min_7cf53 5 = .ok (.iload_n 0, 1) := by decide +kernel
theorem dJ9_min_7cf53_6 : decode cJ9_min_7cf53 6 = .ok (.goto 4, 3) := by decide +kernel
theorem dJ9_min_7cf53_9 : decode cJ9_min_7cf53 9 = .ok (.iload_n 1, 1) := by decide +kernel
theorem dJ9_min_7cf53_10 : decode cJ9_min_7cf53 10 = .ok (.ireturn, 1) := by decide +kernel
theorem dJ7_fill_d0a16_0 : decode cJ7_fill_d0a16 0 = .ok (.iconst 0, 1) := by decide +kernel
theorem dJ7_fill_d0a16_1 : decode cJ7_fill_d0a16 1 = .ok (.istore_n 3, 1) := by decide +kernel
theorem dJ7_fill_d0a16_2 : decode cJ7_fill_d0a16 2 = .ok (.aload_n 0, 1) := by decide +kernel
theorem dJ7_fill_d0a16_3 : decode cJ7_fill_d0a16 3 = .ok (.arraylength, 1) := by decide +kernel
theorem dJ7_fill_d0a16_4 : decode cJ7_fill_d0a16 4 = .ok (.istore 4, 2) := by decide +kernel
theorem dJ7_fill_d0a16_6 : decode cJ7_fill_d0a16 6 = .ok (.iload_n 3, 1) := by decide +kernel
theorem dJ7_fill_d0a16_7 : decode cJ7_fill_d0a16 7 = .ok (.iload 4, 2) := by decide +kernel
theorem dJ7_fill_d0a16_9 : decode cJ7_fill_d0a16 9 = .ok (.if_icmp .ge 13, 3) := by decide +kernel
theorem dJ7_fill_d0a16_12 : decode cJ7_fill_d0a16 12 = .ok (.aload_n 0, 1) := by decide +kernel
theorem dJ7_fill_d0a16_13 : decode cJ7_fill_d0a16 13 = .ok (.iload_n 3, 1) := by decide +kernel
theorem dJ7_fill_d0a16_14 : decode cJ7_fill_d0a16 14 = .ok (.lload_n 1, 1) := by decide +kernel
theorem dJ7_fill_d0a16_15 : decode cJ7_fill_d0a16 15 = .ok (.lastore, 1) := by decide +kernel
theorem dJ7_fill_d0a16_16 : decode cJ7_fill_d0a16 16 = .ok (.iinc 3 1, 3) := by decide +kernel
theorem dJ7_fill_d0a16_19 : decode cJ7_fill_d0a16 19 = .ok (.goto (-13), 3) := by decide +kernel
theorem dJ7_fill_d0a16_22 : decode cJ7_fill_d0a16 22 = .ok (.return_, 1) := by decide +kernel
theorem dL_law_0 : decode cL_law 0 = .ok (.new 7, 3) := by decide +kernel
theorem dL_law_3 : decode cL_law 3 = .ok (.dup, 1) := by decide +kernel
theorem dL_law_4 : decode cL_law 4 = .ok (.invokespecial 9, 3) := by decide +kernel
theorem dL_law_7 : decode cL_law 7 = .ok (.astore_n 1, 1) := by decide +kernel
theorem dL_law_8 : decode cL_law 8 = .ok (.new 10, 3) := by decide +kernel
theorem dL_law_11 : decode cL_law 11 = .ok (.dup, 1) := by decide +kernel
theorem dL_law_12 : decode cL_law 12 = .ok (.invokespecial 12, 3) := by decide +kernel
theorem dL_law_15 : decode cL_law 15 = .ok (.astore_n 2, 1) := by decide +kernel
theorem dL_law_16 : decode cL_law 16 = .ok (.iconst 0, 1) := by decide +kernel
theorem dL_law_17 : decode cL_law 17 = .ok (.istore_n 3, 1) := by decide +kernel
theorem dL_law_18 : decode cL_law 18 = .ok (.iload_n 3, 1) := by decide +kernel
theorem dL_law_19 : decode cL_law 19 = .ok (.aload_n 0, 1) := by decide +kernel
theorem dL_law_20 : decode cL_law 20 = .ok (.arraylength, 1) := by decide +kernel
theorem dL_law_21 : decode cL_law 21 = .ok (.bipush 6, 2) := by decide +kernel
theorem dL_law_23 : decode cL_law 23 = .ok (.isub, 1) := by decide +kernel
theorem dL_law_24 : decode cL_law 24 = .ok (.if_icmp .gt 1084, 3) := by decide +kernel
theorem dL_law_27 : decode cL_law 27 = .ok (.aload_n 0, 1) := by decide +kernel
theorem dL_law_28 : decode cL_law 28 = .ok (.iload_n 3, 1) := by decide +kernel
theorem dL_law_29 : decode cL_law 29 = .ok (.iaload, 1) := by decide +kernel
theorem dL_law_30 : decode cL_law 30 = .ok (.bipush 63, 2) := by decide +kernel
theorem dL_law_32 : decode cL_law 32 = .ok (.iand, 1) := by decide +kernel
theorem dL_law_33 : decode cL_law 33 = .ok (.tableswitch 1069 0 32 #[147, 170, 193, 226, 259, 272, 295, 308, 321, 344, 357, 390, 413, 446, 479, 502, 535, 558, 591, 624, 648, 672, 705, 728, 761, 774, 807, 820, 833, 856, 899, 972, 1006], 147) := by decide +kernel
theorem dL_law_180 : decode cL_law 180 = .ok (.aload_n 1, 1) := by decide +kernel
theorem dL_law_181 : decode cL_law 181 = .ok (.aload_n 0, 1) := by decide +kernel
theorem dL_law_182 : decode cL_law 182 = .ok (.iload_n 3, 1) := by decide +kernel
theorem dL_law_183 : decode cL_law 183 = .ok (.iconst 1, 1) := by decide +kernel
theorem dL_law_184 : decode cL_law 184 = .ok (.iadd, 1) := by decide +kernel
theorem dL_law_185 : decode cL_law 185 = .ok (.iaload, 1) := by decide +kernel
theorem dL_law_186 : decode cL_law 186 = .ok (.invokevirtual 13, 3) := by decide +kernel
theorem dL_law_189 : decode cL_law 189 = .ok (.aload_n 2, 1) := by decide +kernel
theorem dL_law_190 : decode cL_law 190 = .ok (.aload_n 0, 1) := by decide +kernel
theorem dL_law_191 : decode cL_law 191 = .ok (.iload_n 3, 1) := by decide +kernel
theorem dL_law_192 : decode cL_law 192 = .ok (.iconst 1, 1) := by decide +kernel
theorem dL_law_193 : decode cL_law 193 = .ok (.iadd, 1) := by decide +kernel
theorem dL_law_194 : decode cL_law 194 = .ok (.iaload, 1) := by decide +kernel
theorem dL_law_195 : decode cL_law 195 = .ok (.invokevirtual 17, 3) := by decide +kernel
theorem dL_law_198 : decode cL_law 198 = .ok (.if_icmp .eq 904, 3) := by decide +kernel
theorem dL_law_201 : decode cL_law 201 = .ok (.iconst 0, 1) := by decide +kernel
theorem dL_law_202 : decode cL_law 202 = .ok (.ireturn, 1) := by decide +kernel
theorem dL_law_203 : decode cL_law 203 = .ok (.aload_n 1, 1) := by decide +kernel
theorem dL_law_204 : decode cL_law 204 = .ok (.aload_n 0, 1) := by decide +kernel
theorem dL_law_205 : decode cL_law 205 = .ok (.iload_n 3, 1) := by decide +kernel
theorem dL_law_206 : decode cL_law 206 = .ok (.iconst 1, 1) := by decide +kernel
theorem dL_law_207 : decode cL_law 207 = .ok (.iadd, 1) := by decide +kernel
theorem dL_law_208 : decode cL_law 208 = .ok (.iaload, 1) := by decide +kernel
theorem dL_law_209 : decode cL_law 209 = .ok (.invokevirtual 18, 3) := by decide +kernel
theorem dL_law_212 : decode cL_law 212 = .ok (.aload_n 2, 1) := by decide +kernel
theorem dL_law_213 : decode cL_law 213 = .ok (.aload_n 0, 1) := by decide +kernel
theorem dL_law_214 : decode cL_law 214 = .ok (.iload_n 3, 1) := by decide +kernel
theorem dL_law_215 : decode cL_law 215 = .ok (.iconst 1, 1) := by decide +kernel
theorem dL_law_216 : decode cL_law 216 = .ok (.iadd, 1) := by decide +kernel
theorem dL_law_217 : decode cL_law 217 = .ok (.iaload, 1) := by decide +kernel
theorem dL_law_218 : decode cL_law 218 = .ok (.invokevirtual 21, 3) := by decide +kernel
theorem dL_law_221 : decode cL_law 221 = .ok (.if_icmp .eq 881, 3) := by decide +kernel
theorem dL_law_224 : decode cL_law 224 = .ok (.iconst 0, 1) := by decide +kernel
theorem dL_law_225 : decode cL_law 225 = .ok (.ireturn, 1) := by decide +kernel
theorem dL_law_226 : decode cL_law 226 = .ok (.aload_n 1, 1) := by decide +kernel
theorem dL_law_227 : decode cL_law 227 = .ok (.aload_n 0, 1) := by decide +kernel
theorem dL_law_228 : decode cL_law 228 = .ok (.iload_n 3, 1) := by decide +kernel
theorem dL_law_229 : decode cL_law 229 = .ok (.iconst 1, 1) := by decide +kernel
theorem dL_law_230 : decode cL_law 230 = .ok (.iadd, 1) := by decide +kernel
theorem dL_law_231 : decode cL_law 231 = .ok (.iaload, 1) := by decide +kernel
theorem dL_law_232 : decode cL_law 232 = .ok (.aload_n 0, 1) := by decide +kernel
theorem dL_law_233 : decode cL_law 233 = .ok (.iload_n 3, 1) := by decide +kernel
theorem dL_law_234 : decode cL_law 234 = .ok (.iconst 2, 1) := by decide +kernel
theorem dL_law_235 : decode cL_law 235 = .ok (.iadd, 1) := by decide +kernel
theorem dL_law_236 : decode cL_law 236 = .ok (.iaload, 1) := by decide +kernel
theorem dL_law_237 : decode cL_law 237 = .ok (.invokevirtual 22, 3) := by decide +kernel
theorem dL_law_240 : decode cL_law 240 = .ok (.aload_n 2, 1) := by decide +kernel
theorem dL_law_241 : decode cL_law 241 = .ok (.aload_n 0, 1) := by decide +kernel
theorem dL_law_242 : decode cL_law 242 = .ok (.iload_n 3, 1) := by decide +kernel
theorem dL_law_243 : decode cL_law 243 = .ok (.iconst 1, 1) := by decide +kernel
theorem dL_law_244 : decode cL_law 244 = .ok (.iadd, 1) := by decide +kernel
theorem dL_law_245 : decode cL_law 245 = .ok (.iaload, 1) := by decide +kernel
theorem dL_law_246 : decode cL_law 246 = .ok (.aload_n 0, 1) := by decide +kernel
theorem dL_law_247 : decode cL_law 247 = .ok (.iload_n 3, 1) := by decide +kernel
theorem dL_law_248 : decode cL_law 248 = .ok (.iconst 2, 1) := by decide +kernel
theorem dL_law_249 : decode cL_law 249 = .ok (.iadd, 1) := by decide +kernel
theorem dL_law_250 : decode cL_law 250 = .ok (.iaload, 1) := by decide +kernel
theorem dL_law_251 : decode cL_law 251 = .ok (.invokevirtual 26, 3) := by decide +kernel
theorem dL_law_254 : decode cL_law 254 = .ok (.if_icmp .eq 848, 3) := by decide +kernel
theorem dL_law_257 : decode cL_law 257 = .ok (.iconst 0, 1) := by decide +kernel
theorem dL_law_258 : decode cL_law 258 = .ok (.ireturn, 1) := by decide +kernel
theorem dL_law_259 : decode cL_law 259 = .ok (.aload_n 1, 1) := by decide +kernel
theorem dL_law_260 : decode cL_law 260 = .ok (.aload_n 0, 1) := by decide +kernel
theorem dL_law_261 : decode cL_law 261 = .ok (.iload_n 3, 1) := by decide +kernel
theorem dL_law_262 : decode cL_law 262 = .ok (.iconst 1, 1) := by decide +kernel
theorem dL_law_263 : decode cL_law 263 = .ok (.iadd, 1) := by decide +kernel
theorem dL_law_264 : decode cL_law 264 = .ok (.iaload, 1) := by decide +kernel
theorem dL_law_265 : decode cL_law 265 = .ok (.aload_n 0, 1) := by decide +kernel
theorem dL_law_266 : decode cL_law 266 = .ok (.iload_n 3, 1) := by decide +kernel
theorem dL_law_267 : decode cL_law 267 = .ok (.iconst 2, 1) := by decide +kernel
theorem dL_law_268 : decode cL_law 268 = .ok (.iadd, 1) := by decide +kernel
theorem dL_law_269 : decode cL_law 269 = .ok (.iaload, 1) := by decide +kernel
theorem dL_law_270 : decode cL_law 270 = .ok (.invokevirtual 27, 3) := by decide +kernel
theorem dL_law_273 : decode cL_law 273 = .ok (.aload_n 2, 1) := by decide +kernel
theorem dL_law_274 : decode cL_law 274 = .ok (.aload_n 0, 1) := by decide +kernel
theorem dL_law_275 : decode cL_law 275 = .ok (.iload_n 3, 1) := by decide +kernel
theorem dL_law_276 : decode cL_law 276 = .ok (.iconst 1, 1) := by decide +kernel
theorem dL_law_277 : decode cL_law 277 = .ok (.iadd, 1) := by decide +kernel
theorem dL_law_278 : decode cL_law 278 = .ok (.iaload, 1) := by decide +kernel
theorem dL_law_279 : decode cL_law 279 = .ok (.aload_n 0, 1) := by decide +kernel
theorem dL_law_280 : decode cL_law 280 = .ok (.iload_n 3, 1) := by decide +kernel
theorem dL_law_281 : decode cL_law 281 = .ok (.iconst 2, 1) := by decide +kernel
theorem dL_law_282 : decode cL_law 282 = .ok (.iadd, 1) := by decide +kernel
theorem dL_law_283 : decode cL_law 283 = .ok (.iaload, 1) := by decide +kernel
theorem dL_law_284 : decode cL_law 284 = .ok (.invokevirtual 30, 3) := by decide +kernel
theorem dL_law_287 : decode cL_law 287 = .ok (.if_icmp .eq 815, 3) := by decide +kernel
theorem dL_law_290 : decode cL_law 290 = .ok (.iconst 0, 1) := by decide +kernel
theorem dL_law_291 : decode cL_law 291 = .ok (.ireturn, 1) := by decide +kernel
theorem dL_law_292 : decode cL_law 292 = .ok (.aload_n 1, 1) := by decide +kernel
theorem dL_law_293 : decode cL_law 293 = .ok (.invokevirtual 31, 3) := by decide +kernel
theorem dL_law_296 : decode cL_law 296 = .ok (.aload_n 2, 1) := by decide +kernel
theorem dL_law_297 : decode cL_law 297 = .ok (.invokevirtual 35, 3) := by decide +kernel
theorem dL_law_300 : decode cL_law 300 = .ok (.if_icmp .eq 802, 3) := by decide +kernel
theorem dL_law_303 : decode cL_law 303 = .ok (.iconst 0, 1) := by decide +kernel
theorem dL_law_304 : decode cL_law 304 = .ok (.ireturn, 1) := by decide +kernel
theorem dL_law_305 : decode cL_law 305 = .ok (.aload_n 1, 1) := by decide +kernel
theorem dL_law_306 : decode cL_law 306 = .ok (.aload_n 0, 1) := by decide +kernel
theorem dL_law_307 : decode cL_law 307 = .ok (.iload_n 3, 1) := by decide +kernel
theorem dL_law_308 : decode cL_law 308 = .ok (.iconst 1, 1) := by decide +kernel
theorem dL_law_309 : decode cL_law 309 = .ok (.iadd, 1) := by decide +kernel
theorem dL_law_310 : decode cL_law 310 = .ok (.iaload, 1) := by decide +kernel
theorem dL_law_311 : decode cL_law 311 = .ok (.invokevirtual 36, 3) := by decide +kernel
theorem dL_law_314 : decode cL_law 314 = .ok (.aload_n 2, 1) := by decide +kernel
theorem dL_law_315 : decode cL_law 315 = .ok (.aload_n 0, 1) := by decide +kernel
theorem dL_law_316 : decode cL_law 316 = .ok (.iload_n 3, 1) := by decide +kernel
theorem dL_law_317 : decode cL_law 317 = .ok (.iconst 1, 1) := by decide +kernel
theorem dL_law_318 : decode cL_law 318 = .ok (.iadd, 1) := by decide +kernel
theorem dL_law_319 : decode cL_law 319 = .ok (.iaload, 1) := by decide +kernel
theorem dL_law_320 : decode cL_law 320 = .ok (.invokevirtual 39, 3) := by decide +kernel
theorem dL_law_323 : decode cL_law 323 = .ok (.if_icmp .eq 779, 3) := by decide +kernel
theorem dL_law_326 : decode cL_law 326 = .ok (.iconst 0, 1) := by decide +kernel
theorem dL_law_327 : decode cL_law 327 = .ok (.ireturn, 1) := by decide +kernel
theorem dL_law_328 : decode cL_law 328 = .ok (.aload_n 1, 1) := by decide +kernel
theorem dL_law_329 : decode cL_law 329 = .ok (.invokevirtual 40, 3) := by decide +kernel
theorem dL_law_332 : decode cL_law 332 = .ok (.aload_n 2, 1) := by decide +kernel
theorem dL_law_333 : decode cL_law 333 = .ok (.invokevirtual 43, 3) := by decide +kernel
theorem dL_law_336 : decode cL_law 336 = .ok (.if_icmp .eq 766, 3) := by decide +kernel
theorem dL_law_339 : decode cL_law 339 = .ok (.iconst 0, 1) := by decide +kernel
theorem dL_law_340 : decode cL_law 340 = .ok (.ireturn, 1) := by decide +kernel
theorem dL_law_341 : decode cL_law 341 = .ok (.aload_n 1, 1) := by decide +kernel
theorem dL_law_342 : decode cL_law 342 = .ok (.invokevirtual 44, 3) := by decide +kernel
theorem dL_law_345 : decode cL_law 345 = .ok (.aload_n 2, 1) := by decide +kernel
theorem dL_law_346 : decode cL_law 346 = .ok (.invokevirtual 47, 3) := by decide +kernel
theorem dL_law_349 : decode cL_law 349 = .ok (.if_icmp .eq 753, 3) := by decide +kernel
theorem dL_law_352 : decode cL_law 352 = .ok (.iconst 0, 1) := by decide +kernel
theorem dL_law_353 : decode cL_law 353 = .ok (.ireturn, 1) := by decide +kernel
theorem dL_law_354 : decode cL_law 354 = .ok (.aload_n 1, 1) := by decide +kernel
theorem dL_law_355 : decode cL_law 355 = .ok (.aload_n 0, 1) := by decide +kernel
theorem dL_law_356 : decode cL_law 356 = .ok (.iload_n 3, 1) := by decide +kernel
theorem dL_law_357 : decode cL_law 357 = .ok (.iconst 1, 1) := by decide +kernel
theorem dL_law_358 : decode cL_law 358 = .ok (.iadd, 1) := by decide +kernel
theorem dL_law_359 : decode cL_law 359 = .ok (.iaload, 1) := by decide +kernel
theorem dL_law_360 : decode cL_law 360 = .ok (.invokevirtual 48, 3) := by decide +kernel
theorem dL_law_363 : decode cL_law 363 = .ok (.aload_n 2, 1) := by decide +kernel
theorem dL_law_364 : decode cL_law 364 = .ok (.aload_n 0, 1) := by decide +kernel
theorem dL_law_365 : decode cL_law 365 = .ok (.iload_n 3, 1) := by decide +kernel
theorem dL_law_366 : decode cL_law 366 = .ok (.iconst 1, 1) := by decide +kernel
theorem dL_law_367 : decode cL_law 367 = .ok (.iadd, 1) := by decide +kernel
theorem dL_law_368 : decode cL_law 368 = .ok (.iaload, 1) := by decide +kernel
theorem dL_law_369 : decode cL_law 369 = .ok (.invokevirtual 51, 3) := by decide +kernel
theorem dL_law_372 : decode cL_law 372 = .ok (.if_icmp .eq 730, 3) := by decide +kernel
theorem dL_law_375 : decode cL_law 375 = .ok (.iconst 0, 1) := by decide +kernel
theorem dL_law_376 : decode cL_law 376 = .ok (.ireturn, 1) := by decide +kernel
theorem dL_law_377 : decode cL_law 377 = .ok (.aload_n 1, 1) := by decide +kernel
theorem dL_law_378 : decode cL_law 378 = .ok (.invokevirtual 52, 3) := by decide +kernel
theorem dL_law_381 : decode cL_law 381 = .ok (.aload_n 2, 1) := by decide +kernel
theorem dL_law_382 : decode cL_law 382 = .ok (.invokevirtual 55, 3) := by decide +kernel
theorem dL_law_385 : decode cL_law 385 = .ok (.if_icmp .eq 717, 3) := by decide +kernel
theorem dL_law_388 : decode cL_law 388 = .ok (.iconst 0, 1) := by decide +kernel
theorem dL_law_389 : decode cL_law 389 = .ok (.ireturn, 1) := by decide +kernel
theorem dL_law_390 : decode cL_law 390 = .ok (.aload_n 1, 1) := by decide +kernel
theorem dL_law_391 : decode cL_law 391 = .ok (.aload_n 0, 1) := by decide +kernel
theorem dL_law_392 : decode cL_law 392 = .ok (.iload_n 3, 1) := by decide +kernel
theorem dL_law_393 : decode cL_law 393 = .ok (.iconst 1, 1) := by decide +kernel
theorem dL_law_394 : decode cL_law 394 = .ok (.iadd, 1) := by decide +kernel
theorem dL_law_395 : decode cL_law 395 = .ok (.iaload, 1) := by decide +kernel
theorem dL_law_396 : decode cL_law 396 = .ok (.aload_n 0, 1) := by decide +kernel
theorem dL_law_397 : decode cL_law 397 = .ok (.iload_n 3, 1) := by decide +kernel
theorem dL_law_398 : decode cL_law 398 = .ok (.iconst 2, 1) := by decide +kernel
theorem dL_law_399 : decode cL_law 399 = .ok (.iadd, 1) := by decide +kernel
theorem dL_law_400 : decode cL_law 400 = .ok (.iaload, 1) := by decide +kernel
theorem dL_law_401 : decode cL_law 401 = .ok (.invokevirtual 56, 3) := by decide +kernel
theorem dL_law_404 : decode cL_law 404 = .ok (.aload_n 2, 1) := by decide +kernel
theorem dL_law_405 : decode cL_law 405 = .ok (.aload_n 0, 1) := by decide +kernel
theorem dL_law_406 : decode cL_law 406 = .ok (.iload_n 3, 1) := by decide +kernel
theorem dL_law_407 : decode cL_law 407 = .ok (.iconst 1, 1) := by decide +kernel
theorem dL_law_408 : decode cL_law 408 = .ok (.iadd, 1) := by decide +kernel
theorem dL_law_409 : decode cL_law 409 = .ok (.iaload, 1) := by decide +kernel
theorem dL_law_410 : decode cL_law 410 = .ok (.aload_n 0, 1) := by decide +kernel
theorem dL_law_411 : decode cL_law 411 = .ok (.iload_n 3, 1) := by decide +kernel
theorem dL_law_412 : decode cL_law 412 = .ok (.iconst 2, 1) := by decide +kernel
theorem dL_law_413 : decode cL_law 413 = .ok (.iadd, 1) := by decide +kernel
theorem dL_law_414 : decode cL_law 414 = .ok (.iaload, 1) := by decide +kernel
theorem dL_law_415 : decode cL_law 415 = .ok (.invokevirtual 59, 3) := by decide +kernel
theorem dL_law_418 : decode cL_law 418 = .ok (.if_icmp .eq 684, 3) := by decide +kernel
theorem dL_law_421 : decode cL_law 421 = .ok (.iconst 0, 1) := by decide +kernel
theorem dL_law_422 : decode cL_law 422 = .ok (.ireturn, 1) := by decide +kernel
theorem dL_law_423 : decode cL_law 423 = .ok (.aload_n 1, 1) := by decide +kernel
theorem dL_law_424 : decode cL_law 424 = .ok (.aload_n 0, 1) := by decide +kernel
theorem dL_law_425 : decode cL_law 425 = .ok (.iload_n 3, 1) := by decide +kernel
theorem dL_law_426 : decode cL_law 426 = .ok (.iconst 1, 1) := by decide +kernel
theorem dL_law_427 : decode cL_law 427 = .ok (.iadd, 1) := by decide +kernel
theorem dL_law_428 : decode cL_law 428 = .ok (.iaload, 1) := by decide +kernel
theorem dL_law_429 : decode cL_law 429 = .ok (.invokevirtual 60, 3) := by decide +kernel
theorem dL_law_432 : decode cL_law 432 = .ok (.aload_n 2, 1) := by decide +kernel
theorem dL_law_433 : decode cL_law 433 = .ok (.aload_n 0, 1) := by decide +kernel
theorem dL_law_434 : decode cL_law 434 = .ok (.iload_n 3, 1) := by decide +kernel
theorem dL_law_435 : decode cL_law 435 = .ok (.iconst 1, 1) := by decide +kernel
theorem dL_law_436 : decode cL_law 436 = .ok (.iadd, 1) := by decide +kernel
theorem dL_law_437 : decode cL_law 437 = .ok (.iaload, 1) := by decide +kernel
theorem dL_law_438 : decode cL_law 438 = .ok (.invokevirtual 63, 3) := by decide +kernel
theorem dL_law_441 : decode cL_law 441 = .ok (.if_icmp .eq 661, 3) := by decide +kernel
theorem dL_law_444 : decode cL_law 444 = .ok (.iconst 0, 1) := by decide +kernel
theorem dL_law_445 : decode cL_law 445 = .ok (.ireturn, 1) := by decide +kernel
theorem dL_law_446 : decode cL_law 446 = .ok (.aload_n 1, 1) := by decide +kernel
theorem dL_law_447 : decode cL_law 447 = .ok (.aload_n 0, 1) := by decide +kernel
theorem dL_law_448 : decode cL_law 448 = .ok (.iload_n 3, 1) := by decide +kernel
theorem dL_law_449 : decode cL_law 449 = .ok (.iconst 1, 1) := by decide +kernel
theorem dL_law_450 : decode cL_law 450 = .ok (.iadd, 1) := by decide +kernel
theorem dL_law_451 : decode cL_law 451 = .ok (.iaload, 1) := by decide +kernel
theorem dL_law_452 : decode cL_law 452 = .ok (.aload_n 0, 1) := by decide +kernel
theorem dL_law_453 : decode cL_law 453 = .ok (.iload_n 3, 1) := by decide +kernel
theorem dL_law_454 : decode cL_law 454 = .ok (.iconst 2, 1) := by decide +kernel
theorem dL_law_455 : decode cL_law 455 = .ok (.iadd, 1) := by decide +kernel
theorem dL_law_456 : decode cL_law 456 = .ok (.iaload, 1) := by decide +kernel
theorem dL_law_457 : decode cL_law 457 = .ok (.invokevirtual 64, 3) := by decide +kernel
theorem dL_law_460 : decode cL_law 460 = .ok (.aload_n 2, 1) := by decide +kernel
theorem dL_law_461 : decode cL_law 461 = .ok (.aload_n 0, 1) := by decide +kernel
theorem dL_law_462 : decode cL_law 462 = .ok (.iload_n 3, 1) := by decide +kernel
theorem dL_law_463 : decode cL_law 463 = .ok (.iconst 1, 1) := by decide +kernel
theorem dL_law_464 : decode cL_law 464 = .ok (.iadd, 1) := by decide +kernel
theorem dL_law_465 : decode cL_law 465 = .ok (.iaload, 1) := by decide +kernel
theorem dL_law_466 : decode cL_law 466 = .ok (.aload_n 0, 1) := by decide +kernel
theorem dL_law_467 : decode cL_law 467 = .ok (.iload_n 3, 1) := by decide +kernel
theorem dL_law_468 : decode cL_law 468 = .ok (.iconst 2, 1) := by decide +kernel
theorem dL_law_469 : decode cL_law 469 = .ok (.iadd, 1) := by decide +kernel
theorem dL_law_470 : decode cL_law 470 = .ok (.iaload, 1) := by decide +kernel
theorem dL_law_471 : decode cL_law 471 = .ok (.invokevirtual 67, 3) := by decide +kernel
theorem dL_law_474 : decode cL_law 474 = .ok (.if_icmp .eq 628, 3) := by decide +kernel
theorem dL_law_477 : decode cL_law 477 = .ok (.iconst 0, 1) := by decide +kernel
theorem dL_law_478 : decode cL_law 478 = .ok (.ireturn, 1) := by decide +kernel
theorem dL_law_479 : decode cL_law 479 = .ok (.aload_n 1, 1) := by decide +kernel
theorem dL_law_480 : decode cL_law 480 = .ok (.aload_n 0, 1) := by decide +kernel
theorem dL_law_481 : decode cL_law 481 = .ok (.iload_n 3, 1) := by decide +kernel
theorem dL_law_482 : decode cL_law 482 = .ok (.iconst 1, 1) := by decide +kernel
theorem dL_law_483 : decode cL_law 483 = .ok (.iadd, 1) := by decide +kernel
theorem dL_law_484 : decode cL_law 484 = .ok (.iaload, 1) := by decide +kernel
theorem dL_law_485 : decode cL_law 485 = .ok (.aload_n 0, 1) := by decide +kernel
theorem dL_law_486 : decode cL_law 486 = .ok (.iload_n 3, 1) := by decide +kernel
theorem dL_law_487 : decode cL_law 487 = .ok (.iconst 2, 1) := by decide +kernel
theorem dL_law_488 : decode cL_law 488 = .ok (.iadd, 1) := by decide +kernel
theorem dL_law_489 : decode cL_law 489 = .ok (.iaload, 1) := by decide +kernel
theorem dL_law_490 : decode cL_law 490 = .ok (.invokevirtual 68, 3) := by decide +kernel
theorem dL_law_493 : decode cL_law 493 = .ok (.aload_n 2, 1) := by decide +kernel
theorem dL_law_494 : decode cL_law 494 = .ok (.aload_n 0, 1) := by decide +kernel
theorem dL_law_495 : decode cL_law 495 = .ok (.iload_n 3, 1) := by decide +kernel
theorem dL_law_496 : decode cL_law 496 = .ok (.iconst 1, 1) := by decide +kernel
theorem dL_law_497 : decode cL_law 497 = .ok (.iadd, 1) := by decide +kernel
theorem dL_law_498 : decode cL_law 498 = .ok (.iaload, 1) := by decide +kernel
theorem dL_law_499 : decode cL_law 499 = .ok (.aload_n 0, 1) := by decide +kernel
theorem dL_law_500 : decode cL_law 500 = .ok (.iload_n 3, 1) := by decide +kernel
theorem dL_law_501 : decode cL_law 501 = .ok (.iconst 2, 1) := by decide +kernel
theorem dL_law_502 : decode cL_law 502 = .ok (.iadd, 1) := by decide +kernel
theorem dL_law_503 : decode cL_law 503 = .ok (.iaload, 1) := by decide +kernel
theorem dL_law_504 : decode cL_law 504 = .ok (.invokevirtual 71, 3) := by decide +kernel
theorem dL_law_507 : decode cL_law 507 = .ok (.if_icmp .eq 595, 3) := by decide +kernel
theorem dL_law_510 : decode cL_law 510 = .ok (.iconst 0, 1) := by decide +kernel
theorem dL_law_511 : decode cL_law 511 = .ok (.ireturn, 1) := by decide +kernel
theorem dL_law_512 : decode cL_law 512 = .ok (.aload_n 1, 1) := by decide +kernel
theorem dL_law_513 : decode cL_law 513 = .ok (.aload_n 0, 1) := by decide +kernel
theorem dL_law_514 : decode cL_law 514 = .ok (.iload_n 3, 1) := by decide +kernel
theorem dL_law_515 : decode cL_law 515 = .ok (.iconst 1, 1) := by decide +kernel
theorem dL_law_516 : decode cL_law 516 = .ok (.iadd, 1) := by decide +kernel
theorem dL_law_517 : decode cL_law 517 = .ok (.iaload, 1) := by decide +kernel
theorem dL_law_518 : decode cL_law 518 = .ok (.invokevirtual 72, 3) := by decide +kernel
theorem dL_law_521 : decode cL_law 521 = .ok (.aload_n 2, 1) := by decide +kernel
theorem dL_law_522 : decode cL_law 522 = .ok (.aload_n 0, 1) := by decide +kernel
theorem dL_law_523 : decode cL_law 523 = .ok (.iload_n 3, 1) := by decide +kernel
theorem dL_law_524 : decode cL_law 524 = .ok (.iconst 1, 1) := by decide +kernel
theorem dL_law_525 : decode cL_law 525 = .ok (.iadd, 1) := by decide +kernel
theorem dL_law_526 : decode cL_law 526 = .ok (.iaload, 1) := by decide +kernel
theorem dL_law_527 : decode cL_law 527 = .ok (.invokevirtual 75, 3) := by decide +kernel
theorem dL_law_530 : decode cL_law 530 = .ok (.if_icmp .eq 572, 3) := by decide +kernel
theorem dL_law_533 : decode cL_law 533 = .ok (.iconst 0, 1) := by decide +kernel
theorem dL_law_534 : decode cL_law 534 = .ok (.ireturn, 1) := by decide +kernel
theorem dL_law_535 : decode cL_law 535 = .ok (.aload_n 1, 1) := by decide +kernel
theorem dL_law_536 : decode cL_law 536 = .ok (.aload_n 0, 1) := by decide +kernel
theorem dL_law_537 : decode cL_law 537 = .ok (.iload_n 3, 1) := by decide +kernel
theorem dL_law_538 : decode cL_law 538 = .ok (.iconst 1, 1) := by decide +kernel
theorem dL_law_539 : decode cL_law 539 = .ok (.iadd, 1) := by decide +kernel
theorem dL_law_540 : decode cL_law 540 = .ok (.iaload, 1) := by decide +kernel
theorem dL_law_541 : decode cL_law 541 = .ok (.aload_n 0, 1) := by decide +kernel
theorem dL_law_542 : decode cL_law 542 = .ok (.iload_n 3, 1) := by decide +kernel
theorem dL_law_543 : decode cL_law 543 = .ok (.iconst 2, 1) := by decide +kernel
theorem dL_law_544 : decode cL_law 544 = .ok (.iadd, 1) := by decide +kernel
theorem dL_law_545 : decode cL_law 545 = .ok (.iaload, 1) := by decide +kernel
theorem dL_law_546 : decode cL_law 546 = .ok (.invokevirtual 76, 3) := by decide +kernel
theorem dL_law_549 : decode cL_law 549 = .ok (.aload_n 2, 1) := by decide +kernel
theorem dL_law_550 : decode cL_law 550 = .ok (.aload_n 0, 1) := by decide +kernel
theorem dL_law_551 : decode cL_law 551 = .ok (.iload_n 3, 1) := by decide +kernel
theorem dL_law_552 : decode cL_law 552 = .ok (.iconst 1, 1) := by decide +kernel
theorem dL_law_553 : decode cL_law 553 = .ok (.iadd, 1) := by decide +kernel
theorem dL_law_554 : decode cL_law 554 = .ok (.iaload, 1) := by decide +kernel
theorem dL_law_555 : decode cL_law 555 = .ok (.aload_n 0, 1) := by decide +kernel
theorem dL_law_556 : decode cL_law 556 = .ok (.iload_n 3, 1) := by decide +kernel
theorem dL_law_557 : decode cL_law 557 = .ok (.iconst 2, 1) := by decide +kernel
theorem dL_law_558 : decode cL_law 558 = .ok (.iadd, 1) := by decide +kernel
theorem dL_law_559 : decode cL_law 559 = .ok (.iaload, 1) := by decide +kernel
theorem dL_law_560 : decode cL_law 560 = .ok (.invokevirtual 79, 3) := by decide +kernel
theorem dL_law_563 : decode cL_law 563 = .ok (.if_icmp .eq 539, 3) := by decide +kernel
theorem dL_law_566 : decode cL_law 566 = .ok (.iconst 0, 1) := by decide +kernel
theorem dL_law_567 : decode cL_law 567 = .ok (.ireturn, 1) := by decide +kernel
theorem dL_law_568 : decode cL_law 568 = .ok (.aload_n 1, 1) := by decide +kernel
theorem dL_law_569 : decode cL_law 569 = .ok (.aload_n 0, 1) := by decide +kernel
theorem dL_law_570 : decode cL_law 570 = .ok (.iload_n 3, 1) := by decide +kernel
theorem dL_law_571 : decode cL_law 571 = .ok (.iconst 1, 1) := by decide +kernel
theorem dL_law_572 : decode cL_law 572 = .ok (.iadd, 1) := by decide +kernel
theorem dL_law_573 : decode cL_law 573 = .ok (.iaload, 1) := by decide +kernel
theorem dL_law_574 : decode cL_law 574 = .ok (.invokevirtual 80, 3) := by decide +kernel
theorem dL_law_577 : decode cL_law 577 = .ok (.aload_n 2, 1) := by decide +kernel
theorem dL_law_578 : decode cL_law 578 = .ok (.aload_n 0, 1) := by decide +kernel
theorem dL_law_579 : decode cL_law 579 = .ok (.iload_n 3, 1) := by decide +kernel
theorem dL_law_580 : decode cL_law 580 = .ok (.iconst 1, 1) := by decide +kernel
theorem dL_law_581 : decode cL_law 581 = .ok (.iadd, 1) := by decide +kernel
theorem dL_law_582 : decode cL_law 582 = .ok (.iaload, 1) := by decide +kernel
theorem dL_law_583 : decode cL_law 583 = .ok (.invokevirtual 83, 3) := by decide +kernel
theorem dL_law_586 : decode cL_law 586 = .ok (.if_icmp .eq 516, 3) := by decide +kernel
theorem dL_law_589 : decode cL_law 589 = .ok (.iconst 0, 1) := by decide +kernel
theorem dL_law_590 : decode cL_law 590 = .ok (.ireturn, 1) := by decide +kernel
theorem dL_law_591 : decode cL_law 591 = .ok (.aload_n 1, 1) := by decide +kernel
theorem dL_law_592 : decode cL_law 592 = .ok (.aload_n 0, 1) := by decide +kernel
theorem dL_law_593 : decode cL_law 593 = .ok (.iload_n 3, 1) := by decide +kernel
theorem dL_law_594 : decode cL_law 594 = .ok (.iconst 1, 1) := by decide +kernel
theorem dL_law_595 : decode cL_law 595 = .ok (.iadd, 1) := by decide +kernel
theorem dL_law_596 : decode cL_law 596 = .ok (.iaload, 1) := by decide +kernel
theorem dL_law_597 : decode cL_law 597 = .ok (.aload_n 0, 1) := by decide +kernel
theorem dL_law_598 : decode cL_law 598 = .ok (.iload_n 3, 1) := by decide +kernel
theorem dL_law_599 : decode cL_law 599 = .ok (.iconst 2, 1) := by decide +kernel
theorem dL_law_600 : decode cL_law 600 = .ok (.iadd, 1) := by decide +kernel
theorem dL_law_601 : decode cL_law 601 = .ok (.iaload, 1) := by decide +kernel
theorem dL_law_602 : decode cL_law 602 = .ok (.invokevirtual 84, 3) := by decide +kernel
theorem dL_law_605 : decode cL_law 605 = .ok (.aload_n 2, 1) := by decide +kernel
theorem dL_law_606 : decode cL_law 606 = .ok (.aload_n 0, 1) := by decide +kernel
theorem dL_law_607 : decode cL_law 607 = .ok (.iload_n 3, 1) := by decide +kernel
theorem dL_law_608 : decode cL_law 608 = .ok (.iconst 1, 1) := by decide +kernel
theorem dL_law_609 : decode cL_law 609 = .ok (.iadd, 1) := by decide +kernel
theorem dL_law_610 : decode cL_law 610 = .ok (.iaload, 1) := by decide +kernel
theorem dL_law_611 : decode cL_law 611 = .ok (.aload_n 0, 1) := by decide +kernel
theorem dL_law_612 : decode cL_law 612 = .ok (.iload_n 3, 1) := by decide +kernel
theorem dL_law_613 : decode cL_law 613 = .ok (.iconst 2, 1) := by decide +kernel
theorem dL_law_614 : decode cL_law 614 = .ok (.iadd, 1) := by decide +kernel
theorem dL_law_615 : decode cL_law 615 = .ok (.iaload, 1) := by decide +kernel
theorem dL_law_616 : decode cL_law 616 = .ok (.invokevirtual 87, 3) := by decide +kernel
theorem dL_law_619 : decode cL_law 619 = .ok (.if_icmp .eq 483, 3) := by decide +kernel
theorem dL_law_622 : decode cL_law 622 = .ok (.iconst 0, 1) := by decide +kernel
theorem dL_law_623 : decode cL_law 623 = .ok (.ireturn, 1) := by decide +kernel
theorem dL_law_624 : decode cL_law 624 = .ok (.aload_n 1, 1) := by decide +kernel
theorem dL_law_625 : decode cL_law 625 = .ok (.aload_n 0, 1) := by decide +kernel
theorem dL_law_626 : decode cL_law 626 = .ok (.iload_n 3, 1) := by decide +kernel
theorem dL_law_627 : decode cL_law 627 = .ok (.iconst 1, 1) := by decide +kernel
theorem dL_law_628 : decode cL_law 628 = .ok (.iadd, 1) := by decide +kernel
theorem dL_law_629 : decode cL_law 629 = .ok (.iaload, 1) := by decide +kernel
theorem dL_law_630 : decode cL_law 630 = .ok (.aload_n 0, 1) := by decide +kernel
theorem dL_law_631 : decode cL_law 631 = .ok (.iload_n 3, 1) := by decide +kernel
theorem dL_law_632 : decode cL_law 632 = .ok (.iconst 2, 1) := by decide +kernel
theorem dL_law_633 : decode cL_law 633 = .ok (.iadd, 1) := by decide +kernel
theorem dL_law_634 : decode cL_law 634 = .ok (.iaload, 1) := by decide +kernel
theorem dL_law_635 : decode cL_law 635 = .ok (.invokevirtual 88, 3) := by decide +kernel
theorem dL_law_638 : decode cL_law 638 = .ok (.aload_n 2, 1) := by decide +kernel
theorem dL_law_639 : decode cL_law 639 = .ok (.aload_n 0, 1) := by decide +kernel
theorem dL_law_640 : decode cL_law 640 = .ok (.iload_n 3, 1) := by decide +kernel
theorem dL_law_641 : decode cL_law 641 = .ok (.iconst 1, 1) := by decide +kernel
theorem dL_law_642 : decode cL_law 642 = .ok (.iadd, 1) := by decide +kernel
theorem dL_law_643 : decode cL_law 643 = .ok (.iaload, 1) := by decide +kernel
theorem dL_law_644 : decode cL_law 644 = .ok (.aload_n 0, 1) := by decide +kernel
theorem dL_law_645 : decode cL_law 645 = .ok (.iload_n 3, 1) := by decide +kernel
theorem dL_law_646 : decode cL_law 646 = .ok (.iconst 2, 1) := by decide +kernel
theorem dL_law_647 : decode cL_law 647 = .ok (.iadd, 1) := by decide +kernel
theorem dL_law_648 : decode cL_law 648 = .ok (.iaload, 1) := by decide +kernel
theorem dL_law_649 : decode cL_law 649 = .ok (.invokevirtual 91, 3) := by decide +kernel
theorem dL_law_652 : decode cL_law 652 = .ok (.if_icmp .eq 450, 3) := by decide +kernel
theorem dL_law_655 : decode cL_law 655 = .ok (.iconst 0, 1) := by decide +kernel
theorem dL_law_656 : decode cL_law 656 = .ok (.ireturn, 1) := by decide +kernel
theorem dL_law_657 : decode cL_law 657 = .ok (.aload_n 1, 1) := by decide +kernel
theorem dL_law_658 : decode cL_law 658 = .ok (.aload_n 0, 1) := by decide +kernel
theorem dL_law_659 : decode cL_law 659 = .ok (.iload_n 3, 1) := by decide +kernel
theorem dL_law_660 : decode cL_law 660 = .ok (.iconst 1, 1) := by decide +kernel
theorem dL_law_661 : decode cL_law 661 = .ok (.iadd, 1) := by decide +kernel
theorem dL_law_662 : decode cL_law 662 = .ok (.iaload, 1) := by decide +kernel
theorem dL_law_663 : decode cL_law 663 = .ok (.invokevirtual 92, 3) := by decide +kernel
theorem dL_law_666 : decode cL_law 666 = .ok (.aload_n 2, 1) := by decide +kernel
theorem dL_law_667 : decode cL_law 667 = .ok (.aload_n 0, 1) := by decide +kernel
theorem dL_law_668 : decode cL_law 668 = .ok (.iload_n 3, 1) := by decide +kernel
theorem dL_law_669 : decode cL_law 669 = .ok (.iconst 1, 1) := by decide +kernel
theorem dL_law_670 : decode cL_law 670 = .ok (.iadd, 1) := by decide +kernel
theorem dL_law_671 : decode cL_law 671 = .ok (.iaload, 1) := by decide +kernel
theorem dL_law_672 : decode cL_law 672 = .ok (.invokevirtual 96, 3) := by decide +kernel
theorem dL_law_675 : decode cL_law 675 = .ok (.lcmp, 1) := by decide +kernel
theorem dL_law_676 : decode cL_law 676 = .ok (.ifCond .eq 426, 3) := by decide +kernel
theorem dL_law_679 : decode cL_law 679 = .ok (.iconst 0, 1) := by decide +kernel
theorem dL_law_680 : decode cL_law 680 = .ok (.ireturn, 1) := by decide +kernel
theorem dL_law_681 : decode cL_law 681 = .ok (.aload_n 1, 1) := by decide +kernel
theorem dL_law_682 : decode cL_law 682 = .ok (.aload_n 0, 1) := by decide +kernel
theorem dL_law_683 : decode cL_law 683 = .ok (.iload_n 3, 1) := by decide +kernel
theorem dL_law_684 : decode cL_law 684 = .ok (.iconst 1, 1) := by decide +kernel
theorem dL_law_685 : decode cL_law 685 = .ok (.iadd, 1) := by decide +kernel
theorem dL_law_686 : decode cL_law 686 = .ok (.iaload, 1) := by decide +kernel
theorem dL_law_687 : decode cL_law 687 = .ok (.invokevirtual 97, 3) := by decide +kernel
theorem dL_law_690 : decode cL_law 690 = .ok (.aload_n 2, 1) := by decide +kernel
theorem dL_law_691 : decode cL_law 691 = .ok (.aload_n 0, 1) := by decide +kernel
theorem dL_law_692 : decode cL_law 692 = .ok (.iload_n 3, 1) := by decide +kernel
theorem dL_law_693 : decode cL_law 693 = .ok (.iconst 1, 1) := by decide +kernel
theorem dL_law_694 : decode cL_law 694 = .ok (.iadd, 1) := by decide +kernel
theorem dL_law_695 : decode cL_law 695 = .ok (.iaload, 1) := by decide +kernel
theorem dL_law_696 : decode cL_law 696 = .ok (.invokevirtual 100, 3) := by decide +kernel
theorem dL_law_699 : decode cL_law 699 = .ok (.lcmp, 1) := by decide +kernel
theorem dL_law_700 : decode cL_law 700 = .ok (.ifCond .eq 402, 3) := by decide +kernel
theorem dL_law_703 : decode cL_law 703 = .ok (.iconst 0, 1) := by decide +kernel
theorem dL_law_704 : decode cL_law 704 = .ok (.ireturn, 1) := by decide +kernel
theorem dL_law_705 : decode cL_law 705 = .ok (.aload_n 1, 1) := by decide +kernel
theorem dL_law_706 : decode cL_law 706 = .ok (.aload_n 0, 1) := by decide +kernel
theorem dL_law_707 : decode cL_law 707 = .ok (.iload_n 3, 1) := by decide +kernel
theorem dL_law_708 : decode cL_law 708 = .ok (.iconst 1, 1) := by decide +kernel
theorem dL_law_709 : decode cL_law 709 = .ok (.iadd, 1) := by decide +kernel
theorem dL_law_710 : decode cL_law 710 = .ok (.iaload, 1) := by decide +kernel
theorem dL_law_711 : decode cL_law 711 = .ok (.aload_n 0, 1) := by decide +kernel
theorem dL_law_712 : decode cL_law 712 = .ok (.iload_n 3, 1) := by decide +kernel
theorem dL_law_713 : decode cL_law 713 = .ok (.iconst 2, 1) := by decide +kernel
theorem dL_law_714 : decode cL_law 714 = .ok (.iadd, 1) := by decide +kernel
theorem dL_law_715 : decode cL_law 715 = .ok (.iaload, 1) := by decide +kernel
theorem dL_law_716 : decode cL_law 716 = .ok (.invokevirtual 101, 3) := by decide +kernel
theorem dL_law_719 : decode cL_law 719 = .ok (.aload_n 2, 1) := by decide +kernel
theorem dL_law_720 : decode cL_law 720 = .ok (.aload_n 0, 1) := by decide +kernel
theorem dL_law_721 : decode cL_law 721 = .ok (.iload_n 3, 1) := by decide +kernel
theorem dL_law_722 : decode cL_law 722 = .ok (.iconst 1, 1) := by decide +kernel
theorem dL_law_723 : decode cL_law 723 = .ok (.iadd, 1) := by decide +kernel
theorem dL_law_724 : decode cL_law 724 = .ok (.iaload, 1) := by decide +kernel
theorem dL_law_725 : decode cL_law 725 = .ok (.aload_n 0, 1) := by decide +kernel
theorem dL_law_726 : decode cL_law 726 = .ok (.iload_n 3, 1) := by decide +kernel
theorem dL_law_727 : decode cL_law 727 = .ok (.iconst 2, 1) := by decide +kernel
theorem dL_law_728 : decode cL_law 728 = .ok (.iadd, 1) := by decide +kernel
theorem dL_law_729 : decode cL_law 729 = .ok (.iaload, 1) := by decide +kernel
theorem dL_law_730 : decode cL_law 730 = .ok (.invokevirtual 104, 3) := by decide +kernel
theorem dL_law_733 : decode cL_law 733 = .ok (.if_icmp .eq 369, 3) := by decide +kernel
theorem dL_law_736 : decode cL_law 736 = .ok (.iconst 0, 1) := by decide +kernel
theorem dL_law_737 : decode cL_law 737 = .ok (.ireturn, 1) := by decide +kernel
theorem dL_law_738 : decode cL_law 738 = .ok (.aload_n 1, 1) := by decide +kernel
theorem dL_law_739 : decode cL_law 739 = .ok (.aload_n 0, 1) := by decide +kernel
theorem dL_law_740 : decode cL_law 740 = .ok (.iload_n 3, 1) := by decide +kernel
theorem dL_law_741 : decode cL_law 741 = .ok (.iconst 1, 1) := by decide +kernel
theorem dL_law_742 : decode cL_law 742 = .ok (.iadd, 1) := by decide +kernel
theorem dL_law_743 : decode cL_law 743 = .ok (.iaload, 1) := by decide +kernel
theorem dL_law_744 : decode cL_law 744 = .ok (.invokevirtual 105, 3) := by decide +kernel
theorem dL_law_747 : decode cL_law 747 = .ok (.aload_n 2, 1) := by decide +kernel
theorem dL_law_748 : decode cL_law 748 = .ok (.aload_n 0, 1) := by decide +kernel
theorem dL_law_749 : decode cL_law 749 = .ok (.iload_n 3, 1) := by decide +kernel
theorem dL_law_750 : decode cL_law 750 = .ok (.iconst 1, 1) := by decide +kernel
theorem dL_law_751 : decode cL_law 751 = .ok (.iadd, 1) := by decide +kernel
theorem dL_law_752 : decode cL_law 752 = .ok (.iaload, 1) := by decide +kernel
theorem dL_law_753 : decode cL_law 753 = .ok (.invokevirtual 108, 3) := by decide +kernel
theorem dL_law_756 : decode cL_law 756 = .ok (.if_icmp .eq 346, 3) := by decide +kernel
theorem dL_law_759 : decode cL_law 759 = .ok (.iconst 0, 1) := by decide +kernel
theorem dL_law_760 : decode cL_law 760 = .ok (.ireturn, 1) := by decide +kernel
theorem dL_law_761 : decode cL_law 761 = .ok (.aload_n 1, 1) := by decide +kernel
theorem dL_law_762 : decode cL_law 762 = .ok (.aload_n 0, 1) := by decide +kernel
theorem dL_law_763 : decode cL_law 763 = .ok (.iload_n 3, 1) := by decide +kernel
theorem dL_law_764 : decode cL_law 764 = .ok (.iconst 1, 1) := by decide +kernel
theorem dL_law_765 : decode cL_law 765 = .ok (.iadd, 1) := by decide +kernel
theorem dL_law_766 : decode cL_law 766 = .ok (.iaload, 1) := by decide +kernel
theorem dL_law_767 : decode cL_law 767 = .ok (.aload_n 0, 1) := by decide +kernel
theorem dL_law_768 : decode cL_law 768 = .ok (.iload_n 3, 1) := by decide +kernel
theorem dL_law_769 : decode cL_law 769 = .ok (.iconst 2, 1) := by decide +kernel
theorem dL_law_770 : decode cL_law 770 = .ok (.iadd, 1) := by decide +kernel
theorem dL_law_771 : decode cL_law 771 = .ok (.iaload, 1) := by decide +kernel
theorem dL_law_772 : decode cL_law 772 = .ok (.invokevirtual 109, 3) := by decide +kernel
theorem dL_law_775 : decode cL_law 775 = .ok (.aload_n 2, 1) := by decide +kernel
theorem dL_law_776 : decode cL_law 776 = .ok (.aload_n 0, 1) := by decide +kernel
theorem dL_law_777 : decode cL_law 777 = .ok (.iload_n 3, 1) := by decide +kernel
theorem dL_law_778 : decode cL_law 778 = .ok (.iconst 1, 1) := by decide +kernel
theorem dL_law_779 : decode cL_law 779 = .ok (.iadd, 1) := by decide +kernel
theorem dL_law_780 : decode cL_law 780 = .ok (.iaload, 1) := by decide +kernel
theorem dL_law_781 : decode cL_law 781 = .ok (.aload_n 0, 1) := by decide +kernel
theorem dL_law_782 : decode cL_law 782 = .ok (.iload_n 3, 1) := by decide +kernel
theorem dL_law_783 : decode cL_law 783 = .ok (.iconst 2, 1) := by decide +kernel
theorem dL_law_784 : decode cL_law 784 = .ok (.iadd, 1) := by decide +kernel
theorem dL_law_785 : decode cL_law 785 = .ok (.iaload, 1) := by decide +kernel
theorem dL_law_786 : decode cL_law 786 = .ok (.invokevirtual 112, 3) := by decide +kernel
theorem dL_law_789 : decode cL_law 789 = .ok (.if_icmp .eq 313, 3) := by decide +kernel
theorem dL_law_792 : decode cL_law 792 = .ok (.iconst 0, 1) := by decide +kernel
theorem dL_law_793 : decode cL_law 793 = .ok (.ireturn, 1) := by decide +kernel
theorem dL_law_794 : decode cL_law 794 = .ok (.aload_n 1, 1) := by decide +kernel
theorem dL_law_795 : decode cL_law 795 = .ok (.invokevirtual 113, 3) := by decide +kernel
theorem dL_law_798 : decode cL_law 798 = .ok (.aload_n 2, 1) := by decide +kernel
theorem dL_law_799 : decode cL_law 799 = .ok (.invokevirtual 116, 3) := by decide +kernel
theorem dL_law_802 : decode cL_law 802 = .ok (.if_icmp .eq 300, 3) := by decide +kernel
theorem dL_law_805 : decode cL_law 805 = .ok (.iconst 0, 1) := by decide +kernel
theorem dL_law_806 : decode cL_law 806 = .ok (.ireturn, 1) := by decide +kernel
theorem dL_law_807 : decode cL_law 807 = .ok (.aload_n 1, 1) := by decide +kernel
theorem dL_law_808 : decode cL_law 808 = .ok (.aload_n 0, 1) := by decide +kernel
theorem dL_law_809 : decode cL_law 809 = .ok (.iload_n 3, 1) := by decide +kernel
theorem dL_law_810 : decode cL_law 810 = .ok (.iconst 1, 1) := by decide +kernel
theorem dL_law_811 : decode cL_law 811 = .ok (.iadd, 1) := by decide +kernel
theorem dL_law_812 : decode cL_law 812 = .ok (.iaload, 1) := by decide +kernel
theorem dL_law_813 : decode cL_law 813 = .ok (.aload_n 0, 1) := by decide +kernel
theorem dL_law_814 : decode cL_law 814 = .ok (.iload_n 3, 1) := by decide +kernel
theorem dL_law_815 : decode cL_law 815 = .ok (.iconst 2, 1) := by decide +kernel
theorem dL_law_816 : decode cL_law 816 = .ok (.iadd, 1) := by decide +kernel
theorem dL_law_817 : decode cL_law 817 = .ok (.iaload, 1) := by decide +kernel
theorem dL_law_818 : decode cL_law 818 = .ok (.invokevirtual 117, 3) := by decide +kernel
theorem dL_law_821 : decode cL_law 821 = .ok (.aload_n 2, 1) := by decide +kernel
theorem dL_law_822 : decode cL_law 822 = .ok (.aload_n 0, 1) := by decide +kernel
theorem dL_law_823 : decode cL_law 823 = .ok (.iload_n 3, 1) := by decide +kernel
theorem dL_law_824 : decode cL_law 824 = .ok (.iconst 1, 1) := by decide +kernel
theorem dL_law_825 : decode cL_law 825 = .ok (.iadd, 1) := by decide +kernel
theorem dL_law_826 : decode cL_law 826 = .ok (.iaload, 1) := by decide +kernel
theorem dL_law_827 : decode cL_law 827 = .ok (.aload_n 0, 1) := by decide +kernel
theorem dL_law_828 : decode cL_law 828 = .ok (.iload_n 3, 1) := by decide +kernel
theorem dL_law_829 : decode cL_law 829 = .ok (.iconst 2, 1) := by decide +kernel
theorem dL_law_830 : decode cL_law 830 = .ok (.iadd, 1) := by decide +kernel
theorem dL_law_831 : decode cL_law 831 = .ok (.iaload, 1) := by decide +kernel
theorem dL_law_832 : decode cL_law 832 = .ok (.invokevirtual 120, 3) := by decide +kernel
theorem dL_law_835 : decode cL_law 835 = .ok (.if_icmp .eq 267, 3) := by decide +kernel
theorem dL_law_838 : decode cL_law 838 = .ok (.iconst 0, 1) := by decide +kernel
theorem dL_law_839 : decode cL_law 839 = .ok (.ireturn, 1) := by decide +kernel
theorem dL_law_840 : decode cL_law 840 = .ok (.aload_n 1, 1) := by decide +kernel
theorem dL_law_841 : decode cL_law 841 = .ok (.invokevirtual 121, 3) := by decide +kernel
theorem dL_law_844 : decode cL_law 844 = .ok (.aload_n 2, 1) := by decide +kernel
theorem dL_law_845 : decode cL_law 845 = .ok (.invokevirtual 124, 3) := by decide +kernel
theorem dL_law_848 : decode cL_law 848 = .ok (.if_icmp .eq 254, 3) := by decide +kernel
theorem dL_law_851 : decode cL_law 851 = .ok (.iconst 0, 1) := by decide +kernel
theorem dL_law_852 : decode cL_law 852 = .ok (.ireturn, 1) := by decide +kernel
theorem dL_law_853 : decode cL_law 853 = .ok (.aload_n 1, 1) := by decide +kernel
theorem dL_law_854 : decode cL_law 854 = .ok (.invokevirtual 125, 3) := by decide +kernel
theorem dL_law_857 : decode cL_law 857 = .ok (.aload_n 2, 1) := by decide +kernel
theorem dL_law_858 : decode cL_law 858 = .ok (.invokevirtual 128, 3) := by decide +kernel
theorem dL_law_861 : decode cL_law 861 = .ok (.if_icmp .eq 241, 3) := by decide +kernel
theorem dL_law_864 : decode cL_law 864 = .ok (.iconst 0, 1) := by decide +kernel
theorem dL_law_865 : decode cL_law 865 = .ok (.ireturn, 1) := by decide +kernel
theorem dL_law_866 : decode cL_law 866 = .ok (.aload_n 1, 1) := by decide +kernel
theorem dL_law_867 : decode cL_law 867 = .ok (.aload_n 0, 1) := by decide +kernel
theorem dL_law_868 : decode cL_law 868 = .ok (.iload_n 3, 1) := by decide +kernel
theorem dL_law_869 : decode cL_law 869 = .ok (.iconst 1, 1) := by decide +kernel
theorem dL_law_870 : decode cL_law 870 = .ok (.iadd, 1) := by decide +kernel
theorem dL_law_871 : decode cL_law 871 = .ok (.iaload, 1) := by decide +kernel
theorem dL_law_872 : decode cL_law 872 = .ok (.invokevirtual 129, 3) := by decide +kernel
theorem dL_law_875 : decode cL_law 875 = .ok (.aload_n 2, 1) := by decide +kernel
theorem dL_law_876 : decode cL_law 876 = .ok (.aload_n 0, 1) := by decide +kernel
theorem dL_law_877 : decode cL_law 877 = .ok (.iload_n 3, 1) := by decide +kernel
theorem dL_law_878 : decode cL_law 878 = .ok (.iconst 1, 1) := by decide +kernel
theorem dL_law_879 : decode cL_law 879 = .ok (.iadd, 1) := by decide +kernel
theorem dL_law_880 : decode cL_law 880 = .ok (.iaload, 1) := by decide +kernel
theorem dL_law_881 : decode cL_law 881 = .ok (.invokevirtual 132, 3) := by decide +kernel
theorem dL_law_884 : decode cL_law 884 = .ok (.if_icmp .eq 218, 3) := by decide +kernel
theorem dL_law_887 : decode cL_law 887 = .ok (.iconst 0, 1) := by decide +kernel
theorem dL_law_888 : decode cL_law 888 = .ok (.ireturn, 1) := by decide +kernel
theorem dL_law_889 : decode cL_law 889 = .ok (.aload_n 1, 1) := by decide +kernel
theorem dL_law_890 : decode cL_law 890 = .ok (.aload_n 0, 1) := by decide +kernel
theorem dL_law_891 : decode cL_law 891 = .ok (.iload_n 3, 1) := by decide +kernel
theorem dL_law_892 : decode cL_law 892 = .ok (.iconst 1, 1) := by decide +kernel
theorem dL_law_893 : decode cL_law 893 = .ok (.iadd, 1) := by decide +kernel
theorem dL_law_894 : decode cL_law 894 = .ok (.iaload, 1) := by decide +kernel
theorem dL_law_895 : decode cL_law 895 = .ok (.aload_n 0, 1) := by decide +kernel
theorem dL_law_896 : decode cL_law 896 = .ok (.iload_n 3, 1) := by decide +kernel
theorem dL_law_897 : decode cL_law 897 = .ok (.iconst 2, 1) := by decide +kernel
theorem dL_law_898 : decode cL_law 898 = .ok (.iadd, 1) := by decide +kernel
theorem dL_law_899 : decode cL_law 899 = .ok (.iaload, 1) := by decide +kernel
theorem dL_law_900 : decode cL_law 900 = .ok (.aload_n 0, 1) := by decide +kernel
theorem dL_law_901 : decode cL_law 901 = .ok (.iload_n 3, 1) := by decide +kernel
theorem dL_law_902 : decode cL_law 902 = .ok (.iconst 3, 1) := by decide +kernel
theorem dL_law_903 : decode cL_law 903 = .ok (.iadd, 1) := by decide +kernel
theorem dL_law_904 : decode cL_law 904 = .ok (.iaload, 1) := by decide +kernel
theorem dL_law_905 : decode cL_law 905 = .ok (.invokevirtual 133, 3) := by decide +kernel
theorem dL_law_908 : decode cL_law 908 = .ok (.aload_n 2, 1) := by decide +kernel
theorem dL_law_909 : decode cL_law 909 = .ok (.aload_n 0, 1) := by decide +kernel
theorem dL_law_910 : decode cL_law 910 = .ok (.iload_n 3, 1) := by decide +kernel
theorem dL_law_911 : decode cL_law 911 = .ok (.iconst 1, 1) := by decide +kernel
theorem dL_law_912 : decode cL_law 912 = .ok (.iadd, 1) := by decide +kernel
theorem dL_law_913 : decode cL_law 913 = .ok (.iaload, 1) := by decide +kernel
theorem dL_law_914 : decode cL_law 914 = .ok (.aload_n 0, 1) := by decide +kernel
theorem dL_law_915 : decode cL_law 915 = .ok (.iload_n 3, 1) := by decide +kernel
theorem dL_law_916 : decode cL_law 916 = .ok (.iconst 2, 1) := by decide +kernel
theorem dL_law_917 : decode cL_law 917 = .ok (.iadd, 1) := by decide +kernel
theorem dL_law_918 : decode cL_law 918 = .ok (.iaload, 1) := by decide +kernel
theorem dL_law_919 : decode cL_law 919 = .ok (.aload_n 0, 1) := by decide +kernel
theorem dL_law_920 : decode cL_law 920 = .ok (.iload_n 3, 1) := by decide +kernel
theorem dL_law_921 : decode cL_law 921 = .ok (.iconst 3, 1) := by decide +kernel
theorem dL_law_922 : decode cL_law 922 = .ok (.iadd, 1) := by decide +kernel
theorem dL_law_923 : decode cL_law 923 = .ok (.iaload, 1) := by decide +kernel
theorem dL_law_924 : decode cL_law 924 = .ok (.invokevirtual 137, 3) := by decide +kernel
theorem dL_law_927 : decode cL_law 927 = .ok (.if_icmp .eq 175, 3) := by decide +kernel
theorem dL_law_930 : decode cL_law 930 = .ok (.iconst 0, 1) := by decide +kernel
theorem dL_law_931 : decode cL_law 931 = .ok (.ireturn, 1) := by decide +kernel
theorem dL_law_932 : decode cL_law 932 = .ok (.aload_n 1, 1) := by decide +kernel
theorem dL_law_933 : decode cL_law 933 = .ok (.aload_n 0, 1) := by decide +kernel
theorem dL_law_934 : decode cL_law 934 = .ok (.iload_n 3, 1) := by decide +kernel
theorem dL_law_935 : decode cL_law 935 = .ok (.iconst 1, 1) := by decide +kernel
theorem dL_law_936 : decode cL_law 936 = .ok (.iadd, 1) := by decide +kernel
theorem dL_law_937 : decode cL_law 937 = .ok (.iaload, 1) := by decide +kernel
theorem dL_law_938 : decode cL_law 938 = .ok (.aload_n 0, 1) := by decide +kernel
theorem dL_law_939 : decode cL_law 939 = .ok (.iload_n 3, 1) := by decide +kernel
theorem dL_law_940 : decode cL_law 940 = .ok (.iconst 2, 1) := by decide +kernel
theorem dL_law_941 : decode cL_law 941 = .ok (.iadd, 1) := by decide +kernel
theorem dL_law_942 : decode cL_law 942 = .ok (.iaload, 1) := by decide +kernel
theorem dL_law_943 : decode cL_law 943 = .ok (.aload_n 0, 1) := by decide +kernel
theorem dL_law_944 : decode cL_law 944 = .ok (.iload_n 3, 1) := by decide +kernel
theorem dL_law_945 : decode cL_law 945 = .ok (.iconst 3, 1) := by decide +kernel
theorem dL_law_946 : decode cL_law 946 = .ok (.iadd, 1) := by decide +kernel
theorem dL_law_947 : decode cL_law 947 = .ok (.iaload, 1) := by decide +kernel
theorem dL_law_948 : decode cL_law 948 = .ok (.i2l, 1) := by decide +kernel
theorem dL_law_949 : decode cL_law 949 = .ok (.bipush 32, 2) := by decide +kernel
theorem dL_law_951 : decode cL_law 951 = .ok (.lshl, 1) := by decide +kernel
theorem dL_law_952 : decode cL_law 952 = .ok (.aload_n 0, 1) := by decide +kernel
theorem dL_law_953 : decode cL_law 953 = .ok (.iload_n 3, 1) := by decide +kernel
theorem dL_law_954 : decode cL_law 954 = .ok (.iconst 4, 1) := by decide +kernel
theorem dL_law_955 : decode cL_law 955 = .ok (.iadd, 1) := by decide +kernel
theorem dL_law_956 : decode cL_law 956 = .ok (.iaload, 1) := by decide +kernel
theorem dL_law_957 : decode cL_law 957 = .ok (.i2l, 1) := by decide +kernel
theorem dL_law_958 : decode cL_law 958 = .ok (.ldc2_w 138, 3) := by decide +kernel
theorem dL_law_961 : decode cL_law 961 = .ok (.land, 1) := by decide +kernel
theorem dL_law_962 : decode cL_law 962 = .ok (.lor, 1) := by decide +kernel
theorem dL_law_963 : decode cL_law 963 = .ok (.invokevirtual 140, 3) := by decide +kernel
theorem dL_law_966 : decode cL_law 966 = .ok (.aload_n 2, 1) := by decide +kernel
theorem dL_law_967 : decode cL_law 967 = .ok (.aload_n 0, 1) := by decide +kernel
theorem dL_law_968 : decode cL_law 968 = .ok (.iload_n 3, 1) := by decide +kernel
theorem dL_law_969 : decode cL_law 969 = .ok (.iconst 1, 1) := by decide +kernel
theorem dL_law_970 : decode cL_law 970 = .ok (.iadd, 1) := by decide +kernel
theorem dL_law_971 : decode cL_law 971 = .ok (.iaload, 1) := by decide +kernel
theorem dL_law_972 : decode cL_law 972 = .ok (.aload_n 0, 1) := by decide +kernel
theorem dL_law_973 : decode cL_law 973 = .ok (.iload_n 3, 1) := by decide +kernel
theorem dL_law_974 : decode cL_law 974 = .ok (.iconst 2, 1) := by decide +kernel
theorem dL_law_975 : decode cL_law 975 = .ok (.iadd, 1) := by decide +kernel
theorem dL_law_976 : decode cL_law 976 = .ok (.iaload, 1) := by decide +kernel
theorem dL_law_977 : decode cL_law 977 = .ok (.aload_n 0, 1) := by decide +kernel
theorem dL_law_978 : decode cL_law 978 = .ok (.iload_n 3, 1) := by decide +kernel
theorem dL_law_979 : decode cL_law 979 = .ok (.iconst 3, 1) := by decide +kernel
theorem dL_law_980 : decode cL_law 980 = .ok (.iadd, 1) := by decide +kernel
theorem dL_law_981 : decode cL_law 981 = .ok (.iaload, 1) := by decide +kernel
theorem dL_law_982 : decode cL_law 982 = .ok (.i2l, 1) := by decide +kernel
theorem dL_law_983 : decode cL_law 983 = .ok (.bipush 32, 2) := by decide +kernel
theorem dL_law_985 : decode cL_law 985 = .ok (.lshl, 1) := by decide +kernel
theorem dL_law_986 : decode cL_law 986 = .ok (.aload_n 0, 1) := by decide +kernel
theorem dL_law_987 : decode cL_law 987 = .ok (.iload_n 3, 1) := by decide +kernel
theorem dL_law_988 : decode cL_law 988 = .ok (.iconst 4, 1) := by decide +kernel
theorem dL_law_989 : decode cL_law 989 = .ok (.iadd, 1) := by decide +kernel
theorem dL_law_990 : decode cL_law 990 = .ok (.iaload, 1) := by decide +kernel
theorem dL_law_991 : decode cL_law 991 = .ok (.i2l, 1) := by decide +kernel
theorem dL_law_992 : decode cL_law 992 = .ok (.ldc2_w 138, 3) := by decide +kernel
theorem dL_law_995 : decode cL_law 995 = .ok (.land, 1) := by decide +kernel
theorem dL_law_996 : decode cL_law 996 = .ok (.lor, 1) := by decide +kernel
theorem dL_law_997 : decode cL_law 997 = .ok (.invokevirtual 144, 3) := by decide +kernel
theorem dL_law_1000 : decode cL_law 1000 = .ok (.if_icmp .eq 102, 3) := by decide +kernel
theorem dL_law_1003 : decode cL_law 1003 = .ok (.iconst 0, 1) := by decide +kernel
theorem dL_law_1004 : decode cL_law 1004 = .ok (.ireturn, 1) := by decide +kernel
theorem dL_law_1005 : decode cL_law 1005 = .ok (.aload_n 1, 1) := by decide +kernel
theorem dL_law_1006 : decode cL_law 1006 = .ok (.aload_n 0, 1) := by decide +kernel
theorem dL_law_1007 : decode cL_law 1007 = .ok (.iload_n 3, 1) := by decide +kernel
theorem dL_law_1008 : decode cL_law 1008 = .ok (.iconst 1, 1) := by decide +kernel
theorem dL_law_1009 : decode cL_law 1009 = .ok (.iadd, 1) := by decide +kernel
theorem dL_law_1010 : decode cL_law 1010 = .ok (.iaload, 1) := by decide +kernel
theorem dL_law_1011 : decode cL_law 1011 = .ok (.aload_n 0, 1) := by decide +kernel
theorem dL_law_1012 : decode cL_law 1012 = .ok (.iload_n 3, 1) := by decide +kernel
theorem dL_law_1013 : decode cL_law 1013 = .ok (.iconst 2, 1) := by decide +kernel
theorem dL_law_1014 : decode cL_law 1014 = .ok (.iadd, 1) := by decide +kernel
theorem dL_law_1015 : decode cL_law 1015 = .ok (.iaload, 1) := by decide +kernel
theorem dL_law_1016 : decode cL_law 1016 = .ok (.invokevirtual 145, 3) := by decide +kernel
theorem dL_law_1019 : decode cL_law 1019 = .ok (.aload_n 2, 1) := by decide +kernel
theorem dL_law_1020 : decode cL_law 1020 = .ok (.aload_n 0, 1) := by decide +kernel
theorem dL_law_1021 : decode cL_law 1021 = .ok (.iload_n 3, 1) := by decide +kernel
theorem dL_law_1022 : decode cL_law 1022 = .ok (.iconst 1, 1) := by decide +kernel
theorem dL_law_1023 : decode cL_law 1023 = .ok (.iadd, 1) := by decide +kernel
theorem dL_law_1024 : decode cL_law 1024 = .ok (.iaload, 1) := by decide +kernel
theorem dL_law_1025 : decode cL_law 1025 = .ok (.aload_n 0, 1) := by decide +kernel
theorem dL_law_1026 : decode cL_law 1026 = .ok (.iload_n 3, 1) := by decide +kernel
theorem dL_law_1027 : decode cL_law 1027 = .ok (.iconst 2, 1) := by decide +kernel
theorem dL_law_1028 : decode cL_law 1028 = .ok (.iadd, 1) := by decide +kernel
theorem dL_law_1029 : decode cL_law 1029 = .ok (.iaload, 1) := by decide +kernel
theorem dL_law_1030 : decode cL_law 1030 = .ok (.invokevirtual 149, 3) := by decide +kernel
theorem dL_law_1033 : decode cL_law 1033 = .ok (.lcmp, 1) := by decide +kernel
theorem dL_law_1034 : decode cL_law 1034 = .ok (.ifCond .eq 68, 3) := by decide +kernel
theorem dL_law_1037 : decode cL_law 1037 = .ok (.iconst 0, 1) := by decide +kernel
theorem dL_law_1038 : decode cL_law 1038 = .ok (.ireturn, 1) := by decide +kernel
theorem dL_law_1039 : decode cL_law 1039 = .ok (.aload_n 1, 1) := by decide +kernel
theorem dL_law_1040 : decode cL_law 1040 = .ok (.aload_n 0, 1) := by decide +kernel
theorem dL_law_1041 : decode cL_law 1041 = .ok (.iload_n 3, 1) := by decide +kernel
theorem dL_law_1042 : decode cL_law 1042 = .ok (.iconst 1, 1) := by decide +kernel
theorem dL_law_1043 : decode cL_law 1043 = .ok (.iadd, 1) := by decide +kernel
theorem dL_law_1044 : decode cL_law 1044 = .ok (.iaload, 1) := by decide +kernel
theorem dL_law_1045 : decode cL_law 1045 = .ok (.aload_n 0, 1) := by decide +kernel
theorem dL_law_1046 : decode cL_law 1046 = .ok (.iload_n 3, 1) := by decide +kernel
theorem dL_law_1047 : decode cL_law 1047 = .ok (.iconst 2, 1) := by decide +kernel
theorem dL_law_1048 : decode cL_law 1048 = .ok (.iadd, 1) := by decide +kernel
theorem dL_law_1049 : decode cL_law 1049 = .ok (.iaload, 1) := by decide +kernel
theorem dL_law_1050 : decode cL_law 1050 = .ok (.aload_n 0, 1) := by decide +kernel
theorem dL_law_1051 : decode cL_law 1051 = .ok (.iload_n 3, 1) := by decide +kernel
theorem dL_law_1052 : decode cL_law 1052 = .ok (.iconst 3, 1) := by decide +kernel
theorem dL_law_1053 : decode cL_law 1053 = .ok (.iadd, 1) := by decide +kernel
theorem dL_law_1054 : decode cL_law 1054 = .ok (.iaload, 1) := by decide +kernel
theorem dL_law_1055 : decode cL_law 1055 = .ok (.aload_n 0, 1) := by decide +kernel
theorem dL_law_1056 : decode cL_law 1056 = .ok (.iload_n 3, 1) := by decide +kernel
theorem dL_law_1057 : decode cL_law 1057 = .ok (.iconst 4, 1) := by decide +kernel
theorem dL_law_1058 : decode cL_law 1058 = .ok (.iadd, 1) := by decide +kernel
theorem dL_law_1059 : decode cL_law 1059 = .ok (.iaload, 1) := by decide +kernel
theorem dL_law_1060 : decode cL_law 1060 = .ok (.aload_n 0, 1) := by decide +kernel
theorem dL_law_1061 : decode cL_law 1061 = .ok (.iload_n 3, 1) := by decide +kernel
theorem dL_law_1062 : decode cL_law 1062 = .ok (.iconst 5, 1) := by decide +kernel
theorem dL_law_1063 : decode cL_law 1063 = .ok (.iadd, 1) := by decide +kernel
theorem dL_law_1064 : decode cL_law 1064 = .ok (.iaload, 1) := by decide +kernel
theorem dL_law_1065 : decode cL_law 1065 = .ok (.invokevirtual 150, 3) := by decide +kernel
theorem dL_law_1068 : decode cL_law 1068 = .ok (.aload_n 2, 1) := by decide +kernel
theorem dL_law_1069 : decode cL_law 1069 = .ok (.aload_n 0, 1) := by decide +kernel
theorem dL_law_1070 : decode cL_law 1070 = .ok (.iload_n 3, 1) := by decide +kernel
theorem dL_law_1071 : decode cL_law 1071 = .ok (.iconst 1, 1) := by decide +kernel
theorem dL_law_1072 : decode cL_law 1072 = .ok (.iadd, 1) := by decide +kernel
theorem dL_law_1073 : decode cL_law 1073 = .ok (.iaload, 1) := by decide +kernel
theorem dL_law_1074 : decode cL_law 1074 = .ok (.aload_n 0, 1) := by decide +kernel
theorem dL_law_1075 : decode cL_law 1075 = .ok (.iload_n 3, 1) := by decide +kernel
theorem dL_law_1076 : decode cL_law 1076 = .ok (.iconst 2, 1) := by decide +kernel
theorem dL_law_1077 : decode cL_law 1077 = .ok (.iadd, 1) := by decide +kernel
theorem dL_law_1078 : decode cL_law 1078 = .ok (.iaload, 1) := by decide +kernel
theorem dL_law_1079 : decode cL_law 1079 = .ok (.aload_n 0, 1) := by decide +kernel
theorem dL_law_1080 : decode cL_law 1080 = .ok (.iload_n 3, 1) := by decide +kernel
theorem dL_law_1081 : decode cL_law 1081 = .ok (.iconst 3, 1) := by decide +kernel
theorem dL_law_1082 : decode cL_law 1082 = .ok (.iadd, 1) := by decide +kernel
theorem dL_law_1083 : decode cL_law 1083 = .ok (.iaload, 1) := by decide +kernel
theorem dL_law_1084 : decode cL_law 1084 = .ok (.aload_n 0, 1) := by decide +kernel
theorem dL_law_1085 : decode cL_law 1085 = .ok (.iload_n 3, 1) := by decide +kernel
theorem dL_law_1086 : decode cL_law 1086 = .ok (.iconst 4, 1) := by decide +kernel
theorem dL_law_1087 : decode cL_law 1087 = .ok (.iadd, 1) := by decide +kernel
theorem dL_law_1088 : decode cL_law 1088 = .ok (.iaload, 1) := by decide +kernel
theorem dL_law_1089 : decode cL_law 1089 = .ok (.aload_n 0, 1) := by decide +kernel
theorem dL_law_1090 : decode cL_law 1090 = .ok (.iload_n 3, 1) := by decide +kernel
theorem dL_law_1091 : decode cL_law 1091 = .ok (.iconst 5, 1) := by decide +kernel
theorem dL_law_1092 : decode cL_law 1092 = .ok (.iadd, 1) := by decide +kernel
theorem dL_law_1093 : decode cL_law 1093 = .ok (.iaload, 1) := by decide +kernel
theorem dL_law_1094 : decode cL_law 1094 = .ok (.invokevirtual 154, 3) := by decide +kernel
theorem dL_law_1097 : decode cL_law 1097 = .ok (.if_icmp .eq 5, 3) := by decide +kernel
theorem dL_law_1100 : decode cL_law 1100 = .ok (.iconst 0, 1) := by decide +kernel
theorem dL_law_1101 : decode cL_law 1101 = .ok (.ireturn, 1) := by decide +kernel
theorem dL_law_1102 : decode cL_law 1102 = .ok (.iinc 3 6, 3) := by decide +kernel
theorem dL_law_1105 : decode cL_law 1105 = .ok (.goto (-1087), 3) := by decide +kernel
theorem dL_law_1108 : decode cL_law 1108 = .ok (.iconst 1, 1) := by decide +kernel
theorem dL_law_1109 : decode cL_law 1109 = .ok (.ireturn, 1) := by decide +kernel
end
section
-- MEMORY: cells by address; nothing where nothing is
abbrev XE : Type := (FieldType × vp_A) ⊕ (Nat × List Value)
abbrev XM : Type := Nat → Option XE
def x_up (M : XM) (a : Nat) (e : XE) : XM := fun b => if b = a then some e else M b
def x_cv (aC : FieldType → ClassId) (e : XE) : va_E := match e with
  | .inl q => .inl (aC q.1, q.2)
  | .inr o => .inr o
def x_R (D : va_G) (aC : FieldType → ClassId) (bs sz : Nat) (M : XM) (H : Heap) : Prop :=
  H.size = sz ∧ bs ≤ sz ∧ ∀ (a : Nat) (e : XE), M a = some e → bs ≤ a ∧ va_at D vwCl (a, x_cv aC e) H
theorem x_R.get {D : va_G} {aC : FieldType → ClassId} {bs sz : Nat} {M : XM} {H : Heap} (h : x_R D aC bs sz M H) {a : Nat} {e : XE} (ha : M a = some e) : va_P D vwCl [(a, x_cv aC e)] H := by
  intro k q hk
  have hz : k < 1 := (List.getElem?_eq_some_iff.mp hk).1
  rw [show k = 0 by omega] at hk
  cases hk
  exact (h.2.2 a e ha).2
theorem x_R.put {D : va_G} {aC : FieldType → ClassId} {bs sz : Nat} {M : XM} {H H1 : Heap} (h : x_R D aC bs sz M H) {a : Nat} {e : XE} (hb : bs ≤ a) (he : va_at D vwCl (a, x_cv aC e) H1) (z : H1.size = H.size) (oq : ∀ q : Nat, q ≠ a → H1[q]? = H[q]?) : x_R D aC bs sz (x_up M a e) H1 := by
  refine ⟨z.trans h.1, h.2.1, fun b e' hb' => ?_⟩
  by_cases hq : b = a
  · subst hq
    simp only [x_up, if_true] at hb'
    cases hb'
    exact ⟨hb, he⟩
  · simp only [x_up, if_neg hq] at hb'
    exact ⟨(h.2.2 b e' hb').1, ((h.2.2 b e' hb').2).kept (oq b hq)⟩
theorem x_R.push {D : va_G} {aC : FieldType → ClassId} {bs sz : Nat} {M : XM} {H H1 : Heap} (h : x_R D aC bs sz M H) {e : XE} (he : va_at D vwCl (sz, x_cv aC e) H1) (z : H1.size = sz + 1) (oq : ∀ q : Nat, q < sz → H1[q]? = H[q]?) : x_R D aC bs (sz + 1) (x_up M sz e) H1 := by
  refine ⟨z, by have := h.2.1; omega, fun b e' hb' => ?_⟩
  by_cases hq : b = sz
  · subst hq
    simp only [x_up, if_true] at hb'
    cases hb'
    exact ⟨h.2.1, he⟩
  · simp only [x_up, if_neg hq] at hb'
    have h1 := h.2.2 b e' hb'
    have h2 : b < sz := by rw [← h.1]; exact h1.2.lt
    exact ⟨h1.1, h1.2.kept (oq b h2)⟩
-- the tables' words that every method carries
def x_tbl : List Cond := lw_tbl.filter goodWord
theorem x_mT {w : Cond} (i : Nat) (h : tables_1[i]? = some w) (g : goodWord w = true) : w ∈ x_tbl := List.mem_filter.mpr ⟨List.mem_append_right _ (List.mem_of_getElem? h), g⟩
theorem x_mS {w : Cond} (i : Nat) (h : (k2_sels lw_privs)[i]? = some w) (g : goodWord w = true) : w ∈ x_tbl := List.mem_filter.mpr ⟨List.mem_append_left _ (List.mem_of_getElem? h), g⟩
theorem x_goodIn {w : Cond} (h : w ∈ x_tbl) : GoodIn x_tbl (w :: x_tbl) := by
  intro v hv
  have hv' : v ∈ x_tbl := by
    rcases List.mem_cons.mp hv with rfl | h1
    · exact h
    · exact h1
  exact ⟨hv', good_of_word (List.mem_filter.mp hv').2⟩
def x_tys (aC : FieldType → ClassId) : List (ClassId × FieldType) := [(aC .int, .int), (aC .long, .long), (aC .byte, .byte), (aC .boolean, .boolean), (aC (.object RX3), .object RX3), (aC (.object RX6), .object RX6)]
def x_nest : List (Nat × MethodName) := [(13, yX4_init), (34, yX7_init), (41, yX1_init), (48, yX5_init), (66, yX6_init)]
def x_K (D : va_G) (aC : FieldType → ClassId) (U : State) : Prop := va_K D vwCl (x_tys aC) U ∧ va_AO RX3 U ∧ va_AO RX6 U ∧ ∀ q ∈ x_nest, va_Nw (.methodLinkNest RX8 q.1 q.2 "SwappedIntervals") U
theorem x_K.warm {D : va_G} {aC : FieldType → ClassId} {s U : State} (hW : s.WarmedH U.vm) (h : x_K D aC s) : x_K D aC U := ⟨va_K.moved hW.alike h.1, va_AO.moved hW.alike h.2.1, va_AO.moved hW.alike h.2.2.1, fun q hq => va_Nw.warmM hW (h.2.2.2 q hq)⟩
theorem x_K.same {D : va_G} {aC : FieldType → ClassId} {s U : State} (hv : s.vm = U.vm) (h : x_K D aC s) : x_K D aC U := ⟨va_K.moved (by rw [hv]; exact Vm.Alike.refl U.vm) h.1, va_AO.moved (by rw [hv]; exact Vm.Alike.refl U.vm) h.2.1, va_AO.moved (by rw [hv]; exact Vm.Alike.refl U.vm) h.2.2.1, fun q hq => va_Nw.same rfl hv (h.2.2.2 q hq)⟩
-- where a method stands
def x_C (D : va_G) (aC : FieldType → ClassId) (bs : Nat) (y : MethodName) (cc : ByteArray) (nL : Nat) (rt : Option FieldType) (p : Program) (s : State) (m : MethodId) (args : Array Value) (meth : Method) (c : Code) : Prop :=
  p.tables.exec = Jvm.exec ∧ c.code = cc ∧ meth.sig.returnType = rt ∧ c.maxLocals = nL ∧ s.vm.findClass y.cls = some m.cls ∧ (∀ w ∈ x_tbl, w.before args s = true) ∧ meth.locks = false ∧ (y.name = "<init>" → meth.name = "<init>") ∧ x_K D aC s ∧ bs ≤ s.heap.size
/-- from here (pc, locals, stack, memory, cells and slots made so far) the method comes to Z -/
def x_V (l : Launch) (D : va_G) (aC : FieldType → ClassId) (bs : Nat) (y : MethodName) (cc : ByteArray) (nL : Nat) (rt : Option FieldType) (rm : Room) (Z : List Frame → Array Value → State → State → Prop) (pc : Nat) (lv : List (Nat × Value)) (st : List Value) (sz : Nat) (M : XM) (kc ks : Nat) : Prop :=
  ∀ (p : Program) (e : Env) (s : State) (m : MethodId) (args : Array Value) (below : List Frame) (meth : Method) (c : Code) (H : Heap) (locs : List Loc) (ls : Array Slot),
    x_C D aC bs y cc nL rt p s m args meth c → lv_has ls nL lv → x_R D aC bs sz M H → va_S (fun q => bs ≤ q) s.heap H locs → W p l e rm s m args below meth c H locs kc ks (Z below args s) (F0 m pc ls st)
def x_Qc (D : va_G) (aC : FieldType → ClassId) (bs : Nat) (rv : Option Value) (sz : Nat) (M : XM) : Array Value → State → Outcome → State → Prop := fun _ st o t => o = .returned rv ∧ x_R D aC bs sz M t.heap ∧ va_F (fun q => bs ≤ q) st t
def x_Pc (D : va_G) (aC : FieldType → ClassId) (bs : Nat) (av : List Value) (sz : Nat) (M : XM) : Array Value → State → Prop := fun v U => v = av.toArray ∧ x_R D aC bs sz M U.heap ∧ x_K D aC U
/-- a method's contract: from these arguments and this memory it answers rv, and leaves that memory -/
def x_Cn (l : Launch) (D : va_G) (aC : FieldType → ClassId) (bs : Nat) (y : MethodName) (cc : ByteArray) (nL : Nat) (rt : Option FieldType) (rm : Room) (av : List Value) (sz : Nat) (M : XM) (rv : Option Value) (sz' : Nat) (M' : XM) : Prop :=
  Met l y (Cond.code y cc nL rt :: x_tbl) rm (x_Pc D aC bs av sz M) (x_Qc D aC bs rv sz' M') rm.cells rm.slots (fun q => bs ≤ q)
def x_Z (D : va_G) (aC : FieldType → ClassId) (bs : Nat) (rv : Option Value) (sz : Nat) (M : XM) (rm : Room) : List Frame → Array Value → State → State → Prop := fun below args s => MQ below (x_Qc D aC bs rv sz M) args s rm.cells rm.slots (fun q => bs ≤ q)
/-- what the tables say of a method -/
def x_Me (y : MethodName) (cc : ByteArray) (nL : Nat) (rt : Option FieldType) (n : Nat) : Prop := plainName y.cls = true ∧ Cond.code y cc nL rt ∈ x_tbl ∧ Cond.initialized y.cls ∈ x_tbl ∧ y.cls ≠ "java/lang/invoke/MethodHandle" ∧ y.cls ≠ "java/lang/invoke/VarHandle" ∧ (parseMethodDescriptor y.desc).map (fun d => d.parameters.length) = some n
theorem x_blind {D : va_G} {aC : FieldType → ClassId} {bs : Nat} {av : List Value} {sz : Nat} {M : XM} : FrameBlind (x_Pc D aC bs av sz M) := fun _ U g mk h => ⟨h.1, h.2.1, h.2.2.same rfl⟩
theorem x_enter {l : Launch} {D : va_G} {aC : FieldType → ClassId} {bs : Nat} {y : MethodName} {cc : ByteArray} {nL : Nat} {rt : Option FieldType} {n : Nat} {rm : Room} {av : List Value} {sz : Nat} {M : XM} {rv : Option Value} {sz' : Nat} {M' : XM} (hm : x_Me y cc nL rt n) (hlen : (lg_sl av).length ≤ nL)
    (K : x_V l D aC bs y cc nL rt rm (x_Z D aC bs rv sz' M' rm) 0 (lv_args 0 av) [] sz M 0 0) : x_Cn l D aC bs y cc nL rt rm av sz M rv sz' M' := by
  refine Met.ofW (cc := cc) (maxL := nL) (ret := rt) hm.1 rfl ?_
  intro p e s m args below meth c s₁ B hml hv
  obtain ⟨rfl, hR, hK⟩ := hv
  have hts := atoms_spec (ws := Cond.code y cc nL rt :: x_tbl) B.pre
  have hl := lv_entry av (n := nL) hlen
  rw [lg_entry_eq]
  exact K p e s m _ below meth c s.heap [] _ ⟨B.exec, B.bytes, B.returns, hml, findClass_of_methodNamed B.named, fun w hw => hts w (List.mem_cons_of_mem _ hw), B.notSynchronized, fun h => (name_of_methodNamed B.named B.method).1.trans h, hK, by rw [hR.1]; exact hR.2.1⟩ hl hR va_S.rf
section XRET
variable {l : Launch} {D : va_G} {aC : FieldType → ClassId} {bs : Nat} {y : MethodName} {cc : ByteArray} {nL : Nat} {rt : Option FieldType} {rm : Room} {pc : Nat} {lv : List (Nat × Value)} {sz : Nat} {M : XM} {kc ks : Nat}
theorem x_iret {v : Int32} (hd : decode cc pc = .ok (.ireturn, 1)) (hkc : kc ≤ rm.cells) (hks : ks ≤ rm.slots) : x_V l D aC bs y cc nL (some .int) rm (x_Z D aC bs (some (.int v)) sz M rm) pc lv [.int v] sz M kc ks := by
  intro p e s m args below meth c H locs ls C hl hR hS
  refine W.widen (k := rm.cells) (n := rm.slots) hkc hks ?_
  exact W.iret (v := v) C.1 C.2.1 C.2.2.1 (fun t ht hW => ⟨rfl, by rw [ht]; exact hR, hS.F ht⟩) hS.2.2 hd C.2.2.2.2.2.2.1
theorem x_zret {v : Int32} (hd : decode cc pc = .ok (.ireturn, 1)) (hv : v = 0 ∨ v = 1) (hkc : kc ≤ rm.cells) (hks : ks ≤ rm.slots) : x_V l D aC bs y cc nL (some .boolean) rm (x_Z D aC bs (some (.int v)) sz M rm) pc lv [.int v] sz M kc ks := by
  intro p e s m args below meth c H locs ls C hl hR hS
  refine W.widen (k := rm.cells) (n := rm.slots) hkc hks ?_
  exact W.zret (v := v) C.1 C.2.1 C.2.2.1 (by rcases hv with rfl | rfl <;> decide) (fun t ht hW => ⟨rfl, by rw [ht]; exact hR, hS.F ht⟩) hS.2.2 hd C.2.2.2.2.2.2.1
theorem x_vret (hd : decode cc pc = .ok (.return_, 1)) (hkc : kc ≤ rm.cells) (hks : ks ≤ rm.slots) : x_V l D aC bs y cc nL none rm (x_Z D aC bs none sz M rm) pc lv [] sz M kc ks := by
  intro p e s m args below meth c H locs ls C hl hR hS
  refine W.widen (k := rm.cells) (n := rm.slots) hkc hks ?_
  exact W.vret C.1 C.2.1 C.2.2.1 (fun t ht hW => ⟨rfl, by rw [ht]; exact hR, hS.F ht⟩) hS.2.2 hd C.2.2.2.2.2.2.1
theorem x_lret {v : Int64} (hd : decode cc pc = .ok (.lreturn, 1)) (hkc : kc ≤ rm.cells) (hks : ks ≤ rm.slots) : x_V l D aC bs y cc nL (some .long) rm (x_Z D aC bs (some (.long v)) sz M rm) pc lv [.long v] sz M kc ks := by
  intro p e s m args below meth c H locs ls C hl hR hS
  refine W.widen (k := rm.cells) (n := rm.slots) hkc hks ?_
  exact W.lret (v := v) C.1 C.2.1 C.2.2.1 (fun t ht hW => ⟨rfl, by rw [ht]; exact hR, hS.F ht⟩) hS.2.2 hd C.2.2.2.2.2.2.1
theorem x_aret {a : Nat} {ty : FieldType} (hd : decode cc pc = .ok (.areturn, 1)) (hkc : kc ≤ rm.cells) (hks : ks ≤ rm.slots) : x_V l D aC bs y cc nL (some (.array ty)) rm (x_Z D aC bs (some (.ref a)) sz M rm) pc lv [.ref a] sz M kc ks := by
  intro p e s m args below meth c H locs ls C hl hR hS
  refine W.widen (k := rm.cells) (n := rm.slots) hkc hks ?_
  exact W.aret (v := .ref a) C.1 C.2.1 C.2.2.1 (Or.inr ⟨_, rfl⟩) (Or.inr ⟨_, rfl⟩) (fun t ht hW => ⟨rfl, by rw [ht]; exact hR, hS.F ht⟩) hS.2.2 hd C.2.2.2.2.2.2.1
end XRET
end
section
section XROW
variable {l : Launch} {D : va_G} {aC : FieldType → ClassId} {bs : Nat} {y : MethodName} {cc : ByteArray} {nL : Nat} {rt : Option FieldType} {rm : Room} {Z : List Frame → Array Value → State → State → Prop} {pc : Nat} {lv : List (Nat × Value)} {st : List Value} {sz : Nat} {M : XM} {kc ks : Nat}
theorem x_iconst {n : Int} {v : Int32} (hd : decode cc pc = .ok (.iconst n, 1)) (hv : Int32.ofInt n = v) (K : x_V l D aC bs y cc nL rt rm Z (pc + 1) lv (.int v :: st) sz M kc ks) : x_V l D aC bs y cc nL rt rm Z pc lv (st) sz M kc ks := fun p e s m args below meth c H locs ls C hl hR hS => lv_iconst C.1 C.2.1 hd hv (K p e s m args below meth c H locs ls C hl hR hS)
theorem x_bipush {n : Int} {v : Int32} (hd : decode cc pc = .ok (.bipush n, 2)) (hv : (Int8.ofInt n).toInt32 = v) (K : x_V l D aC bs y cc nL rt rm Z (pc + 2) lv (.int v :: st) sz M kc ks) : x_V l D aC bs y cc nL rt rm Z pc lv (st) sz M kc ks := fun p e s m args below meth c H locs ls C hl hR hS => lv_bipush C.1 C.2.1 hd hv (K p e s m args below meth c H locs ls C hl hR hS)
theorem x_sipush {n : Int} {v : Int32} (hd : decode cc pc = .ok (.sipush n, 3)) (hv : (Int16.ofInt n).toInt32 = v) (K : x_V l D aC bs y cc nL rt rm Z (pc + 3) lv (.int v :: st) sz M kc ks) : x_V l D aC bs y cc nL rt rm Z pc lv (st) sz M kc ks := fun p e s m args below meth c H locs ls C hl hR hS => lv_sipush C.1 C.2.1 hd hv (K p e s m args below meth c H locs ls C hl hR hS)
theorem x_lconst {n : Fin 2} {v : Int64} (hd : decode cc pc = .ok (.lconst n, 1)) (hv : Int64.ofNat (n : Nat) = v) (K : x_V l D aC bs y cc nL rt rm Z (pc + 1) lv (.long v :: st) sz M kc ks) : x_V l D aC bs y cc nL rt rm Z pc lv (st) sz M kc ks := fun p e s m args below meth c H locs ls C hl hR hS => lv_lconst C.1 C.2.1 hd hv (K p e s m args below meth c H locs ls C hl hR hS)
theorem x_ldc2 {i : Nat} {v : Int64} (hd : decode cc pc = .ok (.ldc2_w i, 3)) (hw : Cond.constantLong y.cls i v ∈ x_tbl) (K : x_V l D aC bs y cc nL rt rm Z (pc + 3) lv (.long v :: st) sz M kc ks) : x_V l D aC bs y cc nL rt rm Z pc lv (st) sz M kc ks := fun p e s m args below meth c H locs ls C hl hR hS => lv_ldc2 C.1 C.2.1 C.2.2.2.2.1 (C.2.2.2.2.2.1 _ hw) hd (K p e s m args below meth c H locs ls C hl hR hS)
theorem x_iload_n {k : Fin 4} {x : Int32} (hd : decode cc pc = .ok (.iload_n k, 1)) (q : Nat) (hq : lv[q]? = some ((k : Nat), .int x)) (K : x_V l D aC bs y cc nL rt rm Z (pc + 1) lv (.int x :: st) sz M kc ks) : x_V l D aC bs y cc nL rt rm Z pc lv (st) sz M kc ks := fun p e s m args below meth c H locs ls C hl hR hS => lv_iload_n C.1 C.2.1 hd rfl (lv_at hl q hq) (K p e s m args below meth c H locs ls C hl hR hS)
theorem x_iload {k : Nat} {x : Int32} (hd : decode cc pc = .ok (.iload k, 2)) (q : Nat) (hq : lv[q]? = some (k, .int x)) (K : x_V l D aC bs y cc nL rt rm Z (pc + 2) lv (.int x :: st) sz M kc ks) : x_V l D aC bs y cc nL rt rm Z pc lv (st) sz M kc ks := fun p e s m args below meth c H locs ls C hl hR hS => lv_iload C.1 C.2.1 hd (lv_at hl q hq) (K p e s m args below meth c H locs ls C hl hR hS)
theorem x_lload_n {k : Fin 4} {x : Int64} (hd : decode cc pc = .ok (.lload_n k, 1)) (q : Nat) (hq : lv[q]? = some ((k : Nat), .long x)) (K : x_V l D aC bs y cc nL rt rm Z (pc + 1) lv (.long x :: st) sz M kc ks) : x_V l D aC bs y cc nL rt rm Z pc lv (st) sz M kc ks := fun p e s m args below meth c H locs ls C hl hR hS => lv_lload_n C.1 C.2.1 hd rfl (lv_at hl q hq) (K p e s m args below meth c H locs ls C hl hR hS)
theorem x_lload {k : Nat} {x : Int64} (hd : decode cc pc = .ok (.lload k, 2)) (q : Nat) (hq : lv[q]? = some (k, .long x)) (K : x_V l D aC bs y cc nL rt rm Z (pc + 2) lv (.long x :: st) sz M kc ks) : x_V l D aC bs y cc nL rt rm Z pc lv (st) sz M kc ks := fun p e s m args below meth c H locs ls C hl hR hS => lv_lload C.1 C.2.1 hd (lv_at hl q hq) (K p e s m args below meth c H locs ls C hl hR hS)
theorem x_aload_n {k : Fin 4} {x : Nat} (hd : decode cc pc = .ok (.aload_n k, 1)) (q : Nat) (hq : lv[q]? = some ((k : Nat), .ref x)) (K : x_V l D aC bs y cc nL rt rm Z (pc + 1) lv (.ref x :: st) sz M kc ks) : x_V l D aC bs y cc nL rt rm Z pc lv (st) sz M kc ks := fun p e s m args below meth c H locs ls C hl hR hS => lv_aload_n C.1 C.2.1 hd rfl (lv_at hl q hq) (K p e s m args below meth c H locs ls C hl hR hS)
theorem x_aload {k : Nat} {x : Nat} (hd : decode cc pc = .ok (.aload k, 2)) (q : Nat) (hq : lv[q]? = some (k, .ref x)) (K : x_V l D aC bs y cc nL rt rm Z (pc + 2) lv (.ref x :: st) sz M kc ks) : x_V l D aC bs y cc nL rt rm Z pc lv (st) sz M kc ks := fun p e s m args below meth c H locs ls C hl hR hS => lv_aload C.1 C.2.1 hd (lv_at hl q hq) (K p e s m args below meth c H locs ls C hl hR hS)
theorem x_istore_n {k : Fin 4} {x : Int32} (i : Nat) (lv2 : List (Nat × Value)) (hd : decode cc pc = .ok (.istore_n k, 1)) (hi : (k : Nat) = i) (hn : i < nL) (hq : (i, Value.int x) :: lv.filter (fun q => !(q.1 == i) && !(q.1 + 1 == i && q.2.category == 2)) = lv2) (K : x_V l D aC bs y cc nL rt rm Z (pc + 1) lv2 (st) sz M kc ks) : x_V l D aC bs y cc nL rt rm Z pc lv (.int x :: st) sz M kc ks := fun p e s m args below meth c H locs ls C hl hR hS => lv_istore_n C.1 C.2.1 hd hi hl hn hq (fun ls2 hl2 => K p e s m args below meth c H locs ls2 C hl2 hR hS)
theorem x_istore {x : Int32} {i : Nat} (lv2 : List (Nat × Value)) (hd : decode cc pc = .ok (.istore i, 2)) (hn : i < nL) (hq : (i, Value.int x) :: lv.filter (fun q => !(q.1 == i) && !(q.1 + 1 == i && q.2.category == 2)) = lv2) (K : x_V l D aC bs y cc nL rt rm Z (pc + 2) lv2 (st) sz M kc ks) : x_V l D aC bs y cc nL rt rm Z pc lv (.int x :: st) sz M kc ks := fun p e s m args below meth c H locs ls C hl hR hS => lv_istore C.1 C.2.1 hd hl hn hq (fun ls2 hl2 => K p e s m args below meth c H locs ls2 C hl2 hR hS)
theorem x_lstore_n {k : Fin 4} {x : Int64} (i : Nat) (lv2 : List (Nat × Value)) (hd : decode cc pc = .ok (.lstore_n k, 1)) (hi : (k : Nat) = i) (hn : i + 1 < nL) (hq : (i, Value.long x) :: lv.filter (fun q => !(q.1 == i) && (!(q.1 == i + 1) && !(q.1 + 1 == i && q.2.category == 2))) = lv2) (K : x_V l D aC bs y cc nL rt rm Z (pc + 1) lv2 (st) sz M kc ks) : x_V l D aC bs y cc nL rt rm Z pc lv (.long x :: st) sz M kc ks := fun p e s m args below meth c H locs ls C hl hR hS => lv_lstore_n C.1 C.2.1 hd hi hl hn hq (fun ls2 hl2 => K p e s m args below meth c H locs ls2 C hl2 hR hS)
theorem x_lstore {x : Int64} {i : Nat} (lv2 : List (Nat × Value)) (hd : decode cc pc = .ok (.lstore i, 2)) (hn : i + 1 < nL) (hq : (i, Value.long x) :: lv.filter (fun q => !(q.1 == i) && (!(q.1 == i + 1) && !(q.1 + 1 == i && q.2.category == 2))) = lv2) (K : x_V l D aC bs y cc nL rt rm Z (pc + 2) lv2 (st) sz M kc ks) : x_V l D aC bs y cc nL rt rm Z pc lv (.long x :: st) sz M kc ks := fun p e s m args below meth c H locs ls C hl hR hS => lv_lstore C.1 C.2.1 hd hl hn hq (fun ls2 hl2 => K p e s m args below meth c H locs ls2 C hl2 hR hS)
theorem x_astore_n {k : Fin 4} {x : Nat} (i : Nat) (lv2 : List (Nat × Value)) (hd : decode cc pc = .ok (.astore_n k, 1)) (hi : (k : Nat) = i) (hn : i < nL) (hq : (i, Value.ref x) :: lv.filter (fun q => !(q.1 == i) && !(q.1 + 1 == i && q.2.category == 2)) = lv2) (K : x_V l D aC bs y cc nL rt rm Z (pc + 1) lv2 (st) sz M kc ks) : x_V l D aC bs y cc nL rt rm Z pc lv (.ref x :: st) sz M kc ks := fun p e s m args below meth c H locs ls C hl hR hS => lv_astore_n C.1 C.2.1 hd hi hl hn hq (fun ls2 hl2 => K p e s m args below meth c H locs ls2 C hl2 hR hS)
theorem x_astore {x : Nat} {i : Nat} (lv2 : List (Nat × Value)) (hd : decode cc pc = .ok (.astore i, 2)) (hn : i < nL) (hq : (i, Value.ref x) :: lv.filter (fun q => !(q.1 == i) && !(q.1 + 1 == i && q.2.category == 2)) = lv2) (K : x_V l D aC bs y cc nL rt rm Z (pc + 2) lv2 (st) sz M kc ks) : x_V l D aC bs y cc nL rt rm Z pc lv (.ref x :: st) sz M kc ks := fun p e s m args below meth c H locs ls C hl hR hS => lv_astore C.1 C.2.1 hd hl hn hq (fun ls2 hl2 => K p e s m args below meth c H locs ls2 C hl2 hR hS)
theorem x_iinc {x : Int32} {i : Nat} {n : Int} (v : Int32) (q : Nat) (lv2 : List (Nat × Value)) (hd : decode cc pc = .ok (.iinc i n, 3)) (hk : lv[q]? = some (i, .int x)) (hv : Int32.ofInt n = v) (hn : i < nL) (hq : (i, Value.int (x + v)) :: lv.filter (fun q => !(q.1 == i) && !(q.1 + 1 == i && q.2.category == 2)) = lv2) (K : x_V l D aC bs y cc nL rt rm Z (pc + 3) lv2 (st) sz M kc ks) : x_V l D aC bs y cc nL rt rm Z pc lv (st) sz M kc ks := fun p e s m args below meth c H locs ls C hl hR hS => lv_iinc C.1 C.2.1 hd hl hk (by rw [hv]) hn hq (fun ls2 hl2 => K p e s m args below meth c H locs ls2 C hl2 hR hS)
theorem x_iadd {x v : Int32} (hd : decode cc pc = .ok (.iadd, 1)) (K : x_V l D aC bs y cc nL rt rm Z (pc + 1) lv (.int (x + v) :: st) sz M kc ks) : x_V l D aC bs y cc nL rt rm Z pc lv (.int v :: .int x :: st) sz M kc ks := fun p e s m args below meth c H locs ls C hl hR hS => lv_iadd C.1 C.2.1 hd (K p e s m args below meth c H locs ls C hl hR hS)
theorem x_isub {x v : Int32} (hd : decode cc pc = .ok (.isub, 1)) (K : x_V l D aC bs y cc nL rt rm Z (pc + 1) lv (.int (x - v) :: st) sz M kc ks) : x_V l D aC bs y cc nL rt rm Z pc lv (.int v :: .int x :: st) sz M kc ks := fun p e s m args below meth c H locs ls C hl hR hS => lv_isub C.1 C.2.1 hd (K p e s m args below meth c H locs ls C hl hR hS)
theorem x_imul {x v : Int32} (hd : decode cc pc = .ok (.imul, 1)) (K : x_V l D aC bs y cc nL rt rm Z (pc + 1) lv (.int (x * v) :: st) sz M kc ks) : x_V l D aC bs y cc nL rt rm Z pc lv (.int v :: .int x :: st) sz M kc ks := fun p e s m args below meth c H locs ls C hl hR hS => lv_imul C.1 C.2.1 hd (K p e s m args below meth c H locs ls C hl hR hS)
theorem x_iand {x v : Int32} (hd : decode cc pc = .ok (.iand, 1)) (K : x_V l D aC bs y cc nL rt rm Z (pc + 1) lv (.int (x &&& v) :: st) sz M kc ks) : x_V l D aC bs y cc nL rt rm Z pc lv (.int v :: .int x :: st) sz M kc ks := fun p e s m args below meth c H locs ls C hl hR hS => lv_iand C.1 C.2.1 hd (K p e s m args below meth c H locs ls C hl hR hS)
theorem x_ior {x v : Int32} (hd : decode cc pc = .ok (.ior, 1)) (K : x_V l D aC bs y cc nL rt rm Z (pc + 1) lv (.int (x ||| v) :: st) sz M kc ks) : x_V l D aC bs y cc nL rt rm Z pc lv (.int v :: .int x :: st) sz M kc ks := fun p e s m args below meth c H locs ls C hl hR hS => lv_ior C.1 C.2.1 hd (K p e s m args below meth c H locs ls C hl hR hS)
theorem x_ishl {x v : Int32} (hd : decode cc pc = .ok (.ishl, 1)) (K : x_V l D aC bs y cc nL rt rm Z (pc + 1) lv (.int (x <<< (v &&& 31)) :: st) sz M kc ks) : x_V l D aC bs y cc nL rt rm Z pc lv (.int v :: .int x :: st) sz M kc ks := fun p e s m args below meth c H locs ls C hl hR hS => lv_ishl C.1 C.2.1 hd (K p e s m args below meth c H locs ls C hl hR hS)
theorem x_ishr {x v : Int32} (hd : decode cc pc = .ok (.ishr, 1)) (K : x_V l D aC bs y cc nL rt rm Z (pc + 1) lv (.int (x >>> (v &&& 31)) :: st) sz M kc ks) : x_V l D aC bs y cc nL rt rm Z pc lv (.int v :: .int x :: st) sz M kc ks := fun p e s m args below meth c H locs ls C hl hR hS => lv_ishr C.1 C.2.1 hd (K p e s m args below meth c H locs ls C hl hR hS)
theorem x_idiv {x v : Int32} (hd : decode cc pc = .ok (.idiv, 1)) (hne : ¬ v = 0) (K : x_V l D aC bs y cc nL rt rm Z (pc + 1) lv (.int (x / v) :: st) sz M kc ks) : x_V l D aC bs y cc nL rt rm Z pc lv (.int v :: .int x :: st) sz M kc ks := fun p e s m args below meth c H locs ls C hl hR hS => lv_idiv C.1 C.2.1 hd hne (K p e s m args below meth c H locs ls C hl hR hS)
theorem x_irem {x v : Int32} (hd : decode cc pc = .ok (.irem, 1)) (hne : ¬ v = 0) (K : x_V l D aC bs y cc nL rt rm Z (pc + 1) lv (.int (x - x / v * v) :: st) sz M kc ks) : x_V l D aC bs y cc nL rt rm Z pc lv (.int v :: .int x :: st) sz M kc ks := fun p e s m args below meth c H locs ls C hl hR hS => lv_irem C.1 C.2.1 hd hne (K p e s m args below meth c H locs ls C hl hR hS)
theorem x_ineg {x : Int32} (hd : decode cc pc = .ok (.ineg, 1)) (K : x_V l D aC bs y cc nL rt rm Z (pc + 1) lv (.int (-x) :: st) sz M kc ks) : x_V l D aC bs y cc nL rt rm Z pc lv (.int x :: st) sz M kc ks := fun p e s m args below meth c H locs ls C hl hR hS => lv_ineg C.1 C.2.1 hd (K p e s m args below meth c H locs ls C hl hR hS)
theorem x_ladd {x v : Int64} (hd : decode cc pc = .ok (.ladd, 1)) (K : x_V l D aC bs y cc nL rt rm Z (pc + 1) lv (.long (x + v) :: st) sz M kc ks) : x_V l D aC bs y cc nL rt rm Z pc lv (.long v :: .long x :: st) sz M kc ks := fun p e s m args below meth c H locs ls C hl hR hS => lv_ladd C.1 C.2.1 hd (K p e s m args below meth c H locs ls C hl hR hS)
theorem x_lsub {x v : Int64} (hd : decode cc pc = .ok (.lsub, 1)) (K : x_V l D aC bs y cc nL rt rm Z (pc + 1) lv (.long (x - v) :: st) sz M kc ks) : x_V l D aC bs y cc nL rt rm Z pc lv (.long v :: .long x :: st) sz M kc ks := fun p e s m args below meth c H locs ls C hl hR hS => lv_lsub C.1 C.2.1 hd (K p e s m args below meth c H locs ls C hl hR hS)
theorem x_lmul {x v : Int64} (hd : decode cc pc = .ok (.lmul, 1)) (K : x_V l D aC bs y cc nL rt rm Z (pc + 1) lv (.long (x * v) :: st) sz M kc ks) : x_V l D aC bs y cc nL rt rm Z pc lv (.long v :: .long x :: st) sz M kc ks := fun p e s m args below meth c H locs ls C hl hR hS => lv_lmul C.1 C.2.1 hd (K p e s m args below meth c H locs ls C hl hR hS)
theorem x_land {x v : Int64} (hd : decode cc pc = .ok (.land, 1)) (K : x_V l D aC bs y cc nL rt rm Z (pc + 1) lv (.long (x &&& v) :: st) sz M kc ks) : x_V l D aC bs y cc nL rt rm Z pc lv (.long v :: .long x :: st) sz M kc ks := fun p e s m args below meth c H locs ls C hl hR hS => lv_land C.1 C.2.1 hd (K p e s m args below meth c H locs ls C hl hR hS)
theorem x_lor {x v : Int64} (hd : decode cc pc = .ok (.lor, 1)) (K : x_V l D aC bs y cc nL rt rm Z (pc + 1) lv (.long (x ||| v) :: st) sz M kc ks) : x_V l D aC bs y cc nL rt rm Z pc lv (.long v :: .long x :: st) sz M kc ks := fun p e s m args below meth c H locs ls C hl hR hS => lv_lor C.1 C.2.1 hd (K p e s m args below meth c H locs ls C hl hR hS)
theorem x_ldiv {x v : Int64} (hd : decode cc pc = .ok (.ldiv, 1)) (hne : ¬ v = 0) (K : x_V l D aC bs y cc nL rt rm Z (pc + 1) lv (.long (x / v) :: st) sz M kc ks) : x_V l D aC bs y cc nL rt rm Z pc lv (.long v :: .long x :: st) sz M kc ks := fun p e s m args below meth c H locs ls C hl hR hS => lv_ldiv C.1 C.2.1 hd hne (K p e s m args below meth c H locs ls C hl hR hS)
theorem x_lrem {x v : Int64} (hd : decode cc pc = .ok (.lrem, 1)) (hne : ¬ v = 0) (K : x_V l D aC bs y cc nL rt rm Z (pc + 1) lv (.long (x - x / v * v) :: st) sz M kc ks) : x_V l D aC bs y cc nL rt rm Z pc lv (.long v :: .long x :: st) sz M kc ks := fun p e s m args below meth c H locs ls C hl hR hS => lv_lrem C.1 C.2.1 hd hne (K p e s m args below meth c H locs ls C hl hR hS)
theorem x_lshl {x : Int64} {v : Int32} (hd : decode cc pc = .ok (.lshl, 1)) (K : x_V l D aC bs y cc nL rt rm Z (pc + 1) lv (.long (x <<< (v.toInt64 &&& 63)) :: st) sz M kc ks) : x_V l D aC bs y cc nL rt rm Z pc lv (.int v :: .long x :: st) sz M kc ks := fun p e s m args below meth c H locs ls C hl hR hS => lv_lshl C.1 C.2.1 hd rfl (K p e s m args below meth c H locs ls C hl hR hS)
theorem x_lcmp {x v : Int64} (hd : decode cc pc = .ok (.lcmp, 1)) (K : x_V l D aC bs y cc nL rt rm Z (pc + 1) lv (.int (lg_cmp x v) :: st) sz M kc ks) : x_V l D aC bs y cc nL rt rm Z pc lv (.long v :: .long x :: st) sz M kc ks := fun p e s m args below meth c H locs ls C hl hR hS => W.lcmp C.1 C.2.1 hd (K p e s m args below meth c H locs ls C hl hR hS)
theorem x_i2l {x : Int32} (hd : decode cc pc = .ok (.i2l, 1)) (K : x_V l D aC bs y cc nL rt rm Z (pc + 1) lv (.long x.toInt64 :: st) sz M kc ks) : x_V l D aC bs y cc nL rt rm Z pc lv (.int x :: st) sz M kc ks := fun p e s m args below meth c H locs ls C hl hR hS => lv_i2l C.1 C.2.1 hd rfl (K p e s m args below meth c H locs ls C hl hR hS)
theorem x_l2i {x : Int64} (hd : decode cc pc = .ok (.l2i, 1)) (K : x_V l D aC bs y cc nL rt rm Z (pc + 1) lv (.int x.toInt32 :: st) sz M kc ks) : x_V l D aC bs y cc nL rt rm Z pc lv (.long x :: st) sz M kc ks := fun p e s m args below meth c H locs ls C hl hR hS => lv_l2i C.1 C.2.1 hd rfl (K p e s m args below meth c H locs ls C hl hR hS)
theorem x_i2b {x : Int32} (hd : decode cc pc = .ok (.i2b, 1)) (K : x_V l D aC bs y cc nL rt rm Z (pc + 1) lv (.int x.toInt8.toInt32 :: st) sz M kc ks) : x_V l D aC bs y cc nL rt rm Z pc lv (.int x :: st) sz M kc ks := fun p e s m args below meth c H locs ls C hl hR hS => lv_i2b C.1 C.2.1 hd rfl (K p e s m args below meth c H locs ls C hl hR hS)
theorem x_i2s {x : Int32} (hd : decode cc pc = .ok (.i2s, 1)) (K : x_V l D aC bs y cc nL rt rm Z (pc + 1) lv (.int x.toInt16.toInt32 :: st) sz M kc ks) : x_V l D aC bs y cc nL rt rm Z pc lv (.int x :: st) sz M kc ks := fun p e s m args below meth c H locs ls C hl hR hS => lv_i2s C.1 C.2.1 hd rfl (K p e s m args below meth c H locs ls C hl hR hS)
theorem x_dup {v : Value} (hd : decode cc pc = .ok (.dup, 1)) (hc : v.category = 1) (K : x_V l D aC bs y cc nL rt rm Z (pc + 1) lv (v :: v :: st) sz M kc ks) : x_V l D aC bs y cc nL rt rm Z pc lv (v :: st) sz M kc ks := fun p e s m args below meth c H locs ls C hl hR hS => lv_dup C.1 C.2.1 hd hc (K p e s m args below meth c H locs ls C hl hR hS)
theorem x_dup2 {v w : Value} (hd : decode cc pc = .ok (.dup2, 1)) (hc : v.category = 1) (hc2 : w.category = 1) (K : x_V l D aC bs y cc nL rt rm Z (pc + 1) lv (v :: w :: v :: w :: st) sz M kc ks) : x_V l D aC bs y cc nL rt rm Z pc lv (v :: w :: st) sz M kc ks := fun p e s m args below meth c H locs ls C hl hR hS => lv_dup2_11 C.1 C.2.1 hd hc hc2 (K p e s m args below meth c H locs ls C hl hR hS)
theorem x_pop {v : Value} (hd : decode cc pc = .ok (.pop, 1)) (hc : v.category = 1) (K : x_V l D aC bs y cc nL rt rm Z (pc + 1) lv (st) sz M kc ks) : x_V l D aC bs y cc nL rt rm Z pc lv (v :: st) sz M kc ks := fun p e s m args below meth c H locs ls C hl hR hS => lv_pop C.1 C.2.1 hd hc (K p e s m args below meth c H locs ls C hl hR hS)
theorem x_if_eq {x : Int32} {off : Int} (tgt : Nat) (hd : decode cc pc = .ok (.ifCond .eq off, 3)) (ht : (pc : Int) + off = (tgt : Int)) (K1 : x = 0 → x_V l D aC bs y cc nL rt rm Z tgt lv (st) sz M kc ks) (K2 : ¬ x = 0 → x_V l D aC bs y cc nL rt rm Z (pc + 3) lv (st) sz M kc ks) : x_V l D aC bs y cc nL rt rm Z pc lv (.int x :: st) sz M kc ks := fun p e s m args below meth c H locs ls C hl hR hS => lv_if_eq C.1 C.2.1 hd ht (fun h => K1 h p e s m args below meth c H locs ls C hl hR hS) (fun h => K2 h p e s m args below meth c H locs ls C hl hR hS)
theorem x_if_ne {x : Int32} {off : Int} (tgt : Nat) (hd : decode cc pc = .ok (.ifCond .ne off, 3)) (ht : (pc : Int) + off = (tgt : Int)) (K1 : ¬ x = 0 → x_V l D aC bs y cc nL rt rm Z tgt lv (st) sz M kc ks) (K2 : x = 0 → x_V l D aC bs y cc nL rt rm Z (pc + 3) lv (st) sz M kc ks) : x_V l D aC bs y cc nL rt rm Z pc lv (.int x :: st) sz M kc ks := fun p e s m args below meth c H locs ls C hl hR hS => lv_if_ne C.1 C.2.1 hd ht (fun h => K1 h p e s m args below meth c H locs ls C hl hR hS) (fun h => K2 h p e s m args below meth c H locs ls C hl hR hS)
theorem x_if_lt {x : Int32} {off : Int} (tgt : Nat) (hd : decode cc pc = .ok (.ifCond .lt off, 3)) (ht : (pc : Int) + off = (tgt : Int)) (K1 : x < 0 → x_V l D aC bs y cc nL rt rm Z tgt lv (st) sz M kc ks) (K2 : ¬ x < 0 → x_V l D aC bs y cc nL rt rm Z (pc + 3) lv (st) sz M kc ks) : x_V l D aC bs y cc nL rt rm Z pc lv (.int x :: st) sz M kc ks := fun p e s m args below meth c H locs ls C hl hR hS => lv_if_lt C.1 C.2.1 hd ht (fun h => K1 h p e s m args below meth c H locs ls C hl hR hS) (fun h => K2 h p e s m args below meth c H locs ls C hl hR hS)
theorem x_if_ge {x : Int32} {off : Int} (tgt : Nat) (hd : decode cc pc = .ok (.ifCond .ge off, 3)) (ht : (pc : Int) + off = (tgt : Int)) (K1 : 0 ≤ x → x_V l D aC bs y cc nL rt rm Z tgt lv (st) sz M kc ks) (K2 : ¬ 0 ≤ x → x_V l D aC bs y cc nL rt rm Z (pc + 3) lv (st) sz M kc ks) : x_V l D aC bs y cc nL rt rm Z pc lv (.int x :: st) sz M kc ks := fun p e s m args below meth c H locs ls C hl hR hS => lv_if_ge C.1 C.2.1 hd ht (fun h => K1 h p e s m args below meth c H locs ls C hl hR hS) (fun h => K2 h p e s m args below meth c H locs ls C hl hR hS)
theorem x_if_gt {x : Int32} {off : Int} (tgt : Nat) (hd : decode cc pc = .ok (.ifCond .gt off, 3)) (ht : (pc : Int) + off = (tgt : Int)) (K1 : 0 < x → x_V l D aC bs y cc nL rt rm Z tgt lv (st) sz M kc ks) (K2 : ¬ 0 < x → x_V l D aC bs y cc nL rt rm Z (pc + 3) lv (st) sz M kc ks) : x_V l D aC bs y cc nL rt rm Z pc lv (.int x :: st) sz M kc ks := fun p e s m args below meth c H locs ls C hl hR hS => lv_if_gt C.1 C.2.1 hd ht (fun h => K1 h p e s m args below meth c H locs ls C hl hR hS) (fun h => K2 h p e s m args below meth c H locs ls C hl hR hS)
theorem x_if_le {x : Int32} {off : Int} (tgt : Nat) (hd : decode cc pc = .ok (.ifCond .le off, 3)) (ht : (pc : Int) + off = (tgt : Int)) (K1 : x ≤ 0 → x_V l D aC bs y cc nL rt rm Z tgt lv (st) sz M kc ks) (K2 : ¬ x ≤ 0 → x_V l D aC bs y cc nL rt rm Z (pc + 3) lv (st) sz M kc ks) : x_V l D aC bs y cc nL rt rm Z pc lv (.int x :: st) sz M kc ks := fun p e s m args below meth c H locs ls C hl hR hS => lv_if_le C.1 C.2.1 hd ht (fun h => K1 h p e s m args below meth c H locs ls C hl hR hS) (fun h => K2 h p e s m args below meth c H locs ls C hl hR hS)
theorem x_icmp_eq {x v : Int32} {off : Int} (tgt : Nat) (hd : decode cc pc = .ok (.if_icmp .eq off, 3)) (ht : (pc : Int) + off = (tgt : Int)) (K1 : x = v → x_V l D aC bs y cc nL rt rm Z tgt lv (st) sz M kc ks) (K2 : ¬ x = v → x_V l D aC bs y cc nL rt rm Z (pc + 3) lv (st) sz M kc ks) : x_V l D aC bs y cc nL rt rm Z pc lv (.int v :: .int x :: st) sz M kc ks := fun p e s m args below meth c H locs ls C hl hR hS => lv_icmp_eq C.1 C.2.1 hd ht (fun h => K1 h p e s m args below meth c H locs ls C hl hR hS) (fun h => K2 h p e s m args below meth c H locs ls C hl hR hS)
theorem x_icmp_ne {x v : Int32} {off : Int} (tgt : Nat) (hd : decode cc pc = .ok (.if_icmp .ne off, 3)) (ht : (pc : Int) + off = (tgt : Int)) (K1 : ¬ x = v → x_V l D aC bs y cc nL rt rm Z tgt lv (st) sz M kc ks) (K2 : x = v → x_V l D aC bs y cc nL rt rm Z (pc + 3) lv (st) sz M kc ks) : x_V l D aC bs y cc nL rt rm Z pc lv (.int v :: .int x :: st) sz M kc ks := fun p e s m args below meth c H locs ls C hl hR hS => lv_icmp_ne C.1 C.2.1 hd ht (fun h => K1 h p e s m args below meth c H locs ls C hl hR hS) (fun h => K2 h p e s m args below meth c H locs ls C hl hR hS)
theorem x_icmp_lt {x v : Int32} {off : Int} (tgt : Nat) (hd : decode cc pc = .ok (.if_icmp .lt off, 3)) (ht : (pc : Int) + off = (tgt : Int)) (K1 : x < v → x_V l D aC bs y cc nL rt rm Z tgt lv (st) sz M kc ks) (K2 : ¬ x < v → x_V l D aC bs y cc nL rt rm Z (pc + 3) lv (st) sz M kc ks) : x_V l D aC bs y cc nL rt rm Z pc lv (.int v :: .int x :: st) sz M kc ks := fun p e s m args below meth c H locs ls C hl hR hS => lv_icmp_lt C.1 C.2.1 hd ht (fun h => K1 h p e s m args below meth c H locs ls C hl hR hS) (fun h => K2 h p e s m args below meth c H locs ls C hl hR hS)
theorem x_icmp_ge {x v : Int32} {off : Int} (tgt : Nat) (hd : decode cc pc = .ok (.if_icmp .ge off, 3)) (ht : (pc : Int) + off = (tgt : Int)) (K1 : v ≤ x → x_V l D aC bs y cc nL rt rm Z tgt lv (st) sz M kc ks) (K2 : ¬ v ≤ x → x_V l D aC bs y cc nL rt rm Z (pc + 3) lv (st) sz M kc ks) : x_V l D aC bs y cc nL rt rm Z pc lv (.int v :: .int x :: st) sz M kc ks := fun p e s m args below meth c H locs ls C hl hR hS => lv_icmp_ge C.1 C.2.1 hd ht (fun h => K1 h p e s m args below meth c H locs ls C hl hR hS) (fun h => K2 h p e s m args below meth c H locs ls C hl hR hS)
theorem x_icmp_gt {x v : Int32} {off : Int} (tgt : Nat) (hd : decode cc pc = .ok (.if_icmp .gt off, 3)) (ht : (pc : Int) + off = (tgt : Int)) (K1 : v < x → x_V l D aC bs y cc nL rt rm Z tgt lv (st) sz M kc ks) (K2 : ¬ v < x → x_V l D aC bs y cc nL rt rm Z (pc + 3) lv (st) sz M kc ks) : x_V l D aC bs y cc nL rt rm Z pc lv (.int v :: .int x :: st) sz M kc ks := fun p e s m args below meth c H locs ls C hl hR hS => lv_icmp_gt C.1 C.2.1 hd ht (fun h => K1 h p e s m args below meth c H locs ls C hl hR hS) (fun h => K2 h p e s m args below meth c H locs ls C hl hR hS)
theorem x_icmp_le {x v : Int32} {off : Int} (tgt : Nat) (hd : decode cc pc = .ok (.if_icmp .le off, 3)) (ht : (pc : Int) + off = (tgt : Int)) (K1 : x ≤ v → x_V l D aC bs y cc nL rt rm Z tgt lv (st) sz M kc ks) (K2 : ¬ x ≤ v → x_V l D aC bs y cc nL rt rm Z (pc + 3) lv (st) sz M kc ks) : x_V l D aC bs y cc nL rt rm Z pc lv (.int v :: .int x :: st) sz M kc ks := fun p e s m args below meth c H locs ls C hl hR hS => lv_icmp_le C.1 C.2.1 hd ht (fun h => K1 h p e s m args below meth c H locs ls C hl hR hS) (fun h => K2 h p e s m args below meth c H locs ls C hl hR hS)
theorem x_goto {off : Int} (tgt : Nat) (hd : decode cc pc = .ok (.goto off, 3)) (ht : (pc : Int) + off = (tgt : Int)) (K : x_V l D aC bs y cc nL rt rm Z tgt lv (st) sz M kc ks) : x_V l D aC bs y cc nL rt rm Z pc lv (st) sz M kc ks := fun p e s m args below meth c H locs ls C hl hR hS => lv_goto C.1 C.2.1 hd ht (K p e s m args below meth c H locs ls C hl hR hS)
theorem x_tabIn {dflt lo hi : Int} {offs : Array Int} {len : Nat} {x : Int32} {off : Int} (k : Int) (tgt : Nat) (hd : decode cc pc = .ok (.tableswitch dflt lo hi offs, len)) (hx : x.toInt = k) (h1 : ¬ k < lo) (h2 : ¬ hi < k) (ho : offs[(k - lo).toNat]? = some off) (ht : (pc : Int) + off = (tgt : Int)) (K : x_V l D aC bs y cc nL rt rm Z tgt lv (st) sz M kc ks) : x_V l D aC bs y cc nL rt rm Z pc lv (.int x :: st) sz M kc ks := fun p e s m args below meth c H locs ls C hl hR hS => lv_tableIn C.1 C.2.1 hd (by rw [hx]; exact h1) (by rw [hx]; exact h2) (by rw [hx]; exact ho) ht (K p e s m args below meth c H locs ls C hl hR hS)
theorem x_tabOut {dflt lo hi : Int} {offs : Array Int} {len : Nat} {x : Int32} (tgt : Nat) (hd : decode cc pc = .ok (.tableswitch dflt lo hi offs, len)) (h : x.toInt < lo ∨ hi < x.toInt) (ht : (pc : Int) + dflt = (tgt : Int)) (K : x_V l D aC bs y cc nL rt rm Z tgt lv (st) sz M kc ks) : x_V l D aC bs y cc nL rt rm Z pc lv (.int x :: st) sz M kc ks := fun p e s m args below meth c H locs ls C hl hR hS => lv_tableOut C.1 C.2.1 hd h ht (K p e s m args below meth c H locs ls C hl hR hS)
theorem x_lkup {dflt : Int} {ps : Array (Int × Int)} {len : Nat} {x : Int32} {off : Int} (tgt : Nat) (hd : decode cc pc = .ok (.lookupswitch dflt ps, len)) (hp : (ps.toList.zip (ps.toList.drop 1)).all (fun (a, next) => a.1 < next.1) = true) (ho : Op.lookupswitch.offset ps.toList dflt x.toInt = off) (ht : (pc : Int) + off = (tgt : Int)) (K : x_V l D aC bs y cc nL rt rm Z tgt lv (st) sz M kc ks) : x_V l D aC bs y cc nL rt rm Z pc lv (.int x :: st) sz M kc ks := fun p e s m args below meth c H locs ls C hl hR hS => lv_lookup C.1 C.2.1 hd hp ho ht (K p e s m args below meth c H locs ls C hl hR hS)
theorem x_sub (ks2 : List Nat) {lv2 : List (Nat × Value)} (hq : lv_pick lv ks2 = lv2) (K : x_V l D aC bs y cc nL rt rm Z pc lv2 (st) sz M kc ks) : x_V l D aC bs y cc nL rt rm Z pc lv (st) sz M kc ks := fun p e s m args below meth c H locs ls C hl hR hS => K p e s m args below meth c H locs ls C (lv_sub hl ks2 hq) hR hS
end XROW
end
section
-- WHAT THE MEMORY HOLDS: reads and writes that may fail
def x_gI (M : XM) (a ci k : Nat) : Option Int32 := match M a with
  | some (.inr (c, fs)) => if c = ci then (match fs[k]? with | some (.int v) => some v | _ => none) else none
  | _ => none
def x_gR (M : XM) (a ci k : Nat) : Option Nat := match M a with
  | some (.inr (c, fs)) => if c = ci then (match fs[k]? with | some (.ref v) => some v | _ => none) else none
  | _ => none
def x_ob (M : XM) (a ci : Nat) : Option Unit := match M a with
  | some (.inr (c, _)) => if c = ci then some () else none
  | _ => none
def x_in (i : Int32) (n : Nat) : Bool := !(decide (i < 0)) && decide (i.toNatClampNeg < n)
def x_a32 (ty : FieldType) (M : XM) (a : Nat) (i : Int32) : Option Int32 := match M a with
  | some (.inl (t, n, .inl f)) => if t = ty then (if x_in i n = true then some (f i.toNatClampNeg) else none) else none
  | _ => none
def x_a64 (M : XM) (a : Nat) (i : Int32) : Option Int64 := match M a with
  | some (.inl (t, n, .inr (.inl f))) => if t = .long then (if x_in i n = true then some (f i.toNatClampNeg) else none) else none
  | _ => none
def x_aQ (ty : FieldType) (M : XM) (a : Nat) (i : Int32) : Option Nat := match M a with
  | some (.inl (t, n, .inr (.inr (.inr (.inr f))))) => if t = ty then (if x_in i n = true then f i.toNatClampNeg else none) else none
  | _ => none
def x_len (ty : FieldType) (M : XM) (a : Nat) : Option Int32 := match M a with
  | some (.inl (t, n, _)) => if t = ty then some (Int32.ofNat n) else none
  | _ => none
def x_w32 (ty : FieldType) (M : XM) (a : Nat) (i v : Int32) : Option XM := match M a with
  | some (.inl (t, n, .inl f)) => if t = ty then (if x_in i n = true then some (x_up M a (.inl (t, n, .inl (upd f i.toNatClampNeg v)))) else none) else none
  | _ => none
def x_w64 (M : XM) (a : Nat) (i : Int32) (v : Int64) : Option XM := match M a with
  | some (.inl (t, n, .inr (.inl f))) => if t = .long then (if x_in i n = true then some (x_up M a (.inl (t, n, .inr (.inl (vp_updL f i.toNatClampNeg v))))) else none) else none
  | _ => none
def x_wQ (ty : FieldType) (M : XM) (a : Nat) (i : Int32) (v : Nat) : Option XM := match M a with
  | some (.inl (t, n, .inr (.inr (.inr (.inr f))))) => if t = ty then (if x_in i n = true then some (x_up M a (.inl (t, n, .inr (.inr (.inr (.inr (va_up f i.toNatClampNeg (some v)))))))) else none) else none
  | _ => none
def x_put (M : XM) (a ci k : Nat) (v : Value) : Option XM := match M a with
  | some (.inr (c, fs)) => if c = ci then (if k < fs.length then some (x_up M a (.inr (c, fs.set k v))) else none) else none
  | _ => none
def x_01 (v : Int32) : Option Unit := if v = 0 ∨ v = 1 then some () else none
def x_n0 (v : Int32) : Option Unit := if v = 0 then none else some ()
def x_n0L (v : Int64) : Option Unit := if v = 0 then none else some ()
def x_le (a b : Nat) : Option Unit := if a ≤ b then some () else none
def x_cpI (M : XM) (a : Nat) (sp : Int32) (b : Nat) (dp n : Int32) : Option XM := match M a with
  | some (.inl (.int, n0, .inl f)) => (match M b with
    | some (.inl (.int, n1, .inl g)) => if ¬ sp < 0 ∧ ¬ dp < 0 ∧ ¬ n < 0 ∧ sp.toNatClampNeg + n.toNatClampNeg ≤ n0 ∧ dp.toNatClampNeg + n.toNatClampNeg ≤ n1 then some (x_up M b (.inl (.int, n1, .inl (va_cpy f g sp.toNatClampNeg dp.toNatClampNeg n.toNatClampNeg)))) else none
    | _ => none)
  | _ => none
def x_cpL (M : XM) (a : Nat) (sp : Int32) (b : Nat) (dp n : Int32) : Option XM := match M a with
  | some (.inl (.long, n0, .inr (.inl f))) => (match M b with
    | some (.inl (.long, n1, .inr (.inl g))) => if ¬ sp < 0 ∧ ¬ dp < 0 ∧ ¬ n < 0 ∧ sp.toNatClampNeg + n.toNatClampNeg ≤ n0 ∧ dp.toNatClampNeg + n.toNatClampNeg ≤ n1 then some (x_up M b (.inl (.long, n1, .inr (.inl (va_cpy f g sp.toNatClampNeg dp.toNatClampNeg n.toNatClampNeg))))) else none
    | _ => none)
  | _ => none
theorem x_in_vp {i : Int32} {n : Nat} (h : x_in i n = true) : vp_in i n := by
  simp only [x_in, Bool.and_eq_true, Bool.not_eq_true', decide_eq_false_iff_not, decide_eq_true_eq] at h
  rintro (h1 | h1)
  · exact h.1 h1
  · omega
theorem x_gI_sp {M : XM} {a ci k : Nat} {v : Int32} (h : x_gI M a ci k = some v) : ∃ fs : List Value, M a = some (.inr (ci, fs)) ∧ fs[k]? = some (.int v) := by
  unfold x_gI at h
  split at h
  · rename_i c fs hM
    split at h
    · rename_i hc
      subst hc
      split at h
      · rename_i w hw
        cases h
        exact ⟨fs, hM, hw⟩
      · cases h
    · cases h
  · cases h
theorem x_gR_sp {M : XM} {a ci k v : Nat} (h : x_gR M a ci k = some v) : ∃ fs : List Value, M a = some (.inr (ci, fs)) ∧ fs[k]? = some (.ref v) := by
  unfold x_gR at h
  split at h
  · rename_i c fs hM
    split at h
    · rename_i hc
      subst hc
      split at h
      · rename_i w hw
        cases h
        exact ⟨fs, hM, hw⟩
      · cases h
    · cases h
  · cases h
theorem x_ob_sp {M : XM} {a ci : Nat} {u : Unit} (h : x_ob M a ci = some u) : ∃ fs : List Value, M a = some (.inr (ci, fs)) := by
  unfold x_ob at h
  split at h
  · rename_i c fs hM
    split at h
    · rename_i hc
      subst hc
      exact ⟨fs, hM⟩
    · cases h
  · cases h
theorem x_put_sp {M M' : XM} {a ci k : Nat} {v : Value} (h : x_put M a ci k v = some M') : ∃ fs : List Value, M a = some (.inr (ci, fs)) ∧ k < fs.length ∧ M' = x_up M a (.inr (ci, fs.set k v)) := by
  unfold x_put at h
  split at h
  · rename_i c fs hM
    split at h
    · rename_i hc
      subst hc
      split at h
      · rename_i hk
        cases h
        exact ⟨fs, hM, hk, rfl⟩
      · cases h
    · cases h
  · cases h
theorem x_a32_sp {ty : FieldType} {M : XM} {a : Nat} {i v : Int32} (h : x_a32 ty M a i = some v) : ∃ (n : Nat) (f : Nat → Int32), M a = some (.inl (ty, n, .inl f)) ∧ vp_in i n ∧ v = f i.toNatClampNeg := by
  unfold x_a32 at h
  split at h
  · rename_i t n f hM
    split at h
    · rename_i hc
      subst hc
      split at h
      · rename_i hi
        cases h
        exact ⟨n, f, hM, x_in_vp hi, rfl⟩
      · cases h
    · cases h
  · cases h
theorem x_a64_sp {M : XM} {a : Nat} {i : Int32} {v : Int64} (h : x_a64 M a i = some v) : ∃ (n : Nat) (f : Nat → Int64), M a = some (.inl (.long, n, .inr (.inl f))) ∧ vp_in i n ∧ v = f i.toNatClampNeg := by
  unfold x_a64 at h
  split at h
  · rename_i t n f hM
    split at h
    · rename_i hc
      subst hc
      split at h
      · rename_i hi
        cases h
        exact ⟨n, f, hM, x_in_vp hi, rfl⟩
      · cases h
    · cases h
  · cases h
theorem x_aQ_sp {ty : FieldType} {M : XM} {a : Nat} {i : Int32} {v : Nat} (h : x_aQ ty M a i = some v) : ∃ (n : Nat) (f : Nat → Option Nat), M a = some (.inl (ty, n, .inr (.inr (.inr (.inr f))))) ∧ vp_in i n ∧ f i.toNatClampNeg = some v := by
  unfold x_aQ at h
  split at h
  · rename_i t n f hM
    split at h
    · rename_i hc
      subst hc
      split at h
      · rename_i hi
        exact ⟨n, f, hM, x_in_vp hi, h⟩
      · cases h
    · cases h
  · cases h
theorem x_len_sp {ty : FieldType} {M : XM} {a : Nat} {v : Int32} (h : x_len ty M a = some v) : ∃ q : vp_A, M a = some (.inl (ty, q)) ∧ Int32.ofNat q.1 = v := by
  unfold x_len at h
  split at h
  · rename_i t n q hM
    split at h
    · rename_i hc
      subst hc
      cases h
      exact ⟨(n, q), hM, rfl⟩
    · cases h
  · cases h
theorem x_w32_sp {ty : FieldType} {M M' : XM} {a : Nat} {i v : Int32} (h : x_w32 ty M a i v = some M') : ∃ (n : Nat) (f : Nat → Int32), M a = some (.inl (ty, n, .inl f)) ∧ vp_in i n ∧ M' = x_up M a (.inl (ty, n, .inl (upd f i.toNatClampNeg v))) := by
  unfold x_w32 at h
  split at h
  · rename_i t n f hM
    split at h
    · rename_i hc
      subst hc
      split at h
      · rename_i hi
        cases h
        exact ⟨n, f, hM, x_in_vp hi, rfl⟩
      · cases h
    · cases h
  · cases h
theorem x_w64_sp {M M' : XM} {a : Nat} {i : Int32} {v : Int64} (h : x_w64 M a i v = some M') : ∃ (n : Nat) (f : Nat → Int64), M a = some (.inl (.long, n, .inr (.inl f))) ∧ vp_in i n ∧ M' = x_up M a (.inl (.long, n, .inr (.inl (vp_updL f i.toNatClampNeg v)))) := by
  unfold x_w64 at h
  split at h
  · rename_i t n f hM
    split at h
    · rename_i hc
      subst hc
      split at h
      · rename_i hi
        cases h
        exact ⟨n, f, hM, x_in_vp hi, rfl⟩
      · cases h
    · cases h
  · cases h
theorem x_wQ_sp {ty : FieldType} {M M' : XM} {a : Nat} {i : Int32} {v : Nat} (h : x_wQ ty M a i v = some M') : ∃ (n : Nat) (f : Nat → Option Nat), M a = some (.inl (ty, n, .inr (.inr (.inr (.inr f))))) ∧ vp_in i n ∧ M' = x_up M a (.inl (ty, n, .inr (.inr (.inr (.inr (va_up f i.toNatClampNeg (some v))))))) := by
  unfold x_wQ at h
  split at h
  · rename_i t n f hM
    split at h
    · rename_i hc
      subst hc
      split at h
      · rename_i hi
        cases h
        exact ⟨n, f, hM, x_in_vp hi, rfl⟩
      · cases h
    · cases h
  · cases h
theorem x_cpI_sp {M M' : XM} {a b : Nat} {sp dp n : Int32} (h : x_cpI M a sp b dp n = some M') : ∃ (n0 n1 : Nat) (f g : Nat → Int32), M a = some (.inl (.int, n0, .inl f)) ∧ M b = some (.inl (.int, n1, .inl g)) ∧ (¬ sp < 0 ∧ ¬ dp < 0 ∧ ¬ n < 0 ∧ sp.toNatClampNeg + n.toNatClampNeg ≤ n0 ∧ dp.toNatClampNeg + n.toNatClampNeg ≤ n1) ∧ M' = x_up M b (.inl (.int, n1, .inl (va_cpy f g sp.toNatClampNeg dp.toNatClampNeg n.toNatClampNeg))) := by
  unfold x_cpI at h
  split at h
  · rename_i n0 f hM
    split at h
    · rename_i n1 g hM1
      split at h
      · rename_i hc
        cases h
        exact ⟨n0, n1, f, g, hM, hM1, hc, rfl⟩
      · cases h
    · cases h
  · cases h
theorem x_cpL_sp {M M' : XM} {a b : Nat} {sp dp n : Int32} (h : x_cpL M a sp b dp n = some M') : ∃ (n0 n1 : Nat) (f g : Nat → Int64), M a = some (.inl (.long, n0, .inr (.inl f))) ∧ M b = some (.inl (.long, n1, .inr (.inl g))) ∧ (¬ sp < 0 ∧ ¬ dp < 0 ∧ ¬ n < 0 ∧ sp.toNatClampNeg + n.toNatClampNeg ≤ n0 ∧ dp.toNatClampNeg + n.toNatClampNeg ≤ n1) ∧ M' = x_up M b (.inl (.long, n1, .inr (.inl (va_cpy f g sp.toNatClampNeg dp.toNatClampNeg n.toNatClampNeg)))) := by
  unfold x_cpL at h
  split at h
  · rename_i n0 f hM
    split at h
    · rename_i n1 g hM1
      split at h
      · rename_i hc
        cases h
        exact ⟨n0, n1, f, g, hM, hM1, hc, rfl⟩
      · cases h
    · cases h
  · cases h
theorem x_01_sp {v : Int32} {u : Unit} (h : x_01 v = some u) : v = 0 ∨ v = 1 := by
  unfold x_01 at h
  split at h
  · assumption
  · cases h
theorem x_n0_sp {v : Int32} {u : Unit} (h : x_n0 v = some u) : ¬ v = 0 := by
  unfold x_n0 at h
  split at h
  · cases h
  · assumption
theorem x_n0L_sp {v : Int64} {u : Unit} (h : x_n0L v = some u) : ¬ v = 0 := by
  unfold x_n0L at h
  split at h
  · cases h
  · assumption
theorem x_le_sp {a b : Nat} {u : Unit} (h : x_le a b = some u) : a ≤ b := by
  unfold x_le at h
  split at h
  · assumption
  · cases h
-- a loop, by fuel
def x_it {α β : Type} (b : (α → Option β) → α → Option β) : Nat → α → Option β
  | 0 => fun _ => none
  | n + 1 => b (x_it b n)
theorem x_loop {α β : Type} {b : (α → Option β) → α → Option β} {P : α → β → Prop} (hb : ∀ k : α → Option β, (∀ a r, k a = some r → P a r) → ∀ a r, b k a = some r → P a r) : ∀ (n : Nat) (a : α) (r : β), x_it b n a = some r → P a r
  | 0, _, _, h => by cases h
  | n + 1, a, r, h => hb (x_it b n) (x_loop hb n) a r h
theorem x_bd {α β : Type} {x : Option α} {f : α → Option β} {r : β} (h : x.bind f = some r) : ∃ a, x = some a ∧ f a = some r := Option.bind_eq_some_iff.mp h
end
section
section XMEM
variable {l : Launch} {D : va_G} {aC : FieldType → ClassId} {bs : Nat} {y : MethodName} {cc : ByteArray} {nL : Nat} {rt : Option FieldType} {rm : Room} {Z : List Frame → Array Value → State → State → Prop} {pc : Nat} {lv : List (Nat × Value)} {st : List Value} {sz : Nat} {M M2 : XM} {kc ks : Nat}
/-- what the tables say of a class of objects -/
def x_Cl (ci : Nat) (C : String) (T : u_T) (N : Nat) (ty : Nat → FieldType) : Prop := vwCl[ci]? = some (C, T, N) ∧ (∀ w ∈ u_ws C T N, w ∈ x_tbl) ∧ (∀ k, k < N → parseFieldDescriptor (T k).2.2.1 = some (ty k)) ∧ (∀ a, a < N → ∀ b, b < N → a ≠ b → (T a).2.1 ≠ (T b).2.1)
theorem x_getI {ci k i a N : Nat} {C : String} {T : u_T} {ty : Nat → FieldType} {v : Int32} (hC : x_Cl ci C T N ty) (hw : Cond.fieldLink y.cls i (T k).1 (T k).2.1 (T k).2.2.1 ∈ x_tbl) (hk : k < N) (hd : decode cc pc = .ok (.getfield i, 3)) (hv : x_gI M a ci k = some v)
    (K : x_V l D aC bs y cc nL rt rm Z (pc + 3) lv (.int v :: st) sz M kc ks) : x_V l D aC bs y cc nL rt rm Z pc lv (.ref a :: st) sz M kc ks := by
  intro p e s m args below meth c H locs ls X hl hR hS
  obtain ⟨fs, h1, h2⟩ := x_gI_sp hv
  exact va_get (D := D) (ci := ci) (v := .int v) (C := C) (T := T) (N := N) X.1 X.2.1 X.2.2.2.2.2.1 hC.2.1 X.2.2.2.2.1 X.2.2.2.2.2.2.2.2.1.1 (hR.get h1) 0 rfl hC.1 k hk (X.2.2.2.2.2.1 _ hw) (fun _ h9 => h9) h2 hd (K p e s m args below meth c H locs ls X hl hR hS)
theorem x_getR {ci k i a N b : Nat} {C : String} {T : u_T} {ty : Nat → FieldType} (hC : x_Cl ci C T N ty) (hw : Cond.fieldLink y.cls i (T k).1 (T k).2.1 (T k).2.2.1 ∈ x_tbl) (hk : k < N) (hd : decode cc pc = .ok (.getfield i, 3)) (hv : x_gR M a ci k = some b)
    (K : x_V l D aC bs y cc nL rt rm Z (pc + 3) lv (.ref b :: st) sz M kc ks) : x_V l D aC bs y cc nL rt rm Z pc lv (.ref a :: st) sz M kc ks := by
  intro p e s m args below meth c H locs ls X hl hR hS
  obtain ⟨fs, h1, h2⟩ := x_gR_sp hv
  exact va_get (D := D) (ci := ci) (v := .ref b) (C := C) (T := T) (N := N) X.1 X.2.1 X.2.2.2.2.2.1 hC.2.1 X.2.2.2.2.1 X.2.2.2.2.2.2.2.2.1.1 (hR.get h1) 0 rfl hC.1 k hk (X.2.2.2.2.2.1 _ hw) (fun _ h9 => h9) h2 hd (K p e s m args below meth c H locs ls X hl hR hS)
theorem x_putV {ci k i a N : Nat} {C : String} {T : u_T} {ty : Nat → FieldType} {v : Value} (hC : x_Cl ci C T N ty) (hw : Cond.fieldLink y.cls i (T k).1 (T k).2.1 (T k).2.2.1 ∈ x_tbl) (hk : k < N) (hf : (T k).2.2.2 = false) (hn : narrow (ty k) v = v) (hfit : fits (ty k) v = true) (hd : decode cc pc = .ok (.putfield i, 3)) (hv : x_put M a ci k v = some M2)
    (K : x_V l D aC bs y cc nL rt rm Z (pc + 3) lv st sz M2 kc ks) : x_V l D aC bs y cc nL rt rm Z pc lv (v :: .ref a :: st) sz M kc ks := by
  intro p e s m args below meth c H locs ls X hl hR hS
  obtain ⟨fs, g1, hlen, rfl⟩ := x_put_sp hv
  have hts := X.2.2.2.2.2.1
  have hK := X.2.2.2.2.2.2.2.2.1.1
  have hap := va_apart (own := y.cls) hts hC.2.1 ty hC.2.2.1 hC.2.2.2 hK hC.1
  obtain ⟨r, h1, cell, q1, q2, q3, q4⟩ := (hR.2.2 a _ g1).2
  have hr : r = (C, T, N) := Option.some.inj (h1.symm.trans hC.1)
  subst hr
  obtain ⟨hSl, hfc, kC, hkC, hkind⟩ := hK.1 ci _ hC.1
  obtain ⟨cf, kf, fi, f, hi, hsl⟩ := hSl k hk
  have hlay := hts _ (hC.2.1 _ (u_in_lay hk))
  unfold u_lay at hlay
  rw [if_neg (by rw [hf]; decide)] at hlay
  have hst := (u_facts hfc hkC (u_lays hts hC.2.1 hk) hi).1
  have h6 := u_store hfc hkC hkind hlay hi (hC.2.2.1 k hk) hn hfit
  refine W.putK X.1 X.2.1 (f := f) ⟨X.2.2.2.2.1, hts _ hw, ⟨_, _, _, hi⟩, hst⟩ (by rw [q2]; exact h6) q1 q3 (by rw [hsl]; exact k2_hasslot (q4 k hk)) rfl rfl hd fun H' e1 e2 e3 => ?_
  rw [hsl] at e1 ⊢
  exact K p e s m args below meth c H' _ ls X hl (hR.put (hR.2.2 a _ g1).1 ⟨_, hC.1, t_OB.to (V := updV (vp_V fs) k v) ⟨_, e1, q2, q3, t_set q4 hap hk v⟩ (fun j _ => vp_updV_set hlen v j)⟩ e2 e3) (hS.put e2 e3 (hR.2.2 a _ g1).1)
theorem x_putF {ci k i a N : Nat} {C : String} {T : u_T} {ty : Nat → FieldType} {v : Value} (hC : x_Cl ci C T N ty) (hw : Cond.fieldLink y.cls i (T k).1 (T k).2.1 (T k).2.2.1 ∈ x_tbl) (hk : k < N) (hf : (T k).2.2.2 = true) (hin : y.name = "<init>") (hdecl : (T k).1 = y.cls) (hn : narrow (ty k) v = v) (hfit : fits (ty k) v = true) (hd : decode cc pc = .ok (.putfield i, 3)) (hv : x_put M a ci k v = some M2)
    (K : x_V l D aC bs y cc nL rt rm Z (pc + 3) lv st sz M2 kc ks) : x_V l D aC bs y cc nL rt rm Z pc lv (v :: .ref a :: st) sz M kc ks := by
  intro p e s m args below meth c H locs ls X hl hR hS
  obtain ⟨fs, g1, hlen, rfl⟩ := x_put_sp hv
  have hts := X.2.2.2.2.2.1
  have hown := X.2.2.2.2.1
  have hK := X.2.2.2.2.2.2.2.2.1.1
  have hap := va_apart (own := y.cls) hts hC.2.1 ty hC.2.2.1 hC.2.2.2 hK hC.1
  obtain ⟨r, h1, cell, q1, q2, q3, q4⟩ := (hR.2.2 a _ g1).2
  have hr : r = (C, T, N) := Option.some.inj (h1.symm.trans hC.1)
  subst hr
  obtain ⟨hSl, hfc, kC, hkC, hkind⟩ := hK.1 ci _ hC.1
  obtain ⟨cf, kf, fi, f, hi, hsl⟩ := hSl k hk
  have hlay := hts _ (hC.2.1 _ (u_in_lay hk))
  unfold u_lay at hlay
  rw [if_pos hf] at hlay
  have hst := (u_facts hfc hkC (u_lays hts hC.2.1 hk) hi).1
  have hcf : m.cls = cf := by
    obtain ⟨_, _, c', _, _, _, -, -, hf', -, -, -, hown2, -⟩ := Cond.laysFinal_spec hlay
    have e1 : c' = cf := by have := hi.symm.trans hf'; simp at this; exact this.1.symm
    rw [hdecl] at hown2
    rw [← e1]; exact Option.some.inj (hown.symm.trans hown2)
  have h6 := u_fits hfc hkC hkind (Or.inr hlay) hi (hC.2.2.1 k hk) hn hfit
  refine W.putFinK X.1 X.2.1 hown (hts _ hw) hi hst hcf (X.2.2.2.2.2.2.2.1 hin) (by rw [q2]; exact h6) q1 q3 (by rw [hsl]; exact k2_hasslot (q4 k hk)) rfl rfl hd fun H' e1 e2 e3 => ?_
  rw [hsl] at e1 ⊢
  exact K p e s m args below meth c H' _ ls X hl (hR.put (hR.2.2 a _ g1).1 ⟨_, hC.1, t_OB.to (V := updV (vp_V fs) k v) ⟨_, e1, q2, q3, t_set q4 hap hk v⟩ (fun j _ => vp_updV_set hlen v j)⟩ e2 e3) (hS.put e2 e3 (hR.2.2 a _ g1).1)
-- arrays
theorem x_iald {a : Nat} {i v : Int32} (hd : decode cc pc = .ok (.iaload, 1)) (hv : x_a32 .int M a i = some v) (K : x_V l D aC bs y cc nL rt rm Z (pc + 1) lv (.int v :: st) sz M kc ks) : x_V l D aC bs y cc nL rt rm Z pc lv (.int i :: .ref a :: st) sz M kc ks := by
  intro p e s m args below meth c H locs ls X hl hR hS
  obtain ⟨n, f, h1, h2, rfl⟩ := x_a32_sp hv
  exact va_iald X.1 X.2.1 X.2.2.2.2.2.2.2.2.1.1 (hR.get h1) 0 0 (cA := aC .int) rfl rfl h2 hd (K p e s m args below meth c H locs ls X hl hR hS)
theorem x_bald {a : Nat} {i v : Int32} (hd : decode cc pc = .ok (.baload, 1)) (hv : x_a32 .byte M a i = some v) (K : x_V l D aC bs y cc nL rt rm Z (pc + 1) lv (.int v :: st) sz M kc ks) : x_V l D aC bs y cc nL rt rm Z pc lv (.int i :: .ref a :: st) sz M kc ks := by
  intro p e s m args below meth c H locs ls X hl hR hS
  obtain ⟨n, f, h1, h2, rfl⟩ := x_a32_sp hv
  exact va_bald X.1 X.2.1 X.2.2.2.2.2.2.2.2.1.1 (hR.get h1) 0 2 (cA := aC .byte) rfl rfl h2 hd (K p e s m args below meth c H locs ls X hl hR hS)
theorem x_zald {a : Nat} {i v : Int32} (hd : decode cc pc = .ok (.baload, 1)) (hv : x_a32 .boolean M a i = some v) (K : x_V l D aC bs y cc nL rt rm Z (pc + 1) lv (.int v :: st) sz M kc ks) : x_V l D aC bs y cc nL rt rm Z pc lv (.int i :: .ref a :: st) sz M kc ks := by
  intro p e s m args below meth c H locs ls X hl hR hS
  obtain ⟨n, f, h1, h2, rfl⟩ := x_a32_sp hv
  exact va_zald X.1 X.2.1 X.2.2.2.2.2.2.2.2.1.1 (hR.get h1) 0 3 (cA := aC .boolean) rfl rfl h2 hd (K p e s m args below meth c H locs ls X hl hR hS)
theorem x_lald {a : Nat} {i : Int32} {v : Int64} (hd : decode cc pc = .ok (.laload, 1)) (hv : x_a64 M a i = some v) (K : x_V l D aC bs y cc nL rt rm Z (pc + 1) lv (.long v :: st) sz M kc ks) : x_V l D aC bs y cc nL rt rm Z pc lv (.int i :: .ref a :: st) sz M kc ks := by
  intro p e s m args below meth c H locs ls X hl hR hS
  obtain ⟨n, f, h1, h2, rfl⟩ := x_a64_sp hv
  exact va_lald X.1 X.2.1 X.2.2.2.2.2.2.2.2.1.1 (hR.get h1) 0 1 (cA := aC .long) rfl rfl h2 hd (K p e s m args below meth c H locs ls X hl hR hS)
theorem x_aald {a b t0 : Nat} {i : Int32} {C : String} (ht : (x_tys aC)[t0]? = some (aC (.object C), .object C)) (hd : decode cc pc = .ok (.aaload, 1)) (hv : x_aQ (.object C) M a i = some b) (K : x_V l D aC bs y cc nL rt rm Z (pc + 1) lv (.ref b :: st) sz M kc ks) : x_V l D aC bs y cc nL rt rm Z pc lv (.int i :: .ref a :: st) sz M kc ks := by
  intro p e s m args below meth c H locs ls X hl hR hS
  obtain ⟨n, f, h1, h2, h3⟩ := x_aQ_sp hv
  refine va_aldq X.1 X.2.1 X.2.2.2.2.2.2.2.2.1.1 (hR.get h1) 0 t0 (cA := aC (.object C)) rfl ht h2 hd ?_
  rw [h3]
  exact K p e s m args below meth c H locs ls X hl hR hS
theorem x_alen {a t0 : Nat} {v : Int32} {ty : FieldType} (ht : (x_tys aC)[t0]? = some (aC ty, ty)) (hd : decode cc pc = .ok (.arraylength, 1)) (hv : x_len ty M a = some v) (K : x_V l D aC bs y cc nL rt rm Z (pc + 1) lv (.int v :: st) sz M kc ks) : x_V l D aC bs y cc nL rt rm Z pc lv (.ref a :: st) sz M kc ks := by
  intro p e s m args below meth c H locs ls X hl hR hS
  obtain ⟨q, h1, h2⟩ := x_len_sp hv
  exact va_alen X.1 X.2.1 X.2.2.2.2.2.2.2.2.1.1 (hR.get h1) 0 t0 (cA := aC ty) (x := q) rfl ht h2 hd (K p e s m args below meth c H locs ls X hl hR hS)
theorem x_iast {a : Nat} {i v : Int32} (hd : decode cc pc = .ok (.iastore, 1)) (hv : x_w32 .int M a i v = some M2) (K : x_V l D aC bs y cc nL rt rm Z (pc + 1) lv st sz M2 kc ks) : x_V l D aC bs y cc nL rt rm Z pc lv (.int v :: .int i :: .ref a :: st) sz M kc ks := by
  intro p e s m args below meth c H locs ls X hl hR hS
  obtain ⟨n, f, h1, h2, rfl⟩ := x_w32_sp hv
  have hK := X.2.2.2.2.2.2.2.2.1.1
  refine W.iast X.1 X.2.1 (hR.2.2 a _ h1).2 ((hK.2 0 _ rfl).1 n (fun j => .int (f j))) (fun q => by cases q) (by show ¬ (i < 0 ∨ (arrV _ _ _).slots.size ≤ _); rw [arrV_size]; exact h2) rfl rfl hd fun H1 e1 z oq => ?_
  refine K p e s m args below meth c H1 _ ls X hl (hR.put (hR.2.2 a _ h1).1 ?_ z oq) (hS.put z oq (hR.2.2 a _ h1).1)
  show H1[a]? = some (vp_cell _ _)
  rw [e1]
  rw [vp_cell_i, vp_cell_i, arrV_store]
  congr 2
  funext q
  by_cases hq : q = i.toNatClampNeg
  · subst hq
    simp [updV, upd]
  · simp [updV, upd, hq]
theorem x_bast {a : Nat} {i v : Int32} (hd : decode cc pc = .ok (.bastore, 1)) (hv : x_w32 .byte M a i (vp_nar .byte v) = some M2) (K : x_V l D aC bs y cc nL rt rm Z (pc + 1) lv st sz M2 kc ks) : x_V l D aC bs y cc nL rt rm Z pc lv (.int v :: .int i :: .ref a :: st) sz M kc ks := by
  intro p e s m args below meth c H locs ls X hl hR hS
  obtain ⟨n, f, h1, h2, rfl⟩ := x_w32_sp hv
  have hK := X.2.2.2.2.2.2.2.2.1.1
  refine W.bast X.1 X.2.1 (hR.2.2 a _ h1).2 ((hK.2 2 _ rfl).1 n (fun j => .int (f j))) (fun q => by cases q) (by show ¬ (i < 0 ∨ (arrV _ _ _).slots.size ≤ _); rw [arrV_size]; exact h2) rfl rfl hd fun H1 e1 z oq => ?_
  refine K p e s m args below meth c H1 _ ls X hl (hR.put (hR.2.2 a _ h1).1 ?_ z oq) (hS.put z oq (hR.2.2 a _ h1).1)
  show H1[a]? = some (vp_cell _ _)
  rw [e1]
  rw [vp_cell_i, vp_cell_i, arrV_store]
  congr 2
  funext q
  by_cases hq : q = i.toNatClampNeg
  · subst hq
    simp [updV, upd, vp_nar]
    try rfl
  · simp [updV, upd, hq]
theorem x_zast {a : Nat} {i v : Int32} (hd : decode cc pc = .ok (.bastore, 1)) (hv : x_w32 .boolean M a i (vp_nar .boolean v) = some M2) (K : x_V l D aC bs y cc nL rt rm Z (pc + 1) lv st sz M2 kc ks) : x_V l D aC bs y cc nL rt rm Z pc lv (.int v :: .int i :: .ref a :: st) sz M kc ks := by
  intro p e s m args below meth c H locs ls X hl hR hS
  obtain ⟨n, f, h1, h2, rfl⟩ := x_w32_sp hv
  have hK := X.2.2.2.2.2.2.2.2.1.1
  refine W.zast X.1 X.2.1 (hR.2.2 a _ h1).2 ((hK.2 3 _ rfl).1 n (fun j => .int (f j))) (fun q => by cases q) (by show ¬ (i < 0 ∨ (arrV _ _ _).slots.size ≤ _); rw [arrV_size]; exact h2) rfl rfl hd fun H1 e1 z oq => ?_
  refine K p e s m args below meth c H1 _ ls X hl (hR.put (hR.2.2 a _ h1).1 ?_ z oq) (hS.put z oq (hR.2.2 a _ h1).1)
  show H1[a]? = some (vp_cell _ _)
  rw [e1]
  rw [vp_cell_i, vp_cell_i, arrV_store]
  congr 2
  funext q
  by_cases hq : q = i.toNatClampNeg
  · subst hq
    simp [updV, upd, vp_nar]
    try rfl
  · simp [updV, upd, hq]
theorem x_last {a : Nat} {i : Int32} {v : Int64} (hd : decode cc pc = .ok (.lastore, 1)) (hv : x_w64 M a i v = some M2) (K : x_V l D aC bs y cc nL rt rm Z (pc + 1) lv st sz M2 kc ks) : x_V l D aC bs y cc nL rt rm Z pc lv (.long v :: .int i :: .ref a :: st) sz M kc ks := by
  intro p e s m args below meth c H locs ls X hl hR hS
  obtain ⟨n, f, h1, h2, rfl⟩ := x_w64_sp hv
  have hK := X.2.2.2.2.2.2.2.2.1.1
  refine W.last X.1 X.2.1 (hR.2.2 a _ h1).2 ((hK.2 1 _ rfl).1 n (fun j => .long (f j))) (fun q => by cases q) (by show ¬ (i < 0 ∨ (arrV _ _ _).slots.size ≤ _); rw [arrV_size]; exact h2) rfl rfl hd fun H1 e1 z oq => ?_
  refine K p e s m args below meth c H1 _ ls X hl (hR.put (hR.2.2 a _ h1).1 ?_ z oq) (hS.put z oq (hR.2.2 a _ h1).1)
  show H1[a]? = some (vp_cell _ _)
  rw [e1]
  rw [vp_cell_l, vp_cell_l, arrV_store]
  congr 2
  funext q
  by_cases hq : q = i.toNatClampNeg
  · subst hq
    simp [updV, vp_updL]
  · simp [updV, vp_updL, hq]
theorem x_aast {a b t0 ci N : Nat} {i : Int32} {C : String} {T : u_T} {ty : Nat → FieldType} {u : Unit} (hC : x_Cl ci C T N ty) (ht : (x_tys aC)[t0]? = some (aC (.object C), .object C)) (hd : decode cc pc = .ok (.aastore, 1)) (hb : x_ob M b ci = some u) (hv : x_wQ (.object C) M a i b = some M2) (K : x_V l D aC bs y cc nL rt rm Z (pc + 1) lv st sz M2 kc ks) : x_V l D aC bs y cc nL rt rm Z pc lv (.ref b :: .int i :: .ref a :: st) sz M kc ks := by
  intro p e s m args below meth c H locs ls X hl hR hS
  obtain ⟨n, f, h1, hin, rfl⟩ := x_wQ_sp hv
  obtain ⟨vs, hb1⟩ := x_ob_sp hb
  have hK := X.2.2.2.2.2.2.2.2.1.1
  have hlt : i.toNatClampNeg < n := Nat.not_le.mp fun q => hin (Or.inr q)
  have h0 : ¬ i < 0 := fun q => hin (Or.inl q)
  obtain ⟨r', hr', cellV, g1, g2, g3, -⟩ := (hR.2.2 b _ hb1).2
  have hcls := (hK.1 ci _ hC.1).2
  obtain ⟨kA, comp, k1, k2, k3, -⟩ := (hK.2 t0 _ ht).2
  have hcomp : comp = D.1 ci := Option.some.inj (k3.symm.trans hcls.1)
  subst hcomp
  obtain ⟨kC, hkC, -⟩ := hcls.2
  refine W.aast X.1 X.2.1 (hR.2.2 a _ h1).2 (fun q h => by cases h) (fun h => by cases h) k1 k2 rfl hkC ⟨h0, by show _ < (arrV _ _ _).slots.size; rw [arrV_size]; exact hlt⟩ g1 (fun q h => by rw [g3] at h; cases h) (by rw [g2]; exact hkC) (by rw [g2]; exact va_assign hcls) rfl rfl hd fun H1 e1 z oq => ?_
  refine K p e s m args below meth c H1 _ ls X hl (hR.put (hR.2.2 a _ h1).1 ?_ z oq) (hS.put z oq (hR.2.2 a _ h1).1)
  show H1[a]? = some (vp_cell _ _)
  rw [e1]
  rw [vp_cell_q, vp_cell_q, arrV_store]
  congr 2
  funext q
  by_cases hq : q = i.toNatClampNeg
  · subst hq
    simp [updV, va_up, va_rf]
  · simp [updV, va_up, hq]
end XMEM
end
section
section XNEW
variable {l : Launch} {D : va_G} {aC : FieldType → ClassId} {bs : Nat} {y : MethodName} {cc : ByteArray} {nL : Nat} {rt : Option FieldType} {rm : Room} {Z : List Frame → Array Value → State → State → Prop} {pc : Nat} {lv : List (Nat × Value)} {st : List Value} {sz : Nat} {M M2 : XM} {kc ks : Nat}
theorem x_S.push {bs : Nat} {H0 H H1 : Heap} {locs : List Loc} {sz : Nat} (h : va_S (fun q => bs ≤ q) H0 H locs) (hz : H.size = sz) (z : H1.size = sz + 1) (oq : ∀ q : Nat, q < sz → H1[q]? = H[q]?) : va_S (fun q => bs ≤ q) H0 H1 locs := by
  have h0 := h.1
  exact ⟨by omega, fun x h1 h2 => (oq x (by omega)).trans (h.2.1 x h1 h2), h.2.2⟩
theorem x_new {ci N i : Nat} {C : String} {T : u_T} {ty : Nat → FieldType} (fs : List Value) (hC : x_Cl ci C T N ty) (hw : Cond.classLink y.cls i C ∈ x_tbl) (hi : Cond.instantiable C N ∈ x_tbl) (hin : Cond.initialized C ∈ x_tbl) (hfs : ∀ j, j < N → defaultValue (ty j) = vp_V fs j) (hc : kc + 1 ≤ rm.cells) (hs : ks + N ≤ rm.slots) (hd : decode cc pc = .ok (.new i, 3))
    (K : x_V l D aC bs y cc nL rt rm Z (pc + 3) lv (.ref sz :: st) (sz + 1) (x_up M sz (.inr (ci, fs))) (kc + 1) (ks + N)) : x_V l D aC bs y cc nL rt rm Z pc lv st sz M kc ks := by
  intro p e s m args below meth c H locs ls X hl hR hS
  have hts := X.2.2.2.2.2.1
  have hKn := X.2.2.2.2.2.2.2.2.1.1.1 ci _ hC.1
  refine W.newcK X.1 X.2.1 X.2.2.2.2.1 (hts _ hw) (hts _ hi) (hts _ hin) rfl hd hc hs hKn.2.1 hR.1 fun H1 kC hkC e1 z1 o1 => ?_
  exact K p e s m args below meth c H1 _ ls X hl (hR.push ⟨_, hC.1, (u_born ty hts hC.2.1 hKn hkC e1 hC.2.2.1).to hfs⟩ z1 o1) (x_S.push hS hR.1 z1 o1)
theorem x_newI {n : Int32} (N B : Nat) (hw : Cond.arrayClass .int ∈ x_tbl) (hn : ¬ n < 0) (hN : n.toNatClampNeg = N) (hB : N ≤ B) (hB2 : B ≤ 1000000) (hc : kc + 1 ≤ rm.cells) (hs : ks + B ≤ rm.slots) (hd : decode cc pc = .ok (.newarray .int, 2))
    (K : x_V l D aC bs y cc nL rt rm Z (pc + 2) lv (.ref sz :: st) (sz + 1) (x_up M sz (.inl (.int, N, .inl (fun _ => 0)))) (kc + 1) (ks + B)) : x_V l D aC bs y cc nL rt rm Z pc lv (.int n :: st) sz M kc ks := by
  intro p e s m args below meth c H locs ls X hl hR hS
  have hK := X.2.2.2.2.2.2.2.2.1.1
  refine va_newaK (atype := .int) X.1 X.2.1 (X.2.2.2.2.2.1 _ hw) rfl hd rfl hn hN (by show N * 4 ≤ 536870912; omega) hc (by omega) hR.1 fun H1 cA e1 z1 o1 hAr hNm => ?_
  have hcA : cA = aC .int := Option.some.inj (hNm.symm.trans (hK.2 0 _ rfl).2)
  subst hcA
  refine W.widen (k := kc + 1) (n := ks + B) (Nat.le_refl _) (by omega) ?_
  refine K p e s m args below meth c H1 _ ls X hl (hR.push ?_ z1 o1) (x_S.push hS hR.1 z1 o1)
  show H1[sz]? = some (vp_cell _ _)
  rw [e1]
  rfl
theorem x_newL {n : Int32} (N B : Nat) (hw : Cond.arrayClass .long ∈ x_tbl) (hn : ¬ n < 0) (hN : n.toNatClampNeg = N) (hB : N ≤ B) (hB2 : B ≤ 1000000) (hc : kc + 1 ≤ rm.cells) (hs : ks + B ≤ rm.slots) (hd : decode cc pc = .ok (.newarray .long, 2))
    (K : x_V l D aC bs y cc nL rt rm Z (pc + 2) lv (.ref sz :: st) (sz + 1) (x_up M sz (.inl (.long, N, .inr (.inl (fun _ => 0))))) (kc + 1) (ks + B)) : x_V l D aC bs y cc nL rt rm Z pc lv (.int n :: st) sz M kc ks := by
  intro p e s m args below meth c H locs ls X hl hR hS
  have hK := X.2.2.2.2.2.2.2.2.1.1
  refine va_newaK (atype := .long) X.1 X.2.1 (X.2.2.2.2.2.1 _ hw) rfl hd rfl hn hN (by show N * 8 ≤ 536870912; omega) hc (by omega) hR.1 fun H1 cA e1 z1 o1 hAr hNm => ?_
  have hcA : cA = aC .long := Option.some.inj (hNm.symm.trans (hK.2 1 _ rfl).2)
  subst hcA
  refine W.widen (k := kc + 1) (n := ks + B) (Nat.le_refl _) (by omega) ?_
  refine K p e s m args below meth c H1 _ ls X hl (hR.push ?_ z1 o1) (x_S.push hS hR.1 z1 o1)
  show H1[sz]? = some (vp_cell _ _)
  rw [e1]
  rfl
theorem x_newB {n : Int32} (N B : Nat) (hw : Cond.arrayClass .byte ∈ x_tbl) (hn : ¬ n < 0) (hN : n.toNatClampNeg = N) (hB : N ≤ B) (hB2 : B ≤ 1000000) (hc : kc + 1 ≤ rm.cells) (hs : ks + B ≤ rm.slots) (hd : decode cc pc = .ok (.newarray .byte, 2))
    (K : x_V l D aC bs y cc nL rt rm Z (pc + 2) lv (.ref sz :: st) (sz + 1) (x_up M sz (.inl (.byte, N, .inl (fun _ => 0)))) (kc + 1) (ks + B)) : x_V l D aC bs y cc nL rt rm Z pc lv (.int n :: st) sz M kc ks := by
  intro p e s m args below meth c H locs ls X hl hR hS
  have hK := X.2.2.2.2.2.2.2.2.1.1
  refine va_newaK (atype := .byte) X.1 X.2.1 (X.2.2.2.2.2.1 _ hw) rfl hd rfl hn hN (by show N * 1 ≤ 536870912; omega) hc (by omega) hR.1 fun H1 cA e1 z1 o1 hAr hNm => ?_
  have hcA : cA = aC .byte := Option.some.inj (hNm.symm.trans (hK.2 2 _ rfl).2)
  subst hcA
  refine W.widen (k := kc + 1) (n := ks + B) (Nat.le_refl _) (by omega) ?_
  refine K p e s m args below meth c H1 _ ls X hl (hR.push ?_ z1 o1) (x_S.push hS hR.1 z1 o1)
  show H1[sz]? = some (vp_cell _ _)
  rw [e1]
  rfl
theorem x_newZ {n : Int32} (N B : Nat) (hw : Cond.arrayClass .boolean ∈ x_tbl) (hn : ¬ n < 0) (hN : n.toNatClampNeg = N) (hB : N ≤ B) (hB2 : B ≤ 1000000) (hc : kc + 1 ≤ rm.cells) (hs : ks + B ≤ rm.slots) (hd : decode cc pc = .ok (.newarray .boolean, 2))
    (K : x_V l D aC bs y cc nL rt rm Z (pc + 2) lv (.ref sz :: st) (sz + 1) (x_up M sz (.inl (.boolean, N, .inl (fun _ => 0)))) (kc + 1) (ks + B)) : x_V l D aC bs y cc nL rt rm Z pc lv (.int n :: st) sz M kc ks := by
  intro p e s m args below meth c H locs ls X hl hR hS
  have hK := X.2.2.2.2.2.2.2.2.1.1
  refine va_newaK (atype := .boolean) X.1 X.2.1 (X.2.2.2.2.2.1 _ hw) rfl hd rfl hn hN (by show N * 1 ≤ 536870912; omega) hc (by omega) hR.1 fun H1 cA e1 z1 o1 hAr hNm => ?_
  have hcA : cA = aC .boolean := Option.some.inj (hNm.symm.trans (hK.2 3 _ rfl).2)
  subst hcA
  refine W.widen (k := kc + 1) (n := ks + B) (Nat.le_refl _) (by omega) ?_
  refine K p e s m args below meth c H1 _ ls X hl (hR.push ?_ z1 o1) (x_S.push hS hR.1 z1 o1)
  show H1[sz]? = some (vp_cell _ _)
  rw [e1]
  rfl
theorem x_newQ {n : Int32} {i t0 : Nat} {C : String} (N : Nat) (hao : ∀ U : State, x_K D aC U → va_AO C U) (ht : (x_tys aC)[t0]? = some (aC (.object C), .object C)) (hw : Cond.classLink y.cls i C ∈ x_tbl) (hn : ¬ n < 0) (hN : n.toNatClampNeg = N) (hB2 : N ≤ 1000000) (hc : kc + 1 ≤ rm.cells) (hs : ks + N ≤ rm.slots) (hd : decode cc pc = .ok (.anewarray i, 3))
    (K : x_V l D aC bs y cc nL rt rm Z (pc + 3) lv (.ref sz :: st) (sz + 1) (x_up M sz (.inl (.object C, N, .inr (.inr (.inr (.inr (fun _ => none))))))) (kc + 1) (ks + N)) : x_V l D aC bs y cc nL rt rm Z pc lv (.int n :: st) sz M kc ks := by
  intro p e s m args below meth c H locs ls X hl hR hS
  have hK := X.2.2.2.2.2.2.2.2.1
  subst hN
  refine W.anew X.1 X.2.1 X.2.2.2.2.1 (X.2.2.2.2.2.1 _ hw) (va_AO.use (hao s hK)) rfl hd rfl hn (by omega) hc hs fun cA kA comp f1 f2 f3 f4 => ?_
  obtain ⟨kA', comp', k1, k2, k3, k4⟩ := (hK.1.2 t0 _ ht).2
  have hcA : cA = aC (.object C) := Option.some.inj (f1.symm.trans k4)
  generalize hH1 : H.push ({ cls := cA, slots := Array.replicate n.toNatClampNeg .null, vm := .none } : Cell) = H1
  have z1 : H1.size = sz + 1 := by rw [← hH1, Array.size_push, hR.1]
  have e1 : H1[sz]? = some (arrV cA n.toNatClampNeg (fun _ => .null)) := by rw [← hH1, ← hR.1, Array.getElem?_push_size, ← arrV_new]
  have o1 : ∀ q : Nat, q < sz → H1[q]? = H[q]? := fun q hq => by rw [← hH1, Array.getElem?_push, if_neg (by rw [hR.1]; exact Nat.ne_of_lt hq)]
  rw [show H.size = sz from hR.1]
  refine K p e s m args below meth c H1 _ ls X hl (hR.push ?_ z1 o1) (x_S.push hS hR.1 z1 o1)
  show H1[sz]? = some (vp_cell _ _)
  rw [e1, hcA, vp_cell_q]
  rfl
-- the library's own
theorem x_objInit {a i : Nat} (hw : Cond.methodLink y.cls i Lib.objectInit ∈ x_tbl) (hin : Cond.instanceMethod Lib.objectInit ∈ x_tbl) (hco : Cond.code Lib.objectInit ⟨#[0xb1]⟩ 1 none ∈ x_tbl) (hfr : 1 ≤ rm.frames) (hlo : (st.map fun v => v.category).sum + 12 ≤ rm.locals) (hd : decode cc pc = .ok (.invokespecial i, 3))
    (K : x_V l D aC bs y cc nL rt rm Z (pc + 3) lv st sz M kc ks) : x_V l D aC bs y cc nL rt rm Z pc lv (.ref a :: st) sz M kc ks := by
  intro p e s m args below meth c H locs ls X hl hR hS
  have hts := X.2.2.2.2.2.1
  refine W.objInit X.1 X.2.1 X.2.2.2.2.1 (hts _ hw) (hts _ hin) (hts _ hco) rfl (by rw [X.2.2.2.1]; exact hl.1) rfl hd hfr (by show 2 * 0 + _ + 12 ≤ _; omega) ?_
  exact K p e s m args below meth c H locs ls X hl hR hS
theorem x_mmax {x v : Int32} {i : Nat} (hw : Cond.methodLink y.cls i Lib.Math.max.name ∈ x_tbl) (hstat : Cond.static Lib.Math.max.name ∈ x_tbl) (hini : Cond.initialized "java/lang/Math" ∈ x_tbl) (hco : Cond.code Lib.Math.max.name Lib.Math.max.code 2 (some .int) ∈ x_tbl) (hfr : 1 ≤ rm.frames) (hlo : (st.map fun v => v.category).sum + 13 ≤ rm.locals) (hkc : kc ≤ rm.cells) (hks : ks ≤ rm.slots) (hd : decode cc pc = .ok (.invokestatic i, 3))
    (K : x_V l D aC bs y cc nL rt rm Z (pc + 3) lv (.int (if x < v then v else x) :: st) sz M kc ks) : x_V l D aC bs y cc nL rt rm Z pc lv (.int v :: .int x :: st) sz M kc ks := by
  intro p e s m args below meth c H locs ls X hl hR hS
  have hts := X.2.2.2.2.2.1
  exact va_mmax X.1 X.2.1 (by rw [X.2.2.2.1]; exact hl.1.symm) X.2.2.2.2.1 (hts _ hw) (hts _ hstat) (hts _ hini) (hts _ hco) hfr hlo hkc hks hd (K p e s m args below meth c H locs ls X hl hR hS)
theorem x_mmin {x v : Int32} {i : Nat} (hw : Cond.methodLink y.cls i Lib.Math.min.name ∈ x_tbl) (hstat : Cond.static Lib.Math.min.name ∈ x_tbl) (hini : Cond.initialized "java/lang/Math" ∈ x_tbl) (hco : Cond.code Lib.Math.min.name Lib.Math.min.code 2 (some .int) ∈ x_tbl) (hfr : 1 ≤ rm.frames) (hlo : (st.map fun v => v.category).sum + 13 ≤ rm.locals) (hkc : kc ≤ rm.cells) (hks : ks ≤ rm.slots) (hd : decode cc pc = .ok (.invokestatic i, 3))
    (K : x_V l D aC bs y cc nL rt rm Z (pc + 3) lv (.int (if v < x then v else x) :: st) sz M kc ks) : x_V l D aC bs y cc nL rt rm Z pc lv (.int v :: .int x :: st) sz M kc ks := by
  intro p e s m args below meth c H locs ls X hl hR hS
  have hts := X.2.2.2.2.2.1
  exact va_mmin X.1 X.2.1 (by rw [X.2.2.2.1]; exact hl.1.symm) X.2.2.2.2.1 (hts _ hw) (hts _ hstat) (hts _ hini) (hts _ hco) hfr hlo hkc hks hd (K p e s m args below meth c H locs ls X hl hR hS)
theorem x_mabs {x : Int32} {i : Nat} (hw : Cond.methodLink y.cls i Lib.Math.abs.name ∈ x_tbl) (hstat : Cond.static Lib.Math.abs.name ∈ x_tbl) (hini : Cond.initialized "java/lang/Math" ∈ x_tbl) (hco : Cond.code Lib.Math.abs.name Lib.Math.abs.code 1 (some .int) ∈ x_tbl) (hfr : 1 ≤ rm.frames) (hlo : (st.map fun v => v.category).sum + 13 ≤ rm.locals) (hkc : kc ≤ rm.cells) (hks : ks ≤ rm.slots) (hd : decode cc pc = .ok (.invokestatic i, 3))
    (K : x_V l D aC bs y cc nL rt rm Z (pc + 3) lv (.int (if 0 ≤ x then x else 0 - x) :: st) sz M kc ks) : x_V l D aC bs y cc nL rt rm Z pc lv (.int x :: st) sz M kc ks := by
  intro p e s m args below meth c H locs ls X hl hR hS
  have hts := X.2.2.2.2.2.1
  exact va_mabs X.1 X.2.1 (by rw [X.2.2.2.1]; exact hl.1.symm) X.2.2.2.2.1 (hts _ hw) (hts _ hstat) (hts _ hini) (hts _ hco) hfr hlo hkc hks hd (K p e s m args below meth c H locs ls X hl hR hS)
theorem x_nn (z : Int32) (hz : ¬ z < 0) : z.toInt = (z.toNatClampNeg : Int) := by
  have hz0 : (0 : Int) ≤ z.toInt := by
    have := Int32.not_lt.mp hz
    simpa using Int32.le_iff_toInt_le.mp this
  show z.toInt = ((z.toInt.toNat : Nat) : Int)
  omega
theorem x_acI {a b i : Nat} {sp dp n : Int32} (hw : Cond.methodLink y.cls i arraycopyName ∈ x_tbl) (hnat : Cond.native arraycopyName ∈ x_tbl) (hstat : Cond.static arraycopyName ∈ x_tbl) (hini : Cond.initialized "java/lang/System" ∈ x_tbl) (hfr : 1 ≤ rm.frames) (hlo : (st.map fun v => v.category).sum + (nativeFrameWords "java/lang/System" "arraycopy" 5 + 11) ≤ rm.locals) (hd : decode cc pc = .ok (.invokestatic i, 3)) (hv : x_cpI M a sp b dp n = some M2)
    (K : x_V l D aC bs y cc nL rt rm Z (pc + 3) lv st sz M2 kc ks) : x_V l D aC bs y cc nL rt rm Z pc lv (.int n :: .int dp :: .ref b :: .int sp :: .ref a :: st) sz M kc ks := by
  intro p e s m args below meth c H locs ls X0 hl hR hS
  obtain ⟨n0, n1, f, g, hc0, hc1, ⟨h1, h2, h3, h4, h5⟩, rfl⟩ := x_cpI_sp hv
  have hts := X0.2.2.2.2.2.1
  have hK := X0.2.2.2.2.2.2.2.2.1.1
  intro T hT X
  have hc0 : H[a]? = some (vp_cell (aC .int) (n0, .inl f)) := (hR.2.2 a _ hc0).2
  have hbb : bs ≤ b := (hR.2.2 b _ hc1).1
  have hc1 : H[b]? = some (vp_cell (aC .int) (n1, .inl g)) := (hR.2.2 b _ hc1).2
  obtain ⟨-, k0, hk0, cm0, hkk0⟩ := (hK.2 0 _ rfl).1 n0 (fun j => .int (f j))
  obtain ⟨-, k1, hk1, cm1, hkk1⟩ := (hK.2 0 _ rfl).1 n1 (fun j => .int (g j))
  obtain ⟨vm', X', step⟩ := X.arraycopy X0.1 X0.2.2.2.2.1 (hts _ hw) (hts _ hnat) (hts _ hstat) (hts _ hini) (src := a) (dst := b) (cs := vp_cell (aC .int) (n0, .inl f)) (cd := vp_cell (aC .int) (n1, .inl g)) (srcPos := sp) (destPos := dp) (n := n) (by rw [hT]; exact hc0) (by rw [hT]; exact hc1)
    (fun _ h => by cases h) (fun _ h => by cases h) (fun h => by cases h) (fun h => by cases h) hk0 hk1 hkk0 hkk1 (by simp [refKind]) h1 h2 h3
    (by rw [x_nn sp h1, x_nn n h3]; show ¬ _ > ((arrV (aC .int) n0 (fun j => .int (f j))).slots.size : Int); rw [arrV_size]; omega)
    (by rw [x_nn dp h2, x_nn n h3]; show ¬ _ > ((arrV (aC .int) n1 (fun j => .int (g j))).slots.size : Int); rw [arrV_size]; omega)
    (fun vm₁ _ i hi => by
      have e : (vp_cell (aC .int) (n0, .inl f)).slots.getD (sp.toNatClampNeg + i) .null = .int (f (sp.toNatClampNeg + i)) := by
        show (arrV (aC .int) n0 (fun j => .int (f j))).slots.getD _ _ = _
        rw [Array.getD_eq_getD_getElem?, arrV_read _ _ (by omega)]
        rfl
      refine ⟨?_, ?_⟩
      · rw [e]
        rfl
      · rw [e]
        exact trivial)
    (g := F0 m pc ls (.int n :: .int dp :: .ref b :: .int sp :: .ref a :: st)) rfl (by rw [X0.2.2.2.1]; exact hl.1) (rest := st) rfl (by rw [X0.2.1]; exact hd) hfr (by show 2 * 0 + _ + _ ≤ _; omega)
  have e1 : copied (vp_cell (aC .int) (n0, .inl f)) (vp_cell (aC .int) (n1, .inl g)) sp dp n = vp_cell (aC .int) (n1, .inl (va_cpy f g sp.toNatClampNeg dp.toNatClampNeg n.toNatClampNeg)) := va_copied (fun z => .int z) (aC .int) (aC .int) f g h4
  rw [e1] at X' step
  have hlt : b < H.size := (Array.getElem?_eq_some_iff.mp hc1).1
  have hheap : ((T.setVm vm').setCell b (vp_cell (aC .int) (n1, .inl (va_cpy f g sp.toNatClampNeg dp.toNatClampNeg n.toNatClampNeg)))).heap = H.setIfInBounds b (vp_cell (aC .int) (n1, .inl (va_cpy f g sp.toNatClampNeg dp.toNatClampNeg n.toNatClampNeg))) := by rw [← hT]; rfl
  have oq : ∀ q : Nat, q ≠ b → (H.setIfInBounds b (vp_cell (aC .int) (n1, .inl (va_cpy f g sp.toNatClampNeg dp.toNatClampNeg n.toNatClampNeg))))[q]? = H[q]? := fun q hq => by simp [Array.getElem?_setIfInBounds, Ne.symm hq]
  obtain ⟨t, a1, b1⟩ := K p e s m args below meth c _ _ ls X0 hl (hR.put hbb (show (H.setIfInBounds b _)[b]? = some _ by simp [Array.getElem?_setIfInBounds, hlt]) (by simp) oq) ⟨by simp; exact hS.1, fun q g1 g2 => by
      rw [oq q (fun e => g2 (by rw [e]; exact hbb))]
      exact hS.2.1 q g1 g2, fun q hq => by
      rcases List.mem_append.mp hq with h | h
      · exact hS.2.2 q h
      · obtain ⟨z, -, hz⟩ := List.mem_map.mp h
        rw [← hz]
        exact hbb⟩ _ hheap X'
  exact ⟨t, step t a1, b1⟩
theorem x_acL {a b i : Nat} {sp dp n : Int32} (hw : Cond.methodLink y.cls i arraycopyName ∈ x_tbl) (hnat : Cond.native arraycopyName ∈ x_tbl) (hstat : Cond.static arraycopyName ∈ x_tbl) (hini : Cond.initialized "java/lang/System" ∈ x_tbl) (hfr : 1 ≤ rm.frames) (hlo : (st.map fun v => v.category).sum + (nativeFrameWords "java/lang/System" "arraycopy" 5 + 11) ≤ rm.locals) (hd : decode cc pc = .ok (.invokestatic i, 3)) (hv : x_cpL M a sp b dp n = some M2)
    (K : x_V l D aC bs y cc nL rt rm Z (pc + 3) lv st sz M2 kc ks) : x_V l D aC bs y cc nL rt rm Z pc lv (.int n :: .int dp :: .ref b :: .int sp :: .ref a :: st) sz M kc ks := by
  intro p e s m args below meth c H locs ls X0 hl hR hS
  obtain ⟨n0, n1, f, g, hc0, hc1, ⟨h1, h2, h3, h4, h5⟩, rfl⟩ := x_cpL_sp hv
  have hts := X0.2.2.2.2.2.1
  have hK := X0.2.2.2.2.2.2.2.2.1.1
  intro T hT X
  have hc0 : H[a]? = some (vp_cell (aC .long) (n0, .inr (.inl f))) := (hR.2.2 a _ hc0).2
  have hbb : bs ≤ b := (hR.2.2 b _ hc1).1
  have hc1 : H[b]? = some (vp_cell (aC .long) (n1, .inr (.inl g))) := (hR.2.2 b _ hc1).2
  obtain ⟨-, k0, hk0, cm0, hkk0⟩ := (hK.2 1 _ rfl).1 n0 (fun j => .long (f j))
  obtain ⟨-, k1, hk1, cm1, hkk1⟩ := (hK.2 1 _ rfl).1 n1 (fun j => .long (g j))
  obtain ⟨vm', X', step⟩ := X.arraycopy X0.1 X0.2.2.2.2.1 (hts _ hw) (hts _ hnat) (hts _ hstat) (hts _ hini) (src := a) (dst := b) (cs := vp_cell (aC .long) (n0, .inr (.inl f))) (cd := vp_cell (aC .long) (n1, .inr (.inl g))) (srcPos := sp) (destPos := dp) (n := n) (by rw [hT]; exact hc0) (by rw [hT]; exact hc1)
    (fun _ h => by cases h) (fun _ h => by cases h) (fun h => by cases h) (fun h => by cases h) hk0 hk1 hkk0 hkk1 (by simp [refKind]) h1 h2 h3
    (by rw [x_nn sp h1, x_nn n h3]; show ¬ _ > ((arrV (aC .long) n0 (fun j => .long (f j))).slots.size : Int); rw [arrV_size]; omega)
    (by rw [x_nn dp h2, x_nn n h3]; show ¬ _ > ((arrV (aC .long) n1 (fun j => .long (g j))).slots.size : Int); rw [arrV_size]; omega)
    (fun vm₁ _ i hi => by
      have e : (vp_cell (aC .long) (n0, .inr (.inl f))).slots.getD (sp.toNatClampNeg + i) .null = .long (f (sp.toNatClampNeg + i)) := by
        show (arrV (aC .long) n0 (fun j => .long (f j))).slots.getD _ _ = _
        rw [Array.getD_eq_getD_getElem?, arrV_read _ _ (by omega)]
        rfl
      refine ⟨?_, ?_⟩
      · rw [e]
        rfl
      · rw [e]
        exact trivial)
    (g := F0 m pc ls (.int n :: .int dp :: .ref b :: .int sp :: .ref a :: st)) rfl (by rw [X0.2.2.2.1]; exact hl.1) (rest := st) rfl (by rw [X0.2.1]; exact hd) hfr (by show 2 * 0 + _ + _ ≤ _; omega)
  have e1 : copied (vp_cell (aC .long) (n0, .inr (.inl f))) (vp_cell (aC .long) (n1, .inr (.inl g))) sp dp n = vp_cell (aC .long) (n1, .inr (.inl (va_cpy f g sp.toNatClampNeg dp.toNatClampNeg n.toNatClampNeg))) := va_copied (fun z => .long z) (aC .long) (aC .long) f g h4
  rw [e1] at X' step
  have hlt : b < H.size := (Array.getElem?_eq_some_iff.mp hc1).1
  have hheap : ((T.setVm vm').setCell b (vp_cell (aC .long) (n1, .inr (.inl (va_cpy f g sp.toNatClampNeg dp.toNatClampNeg n.toNatClampNeg))))).heap = H.setIfInBounds b (vp_cell (aC .long) (n1, .inr (.inl (va_cpy f g sp.toNatClampNeg dp.toNatClampNeg n.toNatClampNeg)))) := by rw [← hT]; rfl
  have oq : ∀ q : Nat, q ≠ b → (H.setIfInBounds b (vp_cell (aC .long) (n1, .inr (.inl (va_cpy f g sp.toNatClampNeg dp.toNatClampNeg n.toNatClampNeg)))))[q]? = H[q]? := fun q hq => by simp [Array.getElem?_setIfInBounds, Ne.symm hq]
  obtain ⟨t, a1, b1⟩ := K p e s m args below meth c _ _ ls X0 hl (hR.put hbb (show (H.setIfInBounds b _)[b]? = some _ by simp [Array.getElem?_setIfInBounds, hlt]) (by simp) oq) ⟨by simp; exact hS.1, fun q g1 g2 => by
      rw [oq q (fun e => g2 (by rw [e]; exact hbb))]
      exact hS.2.1 q g1 g2, fun q hq => by
      rcases List.mem_append.mp hq with h | h
      · exact hS.2.2 q h
      · obtain ⟨z, -, hz⟩ := List.mem_map.mp h
        rw [← hz]
        exact hbb⟩ _ hheap X'
  exact ⟨t, step t a1, b1⟩
end XNEW
end
section
theorem x_go {p : Program} {l : Launch} {e : Env} {R : Room} {s : State} {m : MethodId} {args : Array Value} {below : List Frame} {meth : Method} {c : Code} {H : Heap} {locs : List Loc} {cells slots mc ms pc : Nat} {ls : Array Slot} {st0 rest : List Value} {a : Array Value} {D : va_G} {aC : FieldType → ClassId} {bs : Nat} {rv : Option Value} {sz2 : Nat} {M2 : XM} {Q : State → Prop}
    (hr : va_Run p l e R s m args below meth c H locs cells slots mc ms (F0 m pc ls st0) rest (x_Qc D aC bs rv sz2 M2 a) (fun q => bs ≤ q)) (hS : va_S (fun q => bs ≤ q) s.heap H locs)
    (kk : ∀ (H1 : Heap) (locs1 : List Loc), x_R D aC bs sz2 M2 H1 → va_S (fun q => bs ≤ q) s.heap H1 locs1 → W p l e R s m args below meth c H1 locs1 (cells + mc) (slots + ms) Q (F0 m (pc + 3) ls (rv.toList ++ rest))) : W p l e R s m args below meth c H locs cells slots Q (F0 m pc ls st0) := by
  intro T hT X
  obtain ⟨v, st₀, t, T', L, h0, X', hL, e1, e2, ⟨hv, hR, hz, hk⟩, st⟩ := hr T hT X
  cases hv
  rw [h0] at hz hk
  obtain ⟨t2, a1, b1⟩ := kk T'.heap (locs ++ L) (by rw [e1]; exact hR)
    ⟨Nat.le_trans hS.1 (by rw [e1]; exact hz), fun q h1 h2 => by rw [e1, hk q (Nat.lt_of_lt_of_le h1 hS.1) h2]; exact hS.2.1 q h1 h2, fun q hq => by
      rcases List.mem_append.mp hq with h | h
      · exact hS.2.2 q h
      · exact hL q h⟩ T' rfl X'
  exact ⟨t2, st t2 a1, b1⟩
section XCALL
variable {l : Launch} {D : va_G} {aC : FieldType → ClassId} {bs : Nat} {y : MethodName} {cc : ByteArray} {nL : Nat} {rt : Option FieldType} {rm : Room} {Z : List Frame → Array Value → State → State → Prop} {pc : Nat} {lv : List (Nat × Value)} {st : List Value} {sz : Nat} {M : XM} {kc ks : Nat}
variable {y2 : MethodName} {cc2 : ByteArray} {nL2 : Nat} {rt2 : Option FieldType} {rm2 : Room} {i n b sz2 : Nat} {rv : Option Value} {M2 : XM}
theorem x_callV {ci N : Nat} {T : u_T} {ty : Nat → FieldType} {u : Unit} (As rest : List Value) (hC : x_Cl ci y2.cls T N ty) (hm : x_Me y2 cc2 nL2 rt2 n) (hw : Cond.methodLink y.cls i y2 ∈ x_tbl) (hin : Cond.instanceMethod y2 ∈ x_tbl) (hse : Cond.selects y2.cls y2 y2 ∈ x_tbl) (hfr : rm2.frames + 1 ≤ rm.frames) (hlo : 8 + (nL2 + 11) + rm2.locals ≤ rm.locals) (hn : As.length = n) (hW : (rest.map fun v => v.category).sum ≤ 8) (hkc : kc + rm2.cells ≤ rm.cells) (hks : ks + rm2.slots ≤ rm.slots)
    (hd : decode cc pc = .ok (.invokevirtual i, 3)) (hob : x_ob M b ci = some u) (hcn : x_Cn l D aC bs y2 cc2 nL2 rt2 rm2 (.ref b :: As) sz M rv sz2 M2) (hst : st = As.reverse ++ .ref b :: rest)
    (K : x_V l D aC bs y cc nL rt rm Z (pc + 3) lv (rv.toList ++ rest) sz2 M2 (kc + rm2.cells) (ks + rm2.slots)) : x_V l D aC bs y cc nL rt rm Z pc lv st sz M kc ks := by
  intro p e s m args below meth c H locs ls X hl hR hS
  have ht := X.2.2.2.2.2.1
  have hK := X.2.2.2.2.2.2.2.2.1
  obtain ⟨fs, hb1⟩ := x_ob_sp hob
  refine x_go (va_runV (As := As) (rest := rest) ⟨X.1, X.2.1, X.2.2.2.1, X.2.2.2.2.1, ht⟩ hcn ⟨callB_of n ht (x_goodIn hm.2.1) rfl rfl rfl (ht _ hm.2.2.1) (ht _ hw) hm.2.2.2 ⟨hfr, hlo⟩, ht _ hin, ht _ hse⟩ ⟨x_blind, va_recv hK.1 (hR.get hb1) hC.1 (q0 := 0) rfl, fun U hU hWm => ⟨rfl, by rw [hU]; exact hR, hK.warm hWm⟩⟩ rfl hn hl.1 hst (lv_room hW) hd ⟨hkc, hks⟩) hS (fun H1 locs1 hR1 hS1 => ?_)
  exact K p e s m args below meth c H1 locs1 ls X hl hR1 hS1
theorem x_callS (As rest : List Value) (hm : x_Me y2 cc2 nL2 rt2 n) (hw : Cond.methodLink y.cls i y2 ∈ x_tbl) (hstat : Cond.static y2 ∈ x_tbl) (hfr : rm2.frames + 1 ≤ rm.frames) (hlo : 8 + (nL2 + 11) + rm2.locals ≤ rm.locals) (hn : As.length = n) (hW : (rest.map fun v => v.category).sum ≤ 8) (hkc : kc + rm2.cells ≤ rm.cells) (hks : ks + rm2.slots ≤ rm.slots)
    (hd : decode cc pc = .ok (.invokestatic i, 3)) (hcn : x_Cn l D aC bs y2 cc2 nL2 rt2 rm2 As sz M rv sz2 M2) (hst : st = As.reverse ++ rest)
    (K : x_V l D aC bs y cc nL rt rm Z (pc + 3) lv (rv.toList ++ rest) sz2 M2 (kc + rm2.cells) (ks + rm2.slots)) : x_V l D aC bs y cc nL rt rm Z pc lv st sz M kc ks := by
  intro p e s m args below meth c H locs ls X hl hR hS
  have ht := X.2.2.2.2.2.1
  have hK := X.2.2.2.2.2.2.2.2.1
  refine x_go (va_runS (As := As) (rest := rest) ⟨X.1, X.2.1, X.2.2.2.1, X.2.2.2.2.1, ht⟩ hcn ⟨callB_of n ht (x_goodIn hm.2.1) rfl rfl rfl (ht _ hm.2.2.1) (ht _ hw) hm.2.2.2 ⟨hfr, hlo⟩, ht _ hstat⟩ ⟨x_blind, fun U hU hWm => ⟨rfl, by rw [hU]; exact hR, hK.warm hWm⟩⟩ rfl hn hl.1 hst (lv_room hW) hd ⟨hkc, hks⟩) hS (fun H1 locs1 hR1 hS1 => ?_)
  exact K p e s m args below meth c H1 locs1 ls X hl hR1 hS1
theorem x_callI (As rest : List Value) (hm : x_Me y2 cc2 nL2 none n) (hw : Cond.methodLink y.cls i y2 ∈ x_tbl) (hin : Cond.instanceMethod y2 ∈ x_tbl) (hnm : y2.name = "<init>") (hfr : rm2.frames + 1 ≤ rm.frames) (hlo : 8 + (nL2 + 11) + rm2.locals ≤ rm.locals) (hn : As.length = n) (hW : (rest.map fun v => v.category).sum ≤ 8) (hkc : kc + rm2.cells ≤ rm.cells) (hks : ks + rm2.slots ≤ rm.slots)
    (hd : decode cc pc = .ok (.invokespecial i, 3)) (hcn : x_Cn l D aC bs y2 cc2 nL2 none rm2 (.ref b :: As) sz M rv sz2 M2) (hst : st = As.reverse ++ .ref b :: rest)
    (K : x_V l D aC bs y cc nL rt rm Z (pc + 3) lv (rv.toList ++ rest) sz2 M2 (kc + rm2.cells) (ks + rm2.slots)) : x_V l D aC bs y cc nL rt rm Z pc lv st sz M kc ks := by
  intro p e s m args below meth c H locs ls X hl hR hS
  have ht := X.2.2.2.2.2.1
  have hK := X.2.2.2.2.2.2.2.2.1
  refine x_go (va_runI (As := As) (rest := rest) ⟨X.1, X.2.1, X.2.2.2.1, X.2.2.2.2.1, ht⟩ hcn ⟨callB_of n ht (x_goodIn hm.2.1) rfl rfl rfl (ht _ hm.2.2.1) (ht _ hw) hm.2.2.2 ⟨hfr, hlo⟩, hnm, ht _ hin⟩ ⟨x_blind, fun U hU hWm => ⟨rfl, by rw [hU]; exact hR, hK.warm hWm⟩⟩ rfl hn hl.1 hst (lv_room hW) hd ⟨hkc, hks⟩) hS (fun H1 locs1 hR1 hS1 => ?_)
  exact K p e s m args below meth c H1 locs1 ls X hl hR1 hS1
theorem x_callIN (As rest : List Value) (hcl : y.cls = RX8) (hm : x_Me y2 cc2 nL2 none n) (hw : (i, y2) ∈ x_nest) (hin : Cond.instanceMethod y2 ∈ x_tbl) (hnm : y2.name = "<init>") (hfr : rm2.frames + 1 ≤ rm.frames) (hlo : 8 + (nL2 + 11) + rm2.locals ≤ rm.locals) (hn : As.length = n) (hW : (rest.map fun v => v.category).sum ≤ 8) (hkc : kc + rm2.cells ≤ rm.cells) (hks : ks + rm2.slots ≤ rm.slots)
    (hd : decode cc pc = .ok (.invokespecial i, 3)) (hcn : x_Cn l D aC bs y2 cc2 nL2 none rm2 (.ref b :: As) sz M rv sz2 M2) (hst : st = As.reverse ++ .ref b :: rest)
    (K : x_V l D aC bs y cc nL rt rm Z (pc + 3) lv (rv.toList ++ rest) sz2 M2 (kc + rm2.cells) (ks + rm2.slots)) : x_V l D aC bs y cc nL rt rm Z pc lv st sz M kc ks := by
  intro p e s m args below meth c H locs ls X hl hR hS
  have ht := X.2.2.2.2.2.1
  have hK := X.2.2.2.2.2.2.2.2.1
  refine x_go (va_runIN (As := As) (rest := rest) (host := "SwappedIntervals") ⟨X.1, X.2.1, X.2.2.2.1, X.2.2.2.2.1, ht⟩ hcn ⟨va_cnB n ht (x_goodIn hm.2.1) rfl rfl rfl (by rw [hcl]; exact hK.2.2.2 _ hw) (ht _ hm.2.2.1) hm.2.2.2 ⟨hfr, hlo⟩, hnm, ht _ hin⟩ ⟨x_blind, fun U hU hWm => ⟨rfl, by rw [hU]; exact hR, hK.warm hWm⟩⟩ rfl hn hl.1 hst (lv_room hW) hd ⟨hkc, hks⟩) hS (fun H1 locs1 hR1 hS1 => ?_)
  exact K p e s m args below meth c H1 locs1 ls X hl hR1 hS1
end XCALL
end
section
def x_nl (n : Int32) (B : Nat) : Option Unit := if ¬ n < 0 ∧ n.toNatClampNeg ≤ B then some () else none
theorem x_nl_sp {n : Int32} {B : Nat} {u : Unit} (h : x_nl n B = some u) : ¬ n < 0 ∧ n.toNatClampNeg ≤ B := by
  unfold x_nl at h
  split at h
  · assumption
  · cases h
def x_sc (L : Nat) (xs : Nat → Int32) (i : Int32) : Option Int32 := if x_in i L = true then some (xs i.toNatClampNeg) else none
theorem x_sc_sp {L : Nat} {xs : Nat → Int32} {i v : Int32} (h : x_sc L xs i = some v) : vp_in i L ∧ v = xs i.toNatClampNeg := by
  unfold x_sc at h
  split at h
  · rename_i hi
    cases h
    exact ⟨x_in_vp hi, rfl⟩
  · cases h
theorem x_enter2 {l : Launch} {D : va_G} {aC : FieldType → ClassId} {bs : Nat} {y : MethodName} {cc : ByteArray} {nL : Nat} {rt : Option FieldType} {n : Nat} {rm : Room} {av : List Value} {sz : Nat} {M : XM} {rv : Option Value} {sz' : Nat} {M' : XM} (lv : List (Nat × Value)) (hm : x_Me y cc nL rt n) (hlen : (lg_sl av).length ≤ nL) (hlv : lv_args 0 av = lv)
    (K : x_V l D aC bs y cc nL rt rm (x_Z D aC bs rv sz' M' rm) 0 lv [] sz M 0 0) : x_Cn l D aC bs y cc nL rt rm av sz M rv sz' M' := x_enter hm hlen (by rw [hlv]; exact K)
section XCALL2
variable {l : Launch} {D : va_G} {aC : FieldType → ClassId} {bs : Nat} {y : MethodName} {cc : ByteArray} {nL : Nat} {rt : Option FieldType} {rm : Room} {Z : List Frame → Array Value → State → State → Prop} {pc : Nat} {lv : List (Nat × Value)} {st : List Value} {sz : Nat} {M : XM} {kc ks : Nat}
variable {y2 : MethodName} {cc2 : ByteArray} {nL2 : Nat} {rt2 : Option FieldType} {rm2 : Room} {i n b sz2 : Nat} {rv : Option Value} {M2 : XM}
theorem x_callVV  {ci N : Nat} {T : u_T} {ty : Nat → FieldType} {u : Unit} (As rest : List Value) (hC : x_Cl ci y2.cls T N ty) (hm : x_Me y2 cc2 nL2 rt2 n) (hw : Cond.methodLink y.cls i y2 ∈ x_tbl) (hin : Cond.instanceMethod y2 ∈ x_tbl) (hse : Cond.selects y2.cls y2 y2 ∈ x_tbl) (hfr : rm2.frames + 1 ≤ rm.frames) (hlo : 8 + (nL2 + 11) + rm2.locals ≤ rm.locals) (hn : As.length = n) (hW : (rest.map fun v => v.category).sum ≤ 8) (hkc : kc + rm2.cells ≤ rm.cells) (hks : ks + rm2.slots ≤ rm.slots)
    (hd : decode cc pc = .ok (.invokevirtual i, 3)) (hob : x_ob M b ci = some u) (hcn : x_Cn l D aC bs y2 cc2 nL2 rt2 rm2 (.ref b :: As) sz M none sz2 M2) (hst : st = As.reverse ++ .ref b :: rest)
    (K : x_V l D aC bs y cc nL rt rm Z (pc + 3) lv rest sz2 M2 (kc + rm2.cells) (ks + rm2.slots)) : x_V l D aC bs y cc nL rt rm Z pc lv st sz M kc ks := x_callV As rest hC hm hw hin hse hfr hlo hn hW hkc hks hd hob hcn hst K
theorem x_callVI {r : Int32} {ci N : Nat} {T : u_T} {ty : Nat → FieldType} {u : Unit} (As rest : List Value) (hC : x_Cl ci y2.cls T N ty) (hm : x_Me y2 cc2 nL2 rt2 n) (hw : Cond.methodLink y.cls i y2 ∈ x_tbl) (hin : Cond.instanceMethod y2 ∈ x_tbl) (hse : Cond.selects y2.cls y2 y2 ∈ x_tbl) (hfr : rm2.frames + 1 ≤ rm.frames) (hlo : 8 + (nL2 + 11) + rm2.locals ≤ rm.locals) (hn : As.length = n) (hW : (rest.map fun v => v.category).sum ≤ 8) (hkc : kc + rm2.cells ≤ rm.cells) (hks : ks + rm2.slots ≤ rm.slots)
    (hd : decode cc pc = .ok (.invokevirtual i, 3)) (hob : x_ob M b ci = some u) (hcn : x_Cn l D aC bs y2 cc2 nL2 rt2 rm2 (.ref b :: As) sz M (some (.int r)) sz2 M2) (hst : st = As.reverse ++ .ref b :: rest)
    (K : x_V l D aC bs y cc nL rt rm Z (pc + 3) lv (.int r :: rest) sz2 M2 (kc + rm2.cells) (ks + rm2.slots)) : x_V l D aC bs y cc nL rt rm Z pc lv st sz M kc ks := x_callV As rest hC hm hw hin hse hfr hlo hn hW hkc hks hd hob hcn hst K
theorem x_callVJ {r : Int64} {ci N : Nat} {T : u_T} {ty : Nat → FieldType} {u : Unit} (As rest : List Value) (hC : x_Cl ci y2.cls T N ty) (hm : x_Me y2 cc2 nL2 rt2 n) (hw : Cond.methodLink y.cls i y2 ∈ x_tbl) (hin : Cond.instanceMethod y2 ∈ x_tbl) (hse : Cond.selects y2.cls y2 y2 ∈ x_tbl) (hfr : rm2.frames + 1 ≤ rm.frames) (hlo : 8 + (nL2 + 11) + rm2.locals ≤ rm.locals) (hn : As.length = n) (hW : (rest.map fun v => v.category).sum ≤ 8) (hkc : kc + rm2.cells ≤ rm.cells) (hks : ks + rm2.slots ≤ rm.slots)
    (hd : decode cc pc = .ok (.invokevirtual i, 3)) (hob : x_ob M b ci = some u) (hcn : x_Cn l D aC bs y2 cc2 nL2 rt2 rm2 (.ref b :: As) sz M (some (.long r)) sz2 M2) (hst : st = As.reverse ++ .ref b :: rest)
    (K : x_V l D aC bs y cc nL rt rm Z (pc + 3) lv (.long r :: rest) sz2 M2 (kc + rm2.cells) (ks + rm2.slots)) : x_V l D aC bs y cc nL rt rm Z pc lv st sz M kc ks := x_callV As rest hC hm hw hin hse hfr hlo hn hW hkc hks hd hob hcn hst K
theorem x_callVA {r : Nat} {ci N : Nat} {T : u_T} {ty : Nat → FieldType} {u : Unit} (As rest : List Value) (hC : x_Cl ci y2.cls T N ty) (hm : x_Me y2 cc2 nL2 rt2 n) (hw : Cond.methodLink y.cls i y2 ∈ x_tbl) (hin : Cond.instanceMethod y2 ∈ x_tbl) (hse : Cond.selects y2.cls y2 y2 ∈ x_tbl) (hfr : rm2.frames + 1 ≤ rm.frames) (hlo : 8 + (nL2 + 11) + rm2.locals ≤ rm.locals) (hn : As.length = n) (hW : (rest.map fun v => v.category).sum ≤ 8) (hkc : kc + rm2.cells ≤ rm.cells) (hks : ks + rm2.slots ≤ rm.slots)
    (hd : decode cc pc = .ok (.invokevirtual i, 3)) (hob : x_ob M b ci = some u) (hcn : x_Cn l D aC bs y2 cc2 nL2 rt2 rm2 (.ref b :: As) sz M (some (.ref r)) sz2 M2) (hst : st = As.reverse ++ .ref b :: rest)
    (K : x_V l D aC bs y cc nL rt rm Z (pc + 3) lv (.ref r :: rest) sz2 M2 (kc + rm2.cells) (ks + rm2.slots)) : x_V l D aC bs y cc nL rt rm Z pc lv st sz M kc ks := x_callV As rest hC hm hw hin hse hfr hlo hn hW hkc hks hd hob hcn hst K
theorem x_callSV  (As rest : List Value) (hm : x_Me y2 cc2 nL2 rt2 n) (hw : Cond.methodLink y.cls i y2 ∈ x_tbl) (hstat : Cond.static y2 ∈ x_tbl) (hfr : rm2.frames + 1 ≤ rm.frames) (hlo : 8 + (nL2 + 11) + rm2.locals ≤ rm.locals) (hn : As.length = n) (hW : (rest.map fun v => v.category).sum ≤ 8) (hkc : kc + rm2.cells ≤ rm.cells) (hks : ks + rm2.slots ≤ rm.slots)
    (hd : decode cc pc = .ok (.invokestatic i, 3)) (hcn : x_Cn l D aC bs y2 cc2 nL2 rt2 rm2 As sz M none sz2 M2) (hst : st = As.reverse ++ rest)
    (K : x_V l D aC bs y cc nL rt rm Z (pc + 3) lv rest sz2 M2 (kc + rm2.cells) (ks + rm2.slots)) : x_V l D aC bs y cc nL rt rm Z pc lv st sz M kc ks := x_callS As rest hm hw hstat hfr hlo hn hW hkc hks hd hcn hst K
theorem x_callSI {r : Int32} (As rest : List Value) (hm : x_Me y2 cc2 nL2 rt2 n) (hw : Cond.methodLink y.cls i y2 ∈ x_tbl) (hstat : Cond.static y2 ∈ x_tbl) (hfr : rm2.frames + 1 ≤ rm.frames) (hlo : 8 + (nL2 + 11) + rm2.locals ≤ rm.locals) (hn : As.length = n) (hW : (rest.map fun v => v.category).sum ≤ 8) (hkc : kc + rm2.cells ≤ rm.cells) (hks : ks + rm2.slots ≤ rm.slots)
    (hd : decode cc pc = .ok (.invokestatic i, 3)) (hcn : x_Cn l D aC bs y2 cc2 nL2 rt2 rm2 As sz M (some (.int r)) sz2 M2) (hst : st = As.reverse ++ rest)
    (K : x_V l D aC bs y cc nL rt rm Z (pc + 3) lv (.int r :: rest) sz2 M2 (kc + rm2.cells) (ks + rm2.slots)) : x_V l D aC bs y cc nL rt rm Z pc lv st sz M kc ks := x_callS As rest hm hw hstat hfr hlo hn hW hkc hks hd hcn hst K
theorem x_callSJ {r : Int64} (As rest : List Value) (hm : x_Me y2 cc2 nL2 rt2 n) (hw : Cond.methodLink y.cls i y2 ∈ x_tbl) (hstat : Cond.static y2 ∈ x_tbl) (hfr : rm2.frames + 1 ≤ rm.frames) (hlo : 8 + (nL2 + 11) + rm2.locals ≤ rm.locals) (hn : As.length = n) (hW : (rest.map fun v => v.category).sum ≤ 8) (hkc : kc + rm2.cells ≤ rm.cells) (hks : ks + rm2.slots ≤ rm.slots)
    (hd : decode cc pc = .ok (.invokestatic i, 3)) (hcn : x_Cn l D aC bs y2 cc2 nL2 rt2 rm2 As sz M (some (.long r)) sz2 M2) (hst : st = As.reverse ++ rest)
    (K : x_V l D aC bs y cc nL rt rm Z (pc + 3) lv (.long r :: rest) sz2 M2 (kc + rm2.cells) (ks + rm2.slots)) : x_V l D aC bs y cc nL rt rm Z pc lv st sz M kc ks := x_callS As rest hm hw hstat hfr hlo hn hW hkc hks hd hcn hst K
theorem x_callSA {r : Nat} (As rest : List Value) (hm : x_Me y2 cc2 nL2 rt2 n) (hw : Cond.methodLink y.cls i y2 ∈ x_tbl) (hstat : Cond.static y2 ∈ x_tbl) (hfr : rm2.frames + 1 ≤ rm.frames) (hlo : 8 + (nL2 + 11) + rm2.locals ≤ rm.locals) (hn : As.length = n) (hW : (rest.map fun v => v.category).sum ≤ 8) (hkc : kc + rm2.cells ≤ rm.cells) (hks : ks + rm2.slots ≤ rm.slots)
    (hd : decode cc pc = .ok (.invokestatic i, 3)) (hcn : x_Cn l D aC bs y2 cc2 nL2 rt2 rm2 As sz M (some (.ref r)) sz2 M2) (hst : st = As.reverse ++ rest)
    (K : x_V l D aC bs y cc nL rt rm Z (pc + 3) lv (.ref r :: rest) sz2 M2 (kc + rm2.cells) (ks + rm2.slots)) : x_V l D aC bs y cc nL rt rm Z pc lv st sz M kc ks := x_callS As rest hm hw hstat hfr hlo hn hW hkc hks hd hcn hst K
theorem x_callIV  (As rest : List Value) (hm : x_Me y2 cc2 nL2 none n) (hw : Cond.methodLink y.cls i y2 ∈ x_tbl) (hin : Cond.instanceMethod y2 ∈ x_tbl) (hnm : y2.name = "<init>") (hfr : rm2.frames + 1 ≤ rm.frames) (hlo : 8 + (nL2 + 11) + rm2.locals ≤ rm.locals) (hn : As.length = n) (hW : (rest.map fun v => v.category).sum ≤ 8) (hkc : kc + rm2.cells ≤ rm.cells) (hks : ks + rm2.slots ≤ rm.slots)
    (hd : decode cc pc = .ok (.invokespecial i, 3)) (hcn : x_Cn l D aC bs y2 cc2 nL2 none rm2 (.ref b :: As) sz M none sz2 M2) (hst : st = As.reverse ++ .ref b :: rest)
    (K : x_V l D aC bs y cc nL rt rm Z (pc + 3) lv rest sz2 M2 (kc + rm2.cells) (ks + rm2.slots)) : x_V l D aC bs y cc nL rt rm Z pc lv st sz M kc ks := x_callI As rest hm hw hin hnm hfr hlo hn hW hkc hks hd hcn hst K
theorem x_callINV  (As rest : List Value) (hcl : y.cls = RX8) (hm : x_Me y2 cc2 nL2 none n) (hw : (i, y2) ∈ x_nest) (hin : Cond.instanceMethod y2 ∈ x_tbl) (hnm : y2.name = "<init>") (hfr : rm2.frames + 1 ≤ rm.frames) (hlo : 8 + (nL2 + 11) + rm2.locals ≤ rm.locals) (hn : As.length = n) (hW : (rest.map fun v => v.category).sum ≤ 8) (hkc : kc + rm2.cells ≤ rm.cells) (hks : ks + rm2.slots ≤ rm.slots)
    (hd : decode cc pc = .ok (.invokespecial i, 3)) (hcn : x_Cn l D aC bs y2 cc2 nL2 none rm2 (.ref b :: As) sz M none sz2 M2) (hst : st = As.reverse ++ .ref b :: rest)
    (K : x_V l D aC bs y cc nL rt rm Z (pc + 3) lv rest sz2 M2 (kc + rm2.cells) (ks + rm2.slots)) : x_V l D aC bs y cc nL rt rm Z pc lv st sz M kc ks := x_callIN As rest hcl hm hw hin hnm hfr hlo hn hW hkc hks hd hcn hst K
end XCALL2
section XTAB
variable {l : Launch} {D : va_G} {aC : FieldType → ClassId} {bs : Nat} {y : MethodName} {cc : ByteArray} {nL : Nat} {rt : Option FieldType} {rm : Room} {Z : List Frame → Array Value → State → State → Prop} {pc : Nat} {lv : List (Nat × Value)} {st : List Value} {sz : Nat} {M : XM} {kc ks : Nat}
theorem x_tabD {dflt lo hi : Int} {offs : Array Int} {len : Nat} {x : Int32} (tgt : Nat) (hd : decode cc pc = .ok (.tableswitch dflt lo hi offs, len)) (h : x.toInt < lo ∨ hi < x.toInt ∨ offs[(x.toInt - lo).toNat]? = some dflt) (ht : (pc : Int) + dflt = (tgt : Int)) (K : x_V l D aC bs y cc nL rt rm Z tgt lv st sz M kc ks) : x_V l D aC bs y cc nL rt rm Z pc lv (.int x :: st) sz M kc ks := by
  by_cases h1 : x.toInt < lo
  · exact x_tabOut tgt hd (Or.inl h1) ht K
  · by_cases h2 : hi < x.toInt
    · exact x_tabOut tgt hd (Or.inr h2) ht K
    · rcases h with h | h | h
      · exact absurd h h1
      · exact absurd h h2
      · exact x_tabIn x.toInt tgt hd rfl h1 h2 h ht K
end XTAB
-- the law's own: the script, its end
def x_Sc (b L : Nat) (xs : Nat → Int32) (bs : Nat) (s : State) : Prop := va_X b L xs s s.heap ∧ b < s.heap.size ∧ ¬ bs ≤ b
def x_ZL (b L : Nat) (xs : Nat → Int32) (bs : Nat) (Z : List Frame → Array Value → State → State → Prop) : List Frame → Array Value → State → State → Prop := fun below args s t => x_Sc b L xs bs s → s.heap.size ≤ bs → Z below args s t
section XLAW
variable {l : Launch} {D : va_G} {aC : FieldType → ClassId} {bs : Nat} {y : MethodName} {cc : ByteArray} {nL : Nat} {rt : Option FieldType} {rm : Room} {Z : List Frame → Array Value → State → State → Prop} {pc : Nat} {lv : List (Nat × Value)} {st : List Value} {sz : Nat} {M : XM} {kc ks : Nat} {b L : Nat} {xs : Nat → Int32}
theorem x_sld {i v : Int32} (hd : decode cc pc = .ok (.iaload, 1)) (hv : x_sc L xs i = some v) (K : x_V l D aC bs y cc nL rt rm (x_ZL b L xs bs Z) (pc + 1) lv (.int v :: st) sz M kc ks) : x_V l D aC bs y cc nL rt rm (x_ZL b L xs bs Z) pc lv (.int i :: .ref b :: st) sz M kc ks := by
  intro p e s m args below meth c H locs ls X hl hR hS
  obtain ⟨h1, rfl⟩ := x_sc_sp hv
  by_cases hf : x_Sc b L xs bs s
  · exact va_sld X.1 X.2.1 hf.1 hf.2.1 hf.2.2 hS h1 hd (K p e s m args below meth c H locs ls X hl hR hS)
  · exact fun T hT XX => ⟨_, Steps.refl _, fun h => absurd h hf⟩
theorem x_slen (hd : decode cc pc = .ok (.arraylength, 1)) (K : x_V l D aC bs y cc nL rt rm (x_ZL b L xs bs Z) (pc + 1) lv (.int (Int32.ofNat L) :: st) sz M kc ks) : x_V l D aC bs y cc nL rt rm (x_ZL b L xs bs Z) pc lv (.ref b :: st) sz M kc ks := by
  intro p e s m args below meth c H locs ls X hl hR hS
  by_cases hf : x_Sc b L xs bs s
  · exact va_slen X.1 X.2.1 hf.1 hf.2.1 hf.2.2 hS hd (K p e s m args below meth c H locs ls X hl hR hS)
  · exact fun T hT XX => ⟨_, Steps.refl _, fun h => absurd h hf⟩
end XLAW
end
