section
-- ===== PART A: goes FIRST, ahead of the names: the tables' words, and 'selects' of the private methods out of them =====
/-- a private method of a class that the tables say can be made, by its rows of tables_1 -/
def lw_okq (q : MethodName × Nat) : Prop := (q.1.cls ≠ "java/lang/invoke/MethodHandle" ∧ q.1.cls ≠ "java/lang/invoke/VarHandle") ∧ Cond.instantiable q.1.cls q.2 ∈ tables_1 ∧ Cond.privateMethod q.1 ∈ tables_1 ∧ Cond.instanceMethod q.1 ∈ tables_1
theorem lw_p0 : lw_okq (⟨"PermutationPuzzle", "currentTable", "()LPermutationPuzzle$DepthTable;"⟩, 15) := ⟨⟨by decide +kernel, by decide +kernel⟩, List.mem_of_getElem? (i := 25) (by decide +kernel), List.mem_of_getElem? (i := 259) (by decide +kernel), List.mem_of_getElem? (i := 260) (by decide +kernel)⟩
theorem lw_p1 : lw_okq (⟨"PermutationPuzzle$DepthTable", "listTurns", "(LPermutationPuzzle$Situation;)V"⟩, 7) := ⟨⟨by decide +kernel, by decide +kernel⟩, List.mem_of_getElem? (i := 131) (by decide +kernel), List.mem_of_getElem? (i := 267) (by decide +kernel), List.mem_of_getElem? (i := 268) (by decide +kernel)⟩
theorem lw_p2 : lw_okq (⟨"PermutationPuzzle$DepthTable", "isListed", "(I)Z"⟩, 7) := ⟨⟨by decide +kernel, by decide +kernel⟩, List.mem_of_getElem? (i := 131) (by decide +kernel), List.mem_of_getElem? (i := 276) (by decide +kernel), List.mem_of_getElem? (i := 277) (by decide +kernel)⟩
theorem lw_p3 : lw_okq (⟨"PermutationPuzzle$DepthTable", "clear", "(I)I"⟩, 7) := ⟨⟨by decide +kernel, by decide +kernel⟩, List.mem_of_getElem? (i := 131) (by decide +kernel), List.mem_of_getElem? (i := 280) (by decide +kernel), List.mem_of_getElem? (i := 281) (by decide +kernel)⟩
theorem lw_p4 : lw_okq (⟨"PermutationPuzzle$DepthTable", "reach", "(II)V"⟩, 7) := ⟨⟨by decide +kernel, by decide +kernel⟩, List.mem_of_getElem? (i := 131) (by decide +kernel), List.mem_of_getElem? (i := 284) (by decide +kernel), List.mem_of_getElem? (i := 285) (by decide +kernel)⟩
theorem lw_p5 : lw_okq (⟨"PermutationPuzzle$Word", "addPart", "(LPermutationPuzzle$Word;II)Z"⟩, 2) := ⟨⟨by decide +kernel, by decide +kernel⟩, List.mem_of_getElem? (i := 167) (by decide +kernel), List.mem_of_getElem? (i := 352) (by decide +kernel), List.mem_of_getElem? (i := 353) (by decide +kernel)⟩
theorem lw_p6 : lw_okq (⟨"java/lang/Throwable", "fillInStackTrace", "(I)Ljava/lang/Throwable;"⟩, 6) := ⟨⟨by decide +kernel, by decide +kernel⟩, List.mem_of_getElem? (i := 413) (by decide +kernel), List.mem_of_getElem? (i := 411) (by decide +kernel), List.mem_of_getElem? (i := 412) (by decide +kernel)⟩
theorem lw_p7 : lw_okq (⟨"PermutationPuzzle$CycleReader", "accepts", "(CI)Z"⟩, 6) := ⟨⟨by decide +kernel, by decide +kernel⟩, List.mem_of_getElem? (i := 47) (by decide +kernel), List.mem_of_getElem? (i := 533) (by decide +kernel), List.mem_of_getElem? (i := 534) (by decide +kernel)⟩
theorem lw_p8 : lw_okq (⟨"PermutationPuzzle$CycleReader", "acceptsPosition", "(II)Z"⟩, 6) := ⟨⟨by decide +kernel, by decide +kernel⟩, List.mem_of_getElem? (i := 47) (by decide +kernel), List.mem_of_getElem? (i := 540) (by decide +kernel), List.mem_of_getElem? (i := 541) (by decide +kernel)⟩
theorem lw_p9 : lw_okq (⟨"PermutationPuzzle$WordChecker", "accepts", "(C)Z"⟩, 3) := ⟨⟨by decide +kernel, by decide +kernel⟩, List.mem_of_getElem? (i := 73) (by decide +kernel), List.mem_of_getElem? (i := 595) (by decide +kernel), List.mem_of_getElem? (i := 596) (by decide +kernel)⟩
theorem lw_p10 : lw_okq (⟨"PermutationPuzzle$WordChecker", "begins", "(C)Z"⟩, 3) := ⟨⟨by decide +kernel, by decide +kernel⟩, List.mem_of_getElem? (i := 73) (by decide +kernel), List.mem_of_getElem? (i := 602) (by decide +kernel), List.mem_of_getElem? (i := 603) (by decide +kernel)⟩
theorem lw_p11 : lw_okq (⟨"PermutationPuzzle$WordChecker", "ends", "(C)Z"⟩, 3) := ⟨⟨by decide +kernel, by decide +kernel⟩, List.mem_of_getElem? (i := 73) (by decide +kernel), List.mem_of_getElem? (i := 606) (by decide +kernel), List.mem_of_getElem? (i := 607) (by decide +kernel)⟩
theorem lw_p12 : lw_okq (⟨"PermutationPuzzle$WordWriter", "writeNext", "(CLPermutationPuzzle$Word;)Z"⟩, 4) := ⟨⟨by decide +kernel, by decide +kernel⟩, List.mem_of_getElem? (i := 89) (by decide +kernel), List.mem_of_getElem? (i := 628) (by decide +kernel), List.mem_of_getElem? (i := 629) (by decide +kernel)⟩
theorem lw_p13 : lw_okq (⟨"PermutationPuzzle$WordWriter", "begin", "(I)Z"⟩, 4) := ⟨⟨by decide +kernel, by decide +kernel⟩, List.mem_of_getElem? (i := 89) (by decide +kernel), List.mem_of_getElem? (i := 635) (by decide +kernel), List.mem_of_getElem? (i := 636) (by decide +kernel)⟩
theorem lw_p14 : lw_okq (⟨"PermutationPuzzle$WordWriter", "divide", "(I)Z"⟩, 4) := ⟨⟨by decide +kernel, by decide +kernel⟩, List.mem_of_getElem? (i := 89) (by decide +kernel), List.mem_of_getElem? (i := 639) (by decide +kernel), List.mem_of_getElem? (i := 640) (by decide +kernel)⟩
theorem lw_p15 : lw_okq (⟨"PermutationPuzzle$WordWriter", "end", "(ZLPermutationPuzzle$Word;)Z"⟩, 4) := ⟨⟨by decide +kernel, by decide +kernel⟩, List.mem_of_getElem? (i := 89) (by decide +kernel), List.mem_of_getElem? (i := 643) (by decide +kernel), List.mem_of_getElem? (i := 644) (by decide +kernel)⟩
def lw_privs_1 : List (MethodName × Nat) := [(⟨"PermutationPuzzle", "currentTable", "()LPermutationPuzzle$DepthTable;"⟩, 15), (⟨"PermutationPuzzle$DepthTable", "listTurns", "(LPermutationPuzzle$Situation;)V"⟩, 7), (⟨"PermutationPuzzle$DepthTable", "isListed", "(I)Z"⟩, 7), (⟨"PermutationPuzzle$DepthTable", "clear", "(I)I"⟩, 7), (⟨"PermutationPuzzle$DepthTable", "reach", "(II)V"⟩, 7), (⟨"PermutationPuzzle$Word", "addPart", "(LPermutationPuzzle$Word;II)Z"⟩, 2), (⟨"java/lang/Throwable", "fillInStackTrace", "(I)Ljava/lang/Throwable;"⟩, 6), (⟨"PermutationPuzzle$CycleReader", "accepts", "(CI)Z"⟩, 6), (⟨"PermutationPuzzle$CycleReader", "acceptsPosition", "(II)Z"⟩, 6), (⟨"PermutationPuzzle$WordChecker", "accepts", "(C)Z"⟩, 3), (⟨"PermutationPuzzle$WordChecker", "begins", "(C)Z"⟩, 3), (⟨"PermutationPuzzle$WordChecker", "ends", "(C)Z"⟩, 3), (⟨"PermutationPuzzle$WordWriter", "writeNext", "(CLPermutationPuzzle$Word;)Z"⟩, 4), (⟨"PermutationPuzzle$WordWriter", "begin", "(I)Z"⟩, 4), (⟨"PermutationPuzzle$WordWriter", "divide", "(I)Z"⟩, 4), (⟨"PermutationPuzzle$WordWriter", "end", "(ZLPermutationPuzzle$Word;)Z"⟩, 4)]
theorem lw_r1 : ∀ q ∈ lw_privs_1, lw_okq q := List.forall_mem_cons.mpr ⟨lw_p0, List.forall_mem_cons.mpr ⟨lw_p1, List.forall_mem_cons.mpr ⟨lw_p2, List.forall_mem_cons.mpr ⟨lw_p3, List.forall_mem_cons.mpr ⟨lw_p4, List.forall_mem_cons.mpr ⟨lw_p5, List.forall_mem_cons.mpr ⟨lw_p6, List.forall_mem_cons.mpr ⟨lw_p7, List.forall_mem_cons.mpr ⟨lw_p8, List.forall_mem_cons.mpr ⟨lw_p9, List.forall_mem_cons.mpr ⟨lw_p10, List.forall_mem_cons.mpr ⟨lw_p11, List.forall_mem_cons.mpr ⟨lw_p12, List.forall_mem_cons.mpr ⟨lw_p13, List.forall_mem_cons.mpr ⟨lw_p14, List.forall_mem_cons.mpr ⟨lw_p15, fun _ h => absurd h List.not_mem_nil⟩⟩⟩⟩⟩⟩⟩⟩⟩⟩⟩⟩⟩⟩⟩⟩
theorem lw_p16 : lw_okq (⟨"PermutationPuzzle$Word", "addInverseOfPart", "(LPermutationPuzzle$Word;II)Z"⟩, 2) := ⟨⟨by decide +kernel, by decide +kernel⟩, List.mem_of_getElem? (i := 167) (by decide +kernel), List.mem_of_getElem? (i := 651) (by decide +kernel), List.mem_of_getElem? (i := 652) (by decide +kernel)⟩
theorem lw_p17 : lw_okq (⟨"PermutationPuzzle", "keepDraft", "(I)I"⟩, 15) := ⟨⟨by decide +kernel, by decide +kernel⟩, List.mem_of_getElem? (i := 25) (by decide +kernel), List.mem_of_getElem? (i := 668) (by decide +kernel), List.mem_of_getElem? (i := 669) (by decide +kernel)⟩
theorem lw_p18 : lw_okq (⟨"PermutationPuzzle", "checkPosition", "(I)V"⟩, 15) := ⟨⟨by decide +kernel, by decide +kernel⟩, List.mem_of_getElem? (i := 25) (by decide +kernel), List.mem_of_getElem? (i := 709) (by decide +kernel), List.mem_of_getElem? (i := 710) (by decide +kernel)⟩
theorem lw_p19 : lw_okq (⟨"PermutationPuzzle", "tokenOn", "(I)I"⟩, 15) := ⟨⟨by decide +kernel, by decide +kernel⟩, List.mem_of_getElem? (i := 25) (by decide +kernel), List.mem_of_getElem? (i := 840) (by decide +kernel), List.mem_of_getElem? (i := 841) (by decide +kernel)⟩
theorem lw_p20 : lw_okq (⟨"PermutationPuzzle", "presentDepth", "()I"⟩, 15) := ⟨⟨by decide +kernel, by decide +kernel⟩, List.mem_of_getElem? (i := 25) (by decide +kernel), List.mem_of_getElem? (i := 858) (by decide +kernel), List.mem_of_getElem? (i := 859) (by decide +kernel)⟩
theorem lw_p21 : lw_okq (⟨"PermutationPuzzle", "firstLetterTo", "(II)I"⟩, 15) := ⟨⟨by decide +kernel, by decide +kernel⟩, List.mem_of_getElem? (i := 25) (by decide +kernel), List.mem_of_getElem? (i := 874) (by decide +kernel), List.mem_of_getElem? (i := 875) (by decide +kernel)⟩
theorem lw_p22 : lw_okq (⟨"PermutationPuzzle$CommutatorSearch", "listWords", "(LPermutationPuzzle$Situation;)V"⟩, 5) := ⟨⟨by decide +kernel, by decide +kernel⟩, List.mem_of_getElem? (i := 109) (by decide +kernel), List.mem_of_getElem? (i := 902) (by decide +kernel), List.mem_of_getElem? (i := 903) (by decide +kernel)⟩
theorem lw_p23 : lw_okq (⟨"PermutationPuzzle$CommutatorSearch", "findAmong", "(III)Z"⟩, 5) := ⟨⟨by decide +kernel, by decide +kernel⟩, List.mem_of_getElem? (i := 109) (by decide +kernel), List.mem_of_getElem? (i := 909) (by decide +kernel), List.mem_of_getElem? (i := 910) (by decide +kernel)⟩
theorem lw_p24 : lw_okq (⟨"PermutationPuzzle$CommutatorSearch", "startOf", "(I)I"⟩, 5) := ⟨⟨by decide +kernel, by decide +kernel⟩, List.mem_of_getElem? (i := 109) (by decide +kernel), List.mem_of_getElem? (i := 913) (by decide +kernel), List.mem_of_getElem? (i := 914) (by decide +kernel)⟩
theorem lw_p25 : lw_okq (⟨"PermutationPuzzle$CommutatorSearch", "writeWord", "(ILPermutationPuzzle$Word;)V"⟩, 5) := ⟨⟨by decide +kernel, by decide +kernel⟩, List.mem_of_getElem? (i := 109) (by decide +kernel), List.mem_of_getElem? (i := 922) (by decide +kernel), List.mem_of_getElem? (i := 923) (by decide +kernel)⟩
theorem lw_p26 : lw_okq (⟨"PermutationPuzzle", "scaleFloat", "(II)I"⟩, 15) := ⟨⟨by decide +kernel, by decide +kernel⟩, List.mem_of_getElem? (i := 25) (by decide +kernel), List.mem_of_getElem? (i := 956) (by decide +kernel), List.mem_of_getElem? (i := 957) (by decide +kernel)⟩
theorem lw_p27 : lw_okq (⟨"PermutationPuzzle", "scaleDouble", "(II)I"⟩, 15) := ⟨⟨by decide +kernel, by decide +kernel⟩, List.mem_of_getElem? (i := 25) (by decide +kernel), List.mem_of_getElem? (i := 962) (by decide +kernel), List.mem_of_getElem? (i := 963) (by decide +kernel)⟩
theorem lw_p28 : lw_okq (⟨"PermutationPuzzleModel", "fails", "(I)I"⟩, 35) := ⟨⟨by decide +kernel, by decide +kernel⟩, List.mem_of_getElem? (i := 986) (by decide +kernel), List.mem_of_getElem? (i := 1110) (by decide +kernel), List.mem_of_getElem? (i := 1111) (by decide +kernel)⟩
theorem lw_p29 : lw_okq (⟨"PermutationPuzzleModel", "done", "(I)I"⟩, 35) := ⟨⟨by decide +kernel, by decide +kernel⟩, List.mem_of_getElem? (i := 986) (by decide +kernel), List.mem_of_getElem? (i := 1114) (by decide +kernel), List.mem_of_getElem? (i := 1115) (by decide +kernel)⟩
theorem lw_p30 : lw_okq (⟨"PermutationPuzzleModel", "readsCycles", "()Z"⟩, 35) := ⟨⟨by decide +kernel, by decide +kernel⟩, List.mem_of_getElem? (i := 986) (by decide +kernel), List.mem_of_getElem? (i := 1130) (by decide +kernel), List.mem_of_getElem? (i := 1131) (by decide +kernel)⟩
theorem lw_p31 : lw_okq (⟨"PermutationPuzzleModel", "here", "()I"⟩, 35) := ⟨⟨by decide +kernel, by decide +kernel⟩, List.mem_of_getElem? (i := 986) (by decide +kernel), List.mem_of_getElem? (i := 1134) (by decide +kernel), List.mem_of_getElem? (i := 1135) (by decide +kernel)⟩
def lw_privs_2 : List (MethodName × Nat) := [(⟨"PermutationPuzzle$Word", "addInverseOfPart", "(LPermutationPuzzle$Word;II)Z"⟩, 2), (⟨"PermutationPuzzle", "keepDraft", "(I)I"⟩, 15), (⟨"PermutationPuzzle", "checkPosition", "(I)V"⟩, 15), (⟨"PermutationPuzzle", "tokenOn", "(I)I"⟩, 15), (⟨"PermutationPuzzle", "presentDepth", "()I"⟩, 15), (⟨"PermutationPuzzle", "firstLetterTo", "(II)I"⟩, 15), (⟨"PermutationPuzzle$CommutatorSearch", "listWords", "(LPermutationPuzzle$Situation;)V"⟩, 5), (⟨"PermutationPuzzle$CommutatorSearch", "findAmong", "(III)Z"⟩, 5), (⟨"PermutationPuzzle$CommutatorSearch", "startOf", "(I)I"⟩, 5), (⟨"PermutationPuzzle$CommutatorSearch", "writeWord", "(ILPermutationPuzzle$Word;)V"⟩, 5), (⟨"PermutationPuzzle", "scaleFloat", "(II)I"⟩, 15), (⟨"PermutationPuzzle", "scaleDouble", "(II)I"⟩, 15), (⟨"PermutationPuzzleModel", "fails", "(I)I"⟩, 35), (⟨"PermutationPuzzleModel", "done", "(I)I"⟩, 35), (⟨"PermutationPuzzleModel", "readsCycles", "()Z"⟩, 35), (⟨"PermutationPuzzleModel", "here", "()I"⟩, 35)]
theorem lw_r2 : ∀ q ∈ lw_privs_2, lw_okq q := List.forall_mem_cons.mpr ⟨lw_p16, List.forall_mem_cons.mpr ⟨lw_p17, List.forall_mem_cons.mpr ⟨lw_p18, List.forall_mem_cons.mpr ⟨lw_p19, List.forall_mem_cons.mpr ⟨lw_p20, List.forall_mem_cons.mpr ⟨lw_p21, List.forall_mem_cons.mpr ⟨lw_p22, List.forall_mem_cons.mpr ⟨lw_p23, List.forall_mem_cons.mpr ⟨lw_p24, List.forall_mem_cons.mpr ⟨lw_p25, List.forall_mem_cons.mpr ⟨lw_p26, List.forall_mem_cons.mpr ⟨lw_p27, List.forall_mem_cons.mpr ⟨lw_p28, List.forall_mem_cons.mpr ⟨lw_p29, List.forall_mem_cons.mpr ⟨lw_p30, List.forall_mem_cons.mpr ⟨lw_p31, fun _ h => absurd h List.not_mem_nil⟩⟩⟩⟩⟩⟩⟩⟩⟩⟩⟩⟩⟩⟩⟩⟩
theorem lw_p32 : lw_okq (⟨"PermutationPuzzleModel", "readsCycle", "()Z"⟩, 35) := ⟨⟨by decide +kernel, by decide +kernel⟩, List.mem_of_getElem? (i := 986) (by decide +kernel), List.mem_of_getElem? (i := 1138) (by decide +kernel), List.mem_of_getElem? (i := 1139) (by decide +kernel)⟩
theorem lw_p33 : lw_okq (⟨"PermutationPuzzleModel", "isPosition", "(I)Z"⟩, 35) := ⟨⟨by decide +kernel, by decide +kernel⟩, List.mem_of_getElem? (i := 986) (by decide +kernel), List.mem_of_getElem? (i := 1142) (by decide +kernel), List.mem_of_getElem? (i := 1143) (by decide +kernel)⟩
theorem lw_p34 : lw_okq (⟨"PermutationPuzzleModel", "clears", "()V"⟩, 35) := ⟨⟨by decide +kernel, by decide +kernel⟩, List.mem_of_getElem? (i := 986) (by decide +kernel), List.mem_of_getElem? (i := 1153) (by decide +kernel), List.mem_of_getElem? (i := 1154) (by decide +kernel)⟩
theorem lw_p35 : lw_okq (⟨"PermutationPuzzleModel", "comes", "(I)V"⟩, 35) := ⟨⟨by decide +kernel, by decide +kernel⟩, List.mem_of_getElem? (i := 986) (by decide +kernel), List.mem_of_getElem? (i := 1163) (by decide +kernel), List.mem_of_getElem? (i := 1164) (by decide +kernel)⟩
theorem lw_p36 : lw_okq (⟨"PermutationPuzzleModel", "comesBack", "(II)V"⟩, 35) := ⟨⟨by decide +kernel, by decide +kernel⟩, List.mem_of_getElem? (i := 986) (by decide +kernel), List.mem_of_getElem? (i := 1167) (by decide +kernel), List.mem_of_getElem? (i := 1168) (by decide +kernel)⟩
theorem lw_p37 : lw_okq (⟨"PermutationPuzzleModel", "readsBehind", "(I)V"⟩, 35) := ⟨⟨by decide +kernel, by decide +kernel⟩, List.mem_of_getElem? (i := 986) (by decide +kernel), List.mem_of_getElem? (i := 1171) (by decide +kernel), List.mem_of_getElem? (i := 1172) (by decide +kernel)⟩
theorem lw_p38 : lw_okq (⟨"PermutationPuzzleModel", "turns", "(I)V"⟩, 35) := ⟨⟨by decide +kernel, by decide +kernel⟩, List.mem_of_getElem? (i := 986) (by decide +kernel), List.mem_of_getElem? (i := 1175) (by decide +kernel), List.mem_of_getElem? (i := 1176) (by decide +kernel)⟩
theorem lw_p39 : lw_okq (⟨"PermutationPuzzleModel", "keeps", "(I)I"⟩, 35) := ⟨⟨by decide +kernel, by decide +kernel⟩, List.mem_of_getElem? (i := 986) (by decide +kernel), List.mem_of_getElem? (i := 1179) (by decide +kernel), List.mem_of_getElem? (i := 1180) (by decide +kernel)⟩
theorem lw_p40 : lw_okq (⟨"PermutationPuzzleModel", "comesWord", "(IZ)V"⟩, 35) := ⟨⟨by decide +kernel, by decide +kernel⟩, List.mem_of_getElem? (i := 986) (by decide +kernel), List.mem_of_getElem? (i := 1203) (by decide +kernel), List.mem_of_getElem? (i := 1204) (by decide +kernel)⟩
theorem lw_p41 : lw_okq (⟨"PermutationPuzzleModel", "cycleOf", "(II)I"⟩, 35) := ⟨⟨by decide +kernel, by decide +kernel⟩, List.mem_of_getElem? (i := 986) (by decide +kernel), List.mem_of_getElem? (i := 1219) (by decide +kernel), List.mem_of_getElem? (i := 1220) (by decide +kernel)⟩
theorem lw_p42 : lw_okq (⟨"PermutationPuzzleModel", "ledBy", "(II)I"⟩, 35) := ⟨⟨by decide +kernel, by decide +kernel⟩, List.mem_of_getElem? (i := 986) (by decide +kernel), List.mem_of_getElem? (i := 1223) (by decide +kernel), List.mem_of_getElem? (i := 1224) (by decide +kernel)⟩
theorem lw_p43 : lw_okq (⟨"PermutationPuzzleModel", "not", "(I)Z"⟩, 35) := ⟨⟨by decide +kernel, by decide +kernel⟩, List.mem_of_getElem? (i := 986) (by decide +kernel), List.mem_of_getElem? (i := 1231) (by decide +kernel), List.mem_of_getElem? (i := 1232) (by decide +kernel)⟩
theorem lw_p44 : lw_okq (⟨"PermutationPuzzleModel", "so", "(Z)Z"⟩, 35) := ⟨⟨by decide +kernel, by decide +kernel⟩, List.mem_of_getElem? (i := 986) (by decide +kernel), List.mem_of_getElem? (i := 1235) (by decide +kernel), List.mem_of_getElem? (i := 1236) (by decide +kernel)⟩
theorem lw_p45 : lw_okq (⟨"PermutationPuzzleModel", "depthNow", "()I"⟩, 35) := ⟨⟨by decide +kernel, by decide +kernel⟩, List.mem_of_getElem? (i := 986) (by decide +kernel), List.mem_of_getElem? (i := 1263) (by decide +kernel), List.mem_of_getElem? (i := 1264) (by decide +kernel)⟩
theorem lw_p46 : lw_okq (⟨"PermutationPuzzleModel", "tellDepths", "()V"⟩, 35) := ⟨⟨by decide +kernel, by decide +kernel⟩, List.mem_of_getElem? (i := 986) (by decide +kernel), List.mem_of_getElem? (i := 1267) (by decide +kernel), List.mem_of_getElem? (i := 1268) (by decide +kernel)⟩
theorem lw_p47 : lw_okq (⟨"PermutationPuzzleModel", "numberOf", "([I)I"⟩, 35) := ⟨⟨by decide +kernel, by decide +kernel⟩, List.mem_of_getElem? (i := 986) (by decide +kernel), List.mem_of_getElem? (i := 1271) (by decide +kernel), List.mem_of_getElem? (i := 1272) (by decide +kernel)⟩
def lw_privs_3 : List (MethodName × Nat) := [(⟨"PermutationPuzzleModel", "readsCycle", "()Z"⟩, 35), (⟨"PermutationPuzzleModel", "isPosition", "(I)Z"⟩, 35), (⟨"PermutationPuzzleModel", "clears", "()V"⟩, 35), (⟨"PermutationPuzzleModel", "comes", "(I)V"⟩, 35), (⟨"PermutationPuzzleModel", "comesBack", "(II)V"⟩, 35), (⟨"PermutationPuzzleModel", "readsBehind", "(I)V"⟩, 35), (⟨"PermutationPuzzleModel", "turns", "(I)V"⟩, 35), (⟨"PermutationPuzzleModel", "keeps", "(I)I"⟩, 35), (⟨"PermutationPuzzleModel", "comesWord", "(IZ)V"⟩, 35), (⟨"PermutationPuzzleModel", "cycleOf", "(II)I"⟩, 35), (⟨"PermutationPuzzleModel", "ledBy", "(II)I"⟩, 35), (⟨"PermutationPuzzleModel", "not", "(I)Z"⟩, 35), (⟨"PermutationPuzzleModel", "so", "(Z)Z"⟩, 35), (⟨"PermutationPuzzleModel", "depthNow", "()I"⟩, 35), (⟨"PermutationPuzzleModel", "tellDepths", "()V"⟩, 35), (⟨"PermutationPuzzleModel", "numberOf", "([I)I"⟩, 35)]
theorem lw_r3 : ∀ q ∈ lw_privs_3, lw_okq q := List.forall_mem_cons.mpr ⟨lw_p32, List.forall_mem_cons.mpr ⟨lw_p33, List.forall_mem_cons.mpr ⟨lw_p34, List.forall_mem_cons.mpr ⟨lw_p35, List.forall_mem_cons.mpr ⟨lw_p36, List.forall_mem_cons.mpr ⟨lw_p37, List.forall_mem_cons.mpr ⟨lw_p38, List.forall_mem_cons.mpr ⟨lw_p39, List.forall_mem_cons.mpr ⟨lw_p40, List.forall_mem_cons.mpr ⟨lw_p41, List.forall_mem_cons.mpr ⟨lw_p42, List.forall_mem_cons.mpr ⟨lw_p43, List.forall_mem_cons.mpr ⟨lw_p44, List.forall_mem_cons.mpr ⟨lw_p45, List.forall_mem_cons.mpr ⟨lw_p46, List.forall_mem_cons.mpr ⟨lw_p47, fun _ h => absurd h List.not_mem_nil⟩⟩⟩⟩⟩⟩⟩⟩⟩⟩⟩⟩⟩⟩⟩⟩
theorem lw_p48 : lw_okq (⟨"PermutationPuzzleModel", "packed", "([I)I"⟩, 35) := ⟨⟨by decide +kernel, by decide +kernel⟩, List.mem_of_getElem? (i := 986) (by decide +kernel), List.mem_of_getElem? (i := 1275) (by decide +kernel), List.mem_of_getElem? (i := 1276) (by decide +kernel)⟩
theorem lw_p49 : lw_okq (⟨"PermutationPuzzleModel", "unpacks", "(I)V"⟩, 35) := ⟨⟨by decide +kernel, by decide +kernel⟩, List.mem_of_getElem? (i := 986) (by decide +kernel), List.mem_of_getElem? (i := 1279) (by decide +kernel), List.mem_of_getElem? (i := 1280) (by decide +kernel)⟩
theorem lw_p50 : lw_okq (⟨"PermutationPuzzleModel", "isLetter", "(I)Z"⟩, 35) := ⟨⟨by decide +kernel, by decide +kernel⟩, List.mem_of_getElem? (i := 986) (by decide +kernel), List.mem_of_getElem? (i := 1283) (by decide +kernel), List.mem_of_getElem? (i := 1284) (by decide +kernel)⟩
theorem lw_p51 : lw_okq (⟨"PermutationPuzzleModel", "moves", "(I)V"⟩, 35) := ⟨⟨by decide +kernel, by decide +kernel⟩, List.mem_of_getElem? (i := 986) (by decide +kernel), List.mem_of_getElem? (i := 1287) (by decide +kernel), List.mem_of_getElem? (i := 1288) (by decide +kernel)⟩
theorem lw_p52 : lw_okq (⟨"PermutationPuzzleModel", "finds", "(IIII)Z"⟩, 35) := ⟨⟨by decide +kernel, by decide +kernel⟩, List.mem_of_getElem? (i := 986) (by decide +kernel), List.mem_of_getElem? (i := 1319) (by decide +kernel), List.mem_of_getElem? (i := 1320) (by decide +kernel)⟩
theorem lw_p53 : lw_okq (⟨"PermutationPuzzleModel", "isShort", "(II)Z"⟩, 35) := ⟨⟨by decide +kernel, by decide +kernel⟩, List.mem_of_getElem? (i := 986) (by decide +kernel), List.mem_of_getElem? (i := 1323) (by decide +kernel), List.mem_of_getElem? (i := 1324) (by decide +kernel)⟩
theorem lw_p54 : lw_okq (⟨"PermutationPuzzleModel", "movedBy", "(IIII)I"⟩, 35) := ⟨⟨by decide +kernel, by decide +kernel⟩, List.mem_of_getElem? (i := 986) (by decide +kernel), List.mem_of_getElem? (i := 1327) (by decide +kernel), List.mem_of_getElem? (i := 1328) (by decide +kernel)⟩
theorem lw_p55 : lw_okq (⟨"PermutationPuzzleModel", "shortLed", "(IIZI)I"⟩, 35) := ⟨⟨by decide +kernel, by decide +kernel⟩, List.mem_of_getElem? (i := 986) (by decide +kernel), List.mem_of_getElem? (i := 1331) (by decide +kernel), List.mem_of_getElem? (i := 1332) (by decide +kernel)⟩
theorem lw_p56 : lw_okq (⟨"PermutationPuzzleModel", "comesShort", "(IIZ)V"⟩, 35) := ⟨⟨by decide +kernel, by decide +kernel⟩, List.mem_of_getElem? (i := 986) (by decide +kernel), List.mem_of_getElem? (i := 1335) (by decide +kernel), List.mem_of_getElem? (i := 1336) (by decide +kernel)⟩
def lw_privs_4 : List (MethodName × Nat) := [(⟨"PermutationPuzzleModel", "packed", "([I)I"⟩, 35), (⟨"PermutationPuzzleModel", "unpacks", "(I)V"⟩, 35), (⟨"PermutationPuzzleModel", "isLetter", "(I)Z"⟩, 35), (⟨"PermutationPuzzleModel", "moves", "(I)V"⟩, 35), (⟨"PermutationPuzzleModel", "finds", "(IIII)Z"⟩, 35), (⟨"PermutationPuzzleModel", "isShort", "(II)Z"⟩, 35), (⟨"PermutationPuzzleModel", "movedBy", "(IIII)I"⟩, 35), (⟨"PermutationPuzzleModel", "shortLed", "(IIZI)I"⟩, 35), (⟨"PermutationPuzzleModel", "comesShort", "(IIZ)V"⟩, 35)]
theorem lw_r4 : ∀ q ∈ lw_privs_4, lw_okq q := List.forall_mem_cons.mpr ⟨lw_p48, List.forall_mem_cons.mpr ⟨lw_p49, List.forall_mem_cons.mpr ⟨lw_p50, List.forall_mem_cons.mpr ⟨lw_p51, List.forall_mem_cons.mpr ⟨lw_p52, List.forall_mem_cons.mpr ⟨lw_p53, List.forall_mem_cons.mpr ⟨lw_p54, List.forall_mem_cons.mpr ⟨lw_p55, List.forall_mem_cons.mpr ⟨lw_p56, fun _ h => absurd h List.not_mem_nil⟩⟩⟩⟩⟩⟩⟩⟩⟩
def lw_privs : List (MethodName × Nat) := lw_privs_1 ++ (lw_privs_2 ++ (lw_privs_3 ++ (lw_privs_4)))
def lw_tbl : List Cond := k2_sels lw_privs ++ tables_1
theorem lw_privs_ok : ∀ q ∈ lw_privs, lw_okq q := by
  show ∀ q ∈ lw_privs_1 ++ (lw_privs_2 ++ (lw_privs_3 ++ (lw_privs_4))), lw_okq q
  exact List.forall_mem_append.mpr ⟨lw_r1, List.forall_mem_append.mpr ⟨lw_r2, List.forall_mem_append.mpr ⟨lw_r3, lw_r4⟩⟩⟩
/-- the streams that the claim lets the run draw from -/
abbrev lw_cs : List Choice := [Jvm.Choice.named "NaN.bits"]
theorem lw_bits : nanBits ∈ lw_cs := by first | decide | exact List.mem_cons_self | simp [lw_cs, nanBits]
-- ===== end of PART A; then your names; then what follows =====
end
section
/-! ===== BEGIN words of one list among another's, by their places ===== -/
theorem goodIn_r {big : List Cond} (ws : List Cond) (ps : List Nat) (hp : ws = ps.filterMap (fun i => big[i]?)) (h : ws.all goodWord = true) : GoodIn big ws := by
  intro w hw
  have h1 := List.all_eq_true.mp h w hw
  rw [hp] at hw
  obtain ⟨i, -, hi⟩ := List.mem_filterMap.mp hw
  have hm : w ∈ big := by first | exact List.mem_of_getElem? hi | exact List.getElem?_mem hi
  exact ⟨hm, good_of_word h1⟩
theorem goodIn_app {big a b : List Cond} (ha : GoodIn big a) (hb : GoodIn big b) : GoodIn big (a ++ b) := fun w h => (List.mem_append.mp h).elim (ha w) (hb w)
theorem goodIn_ca {big a b : List Cond} {c : Cond} (ha : GoodIn big (c :: a)) (hb : GoodIn big b) : GoodIn big (c :: (a ++ b)) := fun w h => (List.mem_cons.mp h).elim (fun e => ha w (List.mem_cons.mpr (Or.inl e))) (fun h => (List.mem_append.mp h).elim (fun h => ha w (List.mem_cons.mpr (Or.inr h))) (hb w))
theorem goodIn_sub {big ws : List Cond} (hm : ∀ w ∈ ws, w ∈ big) (h : ws.all goodWord = true) : GoodIn big ws := fun w hw => ⟨hm w hw, good_of_word (List.all_eq_true.mp h w hw)⟩
/-! ===== END ===== -/

/-! ===== BEGIN exceptions that leave a method, and their catching by the caller (launches without stack traces) ===== -/
section VXA
/-! The laws vx_back, vx_callV, vx_callS, vx_callSW, vx_throw0, vx_throwS follow proofs of the library, with one case more: JvmDerived/Free/Laws.lean (Back.of_free), Shelf42/LK1.lean (callV, callS), Shelf/KitTraced.lean (throwNew0V, throwNewS). -/
/-- where a method has thrown q: the class by its name, the cell, what was written, the world -/
def vx_T (XC : String → State → State → Prop) (st : State) (q : Addr) (t : State) (mc ms : Nat) (free : Addr → Prop) : Prop :=
  ∃ (E : String) (ce : Cell) (L : List Loc), XC E st t ∧ t.heap[q]? = some ce ∧ ce.vm = .none ∧ st.vm.findClass E = some ce.cls ∧ st.WarmedH t.vm ∧ st.sameButNew ({ t with vm := st.vm } : State) L mc ms ∧ ∀ z ∈ L, free z.base
def vx_Q (Qc : Array Value → State → Outcome → State → Prop) (XC : String → State → State → Prop) (mc ms : Nat) (free : Addr → Prop) : Array Value → State → Outcome → State → Prop := fun a st o t =>
  (Qc a st o t ∧ ∃ L, FrameEnd st o t L mc ms ∧ ∀ q ∈ L, free q.base) ∨ ∃ q, o = .threw q ∧ vx_T XC st q t mc ms free
/-- a callee that returns or throws -/
def vx_Met (l : Launch) (y : MethodName) (ws : List Cond) (rm : Room) (Pc : Array Value → State → Prop) (Qc : Array Value → State → Outcome → State → Prop) (XC : String → State → State → Prop) (mc ms : Nat) (free : Addr → Prop) : Prop :=
  MetFree l y (headSpec ws rm) Pc (fun _ _ _ _ _ => True) (vx_Q Qc XC mc ms free)
def vx_Post (XC : String → State → State → Prop) (mc ms : Nat) (free : Addr → Prop) : Pt → Array Value → Addr → Pt → Prop := fun A a q B =>
  ∃ (g : JFrame) (mk : MethodId) (t : State) (L : List Loc) (E : String) (ce : Cell), B.U.heap = t.heap ∧ B.U.vm = t.vm ∧ XC E (A.U.calling g mk a) t ∧ t.heap[q]? = some ce ∧ ce.vm = .none ∧ A.U.vm.findClass E = some ce.cls ∧ B.locs = A.locs ++ L ∧ (∀ z ∈ L, free z.base) ∧ B.cells = A.cells + mc ∧ B.slots = A.slots + ms
def vx_Back (l : Launch) (R : Room) (p : Program) (e : Env) (below : List Frame) (s : State) (sargs : Array Value) (y : MethodName) (len W9 : Nat)
    (Pre : Pt → Array Value → Prop) (Post : Pt → Array Value → Option Value → Pt → Prop) (PostX : Pt → Array Value → Addr → Pt → Prop) : Prop :=
  ∀ (m : MethodId) (meth : Method) (c : Code) (A : Pt) (g : JFrame) (ig : Instr) (mk : MethodId) (a : Array Value),
    Stand p l e R s m sargs below meth c A.U A.locs A.cells A.slots → g.method = m → g.locals.size = c.maxLocals → decode c.code g.pc = .ok (ig, len) →
    2 * g.monitorRoom + (g.stack.map fun v => v.category).sum ≤ W9 → A.U.methodNamed? y = some mk → Pre A a →
    (∃ (v : Option Value) (B : Pt), Stand p l e R s m sargs below meth c B.U B.locs B.cells B.slots ∧ Post A a v B ∧
      Steps p.tables e below (doInvoke e (A.U.setTop g) [] mk a).1 (B.U.setTop { g with pc := g.pc + len, stack := v.toList ++ g.stack })) ∨
    (∃ (q : Addr) (B : Pt), Stand p l e R s m sargs below meth c B.U B.locs B.cells B.slots ∧ PostX A a q B ∧
      Steps p.tables e below (doInvoke e (A.U.setTop g) [] mk a).1 ((B.U.setTop g).pushFrame (.throwing q)))
section Payer
variable {l : Launch} {R : Room} {p : Program} {e : Env} {below : List Frame} {s : State} {sargs : Array Value} {y : MethodName} {len W9 : Nat}
theorem vx_back {ws : List Cond} {rm : Room} {Pc : Array Value → State → Prop} {Qc : Array Value → State → Outcome → State → Prop} {XC : String → State → State → Prop} {mc ms : Nat} {free : Addr → Prop} {bytes : ByteArray} {maxL : Nat} {ret : Option FieldType}
    (hM : vx_Met l y ws rm Pc Qc XC mc ms free) (hblind : FrameBlind Pc) (hrc : rm.cells = mc) (hrs : rm.slots = ms)
    (hframes : rm.frames + 1 ≤ R.frames) (hlocals : W9 + (maxL + 11) + rm.locals ≤ R.locals)
    (hws : ∀ w ∈ ws, ∀ a' U, s.WarmedH U.vm → w.before a' U = true) (hcode : Cond.code y bytes maxL ret ∈ ws) (hinit : ∀ a' U, s.WarmedH U.vm → (Cond.initialized y.cls).before a' U = true) :
    vx_Back l R p e below s sargs y len W9 (PreOf R mc ms Pc) (PostOf Qc mc ms free) (vx_Post XC mc ms free) := by
  intro m meth c A g ig mk a X hg hsize hdg hW hn hp
  have h1 : (headSpec ws rm).pre.before a A.U = true := atoms_intro fun w hw => hws w hw _ _ X.warmed
  have h2 : (Cond.code y bytes maxL ret).before a A.U = true := hws _ hcode _ _ X.warmed
  have h3 : (Cond.initialized y.cls).before a A.U = true := hinit _ _ X.warmed
  have h4 : A.cells + (headSpec ws rm).room.cells ≤ R.cells := by rw [show (headSpec ws rm).room.cells = mc from hrc]; exact hp.1
  have h5 : A.slots + (headSpec ws rm).room.slots ≤ R.slots := by rw [show (headSpec ws rm).room.slots = ms from hrs]; exact hp.2.1
  have hPc : Pc a (A.U.calling g mk a) := hblind _ _ _ _ hp.2.2
  obtain ⟨U, Ls, c0, s0⟩ := A
  dsimp only [Pt.U, Pt.locs, Pt.cells, Pt.slots] at h1 h2 h3 h4 h5 X hn hPc ⊢
  obtain ⟨methY, cY, hmY, hcY, -, hlY, -, -, -, -⟩ := Cond.code_spec hn h2
  obtain ⟨kY, hkY, -⟩ := className_of_methodNamed hn
  have hinitY : kY.init = .initialized := Cond.initialized_spec (findClass_of_methodNamed hn) hkY h3
  have h : At U g.method c below := by rw [hg]; exact X.here
  have hlocals9 : W9 + (maxL + 11) + (headSpec ws rm).room.locals ≤ R.locals := hlocals
  have happ : (headSpec ws rm).appliesLoose y e.platform (U.calling g mk a) = true :=
    Spec.appliesLoose_calling (g := g) h hdg hn hkY hinitY
      (X.room_calling (g := g) (R' := (headSpec ws rm).room) hsize hmY hcY hframes (by rw [hlY]; omega) h4 h5) h1
  obtain ⟨mid, hmid⟩ := h.above
  have hfr : (U.setTop g).frames = (.java g :: mid) ++ below := by rw [State.frames_setTop' g h.top, hmid]; rfl
  obtain ⟨o, s₂, hsteps, -, hend, hq⟩ := Steps.callFree hM p X.admits X.cas X.clock (acts := []) hfr happ hPc trivial
  have hq' : vx_Q Qc XC mc ms free a (U.calling g mk a) o s₂ := hq
  rw [State.frames_setTop' g h.top] at hend
  obtain ⟨g₀, hg0⟩ := Option.isSome_iff_exists.mp h.top
  obtain ⟨r, hr⟩ := State.topJava?_eq_some.mp hg0
  have hr' : (({ U with heap := s₂.heap, slotsUsed := s₂.slotsUsed } : State).setVm s₂.vm).frames = .java g₀ :: r := hr
  rcases hq' with ⟨hqc, L, hfe, hL⟩ | ⟨q, rfl, E, ce, L, hx, hce, hcv, hcl, hW₂, hsm, hL⟩
  · obtain ⟨⟨v, rfl⟩, hW₂, e2, q2, q3, q4, q5, q6⟩ := id hfe
    have e3 : s₂ = ({ (U.calling g mk a).setFrames s₂.frames with heap := s₂.heap, slotsUsed := s₂.slotsUsed } : State).setVm s₂.vm := by
      have : s₂ = ({ s₂ with vm := (U.calling g mk a).vm } : State).setVm s₂.vm := rfl
      rw [e2] at this
      exact this
    obtain ⟨c₂, i₂, len₂, hc₂, hd₂, hf₂⟩ := hend
    have hW' : U.WarmedH s₂.vm := hW₂
    have hcc : c₂ = c := by
      have h1 : s₂.code? g.method = U.code? g.method := by
        rw [State.code?_eq, State.code?_eq, hW'.alike.method?]
      exact Option.some.inj (hc₂.symm.trans (h1.trans h.code))
    subst hcc
    have hlen : len₂ = len := by rw [hdg] at hd₂; cases hd₂; rfl
    subst hlen
    have hs₂ : s₂ = (({ U with heap := s₂.heap, slotsUsed := s₂.slotsUsed } : State).setVm s₂.vm).setTop { g with pc := g.pc + len₂, stack := v.toList ++ g.stack } := by
      refine e3.trans ?_
      rw [hf₂, State.calling_eq h.top, State.setFrames_setFrames, State.setTop_of_frames _ hr', hr]
      rfl
    have hsame : U.sameButNew ({ U with heap := s₂.heap, slotsUsed := s₂.slotsUsed } : State) L mc ms := by
      refine ⟨?_, q2, q3, q4, q5, q6⟩
      obtain ⟨t, ht, -⟩ := State.frames_cons hr
      show ({ U with heap := s₂.heap, slotsUsed := s₂.slotsUsed } : State) = { U.setFrames U.frames with heap := s₂.heap, slotsUsed := s₂.slotsUsed }
      rw [State.setFrames_self ht]
    subst hg
    refine Or.inl ⟨v, ⟨(({ U with heap := s₂.heap, slotsUsed := s₂.slotsUsed } : State).setVm s₂.vm), Ls ++ L, c0 + mc, s0 + ms⟩,
      ⟨X.admits, X.cas, X.clock, X.frames, X.room, X.hears, X.method, X.code, (X.here.setHeapUsed s₂.heap s₂.slotsUsed).setVm hW'.alike, X.tail, State.WarmedH.trans X.warmed hW', X.limits, X.bytes, X.same.trans (hsame.setVm s.vm)⟩,
      ⟨g, mk, s₂, L, rfl, rfl, hqc, rfl, hL, rfl, rfl⟩, ?_⟩
    show Steps p.tables e below _ ((({ U with heap := s₂.heap, slotsUsed := s₂.slotsUsed } : State).setVm s₂.vm).setTop { g with pc := g.pc + len₂, stack := v.toList ++ g.stack })
    rw [← hs₂]
    exact hsteps
  · obtain ⟨e2, q2, q3, q4, q5, q6⟩ := id hsm
    have e3 : s₂ = ({ (U.calling g mk a).setFrames s₂.frames with heap := s₂.heap, slotsUsed := s₂.slotsUsed } : State).setVm s₂.vm := by
      have : s₂ = ({ s₂ with vm := (U.calling g mk a).vm } : State).setVm s₂.vm := rfl
      rw [e2] at this
      exact this
    have hf₂ : s₂.frames = .throwing q :: .java g :: U.frames.tail := hend
    have hW' : U.WarmedH s₂.vm := hW₂
    have hs₂ : s₂ = ((({ U with heap := s₂.heap, slotsUsed := s₂.slotsUsed } : State).setVm s₂.vm).setTop g).pushFrame (.throwing q) := by
      refine e3.trans ?_
      rw [hf₂, State.calling_eq h.top, State.setFrames_setFrames, State.pushFrame, State.frames_setTop _ hr', State.setTop_of_frames _ hr', State.setFrames_setFrames, hr]
      rfl
    have hsame : U.sameButNew ({ U with heap := s₂.heap, slotsUsed := s₂.slotsUsed } : State) L mc ms := by
      refine ⟨?_, q2, q3, q4, q5, q6⟩
      obtain ⟨t, ht, -⟩ := State.frames_cons hr
      show ({ U with heap := s₂.heap, slotsUsed := s₂.slotsUsed } : State) = { U.setFrames U.frames with heap := s₂.heap, slotsUsed := s₂.slotsUsed }
      rw [State.setFrames_self ht]
    subst hg
    refine Or.inr ⟨q, ⟨(({ U with heap := s₂.heap, slotsUsed := s₂.slotsUsed } : State).setVm s₂.vm), Ls ++ L, c0 + mc, s0 + ms⟩,
      ⟨X.admits, X.cas, X.clock, X.frames, X.room, X.hears, X.method, X.code, (X.here.setHeapUsed s₂.heap s₂.slotsUsed).setVm hW'.alike, X.tail, State.WarmedH.trans X.warmed hW', X.limits, X.bytes, X.same.trans (hsame.setVm s.vm)⟩,
      ⟨g, mk, s₂, L, E, ce, rfl, rfl, hx, hce, hcv, hcl, rfl, hL, rfl, rfl⟩, ?_⟩
    show Steps p.tables e below _ (((({ U with heap := s₂.heap, slotsUsed := s₂.slotsUsed } : State).setVm s₂.vm).setTop g).pushFrame (.throwing q))
    rw [← hs₂]
    exact hsteps
end Payer
section Calls
variable {p : Program} {l : Launch} {e : Env} {R : Room} {s : State} {m : MethodId} {args : Array Value} {below : List Frame} {meth : Method} {c : Code} {T : State} {locs : List Loc} {cells slots : Nat}
theorem vx_callV (X : Stand p l e R s m args below meth c T locs cells slots) (hexec : p.tables.exec = Jvm.exec) {own C : String} {index : Nat} {y : MethodName} {bytes : ByteArray} {maxL : Nat} {ret : Option FieldType}
    (hown : s.vm.findClass own = some m.cls) (hlink : (Cond.methodLink own index y).before args s = true) (hinst : (Cond.instanceMethod y).before args s = true) (hsel : (Cond.selects C y y).before args s = true)
    (hcode : (Cond.code y bytes maxL ret).before args s = true) (hy : y.cls ≠ "java/lang/invoke/MethodHandle" ∧ y.cls ≠ "java/lang/invoke/VarHandle")
    {W9 : Nat} {Pre : Pt → Array Value → Prop} {Post : Pt → Array Value → Option Value → Pt → Prop} {PostX : Pt → Array Value → Addr → Pt → Prop} (hK : vx_Back l R p e below s args y 3 W9 Pre Post PostX)
    {b : Addr} {cellB : Cell} (hcell : T.heap[b]? = some cellB) (hobj : cellB.vm.isStatics = false) (hcls : s.vm.findClass C = some cellB.cls)
    {g : JFrame} (hg : g.method = m) (hsize : g.locals.size = c.maxLocals) {argsL rest : List Value} (hlen : ∀ sig, parseMethodDescriptor y.desc = some sig → argsL.length = sig.parameters.length)
    (hstack : g.stack = argsL.reverse ++ .ref b :: rest) (hW : 2 * g.monitorRoom + (rest.map fun v => v.category).sum ≤ W9) (hdg : decode c.code g.pc = .ok (.invokevirtual index, 3))
    (hpre : ∀ vm₁, s.WarmedH vm₁ → Pre ⟨T.setVm vm₁, locs, cells, slots⟩ (Value.ref b :: argsL).toArray) :
    (∃ (v : Option Value) (vm₁ : Vm) (B : Pt), s.WarmedH vm₁ ∧ Stand p l e R s m args below meth c B.U B.locs B.cells B.slots ∧ Post ⟨T.setVm vm₁, locs, cells, slots⟩ (Value.ref b :: argsL).toArray v B ∧
      ∀ target, Steps p.tables e below (B.U.setTop { g with pc := g.pc + 3, stack := v.toList ++ rest }) target → Steps p.tables e below (T.setTop g) target) ∨
    (∃ (q : Addr) (vm₁ : Vm) (B : Pt), s.WarmedH vm₁ ∧ Stand p l e R s m args below meth c B.U B.locs B.cells B.slots ∧ PostX ⟨T.setVm vm₁, locs, cells, slots⟩ (Value.ref b :: argsL).toArray q B ∧
      Steps p.tables e below (T.setTop g) ((B.U.setTop { g with stack := rest }).pushFrame (.throwing q))) := by
  obtain ⟨mk, methM, hnamed, hmethM, hstM, habM⟩ := Cond.instanceMethod_spec hinst
  obtain ⟨methM', cM, hmethM', -, -, -, -, -, -, hsigM⟩ := Cond.code_spec hnamed hcode
  cases hmethM.symm.trans hmethM'
  obtain ⟨c2, r2, m2, q1, q2, q3, q4, kP, hkP, hkPi⟩ := Cond.selects_spec hsel
  cases hcls.symm.trans q1
  cases (State.methodFound?_of_named hnamed hy).symm.trans q2
  cases hnamed.symm.trans q3
  have hselP : selectMethod e.platform s.vm cellB.cls mk = .method mk := by rw [Launch.admits_selectMethod X.admits]; exact q4
  obtain ⟨vm₁, X₁, hstep₁⟩ := X.invokevirtual hexec hown hlink hnamed hmethM hstM hkP hkPi hy (a := b) (cell := cellB) hcell
    (fun z h => by rw [h] at hobj; cases hobj) hselP hmethM habM hkP hkPi (g := g) hg (argsL := argsL) (rest := rest) (hlen _ hsigM) hstack hdg
  rcases hK m meth c ⟨T.setVm vm₁, locs, cells, slots⟩ { g with stack := rest } (.invokevirtual index) mk (Value.ref b :: argsL).toArray X₁ hg hsize hdg hW (X₁.named hnamed) (hpre vm₁ X₁.warmed) with ⟨v, B, X', hpost, hsteps⟩ | ⟨q, B, X', hpost, hsteps⟩
  · exact Or.inl ⟨v, vm₁, B, X₁.warmed, X', hpost, fun target h => hstep₁ _ fun acts => by rw [doInvoke_state]; exact hsteps.trans h⟩
  · exact Or.inr ⟨q, vm₁, B, X₁.warmed, X', hpost, hstep₁ _ fun acts => by rw [doInvoke_state]; exact hsteps⟩
theorem vx_callS (X : Stand p l e R s m args below meth c T locs cells slots) (hexec : p.tables.exec = Jvm.exec) {own : String} {index : Nat} {y : MethodName} {bytes : ByteArray} {maxL : Nat} {ret : Option FieldType}
    (hown : s.vm.findClass own = some m.cls) (hlink : (Cond.methodLink own index y).before args s = true) (hstat : (Cond.static y).before args s = true) (hinit : (Cond.initialized y.cls).before args s = true)
    (hcode : (Cond.code y bytes maxL ret).before args s = true) (hy : y.cls ≠ "java/lang/invoke/MethodHandle" ∧ y.cls ≠ "java/lang/invoke/VarHandle")
    {W9 : Nat} {Pre : Pt → Array Value → Prop} {Post : Pt → Array Value → Option Value → Pt → Prop} {PostX : Pt → Array Value → Addr → Pt → Prop} (hK : vx_Back l R p e below s args y 3 W9 Pre Post PostX)
    {g : JFrame} (hg : g.method = m) (hsize : g.locals.size = c.maxLocals) {argsL rest : List Value} (hlen : ∀ sig, parseMethodDescriptor y.desc = some sig → argsL.length = sig.parameters.length)
    (hstack : g.stack = argsL.reverse ++ rest) (hW : 2 * g.monitorRoom + (rest.map fun v => v.category).sum ≤ W9) (hdg : decode c.code g.pc = .ok (.invokestatic index, 3))
    (hpre : ∀ vm₁, s.WarmedH vm₁ → Pre ⟨T.setVm vm₁, locs, cells, slots⟩ argsL.toArray) :
    (∃ (v : Option Value) (vm₁ : Vm) (B : Pt), s.WarmedH vm₁ ∧ Stand p l e R s m args below meth c B.U B.locs B.cells B.slots ∧ Post ⟨T.setVm vm₁, locs, cells, slots⟩ argsL.toArray v B ∧
      ∀ target, Steps p.tables e below (B.U.setTop { g with pc := g.pc + 3, stack := v.toList ++ rest }) target → Steps p.tables e below (T.setTop g) target) ∨
    (∃ (q : Addr) (vm₁ : Vm) (B : Pt), s.WarmedH vm₁ ∧ Stand p l e R s m args below meth c B.U B.locs B.cells B.slots ∧ PostX ⟨T.setVm vm₁, locs, cells, slots⟩ argsL.toArray q B ∧
      Steps p.tables e below (T.setTop g) ((B.U.setTop { g with stack := rest }).pushFrame (.throwing q))) := by
  obtain ⟨mk, hnamed⟩ := Cond.code_named hcode
  obtain ⟨methM, cM, hmethM, -, -, -, -, -, -, hsigM⟩ := Cond.code_spec hnamed hcode
  have hstatic : methM.isStatic = true := Cond.static_spec hnamed hmethM hstat
  obtain ⟨kP, hkP, -⟩ := className_of_methodNamed hnamed
  have hinitP : kP.init = .initialized := Cond.initialized_spec (findClass_of_methodNamed hnamed) hkP hinit
  obtain ⟨vm₁, X₁, hstep₁⟩ := X.invokestatic hexec hown hlink hnamed hmethM hstatic hkP hinitP hy (g := g) hg (argsL := argsL) (rest := rest) (hlen _ hsigM) hstack hdg
  rcases hK m meth c ⟨T.setVm vm₁, locs, cells, slots⟩ { g with stack := rest } (.invokestatic index) mk argsL.toArray X₁ hg hsize hdg hW (X₁.named hnamed) (hpre vm₁ X₁.warmed) with ⟨v, B, X', hpost, hsteps⟩ | ⟨q, B, X', hpost, hsteps⟩
  · exact Or.inl ⟨v, vm₁, B, X₁.warmed, X', hpost, fun target h => hstep₁ _ fun acts => by rw [doInvoke_state]; exact hsteps.trans h⟩
  · exact Or.inr ⟨q, vm₁, B, X₁.warmed, X', hpost, hstep₁ _ fun acts => by rw [doInvoke_state]; exact hsteps⟩
end Calls
theorem vx_cls {s : State} {T : State} {vm₁ : Vm} {E : String} {k : ClassId} (hW : s.WarmedH vm₁) (h : (T.setVm vm₁).vm.findClass E = some k) : s.vm.findClass E = some k := by
  have h1 : vm₁.findClass E = some k := h
  rw [hW.alike.findClass] at h1
  exact h1
/-- the method's frame g, with q thrown over it -/
def vx_W (p : Program) (l : Launch) (e : Env) (R : Room) (s : State) (m : MethodId) (args : Array Value) (below : List Frame) (meth : Method) (c : Code) (H : Heap) (locs : List Loc) (cells slots : Nat) (Q : State → Prop) (g : JFrame) (q : Addr) : Prop :=
  ∀ T : State, T.heap = H → Stand p l e R s m args below meth c T locs cells slots → ∃ t, Steps p.tables e below ((T.setTop g).pushFrame (.throwing q)) t ∧ Q t
def vx_Run (p : Program) (l : Launch) (e : Env) (R : Room) (s : State) (m : MethodId) (args : Array Value) (below : List Frame) (meth : Method) (c : Code) (H : Heap) (locs : List Loc) (cells slots mc ms : Nat) (g : JFrame) (rest : List Value) (Qa : State → Outcome → State → Prop) (XC : String → State → State → Prop) (free : Addr → Prop) : Prop :=
  ∀ T : State, T.heap = H → Stand p l e R s m args below meth c T locs cells slots →
    (∃ (v : Option Value) (st₀ t T' : State) (L : List Loc), st₀.heap = H ∧ Stand p l e R s m args below meth c T' (locs ++ L) (cells + mc) (slots + ms) ∧ (∀ q ∈ L, free q.base) ∧ T'.heap = t.heap ∧ T'.vm = t.vm ∧ Qa st₀ (.returned v) t ∧
      Goes p e below T g T' { g with pc := g.pc + 3, stack := v.toList ++ rest }) ∨
    (∃ (q : Addr) (st₀ t T' : State) (L : List Loc) (E : String) (ce : Cell), st₀.heap = H ∧ Stand p l e R s m args below meth c T' (locs ++ L) (cells + mc) (slots + ms) ∧ (∀ z ∈ L, free z.base) ∧ T'.heap = t.heap ∧ T'.vm = t.vm ∧ XC E st₀ t ∧ t.heap[q]? = some ce ∧ ce.vm = .none ∧ s.vm.findClass E = some ce.cls ∧
      Steps p.tables e below (T.setTop g) ((T'.setTop { g with stack := rest }).pushFrame (.throwing q)))
def vx_X {S : Type} (px : S → Prop) (B : String → S → State → Prop) (A : Nat → Prop) : String → State → State → Prop := fun E st t => ∃ u : S, px u ∧ B E u t ∧ va_F A st t
section Runs
variable {p : Program} {l : Launch} {e : Env} {R : Room} {s : State} {m : MethodId} {args : Array Value} {below : List Frame} {meth : Method} {c : Code} {H : Heap} {locs : List Loc} {cells slots : Nat}
variable {y : MethodName} {bytes cc : ByteArray} {maxL nL mc ms n index : Nat} {ret : Option FieldType} {ws : List Cond} {rm : Room} {Pc : Array Value → State → Prop} {Qc : Array Value → State → Outcome → State → Prop} {XC : String → State → State → Prop} {free : Addr → Prop} {Ts : List Cond} {own C : String} {b : Addr} {As rest : List Value} {g : JFrame}
theorem vx_callBack (cb : CallB R s args own index y bytes maxL ret ws rm mc ms n) (hM : vx_Met l y ws rm Pc Qc XC mc ms free) (hbl : FrameBlind Pc) : vx_Back l R p e below s args y 3 8 (PreOf R mc ms Pc) (PostOf Qc mc ms free) (vx_Post XC mc ms free) := by
  obtain ⟨hrc, hrs, hfr, hlo, hws, hcw, -, hini, -⟩ := cb
  exact vx_back (bytes := bytes) (maxL := maxL) (ret := ret) hM hbl hrc hrs hfr hlo hws hcw (fun a' U hW => word_at hW (Or.inl (by first | rfl | simp [Cond.onTables, Cond.keeps, Cond.steady])) hini)
theorem vx_runV (S : CallFix p m c cc nL s args Ts own) (hM : vx_Met l y ws rm Pc Qc XC mc ms free) (cw : CallW R s args own C index y bytes maxL ret ws rm mc ms n) (hp : PreV s H C b Pc As)
    (hg : g.method = m) (hn : As.length = n) (hsize : g.locals.size = nL) (hstack : g.stack = As.reverse ++ .ref b :: rest) (hW : 2 * g.monitorRoom + (rest.map fun v => v.category).sum ≤ 8) (hdg : decode cc g.pc = .ok (.invokevirtual index, 3)) (hf : cells + mc ≤ R.cells ∧ slots + ms ≤ R.slots) :
    vx_Run p l e R s m args below meth c H locs cells slots mc ms g rest (Qc (Value.ref b :: As).toArray) XC free := by
  have hK : vx_Back l R p e below s args y 3 8 (PreOf R mc ms Pc) (PostOf Qc mc ms free) (vx_Post XC mc ms free) := vx_callBack cw.1 hM hp.1
  obtain ⟨⟨-, -, -, -, -, -, hcode, -, hy, hlen, hl⟩, hin, hse⟩ := cw
  obtain ⟨hx, hb, hml, ho, -⟩ := S
  obtain ⟨-, ⟨cellB, hcB, hoB, hclB⟩, hPc⟩ := hp
  intro T hT X
  rcases vx_callV X hx (C := C) (bytes := bytes) (maxL := maxL) (ret := ret) ho hl hin hse hcode hy hK (by rw [hT]; exact hcB) hoB hclB hg (hsize.trans hml.symm) (argsL := As) (rest := rest) (fun sig h => hn.trans (hlen sig h)) hstack hW (by rw [hb]; exact hdg)
    (fun vm₁ hW₁ => ⟨hf.1, hf.2, hPc (T.setVm vm₁) hT hW₁⟩) with ⟨v, vm₁, ⟨U', l2, c2, s2⟩, hW₁, X', ⟨g', mk, t, L, e1, e2, hq, h1, hL, h2, h3⟩, st⟩ | ⟨q, vm₁, ⟨U', l2, c2, s2⟩, hW₁, X', ⟨g', mk, t, L, E, ce, e1, e2, hq, hce, hcv, hcl, h1, hL, h2, h3⟩, st⟩
  · dsimp only [Pt.U, Pt.locs, Pt.cells, Pt.slots] at X' e1 e2 h1 h2 h3 st
    subst h1; subst h2; subst h3
    exact Or.inl ⟨v, (T.setVm vm₁).calling g' mk (Value.ref b :: As).toArray, t, U', L, hT, X', hL, e1, e2, hq, st⟩
  · dsimp only [Pt.U, Pt.locs, Pt.cells, Pt.slots] at X' e1 e2 h1 h2 h3 st hcl
    subst h1; subst h2; subst h3
    exact Or.inr ⟨q, (T.setVm vm₁).calling g' mk (Value.ref b :: As).toArray, t, U', L, E, ce, hT, X', hL, e1, e2, hq, hce, hcv, vx_cls hW₁ hcl, st⟩
theorem vx_runS (S : CallFix p m c cc nL s args Ts own) (hM : vx_Met l y ws rm Pc Qc XC mc ms free) (cw : CallB R s args own index y bytes maxL ret ws rm mc ms n ∧ (Cond.static y).before args s = true) (hp : PreS s H Pc As)
    (hg : g.method = m) (hn : As.length = n) (hsize : g.locals.size = nL) (hstack : g.stack = As.reverse ++ rest) (hW : 2 * g.monitorRoom + (rest.map fun v => v.category).sum ≤ 8) (hdg : decode cc g.pc = .ok (.invokestatic index, 3)) (hf : cells + mc ≤ R.cells ∧ slots + ms ≤ R.slots) :
    vx_Run p l e R s m args below meth c H locs cells slots mc ms g rest (Qc As.toArray) XC free := by
  have hK : vx_Back l R p e below s args y 3 8 (PreOf R mc ms Pc) (PostOf Qc mc ms free) (vx_Post XC mc ms free) := vx_callBack cw.1 hM hp.1
  obtain ⟨⟨-, -, -, -, -, -, hcode, hini, hy, hlen, hl⟩, hstt⟩ := cw
  obtain ⟨hx, hb, hml, ho, -⟩ := S
  intro T hT X
  rcases vx_callS X hx (bytes := bytes) (maxL := maxL) (ret := ret) ho hl hstt hini hcode hy hK hg (hsize.trans hml.symm) (argsL := As) (rest := rest) (fun sig h => hn.trans (hlen sig h)) hstack hW (by rw [hb]; exact hdg)
    (fun vm₁ hW₁ => ⟨hf.1, hf.2, hp.2 (T.setVm vm₁) hT hW₁⟩) with ⟨v, vm₁, ⟨U', l2, c2, s2⟩, hW₁, X', ⟨g', mk, t, L, e1, e2, hq, h1, hL, h2, h3⟩, st⟩ | ⟨q, vm₁, ⟨U', l2, c2, s2⟩, hW₁, X', ⟨g', mk, t, L, E, ce, e1, e2, hq, hce, hcv, hcl, h1, hL, h2, h3⟩, st⟩
  · dsimp only [Pt.U, Pt.locs, Pt.cells, Pt.slots] at X' e1 e2 h1 h2 h3 st
    subst h1; subst h2; subst h3
    exact Or.inl ⟨v, (T.setVm vm₁).calling g' mk As.toArray, t, U', L, hT, X', hL, e1, e2, hq, st⟩
  · dsimp only [Pt.U, Pt.locs, Pt.cells, Pt.slots] at X' e1 e2 h1 h2 h3 st hcl
    subst h1; subst h2; subst h3
    exact Or.inr ⟨q, (T.setVm vm₁).calling g' mk As.toArray, t, U', L, E, ce, hT, X', hL, e1, e2, hq, hce, hcv, vx_cls hW₁ hcl, st⟩
end Runs
section Rows
variable {p : Program} {l : Launch} {e : Env} {R : Room} {s : State} {m : MethodId} {args : Array Value} {below : List Frame} {meth : Method} {c : Code} {H : Heap} {locs : List Loc} {cells slots : Nat} {Q : State → Prop}
variable {mc ms : Nat} {free : Addr → Prop} {A0 A1 : Nat → Prop} {H0 : Heap} {a : Array Value} {pc : Nat} {ls : Array Slot} {st0 rest : List Value}
theorem vx_keep {st₀ t T' : State} {L : List Loc} (h0 : st₀.heap = H) (e1 : T'.heap = t.heap) (hS : va_S A0 H0 H locs) (hA : ∀ q, q < H.size → A1 q → A0 q) (hf : ∀ q, free q → A0 q) (hL : ∀ q ∈ L, free q.base) (hF : va_F A1 st₀ t) :
    H.size ≤ T'.heap.size ∧ (∀ q : Nat, q < H.size → ¬ A1 q → T'.heap[q]? = H[q]?) ∧ va_S A0 H0 T'.heap (locs ++ L) := by
  obtain ⟨hz, hk⟩ := hF
  rw [h0] at hz hk
  exact ⟨by rw [e1]; exact hz, fun q h1 h2 => by rw [e1]; exact hk q h1 h2,
    ⟨Nat.le_trans hS.1 (by rw [e1]; exact hz), fun q h1 h2 => by rw [e1, hk q (Nat.lt_of_lt_of_le h1 hS.1) (fun z => h2 (hA q (Nat.lt_of_lt_of_le h1 hS.1) z))]; exact hS.2.1 q h1 h2, fun q hq => by
      rcases List.mem_append.mp hq with h | h
      · exact hS.2.2 q h
      · exact hf _ (hL q h)⟩⟩
theorem vx_calli {S SX : Type} {post : Int32 → S → Prop} {px : SX → Prop} {B : S → State → Prop} {BX : String → SX → State → Prop} {AX : Nat → Prop} (hr : vx_Run p l e R s m args below meth c H locs cells slots mc ms (F0 m pc ls st0) rest (va_Qi post B A1 a) (vx_X px BX AX) free) (hS : va_S A0 H0 H locs) (hA : ∀ q, q < H.size → A1 q → A0 q) (hf : ∀ q, free q → A0 q) (hAX : ∀ q, q < H.size → AX q → A0 q)
    (kx : ∀ (E : String) (ce : Cell) (q9 : Addr) (u : SX) (t : State) (H1 : Heap) (locs1 : List Loc), t.heap = H1 → s.vm.Alike t.vm → px u → BX E u t → H.size ≤ H1.size → (∀ q : Nat, q < H.size → ¬ AX q → H1[q]? = H[q]?) → va_S A0 H0 H1 locs1 → H1[q9]? = some ce → ce.vm = .none → s.vm.findClass E = some ce.cls → vx_W p l e R s m args below meth c H1 locs1 (cells + mc) (slots + ms) Q (F0 m pc ls rest) q9)
    (kk : ∀ (r : Int32) (u : S) (t : State) (H1 : Heap) (locs1 : List Loc), t.heap = H1 → s.vm.Alike t.vm → post r u → B u t → H.size ≤ H1.size → (∀ q : Nat, q < H.size → ¬ A1 q → H1[q]? = H[q]?) → va_S A0 H0 H1 locs1 → W p l e R s m args below meth c H1 locs1 (cells + mc) (slots + ms) Q (F0 m (pc + 3) ls (.int r :: rest))) : W p l e R s m args below meth c H locs cells slots Q (F0 m pc ls st0) := by
  intro T hT X
  rcases hr T hT X with ⟨v, st₀, t, T', L, h0, X', hL, e1, e2, ⟨⟨r, u, hv, hp, hb⟩, hF⟩, st⟩ | ⟨q, st₀, t, T', L, E, ce, h0, X', hL, e1, e2, ⟨u, hp, hb, hF⟩, hce, hcv, hcl, st⟩
  · cases hv
    obtain ⟨k1, k2, k3⟩ := vx_keep h0 e1 hS hA hf hL hF
    obtain ⟨t2, a1, b1⟩ := kk r u t T'.heap (locs ++ L) e1.symm (by rw [← e2]; exact X'.warmed.alike) hp hb k1 k2 k3 T' rfl X'
    exact ⟨t2, st t2 a1, b1⟩
  · obtain ⟨k1, k2, k3⟩ := vx_keep h0 e1 hS hAX hf hL hF
    obtain ⟨t2, a1, b1⟩ := kx E ce q u t T'.heap (locs ++ L) e1.symm (by rw [← e2]; exact X'.warmed.alike) hp hb k1 k2 k3 (by rw [e1]; exact hce) hcv hcl T' rfl X'
    exact ⟨t2, st.trans a1, b1⟩
theorem vx_calll {S SX : Type} {post : Int64 → S → Prop} {px : SX → Prop} {B : S → State → Prop} {BX : String → SX → State → Prop} {AX : Nat → Prop} (hr : vx_Run p l e R s m args below meth c H locs cells slots mc ms (F0 m pc ls st0) rest (va_Ql post B A1 a) (vx_X px BX AX) free) (hS : va_S A0 H0 H locs) (hA : ∀ q, q < H.size → A1 q → A0 q) (hf : ∀ q, free q → A0 q) (hAX : ∀ q, q < H.size → AX q → A0 q)
    (kx : ∀ (E : String) (ce : Cell) (q9 : Addr) (u : SX) (t : State) (H1 : Heap) (locs1 : List Loc), t.heap = H1 → s.vm.Alike t.vm → px u → BX E u t → H.size ≤ H1.size → (∀ q : Nat, q < H.size → ¬ AX q → H1[q]? = H[q]?) → va_S A0 H0 H1 locs1 → H1[q9]? = some ce → ce.vm = .none → s.vm.findClass E = some ce.cls → vx_W p l e R s m args below meth c H1 locs1 (cells + mc) (slots + ms) Q (F0 m pc ls rest) q9)
    (kk : ∀ (r : Int64) (u : S) (t : State) (H1 : Heap) (locs1 : List Loc), t.heap = H1 → s.vm.Alike t.vm → post r u → B u t → H.size ≤ H1.size → (∀ q : Nat, q < H.size → ¬ A1 q → H1[q]? = H[q]?) → va_S A0 H0 H1 locs1 → W p l e R s m args below meth c H1 locs1 (cells + mc) (slots + ms) Q (F0 m (pc + 3) ls (.long r :: rest))) : W p l e R s m args below meth c H locs cells slots Q (F0 m pc ls st0) := by
  intro T hT X
  rcases hr T hT X with ⟨v, st₀, t, T', L, h0, X', hL, e1, e2, ⟨⟨r, u, hv, hp, hb⟩, hF⟩, st⟩ | ⟨q, st₀, t, T', L, E, ce, h0, X', hL, e1, e2, ⟨u, hp, hb, hF⟩, hce, hcv, hcl, st⟩
  · cases hv
    obtain ⟨k1, k2, k3⟩ := vx_keep h0 e1 hS hA hf hL hF
    obtain ⟨t2, a1, b1⟩ := kk r u t T'.heap (locs ++ L) e1.symm (by rw [← e2]; exact X'.warmed.alike) hp hb k1 k2 k3 T' rfl X'
    exact ⟨t2, st t2 a1, b1⟩
  · obtain ⟨k1, k2, k3⟩ := vx_keep h0 e1 hS hAX hf hL hF
    obtain ⟨t2, a1, b1⟩ := kx E ce q u t T'.heap (locs ++ L) e1.symm (by rw [← e2]; exact X'.warmed.alike) hp hb k1 k2 k3 (by rw [e1]; exact hce) hcv hcl T' rfl X'
    exact ⟨t2, st.trans a1, b1⟩
theorem vx_callf {S SX : Type} {post : UInt32 → S → Prop} {px : SX → Prop} {B : S → State → Prop} {BX : String → SX → State → Prop} {AX : Nat → Prop} (hr : vx_Run p l e R s m args below meth c H locs cells slots mc ms (F0 m pc ls st0) rest (va_Qf post B A1 a) (vx_X px BX AX) free) (hS : va_S A0 H0 H locs) (hA : ∀ q, q < H.size → A1 q → A0 q) (hf : ∀ q, free q → A0 q) (hAX : ∀ q, q < H.size → AX q → A0 q)
    (kx : ∀ (E : String) (ce : Cell) (q9 : Addr) (u : SX) (t : State) (H1 : Heap) (locs1 : List Loc), t.heap = H1 → s.vm.Alike t.vm → px u → BX E u t → H.size ≤ H1.size → (∀ q : Nat, q < H.size → ¬ AX q → H1[q]? = H[q]?) → va_S A0 H0 H1 locs1 → H1[q9]? = some ce → ce.vm = .none → s.vm.findClass E = some ce.cls → vx_W p l e R s m args below meth c H1 locs1 (cells + mc) (slots + ms) Q (F0 m pc ls rest) q9)
    (kk : ∀ (r : UInt32) (u : S) (t : State) (H1 : Heap) (locs1 : List Loc), t.heap = H1 → s.vm.Alike t.vm → post r u → B u t → H.size ≤ H1.size → (∀ q : Nat, q < H.size → ¬ A1 q → H1[q]? = H[q]?) → va_S A0 H0 H1 locs1 → W p l e R s m args below meth c H1 locs1 (cells + mc) (slots + ms) Q (F0 m (pc + 3) ls (.float r :: rest))) : W p l e R s m args below meth c H locs cells slots Q (F0 m pc ls st0) := by
  intro T hT X
  rcases hr T hT X with ⟨v, st₀, t, T', L, h0, X', hL, e1, e2, ⟨⟨r, u, hv, hp, hb⟩, hF⟩, st⟩ | ⟨q, st₀, t, T', L, E, ce, h0, X', hL, e1, e2, ⟨u, hp, hb, hF⟩, hce, hcv, hcl, st⟩
  · cases hv
    obtain ⟨k1, k2, k3⟩ := vx_keep h0 e1 hS hA hf hL hF
    obtain ⟨t2, a1, b1⟩ := kk r u t T'.heap (locs ++ L) e1.symm (by rw [← e2]; exact X'.warmed.alike) hp hb k1 k2 k3 T' rfl X'
    exact ⟨t2, st t2 a1, b1⟩
  · obtain ⟨k1, k2, k3⟩ := vx_keep h0 e1 hS hAX hf hL hF
    obtain ⟨t2, a1, b1⟩ := kx E ce q u t T'.heap (locs ++ L) e1.symm (by rw [← e2]; exact X'.warmed.alike) hp hb k1 k2 k3 (by rw [e1]; exact hce) hcv hcl T' rfl X'
    exact ⟨t2, st.trans a1, b1⟩
theorem vx_calld {S SX : Type} {post : UInt64 → S → Prop} {px : SX → Prop} {B : S → State → Prop} {BX : String → SX → State → Prop} {AX : Nat → Prop} (hr : vx_Run p l e R s m args below meth c H locs cells slots mc ms (F0 m pc ls st0) rest (va_Qd post B A1 a) (vx_X px BX AX) free) (hS : va_S A0 H0 H locs) (hA : ∀ q, q < H.size → A1 q → A0 q) (hf : ∀ q, free q → A0 q) (hAX : ∀ q, q < H.size → AX q → A0 q)
    (kx : ∀ (E : String) (ce : Cell) (q9 : Addr) (u : SX) (t : State) (H1 : Heap) (locs1 : List Loc), t.heap = H1 → s.vm.Alike t.vm → px u → BX E u t → H.size ≤ H1.size → (∀ q : Nat, q < H.size → ¬ AX q → H1[q]? = H[q]?) → va_S A0 H0 H1 locs1 → H1[q9]? = some ce → ce.vm = .none → s.vm.findClass E = some ce.cls → vx_W p l e R s m args below meth c H1 locs1 (cells + mc) (slots + ms) Q (F0 m pc ls rest) q9)
    (kk : ∀ (r : UInt64) (u : S) (t : State) (H1 : Heap) (locs1 : List Loc), t.heap = H1 → s.vm.Alike t.vm → post r u → B u t → H.size ≤ H1.size → (∀ q : Nat, q < H.size → ¬ A1 q → H1[q]? = H[q]?) → va_S A0 H0 H1 locs1 → W p l e R s m args below meth c H1 locs1 (cells + mc) (slots + ms) Q (F0 m (pc + 3) ls (.double r :: rest))) : W p l e R s m args below meth c H locs cells slots Q (F0 m pc ls st0) := by
  intro T hT X
  rcases hr T hT X with ⟨v, st₀, t, T', L, h0, X', hL, e1, e2, ⟨⟨r, u, hv, hp, hb⟩, hF⟩, st⟩ | ⟨q, st₀, t, T', L, E, ce, h0, X', hL, e1, e2, ⟨u, hp, hb, hF⟩, hce, hcv, hcl, st⟩
  · cases hv
    obtain ⟨k1, k2, k3⟩ := vx_keep h0 e1 hS hA hf hL hF
    obtain ⟨t2, a1, b1⟩ := kk r u t T'.heap (locs ++ L) e1.symm (by rw [← e2]; exact X'.warmed.alike) hp hb k1 k2 k3 T' rfl X'
    exact ⟨t2, st t2 a1, b1⟩
  · obtain ⟨k1, k2, k3⟩ := vx_keep h0 e1 hS hAX hf hL hF
    obtain ⟨t2, a1, b1⟩ := kx E ce q u t T'.heap (locs ++ L) e1.symm (by rw [← e2]; exact X'.warmed.alike) hp hb k1 k2 k3 (by rw [e1]; exact hce) hcv hcl T' rfl X'
    exact ⟨t2, st.trans a1, b1⟩
theorem vx_callv {S SX : Type} {post : S → Prop} {px : SX → Prop} {B : S → State → Prop} {BX : String → SX → State → Prop} {AX : Nat → Prop} (hr : vx_Run p l e R s m args below meth c H locs cells slots mc ms (F0 m pc ls st0) rest (va_Qv post B A1 a) (vx_X px BX AX) free) (hS : va_S A0 H0 H locs) (hA : ∀ q, q < H.size → A1 q → A0 q) (hf : ∀ q, free q → A0 q) (hAX : ∀ q, q < H.size → AX q → A0 q)
    (kx : ∀ (E : String) (ce : Cell) (q9 : Addr) (u : SX) (t : State) (H1 : Heap) (locs1 : List Loc), t.heap = H1 → s.vm.Alike t.vm → px u → BX E u t → H.size ≤ H1.size → (∀ q : Nat, q < H.size → ¬ AX q → H1[q]? = H[q]?) → va_S A0 H0 H1 locs1 → H1[q9]? = some ce → ce.vm = .none → s.vm.findClass E = some ce.cls → vx_W p l e R s m args below meth c H1 locs1 (cells + mc) (slots + ms) Q (F0 m pc ls rest) q9)
    (kk : ∀ (u : S) (t : State) (H1 : Heap) (locs1 : List Loc), t.heap = H1 → s.vm.Alike t.vm → post u → B u t → H.size ≤ H1.size → (∀ q : Nat, q < H.size → ¬ A1 q → H1[q]? = H[q]?) → va_S A0 H0 H1 locs1 → W p l e R s m args below meth c H1 locs1 (cells + mc) (slots + ms) Q (F0 m (pc + 3) ls (rest))) : W p l e R s m args below meth c H locs cells slots Q (F0 m pc ls st0) := by
  intro T hT X
  rcases hr T hT X with ⟨v, st₀, t, T', L, h0, X', hL, e1, e2, ⟨⟨u, hv, hp, hb⟩, hF⟩, st⟩ | ⟨q, st₀, t, T', L, E, ce, h0, X', hL, e1, e2, ⟨u, hp, hb, hF⟩, hce, hcv, hcl, st⟩
  · cases hv
    obtain ⟨k1, k2, k3⟩ := vx_keep h0 e1 hS hA hf hL hF
    obtain ⟨t2, a1, b1⟩ := kk u t T'.heap (locs ++ L) e1.symm (by rw [← e2]; exact X'.warmed.alike) hp hb k1 k2 k3 T' rfl X'
    exact ⟨t2, st t2 a1, b1⟩
  · obtain ⟨k1, k2, k3⟩ := vx_keep h0 e1 hS hAX hf hL hF
    obtain ⟨t2, a1, b1⟩ := kx E ce q u t T'.heap (locs ++ L) e1.symm (by rw [← e2]; exact X'.warmed.alike) hp hb k1 k2 k3 (by rw [e1]; exact hce) hcv hcl T' rfl X'
    exact ⟨t2, st.trans a1, b1⟩
/-- caught by the row x of this method's table; the rows ahead don't take it -/
theorem vx_catch {own name : String} {E : String} {ce : Cell} {q : Addr} (hown : s.vm.findClass own = some m.cls) (pre : List ExceptionTableEntry) (x : ExceptionTableEntry) (suf : List ExceptionTableEntry) (hsplit : c.exceptionTable.toList = pre ++ x :: suf)
    (hpass : ∀ z ∈ pre, covers z pc = false ∨ (z.catchType ≠ 0 ∧ ∃ nm : String, (Cond.classLink own z.catchType nm).before args s = true ∧ va_Nc E nm s)) (hx : covers x pc = true) (h0 : x.catchType ≠ 0)
    (hlink : (Cond.classLink own x.catchType name).before args s = true) (hcast : (Cond.castable E name).before args s = true) (hcell : H[q]? = some ce) (hv : ce.vm = .none) (hcl : s.vm.findClass E = some ce.cls)
    (kk : W p l e R s m args below meth c H locs cells slots Q (F0 m x.handlerPc ls [.ref q])) : vx_W p l e R s m args below meth c H locs cells slots Q (F0 m pc ls rest) q := by
  intro T hT X
  have hpl : e.platform.magicAccessors = ({} : Platform).magicAccessors := by rw [X.admits.platform]
  obtain ⟨c3, c4, hc3, hc4, hasg⟩ := Cond.castable_spec hcast
  cases Option.some.inj (hc3.symm.trans hcl)
  obtain ⟨c5, hc5, hcl5⟩ := Cond.classLink_spec hown hlink e.platform hpl
  cases Option.some.inj (hc4.symm.trans hc5)
  obtain ⟨vm', X', st⟩ := X.thenCaughtThrough q (g := F0 m pc ls rest) rfl (Steps.refl _) (by rw [hT]; exact hcell) (by rw [hv]; rfl) (by obtain ⟨k9, h9, -⟩ := Vm.findClass_spec hcl; exact ⟨k9, h9⟩) pre x suf hsplit
    (fun z hz => by
      rcases hpass z hz with h | ⟨hz0, nm, hl1, hn1⟩
      · exact Or.inl h
      · obtain ⟨c6, hc6, hcl6⟩ := Cond.classLink_spec hown hl1 e.platform hpl
        obtain ⟨a8, b8, h1, h2, h3⟩ := hn1
        cases Option.some.inj (h1.symm.trans hcl)
        cases Option.some.inj (h2.symm.trans hc6)
        exact Or.inr ⟨hz0, _, hcl6, h3⟩) hx (Or.inr ⟨h0, c4, hcl5, hasg⟩)
  obtain ⟨t, a1, b1⟩ := kk (T.setVm vm') hT X'
  exact ⟨t, st.trans a1, b1⟩
end Rows
section Ends
variable {p : Program} {l : Launch} {e : Env} {R : Room} {s : State} {m : MethodId} {args : Array Value} {below : List Frame} {meth : Method} {c : Code} {H : Heap} {locs : List Loc} {cells slots : Nat} {Q : State → Prop}
variable {mc ms : Nat} {free : Addr → Prop} {A0 A1 : Nat → Prop} {H0 : Heap} {a : Array Value} {ls : Array Slot} {st0 rest : List Value}
variable {Qc : Array Value → State → Outcome → State → Prop} {XC : String → State → State → Prop}
/-- what a body that may throw owes at its end -/
def vx_MQ (below : List Frame) (Qc : Array Value → State → Outcome → State → Prop) (XC : String → State → State → Prop) (a : Array Value) (s : State) (mc ms : Nat) (free : Addr → Prop) : State → Prop := fun t =>
  ∃ o, t.status = .running ∧ Ended t below o ∧ vx_Q Qc XC mc ms free a s o t
theorem vx_ret {g : JFrame} {mc ms : Nat} (k : W p l e R s m args below meth c H locs cells slots (MQ below Qc args s mc ms free) g) : W p l e R s m args below meth c H locs cells slots (vx_MQ below Qc XC args s mc ms free) g := by
  intro T hT X
  obtain ⟨t, a1, o, b1, b2, b3, b4⟩ := k T hT X
  exact ⟨t, a1, o, b1, b2, Or.inl ⟨b3, b4⟩⟩
/-- not caught here: it goes on to the caller -/
theorem vx_widen {g : JFrame} {q : Addr} {k n : Nat} (h1 : cells ≤ k) (h2 : slots ≤ n) (kk : vx_W p l e R s m args below meth c H locs k n Q g q) : vx_W p l e R s m args below meth c H locs cells slots Q g q := fun T hT X => kk T hT (stand_widen X h1 h2)
theorem vx_out {pc : Nat} {E : String} {ce : Cell} {q : Addr} {mc ms : Nat} (hout : ∀ x ∈ c.exceptionTable.toList, covers x pc = false) (hlocks : meth.locks = false) (hcell : H[q]? = some ce) (hv : ce.vm = .none) (hcl : s.vm.findClass E = some ce.cls)
    (hx : ∀ t : State, t.heap = H → s.vm.Alike t.vm → XC E s t) (hf : ∀ z ∈ locs, free z.base) (hc : cells ≤ mc) (hs : slots ≤ ms) :
    vx_W p l e R s m args below meth c H locs cells slots (vx_MQ below Qc XC args s mc ms free) (F0 m pc ls rest) q := by
  intro T hT X
  obtain ⟨st1, hrun, hend, hW, hsm⟩ := X.leaveThrown q (g := F0 m pc ls rest) rfl rfl rfl hout hlocks
  have hcell9 : (T.setFrames (.throwing q :: below)).heap[q]? = some ce := by
    show T.heap[q]? = some ce
    rw [hT]; exact hcell
  exact ⟨_, st1, .threw q, hrun, hend, Or.inr ⟨q, rfl, E, ce, locs, hx _ hT hW.alike, hcell9, hv, hcl, hW, hsm.mono hc hs, hf⟩⟩
theorem vx_frame {U : State} {k n : Nat} (h : s.sameButNew ({ U with vm := s.vm } : State) locs k n) : s.heap.size ≤ U.heap.size ∧ ∀ q : Nat, q < s.heap.size → (∀ z ∈ locs, z.base ≠ q) → U.heap[q]? = s.heap[q]? := by
  obtain ⟨-, h2, -, -, -, h6⟩ := h
  refine ⟨h2, fun q hq hz => ?_⟩
  obtain ⟨c9, e1, e2, e3, e4⟩ := h6 q _ (Array.getElem?_eq_getElem hq)
  have hs : c9.slots = (s.heap[q]).slots := Array.ext_getElem? fun i => e4 i fun hm => hz _ hm rfl
  have h9 : c9 = s.heap[q] := by
    rw [hs] at e2
    exact e2
  have e5 : U.heap[q]? = some c9 := e1
  rw [e5, h9, Array.getElem?_eq_getElem hq]
/-- the words of a throw but the four that speak of the heap -/
def vx_no (w : Cond) : Bool := decide (w ≠ .isRef (.static Bundle.tN "UNASSIGNED_STACK" Bundle.steD)) && decide (w ≠ .isRef (.static Bundle.tN "SUPPRESSED_SENTINEL" Bundle.listD)) && decide (w ≠ .laysStatic Bundle.tN "UNASSIGNED_STACK" Bundle.steD) && decide (w ≠ .laysStatic Bundle.tN "SUPPRESSED_SENTINEL" Bundle.listD)
def vx_at0 (own : String) (ic : Nat) (X : String) (names : List String) : List Cond := (Bundle.ownAtoms0 own ic X names).filter vx_no
def vx_atS (own : String) (ic : Nat) (X : String) (names : List String) : List Cond := (Bundle.ownAtoms own ic X names).filter vx_no
/-- a word that the tables alone decide, or a good one -/
def vx_ot (w : Cond) : Bool := w.onTables || goodWord w
theorem vx_ot_at {args a' : Array Value} {s U : State} {w : Cond} (hW : s.WarmedH U.vm) (hvm : s.vm = U.vm) (hg : vx_ot w = true) (h : w.before args s = true) : w.before a' U = true := by
  simp only [vx_ot, Bool.or_eq_true] at hg
  rcases hg with hg | hg
  · exact va_tabs hg hvm h
  · exact word_at hW (good_of_word hg) h
/-- a list's words: the good ones out of the method's own list, the others by premises of their own -/
theorem vx_hat {args : Array Value} {s : State} {L B : List Cond} (h1 : ∀ w ∈ L.filter goodWord, w.before args s = true) (h2 : ∀ w ∈ L.filter (fun w => !goodWord w), w ∈ B) (h3 : ∀ w ∈ B, w.before args s = true) : ∀ w ∈ L, w.before args s = true := by
  intro w hw
  by_cases g : goodWord w = true
  · exact h1 w (List.mem_filter.mpr ⟨hw, g⟩)
  · refine h3 w (h2 w (List.mem_filter.mpr ⟨hw, ?_⟩))
    show (!goodWord w) = true
    cases hgw : goodWord w
    · rfl
    · exact absurd hgw g
theorem vx_c {args : Array Value} {s : State} {w : Cond} {B : List Cond} (h : w.before args s = true) (t : ∀ w ∈ B, w.before args s = true) : ∀ w' ∈ w :: B, w'.before args s = true := fun w' h' => (List.mem_cons.mp h').elim (fun e => by rw [e]; exact h) (t w')
theorem vx_n {args : Array Value} {s : State} : ∀ w ∈ ([] : List Cond), w.before args s = true := fun _ h => nomatch h
theorem vx_own {args : Array Value} {s : State} {L : List Cond} (h1 : ∀ w ∈ L.filter vx_no, w.before args s = true)
    (hU : (Cond.isRef (.static Bundle.tN "UNASSIGNED_STACK" Bundle.steD)).before args s = true) (hN : (Cond.isRef (.static Bundle.tN "SUPPRESSED_SENTINEL" Bundle.listD)).before args s = true)
    (lU : (Cond.laysStatic Bundle.tN "UNASSIGNED_STACK" Bundle.steD).before args s = true) (lN : (Cond.laysStatic Bundle.tN "SUPPRESSED_SENTINEL" Bundle.listD).before args s = true) : ∀ w ∈ L, w.before args s = true := by
  intro w hw
  by_cases e1 : w = .isRef (.static Bundle.tN "UNASSIGNED_STACK" Bundle.steD)
  · rw [e1]; exact hU
  · by_cases e2 : w = .isRef (.static Bundle.tN "SUPPRESSED_SENTINEL" Bundle.listD)
    · rw [e2]; exact hN
    · by_cases e3 : w = .laysStatic Bundle.tN "UNASSIGNED_STACK" Bundle.steD
      · rw [e3]; exact lU
      · by_cases e4 : w = .laysStatic Bundle.tN "SUPPRESSED_SENTINEL" Bundle.listD
        · rw [e4]; exact lN
        · exact h1 w (List.mem_filter.mpr ⟨hw, by unfold vx_no; rw [decide_eq_true e1, decide_eq_true e2, decide_eq_true e3, decide_eq_true e4]; rfl⟩)
/-- where a static field lies, its class's statics cell in H -/
def vx_L (C n d : String) (A : Nat → Prop) (U : State) (H : Heap) : Prop := ∃ (c : ClassId) (k : Class) (i : Nat) (f : Field) (a : Nat) (cell : Cell), U.vm.findClass C = some c ∧ U.fieldFound? C n d = some (c, k, i, f) ∧ f.isStatic = true ∧ k.statics = some a ∧ H[a]? = some cell ∧ cell.vm.isStatics = true ∧ cell.cls = c ∧ f.slot < cell.slots.size ∧ k.staticTypes[f.slot]? = some f.type ∧ ¬ A a
theorem vx_L.moved {C n d : String} {A : Nat → Prop} {u U : State} {H : Heap} (hvm : u.vm.Alike U.vm) (h : vx_L C n d A u H) : vx_L C n d A U H := by
  obtain ⟨c, k, i, f, a, cell, h1, h2, h3, h4, h5, h6, h7, h8, h9, h10⟩ := h
  obtain ⟨k', hi', he⟩ := State.fieldFound?_setVm hvm h2
  exact ⟨c, k', i, f, a, cell, by rw [hvm.findClass]; exact h1, hi', h3, by rw [he]; exact h4, h5, h6, h7, h8, by rw [he]; exact h9, h10⟩
theorem vx_L.kept {C n d : String} {A : Nat → Prop} {U : State} {H H1 : Heap} (h : vx_L C n d A U H) (hq : ∀ a : Nat, a < H.size → ¬ A a → H1[a]? = H[a]?) : vx_L C n d A U H1 := by
  obtain ⟨c, k, i, f, a, cell, h1, h2, h3, h4, h5, h6, h7, h8, h9, h10⟩ := h
  exact ⟨c, k, i, f, a, cell, h1, h2, h3, h4, by rw [hq a (Array.getElem?_eq_some_iff.mp h5).1 h10]; exact h5, h6, h7, h8, h9, h10⟩
theorem vx_L.narrow {C n d : String} {A B : Nat → Prop} {U : State} {H : Heap} (h : vx_L C n d A U H) (hAB : ∀ q, B q → A q) : vx_L C n d B U H := by
  obtain ⟨c, k, i, f, a, cell, h1, h2, h3, h4, h5, h6, h7, h8, h9, h10⟩ := h
  exact ⟨c, k, i, f, a, cell, h1, h2, h3, h4, h5, h6, h7, h8, h9, fun z => h10 (hAB _ z)⟩
theorem vx_L.word {C n d : String} {A : Nat → Prop} {s : State} {args : Array Value} (h : vx_L C n d A s s.heap) : (Cond.laysStatic C n d).before args s = true := by
  obtain ⟨c, k, i, f, a, cell, h1, h2, h3, h4, h5, h6, h7, h8, h9, -⟩ := h
  show (Cond.laysStatic C n d).holds args s none s [] = true
  exact Cond.laysStatic_of h1 h2 h3 h4 h5 h6 h7 h8 h9
/-- .. and what it holds: null or some reference -/
def vx_Zq (C n d : String) (A : Nat → Prop) (U : State) (H : Heap) : Prop := va_Zq C n d A U H ∧ vx_L C n d A U H
theorem vx_Zq.moved {C n d : String} {A : Nat → Prop} {u U : State} {H : Heap} (hvm : u.vm.Alike U.vm) (h : vx_Zq C n d A u H) : vx_Zq C n d A U H := ⟨va_Zq.moved hvm h.1, vx_L.moved hvm h.2⟩
theorem vx_Zq.kept {C n d : String} {A : Nat → Prop} {U : State} {H H1 : Heap} (h : vx_Zq C n d A U H) (hq : ∀ a : Nat, a < H.size → ¬ A a → H1[a]? = H[a]?) : vx_Zq C n d A U H1 := ⟨va_Zq.kept h.1 hq, vx_L.kept h.2 hq⟩
theorem vx_Zq.narrow {C n d : String} {A B : Nat → Prop} {U : State} {H : Heap} (h : vx_Zq C n d A U H) (hAB : ∀ q, B q → A q) : vx_Zq C n d B U H := ⟨va_Zq.narrow h.1 hAB, vx_L.narrow h.2 hAB⟩
theorem vx_Zqof {args : Array Value} {s : State} {C n d : String} {A : Nat → Prop} (hl : (Cond.laysStatic C n d).before args s = true) (hini : (Cond.initialized C).before args s = true) (h : (Cond.isRef (.static C n d)).before args s = true) (hA : ∀ a : Nat, a < s.heap.size → ¬ A a) : vx_Zq C n d A s s.heap := by
  refine ⟨va_Zqof hl hini h hA, ?_⟩
  obtain ⟨c, k, i, f, a, cell, h1, h2, h3, h4, h5, h6, h7, h8, h9⟩ := Cond.laysStatic_spec hl
  exact ⟨c, k, i, f, a, cell, h1, h2, h3, h4, h5, h6, h7, h8, h9, hA a (Array.getElem?_eq_some_iff.mp h5).1⟩
theorem vx_isRef {C n d : String} {v : Value} {A : Nat → Prop} {s : State} {args : Array Value} (h : va_Z C n d v A s s.heap) (hv : v.isRef = true) : (Cond.isRef (.static C n d)).before args s = true := by
  obtain ⟨cf, kf, fi, f, a, cell, h1, h2, h3, h4, h5, h6, h7, -⟩ := h
  have he : (Term.static C n d).eval args s none [] s = some v := by
    simp [Term.eval, State.fieldNamed?, h1, h2, h4, h5, h6, h7]
  simp only [Cond.before, Cond.holds, Cond.value, he]
  cases v <;> simp_all [Value.isRef]
theorem vx_isRefq {C n d : String} {A : Nat → Prop} {s : State} {args : Array Value} (h : va_Zq C n d A s s.heap) : (Cond.isRef (.static C n d)).before args s = true := by
  rcases h with h | ⟨t, h⟩
  · exact vx_isRef h rfl
  · exact vx_isRef h rfl
/-- the same frame, seen from here: as if the method were called anew in this heap -/
theorem vx_rebase {T : State} (X : Stand p l e R s m args below meth c T locs cells slots) {R' : Room} (hf : R'.frames ≤ R.frames) (hl : R'.locals ≤ R.locals) (hc : cells + R'.cells ≤ R.cells) (hs : slots + R'.slots ≤ R.slots) :
    Stand p l e R' ((T.setVm s.vm).setFrames (.invoking m args :: below)) m args below meth c T [] 0 0 := by
  have htop : (T.setVm s.vm).topJava?.isSome := X.here.top
  have hF : ((T.setVm s.vm).setFrames (.invoking m args :: below)).frames = .invoking m args :: below := State.frames_setFrames _ (State.cur_lt_of_top htop)
  obtain ⟨g₀, hg0⟩ := Option.isSome_iff_exists.mp htop
  obtain ⟨r, hr⟩ := State.topJava?_eq_some.mp hg0
  have hl9 : e.platform.stackLimits (T.setVm s.vm).me = e.platform.stackLimits s.me := X.limits
  have hb9 : (T.setVm s.vm).me.stackBytes = s.me.stackBytes := X.bytes
  refine ⟨X.admits, X.cas, X.clock, hF, ?_, X.hears, X.method, X.code, X.here, X.tail, X.warmed, ?_, ?_, ?_⟩
  · have h := X.room
    have hU : ((T.setVm s.vm).setFrames (.invoking m args :: below)).localsInUse = s.localsInUse := by
      rw [State.localsInUse_invoking hF (meth := meth) (c := c) X.method X.code, State.localsInUse_invoking X.frames X.method X.code]
    simp only [State.hasRoom, Bool.and_eq_true, decide_eq_true_eq] at h ⊢
    obtain ⟨⟨⟨⟨h1, h2, h3, h4, h5, h6⟩, h7⟩, h8⟩, h9⟩ := h
    rw [X.frames, List.length_cons] at h2 h3
    have q1 := X.heapSize
    have q2 := X.used
    simp only [hF, hU, List.length_cons, State.stackLimits_setFrames, State.stackBytes_setFrames, hl9, hb9]
    refine ⟨⟨⟨⟨by omega, by omega, by omega, by omega, by omega, h6⟩, ?_⟩, ?_⟩, X.book⟩
    · show T.heap.size + R'.cells ≤ e.platform.maxCells
      omega
    · show T.slotsUsed + R'.slots ≤ e.platform.maxSlots
      omega
  · rw [State.stackLimits_setFrames]; rfl
  · rw [State.stackBytes_setFrames]; rfl
  · refine ⟨?_, Nat.le_refl _, Nat.le_refl _, ?_, ?_, fun a c9 h9 => ⟨c9, h9, rfl, rfl, fun _ _ => rfl⟩⟩
    · obtain ⟨t, ht, -⟩ := State.frames_cons hr
      show T.setVm s.vm = { ((T.setVm s.vm).setFrames (.invoking m args :: below)).setFrames (T.setVm s.vm).frames with heap := T.heap, slotsUsed := T.slotsUsed }
      rw [State.setFrames_setFrames, State.setFrames_self ht]
      rfl
    · show T.slotsUsed = T.slotsUsed + ((T.heap.toList.drop T.heap.size).map (·.slots.size)).sum
      rw [List.drop_eq_nil_of_le (Nat.le_of_eq Array.length_toList)]
      rfl
    · show ((T.heap.toList.drop T.heap.size).map (·.slots.size)).sum ≤ 0
      rw [List.drop_eq_nil_of_le (Nat.le_of_eq Array.length_toList)]
      exact Nat.le_refl _
/-- 'throw new E()': new; dup; invokespecial; athrow -/
theorem vx_throw0 {cc : ByteArray} {pc : Nat} (hexec : p.tables.exec = Jvm.exec) (hb : c.code = cc) (hl : l.stackTraces = false) {own cls : String} {names : List String} {ik ic mc ms : Nat} {A : Nat → Prop}
    (hown : s.vm.findClass own = some m.cls) (hcls : Bundle.fit cls = true) (hnames : ∀ n ∈ names, Bundle.fit n = true)
    (hk : (Cond.classLink own ik cls).before args s = true) (hini : (Cond.initialized cls).before args s = true) (hat : ∀ w ∈ vx_at0 own ic cls names, w.before args s = true)
    (hgood : ∀ w ∈ Cond.classLink own ik cls :: Cond.initialized cls :: vx_at0 own ic cls names, vx_ot w = true)
    (hU : vx_Zq Bundle.tN "UNASSIGNED_STACK" Bundle.steD A s s.heap) (hN : vx_Zq Bundle.tN "SUPPRESSED_SENTINEL" Bundle.listD A s s.heap) (hS : va_S A s.heap H locs) (hsize : ls.size = c.maxLocals)
    (d0 : decode cc pc = .ok (.new ik, 3)) (d3 : decode cc (pc + 3) = .ok (.dup, 1)) (d4 : decode cc (pc + 4) = .ok (.invokespecial ic, 3)) (d7 : decode cc (pc + 7) = .ok (.athrow, 1))
    (hout : ∀ x ∈ c.exceptionTable.toList, covers x (pc + 7) = false)
    (hRframes : names.length + 3 < R.frames) (hRlocals : (rest.map fun v => v.category).sum + (13 * (names.length + 1) + 42) ≤ R.locals) (hRcells : cells + 1 ≤ R.cells) (hRslots : slots + 6 ≤ R.slots) (hlocks : meth.locks = false)
    (hx : ∀ t : State, s.vm.Alike t.vm → H.size ≤ t.heap.size → (∀ q : Nat, q < H.size → t.heap[q]? = H[q]?) → XC cls s t)
    (hf : ∀ z ∈ locs, free z.base) (hc : cells + 1 ≤ mc) (hs : slots + 6 ≤ ms) :
    W p l e R s m args below meth c H locs cells slots (vx_MQ below Qc XC args s mc ms free) (F0 m pc ls rest) := by
  intro T hT X
  have htr : e.platform.stackTraces = false := (show e.platform.stackTraces = l.stackTraces by rw [X.admits.platform]).trans hl
  have Y := vx_rebase X (R' := { frames := R.frames, locals := R.locals, cells := 1, slots := 6 }) (Nat.le_refl _) (Nat.le_refl _) hRcells hRslots
  obtain ⟨s', hA⟩ : ∃ z, z = (T.setVm s.vm).setFrames (.invoking m args :: below) := ⟨_, rfl⟩
  rw [← hA] at Y
  have hvm : s'.vm = s.vm := by rw [hA]; rfl
  have hhp : s'.heap = H := by rw [hA]; exact hT
  have hW0 : s.WarmedH s'.vm := by rw [hvm]; exact State.WarmedH.refl s
  have hat' : ∀ w ∈ vx_at0 own ic cls names, w.before args s' = true := fun w hw => vx_ot_at hW0 hvm.symm (hgood w (List.mem_cons_of_mem _ (List.mem_cons_of_mem _ hw))) (hat w hw)
  have hk' : (Cond.classLink own ik cls).before args s' = true := vx_ot_at hW0 hvm.symm (hgood _ List.mem_cons_self) hk
  have hini' : (Cond.initialized cls).before args s' = true := vx_ot_at hW0 hvm.symm (hgood _ (List.mem_cons_of_mem _ List.mem_cons_self)) hini
  have hU' : vx_Zq Bundle.tN "UNASSIGNED_STACK" Bundle.steD A s' s'.heap := by rw [hhp]; exact vx_Zq.moved hW0.alike (hU.kept hS.2.1)
  have hN' : vx_Zq Bundle.tN "SUPPRESSED_SENTINEL" Bundle.listD A s' s'.heap := by rw [hhp]; exact vx_Zq.moved hW0.alike (hN.kept hS.2.1)
  have h : ∀ w ∈ Bundle.ownAtoms0 own ic cls names, w.before args s' = true := vx_own hat' (vx_isRefq hU'.1) (vx_isRefq hN'.1) hU'.2.word hN'.2.word
  have hown' : s'.vm.findClass own = some m.cls := by rw [hvm]; exact hown
  have hins : (Cond.instantiable cls 6).before args s' = true := h _ (by simp [Bundle.ownAtoms0])
  obtain ⟨vm₁, cX, kX, hfX, hkX, -, -, X₁, st1⟩ := Y.newCold hexec (own := own) (C := cls) (index := ik) (n := 6) hown' hk' hins hini'
    (g := F0 m pc ls rest) rfl (by rw [hb]; exact d0) (Nat.le_refl _) (Nat.le_refl _)
  generalize hT1 : (T.setVm vm₁).pushCell { cls := cX, slots := kX.instanceTypes.map defaultValue, vm := .none } = T1 at X₁ st1
  have hcat : (Value.ref T.heap.size).category = 1 := rfl
  have hcellA : T1.heap[T.heap.size]? = some (freshCell cX kX) := by rw [← hT1]; exact State.heap_pushCell_size _ _
  have d3' : decode c.code (pc + 3) = .ok (.dup, 1) := by rw [hb]; exact d3
  obtain ⟨U, hsteps, hrun, hend, hW, hsame, ce, hce, hO⟩ := X₁.ctorThrow0 hexec htr (own := own) (cls := cls) (names := names) (ic := ic) hown' hcls hnames h (fun x hx => nomatch hx) hfX hkX hcellA (by rw [hhp, hT]; exact Nat.le_refl _)
    (g := { method := m, pc := pc + 4, locals := ls, stack := .ref T.heap.size :: .ref T.heap.size :: rest, locked := none }) rfl hsize rfl rfl (rest := rest) rfl
    (by rw [hb]; exact d4) (by rw [hb]; exact d7) hout hRframes (by simp only [List.map_cons, List.sum_cons, hcat]; omega) hlocks
  obtain ⟨f1, f2⟩ := vx_frame hsame
  rw [hhp] at f1 f2
  have hWs : s.WarmedH U.vm := State.WarmedH.trans hW0 hW
  have hcl : s.vm.findClass cls = some ce.cls := by
    have h9 := hO.cls
    rw [hvm] at h9
    exact h9
  have hall : s.sameButNew ({ U with vm := s.vm } : State) locs mc ms := by
    subst hA
    obtain ⟨e1, e2⟩ := hsame
    rw [State.setFrames_setFrames] at e1
    have h2 : (T.setVm s.vm).sameButNew ({ U with vm := s.vm } : State) [] (0 + 1) (0 + 6) := ⟨e1, e2⟩
    have h3 := X.same.trans h2
    rw [List.append_nil] at h3
    exact h3.mono hc hs
  refine ⟨U, ?_, .threw T.heap.size, hrun, hend, Or.inr ⟨T.heap.size, rfl, cls, ce, locs, hx U hWs.alike f1 (fun q hq => f2 q hq (fun z hz => nomatch hz)), hce, hO.vm, hcl, hWs, hall, hf⟩⟩
  refine st1 _ ?_
  show Steps p.tables e below (T1.setTop { method := m, pc := pc + 3, locals := ls, stack := .ref T.heap.size :: rest, locked := none }) _
  jvm_step X₁.here [X₁.here.top, hexec, d3', Value.category]
  exact hsteps
/-- 'throw new E("text")': new; dup; ldc; invokespecial; athrow -/
theorem vx_throwS {cc : ByteArray} {pc : Nat} (hexec : p.tables.exec = Jvm.exec) (hb : c.code = cc) (hl : l.stackTraces = false) {own cls text : String} {names : List String} {ik is ic mc ms sa : Nat} {A : Nat → Prop}
    (hown : s.vm.findClass own = some m.cls) (hcls : Bundle.fit cls = true) (hnames : ∀ n ∈ names, Bundle.fit n = true)
    (hk : (Cond.classLink own ik cls).before args s = true) (hini : (Cond.initialized cls).before args s = true) (hstr : vk_R own is text sa s) (hat : ∀ w ∈ vx_atS own ic cls names, w.before args s = true)
    (hgood : ∀ w ∈ Cond.classLink own ik cls :: Cond.initialized cls :: vx_atS own ic cls names, vx_ot w = true)
    (hU : vx_Zq Bundle.tN "UNASSIGNED_STACK" Bundle.steD A s s.heap) (hN : vx_Zq Bundle.tN "SUPPRESSED_SENTINEL" Bundle.listD A s s.heap) (hS : va_S A s.heap H locs) (hsize : ls.size = c.maxLocals)
    (d0 : decode cc pc = .ok (.new ik, 3)) (d3 : decode cc (pc + 3) = .ok (.dup, 1)) (d4 : decode cc (pc + 4) = .ok (.ldc is, 2)) (d6 : decode cc (pc + 6) = .ok (.invokespecial ic, 3)) (d9 : decode cc (pc + 9) = .ok (.athrow, 1))
    (hout : ∀ x ∈ c.exceptionTable.toList, covers x (pc + 9) = false)
    (hRframes : names.length + 3 < R.frames) (hRlocals : (rest.map fun v => v.category).sum + (13 * (names.length + 1) + 43) ≤ R.locals) (hRcells : cells + 1 ≤ R.cells) (hRslots : slots + 6 ≤ R.slots) (hlocks : meth.locks = false)
    (hx : ∀ t : State, s.vm.Alike t.vm → H.size ≤ t.heap.size → (∀ q : Nat, q < H.size → t.heap[q]? = H[q]?) → XC cls s t)
    (hf : ∀ z ∈ locs, free z.base) (hc : cells + 1 ≤ mc) (hs : slots + 6 ≤ ms) :
    W p l e R s m args below meth c H locs cells slots (vx_MQ below Qc XC args s mc ms free) (F0 m pc ls rest) := by
  intro T hT X
  have htr : e.platform.stackTraces = false := (show e.platform.stackTraces = l.stackTraces by rw [X.admits.platform]).trans hl
  have Y := vx_rebase X (R' := { frames := R.frames, locals := R.locals, cells := 1, slots := 6 }) (Nat.le_refl _) (Nat.le_refl _) hRcells hRslots
  obtain ⟨s', hA⟩ : ∃ z, z = (T.setVm s.vm).setFrames (.invoking m args :: below) := ⟨_, rfl⟩
  rw [← hA] at Y
  have hvm : s'.vm = s.vm := by rw [hA]; rfl
  have hhp : s'.heap = H := by rw [hA]; exact hT
  have hW0 : s.WarmedH s'.vm := by rw [hvm]; exact State.WarmedH.refl s
  have hat' : ∀ w ∈ vx_atS own ic cls names, w.before args s' = true := fun w hw => vx_ot_at hW0 hvm.symm (hgood w (List.mem_cons_of_mem _ (List.mem_cons_of_mem _ hw))) (hat w hw)
  have hk' : (Cond.classLink own ik cls).before args s' = true := vx_ot_at hW0 hvm.symm (hgood _ List.mem_cons_self) hk
  have hini' : (Cond.initialized cls).before args s' = true := vx_ot_at hW0 hvm.symm (hgood _ (List.mem_cons_of_mem _ List.mem_cons_self)) hini
  have hU' : vx_Zq Bundle.tN "UNASSIGNED_STACK" Bundle.steD A s' s'.heap := by rw [hhp]; exact vx_Zq.moved hW0.alike (hU.kept hS.2.1)
  have hN' : vx_Zq Bundle.tN "SUPPRESSED_SENTINEL" Bundle.listD A s' s'.heap := by rw [hhp]; exact vx_Zq.moved hW0.alike (hN.kept hS.2.1)
  have h : ∀ w ∈ Bundle.ownAtoms own ic cls names, w.before args s' = true := vx_own hat' (vx_isRefq hU'.1) (vx_isRefq hN'.1) hU'.2.word hN'.2.word
  have hown' : s'.vm.findClass own = some m.cls := by rw [hvm]; exact hown
  have hins : (Cond.instantiable cls 6).before args s' = true := h _ (by simp [Bundle.ownAtoms])
  obtain ⟨vm₁, cX, kX, hfX, hkX, -, -, X₁, st1⟩ := Y.newCold hexec (own := own) (C := cls) (index := ik) (n := 6) hown' hk' hins hini'
    (g := F0 m pc ls rest) rfl (by rw [hb]; exact d0) (Nat.le_refl _) (Nat.le_refl _)
  generalize hT1 : (T.setVm vm₁).pushCell { cls := cX, slots := kX.instanceTypes.map defaultValue, vm := .none } = T1 at X₁ st1
  have hcat : (Value.ref T.heap.size).category = 1 := rfl
  have hcellA : T1.heap[T.heap.size]? = some (freshCell cX kX) := by rw [← hT1]; exact State.heap_pushCell_size _ _
  have d3' : decode c.code (pc + 3) = .ok (.dup, 1) := by rw [hb]; exact d3
  have d4' : decode c.code (pc + 4) = .ok (.ldc is, 2) := by rw [hb]; exact d4
  have hstr' : vk_R own is text sa s' := vk_R.warm hW0 hstr
  obtain ⟨U, hsteps, hrun, hend, hW, hsame, ce, hce, hO⟩ := X₁.ctorThrowS hexec htr (own := own) (cls := cls) (names := names) (ic := ic) hown' hcls hnames h (fun x hx => nomatch hx) hfX hkX hcellA (by rw [hhp, hT]; exact Nat.le_refl _) (msg := .ref sa) rfl
    (g := { method := m, pc := pc + 6, locals := ls, stack := .ref sa :: .ref T.heap.size :: .ref T.heap.size :: rest, locked := none }) rfl hsize rfl rfl (rest := rest) rfl
    (by rw [hb]; exact d6) (by rw [hb]; exact d9) hout hRframes (by simp only [List.map_cons, List.sum_cons, hcat]; omega) hlocks
  obtain ⟨f1, f2⟩ := vx_frame hsame
  rw [hhp] at f1 f2
  have hWs : s.WarmedH U.vm := State.WarmedH.trans hW0 hW
  have hcl : s.vm.findClass cls = some ce.cls := by
    have h9 := hO.cls
    rw [hvm] at h9
    exact h9
  have hall : s.sameButNew ({ U with vm := s.vm } : State) locs mc ms := by
    subst hA
    obtain ⟨e1, e2⟩ := hsame
    rw [State.setFrames_setFrames] at e1
    have h2 : (T.setVm s.vm).sameButNew ({ U with vm := s.vm } : State) [] (0 + 1) (0 + 6) := ⟨e1, e2⟩
    have h3 := X.same.trans h2
    rw [List.append_nil] at h3
    exact h3.mono hc hs
  refine ⟨U, ?_, .threw T.heap.size, hrun, hend, Or.inr ⟨T.heap.size, rfl, cls, ce, locs, hx U hWs.alike f1 (fun q hq => f2 q hq (fun z hz => nomatch hz)), hce, hO.vm, hcl, hWs, hall, hf⟩⟩
  refine st1 _ ?_
  show Steps p.tables e below (T1.setTop { method := m, pc := pc + 3, locals := ls, stack := .ref T.heap.size :: rest, locked := none }) _
  jvm_step X₁.here [X₁.here.top, hexec, d3', Value.category]
  exact X₁.ldcString hexec (own := own) (text := text) (index := is) (a := sa) hown' hstr'.1 hstr'.2
    (g := { method := m, pc := pc + 4, locals := ls, stack := .ref T.heap.size :: .ref T.heap.size :: rest, locked := none }) rfl d4' _ hsteps
/-- 'throw new E("text")', the text by a wide index -/
theorem vx_throwSW {cc : ByteArray} {pc : Nat} (hexec : p.tables.exec = Jvm.exec) (hb : c.code = cc) (hl : l.stackTraces = false) {own cls text : String} {names : List String} {ik is ic mc ms sa : Nat} {A : Nat → Prop}
    (hown : s.vm.findClass own = some m.cls) (hcls : Bundle.fit cls = true) (hnames : ∀ n ∈ names, Bundle.fit n = true)
    (hk : (Cond.classLink own ik cls).before args s = true) (hini : (Cond.initialized cls).before args s = true) (hstr : vk_R own is text sa s) (hat : ∀ w ∈ vx_atS own ic cls names, w.before args s = true)
    (hgood : ∀ w ∈ Cond.classLink own ik cls :: Cond.initialized cls :: vx_atS own ic cls names, vx_ot w = true)
    (hU : vx_Zq Bundle.tN "UNASSIGNED_STACK" Bundle.steD A s s.heap) (hN : vx_Zq Bundle.tN "SUPPRESSED_SENTINEL" Bundle.listD A s s.heap) (hS : va_S A s.heap H locs) (hsize : ls.size = c.maxLocals)
    (d0 : decode cc pc = .ok (.new ik, 3)) (d3 : decode cc (pc + 3) = .ok (.dup, 1)) (d4 : decode cc (pc + 4) = .ok (.ldc_w is, 3)) (d7 : decode cc (pc + 7) = .ok (.invokespecial ic, 3)) (d10 : decode cc (pc + 10) = .ok (.athrow, 1))
    (hout : ∀ x ∈ c.exceptionTable.toList, covers x (pc + 10) = false)
    (hRframes : names.length + 3 < R.frames) (hRlocals : (rest.map fun v => v.category).sum + (13 * (names.length + 1) + 43) ≤ R.locals) (hRcells : cells + 1 ≤ R.cells) (hRslots : slots + 6 ≤ R.slots) (hlocks : meth.locks = false)
    (hx : ∀ t : State, s.vm.Alike t.vm → H.size ≤ t.heap.size → (∀ q : Nat, q < H.size → t.heap[q]? = H[q]?) → XC cls s t)
    (hf : ∀ z ∈ locs, free z.base) (hc : cells + 1 ≤ mc) (hs : slots + 6 ≤ ms) :
    W p l e R s m args below meth c H locs cells slots (vx_MQ below Qc XC args s mc ms free) (F0 m pc ls rest) := by
  intro T hT X
  have htr : e.platform.stackTraces = false := (show e.platform.stackTraces = l.stackTraces by rw [X.admits.platform]).trans hl
  have Y := vx_rebase X (R' := { frames := R.frames, locals := R.locals, cells := 1, slots := 6 }) (Nat.le_refl _) (Nat.le_refl _) hRcells hRslots
  obtain ⟨s', hA⟩ : ∃ z, z = (T.setVm s.vm).setFrames (.invoking m args :: below) := ⟨_, rfl⟩
  rw [← hA] at Y
  have hvm : s'.vm = s.vm := by rw [hA]; rfl
  have hhp : s'.heap = H := by rw [hA]; exact hT
  have hW0 : s.WarmedH s'.vm := by rw [hvm]; exact State.WarmedH.refl s
  have hat' : ∀ w ∈ vx_atS own ic cls names, w.before args s' = true := fun w hw => vx_ot_at hW0 hvm.symm (hgood w (List.mem_cons_of_mem _ (List.mem_cons_of_mem _ hw))) (hat w hw)
  have hk' : (Cond.classLink own ik cls).before args s' = true := vx_ot_at hW0 hvm.symm (hgood _ List.mem_cons_self) hk
  have hini' : (Cond.initialized cls).before args s' = true := vx_ot_at hW0 hvm.symm (hgood _ (List.mem_cons_of_mem _ List.mem_cons_self)) hini
  have hU' : vx_Zq Bundle.tN "UNASSIGNED_STACK" Bundle.steD A s' s'.heap := by rw [hhp]; exact vx_Zq.moved hW0.alike (hU.kept hS.2.1)
  have hN' : vx_Zq Bundle.tN "SUPPRESSED_SENTINEL" Bundle.listD A s' s'.heap := by rw [hhp]; exact vx_Zq.moved hW0.alike (hN.kept hS.2.1)
  have h : ∀ w ∈ Bundle.ownAtoms own ic cls names, w.before args s' = true := vx_own hat' (vx_isRefq hU'.1) (vx_isRefq hN'.1) hU'.2.word hN'.2.word
  have hown' : s'.vm.findClass own = some m.cls := by rw [hvm]; exact hown
  have hins : (Cond.instantiable cls 6).before args s' = true := h _ (by simp [Bundle.ownAtoms])
  obtain ⟨vm₁, cX, kX, hfX, hkX, -, -, X₁, st1⟩ := Y.newCold hexec (own := own) (C := cls) (index := ik) (n := 6) hown' hk' hins hini'
    (g := F0 m pc ls rest) rfl (by rw [hb]; exact d0) (Nat.le_refl _) (Nat.le_refl _)
  generalize hT1 : (T.setVm vm₁).pushCell { cls := cX, slots := kX.instanceTypes.map defaultValue, vm := .none } = T1 at X₁ st1
  have hcat : (Value.ref T.heap.size).category = 1 := rfl
  have hcellA : T1.heap[T.heap.size]? = some (freshCell cX kX) := by rw [← hT1]; exact State.heap_pushCell_size _ _
  have d3' : decode c.code (pc + 3) = .ok (.dup, 1) := by rw [hb]; exact d3
  have d4' : decode c.code (pc + 4) = .ok (.ldc_w is, 3) := by rw [hb]; exact d4
  have hstr' : vk_R own is text sa s' := vk_R.warm hW0 hstr
  obtain ⟨U, hsteps, hrun, hend, hW, hsame, ce, hce, hO⟩ := X₁.ctorThrowS hexec htr (own := own) (cls := cls) (names := names) (ic := ic) hown' hcls hnames h (fun x hx => nomatch hx) hfX hkX hcellA (by rw [hhp, hT]; exact Nat.le_refl _) (msg := .ref sa) rfl
    (g := { method := m, pc := pc + 7, locals := ls, stack := .ref sa :: .ref T.heap.size :: .ref T.heap.size :: rest, locked := none }) rfl hsize rfl rfl (rest := rest) rfl
    (by rw [hb]; exact d7) (by rw [hb]; exact d10) hout hRframes (by simp only [List.map_cons, List.sum_cons, hcat]; omega) hlocks
  obtain ⟨f1, f2⟩ := vx_frame hsame
  rw [hhp] at f1 f2
  have hWs : s.WarmedH U.vm := State.WarmedH.trans hW0 hW
  have hcl : s.vm.findClass cls = some ce.cls := by
    have h9 := hO.cls
    rw [hvm] at h9
    exact h9
  have hall : s.sameButNew ({ U with vm := s.vm } : State) locs mc ms := by
    subst hA
    obtain ⟨e1, e2⟩ := hsame
    rw [State.setFrames_setFrames] at e1
    have h2 : (T.setVm s.vm).sameButNew ({ U with vm := s.vm } : State) [] (0 + 1) (0 + 6) := ⟨e1, e2⟩
    have h3 := X.same.trans h2
    rw [List.append_nil] at h3
    exact h3.mono hc hs
  refine ⟨U, ?_, .threw T.heap.size, hrun, hend, Or.inr ⟨T.heap.size, rfl, cls, ce, locs, hx U hWs.alike f1 (fun q hq => f2 q hq (fun z hz => nomatch hz)), hce, hO.vm, hcl, hWs, hall, hf⟩⟩
  refine st1 _ ?_
  show Steps p.tables e below (T1.setTop { method := m, pc := pc + 3, locals := ls, stack := .ref T.heap.size :: rest, locked := none }) _
  jvm_step X₁.here [X₁.here.top, hexec, d3', Value.category]
  exact X₁.ldcStringW hexec (own := own) (text := text) (index := is) (a := sa) hown' hstr'.1 hstr'.2
    (g := { method := m, pc := pc + 4, locals := ls, stack := .ref T.heap.size :: .ref T.heap.size :: rest, locked := none }) rfl d4' _ hsteps
end Ends
section Bodies
variable {l : Launch}
theorem vx_ofW {y : MethodName} {ws ws' : List Cond} {rm : Room} {Pc : Array Value → State → Prop} {Qc : Array Value → State → Outcome → State → Prop} {XC : String → State → State → Prop} {mc ms : Nat} {free : Addr → Prop} {cc : ByteArray} {maxL : Nat} {ret : Option FieldType}
    (hy : plainName y.cls = true) (hw : ws = Cond.code y cc maxL ret :: ws')
    (body : ∀ p e s m args below meth c s₁, BodyLoose p l y (headSpec ws rm) cc maxL ret e s m args below meth c s₁ → c.maxLocals = maxL → (∀ x ∈ c.exceptionTable.toList, False) → Pc args s →
      W p l e (headSpec ws rm).room s m args below meth c s.heap [] 0 0 (vx_MQ below Qc XC args s mc ms free) (entryFrame m args maxL)) : vx_Met l y ws rm Pc Qc XC mc ms free := by
  refine MetFree.of_bodyS (code := cc) (maxLocals := maxL) (ret := ret) hy ?_ ?_
  · intro args s m h hn
    obtain ⟨meth, c, h1, h2, h3, h4, h5, h6, -, -⟩ := Cond.code_spec hn (atoms_spec (ws := ws) h _ (by rw [hw]; exact List.mem_cons_self))
    exact ⟨meth, c, h1, h2, h3, h4, h5, h6⟩
  · intro p e s m args below meth c s₁ B hml hP _
    have hh0 : s₁.heap = s.heap := by rw [B.state]; rfl
    have ht : ∀ x ∈ c.exceptionTable.toList, False := by
      obtain ⟨meth9, c9, h1, h2, -, -, -, -, h7, -⟩ := Cond.code_spec B.named (atoms_spec (ws := ws) B.pre _ (by rw [hw]; exact List.mem_cons_self))
      cases Option.some.inj (h1.symm.trans B.method)
      cases Option.some.inj (h2.symm.trans (Stand.of_body B).code)
      intro x hx
      rw [Array.isEmpty_iff.mp h7] at hx
      cases hx
    obtain ⟨t, a1, o, b1, b2, b3⟩ := body p e s m args below meth c s₁ B hml ht hP s₁ hh0 (Stand.of_body B)
    exact ⟨t, o, a1, b1, b2, b3⟩
/-- the table of a body with handlers -/
theorem vx_table {p : Program} {x y : MethodName} {S : Spec} {cc bytes : ByteArray} {maxL maxL' : Nat} {ret ret' : Option FieldType} {e : Env} {s s₁ : State} {m : MethodId} {args : Array Value} {below : List Frame} {meth : Method} {c : Code} {hh : List (Nat × Nat × Nat × Nat)}
    (B : BodyLoose p l y S cc maxL ret e s m args below meth c s₁) (h : (Cond.codeWith y bytes maxL' ret' hh).before args s = true) : c.exceptionTable.toList = tableOf hh := by
  obtain ⟨m9, meth9, c9, hn9, h1, h2, -, -, h6, -⟩ := Cond.codeWith_spec h
  cases Option.some.inj (hn9.symm.trans B.named)
  cases Option.some.inj (h1.symm.trans B.method)
  cases Option.some.inj (h2.symm.trans (Stand.of_body B).code)
  rw [← h6, table_eq]
end Bodies
end VXA
/-! ===== END ===== -/
/-! ===== BEGIN a static call of a method with an exception table ===== -/
section VXS
variable {p : Program} {l : Launch} {e : Env} {R : Room} {s : State} {m : MethodId} {args : Array Value} {below : List Frame} {meth : Method} {c : Code} {T : State} {H : Heap} {locs : List Loc} {cells slots : Nat}
abbrev vx_CSW (R : Room) (s : State) (args : Array Value) (own : String) (index : Nat) (y : MethodName) (bytes : ByteArray) (maxL : Nat) (ret : Option FieldType) (hh : List (Nat × Nat × Nat × Nat)) (ws : List Cond) (rm : Room) (mc ms n : Nat) : Prop :=
  (rm.cells = mc ∧ rm.slots = ms ∧ rm.frames + 1 ≤ R.frames ∧ 8 + (maxL + 11) + rm.locals ≤ R.locals ∧ (∀ w ∈ ws, ∀ (a' : Array Value) (U : State), s.WarmedH U.vm → w.before a' U = true) ∧ Cond.codeWith y bytes maxL ret hh ∈ ws) ∧
  (Cond.codeWith y bytes maxL ret hh).before args s = true ∧ (Cond.initialized y.cls).before args s = true ∧ (y.cls ≠ "java/lang/invoke/MethodHandle" ∧ y.cls ≠ "java/lang/invoke/VarHandle") ∧
  (∀ sig, parseMethodDescriptor y.desc = some sig → n = sig.parameters.length) ∧ (Cond.methodLink own index y).before args s = true ∧ (Cond.static y).before args s = true
theorem vx_cwSW {own : String} {index maxL mc ms : Nat} {y : MethodName} {bytes : ByteArray} {ret : Option FieldType} {hh : List (Nat × Nat × Nat × Nat)} {Ts ws ws' : List Cond} {rm : Room} (n : Nat) (ht : ∀ w ∈ Ts, w.before args s = true) (hT : GoodIn Ts (va_wsS own index y ws)) (hw : ws = Cond.codeWith y bytes maxL ret hh :: ws') (hrc : rm.cells = mc) (hrs : rm.slots = ms)
    (hd : y.cls ≠ "java/lang/invoke/MethodHandle" ∧ y.cls ≠ "java/lang/invoke/VarHandle" ∧ (parseMethodDescriptor y.desc).map (fun d => d.parameters.length) = some n) (hR : rm.frames + 1 ≤ R.frames ∧ 8 + (maxL + 11) + rm.locals ≤ R.locals) :
    vx_CSW R s args own index y bytes maxL ret hh ws rm mc ms n := by
  have ok : ∀ w ∈ va_wsS own index y ws, w.before args s = true := fun w h => ht w (hT w h).1
  have hG : GoodIn Ts ws := fun w h => hT w (by unfold va_wsS; exact List.mem_append_right _ h)
  have hc : Cond.codeWith y bytes maxL ret hh ∈ ws := by rw [hw]; exact List.mem_cons_self
  refine ⟨⟨hrc, hrs, hR.1, hR.2, pay_in ht hG, hc⟩, ht _ (hG _ hc).1, ok _ (by simp [va_wsS]), ⟨hd.1, hd.2.1⟩, fun sig h => ?_, ok _ (by simp [va_wsS]), ok _ (by simp [va_wsS])⟩
  have h2 := hd.2.2
  rw [h] at h2
  exact (Option.some.inj h2).symm
theorem vx_callSW (X : Stand p l e R s m args below meth c T locs cells slots) (hexec : p.tables.exec = Jvm.exec) {own : String} {index : Nat} {y : MethodName} {bytes : ByteArray} {maxL : Nat} {ret : Option FieldType} {hh : List (Nat × Nat × Nat × Nat)}
    (hown : s.vm.findClass own = some m.cls) (hlink : (Cond.methodLink own index y).before args s = true) (hstat : (Cond.static y).before args s = true) (hinit : (Cond.initialized y.cls).before args s = true)
    (hcode : (Cond.codeWith y bytes maxL ret hh).before args s = true) (hy : y.cls ≠ "java/lang/invoke/MethodHandle" ∧ y.cls ≠ "java/lang/invoke/VarHandle")
    {W9 : Nat} {Pre : Pt → Array Value → Prop} {Post : Pt → Array Value → Option Value → Pt → Prop} (hK : Back l R p e below s args y 3 W9 Pre Post)
    {g : JFrame} (hg : g.method = m) (hsize : g.locals.size = c.maxLocals) {argsL rest : List Value} (hlen : ∀ sig, parseMethodDescriptor y.desc = some sig → argsL.length = sig.parameters.length)
    (hstack : g.stack = argsL.reverse ++ rest) (hW : 2 * g.monitorRoom + (rest.map fun v => v.category).sum ≤ W9) (hdg : decode c.code g.pc = .ok (.invokestatic index, 3))
    (hpre : ∀ vm₁, s.WarmedH vm₁ → Pre ⟨T.setVm vm₁, locs, cells, slots⟩ argsL.toArray) :
    ∃ (v : Option Value) (vm₁ : Vm) (B : Pt), s.WarmedH vm₁ ∧ Stand p l e R s m args below meth c B.U B.locs B.cells B.slots ∧ Post ⟨T.setVm vm₁, locs, cells, slots⟩ argsL.toArray v B ∧
      ∀ target, Steps p.tables e below (B.U.setTop { g with pc := g.pc + 3, stack := v.toList ++ rest }) target → Steps p.tables e below (T.setTop g) target := by
  obtain ⟨mk, methM, cM, hnamed, hmethM, -, -, -, -, -, -, hsigM⟩ := Cond.codeWith_spec hcode
  have hstatic : methM.isStatic = true := Cond.static_spec hnamed hmethM hstat
  obtain ⟨kP, hkP, -⟩ := className_of_methodNamed hnamed
  have hinitP : kP.init = .initialized := Cond.initialized_spec (findClass_of_methodNamed hnamed) hkP hinit
  obtain ⟨vm₁, X₁, hstep₁⟩ := X.invokestatic hexec hown hlink hnamed hmethM hstatic hkP hinitP hy (g := g) hg (argsL := argsL) (rest := rest) (hlen _ hsigM) hstack hdg
  obtain ⟨v, B, X', hpost, hsteps⟩ := hK m meth c ⟨T.setVm vm₁, locs, cells, slots⟩ { g with stack := rest } (.invokestatic index) mk argsL.toArray X₁ hg hsize hdg hW (X₁.named hnamed) (hpre vm₁ X₁.warmed)
  exact ⟨v, vm₁, B, X₁.warmed, X', hpost, fun target h => hstep₁ _ fun acts => by rw [doInvoke_state]; exact hsteps.trans h⟩
theorem vx_runSW {y : MethodName} {bytes cc : ByteArray} {maxL nL mc ms n index : Nat} {ret : Option FieldType} {hh : List (Nat × Nat × Nat × Nat)} {ws : List Cond} {rm : Room} {Pc : Array Value → State → Prop} {Qc : Array Value → State → Outcome → State → Prop} {free : Addr → Prop} {Ts : List Cond} {own : String} {As rest : List Value} {g : JFrame}
    (S : CallFix p m c cc nL s args Ts own) (hM : Met l y ws rm Pc Qc mc ms free) (cw : vx_CSW R s args own index y bytes maxL ret hh ws rm mc ms n) (hp : PreS s H Pc As)
    (hg : g.method = m) (hn : As.length = n) (hsize : g.locals.size = nL) (hstack : g.stack = As.reverse ++ rest) (hW : 2 * g.monitorRoom + (rest.map fun v => v.category).sum ≤ 8) (hdg : decode cc g.pc = .ok (.invokestatic index, 3)) (hf : cells + mc ≤ R.cells ∧ slots + ms ≤ R.slots) :
    va_Run p l e R s m args below meth c H locs cells slots mc ms g rest (Qc As.toArray) (free) := by
  obtain ⟨⟨hrc, hrs, hfr, hlo, hws, hcw⟩, hcode, hini, hy, hlen, hl, hstt⟩ := cw
  have hK : Back l R p e below s args y 3 8 (PreOf R mc ms Pc) (PostOf Qc mc ms free) := va_backW (hh := hh) (bytes := bytes) (maxL := maxL) (ret := ret) hM hp.1 hrc hrs hfr hlo hws hcw (fun a' U hW => word_at hW (Or.inl (by first | rfl | simp [Cond.onTables, Cond.keeps, Cond.steady])) hini)
  obtain ⟨hx, hb, hml, ho, -⟩ := S
  intro T hT X
  obtain ⟨v, vm₁, ⟨U', l2, c2, s2⟩, hW₁, X', ⟨g', mk, t, L, e1, e2, hq, h1, hL, h2, h3⟩, st⟩ := vx_callSW X hx (hh := hh) (bytes := bytes) (maxL := maxL) (ret := ret) ho hl hstt hini hcode hy hK hg (hsize.trans hml.symm) (argsL := As) (rest := rest) (fun sig h => hn.trans (hlen sig h)) hstack hW (by rw [hb]; exact hdg)
    (fun vm₁ hW₁ => ⟨hf.1, hf.2, hp.2 (T.setVm vm₁) hT hW₁⟩)
  dsimp only [Pt.U, Pt.locs, Pt.cells, Pt.slots] at X' e1 e2 h1 h2 h3 st
  subst h1; subst h2; subst h3
  exact ⟨v, (T.setVm vm₁).calling g' mk As.toArray, t, U', L, hT, X', hL, e1, e2, hq, st⟩
/-- not caught here, past rows that name other classes: it goes on to the caller -/
theorem vx_outP {p : Program} {l : Launch} {e : Env} {R : Room} {s : State} {m : MethodId} {args : Array Value} {below : List Frame} {meth : Method} {c : Code} {H : Heap} {locs : List Loc} {cells slots : Nat} {free : Addr → Prop} {ls : Array Slot} {rest : List Value} {Qc : Array Value → State → Outcome → State → Prop} {XC : String → State → State → Prop}
    {pc : Nat} {own E : String} {ce : Cell} {q : Addr} {mc ms : Nat} (hown : s.vm.findClass own = some m.cls) (hlocks : meth.locks = false)
    (hpass : ∀ z ∈ c.exceptionTable.toList, covers z pc = false ∨ (z.catchType ≠ 0 ∧ ∃ nm : String, (Cond.classLink own z.catchType nm).before args s = true ∧ va_Nc E nm s)) (hcell : H[q]? = some ce) (hv : ce.vm = .none) (hcl : s.vm.findClass E = some ce.cls)
    (hx : ∀ t : State, t.heap = H → s.vm.Alike t.vm → XC E s t) (hf : ∀ z ∈ locs, free z.base) (hc : cells ≤ mc) (hs : slots ≤ ms) :
    vx_W p l e R s m args below meth c H locs cells slots (vx_MQ below Qc XC args s mc ms free) (F0 m pc ls rest) q := by
  intro T hT X
  have hpl : e.platform.magicAccessors = ({} : Platform).magicAccessors := by rw [X.admits.platform]
  obtain ⟨vm', hW', X', st⟩ := X.outThrough hlocks q (g := F0 m pc ls rest) rfl rfl rfl (cell := ce) (by rw [hT]; exact hcell) (by rw [hv]; rfl)
    (by obtain ⟨k9, h9, -⟩ := Vm.findClass_spec hcl; exact ⟨k9, h9⟩) (fun z hz => by
      rcases hpass z hz with h | ⟨hz0, nm, hl1, hn1⟩
      · exact Or.inl h
      · obtain ⟨c6, hc6, hcl6⟩ := Cond.classLink_spec hown hl1 e.platform hpl
        obtain ⟨a8, b8, h1, h2, h3⟩ := hn1
        cases Option.some.inj (h1.symm.trans hcl)
        cases Option.some.inj (h2.symm.trans hc6)
        exact Or.inr ⟨hz0, _, hcl6, h3⟩)
  obtain ⟨g₀, hfr⟩ := X'.frames_eq
  have hcell9 : ((T.setVm vm').setFrames (.throwing q :: below)).heap[q]? = some ce := by
    show T.heap[q]? = some ce
    rw [hT]; exact hcell
  have hend : Ended ((T.setVm vm').setFrames (.throwing q :: below)) below (.threw q) := State.frames_setFrames _ (State.cur_lt_of_frames hfr)
  refine ⟨(T.setVm vm').setFrames (.throwing q :: below), ?_, .threw q, X'.here.running, hend, Or.inr ⟨q, rfl, E, ce, locs, hx _ hT (X'.ends _).1.alike, hcell9, hv, hcl, (X'.ends _).1, (X'.ends _).2.mono hc hs, hf⟩⟩
  rw [X.pushThrowing_eq]
  exact st
/-- a thing of a world lies in the heap -/
theorem vx_lt {D : va_G} {cl : List vw_C} {ws : va_W} {H1 : Heap} (h : va_P D cl ws H1) {k : Nat} {q : Nat × va_E} (hk : ws[k]? = some q) : q.1 < H1.size := (h k q hk).lt
end VXS
/-! ===== END ===== -/
/-! ===== BEGIN methods with a table of their own: called by a name, returning or throwing ===== -/
section VXH
/-! vx_backW, vx_callVX, vx_callSX, vx_callVW, vx_runVW, vx_runVX, vx_runSX, vx_ofWH follow the same proofs as their sisters above (Free/Laws.lean, Shelf42/LK1.lean); vx_outP calls Shelf42/NT130.lean (outThrough). -/
section
variable {l : Launch} {R : Room} {p : Program} {e : Env} {below : List Frame} {s : State} {sargs : Array Value} {y : MethodName} {len W9 : Nat}
theorem vx_backW {ws : List Cond} {rm : Room} {Pc : Array Value → State → Prop} {Qc : Array Value → State → Outcome → State → Prop} {XC : String → State → State → Prop} {mc ms : Nat} {free : Addr → Prop} {bytes : ByteArray} {maxL : Nat} {ret : Option FieldType} {hh : List (Nat × Nat × Nat × Nat)}
    (hM : vx_Met l y ws rm Pc Qc XC mc ms free) (hblind : FrameBlind Pc) (hrc : rm.cells = mc) (hrs : rm.slots = ms)
    (hframes : rm.frames + 1 ≤ R.frames) (hlocals : W9 + (maxL + 11) + rm.locals ≤ R.locals)
    (hws : ∀ w ∈ ws, ∀ a' U, s.WarmedH U.vm → w.before a' U = true) (hcode : Cond.codeWith y bytes maxL ret hh ∈ ws) (hinit : ∀ a' U, s.WarmedH U.vm → (Cond.initialized y.cls).before a' U = true) :
    vx_Back l R p e below s sargs y len W9 (PreOf R mc ms Pc) (PostOf Qc mc ms free) (vx_Post XC mc ms free) := by
  intro m meth c A g ig mk a X hg hsize hdg hW hn hp
  have h1 : (headSpec ws rm).pre.before a A.U = true := atoms_intro fun w hw => hws w hw _ _ X.warmed
  have h2 : (Cond.codeWith y bytes maxL ret hh).before a A.U = true := hws _ hcode _ _ X.warmed
  have h3 : (Cond.initialized y.cls).before a A.U = true := hinit _ _ X.warmed
  have h4 : A.cells + (headSpec ws rm).room.cells ≤ R.cells := by rw [show (headSpec ws rm).room.cells = mc from hrc]; exact hp.1
  have h5 : A.slots + (headSpec ws rm).room.slots ≤ R.slots := by rw [show (headSpec ws rm).room.slots = ms from hrs]; exact hp.2.1
  have hPc : Pc a (A.U.calling g mk a) := hblind _ _ _ _ hp.2.2
  obtain ⟨U, Ls, c0, s0⟩ := A
  dsimp only [Pt.U, Pt.locs, Pt.cells, Pt.slots] at h1 h2 h3 h4 h5 X hn hPc ⊢
  obtain ⟨m9, methY, cY, hn9, hmY, hcY, -, hlY, -⟩ := Cond.codeWith_spec h2
  cases Option.some.inj (hn9.symm.trans hn)
  obtain ⟨kY, hkY, -⟩ := className_of_methodNamed hn
  have hinitY : kY.init = .initialized := Cond.initialized_spec (findClass_of_methodNamed hn) hkY h3
  have h : At U g.method c below := by rw [hg]; exact X.here
  have hlocals9 : W9 + (maxL + 11) + (headSpec ws rm).room.locals ≤ R.locals := hlocals
  have happ : (headSpec ws rm).appliesLoose y e.platform (U.calling g mk a) = true :=
    Spec.appliesLoose_calling (g := g) h hdg hn hkY hinitY
      (X.room_calling (g := g) (R' := (headSpec ws rm).room) hsize hmY hcY hframes (by rw [hlY]; omega) h4 h5) h1
  obtain ⟨mid, hmid⟩ := h.above
  have hfr : (U.setTop g).frames = (.java g :: mid) ++ below := by rw [State.frames_setTop' g h.top, hmid]; rfl
  obtain ⟨o, s₂, hsteps, -, hend, hq⟩ := Steps.callFree hM p X.admits X.cas X.clock (acts := []) hfr happ hPc trivial
  have hq' : vx_Q Qc XC mc ms free a (U.calling g mk a) o s₂ := hq
  rw [State.frames_setTop' g h.top] at hend
  obtain ⟨g₀, hg0⟩ := Option.isSome_iff_exists.mp h.top
  obtain ⟨r, hr⟩ := State.topJava?_eq_some.mp hg0
  have hr' : (({ U with heap := s₂.heap, slotsUsed := s₂.slotsUsed } : State).setVm s₂.vm).frames = .java g₀ :: r := hr
  rcases hq' with ⟨hqc, L, hfe, hL⟩ | ⟨q, rfl, E, ce, L, hx, hce, hcv, hcl, hW₂, hsm, hL⟩
  · obtain ⟨⟨v, rfl⟩, hW₂, e2, q2, q3, q4, q5, q6⟩ := id hfe
    have e3 : s₂ = ({ (U.calling g mk a).setFrames s₂.frames with heap := s₂.heap, slotsUsed := s₂.slotsUsed } : State).setVm s₂.vm := by
      have : s₂ = ({ s₂ with vm := (U.calling g mk a).vm } : State).setVm s₂.vm := rfl
      rw [e2] at this
      exact this
    obtain ⟨c₂, i₂, len₂, hc₂, hd₂, hf₂⟩ := hend
    have hW' : U.WarmedH s₂.vm := hW₂
    have hcc : c₂ = c := by
      have h1 : s₂.code? g.method = U.code? g.method := by
        rw [State.code?_eq, State.code?_eq, hW'.alike.method?]
      exact Option.some.inj (hc₂.symm.trans (h1.trans h.code))
    subst hcc
    have hlen : len₂ = len := by rw [hdg] at hd₂; cases hd₂; rfl
    subst hlen
    have hs₂ : s₂ = (({ U with heap := s₂.heap, slotsUsed := s₂.slotsUsed } : State).setVm s₂.vm).setTop { g with pc := g.pc + len₂, stack := v.toList ++ g.stack } := by
      refine e3.trans ?_
      rw [hf₂, State.calling_eq h.top, State.setFrames_setFrames, State.setTop_of_frames _ hr', hr]
      rfl
    have hsame : U.sameButNew ({ U with heap := s₂.heap, slotsUsed := s₂.slotsUsed } : State) L mc ms := by
      refine ⟨?_, q2, q3, q4, q5, q6⟩
      obtain ⟨t, ht, -⟩ := State.frames_cons hr
      show ({ U with heap := s₂.heap, slotsUsed := s₂.slotsUsed } : State) = { U.setFrames U.frames with heap := s₂.heap, slotsUsed := s₂.slotsUsed }
      rw [State.setFrames_self ht]
    subst hg
    refine Or.inl ⟨v, ⟨(({ U with heap := s₂.heap, slotsUsed := s₂.slotsUsed } : State).setVm s₂.vm), Ls ++ L, c0 + mc, s0 + ms⟩,
      ⟨X.admits, X.cas, X.clock, X.frames, X.room, X.hears, X.method, X.code, (X.here.setHeapUsed s₂.heap s₂.slotsUsed).setVm hW'.alike, X.tail, State.WarmedH.trans X.warmed hW', X.limits, X.bytes, X.same.trans (hsame.setVm s.vm)⟩,
      ⟨g, mk, s₂, L, rfl, rfl, hqc, rfl, hL, rfl, rfl⟩, ?_⟩
    show Steps p.tables e below _ ((({ U with heap := s₂.heap, slotsUsed := s₂.slotsUsed } : State).setVm s₂.vm).setTop { g with pc := g.pc + len₂, stack := v.toList ++ g.stack })
    rw [← hs₂]
    exact hsteps
  · obtain ⟨e2, q2, q3, q4, q5, q6⟩ := id hsm
    have e3 : s₂ = ({ (U.calling g mk a).setFrames s₂.frames with heap := s₂.heap, slotsUsed := s₂.slotsUsed } : State).setVm s₂.vm := by
      have : s₂ = ({ s₂ with vm := (U.calling g mk a).vm } : State).setVm s₂.vm := rfl
      rw [e2] at this
      exact this
    have hf₂ : s₂.frames = .throwing q :: .java g :: U.frames.tail := hend
    have hW' : U.WarmedH s₂.vm := hW₂
    have hs₂ : s₂ = ((({ U with heap := s₂.heap, slotsUsed := s₂.slotsUsed } : State).setVm s₂.vm).setTop g).pushFrame (.throwing q) := by
      refine e3.trans ?_
      rw [hf₂, State.calling_eq h.top, State.setFrames_setFrames, State.pushFrame, State.frames_setTop _ hr', State.setTop_of_frames _ hr', State.setFrames_setFrames, hr]
      rfl
    have hsame : U.sameButNew ({ U with heap := s₂.heap, slotsUsed := s₂.slotsUsed } : State) L mc ms := by
      refine ⟨?_, q2, q3, q4, q5, q6⟩
      obtain ⟨t, ht, -⟩ := State.frames_cons hr
      show ({ U with heap := s₂.heap, slotsUsed := s₂.slotsUsed } : State) = { U.setFrames U.frames with heap := s₂.heap, slotsUsed := s₂.slotsUsed }
      rw [State.setFrames_self ht]
    subst hg
    refine Or.inr ⟨q, ⟨(({ U with heap := s₂.heap, slotsUsed := s₂.slotsUsed } : State).setVm s₂.vm), Ls ++ L, c0 + mc, s0 + ms⟩,
      ⟨X.admits, X.cas, X.clock, X.frames, X.room, X.hears, X.method, X.code, (X.here.setHeapUsed s₂.heap s₂.slotsUsed).setVm hW'.alike, X.tail, State.WarmedH.trans X.warmed hW', X.limits, X.bytes, X.same.trans (hsame.setVm s.vm)⟩,
      ⟨g, mk, s₂, L, E, ce, rfl, rfl, hx, hce, hcv, hcl, rfl, hL, rfl, rfl⟩, ?_⟩
    show Steps p.tables e below _ (((({ U with heap := s₂.heap, slotsUsed := s₂.slotsUsed } : State).setVm s₂.vm).setTop g).pushFrame (.throwing q))
    rw [← hs₂]
    exact hsteps
end
variable {p : Program} {l : Launch} {e : Env} {R : Room} {s : State} {m : MethodId} {args : Array Value} {below : List Frame} {meth : Method} {c : Code} {T : State} {H : Heap} {locs : List Loc} {cells slots : Nat}
theorem vx_callVX (X : Stand p l e R s m args below meth c T locs cells slots) (hexec : p.tables.exec = Jvm.exec) {own C : String} {index : Nat} {y : MethodName} {bytes : ByteArray} {maxL : Nat} {ret : Option FieldType} {hh : List (Nat × Nat × Nat × Nat)}
    (hown : s.vm.findClass own = some m.cls) (hlink : (Cond.methodLink own index y).before args s = true) (hinst : (Cond.instanceMethod y).before args s = true) (hsel : (Cond.selects C y y).before args s = true)
    (hcode : (Cond.codeWith y bytes maxL ret hh).before args s = true) (hy : y.cls ≠ "java/lang/invoke/MethodHandle" ∧ y.cls ≠ "java/lang/invoke/VarHandle")
    {W9 : Nat} {Pre : Pt → Array Value → Prop} {Post : Pt → Array Value → Option Value → Pt → Prop} {PostX : Pt → Array Value → Addr → Pt → Prop} (hK : vx_Back l R p e below s args y 3 W9 Pre Post PostX)
    {b : Addr} {cellB : Cell} (hcell : T.heap[b]? = some cellB) (hobj : cellB.vm.isStatics = false) (hcls : s.vm.findClass C = some cellB.cls)
    {g : JFrame} (hg : g.method = m) (hsize : g.locals.size = c.maxLocals) {argsL rest : List Value} (hlen : ∀ sig, parseMethodDescriptor y.desc = some sig → argsL.length = sig.parameters.length)
    (hstack : g.stack = argsL.reverse ++ .ref b :: rest) (hW : 2 * g.monitorRoom + (rest.map fun v => v.category).sum ≤ W9) (hdg : decode c.code g.pc = .ok (.invokevirtual index, 3))
    (hpre : ∀ vm₁, s.WarmedH vm₁ → Pre ⟨T.setVm vm₁, locs, cells, slots⟩ (Value.ref b :: argsL).toArray) :
    (∃ (v : Option Value) (vm₁ : Vm) (B : Pt), s.WarmedH vm₁ ∧ Stand p l e R s m args below meth c B.U B.locs B.cells B.slots ∧ Post ⟨T.setVm vm₁, locs, cells, slots⟩ (Value.ref b :: argsL).toArray v B ∧
      ∀ target, Steps p.tables e below (B.U.setTop { g with pc := g.pc + 3, stack := v.toList ++ rest }) target → Steps p.tables e below (T.setTop g) target) ∨
    (∃ (q : Addr) (vm₁ : Vm) (B : Pt), s.WarmedH vm₁ ∧ Stand p l e R s m args below meth c B.U B.locs B.cells B.slots ∧ PostX ⟨T.setVm vm₁, locs, cells, slots⟩ (Value.ref b :: argsL).toArray q B ∧
      Steps p.tables e below (T.setTop g) ((B.U.setTop { g with stack := rest }).pushFrame (.throwing q))) := by
  obtain ⟨mk, methM, hnamed, hmethM, hstM, habM⟩ := Cond.instanceMethod_spec hinst
  obtain ⟨m8, methM', cM, hn8, hmethM', -, -, -, -, -, -, hsigM⟩ := Cond.codeWith_spec hcode
  cases Option.some.inj (hn8.symm.trans hnamed)
  cases hmethM.symm.trans hmethM'
  obtain ⟨c2, r2, m2, q1, q2, q3, q4, kP, hkP, hkPi⟩ := Cond.selects_spec hsel
  cases hcls.symm.trans q1
  cases (State.methodFound?_of_named hnamed hy).symm.trans q2
  cases hnamed.symm.trans q3
  have hselP : selectMethod e.platform s.vm cellB.cls mk = .method mk := by rw [Launch.admits_selectMethod X.admits]; exact q4
  obtain ⟨vm₁, X₁, hstep₁⟩ := X.invokevirtual hexec hown hlink hnamed hmethM hstM hkP hkPi hy (a := b) (cell := cellB) hcell
    (fun z h => by rw [h] at hobj; cases hobj) hselP hmethM habM hkP hkPi (g := g) hg (argsL := argsL) (rest := rest) (hlen _ hsigM) hstack hdg
  rcases hK m meth c ⟨T.setVm vm₁, locs, cells, slots⟩ { g with stack := rest } (.invokevirtual index) mk (Value.ref b :: argsL).toArray X₁ hg hsize hdg hW (X₁.named hnamed) (hpre vm₁ X₁.warmed) with ⟨v, B, X', hpost, hsteps⟩ | ⟨q, B, X', hpost, hsteps⟩
  · exact Or.inl ⟨v, vm₁, B, X₁.warmed, X', hpost, fun target h => hstep₁ _ fun acts => by rw [doInvoke_state]; exact hsteps.trans h⟩
  · exact Or.inr ⟨q, vm₁, B, X₁.warmed, X', hpost, hstep₁ _ fun acts => by rw [doInvoke_state]; exact hsteps⟩
theorem vx_callSX (X : Stand p l e R s m args below meth c T locs cells slots) (hexec : p.tables.exec = Jvm.exec) {own : String} {index : Nat} {y : MethodName} {bytes : ByteArray} {maxL : Nat} {ret : Option FieldType} {hh : List (Nat × Nat × Nat × Nat)}
    (hown : s.vm.findClass own = some m.cls) (hlink : (Cond.methodLink own index y).before args s = true) (hstat : (Cond.static y).before args s = true) (hinit : (Cond.initialized y.cls).before args s = true)
    (hcode : (Cond.codeWith y bytes maxL ret hh).before args s = true) (hy : y.cls ≠ "java/lang/invoke/MethodHandle" ∧ y.cls ≠ "java/lang/invoke/VarHandle")
    {W9 : Nat} {Pre : Pt → Array Value → Prop} {Post : Pt → Array Value → Option Value → Pt → Prop} {PostX : Pt → Array Value → Addr → Pt → Prop} (hK : vx_Back l R p e below s args y 3 W9 Pre Post PostX)
    {g : JFrame} (hg : g.method = m) (hsize : g.locals.size = c.maxLocals) {argsL rest : List Value} (hlen : ∀ sig, parseMethodDescriptor y.desc = some sig → argsL.length = sig.parameters.length)
    (hstack : g.stack = argsL.reverse ++ rest) (hW : 2 * g.monitorRoom + (rest.map fun v => v.category).sum ≤ W9) (hdg : decode c.code g.pc = .ok (.invokestatic index, 3))
    (hpre : ∀ vm₁, s.WarmedH vm₁ → Pre ⟨T.setVm vm₁, locs, cells, slots⟩ argsL.toArray) :
    (∃ (v : Option Value) (vm₁ : Vm) (B : Pt), s.WarmedH vm₁ ∧ Stand p l e R s m args below meth c B.U B.locs B.cells B.slots ∧ Post ⟨T.setVm vm₁, locs, cells, slots⟩ argsL.toArray v B ∧
      ∀ target, Steps p.tables e below (B.U.setTop { g with pc := g.pc + 3, stack := v.toList ++ rest }) target → Steps p.tables e below (T.setTop g) target) ∨
    (∃ (q : Addr) (vm₁ : Vm) (B : Pt), s.WarmedH vm₁ ∧ Stand p l e R s m args below meth c B.U B.locs B.cells B.slots ∧ PostX ⟨T.setVm vm₁, locs, cells, slots⟩ argsL.toArray q B ∧
      Steps p.tables e below (T.setTop g) ((B.U.setTop { g with stack := rest }).pushFrame (.throwing q))) := by
  obtain ⟨mk, methM, cM, hnamed, hmethM, -, -, -, -, -, -, hsigM⟩ := Cond.codeWith_spec hcode
  have hstatic : methM.isStatic = true := Cond.static_spec hnamed hmethM hstat
  obtain ⟨kP, hkP, -⟩ := className_of_methodNamed hnamed
  have hinitP : kP.init = .initialized := Cond.initialized_spec (findClass_of_methodNamed hnamed) hkP hinit
  obtain ⟨vm₁, X₁, hstep₁⟩ := X.invokestatic hexec hown hlink hnamed hmethM hstatic hkP hinitP hy (g := g) hg (argsL := argsL) (rest := rest) (hlen _ hsigM) hstack hdg
  rcases hK m meth c ⟨T.setVm vm₁, locs, cells, slots⟩ { g with stack := rest } (.invokestatic index) mk argsL.toArray X₁ hg hsize hdg hW (X₁.named hnamed) (hpre vm₁ X₁.warmed) with ⟨v, B, X', hpost, hsteps⟩ | ⟨q, B, X', hpost, hsteps⟩
  · exact Or.inl ⟨v, vm₁, B, X₁.warmed, X', hpost, fun target h => hstep₁ _ fun acts => by rw [doInvoke_state]; exact hsteps.trans h⟩
  · exact Or.inr ⟨q, vm₁, B, X₁.warmed, X', hpost, hstep₁ _ fun acts => by rw [doInvoke_state]; exact hsteps⟩
theorem vx_callVW (X : Stand p l e R s m args below meth c T locs cells slots) (hexec : p.tables.exec = Jvm.exec) {own C : String} {index : Nat} {y : MethodName} {bytes : ByteArray} {maxL : Nat} {ret : Option FieldType} {hh : List (Nat × Nat × Nat × Nat)}
    (hown : s.vm.findClass own = some m.cls) (hlink : (Cond.methodLink own index y).before args s = true) (hinst : (Cond.instanceMethod y).before args s = true) (hsel : (Cond.selects C y y).before args s = true)
    (hcode : (Cond.codeWith y bytes maxL ret hh).before args s = true) (hy : y.cls ≠ "java/lang/invoke/MethodHandle" ∧ y.cls ≠ "java/lang/invoke/VarHandle")
    {W9 : Nat} {Pre : Pt → Array Value → Prop} {Post : Pt → Array Value → Option Value → Pt → Prop} (hK : Back l R p e below s args y 3 W9 Pre Post)
    {b : Addr} {cellB : Cell} (hcell : T.heap[b]? = some cellB) (hobj : cellB.vm.isStatics = false) (hcls : s.vm.findClass C = some cellB.cls)
    {g : JFrame} (hg : g.method = m) (hsize : g.locals.size = c.maxLocals) {argsL rest : List Value} (hlen : ∀ sig, parseMethodDescriptor y.desc = some sig → argsL.length = sig.parameters.length)
    (hstack : g.stack = argsL.reverse ++ .ref b :: rest) (hW : 2 * g.monitorRoom + (rest.map fun v => v.category).sum ≤ W9) (hdg : decode c.code g.pc = .ok (.invokevirtual index, 3))
    (hpre : ∀ vm₁, s.WarmedH vm₁ → Pre ⟨T.setVm vm₁, locs, cells, slots⟩ (Value.ref b :: argsL).toArray) :
    ∃ (v : Option Value) (vm₁ : Vm) (B : Pt), s.WarmedH vm₁ ∧ Stand p l e R s m args below meth c B.U B.locs B.cells B.slots ∧ Post ⟨T.setVm vm₁, locs, cells, slots⟩ (Value.ref b :: argsL).toArray v B ∧
      ∀ target, Steps p.tables e below (B.U.setTop { g with pc := g.pc + 3, stack := v.toList ++ rest }) target → Steps p.tables e below (T.setTop g) target := by
  obtain ⟨mk, methM, hnamed, hmethM, hstM, habM⟩ := Cond.instanceMethod_spec hinst
  obtain ⟨m8, methM', cM, hn8, hmethM', -, -, -, -, -, -, hsigM⟩ := Cond.codeWith_spec hcode
  cases Option.some.inj (hn8.symm.trans hnamed)
  cases hmethM.symm.trans hmethM'
  obtain ⟨c2, r2, m2, q1, q2, q3, q4, kP, hkP, hkPi⟩ := Cond.selects_spec hsel
  cases hcls.symm.trans q1
  cases (State.methodFound?_of_named hnamed hy).symm.trans q2
  cases hnamed.symm.trans q3
  have hselP : selectMethod e.platform s.vm cellB.cls mk = .method mk := by rw [Launch.admits_selectMethod X.admits]; exact q4
  obtain ⟨vm₁, X₁, hstep₁⟩ := X.invokevirtual hexec hown hlink hnamed hmethM hstM hkP hkPi hy (a := b) (cell := cellB) hcell
    (fun z h => by rw [h] at hobj; cases hobj) hselP hmethM habM hkP hkPi (g := g) hg (argsL := argsL) (rest := rest) (hlen _ hsigM) hstack hdg
  obtain ⟨v, B, X', hpost, hsteps⟩ := hK m meth c ⟨T.setVm vm₁, locs, cells, slots⟩ { g with stack := rest } (.invokevirtual index) mk (Value.ref b :: argsL).toArray X₁ hg hsize hdg hW (X₁.named hnamed) (hpre vm₁ X₁.warmed)
  exact ⟨v, vm₁, B, X₁.warmed, X', hpost, fun target h => hstep₁ _ fun acts => by rw [doInvoke_state]; exact hsteps.trans h⟩
abbrev vx_CVW (R : Room) (s : State) (args : Array Value) (own C : String) (index : Nat) (y : MethodName) (bytes : ByteArray) (maxL : Nat) (ret : Option FieldType) (hh : List (Nat × Nat × Nat × Nat)) (ws : List Cond) (rm : Room) (mc ms n : Nat) : Prop :=
  (rm.cells = mc ∧ rm.slots = ms ∧ rm.frames + 1 ≤ R.frames ∧ 8 + (maxL + 11) + rm.locals ≤ R.locals ∧ (∀ w ∈ ws, ∀ (a' : Array Value) (U : State), s.WarmedH U.vm → w.before a' U = true) ∧ Cond.codeWith y bytes maxL ret hh ∈ ws) ∧
  (Cond.codeWith y bytes maxL ret hh).before args s = true ∧ (Cond.initialized y.cls).before args s = true ∧ (y.cls ≠ "java/lang/invoke/MethodHandle" ∧ y.cls ≠ "java/lang/invoke/VarHandle") ∧
  (∀ sig, parseMethodDescriptor y.desc = some sig → n = sig.parameters.length) ∧ (Cond.methodLink own index y).before args s = true ∧ (Cond.instanceMethod y).before args s = true ∧ (Cond.selects C y y).before args s = true
theorem vx_cwVW {own C : String} {index maxL mc ms : Nat} {y : MethodName} {bytes : ByteArray} {ret : Option FieldType} {hh : List (Nat × Nat × Nat × Nat)} {Ts ws ws' : List Cond} {rm : Room} (n : Nat) (ht : ∀ w ∈ Ts, w.before args s = true) (hT : GoodIn Ts (wsV own index C y ws)) (hw : ws = Cond.codeWith y bytes maxL ret hh :: ws') (hrc : rm.cells = mc) (hrs : rm.slots = ms)
    (hd : y.cls = C ∧ y.cls ≠ "java/lang/invoke/MethodHandle" ∧ y.cls ≠ "java/lang/invoke/VarHandle" ∧ (parseMethodDescriptor y.desc).map (fun d => d.parameters.length) = some n) (hR : rm.frames + 1 ≤ R.frames ∧ 8 + (maxL + 11) + rm.locals ≤ R.locals) :
    vx_CVW R s args own C index y bytes maxL ret hh ws rm mc ms n := by
  obtain ⟨hC, hd⟩ := hd
  subst hC
  have ok : ∀ w ∈ wsV own index y.cls y ws, w.before args s = true := fun w h => ht w (hT w h).1
  have hG : GoodIn Ts ws := fun w h => hT w (by unfold wsV; exact List.mem_append_right _ h)
  have hc : Cond.codeWith y bytes maxL ret hh ∈ ws := by rw [hw]; exact List.mem_cons_self
  refine ⟨⟨hrc, hrs, hR.1, hR.2, pay_in ht hG, hc⟩, ht _ (hG _ hc).1, ok _ (by simp [wsV]), ⟨hd.1, hd.2.1⟩, fun sig h => ?_, ok _ (by simp [wsV]), ok _ (by simp [wsV]), ok _ (by simp [wsV])⟩
  have h2 := hd.2.2
  rw [h] at h2
  exact (Option.some.inj h2).symm
theorem vx_runVW {y : MethodName} {bytes cc : ByteArray} {maxL nL mc ms n index : Nat} {ret : Option FieldType} {hh : List (Nat × Nat × Nat × Nat)} {ws : List Cond} {rm : Room} {Pc : Array Value → State → Prop} {Qc : Array Value → State → Outcome → State → Prop} {free : Addr → Prop} {Ts : List Cond} {own C : String} {b : Addr} {As rest : List Value} {g : JFrame}
    (S : CallFix p m c cc nL s args Ts own) (hM : Met l y ws rm Pc Qc mc ms free) (cw : vx_CVW R s args own C index y bytes maxL ret hh ws rm mc ms n) (hp : PreV s H C b Pc As)
    (hg : g.method = m) (hn : As.length = n) (hsize : g.locals.size = nL) (hstack : g.stack = As.reverse ++ .ref b :: rest) (hW : 2 * g.monitorRoom + (rest.map fun v => v.category).sum ≤ 8) (hdg : decode cc g.pc = .ok (.invokevirtual index, 3)) (hf : cells + mc ≤ R.cells ∧ slots + ms ≤ R.slots) :
    va_Run p l e R s m args below meth c H locs cells slots mc ms g rest (Qc (Value.ref b :: As).toArray) free := by
  obtain ⟨⟨hrc, hrs, hfr, hlo, hws, hcw⟩, hcode, hini, hy, hlen, hl, hin, hse⟩ := cw
  have hK : Back l R p e below s args y 3 8 (PreOf R mc ms Pc) (PostOf Qc mc ms free) := va_backW (hh := hh) (bytes := bytes) (maxL := maxL) (ret := ret) hM hp.1 hrc hrs hfr hlo hws hcw (fun a' U hW => word_at hW (Or.inl (by first | rfl | simp [Cond.onTables, Cond.keeps, Cond.steady])) hini)
  obtain ⟨hx, hb, hml, ho, -⟩ := S
  obtain ⟨-, ⟨cellB, hcB, hoB, hclB⟩, hPc⟩ := hp
  intro T hT X
  obtain ⟨v, vm₁, ⟨U', l2, c2, s2⟩, hW₁, X', ⟨g', mk, t, L, e1, e2, hq, h1, hL, h2, h3⟩, st⟩ := vx_callVW X hx (C := C) (hh := hh) (bytes := bytes) (maxL := maxL) (ret := ret) ho hl hin hse hcode hy hK (by rw [hT]; exact hcB) hoB hclB hg (hsize.trans hml.symm) (argsL := As) (rest := rest) (fun sig h => hn.trans (hlen sig h)) hstack hW (by rw [hb]; exact hdg)
    (fun vm₁ hW₁ => ⟨hf.1, hf.2, hPc (T.setVm vm₁) hT hW₁⟩)
  dsimp only [Pt.U, Pt.locs, Pt.cells, Pt.slots] at X' e1 e2 h1 h2 h3 st
  subst h1; subst h2; subst h3
  exact ⟨v, (T.setVm vm₁).calling g' mk (Value.ref b :: As).toArray, t, U', L, hT, X', hL, e1, e2, hq, st⟩
section
variable {y : MethodName} {bytes cc : ByteArray} {maxL nL mc ms n index : Nat} {ret : Option FieldType} {ws : List Cond} {rm : Room} {Pc : Array Value → State → Prop} {Qc : Array Value → State → Outcome → State → Prop} {XC : String → State → State → Prop} {free : Addr → Prop} {Ts : List Cond} {own C : String} {b : Addr} {As rest : List Value} {g : JFrame}
theorem vx_runVX {hh : List (Nat × Nat × Nat × Nat)} (S : CallFix p m c cc nL s args Ts own) (hM : vx_Met l y ws rm Pc Qc XC mc ms free) (cw : vx_CVW R s args own C index y bytes maxL ret hh ws rm mc ms n) (hp : PreV s H C b Pc As)
    (hg : g.method = m) (hn : As.length = n) (hsize : g.locals.size = nL) (hstack : g.stack = As.reverse ++ .ref b :: rest) (hW : 2 * g.monitorRoom + (rest.map fun v => v.category).sum ≤ 8) (hdg : decode cc g.pc = .ok (.invokevirtual index, 3)) (hf : cells + mc ≤ R.cells ∧ slots + ms ≤ R.slots) :
    vx_Run p l e R s m args below meth c H locs cells slots mc ms g rest (Qc (Value.ref b :: As).toArray) XC free := by
  obtain ⟨⟨hrc, hrs, hfr, hlo, hws, hcw⟩, hcode, hini, hy, hlen, hl, hin, hse⟩ := cw
  have hK : vx_Back l R p e below s args y 3 8 (PreOf R mc ms Pc) (PostOf Qc mc ms free) (vx_Post XC mc ms free) := vx_backW (hh := hh) (bytes := bytes) (maxL := maxL) (ret := ret) hM hp.1 hrc hrs hfr hlo hws hcw (fun a' U hW => word_at hW (Or.inl (by first | rfl | simp [Cond.onTables, Cond.keeps, Cond.steady])) hini)
  obtain ⟨hx, hb, hml, ho, -⟩ := S
  obtain ⟨-, ⟨cellB, hcB, hoB, hclB⟩, hPc⟩ := hp
  intro T hT X
  rcases vx_callVX X hx (C := C) (hh := hh) (bytes := bytes) (maxL := maxL) (ret := ret) ho hl hin hse hcode hy hK (by rw [hT]; exact hcB) hoB hclB hg (hsize.trans hml.symm) (argsL := As) (rest := rest) (fun sig h => hn.trans (hlen sig h)) hstack hW (by rw [hb]; exact hdg)
    (fun vm₁ hW₁ => ⟨hf.1, hf.2, hPc (T.setVm vm₁) hT hW₁⟩) with ⟨v, vm₁, ⟨U', l2, c2, s2⟩, hW₁, X', ⟨g', mk, t, L, e1, e2, hq, h1, hL, h2, h3⟩, st⟩ | ⟨q, vm₁, ⟨U', l2, c2, s2⟩, hW₁, X', ⟨g', mk, t, L, E, ce, e1, e2, hq, hce, hcv, hcl, h1, hL, h2, h3⟩, st⟩
  · dsimp only [Pt.U, Pt.locs, Pt.cells, Pt.slots] at X' e1 e2 h1 h2 h3 st
    subst h1; subst h2; subst h3
    exact Or.inl ⟨v, (T.setVm vm₁).calling g' mk (Value.ref b :: As).toArray, t, U', L, hT, X', hL, e1, e2, hq, st⟩
  · dsimp only [Pt.U, Pt.locs, Pt.cells, Pt.slots] at X' e1 e2 h1 h2 h3 st hcl
    subst h1; subst h2; subst h3
    exact Or.inr ⟨q, (T.setVm vm₁).calling g' mk (Value.ref b :: As).toArray, t, U', L, E, ce, hT, X', hL, e1, e2, hq, hce, hcv, vx_cls hW₁ hcl, st⟩
theorem vx_runSX {hh : List (Nat × Nat × Nat × Nat)} (S : CallFix p m c cc nL s args Ts own) (hM : vx_Met l y ws rm Pc Qc XC mc ms free) (cw : vx_CSW R s args own index y bytes maxL ret hh ws rm mc ms n) (hp : PreS s H Pc As)
    (hg : g.method = m) (hn : As.length = n) (hsize : g.locals.size = nL) (hstack : g.stack = As.reverse ++ rest) (hW : 2 * g.monitorRoom + (rest.map fun v => v.category).sum ≤ 8) (hdg : decode cc g.pc = .ok (.invokestatic index, 3)) (hf : cells + mc ≤ R.cells ∧ slots + ms ≤ R.slots) :
    vx_Run p l e R s m args below meth c H locs cells slots mc ms g rest (Qc As.toArray) XC free := by
  obtain ⟨⟨hrc, hrs, hfr, hlo, hws, hcw⟩, hcode, hini, hy, hlen, hl, hstt⟩ := cw
  have hK : vx_Back l R p e below s args y 3 8 (PreOf R mc ms Pc) (PostOf Qc mc ms free) (vx_Post XC mc ms free) := vx_backW (hh := hh) (bytes := bytes) (maxL := maxL) (ret := ret) hM hp.1 hrc hrs hfr hlo hws hcw (fun a' U hW => word_at hW (Or.inl (by first | rfl | simp [Cond.onTables, Cond.keeps, Cond.steady])) hini)
  obtain ⟨hx, hb, hml, ho, -⟩ := S
  intro T hT X
  rcases vx_callSX X hx (hh := hh) (bytes := bytes) (maxL := maxL) (ret := ret) ho hl hstt hini hcode hy hK hg (hsize.trans hml.symm) (argsL := As) (rest := rest) (fun sig h => hn.trans (hlen sig h)) hstack hW (by rw [hb]; exact hdg)
    (fun vm₁ hW₁ => ⟨hf.1, hf.2, hp.2 (T.setVm vm₁) hT hW₁⟩) with ⟨v, vm₁, ⟨U', l2, c2, s2⟩, hW₁, X', ⟨g', mk, t, L, e1, e2, hq, h1, hL, h2, h3⟩, st⟩ | ⟨q, vm₁, ⟨U', l2, c2, s2⟩, hW₁, X', ⟨g', mk, t, L, E, ce, e1, e2, hq, hce, hcv, hcl, h1, hL, h2, h3⟩, st⟩
  · dsimp only [Pt.U, Pt.locs, Pt.cells, Pt.slots] at X' e1 e2 h1 h2 h3 st
    subst h1; subst h2; subst h3
    exact Or.inl ⟨v, (T.setVm vm₁).calling g' mk As.toArray, t, U', L, hT, X', hL, e1, e2, hq, st⟩
  · dsimp only [Pt.U, Pt.locs, Pt.cells, Pt.slots] at X' e1 e2 h1 h2 h3 st hcl
    subst h1; subst h2; subst h3
    exact Or.inr ⟨q, (T.setVm vm₁).calling g' mk As.toArray, t, U', L, E, ce, hT, X', hL, e1, e2, hq, hce, hcv, vx_cls hW₁ hcl, st⟩
end
end VXH
theorem vx_ofWH {l : Launch} {y : MethodName} {ws ws' : List Cond} {rm : Room} {Pc : Array Value → State → Prop} {Qc : Array Value → State → Outcome → State → Prop} {XC : String → State → State → Prop} {mc ms : Nat} {free : Addr → Prop} {cc : ByteArray} {maxL : Nat} {ret : Option FieldType} {hh : List (Nat × Nat × Nat × Nat)}
    (hy : plainName y.cls = true) (hw : ws = Cond.codeWith y cc maxL ret hh :: ws')
    (body : ∀ p e s m args below meth c s₁, BodyLoose p l y (headSpec ws rm) cc maxL ret e s m args below meth c s₁ → c.maxLocals = maxL → Pc args s →
      W p l e (headSpec ws rm).room s m args below meth c s.heap [] 0 0 (vx_MQ below Qc XC args s mc ms free) (entryFrame m args maxL)) : vx_Met l y ws rm Pc Qc XC mc ms free := by
  refine MetFree.of_bodyS (code := cc) (maxLocals := maxL) (ret := ret) hy ?_ ?_
  · intro args s m h hn
    obtain ⟨m9, meth, c, hn9, h1, h2, h3, h4, -, h5, h6, -⟩ := Cond.codeWith_spec (atoms_spec (ws := ws) h _ (by rw [hw]; exact List.mem_cons_self))
    cases hn.symm.trans hn9
    exact ⟨meth, c, h1, h2, h3, h4, h5, h6⟩
  · intro p e s m args below meth c s₁ B hml hP _
    have hh0 : s₁.heap = s.heap := by rw [B.state]; rfl
    obtain ⟨t, a1, o, b1, b2, b3⟩ := body p e s m args below meth c s₁ B hml hP s₁ hh0 (Stand.of_body B)
    exact ⟨t, o, a1, b1, b2, b3⟩
/-! ===== END ===== -/

/-! ===== BEGIN what the machine throws by itself, no traces kept ===== -/
section VXM
set_option maxHeartbeats 1000000 in
/-- the machine throws cls with the message text, no traces kept: from its note over the frame g to 'throwing' over the same frame (follows the proofs of Stand.vmThrowsMessage, Shelf/KitTracedVmS.lean, and Stand.throwsMessageColdBareV, StandMessageColdV.lean, without the step out of the frame) -/
theorem vx_vmAt {p : Program} {l : Launch} {e : Env} {R : Room} {s : State} {m₀ : MethodId} {args : Array Value} {below : List Frame} {meth : Method} {c : Code} {W : State} {locs : List Loc} {cells slots : Nat}
    (X : Stand p l e R s m₀ args below meth c W locs cells slots) (hexec : p.tables.exec = Jvm.exec) (htr : e.platform.stackTraces = false) {cls : String} {names : List String} {text : String}
    (hcls : Bundle.fit cls = true) (hnames : ∀ n ∈ names, Bundle.fit n = true) (hsoe : (cls == "java/lang/StackOverflowError") = false) (hoom : (cls == "java/lang/OutOfMemoryError") = false)
    (h : ∀ a ∈ Bundle.messageArmAtoms cls names, a.before args s = true)
    (hlocs : ∀ x ∈ locs, ∀ cell, s.heap[x.base]? = some cell → cell.vm.isStatics = false)
    (htext : (text == notModelled) = false) (hlimit : ¬ (stringBytes (stringToUtf16 text)).size > e.platform.arrayLengthLimit) (hheap : ¬ (stringBytes (stringToUtf16 text)).size * componentBytes .byte > e.platform.maxHeapBytes)
    {g : JFrame} (hg : g.method = m₀) (hsize : g.locals.size = c.maxLocals)
    (hRframes : names.length + 4 < R.frames) (hRlocals : 2 * g.monitorRoom + (g.stack.map fun v => v.category).sum + 10240 ≤ R.locals) (hshort : 13 * names.length + 55 ≤ 10240)
    (hRcells : cells + 3 ≤ R.cells) (hRslots : slots + ((stringBytes (stringToUtf16 text)).size + 4 + 6) ≤ R.slots) (hlocks : meth.locks = false) :
    ∃ (S : State) (q : Addr) (ce : Cell), (∀ target, Steps p.tables e below ((S.setTop g).pushFrame (.throwing q)) target → Steps p.tables e below ((W.setTop g).pushFrame (.throwNew cls (some text) none)) target) ∧
      Stand p l e R s m₀ args below meth c S locs (cells + 3) (slots + ((stringBytes (stringToUtf16 text)).size + 4 + 6)) ∧ S.heap[q]? = some ce ∧ s.vm.findClass cls = some ce.cls ∧ ce.vm = .none := by
  have howns : e.platform.frameOwnsMonitors = true := by rw [X.admits.platform]
  have hfin : e.platform.finalization = false := by rw [X.admits.platform]
  have hpl : e.platform.magicAccessors = ({} : Platform).magicAccessors := by rw [X.admits.platform]
  have a : ∀ x, x ∈ Bundle.messageArmAtoms cls names → x.holds args s none s [] = true := fun x hx => h x hx
  obtain ⟨T, Z0, L, -, Y⟩ := ThrowableC.of_atoms (args := args) howns hfin hpl (fun x hx => h x (by simp [Bundle.messageArmAtoms, hx]))
  obtain ⟨Z, M, LZ, LM, hnZ⟩ := Init0T.ofS_atoms (args := args) hpl L Y (fun x hx => h x (by simp [Bundle.messageArmAtoms, hx]))
  obtain ⟨P1, Ps, hlen, L1, hL, hP1m, hlink1, hlink⟩ := Bundle.chainS (args := args) hpl hnZ names cls hcls hnames (fun x hx => h x (by simp [Bundle.messageArmAtoms, hx]))
  obtain ⟨Zs, LZs, hn4, hfitv, hfitc⟩ := StringT.of_atoms (args := args) (fun x hx => h x (by simp [Bundle.messageArmAtoms, hx]))
  have hfound : s.vm.findClass cls = some P1.m.cls := findClass_of_methodNamed hP1m
  obtain ⟨c1, kX, hc1, hk, hord, -, -, hn6⟩ := Cond.instantiable_spec (a (.instantiable cls 6) (by simp [Bundle.messageArmAtoms]))
  cases Option.some.inj (hc1.symm.trans hfound)
  have hinit := Cond.initialized_spec hfound hk (a (.initialized cls) (by simp [Bundle.messageArmAtoms]))
  have hctor : kX.findMethod "<init>" "(Ljava/lang/String;)V" = some P1.m.idx := findMethod_of_methodNamed hP1m hk
  have hsel0 : selectMethod e.platform s.vm P1.m.cls T.fill0 = .method T.fill0 := by
    obtain ⟨c2, r2, m2, q1, q2, q3, q4, -⟩ := Cond.selects_spec (a (.selects cls Bundle.tFill0 Bundle.tFill0) (by simp [Bundle.messageArmAtoms]))
    cases Option.some.inj (q1.symm.trans hfound)
    cases Option.some.inj (q2.symm.trans (State.methodFound?_of_named Y.fill0 (by decide)))
    cases Option.some.inj (q3.symm.trans Y.fill0)
    rw [Launch.admits_selectMethod X.admits]; exact q4
  have hselF : selectMethod e.platform s.vm P1.m.cls T.fill = .method T.fill := by
    obtain ⟨c2, r2, m2, q1, q2, q3, q4, -⟩ := Cond.selects_spec (a (.selects cls Bundle.tFill Bundle.tFill) (by simp [Bundle.messageArmAtoms]))
    cases Option.some.inj (q1.symm.trans hfound)
    cases Option.some.inj (q2.symm.trans (State.methodFound?_of_named Y.fill (by decide)))
    cases Option.some.inj (q3.symm.trans Y.fill)
    rw [Launch.admits_selectMethod X.admits]; exact q4
  obtain ⟨cellS0, hcS0, hiss⟩ := Y.statics
  obtain ⟨u0, hu0⟩ := Cond.staticRefV Y.unassigned L.unassignedStatic L.statics hcS0 hiss (a (.isRef (.static Bundle.tN "UNASSIGNED_STACK" Bundle.steD)) (by simp [Bundle.messageArmAtoms]))
  obtain ⟨sen, hsen⟩ := Cond.staticRefV Y.sentinel L.sentinelStatic L.statics hcS0 hiss (a (.isRef (.static Bundle.tN "SUPPRESSED_SENTINEL" Bundle.listD)) (by simp [Bundle.messageArmAtoms]))
  obtain ⟨ci198, i198, fB, hk198, hg198, ha198, hsB, -, hnB, htB, hffB⟩ := Cond.ownField (t := .object "java/lang/Object") Y.found L.cls (by decide +kernel) (a (.fieldLink Bundle.tN 198 Bundle.tN "backtrace" "Ljava/lang/Object;") (by simp [Bundle.messageArmAtoms])) (a (.lays Bundle.tN Bundle.tN "backtrace" "Ljava/lang/Object;") (by simp [Bundle.messageArmAtoms])) e.platform hpl
  obtain ⟨cellS, hcS', heS, -, hkeep⟩ := X.same.2.2.2.2.2 T.aS cellS0 hcS0
  have hcellS : W.heap[T.aS]? = some cellS := hcS'
  have hout' : ∀ i, (⟨T.aS, i⟩ : Loc) ∉ locs := fun i hmem => by
    have := hlocs _ hmem cellS0 hcS0
    rw [hiss] at this; cases this
  have hknownS : cellS.vm ≠ .unknown := by
    rw [heS]; intro hu
    rw [show cellS0.vm = .unknown from hu] at hiss
    cases hiss
  have hvU : cellS.slots[T.fUnassigned.slot]? = some u0.v := by rw [hkeep _ (hout' _)]; exact hu0
  have hvSen : cellS.slots[T.fSentinel.slot]? = some sen.v := by rw [hkeep _ (hout' _)]; exact hsen
  obtain ⟨iM, hffM⟩ := Y.msg
  obtain ⟨tyC, dC, hdC, hdnC⟩ := Cond.laysAt hfound hk Y.cause (a (.lays cls Bundle.tN "cause" "Ljava/lang/Throwable;") (by simp [Bundle.messageArmAtoms]))
  obtain ⟨tyS, dS, hdS, hdnS⟩ := Cond.laysAt hfound hk Y.stack (a (.lays cls Bundle.tN "stackTrace" Bundle.steD) (by simp [Bundle.messageArmAtoms]))
  obtain ⟨tyP, dP, hdP, hdnP⟩ := Cond.laysAt hfound hk Y.supp (a (.lays cls Bundle.tN "suppressedExceptions" Bundle.listD) (by simp [Bundle.messageArmAtoms]))
  obtain ⟨tyM, dM, hdM, hdnM⟩ := Cond.laysAt hfound hk hffM (a (.lays cls Bundle.tN "detailMessage" "Ljava/lang/String;") (by simp [Bundle.messageArmAtoms]))
  obtain ⟨tyB, dB, hdB, hdnB⟩ := Cond.laysAt hfound hk hffB (a (.lays cls Bundle.tN "backtrace" "Ljava/lang/Object;") (by simp [Bundle.messageArmAtoms]))
  have bC := Cond.laysApart hdB hdC hdnB hdnC (by rw [hnB, Y.causeName]; decide)
  have bS := Cond.laysApart hdB hdS hdnB hdnS (by rw [hnB, Y.stackName]; decide)
  have bP := Cond.laysApart hdB hdP hdnB hdnP (by rw [hnB, Y.suppName]; decide)
  have hbk : ((preparedCellV T.toThrowableT (freshCell P1.m.cls kX) (W.heap.size + 2) u0 sen).withEntry W.cur).slots[fB.slot]? = some .null := by
    have := fresh_default (c := P1.m.cls) tyB
    rw [htB] at this
    simpa [preparedCellV, Cell.setSlot, Cell.withEntry, Array.getElem?_setIfInBounds, bC, bS, bP, bC.symm, bS.symm, bP.symm, defaultValue] using this
  have tkC := Takes.of_laid (v := .ref (W.heap.size + 2)) hk hord tyC (by rw [Y.causeType]; rfl)
  have tkS := Takes.of_laid (v := u0.v) hk hord tyS (by rw [Y.stackType]; exact fits_refV_array _ u0)
  have tkP := Takes.of_laid (v := sen.v) hk hord tyP (by rw [Y.suppType]; exact fits_refV_object _ sen)
  have tkM := Takes.of_laid (v := .ref (W.heap.size + 1)) hk hord tyM (by rw [Y.msgType]; rfl)
  have hskip : SkipFacts T e.platform s (fun u => u) u0 ((preparedCellV T.toThrowableT (freshCell P1.m.cls kX) (W.heap.size + 2) u0 sen).withEntry W.cur) := ⟨{ ci198 := ci198, i198 := i198, fBack := fB }, ⟨hk198, hg198, ha198, hsB⟩, hbk, fun _ _ => rfl⟩
  have h0 : At W g.method c below := by rw [hg]; exact X.here
  obtain ⟨hbeyond, hfreeW⟩ := X.vmMayThrow hsize (.throwNew cls (some text) none) (fun f hf => by cases hf) rfl hRlocals
  have hfr' : W.frames.length + Ps.length + 4 < (e.platform.stackLimits W.me).1 := by have := X.framesAbove hRframes; omega
  have hwd' : (stackUse (.java g :: W.frames.tail)).2 + 13 * Ps.length + 55 ≤ (e.platform.stackLimits W.me).2 := by have := X.stackAbove hsize (K := 13 * Ps.length + 55) (by omega); omega
  have hslots : W.slotsUsed + (stringBytes (stringToUtf16 text)).size + Zs.kS.instanceTypes.size + kX.instanceTypes.size ≤ e.platform.maxSlots := by
    have := X.slotsAbove hRslots
    rw [hn4, hn6]
    omega
  obtain ⟨vm', hW', st⟩ := Steps.vmThrowsMessageColdByV p (s₀ := s) (S := W) (g := g) h0 hexec T L Z LZ M LM X.warmed (t := W.cur) rfl Zs LZs P1 L1 Ps hL hlink1 hlink hsoe hoom hfound hk hinit hord hctor
    (Launch.admits_hotImplicitExceptions X.admits) hbeyond hfreeW htext hlimit hheap (X.cellsAbove hRcells) hslots (hfitv _) (hfitc _)
    (Nn := fun u => u) heapOnly_id (fun _ _ => rfl) (fun _ => rfl) (fun u x y => setCell_twice _ _ _ _) (fun _ => Nat.le_refl _) (cN := ((preparedCellV T.toThrowableT (freshCell P1.m.cls kX) (W.heap.size + 2) u0 sen).withEntry W.cur))
    hsel0 hcellS hknownS hvU tkS (fun _ hu => hu) (fun _ hu => hu) rfl rfl rfl (by simp [preparedCellV, Cell.setSlot, Cell.withEntry]) hskip (fun _ _ hA hW _ hroom _ hrest => L.nativeOff p htr hA hW hroom hrest) hselF hvSen tkC tkP tkM Y.objLocals rfl hfr' hwd'
  rw [plainBareV_eq T.toThrowableT (W.heap.size + 2) u0 sen (.ref (W.heap.size + 1)) W.cur rfl rfl] at st
  obtain ⟨-, -, w3, w4, -, -, -⟩ := withThrown_facts e.platform W Zs text P1.m.cls kX
  have X3 := ((X.pushed (bytesOf Zs.cB (stringToUtf16 text))).pushed (stringAt Zs.cS Zs.kS Zs.fv Zs.fc (stringToUtf16 text) W.heap.size)).pushed (freshCell P1.m.cls kX)
  rw [← withString_eq] at X3
  have X4 := X3.noted hW'
  have ha : (W.heap.size + 2) < ((withThrown W Zs text P1.m.cls kX).setVm vm').heap.size := by show _ < (withThrown W Zs text P1.m.cls kX).heap.size; rw [w3]; omega
  have hcell : ((withThrown W Zs text P1.m.cls kX).setVm vm').heap[(W.heap.size + 2)]? = some (freshCell P1.m.cls kX) := w4
  have X5 := ((((X4.stored hcell T.fCause.slot (.ref (W.heap.size + 2))).storedAgain ha T.fStack.slot u0.v).storedAgain ha T.fSupp.slot sen.v).storedAgain ha T.fStack.slot u0.v).storedAgain ha T.fMsg.slot (.ref (W.heap.size + 1))
  obtain ⟨g₁, hfrM⟩ := X5.frames_eq
  have hU : ((((withThrown W Zs text P1.m.cls kX).setVm vm').setCell (W.heap.size + 2) (plainBareV T.toThrowableT (freshCell P1.m.cls kX) (W.heap.size + 2) u0 sen (.ref (W.heap.size + 1)))).setTop g).pushFrame (.throwing (W.heap.size + 2)) = (((withThrown W Zs text P1.m.cls kX).setVm vm').setCell (W.heap.size + 2) (plainBareV T.toThrowableT (freshCell P1.m.cls kX) (W.heap.size + 2) u0 sen (.ref (W.heap.size + 1)))).setFrames (.throwing (W.heap.size + 2) :: .java g :: below) := by
    rw [State.pushFrame, State.frames_setTop _ hfrM, State.setTop_of_frames _ hfrM, State.setFrames_setFrames]
  have b1 : (bytesOf Zs.cB (stringToUtf16 text)).slots.size = (stringBytes (stringToUtf16 text)).size := by
    rw [(Cell.writeAll_facts _ _).2.2]; simp [bytes0]
  have b2 : (stringAt Zs.cS Zs.kS Zs.fv Zs.fc (stringToUtf16 text) W.heap.size).slots.size = 4 := by simp [string0, Cell.setSlot, hn4]
  have b3 : (freshCell P1.m.cls kX).slots.size = 6 := by simp [hn6]
  rw [b1, b2, b3] at X5
  have e9 : slots + (stringBytes (stringToUtf16 text)).size + 4 + 6 = slots + ((stringBytes (stringToUtf16 text)).size + 4 + 6) := by omega
  rw [e9] at X5
  simp only [List.append_assoc, List.cons_append, List.nil_append] at X5
  refine ⟨((withThrown W Zs text P1.m.cls kX).setVm vm').setCell (W.heap.size + 2) (plainBareV T.toThrowableT (freshCell P1.m.cls kX) (W.heap.size + 2) u0 sen (.ref (W.heap.size + 1))), W.heap.size + 2, _, fun target ht => st _ (by rw [X.tail, ← hU]; exact ht),
    X5.forget (fun y hy => ?_), heapAt_setCell_self _ ha, hfound, rfl⟩
  simp only [List.mem_cons, List.not_mem_nil, or_false] at hy
  have hge : s.heap.size ≤ W.heap.size := X.same.2.1
  rcases hy with rfl | rfl | rfl | rfl | rfl <;> exact Nat.le_trans hge (Nat.le_add_right _ 2)
set_option maxHeartbeats 1000000 in
/-- the machine throws NullPointerException, no traces kept: from its note over the frame g to 'throwing' over the same frame (follows the proof of Stand.vmThrowsNpe, Shelf42/KT2.lean; throwsNpeColdBareVAt, Shelf42/NT91.lean, called) -/
theorem vx_npeAt {p : Program} {l : Launch} {e : Env} {R : Room} {s : State} {m₀ : MethodId} {args : Array Value} {below : List Frame} {meth : Method} {c : Code} {W : State} {locs : List Loc} {cells slots : Nat}
    (X : Stand p l e R s m₀ args below meth c W locs cells slots) (hexec : p.tables.exec = Jvm.exec) (htr : e.platform.stackTraces = false) {n : Nat}
    (h : ∀ a ∈ Bundle.npeArmAtoms n, a.before args s = true)
    (hlocs : ∀ x ∈ locs, ∀ cell, s.heap[x.base]? = some cell → cell.vm.isStatics = false)
    {g : JFrame} (hg : g.method = m₀) (hsize : g.locals.size = c.maxLocals)
    (hRframes : 7 < R.frames) (hRlocals : 2 * g.monitorRoom + (g.stack.map fun v => v.category).sum + 10240 ≤ R.locals)
    (hRcells : cells + 1 ≤ R.cells) (hRslots : slots + n ≤ R.slots) (hlocks : meth.locks = false) :
    ∃ (S : State) (q : Addr) (ce : Cell), (∀ target, Steps p.tables e below ((S.setTop g).pushFrame (.throwing q)) target → Steps p.tables e below ((W.setTop g).pushFrame (.throwNew "java/lang/NullPointerException" none none)) target) ∧
      Stand p l e R s m₀ args below meth c S locs (cells + 1) (slots + n) ∧ S.heap[q]? = some ce ∧ s.vm.findClass "java/lang/NullPointerException" = some ce.cls ∧ ce.vm = .none := by
  have howns : e.platform.frameOwnsMonitors = true := by rw [X.admits.platform]
  have hfin : e.platform.finalization = false := by rw [X.admits.platform]
  have hpl : e.platform.magicAccessors = ({} : Platform).magicAccessors := by rw [X.admits.platform]
  have hpl2 : e.platform.arrayCloneIsPublic = true := by rw [X.admits.platform]
  have a' : ∀ x, x ∈ Bundle.npeArmAtoms n → x.holds args s none s [] = true := fun x hx => h x hx
  obtain ⟨T, Z, L, LZ, Y⟩ := ThrowableC.of_atoms (args := args) howns hfin hpl (fun x hx => h x (by simp [Bundle.npeArmAtoms, hx]))
  obtain ⟨N, LN, hcN, hnNF, hordN, hffS⟩ := NpeC.of_atoms (args := args) hpl hpl2 L Y (fun x hx => h x (by simp [Bundle.npeArmAtoms, hx]))
  obtain ⟨P1, L1, hP1m, hP1s⟩ := PassC.of_atoms (args := args) (s := s) hpl (X := Bundle.nN) (Y := Bundle.rN) (by decide) (by decide) LibCode.NullPointerException.Init0.at_0 LibCode.NullPointerException.Init0.at_1 LibCode.NullPointerException.Init0.at_4 (fun x hx => h x (by simp [Bundle.npeArmAtoms, hx]))
  obtain ⟨PR, LR, hPRm, hPRs⟩ := PassC.of_atoms (args := args) (s := s) hpl (X := Bundle.rN) (Y := Bundle.eN) (by decide) (by decide) LibCode.RuntimeException.Init0.at_0 LibCode.RuntimeException.Init0.at_1 LibCode.RuntimeException.Init0.at_4 (fun x hx => h x (by simp [Bundle.npeArmAtoms, hx]))
  obtain ⟨PE, LEx, hPEm, hPEs⟩ := PassC.of_atoms (args := args) (s := s) hpl (X := Bundle.eN) (Y := Bundle.tN) (by decide) (by decide) LibCode.Exception.Init0.at_0 LibCode.Exception.Init0.at_1 LibCode.Exception.Init0.at_4 (fun x hx => h x (by simp [Bundle.npeArmAtoms, hx]))
  have hfound : s.vm.findClass Bundle.nN = some P1.m.cls := findClass_of_methodNamed hP1m
  have ecls : N.cN = P1.m.cls := Option.some.inj (hcN.symm.trans hfound)
  have hk : s.vm.classes[P1.m.cls]? = some N.kN := by rw [← ecls]; exact LN.cls
  have hinit := Cond.initialized_spec hfound hk (a' (.initialized Bundle.nN) (by simp [Bundle.npeArmAtoms]))
  have hctor : N.kN.findMethod "<init>" "()V" = some P1.m.idx := findMethod_of_methodNamed hP1m hk
  obtain ⟨c1, k1, hc1, hk1, -, -, -, hn⟩ := Cond.instantiable_spec (a' (.instantiable Bundle.nN n) (by simp [Bundle.npeArmAtoms]))
  cases Option.some.inj (hc1.symm.trans hfound)
  cases Option.some.inj (hk1.symm.trans hk)
  have hfsz : (freshCell P1.m.cls N.kN).slots.size = n := by simp [hn]
  have hlink1 : P1.sup = PR.m := Option.some.inj (hP1s.symm.trans hPRm)
  have hlinkR : PR.sup = PE.m := Option.some.inj (hPRs.symm.trans hPEm)
  have hlinkE : PE.sup = Z.m T.toThrowableT := Option.some.inj (hPEs.symm.trans Y.init0)
  have hLs : ∀ P, P ∈ [PR, PE] → P.Links0 e.platform s := fun P hP => by
    simp only [List.mem_cons, List.not_mem_nil, or_false] at hP
    rcases hP with rfl | rfl
    · exact LR
    · exact LEx
  have hsel0 : selectMethod e.platform s.vm P1.m.cls T.fill0 = .method T.fill0 := by
    obtain ⟨c2, r2, m2, q1, q2, q3, q4, -⟩ := Cond.selects_spec (a' (.selects Bundle.nN Bundle.tFill0 Bundle.tFill0) (by simp [Bundle.npeArmAtoms]))
    cases Option.some.inj (q1.symm.trans hfound)
    cases Option.some.inj (q2.symm.trans (State.methodFound?_of_named Y.fill0 (by decide)))
    cases Option.some.inj (q3.symm.trans Y.fill0)
    rw [Launch.admits_selectMethod X.admits]; exact q4
  have hselF : selectMethod e.platform s.vm P1.m.cls T.fill = .method N.fill := by
    obtain ⟨c2, r2, m2, q1, q2, q3, q4, -⟩ := Cond.selects_spec (a' (.selects Bundle.nN Bundle.tFill Bundle.nFill) (by simp [Bundle.npeArmAtoms]))
    cases Option.some.inj (q1.symm.trans hfound)
    cases Option.some.inj (q2.symm.trans (State.methodFound?_of_named Y.fill (by decide)))
    cases Option.some.inj (q3.symm.trans hnNF)
    rw [Launch.admits_selectMethod X.admits]; exact q4
  obtain ⟨cellS0, hcS0, hiss⟩ := Y.statics
  obtain ⟨u0, hu0⟩ := Cond.staticRefV Y.unassigned L.unassignedStatic L.statics hcS0 hiss (a' (.isRef (.static Bundle.tN "UNASSIGNED_STACK" Bundle.steD)) (by simp [Bundle.npeArmAtoms]))
  obtain ⟨sen, hsen⟩ := Cond.staticRefV Y.sentinel L.sentinelStatic L.statics hcS0 hiss (a' (.isRef (.static Bundle.tN "SUPPRESSED_SENTINEL" Bundle.listD)) (by simp [Bundle.npeArmAtoms]))
  obtain ⟨ci198, i198, fB, hk198, hg198, ha198, hsB, -, hnB, htB, hffB⟩ := Cond.ownField (t := .object "java/lang/Object") Y.found L.cls (by decide +kernel) (a' (.fieldLink Bundle.tN 198 Bundle.tN "backtrace" Bundle.objD) (by simp [Bundle.npeArmAtoms])) (a' (.lays Bundle.tN Bundle.tN "backtrace" Bundle.objD) (by simp [Bundle.npeArmAtoms])) e.platform hpl
  obtain ⟨cellS, hcS', heS, -, hkeep⟩ := X.same.2.2.2.2.2 T.aS cellS0 hcS0
  have hcellS : W.heap[T.aS]? = some cellS := hcS'
  have hout' : ∀ i, (⟨T.aS, i⟩ : Loc) ∉ locs := fun i hmem => by
    have := hlocs _ hmem cellS0 hcS0
    rw [hiss] at this; cases this
  have hknownS : cellS.vm ≠ .unknown := by
    rw [heS]; intro hu
    rw [show cellS0.vm = .unknown from hu] at hiss
    cases hiss
  have hvU : cellS.slots[T.fUnassigned.slot]? = some u0.v := by rw [hkeep _ (hout' _)]; exact hu0
  have hvSen : cellS.slots[T.fSentinel.slot]? = some sen.v := by rw [hkeep _ (hout' _)]; exact hsen
  obtain ⟨tyC, dC, hdC, hdnC⟩ := Cond.laysAt hfound hk Y.cause (a' (.lays Bundle.nN Bundle.tN "cause" "Ljava/lang/Throwable;") (by simp [Bundle.npeArmAtoms]))
  obtain ⟨tyS, dS, hdS, hdnS⟩ := Cond.laysAt hfound hk Y.stack (a' (.lays Bundle.nN Bundle.tN "stackTrace" Bundle.steD) (by simp [Bundle.npeArmAtoms]))
  obtain ⟨tyP, dP, hdP, hdnP⟩ := Cond.laysAt hfound hk Y.supp (a' (.lays Bundle.nN Bundle.tN "suppressedExceptions" Bundle.listD) (by simp [Bundle.npeArmAtoms]))
  obtain ⟨tyX, dX, hdX, hdnX⟩ := Cond.laysAt hfound hk hffS (a' (.lays Bundle.nN Bundle.nN "extendedMessageState" "I") (by simp [Bundle.npeArmAtoms, Bundle.npeAtoms]))
  obtain ⟨hnX, htX⟩ := State.fieldFound?_type hffS (t := .int) (by decide +kernel)
  have xC := Cond.laysApart hdC hdX hdnC hdnX (by rw [hnX, Y.causeName]; decide)
  have xS := Cond.laysApart hdS hdX hdnS hdnX (by rw [hnX, Y.stackName]; decide)
  have xP := Cond.laysApart hdP hdX hdnP hdnX (by rw [hnX, Y.suppName]; decide)
  have hv0 : (freshCell P1.m.cls N.kN).slots[N.fState.slot]? = some (.int 0) := by
    have := fresh_default (c := P1.m.cls) tyX
    rw [htX] at this; exact this
  obtain ⟨tyB, dB, hdB, hdnB⟩ := Cond.laysAt hfound hk hffB (a' (.lays Bundle.nN Bundle.tN "backtrace" Bundle.objD) (by simp [Bundle.npeArmAtoms]))
  have bC := Cond.laysApart hdB hdC hdnB hdnC (by rw [hnB, Y.causeName]; decide)
  have bS := Cond.laysApart hdB hdS hdnB hdnS (by rw [hnB, Y.stackName]; decide)
  have bP := Cond.laysApart hdB hdP hdnB hdnP (by rw [hnB, Y.suppName]; decide)
  have bX := Cond.laysApart hdB hdX hdnB hdnX (by rw [hnB, hnX]; decide)
  have hbk : ((npeCell N.toNpeT (preparedCellV T.toThrowableT (freshCell P1.m.cls N.kN) W.heap.size u0 sen) W.cur).withEntry W.cur).slots[fB.slot]? = some .null := by
    have := fresh_default (c := P1.m.cls) tyB
    rw [htB] at this
    simpa [npeCell, preparedCellV, Cell.setSlot, Cell.withEntry, Array.getElem?_setIfInBounds, bC, bS, bP, bX, bC.symm, bS.symm, bP.symm, bX.symm, defaultValue] using this
  have tkC := Takes.of_laid (v := .ref W.heap.size) hk hordN tyC (by rw [Y.causeType]; rfl)
  have tkS := Takes.of_laid (v := u0.v) hk hordN tyS (by rw [Y.stackType]; exact fits_refV_array _ u0)
  have tkP := Takes.of_laid (v := sen.v) hk hordN tyP (by rw [Y.suppType]; exact fits_refV_object _ sen)
  have tkX := Takes.of_laid (v := .int 1) hk hordN tyX (by rw [htX]; rfl)
  have hskip : SkipFacts T e.platform s (fun u => u) u0 ((npeCell N.toNpeT (preparedCellV T.toThrowableT (freshCell P1.m.cls N.kN) W.heap.size u0 sen) W.cur).withEntry W.cur) := ⟨{ ci198 := ci198, i198 := i198, fBack := fB }, ⟨hk198, hg198, ha198, hsB⟩, hbk, fun _ _ => rfl⟩
  obtain ⟨vm', X3, st, -⟩ := X.throwsNpeColdBareVAt hexec hg hsize T L Z LZ N LN P1 L1 [PR, PE] hLs hlink1 ⟨hlinkR, hlinkE, trivial⟩ hfound hk hinit hordN hctor hsel0 hselF hcellS hknownS hvU hvSen
    hv0 xC xS xP tkC tkS tkP tkX Y.objLocals hskip (fun _ _ hA hW _ hroom _ hrest => L.nativeOff p htr hA hW hroom hrest) (by simpa using hRframes) hRlocals (by simp) hRcells (by rw [hn]; exact hRslots)
  have hlt : W.heap.size < ((W.pushCell (freshCell P1.m.cls N.kN)).setVm vm').heap.size := by
    show W.heap.size < (W.pushCell (freshCell P1.m.cls N.kN)).heap.size
    rw [State.heap_size_pushCell]; omega
  rw [hfsz] at X3
  obtain ⟨g₁, hfrM⟩ := X3.frames_eq
  have hU : ((((W.pushCell (freshCell P1.m.cls N.kN)).setVm vm').setCell W.heap.size (npeBareV T.toThrowableT N.toNpeT (freshCell P1.m.cls N.kN) W.heap.size u0 sen)).setTop g).pushFrame (.throwing W.heap.size) = (((W.pushCell (freshCell P1.m.cls N.kN)).setVm vm').setCell W.heap.size (npeBareV T.toThrowableT N.toNpeT (freshCell P1.m.cls N.kN) W.heap.size u0 sen)).setFrames (.throwing W.heap.size :: .java g :: below) := by
    rw [State.pushFrame, State.frames_setTop _ hfrM, State.setTop_of_frames _ hfrM, State.setFrames_setFrames]
  refine ⟨_, W.heap.size, _, fun target ht => st.trans (by rw [← hU]; exact ht), X3.forget (fun y hy => ?_), heapAt_setCell_self _ hlt, hfound, rfl⟩
  simp only [List.mem_cons, List.not_mem_nil, or_false] at hy
  have hge : s.heap.size ≤ W.heap.size := X.same.2.1
  rcases hy with rfl | rfl | rfl | rfl | rfl <;> exact hge
/-- the words of a machine's NullPointerException, but the four that speak of the heap -/
def vx_atN (n : Nat) : List Cond := (Bundle.npeArmAtoms n).filter vx_no
/-- the words of a machine's throw with a message, but the four that speak of the heap -/
def vx_atM (X : String) (names : List String) : List Cond := (Bundle.messageArmAtoms X names).filter vx_no
section
variable {p : Program} {l : Launch} {e : Env} {R : Room} {s : State} {m : MethodId} {args : Array Value} {below : List Frame} {meth : Method} {c : Code} {H : Heap} {locs : List Loc} {cells slots : Nat}
/-- a frame seen from a rebased start, seen from the first start again -/
theorem vx_back9 {T S : State} {R' : Room} {k n : Nat} (X : Stand p l e R s m args below meth c T locs cells slots) (Y : Stand p l e R' ((T.setVm s.vm).setFrames (.invoking m args :: below)) m args below meth c T [] 0 0) (Z : Stand p l e R' ((T.setVm s.vm).setFrames (.invoking m args :: below)) m args below meth c S [] k n) :
    Stand p l e R s m args below meth c S locs (cells + k) (slots + n) := by
  have hW0 : s.WarmedH ((T.setVm s.vm).setFrames (.invoking m args :: below)).vm := State.WarmedH.refl s
  refine { admits := X.admits, cas := X.cas, clock := X.clock, frames := X.frames, room := X.room, hears := X.hears, method := X.method, code := X.code, here := Z.here, tail := Z.tail, warmed := State.WarmedH.trans hW0 Z.warmed, limits := Z.limits.trans (Y.limits.symm.trans X.limits), bytes := Z.bytes.trans (Y.bytes.symm.trans X.bytes), same := ?_ }
  obtain ⟨e1, e2⟩ := Z.same
  rw [State.setFrames_setFrames] at e1
  have h2 : (T.setVm s.vm).sameButNew (S.setVm s.vm) [] k n := ⟨e1, e2⟩
  have h3 := X.same.trans h2
  rw [List.append_nil] at h3
  exact h3
/-- from the machine's note that E is thrown here with this text -/
def vx_Note (p : Program) (l : Launch) (e : Env) (R : Room) (s : State) (m : MethodId) (args : Array Value) (below : List Frame) (meth : Method) (c : Code) (H : Heap) (locs : List Loc) (cells slots : Nat) (Q : State → Prop) (g : JFrame) (E text : String) : Prop :=
  ∀ T : State, T.heap = H → Stand p l e R s m args below meth c T locs cells slots → ∃ t, Steps p.tables e below ((T.setTop g).pushFrame (.throwNew E (some text) none)) t ∧ Q t
theorem vx_vm {pc : Nat} {ls : Array Slot} {rest : List Value} {Q : State → Prop} (hexec : p.tables.exec = Jvm.exec) (hl : l.stackTraces = false) {cls text : String} {names : List String} {nb : Nat} {A : Nat → Prop}
    (hcls : Bundle.fit cls = true) (hnames : ∀ n ∈ names, Bundle.fit n = true) (hsoe : (cls == "java/lang/StackOverflowError") = false) (hoom : (cls == "java/lang/OutOfMemoryError") = false)
    (hat : ∀ w ∈ vx_atM cls names, w.before args s = true) (hgood : ∀ w ∈ vx_atM cls names, vx_ot w = true)
    (hU : vx_Zq Bundle.tN "UNASSIGNED_STACK" Bundle.steD A s s.heap) (hN : vx_Zq Bundle.tN "SUPPRESSED_SENTINEL" Bundle.listD A s s.heap) (hS : va_S A s.heap H locs) (hsize : ls.size = c.maxLocals)
    (htext : (text == notModelled) = false) (hnb : (stringBytes (stringToUtf16 text)).size ≤ nb) (hnb1 : nb ≤ 1000)
    (hRframes : names.length + 4 < R.frames) (hRlocals : (rest.map fun v => v.category).sum + 10240 ≤ R.locals) (hshort : 13 * names.length + 55 ≤ 10240) (hRcells : cells + 3 ≤ R.cells) (hRslots : slots + (nb + 10) ≤ R.slots) (hlocks : meth.locks = false)
    (k : ∀ (H1 : Heap) (q9 : Addr) (ce : Cell), H.size ≤ H1.size → (∀ q : Nat, q < H.size → H1[q]? = H[q]?) → va_S A s.heap H1 locs → H1[q9]? = some ce → ce.vm = .none → s.vm.findClass cls = some ce.cls → vx_W p l e R s m args below meth c H1 locs (cells + 3) (slots + (nb + 10)) Q (F0 m pc ls rest) q9) :
    vx_Note p l e R s m args below meth c H locs cells slots Q (F0 m pc ls rest) cls text := by
  intro T hT X
  have htr : e.platform.stackTraces = false := (show e.platform.stackTraces = l.stackTraces by rw [X.admits.platform]).trans hl
  have Y := vx_rebase X (R' := { frames := R.frames, locals := R.locals, cells := 3, slots := nb + 10 }) (Nat.le_refl _) (Nat.le_refl _) hRcells hRslots
  have hhp : ((T.setVm s.vm).setFrames (.invoking m args :: below)).heap = H := hT
  have hW0 : s.WarmedH ((T.setVm s.vm).setFrames (.invoking m args :: below)).vm := State.WarmedH.refl s
  have hat' : ∀ w ∈ vx_atM cls names, w.before args ((T.setVm s.vm).setFrames (.invoking m args :: below)) = true := fun w hw => vx_ot_at hW0 rfl (hgood w hw) (hat w hw)
  have hU' : vx_Zq Bundle.tN "UNASSIGNED_STACK" Bundle.steD A ((T.setVm s.vm).setFrames (.invoking m args :: below)) ((T.setVm s.vm).setFrames (.invoking m args :: below)).heap := by rw [hhp]; exact vx_Zq.moved hW0.alike (hU.kept hS.2.1)
  have hN' : vx_Zq Bundle.tN "SUPPRESSED_SENTINEL" Bundle.listD A ((T.setVm s.vm).setFrames (.invoking m args :: below)) ((T.setVm s.vm).setFrames (.invoking m args :: below)).heap := by rw [hhp]; exact vx_Zq.moved hW0.alike (hN.kept hS.2.1)
  obtain ⟨S, q, ce, st, Z, hce, hcl', hv⟩ := vx_vmAt Y hexec htr (cls := cls) (names := names) (text := text) hcls hnames hsoe hoom (vx_own hat' (vx_isRefq hU'.1) (vx_isRefq hN'.1) hU'.2.word hN'.2.word) (fun x hx => nomatch hx) htext
    (by rw [Launch.admits_arrayLengthLimit X.admits]; omega) (by rw [Launch.admits_maxHeapBytes X.admits]; simp only [componentBytes]; omega)
    (g := F0 m pc ls rest) rfl hsize hRframes (by show 2 * 0 + (rest.map fun v => v.category).sum + 10240 ≤ R.locals; omega) hshort (by show 0 + 3 ≤ 3; omega) (by show 0 + (_ + 4 + 6) ≤ nb + 10; omega) hlocks
  obtain ⟨f1, f2⟩ := vx_frame Z.same
  have f1' : H.size ≤ S.heap.size := by rw [← hT]; exact f1
  have f2' : ∀ q : Nat, q < H.size → S.heap[q]? = H[q]? := fun q hq => by
    rw [← hT]
    exact f2 q (by rw [← hT] at hq; exact hq) (fun z hz => nomatch hz)
  have X5 := vx_back9 X Y Z
  have X6 : Stand p l e R s m args below meth c S locs (cells + 3) (slots + (nb + 10)) := { X5 with same := X5.same.mono (by omega) (by omega) }
  obtain ⟨t, a1, b1⟩ := k S.heap q ce f1' f2' ⟨Nat.le_trans hS.1 f1', fun q h1 h2 => (f2' q (Nat.lt_of_lt_of_le h1 hS.1)).trans (hS.2.1 q h1 h2), hS.2.2⟩ hce hv hcl' S rfl X6
  exact ⟨t, st t a1, b1⟩
/-- from the machine's note that NullPointerException is thrown here -/
def vx_NoteN (p : Program) (l : Launch) (e : Env) (R : Room) (s : State) (m : MethodId) (args : Array Value) (below : List Frame) (meth : Method) (c : Code) (H : Heap) (locs : List Loc) (cells slots : Nat) (Q : State → Prop) (g : JFrame) : Prop :=
  ∀ T : State, T.heap = H → Stand p l e R s m args below meth c T locs cells slots → ∃ t, Steps p.tables e below ((T.setTop g).pushFrame (.throwNew "java/lang/NullPointerException" none none)) t ∧ Q t
theorem vx_npe {pc : Nat} {ls : Array Slot} {rest : List Value} {Q : State → Prop} (hexec : p.tables.exec = Jvm.exec) (hl : l.stackTraces = false) {nb : Nat} {A : Nat → Prop}
    (hat : ∀ w ∈ vx_atN nb, w.before args s = true) (hgood : ∀ w ∈ vx_atN nb, vx_ot w = true)
    (hU : vx_Zq Bundle.tN "UNASSIGNED_STACK" Bundle.steD A s s.heap) (hN : vx_Zq Bundle.tN "SUPPRESSED_SENTINEL" Bundle.listD A s s.heap) (hS : va_S A s.heap H locs) (hsize : ls.size = c.maxLocals)
    (hRframes : 7 < R.frames) (hRlocals : (rest.map fun v => v.category).sum + 10240 ≤ R.locals) (hRcells : cells + 1 ≤ R.cells) (hRslots : slots + nb ≤ R.slots) (hlocks : meth.locks = false)
    (k : ∀ (H1 : Heap) (q9 : Addr) (ce : Cell), H.size ≤ H1.size → (∀ q : Nat, q < H.size → H1[q]? = H[q]?) → va_S A s.heap H1 locs → H1[q9]? = some ce → ce.vm = .none → s.vm.findClass "java/lang/NullPointerException" = some ce.cls → vx_W p l e R s m args below meth c H1 locs (cells + 1) (slots + nb) Q (F0 m pc ls rest) q9) :
    vx_NoteN p l e R s m args below meth c H locs cells slots Q (F0 m pc ls rest) := by
  intro T hT X
  have htr : e.platform.stackTraces = false := (show e.platform.stackTraces = l.stackTraces by rw [X.admits.platform]).trans hl
  have Y := vx_rebase X (R' := { frames := R.frames, locals := R.locals, cells := 1, slots := nb }) (Nat.le_refl _) (Nat.le_refl _) hRcells hRslots
  have hhp : ((T.setVm s.vm).setFrames (.invoking m args :: below)).heap = H := hT
  have hW0 : s.WarmedH ((T.setVm s.vm).setFrames (.invoking m args :: below)).vm := State.WarmedH.refl s
  have hat' : ∀ w ∈ vx_atN nb, w.before args ((T.setVm s.vm).setFrames (.invoking m args :: below)) = true := fun w hw => vx_ot_at hW0 rfl (hgood w hw) (hat w hw)
  have hU' : vx_Zq Bundle.tN "UNASSIGNED_STACK" Bundle.steD A ((T.setVm s.vm).setFrames (.invoking m args :: below)) ((T.setVm s.vm).setFrames (.invoking m args :: below)).heap := by rw [hhp]; exact vx_Zq.moved hW0.alike (hU.kept hS.2.1)
  have hN' : vx_Zq Bundle.tN "SUPPRESSED_SENTINEL" Bundle.listD A ((T.setVm s.vm).setFrames (.invoking m args :: below)) ((T.setVm s.vm).setFrames (.invoking m args :: below)).heap := by rw [hhp]; exact vx_Zq.moved hW0.alike (hN.kept hS.2.1)
  obtain ⟨S, q, ce, st, Z, hce, hcl', hv⟩ := vx_npeAt Y hexec htr (n := nb) (vx_own hat' (vx_isRefq hU'.1) (vx_isRefq hN'.1) hU'.2.word hN'.2.word) (fun x hx => nomatch hx)
    (g := F0 m pc ls rest) rfl hsize hRframes (by show 2 * 0 + (rest.map fun v => v.category).sum + 10240 ≤ R.locals; omega) (by show 0 + 1 ≤ 1; omega) (by show 0 + nb ≤ nb; omega) hlocks
  obtain ⟨f1, f2⟩ := vx_frame Z.same
  have f1' : H.size ≤ S.heap.size := by rw [← hT]; exact f1
  have f2' : ∀ q : Nat, q < H.size → S.heap[q]? = H[q]? := fun q hq => by
    rw [← hT]
    exact f2 q (by rw [← hT] at hq; exact hq) (fun z hz => nomatch hz)
  have X5 := vx_back9 X Y Z
  have X6 : Stand p l e R s m args below meth c S locs (cells + 1) (slots + nb) := { X5 with same := X5.same.mono (by omega) (by omega) }
  obtain ⟨t, a1, b1⟩ := k S.heap q ce f1' f2' ⟨Nat.le_trans hS.1 f1', fun q h1 h2 => (f2' q (Nat.lt_of_lt_of_le h1 hS.1)).trans (hS.2.1 q h1 h2), hS.2.2⟩ hce hv hcl' S rfl X6
  exact ⟨t, st t a1, b1⟩
variable {Q : State → Prop} {cc : ByteArray} {pc : Nat} {ls : Array Slot} {rest : List Value}
theorem vx_idivZ (hexec : p.tables.exec = Jvm.exec) (hb : c.code = cc) {a b : Int32} (h0 : b = 0) (d : decode cc pc = .ok (.idiv, 1)) (k : vx_Note p l e R s m args below meth c H locs cells slots Q (F0 m pc ls rest) "java/lang/ArithmeticException" "/ by zero") :
    W p l e R s m args below meth c H locs cells slots Q (F0 m pc ls (.int b :: .int a :: rest)) := by
  intro T hT X
  obtain ⟨t, st, q⟩ := k T hT X
  exact ⟨t, X.idivZero hexec (g := F0 m pc ls (.int b :: .int a :: rest)) rfl (a := a) (rest := rest) (by rw [h0]) (by rw [hb]; exact d) t st, q⟩
theorem vx_iremZ (hexec : p.tables.exec = Jvm.exec) (hb : c.code = cc) {a b : Int32} (h0 : b = 0) (d : decode cc pc = .ok (.irem, 1)) (k : vx_Note p l e R s m args below meth c H locs cells slots Q (F0 m pc ls rest) "java/lang/ArithmeticException" "/ by zero") :
    W p l e R s m args below meth c H locs cells slots Q (F0 m pc ls (.int b :: .int a :: rest)) := by
  intro T hT X
  obtain ⟨t, st, q⟩ := k T hT X
  exact ⟨t, X.iremZero hexec (g := F0 m pc ls (.int b :: .int a :: rest)) rfl (a := a) (rest := rest) (by rw [h0]) (by rw [hb]; exact d) t st, q⟩
theorem vx_ldivZ (hexec : p.tables.exec = Jvm.exec) (hb : c.code = cc) {a b : Int64} (h0 : b = 0) (d : decode cc pc = .ok (.ldiv, 1)) (k : vx_Note p l e R s m args below meth c H locs cells slots Q (F0 m pc ls rest) "java/lang/ArithmeticException" "/ by zero") :
    W p l e R s m args below meth c H locs cells slots Q (F0 m pc ls (.long b :: .long a :: rest)) := by
  intro T hT X
  obtain ⟨t, st, q⟩ := k T hT X
  exact ⟨t, X.ldivZero hexec (g := F0 m pc ls (.long b :: .long a :: rest)) rfl (a := a) (rest := rest) (by rw [h0]) (by rw [hb]; exact d) t st, q⟩
theorem vx_lremZ (hexec : p.tables.exec = Jvm.exec) (hb : c.code = cc) {a b : Int64} (h0 : b = 0) (d : decode cc pc = .ok (.lrem, 1)) (k : vx_Note p l e R s m args below meth c H locs cells slots Q (F0 m pc ls rest) "java/lang/ArithmeticException" "/ by zero") :
    W p l e R s m args below meth c H locs cells slots Q (F0 m pc ls (.long b :: .long a :: rest)) := by
  intro T hT X
  obtain ⟨t, st, q⟩ := k T hT X
  exact ⟨t, X.lremZero hexec (g := F0 m pc ls (.long b :: .long a :: rest)) rfl (a := a) (rest := rest) (by rw [h0]) (by rw [hb]; exact d) t st, q⟩
theorem vx_ialdZ {D : va_G} {cl : List vw_C} {ws : va_W} {tys : List (ClassId × FieldType)} {a : Nat} (hexec : p.tables.exec = Jvm.exec) (hb : c.code = cc) (hK : va_K D cl tys s) (hP : va_P D cl ws H) (q0 t0 : Nat) {cA : ClassId} {n : Nat} {f : Nat → Int32} (ha : ws[q0]? = some (a, .inl (cA, n, .inl f))) (ht : tys[t0]? = some (cA, .int)) {i : Int32} (hout : ¬ vp_in i n) (hdg : decode cc pc = .ok (.iaload, 1))
    (k : ∀ tx : String, tx = (toString "Index " ++ toString i ++ toString " out of bounds for length " ++ toString n : String) → vx_Note p l e R s m args below meth c H locs cells slots Q (F0 m pc ls rest) "java/lang/ArrayIndexOutOfBoundsException" tx) : W p l e R s m args below meth c H locs cells slots Q (F0 m pc ls (.int i :: .ref a :: rest)) := by
  intro T hT X
  obtain ⟨t, st, q⟩ := k _ rfl T hT X
  refine ⟨t, ?_, q⟩
  have h1 := X.ialoadOut hexec (by rw [hT]; exact hP q0 _ ha) ((hK.2 t0 _ ht).1 n (fun j => .int (f j))) (j := i) (by show (i < 0 ∨ (arrV _ _ _).slots.size ≤ _); rw [arrV_size]; exact Classical.byContradiction hout) (g := F0 m pc ls (.int i :: .ref a :: rest)) rfl (rest := rest) rfl (by rw [hb]; exact hdg) t
  simp only [arrV_size] at h1
  exact h1 st
theorem vx_iastZ {D : va_G} {cl : List vw_C} {ws : va_W} {tys : List (ClassId × FieldType)} {a : Nat} (hexec : p.tables.exec = Jvm.exec) (hb : c.code = cc) (hK : va_K D cl tys s) (hP : va_P D cl ws H) (q0 t0 : Nat) {cA : ClassId} {n : Nat} {f : Nat → Int32} (ha : ws[q0]? = some (a, .inl (cA, n, .inl f))) (ht : tys[t0]? = some (cA, .int)) {i : Int32} {x : Int32} (hout : ¬ vp_in i n) (hdg : decode cc pc = .ok (.iastore, 1))
    (k : ∀ tx : String, tx = (toString "Index " ++ toString i ++ toString " out of bounds for length " ++ toString n : String) → vx_Note p l e R s m args below meth c H locs cells slots Q (F0 m pc ls rest) "java/lang/ArrayIndexOutOfBoundsException" tx) : W p l e R s m args below meth c H locs cells slots Q (F0 m pc ls (.int x :: .int i :: .ref a :: rest)) := by
  intro T hT X
  obtain ⟨t, st, q⟩ := k _ rfl T hT X
  refine ⟨t, ?_, q⟩
  have h1 := X.iastoreOut hexec (by rw [hT]; exact hP q0 _ ha) ((hK.2 t0 _ ht).1 n (fun j => .int (f j))) (j := i) (by show (i < 0 ∨ (arrV _ _ _).slots.size ≤ _); rw [arrV_size]; exact Classical.byContradiction hout) (g := F0 m pc ls (.int x :: .int i :: .ref a :: rest)) rfl (rest := rest) rfl (by rw [hb]; exact hdg) t
  simp only [arrV_size] at h1
  exact h1 st
theorem vx_baldZ {D : va_G} {cl : List vw_C} {ws : va_W} {tys : List (ClassId × FieldType)} {a : Nat} (hexec : p.tables.exec = Jvm.exec) (hb : c.code = cc) (hK : va_K D cl tys s) (hP : va_P D cl ws H) (q0 t0 : Nat) {cA : ClassId} {n : Nat} {f : Nat → Int32} (ha : ws[q0]? = some (a, .inl (cA, n, .inl f))) (ht : tys[t0]? = some (cA, .byte)) {i : Int32} (hout : ¬ vp_in i n) (hdg : decode cc pc = .ok (.baload, 1))
    (k : ∀ tx : String, tx = (toString "Index " ++ toString i ++ toString " out of bounds for length " ++ toString n : String) → vx_Note p l e R s m args below meth c H locs cells slots Q (F0 m pc ls rest) "java/lang/ArrayIndexOutOfBoundsException" tx) : W p l e R s m args below meth c H locs cells slots Q (F0 m pc ls (.int i :: .ref a :: rest)) := by
  intro T hT X
  obtain ⟨t, st, q⟩ := k _ rfl T hT X
  refine ⟨t, ?_, q⟩
  have h1 := X.baloadOut hexec (by rw [hT]; exact hP q0 _ ha) ((hK.2 t0 _ ht).1 n (fun j => .int (f j))) (j := i) (by show (i < 0 ∨ (arrV _ _ _).slots.size ≤ _); rw [arrV_size]; exact Classical.byContradiction hout) (g := F0 m pc ls (.int i :: .ref a :: rest)) rfl (rest := rest) rfl (by rw [hb]; exact hdg) t
  simp only [arrV_size] at h1
  exact h1 st
theorem vx_bastZ {D : va_G} {cl : List vw_C} {ws : va_W} {tys : List (ClassId × FieldType)} {a : Nat} (hexec : p.tables.exec = Jvm.exec) (hb : c.code = cc) (hK : va_K D cl tys s) (hP : va_P D cl ws H) (q0 t0 : Nat) {cA : ClassId} {n : Nat} {f : Nat → Int32} (ha : ws[q0]? = some (a, .inl (cA, n, .inl f))) (ht : tys[t0]? = some (cA, .byte)) {i : Int32} {x : Int32} (hout : ¬ vp_in i n) (hdg : decode cc pc = .ok (.bastore, 1))
    (k : ∀ tx : String, tx = (toString "Index " ++ toString i ++ toString " out of bounds for length " ++ toString n : String) → vx_Note p l e R s m args below meth c H locs cells slots Q (F0 m pc ls rest) "java/lang/ArrayIndexOutOfBoundsException" tx) : W p l e R s m args below meth c H locs cells slots Q (F0 m pc ls (.int x :: .int i :: .ref a :: rest)) := by
  intro T hT X
  obtain ⟨t, st, q⟩ := k _ rfl T hT X
  refine ⟨t, ?_, q⟩
  have h1 := X.bastoreOut hexec (by rw [hT]; exact hP q0 _ ha) ((hK.2 t0 _ ht).1 n (fun j => .int (f j))) (j := i) (by show (i < 0 ∨ (arrV _ _ _).slots.size ≤ _); rw [arrV_size]; exact Classical.byContradiction hout) (g := F0 m pc ls (.int x :: .int i :: .ref a :: rest)) rfl (rest := rest) rfl (by rw [hb]; exact hdg) t
  simp only [arrV_size] at h1
  exact h1 st
theorem vx_zaldZ {D : va_G} {cl : List vw_C} {ws : va_W} {tys : List (ClassId × FieldType)} {a : Nat} (hexec : p.tables.exec = Jvm.exec) (hb : c.code = cc) (hK : va_K D cl tys s) (hP : va_P D cl ws H) (q0 t0 : Nat) {cA : ClassId} {n : Nat} {f : Nat → Int32} (ha : ws[q0]? = some (a, .inl (cA, n, .inl f))) (ht : tys[t0]? = some (cA, .boolean)) {i : Int32} (hout : ¬ vp_in i n) (hdg : decode cc pc = .ok (.baload, 1))
    (k : ∀ tx : String, tx = (toString "Index " ++ toString i ++ toString " out of bounds for length " ++ toString n : String) → vx_Note p l e R s m args below meth c H locs cells slots Q (F0 m pc ls rest) "java/lang/ArrayIndexOutOfBoundsException" tx) : W p l e R s m args below meth c H locs cells slots Q (F0 m pc ls (.int i :: .ref a :: rest)) := by
  intro T hT X
  obtain ⟨t, st, q⟩ := k _ rfl T hT X
  refine ⟨t, ?_, q⟩
  have h1 := X.baloadOut hexec (by rw [hT]; exact hP q0 _ ha) ((hK.2 t0 _ ht).1 n (fun j => .int (f j))) (j := i) (by show (i < 0 ∨ (arrV _ _ _).slots.size ≤ _); rw [arrV_size]; exact Classical.byContradiction hout) (g := F0 m pc ls (.int i :: .ref a :: rest)) rfl (rest := rest) rfl (by rw [hb]; exact hdg) t
  simp only [arrV_size] at h1
  exact h1 st
theorem vx_zastZ {D : va_G} {cl : List vw_C} {ws : va_W} {tys : List (ClassId × FieldType)} {a : Nat} (hexec : p.tables.exec = Jvm.exec) (hb : c.code = cc) (hK : va_K D cl tys s) (hP : va_P D cl ws H) (q0 t0 : Nat) {cA : ClassId} {n : Nat} {f : Nat → Int32} (ha : ws[q0]? = some (a, .inl (cA, n, .inl f))) (ht : tys[t0]? = some (cA, .boolean)) {i : Int32} {x : Int32} (hout : ¬ vp_in i n) (hdg : decode cc pc = .ok (.bastore, 1))
    (k : ∀ tx : String, tx = (toString "Index " ++ toString i ++ toString " out of bounds for length " ++ toString n : String) → vx_Note p l e R s m args below meth c H locs cells slots Q (F0 m pc ls rest) "java/lang/ArrayIndexOutOfBoundsException" tx) : W p l e R s m args below meth c H locs cells slots Q (F0 m pc ls (.int x :: .int i :: .ref a :: rest)) := by
  intro T hT X
  obtain ⟨t, st, q⟩ := k _ rfl T hT X
  refine ⟨t, ?_, q⟩
  have h1 := X.bastoreOut hexec (by rw [hT]; exact hP q0 _ ha) ((hK.2 t0 _ ht).1 n (fun j => .int (f j))) (j := i) (by show (i < 0 ∨ (arrV _ _ _).slots.size ≤ _); rw [arrV_size]; exact Classical.byContradiction hout) (g := F0 m pc ls (.int x :: .int i :: .ref a :: rest)) rfl (rest := rest) rfl (by rw [hb]; exact hdg) t
  simp only [arrV_size] at h1
  exact h1 st
theorem vx_caldZ {D : va_G} {cl : List vw_C} {ws : va_W} {tys : List (ClassId × FieldType)} {a : Nat} (hexec : p.tables.exec = Jvm.exec) (hb : c.code = cc) (hK : va_K D cl tys s) (hP : va_P D cl ws H) (q0 t0 : Nat) {cA : ClassId} {n : Nat} {f : Nat → Int32} (ha : ws[q0]? = some (a, .inl (cA, n, .inl f))) (ht : tys[t0]? = some (cA, .char)) {i : Int32} (hout : ¬ vp_in i n) (hdg : decode cc pc = .ok (.caload, 1))
    (k : ∀ tx : String, tx = (toString "Index " ++ toString i ++ toString " out of bounds for length " ++ toString n : String) → vx_Note p l e R s m args below meth c H locs cells slots Q (F0 m pc ls rest) "java/lang/ArrayIndexOutOfBoundsException" tx) : W p l e R s m args below meth c H locs cells slots Q (F0 m pc ls (.int i :: .ref a :: rest)) := by
  intro T hT X
  obtain ⟨t, st, q⟩ := k _ rfl T hT X
  refine ⟨t, ?_, q⟩
  have h1 := X.caloadOut hexec (by rw [hT]; exact hP q0 _ ha) ((hK.2 t0 _ ht).1 n (fun j => .int (f j))) (j := i) (by show (i < 0 ∨ (arrV _ _ _).slots.size ≤ _); rw [arrV_size]; exact Classical.byContradiction hout) (g := F0 m pc ls (.int i :: .ref a :: rest)) rfl (rest := rest) rfl (by rw [hb]; exact hdg) t
  simp only [arrV_size] at h1
  exact h1 st
theorem vx_castZ {D : va_G} {cl : List vw_C} {ws : va_W} {tys : List (ClassId × FieldType)} {a : Nat} (hexec : p.tables.exec = Jvm.exec) (hb : c.code = cc) (hK : va_K D cl tys s) (hP : va_P D cl ws H) (q0 t0 : Nat) {cA : ClassId} {n : Nat} {f : Nat → Int32} (ha : ws[q0]? = some (a, .inl (cA, n, .inl f))) (ht : tys[t0]? = some (cA, .char)) {i : Int32} {x : Int32} (hout : ¬ vp_in i n) (hdg : decode cc pc = .ok (.castore, 1))
    (k : ∀ tx : String, tx = (toString "Index " ++ toString i ++ toString " out of bounds for length " ++ toString n : String) → vx_Note p l e R s m args below meth c H locs cells slots Q (F0 m pc ls rest) "java/lang/ArrayIndexOutOfBoundsException" tx) : W p l e R s m args below meth c H locs cells slots Q (F0 m pc ls (.int x :: .int i :: .ref a :: rest)) := by
  intro T hT X
  obtain ⟨t, st, q⟩ := k _ rfl T hT X
  refine ⟨t, ?_, q⟩
  have h1 := X.castoreOut hexec (by rw [hT]; exact hP q0 _ ha) ((hK.2 t0 _ ht).1 n (fun j => .int (f j))) (j := i) (by show (i < 0 ∨ (arrV _ _ _).slots.size ≤ _); rw [arrV_size]; exact Classical.byContradiction hout) (g := F0 m pc ls (.int x :: .int i :: .ref a :: rest)) rfl (rest := rest) rfl (by rw [hb]; exact hdg) t
  simp only [arrV_size] at h1
  exact h1 st
theorem vx_saldZ {D : va_G} {cl : List vw_C} {ws : va_W} {tys : List (ClassId × FieldType)} {a : Nat} (hexec : p.tables.exec = Jvm.exec) (hb : c.code = cc) (hK : va_K D cl tys s) (hP : va_P D cl ws H) (q0 t0 : Nat) {cA : ClassId} {n : Nat} {f : Nat → Int32} (ha : ws[q0]? = some (a, .inl (cA, n, .inl f))) (ht : tys[t0]? = some (cA, .short)) {i : Int32} (hout : ¬ vp_in i n) (hdg : decode cc pc = .ok (.saload, 1))
    (k : ∀ tx : String, tx = (toString "Index " ++ toString i ++ toString " out of bounds for length " ++ toString n : String) → vx_Note p l e R s m args below meth c H locs cells slots Q (F0 m pc ls rest) "java/lang/ArrayIndexOutOfBoundsException" tx) : W p l e R s m args below meth c H locs cells slots Q (F0 m pc ls (.int i :: .ref a :: rest)) := by
  intro T hT X
  obtain ⟨t, st, q⟩ := k _ rfl T hT X
  refine ⟨t, ?_, q⟩
  have h1 := X.saloadOut hexec (by rw [hT]; exact hP q0 _ ha) ((hK.2 t0 _ ht).1 n (fun j => .int (f j))) (j := i) (by show (i < 0 ∨ (arrV _ _ _).slots.size ≤ _); rw [arrV_size]; exact Classical.byContradiction hout) (g := F0 m pc ls (.int i :: .ref a :: rest)) rfl (rest := rest) rfl (by rw [hb]; exact hdg) t
  simp only [arrV_size] at h1
  exact h1 st
theorem vx_sastZ {D : va_G} {cl : List vw_C} {ws : va_W} {tys : List (ClassId × FieldType)} {a : Nat} (hexec : p.tables.exec = Jvm.exec) (hb : c.code = cc) (hK : va_K D cl tys s) (hP : va_P D cl ws H) (q0 t0 : Nat) {cA : ClassId} {n : Nat} {f : Nat → Int32} (ha : ws[q0]? = some (a, .inl (cA, n, .inl f))) (ht : tys[t0]? = some (cA, .short)) {i : Int32} {x : Int32} (hout : ¬ vp_in i n) (hdg : decode cc pc = .ok (.sastore, 1))
    (k : ∀ tx : String, tx = (toString "Index " ++ toString i ++ toString " out of bounds for length " ++ toString n : String) → vx_Note p l e R s m args below meth c H locs cells slots Q (F0 m pc ls rest) "java/lang/ArrayIndexOutOfBoundsException" tx) : W p l e R s m args below meth c H locs cells slots Q (F0 m pc ls (.int x :: .int i :: .ref a :: rest)) := by
  intro T hT X
  obtain ⟨t, st, q⟩ := k _ rfl T hT X
  refine ⟨t, ?_, q⟩
  have h1 := X.sastoreOut hexec (by rw [hT]; exact hP q0 _ ha) ((hK.2 t0 _ ht).1 n (fun j => .int (f j))) (j := i) (by show (i < 0 ∨ (arrV _ _ _).slots.size ≤ _); rw [arrV_size]; exact Classical.byContradiction hout) (g := F0 m pc ls (.int x :: .int i :: .ref a :: rest)) rfl (rest := rest) rfl (by rw [hb]; exact hdg) t
  simp only [arrV_size] at h1
  exact h1 st
theorem vx_laldZ {D : va_G} {cl : List vw_C} {ws : va_W} {tys : List (ClassId × FieldType)} {a : Nat} (hexec : p.tables.exec = Jvm.exec) (hb : c.code = cc) (hK : va_K D cl tys s) (hP : va_P D cl ws H) (q0 t0 : Nat) {cA : ClassId} {n : Nat} {f : Nat → Int64} (ha : ws[q0]? = some (a, .inl (cA, n, .inr (.inl f)))) (ht : tys[t0]? = some (cA, .long)) {i : Int32} (hout : ¬ vp_in i n) (hdg : decode cc pc = .ok (.laload, 1))
    (k : ∀ tx : String, tx = (toString "Index " ++ toString i ++ toString " out of bounds for length " ++ toString n : String) → vx_Note p l e R s m args below meth c H locs cells slots Q (F0 m pc ls rest) "java/lang/ArrayIndexOutOfBoundsException" tx) : W p l e R s m args below meth c H locs cells slots Q (F0 m pc ls (.int i :: .ref a :: rest)) := by
  intro T hT X
  obtain ⟨t, st, q⟩ := k _ rfl T hT X
  refine ⟨t, ?_, q⟩
  have h1 := X.laloadOut hexec (by rw [hT]; exact hP q0 _ ha) ((hK.2 t0 _ ht).1 n (fun j => .long (f j))) (j := i) (by show (i < 0 ∨ (arrV _ _ _).slots.size ≤ _); rw [arrV_size]; exact Classical.byContradiction hout) (g := F0 m pc ls (.int i :: .ref a :: rest)) rfl (rest := rest) rfl (by rw [hb]; exact hdg) t
  simp only [arrV_size] at h1
  exact h1 st
theorem vx_lastZ {D : va_G} {cl : List vw_C} {ws : va_W} {tys : List (ClassId × FieldType)} {a : Nat} (hexec : p.tables.exec = Jvm.exec) (hb : c.code = cc) (hK : va_K D cl tys s) (hP : va_P D cl ws H) (q0 t0 : Nat) {cA : ClassId} {n : Nat} {f : Nat → Int64} (ha : ws[q0]? = some (a, .inl (cA, n, .inr (.inl f)))) (ht : tys[t0]? = some (cA, .long)) {i : Int32} {x : Int64} (hout : ¬ vp_in i n) (hdg : decode cc pc = .ok (.lastore, 1))
    (k : ∀ tx : String, tx = (toString "Index " ++ toString i ++ toString " out of bounds for length " ++ toString n : String) → vx_Note p l e R s m args below meth c H locs cells slots Q (F0 m pc ls rest) "java/lang/ArrayIndexOutOfBoundsException" tx) : W p l e R s m args below meth c H locs cells slots Q (F0 m pc ls (.long x :: .int i :: .ref a :: rest)) := by
  intro T hT X
  obtain ⟨t, st, q⟩ := k _ rfl T hT X
  refine ⟨t, ?_, q⟩
  have h1 := X.lastoreOut hexec (by rw [hT]; exact hP q0 _ ha) ((hK.2 t0 _ ht).1 n (fun j => .long (f j))) (j := i) (by show (i < 0 ∨ (arrV _ _ _).slots.size ≤ _); rw [arrV_size]; exact Classical.byContradiction hout) (g := F0 m pc ls (.long x :: .int i :: .ref a :: rest)) rfl (rest := rest) rfl (by rw [hb]; exact hdg) t
  simp only [arrV_size] at h1
  exact h1 st
theorem vx_faldZ {D : va_G} {cl : List vw_C} {ws : va_W} {tys : List (ClassId × FieldType)} {a : Nat} (hexec : p.tables.exec = Jvm.exec) (hb : c.code = cc) (hK : va_K D cl tys s) (hP : va_P D cl ws H) (q0 t0 : Nat) {cA : ClassId} {n : Nat} {f : Nat → UInt32} (ha : ws[q0]? = some (a, .inl (cA, n, .inr (.inr (.inl f))))) (ht : tys[t0]? = some (cA, .float)) {i : Int32} (hout : ¬ vp_in i n) (hdg : decode cc pc = .ok (.faload, 1))
    (k : ∀ tx : String, tx = (toString "Index " ++ toString i ++ toString " out of bounds for length " ++ toString n : String) → vx_Note p l e R s m args below meth c H locs cells slots Q (F0 m pc ls rest) "java/lang/ArrayIndexOutOfBoundsException" tx) : W p l e R s m args below meth c H locs cells slots Q (F0 m pc ls (.int i :: .ref a :: rest)) := by
  intro T hT X
  obtain ⟨t, st, q⟩ := k _ rfl T hT X
  refine ⟨t, ?_, q⟩
  have h1 := X.faloadOut hexec (by rw [hT]; exact hP q0 _ ha) ((hK.2 t0 _ ht).1 n (fun j => .float (f j))) (j := i) (by show (i < 0 ∨ (arrV _ _ _).slots.size ≤ _); rw [arrV_size]; exact Classical.byContradiction hout) (g := F0 m pc ls (.int i :: .ref a :: rest)) rfl (rest := rest) rfl (by rw [hb]; exact hdg) t
  simp only [arrV_size] at h1
  exact h1 st
theorem vx_fastZ {D : va_G} {cl : List vw_C} {ws : va_W} {tys : List (ClassId × FieldType)} {a : Nat} (hexec : p.tables.exec = Jvm.exec) (hb : c.code = cc) (hK : va_K D cl tys s) (hP : va_P D cl ws H) (q0 t0 : Nat) {cA : ClassId} {n : Nat} {f : Nat → UInt32} (ha : ws[q0]? = some (a, .inl (cA, n, .inr (.inr (.inl f))))) (ht : tys[t0]? = some (cA, .float)) {i : Int32} {x : UInt32} (hout : ¬ vp_in i n) (hdg : decode cc pc = .ok (.fastore, 1))
    (k : ∀ tx : String, tx = (toString "Index " ++ toString i ++ toString " out of bounds for length " ++ toString n : String) → vx_Note p l e R s m args below meth c H locs cells slots Q (F0 m pc ls rest) "java/lang/ArrayIndexOutOfBoundsException" tx) : W p l e R s m args below meth c H locs cells slots Q (F0 m pc ls (.float x :: .int i :: .ref a :: rest)) := by
  intro T hT X
  obtain ⟨t, st, q⟩ := k _ rfl T hT X
  refine ⟨t, ?_, q⟩
  have h1 := X.fastoreOut hexec (by rw [hT]; exact hP q0 _ ha) ((hK.2 t0 _ ht).1 n (fun j => .float (f j))) (j := i) (by show (i < 0 ∨ (arrV _ _ _).slots.size ≤ _); rw [arrV_size]; exact Classical.byContradiction hout) (g := F0 m pc ls (.float x :: .int i :: .ref a :: rest)) rfl (rest := rest) rfl (by rw [hb]; exact hdg) t
  simp only [arrV_size] at h1
  exact h1 st
theorem vx_daldZ {D : va_G} {cl : List vw_C} {ws : va_W} {tys : List (ClassId × FieldType)} {a : Nat} (hexec : p.tables.exec = Jvm.exec) (hb : c.code = cc) (hK : va_K D cl tys s) (hP : va_P D cl ws H) (q0 t0 : Nat) {cA : ClassId} {n : Nat} {f : Nat → UInt64} (ha : ws[q0]? = some (a, .inl (cA, n, .inr (.inr (.inr (.inl f)))))) (ht : tys[t0]? = some (cA, .double)) {i : Int32} (hout : ¬ vp_in i n) (hdg : decode cc pc = .ok (.daload, 1))
    (k : ∀ tx : String, tx = (toString "Index " ++ toString i ++ toString " out of bounds for length " ++ toString n : String) → vx_Note p l e R s m args below meth c H locs cells slots Q (F0 m pc ls rest) "java/lang/ArrayIndexOutOfBoundsException" tx) : W p l e R s m args below meth c H locs cells slots Q (F0 m pc ls (.int i :: .ref a :: rest)) := by
  intro T hT X
  obtain ⟨t, st, q⟩ := k _ rfl T hT X
  refine ⟨t, ?_, q⟩
  have h1 := X.daloadOut hexec (by rw [hT]; exact hP q0 _ ha) ((hK.2 t0 _ ht).1 n (fun j => .double (f j))) (j := i) (by show (i < 0 ∨ (arrV _ _ _).slots.size ≤ _); rw [arrV_size]; exact Classical.byContradiction hout) (g := F0 m pc ls (.int i :: .ref a :: rest)) rfl (rest := rest) rfl (by rw [hb]; exact hdg) t
  simp only [arrV_size] at h1
  exact h1 st
theorem vx_dastZ {D : va_G} {cl : List vw_C} {ws : va_W} {tys : List (ClassId × FieldType)} {a : Nat} (hexec : p.tables.exec = Jvm.exec) (hb : c.code = cc) (hK : va_K D cl tys s) (hP : va_P D cl ws H) (q0 t0 : Nat) {cA : ClassId} {n : Nat} {f : Nat → UInt64} (ha : ws[q0]? = some (a, .inl (cA, n, .inr (.inr (.inr (.inl f)))))) (ht : tys[t0]? = some (cA, .double)) {i : Int32} {x : UInt64} (hout : ¬ vp_in i n) (hdg : decode cc pc = .ok (.dastore, 1))
    (k : ∀ tx : String, tx = (toString "Index " ++ toString i ++ toString " out of bounds for length " ++ toString n : String) → vx_Note p l e R s m args below meth c H locs cells slots Q (F0 m pc ls rest) "java/lang/ArrayIndexOutOfBoundsException" tx) : W p l e R s m args below meth c H locs cells slots Q (F0 m pc ls (.double x :: .int i :: .ref a :: rest)) := by
  intro T hT X
  obtain ⟨t, st, q⟩ := k _ rfl T hT X
  refine ⟨t, ?_, q⟩
  have h1 := X.dastoreOut hexec (by rw [hT]; exact hP q0 _ ha) ((hK.2 t0 _ ht).1 n (fun j => .double (f j))) (j := i) (by show (i < 0 ∨ (arrV _ _ _).slots.size ≤ _); rw [arrV_size]; exact Classical.byContradiction hout) (g := F0 m pc ls (.double x :: .int i :: .ref a :: rest)) rfl (rest := rest) rfl (by rw [hb]; exact hdg) t
  simp only [arrV_size] at h1
  exact h1 st
theorem vx_arraylengthN (hexec : p.tables.exec = Jvm.exec) (hb : c.code = cc) (hdg : decode cc pc = .ok (.arraylength, 1)) (k : vx_NoteN p l e R s m args below meth c H locs cells slots Q (F0 m pc ls rest)) : W p l e R s m args below meth c H locs cells slots Q (F0 m pc ls (.null :: rest)) := by
  intro T hT X
  obtain ⟨t, st, q⟩ := k T hT X
  exact ⟨t, X.arraylengthNull hexec (g := F0 m pc ls (.null :: rest)) rfl (rest := rest) rfl (by rw [hb]; exact hdg) t st, q⟩
theorem vx_ialoadN (hexec : p.tables.exec = Jvm.exec) (hb : c.code = cc) {i : Int32} (hdg : decode cc pc = .ok (.iaload, 1)) (k : vx_NoteN p l e R s m args below meth c H locs cells slots Q (F0 m pc ls rest)) : W p l e R s m args below meth c H locs cells slots Q (F0 m pc ls (.int i :: .null :: rest)) := by
  intro T hT X
  obtain ⟨t, st, q⟩ := k T hT X
  exact ⟨t, X.ialoadNull hexec (g := F0 m pc ls (.int i :: .null :: rest)) rfl (rest := rest) rfl (by rw [hb]; exact hdg) t st, q⟩
theorem vx_laloadN (hexec : p.tables.exec = Jvm.exec) (hb : c.code = cc) {i : Int32} (hdg : decode cc pc = .ok (.laload, 1)) (k : vx_NoteN p l e R s m args below meth c H locs cells slots Q (F0 m pc ls rest)) : W p l e R s m args below meth c H locs cells slots Q (F0 m pc ls (.int i :: .null :: rest)) := by
  intro T hT X
  obtain ⟨t, st, q⟩ := k T hT X
  exact ⟨t, X.laloadNull hexec (g := F0 m pc ls (.int i :: .null :: rest)) rfl (rest := rest) rfl (by rw [hb]; exact hdg) t st, q⟩
theorem vx_faloadN (hexec : p.tables.exec = Jvm.exec) (hb : c.code = cc) {i : Int32} (hdg : decode cc pc = .ok (.faload, 1)) (k : vx_NoteN p l e R s m args below meth c H locs cells slots Q (F0 m pc ls rest)) : W p l e R s m args below meth c H locs cells slots Q (F0 m pc ls (.int i :: .null :: rest)) := by
  intro T hT X
  obtain ⟨t, st, q⟩ := k T hT X
  exact ⟨t, X.faloadNull hexec (g := F0 m pc ls (.int i :: .null :: rest)) rfl (rest := rest) rfl (by rw [hb]; exact hdg) t st, q⟩
theorem vx_daloadN (hexec : p.tables.exec = Jvm.exec) (hb : c.code = cc) {i : Int32} (hdg : decode cc pc = .ok (.daload, 1)) (k : vx_NoteN p l e R s m args below meth c H locs cells slots Q (F0 m pc ls rest)) : W p l e R s m args below meth c H locs cells slots Q (F0 m pc ls (.int i :: .null :: rest)) := by
  intro T hT X
  obtain ⟨t, st, q⟩ := k T hT X
  exact ⟨t, X.daloadNull hexec (g := F0 m pc ls (.int i :: .null :: rest)) rfl (rest := rest) rfl (by rw [hb]; exact hdg) t st, q⟩
theorem vx_aaloadN (hexec : p.tables.exec = Jvm.exec) (hb : c.code = cc) {i : Int32} (hdg : decode cc pc = .ok (.aaload, 1)) (k : vx_NoteN p l e R s m args below meth c H locs cells slots Q (F0 m pc ls rest)) : W p l e R s m args below meth c H locs cells slots Q (F0 m pc ls (.int i :: .null :: rest)) := by
  intro T hT X
  obtain ⟨t, st, q⟩ := k T hT X
  exact ⟨t, X.aaloadNull hexec (g := F0 m pc ls (.int i :: .null :: rest)) rfl (rest := rest) rfl (by rw [hb]; exact hdg) t st, q⟩
theorem vx_baloadN (hexec : p.tables.exec = Jvm.exec) (hb : c.code = cc) {i : Int32} (hdg : decode cc pc = .ok (.baload, 1)) (k : vx_NoteN p l e R s m args below meth c H locs cells slots Q (F0 m pc ls rest)) : W p l e R s m args below meth c H locs cells slots Q (F0 m pc ls (.int i :: .null :: rest)) := by
  intro T hT X
  obtain ⟨t, st, q⟩ := k T hT X
  exact ⟨t, X.baloadNull hexec (g := F0 m pc ls (.int i :: .null :: rest)) rfl (rest := rest) rfl (by rw [hb]; exact hdg) t st, q⟩
theorem vx_caloadN (hexec : p.tables.exec = Jvm.exec) (hb : c.code = cc) {i : Int32} (hdg : decode cc pc = .ok (.caload, 1)) (k : vx_NoteN p l e R s m args below meth c H locs cells slots Q (F0 m pc ls rest)) : W p l e R s m args below meth c H locs cells slots Q (F0 m pc ls (.int i :: .null :: rest)) := by
  intro T hT X
  obtain ⟨t, st, q⟩ := k T hT X
  exact ⟨t, X.caloadNull hexec (g := F0 m pc ls (.int i :: .null :: rest)) rfl (rest := rest) rfl (by rw [hb]; exact hdg) t st, q⟩
theorem vx_saloadN (hexec : p.tables.exec = Jvm.exec) (hb : c.code = cc) {i : Int32} (hdg : decode cc pc = .ok (.saload, 1)) (k : vx_NoteN p l e R s m args below meth c H locs cells slots Q (F0 m pc ls rest)) : W p l e R s m args below meth c H locs cells slots Q (F0 m pc ls (.int i :: .null :: rest)) := by
  intro T hT X
  obtain ⟨t, st, q⟩ := k T hT X
  exact ⟨t, X.saloadNull hexec (g := F0 m pc ls (.int i :: .null :: rest)) rfl (rest := rest) rfl (by rw [hb]; exact hdg) t st, q⟩
theorem vx_iastoreN (hexec : p.tables.exec = Jvm.exec) (hb : c.code = cc) {x : Int32} {i : Int32} (hdg : decode cc pc = .ok (.iastore, 1)) (k : vx_NoteN p l e R s m args below meth c H locs cells slots Q (F0 m pc ls rest)) : W p l e R s m args below meth c H locs cells slots Q (F0 m pc ls (.int x :: .int i :: .null :: rest)) := by
  intro T hT X
  obtain ⟨t, st, q⟩ := k T hT X
  exact ⟨t, X.iastoreNull hexec (g := F0 m pc ls (.int x :: .int i :: .null :: rest)) rfl (rest := rest) rfl (by rw [hb]; exact hdg) t st, q⟩
theorem vx_lastoreN (hexec : p.tables.exec = Jvm.exec) (hb : c.code = cc) {x : Int64} {i : Int32} (hdg : decode cc pc = .ok (.lastore, 1)) (k : vx_NoteN p l e R s m args below meth c H locs cells slots Q (F0 m pc ls rest)) : W p l e R s m args below meth c H locs cells slots Q (F0 m pc ls (.long x :: .int i :: .null :: rest)) := by
  intro T hT X
  obtain ⟨t, st, q⟩ := k T hT X
  exact ⟨t, X.lastoreNull hexec (g := F0 m pc ls (.long x :: .int i :: .null :: rest)) rfl (rest := rest) rfl (by rw [hb]; exact hdg) t st, q⟩
theorem vx_fastoreN (hexec : p.tables.exec = Jvm.exec) (hb : c.code = cc) {x : UInt32} {i : Int32} (hdg : decode cc pc = .ok (.fastore, 1)) (k : vx_NoteN p l e R s m args below meth c H locs cells slots Q (F0 m pc ls rest)) : W p l e R s m args below meth c H locs cells slots Q (F0 m pc ls (.float x :: .int i :: .null :: rest)) := by
  intro T hT X
  obtain ⟨t, st, q⟩ := k T hT X
  exact ⟨t, X.fastoreNull hexec (g := F0 m pc ls (.float x :: .int i :: .null :: rest)) rfl (rest := rest) rfl (by rw [hb]; exact hdg) t st, q⟩
theorem vx_dastoreN (hexec : p.tables.exec = Jvm.exec) (hb : c.code = cc) {x : UInt64} {i : Int32} (hdg : decode cc pc = .ok (.dastore, 1)) (k : vx_NoteN p l e R s m args below meth c H locs cells slots Q (F0 m pc ls rest)) : W p l e R s m args below meth c H locs cells slots Q (F0 m pc ls (.double x :: .int i :: .null :: rest)) := by
  intro T hT X
  obtain ⟨t, st, q⟩ := k T hT X
  exact ⟨t, X.dastoreNull hexec (g := F0 m pc ls (.double x :: .int i :: .null :: rest)) rfl (rest := rest) rfl (by rw [hb]; exact hdg) t st, q⟩
theorem vx_bastoreN (hexec : p.tables.exec = Jvm.exec) (hb : c.code = cc) {x : Int32} {i : Int32} (hdg : decode cc pc = .ok (.bastore, 1)) (k : vx_NoteN p l e R s m args below meth c H locs cells slots Q (F0 m pc ls rest)) : W p l e R s m args below meth c H locs cells slots Q (F0 m pc ls (.int x :: .int i :: .null :: rest)) := by
  intro T hT X
  obtain ⟨t, st, q⟩ := k T hT X
  exact ⟨t, X.bastoreNull hexec (g := F0 m pc ls (.int x :: .int i :: .null :: rest)) rfl (rest := rest) rfl (by rw [hb]; exact hdg) t st, q⟩
theorem vx_castoreN (hexec : p.tables.exec = Jvm.exec) (hb : c.code = cc) {x : Int32} {i : Int32} (hdg : decode cc pc = .ok (.castore, 1)) (k : vx_NoteN p l e R s m args below meth c H locs cells slots Q (F0 m pc ls rest)) : W p l e R s m args below meth c H locs cells slots Q (F0 m pc ls (.int x :: .int i :: .null :: rest)) := by
  intro T hT X
  obtain ⟨t, st, q⟩ := k T hT X
  exact ⟨t, X.castoreNull hexec (g := F0 m pc ls (.int x :: .int i :: .null :: rest)) rfl (rest := rest) rfl (by rw [hb]; exact hdg) t st, q⟩
theorem vx_sastoreN (hexec : p.tables.exec = Jvm.exec) (hb : c.code = cc) {x : Int32} {i : Int32} (hdg : decode cc pc = .ok (.sastore, 1)) (k : vx_NoteN p l e R s m args below meth c H locs cells slots Q (F0 m pc ls rest)) : W p l e R s m args below meth c H locs cells slots Q (F0 m pc ls (.int x :: .int i :: .null :: rest)) := by
  intro T hT X
  obtain ⟨t, st, q⟩ := k T hT X
  exact ⟨t, X.sastoreNull hexec (g := F0 m pc ls (.int x :: .int i :: .null :: rest)) rfl (rest := rest) rfl (by rw [hb]; exact hdg) t st, q⟩
theorem vx_invokeN {own C : String} {index maxL : Nat} {y : MethodName} {bytes : ByteArray} {ret : Option FieldType} (hexec : p.tables.exec = Jvm.exec) (hb : c.code = cc) (hown : s.vm.findClass own = some m.cls) (hlink : (Cond.methodLink own index y).before args s = true) (hinst : (Cond.instanceMethod y).before args s = true) (hcode : (Cond.code y bytes maxL ret).before args s = true) (hsel : (Cond.selects C y y).before args s = true)
    (hx : y.cls ≠ "java/lang/invoke/MethodHandle" ∧ y.cls ≠ "java/lang/invoke/VarHandle") {As : List Value} (hlen : (parseMethodDescriptor y.desc).map (fun d => d.parameters.length) = some As.length) (hdg : decode cc pc = .ok (.invokevirtual index, 3))
    (k : vx_NoteN p l e R s m args below meth c H locs cells slots Q (F0 m pc ls rest)) {st0 : List Value} (hst : st0 = As.reverse ++ .null :: rest) : W p l e R s m args below meth c H locs cells slots Q (F0 m pc ls st0) := by
  intro T hT X
  obtain ⟨r0, r, hn, hrm, hstR, hsigR⟩ := va_Decl.of hinst hcode
  obtain ⟨c2, r2, m2, q1, q2, q3, q4, kP, hkP, hkPi⟩ := Cond.selects_spec hsel
  cases hn.symm.trans q3
  have hl9 : As.length = r.sig.parameters.length := by
    rw [hsigR] at hlen
    exact (Option.some.inj hlen).symm
  obtain ⟨vm', X1, st1⟩ := X.invokevirtualNull hexec hown hlink hn hrm hstR hkP hkPi hx (g := F0 m pc ls st0) rfl (argsL := As) (rest := rest) hl9 hst (by rw [hb]; exact hdg)
  obtain ⟨t, st, q⟩ := k (T.setVm vm') hT X1
  exact ⟨t, st1 t st, q⟩
theorem vx_newarrayZ {atype : ArrayType} (hexec : p.tables.exec = Jvm.exec) (hb : c.code = cc) {n : Int32} (h0 : n < 0) (hdg : decode cc pc = .ok (.newarray atype, 2)) (k : ∀ tx : String, tx = toString n → vx_Note p l e R s m args below meth c H locs cells slots Q (F0 m pc ls rest) "java/lang/NegativeArraySizeException" tx) : W p l e R s m args below meth c H locs cells slots Q (F0 m pc ls (.int n :: rest)) := by
  intro T hT X
  obtain ⟨t, st, q⟩ := k _ rfl T hT X
  exact ⟨t, X.newarrayNegative hexec (g := F0 m pc ls (.int n :: rest)) rfl h0 (rest := rest) rfl (by rw [hb]; exact hdg) t st, q⟩
end
end VXM
/-! ===== END ===== -/
end
section
def RX0 : String := "PermutationPuzzle$CommutatorSearch"
def TX0 : u_T := fun k => match k with
  | 0 => ("PermutationPuzzle$CommutatorSearch", "letters", "[I", true)
  | 1 => ("PermutationPuzzle$CommutatorSearch", "effects", "[I", true)
  | 2 => ("PermutationPuzzle$CommutatorSearch", "letterCount", "I", false)
  | 3 => ("PermutationPuzzle$CommutatorSearch", "foundU", "I", false)
  | _ => ("PermutationPuzzle$CommutatorSearch", "foundV", "I", false)
def tyX0 : Nat → FieldType := fun k => match k with
  | 0 => .array .int
  | 1 => .array .int
  | 2 => .int
  | 3 => .int
  | _ => .int
theorem nmX0 : ∀ a, a < 5 → ∀ b, b < 5 → a ≠ b → (TX0 a).2.1 ≠ (TX0 b).2.1 := by decide +kernel
theorem tyX0_ok : ∀ k, k < 5 → parseFieldDescriptor (TX0 k).2.2.1 = some (tyX0 k) := by decide +kernel
abbrev cX0_init : ByteArray := prog_2_method_1_code
def yX0_init : MethodName := ⟨RX0, "<init>", "()V"⟩
abbrev cX0_find : ByteArray := prog_2_method_2_code
def yX0_find : MethodName := ⟨RX0, "find", "(LPermutationPuzzle$Situation;ILPermutationPuzzle$Word;)Z"⟩
abbrev cX0_listWords : ByteArray := prog_2_method_3_code
def yX0_listWords : MethodName := ⟨RX0, "listWords", "(LPermutationPuzzle$Situation;)V"⟩
abbrev cX0_findAmong : ByteArray := prog_2_method_4_code
def yX0_findAmong : MethodName := ⟨RX0, "findAmong", "(III)Z"⟩
abbrev cX0_startOf : ByteArray := prog_2_method_5_code
def yX0_startOf : MethodName := ⟨RX0, "startOf", "(I)I"⟩
abbrev cX0_movedBy : ByteArray := prog_2_method_6_code
def yX0_movedBy : MethodName := ⟨RX0, "movedBy", "(II)I"⟩
abbrev cX0_writeWord : ByteArray := prog_2_method_7_code
def yX0_writeWord : MethodName := ⟨RX0, "writeWord", "(ILPermutationPuzzle$Word;)V"⟩
def RX1 : String := "PermutationPuzzle$CycleReader"
def TX1 : u_T := fun k => match k with
  | 0 => ("PermutationPuzzle$CycleReader", "effect", "I", false)
  | 1 => ("PermutationPuzzle$CycleReader", "used", "I", false)
  | 2 => ("PermutationPuzzle$CycleReader", "count", "I", false)
  | 3 => ("PermutationPuzzle$CycleReader", "first", "I", false)
  | 4 => ("PermutationPuzzle$CycleReader", "last", "I", false)
  | _ => ("PermutationPuzzle$CycleReader", "open", "Z", false)
def tyX1 : Nat → FieldType := fun k => match k with
  | 0 => .int
  | 1 => .int
  | 2 => .int
  | 3 => .int
  | 4 => .int
  | _ => .boolean
theorem nmX1 : ∀ a, a < 6 → ∀ b, b < 6 → a ≠ b → (TX1 a).2.1 ≠ (TX1 b).2.1 := by decide +kernel
theorem tyX1_ok : ∀ k, k < 6 → parseFieldDescriptor (TX1 k).2.2.1 = some (tyX1 k) := by decide +kernel
abbrev cX1_init : ByteArray := prog_3_method_1_code
def yX1_init : MethodName := ⟨RX1, "<init>", "()V"⟩
abbrev cX1_errorIn : ByteArray := prog_3_method_2_code
def yX1_errorIn : MethodName := ⟨RX1, "errorIn", "(LPermutationPuzzle$Text;I)I"⟩
abbrev cX1_effect : ByteArray := prog_3_method_3_code
def yX1_effect : MethodName := ⟨RX1, "effect", "()I"⟩
abbrev cX1_accepts : ByteArray := prog_3_method_4_code
def yX1_accepts : MethodName := ⟨RX1, "accepts", "(CI)Z"⟩
abbrev cX1_acceptsPosition : ByteArray := prog_3_method_5_code
def yX1_acceptsPosition : MethodName := ⟨RX1, "acceptsPosition", "(II)Z"⟩
def RX2 : String := "PermutationPuzzle$DepthTable"
def TX2 : u_T := fun k => match k with
  | 0 => ("PermutationPuzzle$DepthTable", "levels", "[I", true)
  | 1 => ("PermutationPuzzle$DepthTable", "arrangements", "[I", true)
  | 2 => ("PermutationPuzzle$DepthTable", "levelStarts", "[I", true)
  | 3 => ("PermutationPuzzle$DepthTable", "turns", "[I", true)
  | 4 => ("PermutationPuzzle$DepthTable", "turnCount", "I", false)
  | 5 => ("PermutationPuzzle$DepthTable", "size", "I", false)
  | _ => ("PermutationPuzzle$DepthTable", "lastLevel", "I", false)
def tyX2 : Nat → FieldType := fun k => match k with
  | 0 => .array .int
  | 1 => .array .int
  | 2 => .array .int
  | 3 => .array .int
  | 4 => .int
  | 5 => .int
  | _ => .int
theorem nmX2 : ∀ a, a < 7 → ∀ b, b < 7 → a ≠ b → (TX2 a).2.1 ≠ (TX2 b).2.1 := by decide +kernel
theorem tyX2_ok : ∀ k, k < 7 → parseFieldDescriptor (TX2 k).2.2.1 = some (tyX2 k) := by decide +kernel
abbrev cX2_init : ByteArray := prog_4_method_1_code
def yX2_init : MethodName := ⟨RX2, "<init>", "()V"⟩
abbrev cX2_build : ByteArray := prog_4_method_2_code
def yX2_build : MethodName := ⟨RX2, "build", "(LPermutationPuzzle$Situation;I)V"⟩
abbrev cX2_levelOf : ByteArray := prog_4_method_3_code
def yX2_levelOf : MethodName := ⟨RX2, "levelOf", "(I)I"⟩
abbrev cX2_size : ByteArray := prog_4_method_4_code
def yX2_size : MethodName := ⟨RX2, "size", "()I"⟩
abbrev cX2_lastLevel : ByteArray := prog_4_method_5_code
def yX2_lastLevel : MethodName := ⟨RX2, "lastLevel", "()I"⟩
abbrev cX2_sizeOfLevel : ByteArray := prog_4_method_6_code
def yX2_sizeOfLevel : MethodName := ⟨RX2, "sizeOfLevel", "(I)I"⟩
abbrev cX2_sumOfDepths : ByteArray := prog_4_method_7_code
def yX2_sumOfDepths : MethodName := ⟨RX2, "sumOfDepths", "()I"⟩
abbrev cX2_listTurns : ByteArray := prog_4_method_8_code
def yX2_listTurns : MethodName := ⟨RX2, "listTurns", "(LPermutationPuzzle$Situation;)V"⟩
abbrev cX2_isListed : ByteArray := prog_4_method_9_code
def yX2_isListed : MethodName := ⟨RX2, "isListed", "(I)Z"⟩
abbrev cX2_clear : ByteArray := prog_4_method_10_code
def yX2_clear : MethodName := ⟨RX2, "clear", "(I)I"⟩
abbrev cX2_reach : ByteArray := prog_4_method_11_code
def yX2_reach : MethodName := ⟨RX2, "reach", "(II)V"⟩
def RX3 : String := "PermutationPuzzle$Permutation"
def TX3 : u_T := fun k => match k with
  | _ => ("", "", "", false)
def tyX3 : Nat → FieldType := fun k => match k with
  | _ => .int
theorem nmX3 : ∀ a, a < 0 → ∀ b, b < 0 → a ≠ b → (TX3 a).2.1 ≠ (TX3 b).2.1 := by decide +kernel
theorem tyX3_ok : ∀ k, k < 0 → parseFieldDescriptor (TX3 k).2.2.1 = some (tyX3 k) := by decide +kernel
abbrev cX3_imageOf : ByteArray := prog_5_method_2_code
def yX3_imageOf : MethodName := ⟨RX3, "imageOf", "(II)I"⟩
abbrev cX3_withImage : ByteArray := prog_5_method_3_code
def yX3_withImage : MethodName := ⟨RX3, "withImage", "(III)I"⟩
abbrev cX3_then : ByteArray := prog_5_method_4_code
def yX3_then : MethodName := ⟨RX3, "then", "(II)I"⟩
abbrev cX3_inverseOf : ByteArray := prog_5_method_5_code
def yX3_inverseOf : MethodName := ⟨RX3, "inverseOf", "(I)I"⟩
abbrev cX3_differences : ByteArray := prog_5_method_6_code
def yX3_differences : MethodName := ⟨RX3, "differences", "(II)I"⟩
abbrev cX3_cycleOf : ByteArray := prog_5_method_7_code
def yX3_cycleOf : MethodName := ⟨RX3, "cycleOf", "(II)I"⟩
abbrev cX3_orderOf : ByteArray := prog_5_method_8_code
def yX3_orderOf : MethodName := ⟨RX3, "orderOf", "(I)I"⟩
abbrev cX3_hasOddParity : ByteArray := prog_5_method_9_code
def yX3_hasOddParity : MethodName := ⟨RX3, "hasOddParity", "(I)Z"⟩
abbrev cX3_rankOf : ByteArray := prog_5_method_10_code
def yX3_rankOf : MethodName := ⟨RX3, "rankOf", "(I)I"⟩
def RX4 : String := "PermutationPuzzle$Situation"
def TX4 : u_T := fun k => match k with
  | 0 => ("PermutationPuzzle$Situation", "effects", "[I", true)
  | 1 => ("PermutationPuzzle$Situation", "words", "[LPermutationPuzzle$Word;", true)
  | 2 => ("PermutationPuzzle$Situation", "definedMoves", "I", false)
  | _ => ("PermutationPuzzle$Situation", "places", "I", false)
def tyX4 : Nat → FieldType := fun k => match k with
  | 0 => .array .int
  | 1 => .array (.object "PermutationPuzzle$Word")
  | 2 => .int
  | _ => .int
theorem nmX4 : ∀ a, a < 4 → ∀ b, b < 4 → a ≠ b → (TX4 a).2.1 ≠ (TX4 b).2.1 := by decide +kernel
theorem tyX4_ok : ∀ k, k < 4 → parseFieldDescriptor (TX4 k).2.2.1 = some (tyX4 k) := by decide +kernel
abbrev cX4_init : ByteArray := prog_6_method_1_code
def yX4_init : MethodName := ⟨RX4, "<init>", "()V"⟩
abbrev cX4_clear : ByteArray := prog_6_method_2_code
def yX4_clear : MethodName := ⟨RX4, "clear", "()V"⟩
abbrev cX4_copyFrom : ByteArray := prog_6_method_3_code
def yX4_copyFrom : MethodName := ⟨RX4, "copyFrom", "(LPermutationPuzzle$Situation;)V"⟩
abbrev cX4_places : ByteArray := prog_6_method_4_code
def yX4_places : MethodName := ⟨RX4, "places", "()I"⟩
abbrev cX4_arrange : ByteArray := prog_6_method_5_code
def yX4_arrange : MethodName := ⟨RX4, "arrange", "(I)V"⟩
abbrev cX4_word : ByteArray := prog_6_method_6_code
def yX4_word : MethodName := ⟨RX4, "word", "(I)LPermutationPuzzle$Word;"⟩
abbrev cX4_isDefined : ByteArray := prog_6_method_7_code
def yX4_isDefined : MethodName := ⟨RX4, "isDefined", "(I)Z"⟩
abbrev cX4_defineMove : ByteArray := prog_6_method_8_code
def yX4_defineMove : MethodName := ⟨RX4, "defineMove", "(II)V"⟩
abbrev cX4_definesNamesIn : ByteArray := prog_6_method_9_code
def yX4_definesNamesIn : MethodName := ⟨RX4, "definesNamesIn", "(LPermutationPuzzle$Text;)Z"⟩
abbrev cX4_effectOfLetter : ByteArray := prog_6_method_10_code
def yX4_effectOfLetter : MethodName := ⟨RX4, "effectOfLetter", "(I)I"⟩
abbrev cX4_effectOfWord : ByteArray := prog_6_method_11_code
def yX4_effectOfWord : MethodName := ⟨RX4, "effectOfWord", "(I)I"⟩
abbrev cX4_spread : ByteArray := prog_6_method_12_code
def yX4_spread : MethodName := ⟨RX4, "spread", "(I)I"⟩
def RX5 : String := "PermutationPuzzle$Text"
def TX5 : u_T := fun k => match k with
  | 0 => ("PermutationPuzzle$Text", "characters", "[C", true)
  | _ => ("PermutationPuzzle$Text", "length", "I", false)
def tyX5 : Nat → FieldType := fun k => match k with
  | 0 => .array .char
  | _ => .int
theorem nmX5 : ∀ a, a < 2 → ∀ b, b < 2 → a ≠ b → (TX5 a).2.1 ≠ (TX5 b).2.1 := by decide +kernel
theorem tyX5_ok : ∀ k, k < 2 → parseFieldDescriptor (TX5 k).2.2.1 = some (tyX5 k) := by decide +kernel
abbrev cX5_init : ByteArray := prog_7_method_1_code
def yX5_init : MethodName := ⟨RX5, "<init>", "()V"⟩
abbrev cX5_length : ByteArray := prog_7_method_2_code
def yX5_length : MethodName := ⟨RX5, "length", "()I"⟩
abbrev cX5_at : ByteArray := prog_7_method_3_code
def yX5_at : MethodName := ⟨RX5, "at", "(I)C"⟩
abbrev cX5_add : ByteArray := prog_7_method_4_code
def yX5_add : MethodName := ⟨RX5, "add", "(C)Z"⟩
abbrev cX5_clear : ByteArray := prog_7_method_5_code
def yX5_clear : MethodName := ⟨RX5, "clear", "()V"⟩
abbrev cX5_isName : ByteArray := prog_7_method_6_code
def yX5_isName : MethodName := ⟨RX5, "isName", "(C)Z"⟩
def RX6 : String := "PermutationPuzzle$Word"
def TX6 : u_T := fun k => match k with
  | 0 => ("PermutationPuzzle$Word", "letters", "[I", true)
  | _ => ("PermutationPuzzle$Word", "length", "I", false)
def tyX6 : Nat → FieldType := fun k => match k with
  | 0 => .array .int
  | _ => .int
theorem nmX6 : ∀ a, a < 2 → ∀ b, b < 2 → a ≠ b → (TX6 a).2.1 ≠ (TX6 b).2.1 := by decide +kernel
theorem tyX6_ok : ∀ k, k < 2 → parseFieldDescriptor (TX6 k).2.2.1 = some (tyX6 k) := by decide +kernel
abbrev cX6_init : ByteArray := prog_8_method_1_code
def yX6_init : MethodName := ⟨RX6, "<init>", "()V"⟩
abbrev cX6_length : ByteArray := prog_8_method_2_code
def yX6_length : MethodName := ⟨RX6, "length", "()I"⟩
abbrev cX6_at : ByteArray := prog_8_method_3_code
def yX6_at : MethodName := ⟨RX6, "at", "(I)I"⟩
abbrev cX6_clear : ByteArray := prog_8_method_4_code
def yX6_clear : MethodName := ⟨RX6, "clear", "()V"⟩
abbrev cX6_copyFrom : ByteArray := prog_8_method_5_code
def yX6_copyFrom : MethodName := ⟨RX6, "copyFrom", "(LPermutationPuzzle$Word;)V"⟩
abbrev cX6_add : ByteArray := prog_8_method_6_code
def yX6_add : MethodName := ⟨RX6, "add", "(I)Z"⟩
abbrev cX6_addAll : ByteArray := prog_8_method_7_code
def yX6_addAll : MethodName := ⟨RX6, "addAll", "(LPermutationPuzzle$Word;)Z"⟩
abbrev cX6_addInverseOf : ByteArray := prog_8_method_8_code
def yX6_addInverseOf : MethodName := ⟨RX6, "addInverseOf", "(LPermutationPuzzle$Word;)Z"⟩
abbrev cX6_repeatFrom : ByteArray := prog_8_method_9_code
def yX6_repeatFrom : MethodName := ⟨RX6, "repeatFrom", "(II)Z"⟩
abbrev cX6_closeCommutator : ByteArray := prog_8_method_10_code
def yX6_closeCommutator : MethodName := ⟨RX6, "closeCommutator", "(II)Z"⟩
abbrev cX6_invertFrom : ByteArray := prog_8_method_11_code
def yX6_invertFrom : MethodName := ⟨RX6, "invertFrom", "(I)V"⟩
abbrev cX6_addPart : ByteArray := prog_8_method_12_code
def yX6_addPart : MethodName := ⟨RX6, "addPart", "(LPermutationPuzzle$Word;II)Z"⟩
abbrev cX6_addInverseOfPart : ByteArray := prog_8_method_13_code
def yX6_addInverseOfPart : MethodName := ⟨RX6, "addInverseOfPart", "(LPermutationPuzzle$Word;II)Z"⟩
def RX7 : String := "PermutationPuzzle$WordChecker"
def TX7 : u_T := fun k => match k with
  | 0 => ("PermutationPuzzle$WordChecker", "opened", "[C", true)
  | 1 => ("PermutationPuzzle$WordChecker", "open", "I", false)
  | _ => ("PermutationPuzzle$WordChecker", "suffix", "I", false)
def tyX7 : Nat → FieldType := fun k => match k with
  | 0 => .array .char
  | 1 => .int
  | _ => .int
theorem nmX7 : ∀ a, a < 3 → ∀ b, b < 3 → a ≠ b → (TX7 a).2.1 ≠ (TX7 b).2.1 := by decide +kernel
theorem tyX7_ok : ∀ k, k < 3 → parseFieldDescriptor (TX7 k).2.2.1 = some (tyX7 k) := by decide +kernel
abbrev cX7_init : ByteArray := prog_9_method_1_code
def yX7_init : MethodName := ⟨RX7, "<init>", "()V"⟩
abbrev cX7_errorIn : ByteArray := prog_9_method_2_code
def yX7_errorIn : MethodName := ⟨RX7, "errorIn", "(LPermutationPuzzle$Text;)I"⟩
abbrev cX7_accepts : ByteArray := prog_9_method_3_code
def yX7_accepts : MethodName := ⟨RX7, "accepts", "(C)Z"⟩
abbrev cX7_begins : ByteArray := prog_9_method_4_code
def yX7_begins : MethodName := ⟨RX7, "begins", "(C)Z"⟩
abbrev cX7_ends : ByteArray := prog_9_method_5_code
def yX7_ends : MethodName := ⟨RX7, "ends", "(C)Z"⟩
def RX8 : String := "PermutationPuzzle$WordWriter"
def TX8 : u_T := fun k => match k with
  | 0 => ("PermutationPuzzle$WordWriter", "starts", "[I", true)
  | 1 => ("PermutationPuzzle$WordWriter", "middles", "[I", true)
  | 2 => ("PermutationPuzzle$WordWriter", "open", "I", false)
  | _ => ("PermutationPuzzle$WordWriter", "lastElement", "I", false)
def tyX8 : Nat → FieldType := fun k => match k with
  | 0 => .array .int
  | 1 => .array .int
  | 2 => .int
  | _ => .int
theorem nmX8 : ∀ a, a < 4 → ∀ b, b < 4 → a ≠ b → (TX8 a).2.1 ≠ (TX8 b).2.1 := by decide +kernel
theorem tyX8_ok : ∀ k, k < 4 → parseFieldDescriptor (TX8 k).2.2.1 = some (tyX8 k) := by decide +kernel
abbrev cX8_init : ByteArray := prog_10_method_1_code
def yX8_init : MethodName := ⟨RX8, "<init>", "()V"⟩
abbrev cX8_write : ByteArray := prog_10_method_2_code
def yX8_write : MethodName := ⟨RX8, "write", "(LPermutationPuzzle$Text;LPermutationPuzzle$Word;)Z"⟩
abbrev cX8_writeNext : ByteArray := prog_10_method_3_code
def yX8_writeNext : MethodName := ⟨RX8, "writeNext", "(CLPermutationPuzzle$Word;)Z"⟩
abbrev cX8_begin : ByteArray := prog_10_method_4_code
def yX8_begin : MethodName := ⟨RX8, "begin", "(I)Z"⟩
abbrev cX8_divide : ByteArray := prog_10_method_5_code
def yX8_divide : MethodName := ⟨RX8, "divide", "(I)Z"⟩
abbrev cX8_end : ByteArray := prog_10_method_6_code
def yX8_end : MethodName := ⟨RX8, "end", "(ZLPermutationPuzzle$Word;)Z"⟩
def RX9 : String := "PermutationPuzzle"
def TX9 : u_T := fun k => match k with
  | 0 => ("PermutationPuzzle", "text", "LPermutationPuzzle$Text;", true)
  | 1 => ("PermutationPuzzle", "cycleReader", "LPermutationPuzzle$CycleReader;", true)
  | 2 => ("PermutationPuzzle", "wordChecker", "LPermutationPuzzle$WordChecker;", true)
  | 3 => ("PermutationPuzzle", "wordWriter", "LPermutationPuzzle$WordWriter;", true)
  | 4 => ("PermutationPuzzle", "search", "LPermutationPuzzle$CommutatorSearch;", true)
  | 5 => ("PermutationPuzzle", "table", "LPermutationPuzzle$DepthTable;", true)
  | 6 => ("PermutationPuzzle", "present", "LPermutationPuzzle$Situation;", true)
  | 7 => ("PermutationPuzzle", "saved", "LPermutationPuzzle$Situation;", true)
  | 8 => ("PermutationPuzzle", "draft", "LPermutationPuzzle$Word;", true)
  | 9 => ("PermutationPuzzle", "floats", "[F", true)
  | 10 => ("PermutationPuzzle", "doubles", "[D", true)
  | 11 => ("PermutationPuzzle", "positions", "I", false)
  | 12 => ("PermutationPuzzle", "lastError", "I", false)
  | 13 => ("PermutationPuzzle", "hasSnapshot", "Z", false)
  | _ => ("PermutationPuzzle", "tableIsCurrent", "Z", false)
def tyX9 : Nat → FieldType := fun k => match k with
  | 0 => .object "PermutationPuzzle$Text"
  | 1 => .object "PermutationPuzzle$CycleReader"
  | 2 => .object "PermutationPuzzle$WordChecker"
  | 3 => .object "PermutationPuzzle$WordWriter"
  | 4 => .object "PermutationPuzzle$CommutatorSearch"
  | 5 => .object "PermutationPuzzle$DepthTable"
  | 6 => .object "PermutationPuzzle$Situation"
  | 7 => .object "PermutationPuzzle$Situation"
  | 8 => .object "PermutationPuzzle$Word"
  | 9 => .array .float
  | 10 => .array .double
  | 11 => .int
  | 12 => .int
  | 13 => .boolean
  | _ => .boolean
theorem nmX9 : ∀ a, a < 15 → ∀ b, b < 15 → a ≠ b → (TX9 a).2.1 ≠ (TX9 b).2.1 := by decide +kernel
theorem tyX9_ok : ∀ k, k < 15 → parseFieldDescriptor (TX9 k).2.2.1 = some (tyX9 k) := by decide +kernel
abbrev cX9_init : ByteArray := prog_1_method_1_code
def yX9_init : MethodName := ⟨RX9, "<init>", "()V"⟩
abbrev cX9_reset : ByteArray := prog_1_method_2_code
def yX9_reset : MethodName := ⟨RX9, "reset", "(I)I"⟩
abbrev cX9_positions : ByteArray := prog_1_method_3_code
def yX9_positions : MethodName := ⟨RX9, "positions", "()I"⟩
abbrev cX9_append : ByteArray := prog_1_method_4_code
def yX9_append : MethodName := ⟨RX9, "append", "(C)I"⟩
abbrev cX9_define : ByteArray := prog_1_method_5_code
def yX9_define : MethodName := ⟨RX9, "define", "(I)I"⟩
abbrev cX9_store : ByteArray := prog_1_method_6_code
def yX9_store : MethodName := ⟨RX9, "store", "(I)I"⟩
abbrev cX9_errorPosition : ByteArray := prog_1_method_7_code
def yX9_errorPosition : MethodName := ⟨RX9, "errorPosition", "()I"⟩
abbrev cX9_target : ByteArray := prog_1_method_8_code
def yX9_target : MethodName := ⟨RX9, "target", "(II)I"⟩
abbrev cX9_wordLength : ByteArray := prog_1_method_9_code
def yX9_wordLength : MethodName := ⟨RX9, "wordLength", "(I)I"⟩
abbrev cX9_letter : ByteArray := prog_1_method_10_code
def yX9_letter : MethodName := ⟨RX9, "letter", "(II)I"⟩
abbrev cX9_invert : ByteArray := prog_1_method_11_code
def yX9_invert : MethodName := ⟨RX9, "invert", "(II)I"⟩
abbrev cX9_conjugate : ByteArray := prog_1_method_12_code
def yX9_conjugate : MethodName := ⟨RX9, "conjugate", "(III)I"⟩
abbrev cX9_commutator : ByteArray := prog_1_method_13_code
def yX9_commutator : MethodName := ⟨RX9, "commutator", "(III)I"⟩
abbrev cX9_order : ByteArray := prog_1_method_14_code
def yX9_order : MethodName := ⟨RX9, "order", "(I)I"⟩
abbrev cX9_isOdd : ByteArray := prog_1_method_15_code
def yX9_isOdd : MethodName := ⟨RX9, "isOdd", "(I)Z"⟩
abbrev cX9_cycleLength : ByteArray := prog_1_method_16_code
def yX9_cycleLength : MethodName := ⟨RX9, "cycleLength", "(II)I"⟩
abbrev cX9_isSame : ByteArray := prog_1_method_17_code
def yX9_isSame : MethodName := ⟨RX9, "isSame", "(II)Z"⟩
abbrev cX9_perform : ByteArray := prog_1_method_18_code
def yX9_perform : MethodName := ⟨RX9, "perform", "(II)I"⟩
abbrev cX9_exchange : ByteArray := prog_1_method_19_code
def yX9_exchange : MethodName := ⟨RX9, "exchange", "(II)I"⟩
abbrev cX9_token : ByteArray := prog_1_method_20_code
def yX9_token : MethodName := ⟨RX9, "token", "(I)I"⟩
abbrev cX9_depth : ByteArray := prog_1_method_21_code
def yX9_depth : MethodName := ⟨RX9, "depth", "()I"⟩
abbrev cX9_solve : ByteArray := prog_1_method_22_code
def yX9_solve : MethodName := ⟨RX9, "solve", "(I)I"⟩
abbrev cX9_countAt : ByteArray := prog_1_method_23_code
def yX9_countAt : MethodName := ⟨RX9, "countAt", "(I)I"⟩
abbrev cX9_reachable : ByteArray := prog_1_method_24_code
def yX9_reachable : MethodName := ⟨RX9, "reachable", "()I"⟩
abbrev cX9_greatestDepth : ByteArray := prog_1_method_25_code
def yX9_greatestDepth : MethodName := ⟨RX9, "greatestDepth", "()I"⟩
abbrev cX9_averageDepth : ByteArray := prog_1_method_26_code
def yX9_averageDepth : MethodName := ⟨RX9, "averageDepth", "()D"⟩
abbrev cX9_orbit : ByteArray := prog_1_method_27_code
def yX9_orbit : MethodName := ⟨RX9, "orbit", "(I)I"⟩
abbrev cX9_findCommutator : ByteArray := prog_1_method_28_code
def yX9_findCommutator : MethodName := ⟨RX9, "findCommutator", "(II)I"⟩
abbrev cX9_fillShares : ByteArray := prog_1_method_29_code
def yX9_fillShares : MethodName := ⟨RX9, "fillShares", "(I)I"⟩
abbrev cX9_scale : ByteArray := prog_1_method_30_code
def yX9_scale : MethodName := ⟨RX9, "scale", "(III)I"⟩
abbrev cX9_remainder : ByteArray := prog_1_method_31_code
def yX9_remainder : MethodName := ⟨RX9, "remainder", "(III)D"⟩
abbrev cX9_snapshot : ByteArray := prog_1_method_32_code
def yX9_snapshot : MethodName := ⟨RX9, "snapshot", "()V"⟩
abbrev cX9_restore : ByteArray := prog_1_method_33_code
def yX9_restore : MethodName := ⟨RX9, "restore", "()V"⟩
abbrev cX9_checkMove : ByteArray := prog_1_method_34_code
def yX9_checkMove : MethodName := ⟨RX9, "checkMove", "(I)V"⟩
abbrev cX9_checkSlot : ByteArray := prog_1_method_35_code
def yX9_checkSlot : MethodName := ⟨RX9, "checkSlot", "(I)V"⟩
abbrev cX9_checkPosition : ByteArray := prog_1_method_36_code
def yX9_checkPosition : MethodName := ⟨RX9, "checkPosition", "(I)V"⟩
abbrev cX9_checkRow : ByteArray := prog_1_method_37_code
def yX9_checkRow : MethodName := ⟨RX9, "checkRow", "(I)V"⟩
abbrev cX9_checkElement : ByteArray := prog_1_method_38_code
def yX9_checkElement : MethodName := ⟨RX9, "checkElement", "(II)V"⟩
abbrev cX9_keepDraft : ByteArray := prog_1_method_39_code
def yX9_keepDraft : MethodName := ⟨RX9, "keepDraft", "(I)I"⟩
abbrev cX9_tokenOn : ByteArray := prog_1_method_40_code
def yX9_tokenOn : MethodName := ⟨RX9, "tokenOn", "(I)I"⟩
abbrev cX9_currentTable : ByteArray := prog_1_method_41_code
def yX9_currentTable : MethodName := ⟨RX9, "currentTable", "()LPermutationPuzzle$DepthTable;"⟩
abbrev cX9_presentDepth : ByteArray := prog_1_method_42_code
def yX9_presentDepth : MethodName := ⟨RX9, "presentDepth", "()I"⟩
abbrev cX9_firstLetterTo : ByteArray := prog_1_method_43_code
def yX9_firstLetterTo : MethodName := ⟨RX9, "firstLetterTo", "(II)I"⟩
abbrev cX9_scaleFloat : ByteArray := prog_1_method_44_code
def yX9_scaleFloat : MethodName := ⟨RX9, "scaleFloat", "(II)I"⟩
abbrev cX9_scaleDouble : ByteArray := prog_1_method_45_code
def yX9_scaleDouble : MethodName := ⟨RX9, "scaleDouble", "(II)I"⟩
abbrev cX9_remainderOf : ByteArray := prog_1_method_46_code
def yX9_remainderOf : MethodName := ⟨RX9, "remainderOf", "(DD)D"⟩
def RX10 : String := "PermutationPuzzleModel"
def TX10 : u_T := fun k => match k with
  | 0 => ("PermutationPuzzleModel", "thrown", "I", false)
  | 1 => ("PermutationPuzzleModel", "n", "I", false)
  | 2 => ("PermutationPuzzleModel", "tokens", "[I", true)
  | 3 => ("PermutationPuzzleModel", "isMove", "[Z", true)
  | 4 => ("PermutationPuzzleModel", "leads", "[I", true)
  | 5 => ("PermutationPuzzleModel", "length", "[I", true)
  | 6 => ("PermutationPuzzleModel", "words", "[I", true)
  | 7 => ("PermutationPuzzleModel", "tape", "[C", true)
  | 8 => ("PermutationPuzzleModel", "taped", "I", false)
  | 9 => ("PermutationPuzzleModel", "wrongAt", "I", false)
  | 10 => ("PermutationPuzzleModel", "singles", "[F", true)
  | 11 => ("PermutationPuzzleModel", "doubles", "[D", true)
  | 12 => ("PermutationPuzzleModel", "hasSaved", "Z", false)
  | 13 => ("PermutationPuzzleModel", "savedTokens", "[I", true)
  | 14 => ("PermutationPuzzleModel", "savedIsMove", "[Z", true)
  | 15 => ("PermutationPuzzleModel", "savedLeads", "[I", true)
  | 16 => ("PermutationPuzzleModel", "savedLength", "[I", true)
  | 17 => ("PermutationPuzzleModel", "savedWords", "[I", true)
  | 18 => ("PermutationPuzzleModel", "at", "I", false)
  | 19 => ("PermutationPuzzleModel", "to", "[I", true)
  | 20 => ("PermutationPuzzleModel", "isUsed", "[Z", true)
  | 21 => ("PermutationPuzzleModel", "made", "[I", true)
  | 22 => ("PermutationPuzzleModel", "out", "I", false)
  | 23 => ("PermutationPuzzleModel", "isTooLong", "Z", false)
  | 24 => ("PermutationPuzzleModel", "lacksMove", "Z", false)
  | 25 => ("PermutationPuzzleModel", "opened", "I", false)
  | 26 => ("PermutationPuzzleModel", "then", "[I", true)
  | 27 => ("PermutationPuzzleModel", "isTold", "Z", false)
  | 28 => ("PermutationPuzzleModel", "depths", "[I", true)
  | 29 => ("PermutationPuzzleModel", "ring", "[I", true)
  | 30 => ("PermutationPuzzleModel", "state", "[I", true)
  | 31 => ("PermutationPuzzleModel", "next", "[I", true)
  | 32 => ("PermutationPuzzleModel", "reached", "I", false)
  | 33 => ("PermutationPuzzleModel", "deepest", "I", false)
  | _ => ("PermutationPuzzleModel", "counts", "[I", true)
def tyX10 : Nat → FieldType := fun k => match k with
  | 0 => .int
  | 1 => .int
  | 2 => .array .int
  | 3 => .array .boolean
  | 4 => .array .int
  | 5 => .array .int
  | 6 => .array .int
  | 7 => .array .char
  | 8 => .int
  | 9 => .int
  | 10 => .array .float
  | 11 => .array .double
  | 12 => .boolean
  | 13 => .array .int
  | 14 => .array .boolean
  | 15 => .array .int
  | 16 => .array .int
  | 17 => .array .int
  | 18 => .int
  | 19 => .array .int
  | 20 => .array .boolean
  | 21 => .array .int
  | 22 => .int
  | 23 => .boolean
  | 24 => .boolean
  | 25 => .int
  | 26 => .array .int
  | 27 => .boolean
  | 28 => .array .int
  | 29 => .array .int
  | 30 => .array .int
  | 31 => .array .int
  | 32 => .int
  | 33 => .int
  | _ => .array .int
theorem nmX10 : ∀ a, a < 35 → ∀ b, b < 35 → a ≠ b → (TX10 a).2.1 ≠ (TX10 b).2.1 := by decide +kernel
theorem tyX10_ok : ∀ k, k < 35 → parseFieldDescriptor (TX10 k).2.2.1 = some (tyX10 k) := by decide +kernel
abbrev cX10_init : ByteArray := prog_12_method_1_code
def yX10_init : MethodName := ⟨RX10, "<init>", "()V"⟩
abbrev cX10_thrown : ByteArray := prog_12_method_2_code
def yX10_thrown : MethodName := ⟨RX10, "thrown", "()I"⟩
abbrev cX10_in : ByteArray := prog_12_method_3_code
def yX10_in : MethodName := ⟨RX10, "in", "(III)Z"⟩
abbrev cX10_fails : ByteArray := prog_12_method_4_code
def yX10_fails : MethodName := ⟨RX10, "fails", "(I)I"⟩
abbrev cX10_done : ByteArray := prog_12_method_5_code
def yX10_done : MethodName := ⟨RX10, "done", "(I)I"⟩
abbrev cX10_so : ByteArray := prog_12_method_6_code
def yX10_so : MethodName := ⟨RX10, "so", "(Z)Z"⟩
abbrev cX10_not : ByteArray := prog_12_method_7_code
def yX10_not : MethodName := ⟨RX10, "not", "(I)Z"⟩
abbrev cX10_isSlot : ByteArray := prog_12_method_8_code
def yX10_isSlot : MethodName := ⟨RX10, "isSlot", "(I)Z"⟩
abbrev cX10_isPosition : ByteArray := prog_12_method_9_code
def yX10_isPosition : MethodName := ⟨RX10, "isPosition", "(I)Z"⟩
abbrev cX10_reset : ByteArray := prog_12_method_10_code
def yX10_reset : MethodName := ⟨RX10, "reset", "(I)I"⟩
abbrev cX10_positions : ByteArray := prog_12_method_11_code
def yX10_positions : MethodName := ⟨RX10, "positions", "()I"⟩
abbrev cX10_append : ByteArray := prog_12_method_12_code
def yX10_append : MethodName := ⟨RX10, "append", "(C)I"⟩
abbrev cX10_here : ByteArray := prog_12_method_13_code
def yX10_here : MethodName := ⟨RX10, "here", "()I"⟩
abbrev cX10_readsCycle : ByteArray := prog_12_method_14_code
def yX10_readsCycle : MethodName := ⟨RX10, "readsCycle", "()Z"⟩
abbrev cX10_readsCycles : ByteArray := prog_12_method_15_code
def yX10_readsCycles : MethodName := ⟨RX10, "readsCycles", "()Z"⟩
abbrev cX10_define : ByteArray := prog_12_method_16_code
def yX10_define : MethodName := ⟨RX10, "define", "(I)I"⟩
abbrev cX10_comes : ByteArray := prog_12_method_17_code
def yX10_comes : MethodName := ⟨RX10, "comes", "(I)V"⟩
abbrev cX10_comesBack : ByteArray := prog_12_method_18_code
def yX10_comesBack : MethodName := ⟨RX10, "comesBack", "(II)V"⟩
abbrev cX10_turns : ByteArray := prog_12_method_19_code
def yX10_turns : MethodName := ⟨RX10, "turns", "(I)V"⟩
abbrev cX10_readsBehind : ByteArray := prog_12_method_20_code
def yX10_readsBehind : MethodName := ⟨RX10, "readsBehind", "(I)V"⟩
abbrev cX10_readsElement : ByteArray := prog_12_method_21_code
def yX10_readsElement : MethodName := ⟨RX10, "readsElement", "(LPermutationPuzzleModel;)Z"⟩
abbrev cX10_readsWord : ByteArray := prog_12_method_22_code
def yX10_readsWord : MethodName := ⟨RX10, "readsWord", "(LPermutationPuzzleModel;)Z"⟩
abbrev cX10_keeps : ByteArray := prog_12_method_23_code
def yX10_keeps : MethodName := ⟨RX10, "keeps", "(I)I"⟩
abbrev cX10_clears : ByteArray := prog_12_method_24_code
def yX10_clears : MethodName := ⟨RX10, "clears", "()V"⟩
abbrev cX10_store : ByteArray := prog_12_method_25_code
def yX10_store : MethodName := ⟨RX10, "store", "(I)I"⟩
abbrev cX10_errorPosition : ByteArray := prog_12_method_26_code
def yX10_errorPosition : MethodName := ⟨RX10, "errorPosition", "()I"⟩
abbrev cX10_target : ByteArray := prog_12_method_27_code
def yX10_target : MethodName := ⟨RX10, "target", "(II)I"⟩
abbrev cX10_wordLength : ByteArray := prog_12_method_28_code
def yX10_wordLength : MethodName := ⟨RX10, "wordLength", "(I)I"⟩
abbrev cX10_letter : ByteArray := prog_12_method_29_code
def yX10_letter : MethodName := ⟨RX10, "letter", "(II)I"⟩
abbrev cX10_comesWord : ByteArray := prog_12_method_30_code
def yX10_comesWord : MethodName := ⟨RX10, "comesWord", "(IZ)V"⟩
abbrev cX10_invert : ByteArray := prog_12_method_31_code
def yX10_invert : MethodName := ⟨RX10, "invert", "(II)I"⟩
abbrev cX10_conjugate : ByteArray := prog_12_method_32_code
def yX10_conjugate : MethodName := ⟨RX10, "conjugate", "(III)I"⟩
abbrev cX10_commutator : ByteArray := prog_12_method_33_code
def yX10_commutator : MethodName := ⟨RX10, "commutator", "(III)I"⟩
abbrev cX10_ledBy : ByteArray := prog_12_method_34_code
def yX10_ledBy : MethodName := ⟨RX10, "ledBy", "(II)I"⟩
abbrev cX10_cycleOf : ByteArray := prog_12_method_35_code
def yX10_cycleOf : MethodName := ⟨RX10, "cycleOf", "(II)I"⟩
abbrev cX10_order : ByteArray := prog_12_method_36_code
def yX10_order : MethodName := ⟨RX10, "order", "(I)I"⟩
abbrev cX10_isOdd : ByteArray := prog_12_method_37_code
def yX10_isOdd : MethodName := ⟨RX10, "isOdd", "(I)Z"⟩
abbrev cX10_cycleLength : ByteArray := prog_12_method_38_code
def yX10_cycleLength : MethodName := ⟨RX10, "cycleLength", "(II)I"⟩
abbrev cX10_isSame : ByteArray := prog_12_method_39_code
def yX10_isSame : MethodName := ⟨RX10, "isSame", "(II)Z"⟩
abbrev cX10_perform : ByteArray := prog_12_method_40_code
def yX10_perform : MethodName := ⟨RX10, "perform", "(II)I"⟩
abbrev cX10_exchange : ByteArray := prog_12_method_41_code
def yX10_exchange : MethodName := ⟨RX10, "exchange", "(II)I"⟩
abbrev cX10_token : ByteArray := prog_12_method_42_code
def yX10_token : MethodName := ⟨RX10, "token", "(I)I"⟩
abbrev cX10_numberOf : ByteArray := prog_12_method_43_code
def yX10_numberOf : MethodName := ⟨RX10, "numberOf", "([I)I"⟩
abbrev cX10_packed : ByteArray := prog_12_method_44_code
def yX10_packed : MethodName := ⟨RX10, "packed", "([I)I"⟩
abbrev cX10_unpacks : ByteArray := prog_12_method_45_code
def yX10_unpacks : MethodName := ⟨RX10, "unpacks", "(I)V"⟩
abbrev cX10_isLetter : ByteArray := prog_12_method_46_code
def yX10_isLetter : MethodName := ⟨RX10, "isLetter", "(I)Z"⟩
abbrev cX10_moves : ByteArray := prog_12_method_47_code
def yX10_moves : MethodName := ⟨RX10, "moves", "(I)V"⟩
abbrev cX10_tellDepths : ByteArray := prog_12_method_48_code
def yX10_tellDepths : MethodName := ⟨RX10, "tellDepths", "()V"⟩
abbrev cX10_depthNow : ByteArray := prog_12_method_49_code
def yX10_depthNow : MethodName := ⟨RX10, "depthNow", "()I"⟩
abbrev cX10_depth : ByteArray := prog_12_method_50_code
def yX10_depth : MethodName := ⟨RX10, "depth", "()I"⟩
abbrev cX10_solve : ByteArray := prog_12_method_51_code
def yX10_solve : MethodName := ⟨RX10, "solve", "(I)I"⟩
abbrev cX10_countAt : ByteArray := prog_12_method_52_code
def yX10_countAt : MethodName := ⟨RX10, "countAt", "(I)I"⟩
abbrev cX10_reachable : ByteArray := prog_12_method_53_code
def yX10_reachable : MethodName := ⟨RX10, "reachable", "()I"⟩
abbrev cX10_greatestDepth : ByteArray := prog_12_method_54_code
def yX10_greatestDepth : MethodName := ⟨RX10, "greatestDepth", "()I"⟩
abbrev cX10_averageDepth : ByteArray := prog_12_method_55_code
def yX10_averageDepth : MethodName := ⟨RX10, "averageDepth", "()D"⟩
abbrev cX10_orbit : ByteArray := prog_12_method_56_code
def yX10_orbit : MethodName := ⟨RX10, "orbit", "(I)I"⟩
abbrev cX10_shortLed : ByteArray := prog_12_method_57_code
def yX10_shortLed : MethodName := ⟨RX10, "shortLed", "(IIZI)I"⟩
abbrev cX10_isShort : ByteArray := prog_12_method_58_code
def yX10_isShort : MethodName := ⟨RX10, "isShort", "(II)Z"⟩
abbrev cX10_movedBy : ByteArray := prog_12_method_59_code
def yX10_movedBy : MethodName := ⟨RX10, "movedBy", "(IIII)I"⟩
abbrev cX10_comesShort : ByteArray := prog_12_method_60_code
def yX10_comesShort : MethodName := ⟨RX10, "comesShort", "(IIZ)V"⟩
abbrev cX10_finds : ByteArray := prog_12_method_61_code
def yX10_finds : MethodName := ⟨RX10, "finds", "(IIII)Z"⟩
abbrev cX10_findCommutator : ByteArray := prog_12_method_62_code
def yX10_findCommutator : MethodName := ⟨RX10, "findCommutator", "(II)I"⟩
abbrev cX10_isRow : ByteArray := prog_12_method_63_code
def yX10_isRow : MethodName := ⟨RX10, "isRow", "(I)Z"⟩
abbrev cX10_fillShares : ByteArray := prog_12_method_64_code
def yX10_fillShares : MethodName := ⟨RX10, "fillShares", "(I)I"⟩
abbrev cX10_scale : ByteArray := prog_12_method_65_code
def yX10_scale : MethodName := ⟨RX10, "scale", "(III)I"⟩
abbrev cX10_remainder : ByteArray := prog_12_method_66_code
def yX10_remainder : MethodName := ⟨RX10, "remainder", "(III)D"⟩
abbrev cX10_copy : ByteArray := prog_12_method_67_code
def yX10_copy : MethodName := ⟨RX10, "copy", "([I[I)V"⟩
abbrev cX10_snapshot : ByteArray := prog_12_method_68_code
def yX10_snapshot : MethodName := ⟨RX10, "snapshot", "()V"⟩
abbrev cX10_restore : ByteArray := prog_12_method_69_code
def yX10_restore : MethodName := ⟨RX10, "restore", "()V"⟩
def RJx145de : String := "java/io/Serializable"
def TJx145de : u_T := fun k => match k with
  | _ => ("", "", "", false)
def tyJx145de : Nat → FieldType := fun k => match k with
  | _ => .int
theorem nmJx145de : ∀ a, a < 0 → ∀ b, b < 0 → a ≠ b → (TJx145de a).2.1 ≠ (TJx145de b).2.1 := by decide +kernel
theorem tyJx145de_ok : ∀ k, k < 0 → parseFieldDescriptor (TJx145de k).2.2.1 = some (tyJx145de k) := by decide +kernel
def RJx00060 : String := "java/lang/ArrayIndexOutOfBoundsException"
def TJx00060 : u_T := fun k => match k with
  | 0 => ("java/lang/Throwable", "backtrace", "Ljava/lang/Object;", false)
  | 1 => ("java/lang/Throwable", "detailMessage", "Ljava/lang/String;", false)
  | 2 => ("java/lang/Throwable", "cause", "Ljava/lang/Throwable;", false)
  | 3 => ("java/lang/Throwable", "stackTrace", "[Ljava/lang/StackTraceElement;", false)
  | 4 => ("java/lang/Throwable", "depth", "I", false)
  | _ => ("java/lang/Throwable", "suppressedExceptions", "Ljava/util/List;", false)
def tyJx00060 : Nat → FieldType := fun k => match k with
  | 0 => .object "java/lang/Object"
  | 1 => .object "java/lang/String"
  | 2 => .object "java/lang/Throwable"
  | 3 => .array (.object "java/lang/StackTraceElement")
  | 4 => .int
  | _ => .object "java/util/List"
theorem nmJx00060 : ∀ a, a < 6 → ∀ b, b < 6 → a ≠ b → (TJx00060 a).2.1 ≠ (TJx00060 b).2.1 := by decide +kernel
theorem tyJx00060_ok : ∀ k, k < 6 → parseFieldDescriptor (TJx00060 k).2.2.1 = some (tyJx00060 k) := by decide +kernel
abbrev cJx00060_init_a7421 : ByteArray := prog_15_method_2_code
def yJx00060_init_a7421 : MethodName := ⟨RJx00060, "<init>", "(Ljava/lang/String;)V"⟩
def RJ6 : String := "java/lang/Integer"
def TJ6 : u_T := fun k => match k with
  | _ => ("", "", "", false)
def tyJ6 : Nat → FieldType := fun k => match k with
  | _ => .int
theorem nmJ6 : ∀ a, a < 0 → ∀ b, b < 0 → a ≠ b → (TJ6 a).2.1 ≠ (TJ6 b).2.1 := by decide +kernel
theorem tyJ6_ok : ∀ k, k < 0 → parseFieldDescriptor (TJ6 k).2.2.1 = some (tyJ6 k) := by decide +kernel
abbrev cJ6_bitCount_0f7a4 : ByteArray := prog_20_method_49_code
def yJ6_bitCount_0f7a4 : MethodName := ⟨RJ6, "bitCount", "(I)I"⟩
def RJ9 : String := "java/lang/Math"
def TJ9 : u_T := fun k => match k with
  | _ => ("", "", "", false)
def tyJ9 : Nat → FieldType := fun k => match k with
  | _ => .int
theorem nmJ9 : ∀ a, a < 0 → ∀ b, b < 0 → a ≠ b → (TJ9 a).2.1 ≠ (TJ9 b).2.1 := by decide +kernel
theorem tyJ9_ok : ∀ k, k < 0 → parseFieldDescriptor (TJ9 k).2.2.1 = some (tyJ9 k) := by decide +kernel
abbrev cJ9_abs_0f7a4 : ByteArray := prog_21_method_59_code
def yJ9_abs_0f7a4 : MethodName := ⟨RJ9, "abs", "(I)I"⟩
abbrev cJ9_max_7cf53 : ByteArray := prog_21_method_65_code
def yJ9_max_7cf53 : MethodName := ⟨RJ9, "max", "(II)I"⟩
def RJ0 : String := "java/lang/String"
def TJ0 : u_T := fun k => match k with
  | 0 => ("java/lang/String", "value", "[B", true)
  | _ => ("java/lang/String", "coder", "B", true)
def tyJ0 : Nat → FieldType := fun k => match k with
  | 0 => .array .byte
  | _ => .byte
theorem nmJ0 : ∀ a, a < 2 → ∀ b, b < 2 → a ≠ b → (TJ0 a).2.1 ≠ (TJ0 b).2.1 := by decide +kernel
theorem tyJ0_ok : ∀ k, k < 2 → parseFieldDescriptor (TJ0 k).2.2.1 = some (tyJ0 k) := by decide +kernel
def RL : String := "PermutationPuzzleLaw"
abbrev cL_reset : ByteArray := method_3_code
def yL_reset : MethodName := ⟨RL, "reset", "(LPermutationPuzzle;I[J)I"⟩
abbrev cL_append : ByteArray := method_4_code
def yL_append : MethodName := ⟨RL, "append", "(LPermutationPuzzle;C[J)I"⟩
abbrev cL_define : ByteArray := method_5_code
def yL_define : MethodName := ⟨RL, "define", "(LPermutationPuzzle;I[J)I"⟩
abbrev cL_store : ByteArray := method_6_code
def yL_store : MethodName := ⟨RL, "store", "(LPermutationPuzzle;I[J)I"⟩
abbrev cL_errorPosition : ByteArray := method_7_code
def yL_errorPosition : MethodName := ⟨RL, "errorPosition", "(LPermutationPuzzle;[J)I"⟩
abbrev cL_target : ByteArray := method_8_code
def yL_target : MethodName := ⟨RL, "target", "(LPermutationPuzzle;II[J)I"⟩
abbrev cL_wordLength : ByteArray := method_9_code
def yL_wordLength : MethodName := ⟨RL, "wordLength", "(LPermutationPuzzle;I[J)I"⟩
abbrev cL_letter : ByteArray := method_10_code
def yL_letter : MethodName := ⟨RL, "letter", "(LPermutationPuzzle;II[J)I"⟩
abbrev cL_invert : ByteArray := method_11_code
def yL_invert : MethodName := ⟨RL, "invert", "(LPermutationPuzzle;II[J)I"⟩
abbrev cL_conjugate : ByteArray := method_12_code
def yL_conjugate : MethodName := ⟨RL, "conjugate", "(LPermutationPuzzle;III[J)I"⟩
abbrev cL_commutator : ByteArray := method_13_code
def yL_commutator : MethodName := ⟨RL, "commutator", "(LPermutationPuzzle;III[J)I"⟩
abbrev cL_order : ByteArray := method_14_code
def yL_order : MethodName := ⟨RL, "order", "(LPermutationPuzzle;I[J)I"⟩
abbrev cL_isOdd : ByteArray := method_15_code
def yL_isOdd : MethodName := ⟨RL, "isOdd", "(LPermutationPuzzle;I[J)I"⟩
abbrev cL_cycleLength : ByteArray := method_16_code
def yL_cycleLength : MethodName := ⟨RL, "cycleLength", "(LPermutationPuzzle;II[J)I"⟩
abbrev cL_isSame : ByteArray := method_17_code
def yL_isSame : MethodName := ⟨RL, "isSame", "(LPermutationPuzzle;II[J)I"⟩
abbrev cL_perform : ByteArray := method_18_code
def yL_perform : MethodName := ⟨RL, "perform", "(LPermutationPuzzle;II[J)I"⟩
abbrev cL_exchange : ByteArray := method_19_code
def yL_exchange : MethodName := ⟨RL, "exchange", "(LPermutationPuzzle;II[J)I"⟩
abbrev cL_token : ByteArray := method_20_code
def yL_token : MethodName := ⟨RL, "token", "(LPermutationPuzzle;I[J)I"⟩
abbrev cL_depth : ByteArray := method_21_code
def yL_depth : MethodName := ⟨RL, "depth", "(LPermutationPuzzle;[J)I"⟩
abbrev cL_solve : ByteArray := method_22_code
def yL_solve : MethodName := ⟨RL, "solve", "(LPermutationPuzzle;I[J)I"⟩
abbrev cL_orbit : ByteArray := method_23_code
def yL_orbit : MethodName := ⟨RL, "orbit", "(LPermutationPuzzle;I[J)I"⟩
abbrev cL_findCommutator : ByteArray := method_24_code
def yL_findCommutator : MethodName := ⟨RL, "findCommutator", "(LPermutationPuzzle;II[J)I"⟩
abbrev cL_fillShares : ByteArray := method_25_code
def yL_fillShares : MethodName := ⟨RL, "fillShares", "(LPermutationPuzzle;I[J)I"⟩
abbrev cL_scale : ByteArray := method_26_code
def yL_scale : MethodName := ⟨RL, "scale", "(LPermutationPuzzle;III[J)I"⟩
abbrev cL_remainder : ByteArray := method_27_code
def yL_remainder : MethodName := ⟨RL, "remainder", "(LPermutationPuzzle;III[D)I"⟩
abbrev cL_restore : ByteArray := method_28_code
def yL_restore : MethodName := ⟨RL, "restore", "(LPermutationPuzzle;)I"⟩
abbrev cL_law : ByteArray := code
def yL_law : MethodName := ⟨RL, "law", "([I)Z"⟩
end
section
theorem dX0_init_0 : decode cX0_init 0 = .ok (.aload_n 0, 1) := by decide +kernel
theorem dX0_init_1 : decode cX0_init 1 = .ok (.invokespecial 3, 3) := by decide +kernel
theorem dX0_init_4 : decode cX0_init 4 = .ok (.aload_n 0, 1) := by decide +kernel
theorem dX0_init_5 : decode cX0_init 5 = .ok (.bipush 10, 2) := by decide +kernel
theorem dX0_init_7 : decode cX0_init 7 = .ok (.newarray .int, 2) := by decide +kernel
theorem dX0_init_9 : decode cX0_init 9 = .ok (.putfield 9, 3) := by decide +kernel
theorem dX0_init_12 : decode cX0_init 12 = .ok (.aload_n 0, 1) := by decide +kernel
theorem dX0_init_13 : decode cX0_init 13 = .ok (.bipush 110, 2) := by decide +kernel
theorem dX0_init_15 : decode cX0_init 15 = .ok (.newarray .int, 2) := by decide +kernel
theorem dX0_init_17 : decode cX0_init 17 = .ok (.putfield 15, 3) := by decide +kernel
theorem dX0_init_20 : decode cX0_init 20 = .ok (.aload_n 0, 1) := by decide +kernel
theorem dX0_init_21 : decode cX0_init 21 = .ok (.iconst 0, 1) := by decide +kernel
theorem dX0_init_22 : decode cX0_init 22 = .ok (.putfield 18, 3) := by decide +kernel
theorem dX0_init_25 : decode cX0_init 25 = .ok (.aload_n 0, 1) := by decide +kernel
theorem dX0_init_26 : decode cX0_init 26 = .ok (.iconst 0, 1) := by decide +kernel
theorem dX0_init_27 : decode cX0_init 27 = .ok (.putfield 22, 3) := by decide +kernel
theorem dX0_init_30 : decode cX0_init 30 = .ok (.aload_n 0, 1) := by decide +kernel
theorem dX0_init_31 : decode cX0_init 31 = .ok (.iconst 0, 1) := by decide +kernel
theorem dX0_init_32 : decode cX0_init 32 = .ok (.putfield 25, 3) := by decide +kernel
theorem dX0_init_35 : decode cX0_init 35 = .ok (.return_, 1) := by decide +kernel
theorem dX0_find_0 : decode cX0_find 0 = .ok (.iload_n 2, 1) := by decide +kernel
theorem dX0_find_1 : decode cX0_find 1 = .ok (.ifCond .lt 9, 3) := by decide +kernel
theorem dX0_find_4 : decode cX0_find 4 = .ok (.iload_n 2, 1) := by decide +kernel
theorem dX0_find_5 : decode cX0_find 5 = .ok (.bipush 7, 2) := by decide +kernel
theorem dX0_find_7 : decode cX0_find 7 = .ok (.if_icmp .le 5, 3) := by decide +kernel
theorem dX0_find_10 : decode cX0_find 10 = .ok (.iconst 0, 1) := by decide +kernel
theorem dX0_find_11 : decode cX0_find 11 = .ok (.ireturn, 1) := by decide +kernel
theorem dX0_find_12 : decode cX0_find 12 = .ok (.aload_n 0, 1) := by decide +kernel
theorem dX0_find_13 : decode cX0_find 13 = .ok (.aload_n 1, 1) := by decide +kernel
theorem dX0_find_14 : decode cX0_find 14 = .ok (.invokevirtual 28, 3) := by decide +kernel
theorem dX0_find_17 : decode cX0_find 17 = .ok (.aload_n 0, 1) := by decide +kernel
theorem dX0_find_18 : decode cX0_find 18 = .ok (.iconst 1, 1) := by decide +kernel
theorem dX0_find_19 : decode cX0_find 19 = .ok (.iconst 1, 1) := by decide +kernel
theorem dX0_find_20 : decode cX0_find 20 = .ok (.iload_n 2, 1) := by decide +kernel
theorem dX0_find_21 : decode cX0_find 21 = .ok (.invokevirtual 32, 3) := by decide +kernel
theorem dX0_find_24 : decode cX0_find 24 = .ok (.ifCond .ne 33, 3) := by decide +kernel
theorem dX0_find_27 : decode cX0_find 27 = .ok (.aload_n 0, 1) := by decide +kernel
theorem dX0_find_28 : decode cX0_find 28 = .ok (.iconst 1, 1) := by decide +kernel
theorem dX0_find_29 : decode cX0_find 29 = .ok (.iconst 2, 1) := by decide +kernel
theorem dX0_find_30 : decode cX0_find 30 = .ok (.iload_n 2, 1) := by decide +kernel
theorem dX0_find_31 : decode cX0_find 31 = .ok (.invokevirtual 32, 3) := by decide +kernel
theorem dX0_find_34 : decode cX0_find 34 = .ok (.ifCond .ne 23, 3) := by decide +kernel
theorem dX0_find_37 : decode cX0_find 37 = .ok (.aload_n 0, 1) := by decide +kernel
theorem dX0_find_38 : decode cX0_find 38 = .ok (.iconst 2, 1) := by decide +kernel
theorem dX0_find_39 : decode cX0_find 39 = .ok (.iconst 1, 1) := by decide +kernel
theorem dX0_find_40 : decode cX0_find 40 = .ok (.iload_n 2, 1) := by decide +kernel
theorem dX0_find_41 : decode cX0_find 41 = .ok (.invokevirtual 32, 3) := by decide +kernel
theorem dX0_find_44 : decode cX0_find 44 = .ok (.ifCond .ne 13, 3) := by decide +kernel
theorem dX0_find_47 : decode cX0_find 47 = .ok (.aload_n 0, 1) := by decide +kernel
theorem dX0_find_48 : decode cX0_find 48 = .ok (.iconst 2, 1) := by decide +kernel
theorem dX0_find_49 : decode cX0_find 49 = .ok (.iconst 2, 1) := by decide +kernel
theorem dX0_find_50 : decode cX0_find 50 = .ok (.iload_n 2, 1) := by decide +kernel
theorem dX0_find_51 : decode cX0_find 51 = .ok (.invokevirtual 32, 3) := by decide +kernel
theorem dX0_find_54 : decode cX0_find 54 = .ok (.ifCond .eq 7, 3) := by decide +kernel
theorem dX0_find_57 : decode cX0_find 57 = .ok (.iconst 1, 1) := by decide +kernel
theorem dX0_find_58 : decode cX0_find 58 = .ok (.goto 4, 3) := by decide +kernel
theorem dX0_find_61 : decode cX0_find 61 = .ok (.iconst 0, 1) := by decide +kernel
theorem dX0_find_62 : decode cX0_find 62 = .ok (.istore 4, 2) := by decide +kernel
theorem dX0_find_64 : decode cX0_find 64 = .ok (.iload 4, 2) := by decide +kernel
theorem dX0_find_66 : decode cX0_find 66 = .ok (.ifCond .eq 39, 3) := by decide +kernel
theorem dX0_find_69 : decode cX0_find 69 = .ok (.aload_n 3, 1) := by decide +kernel
theorem dX0_find_70 : decode cX0_find 70 = .ok (.invokevirtual 36, 3) := by decide +kernel
theorem dX0_find_73 : decode cX0_find 73 = .ok (.aload_n 0, 1) := by decide +kernel
theorem dX0_find_74 : decode cX0_find 74 = .ok (.aload_n 0, 1) := by decide +kernel
theorem dX0_find_75 : decode cX0_find 75 = .ok (.getfield 22, 3) := by decide +kernel
theorem dX0_find_78 : decode cX0_find 78 = .ok (.aload_n 3, 1) := by decide +kernel
theorem dX0_find_79 : decode cX0_find 79 = .ok (.invokevirtual 41, 3) := by decide +kernel
theorem dX0_find_82 : decode cX0_find 82 = .ok (.aload_n 3, 1) := by decide +kernel
theorem dX0_find_83 : decode cX0_find 83 = .ok (.invokevirtual 45, 3) := by decide +kernel
theorem dX0_find_86 : decode cX0_find 86 = .ok (.istore 5, 2) := by decide +kernel
theorem dX0_find_88 : decode cX0_find 88 = .ok (.aload_n 0, 1) := by decide +kernel
theorem dX0_find_89 : decode cX0_find 89 = .ok (.aload_n 0, 1) := by decide +kernel
theorem dX0_find_90 : decode cX0_find 90 = .ok (.getfield 25, 3) := by decide +kernel
theorem dX0_find_93 : decode cX0_find 93 = .ok (.aload_n 3, 1) := by decide +kernel
theorem dX0_find_94 : decode cX0_find 94 = .ok (.invokevirtual 41, 3) := by decide +kernel
theorem dX0_find_97 : decode cX0_find 97 = .ok (.aload_n 3, 1) := by decide +kernel
theorem dX0_find_98 : decode cX0_find 98 = .ok (.iconst 0, 1) := by decide +kernel
theorem dX0_find_99 : decode cX0_find 99 = .ok (.iload 5, 2) := by decide +kernel
theorem dX0_find_101 : decode cX0_find 101 = .ok (.invokevirtual 49, 3) := by decide +kernel
theorem dX0_find_104 : decode cX0_find 104 = .ok (.pop, 1) := by decide +kernel
theorem dX0_find_105 : decode cX0_find 105 = .ok (.iload 4, 2) := by decide +kernel
theorem dX0_find_107 : decode cX0_find 107 = .ok (.ireturn, 1) := by decide +kernel
theorem dX0_listWords_0 : decode cX0_listWords 0 = .ok (.aload_n 0, 1) := by decide +kernel
theorem dX0_listWords_1 : decode cX0_listWords 1 = .ok (.iconst 0, 1) := by decide +kernel
theorem dX0_listWords_2 : decode cX0_listWords 2 = .ok (.putfield 18, 3) := by decide +kernel
theorem dX0_listWords_5 : decode cX0_listWords 5 = .ok (.iconst 0, 1) := by decide +kernel
theorem dX0_listWords_6 : decode cX0_listWords 6 = .ok (.istore_n 2, 1) := by decide +kernel
theorem dX0_listWords_7 : decode cX0_listWords 7 = .ok (.iload_n 2, 1) := by decide +kernel
theorem dX0_listWords_8 : decode cX0_listWords 8 = .ok (.bipush 10, 2) := by decide +kernel
theorem dX0_listWords_10 : decode cX0_listWords 10 = .ok (.if_icmp .ge 53, 3) := by decide +kernel
theorem dX0_listWords_13 : decode cX0_listWords 13 = .ok (.aload_n 1, 1) := by decide +kernel
theorem dX0_listWords_14 : decode cX0_listWords 14 = .ok (.iload_n 2, 1) := by decide +kernel
theorem dX0_listWords_15 : decode cX0_listWords 15 = .ok (.iconst 2, 1) := by decide +kernel
theorem dX0_listWords_16 : decode cX0_listWords 16 = .ok (.idiv, 1) := by decide +kernel
theorem dX0_listWords_17 : decode cX0_listWords 17 = .ok (.invokevirtual 53, 3) := by decide +kernel
theorem dX0_listWords_20 : decode cX0_listWords 20 = .ok (.ifCond .eq 37, 3) := by decide +kernel
theorem dX0_listWords_23 : decode cX0_listWords 23 = .ok (.aload_n 0, 1) := by decide +kernel
theorem dX0_listWords_24 : decode cX0_listWords 24 = .ok (.getfield 9, 3) := by decide +kernel
theorem dX0_listWords_27 : decode cX0_listWords 27 = .ok (.aload_n 0, 1) := by decide +kernel
theorem dX0_listWords_28 : decode cX0_listWords 28 = .ok (.getfield 18, 3) := by decide +kernel
theorem dX0_listWords_31 : decode cX0_listWords 31 = .ok (.iload_n 2, 1) := by decide +kernel
theorem dX0_listWords_32 : decode cX0_listWords 32 = .ok (.iastore, 1) := by decide +kernel
theorem dX0_listWords_33 : decode cX0_listWords 33 = .ok (.aload_n 0, 1) := by decide +kernel
theorem dX0_listWords_34 : decode cX0_listWords 34 = .ok (.getfield 15, 3) := by decide +kernel
theorem dX0_listWords_37 : decode cX0_listWords 37 = .ok (.aload_n 0, 1) := by decide +kernel
theorem dX0_listWords_38 : decode cX0_listWords 38 = .ok (.getfield 18, 3) := by decide +kernel
theorem dX0_listWords_41 : decode cX0_listWords 41 = .ok (.aload_n 1, 1) := by decide +kernel
theorem dX0_listWords_42 : decode cX0_listWords 42 = .ok (.iload_n 2, 1) := by decide +kernel
theorem dX0_listWords_43 : decode cX0_listWords 43 = .ok (.invokevirtual 59, 3) := by decide +kernel
theorem dX0_listWords_46 : decode cX0_listWords 46 = .ok (.iastore, 1) := by decide +kernel
theorem dX0_listWords_47 : decode cX0_listWords 47 = .ok (.aload_n 0, 1) := by decide +kernel
theorem dX0_listWords_48 : decode cX0_listWords 48 = .ok (.dup, 1) := by decide +kernel
theorem dX0_listWords_49 : decode cX0_listWords 49 = .ok (.getfield 18, 3) := by decide +kernel
theorem dX0_listWords_52 : decode cX0_listWords 52 = .ok (.iconst 1, 1) := by decide +kernel
theorem dX0_listWords_53 : decode cX0_listWords 53 = .ok (.iadd, 1) := by decide +kernel
theorem dX0_listWords_54 : decode cX0_listWords 54 = .ok (.putfield 18, 3) := by decide +kernel
theorem dX0_listWords_57 : decode cX0_listWords 57 = .ok (.iinc 2 1, 3) := by decide +kernel
theorem dX0_listWords_60 : decode cX0_listWords 60 = .ok (.goto (-53), 3) := by decide +kernel
theorem dX0_listWords_63 : decode cX0_listWords 63 = .ok (.aload_n 0, 1) := by decide +kernel
theorem dX0_listWords_64 : decode cX0_listWords 64 = .ok (.getfield 18, 3) := by decide +kernel
theorem dX0_listWords_67 : decode cX0_listWords 67 = .ok (.istore_n 2, 1) := by decide +kernel
theorem dX0_listWords_68 : decode cX0_listWords 68 = .ok (.iconst 0, 1) := by decide +kernel
theorem dX0_listWords_69 : decode cX0_listWords 69 = .ok (.istore_n 3, 1) := by decide +kernel
theorem dX0_listWords_70 : decode cX0_listWords 70 = .ok (.iload_n 3, 1) := by decide +kernel
theorem dX0_listWords_71 : decode cX0_listWords 71 = .ok (.aload_n 0, 1) := by decide +kernel
theorem dX0_listWords_72 : decode cX0_listWords 72 = .ok (.getfield 18, 3) := by decide +kernel
theorem dX0_listWords_75 : decode cX0_listWords 75 = .ok (.if_icmp .ge 52, 3) := by decide +kernel
theorem dX0_listWords_78 : decode cX0_listWords 78 = .ok (.iconst 0, 1) := by decide +kernel
theorem dX0_listWords_79 : decode cX0_listWords 79 = .ok (.istore 4, 2) := by decide +kernel
theorem dX0_listWords_81 : decode cX0_listWords 81 = .ok (.iload 4, 2) := by decide +kernel
theorem dX0_listWords_83 : decode cX0_listWords 83 = .ok (.aload_n 0, 1) := by decide +kernel
theorem dX0_listWords_84 : decode cX0_listWords 84 = .ok (.getfield 18, 3) := by decide +kernel
theorem dX0_listWords_87 : decode cX0_listWords 87 = .ok (.if_icmp .ge 34, 3) := by decide +kernel
theorem dX0_listWords_90 : decode cX0_listWords 90 = .ok (.aload_n 0, 1) := by decide +kernel
theorem dX0_listWords_91 : decode cX0_listWords 91 = .ok (.getfield 15, 3) := by decide +kernel
theorem dX0_listWords_94 : decode cX0_listWords 94 = .ok (.iload_n 2, 1) := by decide +kernel
theorem dX0_listWords_95 : decode cX0_listWords 95 = .ok (.aload_n 0, 1) := by decide +kernel
theorem dX0_listWords_96 : decode cX0_listWords 96 = .ok (.getfield 15, 3) := by decide +kernel
theorem dX0_listWords_99 : decode cX0_listWords 99 = .ok (.iload_n 3, 1) := by decide +kernel
theorem dX0_listWords_100 : decode cX0_listWords 100 = .ok (.iaload, 1) := by decide +kernel
theorem dX0_listWords_101 : decode cX0_listWords 101 = .ok (.aload_n 0, 1) := by decide +kernel
theorem dX0_listWords_102 : decode cX0_listWords 102 = .ok (.getfield 15, 3) := by decide +kernel
theorem dX0_listWords_105 : decode cX0_listWords 105 = .ok (.iload 4, 2) := by decide +kernel
theorem dX0_listWords_107 : decode cX0_listWords 107 = .ok (.iaload, 1) := by decide +kernel
theorem dX0_listWords_108 : decode cX0_listWords 108 = .ok (.invokestatic 63, 3) := by decide +kernel
theorem dX0_listWords_111 : decode cX0_listWords 111 = .ok (.iastore, 1) := by decide +kernel
theorem dX0_listWords_112 : decode cX0_listWords 112 = .ok (.iinc 2 1, 3) := by decide +kernel
theorem dX0_listWords_115 : decode cX0_listWords 115 = .ok (.iinc 4 1, 3) := by decide +kernel
theorem dX0_listWords_118 : decode cX0_listWords 118 = .ok (.goto (-37), 3) := by decide +kernel
theorem dX0_listWords_121 : decode cX0_listWords 121 = .ok (.iinc 3 1, 3) := by decide +kernel
theorem dX0_listWords_124 : decode cX0_listWords 124 = .ok (.goto (-54), 3) := by decide +kernel
theorem dX0_listWords_127 : decode cX0_listWords 127 = .ok (.return_, 1) := by decide +kernel
theorem dX0_findAmong_0 : decode cX0_findAmong 0 = .ok (.aload_n 0, 1) := by decide +kernel
theorem dX0_findAmong_1 : decode cX0_findAmong 1 = .ok (.iload_n 1, 1) := by decide +kernel
theorem dX0_findAmong_2 : decode cX0_findAmong 2 = .ok (.invokevirtual 69, 3) := by decide +kernel
theorem dX0_findAmong_5 : decode cX0_findAmong 5 = .ok (.istore 4, 2) := by decide +kernel
theorem dX0_findAmong_7 : decode cX0_findAmong 7 = .ok (.iload 4, 2) := by decide +kernel
theorem dX0_findAmong_9 : decode cX0_findAmong 9 = .ok (.aload_n 0, 1) := by decide +kernel
theorem dX0_findAmong_10 : decode cX0_findAmong 10 = .ok (.iload_n 1, 1) := by decide +kernel
theorem dX0_findAmong_11 : decode cX0_findAmong 11 = .ok (.iconst 1, 1) := by decide +kernel
theorem dX0_findAmong_12 : decode cX0_findAmong 12 = .ok (.iadd, 1) := by decide +kernel
theorem dX0_findAmong_13 : decode cX0_findAmong 13 = .ok (.invokevirtual 69, 3) := by decide +kernel
theorem dX0_findAmong_16 : decode cX0_findAmong 16 = .ok (.if_icmp .ge 69, 3) := by decide +kernel
theorem dX0_findAmong_19 : decode cX0_findAmong 19 = .ok (.aload_n 0, 1) := by decide +kernel
theorem dX0_findAmong_20 : decode cX0_findAmong 20 = .ok (.iload_n 2, 1) := by decide +kernel
theorem dX0_findAmong_21 : decode cX0_findAmong 21 = .ok (.invokevirtual 69, 3) := by decide +kernel
theorem dX0_findAmong_24 : decode cX0_findAmong 24 = .ok (.istore 5, 2) := by decide +kernel
theorem dX0_findAmong_26 : decode cX0_findAmong 26 = .ok (.iload 5, 2) := by decide +kernel
theorem dX0_findAmong_28 : decode cX0_findAmong 28 = .ok (.aload_n 0, 1) := by decide +kernel
theorem dX0_findAmong_29 : decode cX0_findAmong 29 = .ok (.iload_n 2, 1) := by decide +kernel
theorem dX0_findAmong_30 : decode cX0_findAmong 30 = .ok (.iconst 1, 1) := by decide +kernel
theorem dX0_findAmong_31 : decode cX0_findAmong 31 = .ok (.iadd, 1) := by decide +kernel
theorem dX0_findAmong_32 : decode cX0_findAmong 32 = .ok (.invokevirtual 69, 3) := by decide +kernel
theorem dX0_findAmong_35 : decode cX0_findAmong 35 = .ok (.if_icmp .ge 44, 3) := by decide +kernel
theorem dX0_findAmong_38 : decode cX0_findAmong 38 = .ok (.aload_n 0, 1) := by decide +kernel
theorem dX0_findAmong_39 : decode cX0_findAmong 39 = .ok (.getfield 15, 3) := by decide +kernel
theorem dX0_findAmong_42 : decode cX0_findAmong 42 = .ok (.iload 4, 2) := by decide +kernel
theorem dX0_findAmong_44 : decode cX0_findAmong 44 = .ok (.iaload, 1) := by decide +kernel
theorem dX0_findAmong_45 : decode cX0_findAmong 45 = .ok (.aload_n 0, 1) := by decide +kernel
theorem dX0_findAmong_46 : decode cX0_findAmong 46 = .ok (.getfield 15, 3) := by decide +kernel
theorem dX0_findAmong_49 : decode cX0_findAmong 49 = .ok (.iload 5, 2) := by decide +kernel
theorem dX0_findAmong_51 : decode cX0_findAmong 51 = .ok (.iaload, 1) := by decide +kernel
theorem dX0_findAmong_52 : decode cX0_findAmong 52 = .ok (.invokestatic 72, 3) := by decide +kernel
theorem dX0_findAmong_55 : decode cX0_findAmong 55 = .ok (.iload_n 3, 1) := by decide +kernel
theorem dX0_findAmong_56 : decode cX0_findAmong 56 = .ok (.if_icmp .ne 17, 3) := by decide +kernel
theorem dX0_findAmong_59 : decode cX0_findAmong 59 = .ok (.aload_n 0, 1) := by decide +kernel
theorem dX0_findAmong_60 : decode cX0_findAmong 60 = .ok (.iload 4, 2) := by decide +kernel
theorem dX0_findAmong_62 : decode cX0_findAmong 62 = .ok (.putfield 22, 3) := by decide +kernel
theorem dX0_findAmong_65 : decode cX0_findAmong 65 = .ok (.aload_n 0, 1) := by decide +kernel
theorem dX0_findAmong_66 : decode cX0_findAmong 66 = .ok (.iload 5, 2) := by decide +kernel
theorem dX0_findAmong_68 : decode cX0_findAmong 68 = .ok (.putfield 25, 3) := by decide +kernel
theorem dX0_findAmong_71 : decode cX0_findAmong 71 = .ok (.iconst 1, 1) := by decide +kernel
theorem dX0_findAmong_72 : decode cX0_findAmong 72 = .ok (.ireturn, 1) := by decide +kernel
theorem dX0_findAmong_73 : decode cX0_findAmong 73 = .ok (.iinc 5 1, 3) := by decide +kernel
theorem dX0_findAmong_76 : decode cX0_findAmong 76 = .ok (.goto (-50), 3) := by decide +kernel
theorem dX0_findAmong_79 : decode cX0_findAmong 79 = .ok (.iinc 4 1, 3) := by decide +kernel
theorem dX0_findAmong_82 : decode cX0_findAmong 82 = .ok (.goto (-75), 3) := by decide +kernel
theorem dX0_findAmong_85 : decode cX0_findAmong 85 = .ok (.iconst 0, 1) := by decide +kernel
theorem dX0_findAmong_86 : decode cX0_findAmong 86 = .ok (.ireturn, 1) := by decide +kernel
theorem dX0_startOf_0 : decode cX0_startOf 0 = .ok (.iload_n 1, 1) := by decide +kernel
theorem dX0_startOf_1 : decode cX0_startOf 1 = .ok (.iconst 1, 1) := by decide +kernel
theorem dX0_startOf_2 : decode cX0_startOf 2 = .ok (.if_icmp .ne 5, 3) := by decide +kernel
theorem dX0_startOf_5 : decode cX0_startOf 5 = .ok (.iconst 0, 1) := by decide +kernel
theorem dX0_startOf_6 : decode cX0_startOf 6 = .ok (.ireturn, 1) := by decide +kernel
theorem dX0_startOf_7 : decode cX0_startOf 7 = .ok (.iload_n 1, 1) := by decide +kernel
theorem dX0_startOf_8 : decode cX0_startOf 8 = .ok (.iconst 2, 1) := by decide +kernel
theorem dX0_startOf_9 : decode cX0_startOf 9 = .ok (.if_icmp .ne 10, 3) := by decide +kernel
theorem dX0_startOf_12 : decode cX0_startOf 12 = .ok (.aload_n 0, 1) := by decide +kernel
theorem dX0_startOf_13 : decode cX0_startOf 13 = .ok (.getfield 18, 3) := by decide +kernel
theorem dX0_startOf_16 : decode cX0_startOf 16 = .ok (.goto 17, 3) := by decide +kernel
theorem dX0_startOf_19 : decode cX0_startOf 19 = .ok (.aload_n 0, 1) := by decide +kernel
theorem dX0_startOf_20 : decode cX0_startOf 20 = .ok (.getfield 18, 3) := by decide +kernel
theorem dX0_startOf_23 : decode cX0_startOf 23 = .ok (.aload_n 0, 1) := by decide +kernel
theorem dX0_startOf_24 : decode cX0_startOf 24 = .ok (.getfield 18, 3) := by decide +kernel
theorem dX0_startOf_27 : decode cX0_startOf 27 = .ok (.aload_n 0, 1) := by decide +kernel
theorem dX0_startOf_28 : decode cX0_startOf 28 = .ok (.getfield 18, 3) := by decide +kernel
theorem dX0_startOf_31 : decode cX0_startOf 31 = .ok (.imul, 1) := by decide +kernel
theorem dX0_startOf_32 : decode cX0_startOf 32 = .ok (.iadd, 1) := by decide +kernel
theorem dX0_startOf_33 : decode cX0_startOf 33 = .ok (.ireturn, 1) := by decide +kernel
theorem dX0_movedBy_0 : decode cX0_movedBy 0 = .ok (.iconst 0, 1) := by decide +kernel
theorem dX0_movedBy_1 : decode cX0_movedBy 1 = .ok (.istore_n 2, 1) := by decide +kernel
theorem dX0_movedBy_2 : decode cX0_movedBy 2 = .ok (.iconst 0, 1) := by decide +kernel
theorem dX0_movedBy_3 : decode cX0_movedBy 3 = .ok (.istore_n 3, 1) := by decide +kernel
theorem dX0_movedBy_4 : decode cX0_movedBy 4 = .ok (.iload_n 3, 1) := by decide +kernel
theorem dX0_movedBy_5 : decode cX0_movedBy 5 = .ok (.bipush 7, 2) := by decide +kernel
theorem dX0_movedBy_7 : decode cX0_movedBy 7 = .ok (.if_icmp .ge 41, 3) := by decide +kernel
theorem dX0_movedBy_10 : decode cX0_movedBy 10 = .ok (.iload_n 1, 1) := by decide +kernel
theorem dX0_movedBy_11 : decode cX0_movedBy 11 = .ok (.iload_n 0, 1) := by decide +kernel
theorem dX0_movedBy_12 : decode cX0_movedBy 12 = .ok (.iload_n 3, 1) := by decide +kernel
theorem dX0_movedBy_13 : decode cX0_movedBy 13 = .ok (.invokestatic 75, 3) := by decide +kernel
theorem dX0_movedBy_16 : decode cX0_movedBy 16 = .ok (.invokestatic 75, 3) := by decide +kernel
theorem dX0_movedBy_19 : decode cX0_movedBy 19 = .ok (.istore 4, 2) := by decide +kernel
theorem dX0_movedBy_21 : decode cX0_movedBy 21 = .ok (.iload_n 0, 1) := by decide +kernel
theorem dX0_movedBy_22 : decode cX0_movedBy 22 = .ok (.iload_n 1, 1) := by decide +kernel
theorem dX0_movedBy_23 : decode cX0_movedBy 23 = .ok (.iload_n 3, 1) := by decide +kernel
theorem dX0_movedBy_24 : decode cX0_movedBy 24 = .ok (.invokestatic 75, 3) := by decide +kernel
theorem dX0_movedBy_27 : decode cX0_movedBy 27 = .ok (.invokestatic 75, 3) := by decide +kernel
theorem dX0_movedBy_30 : decode cX0_movedBy 30 = .ok (.istore 5, 2) := by decide +kernel
theorem dX0_movedBy_32 : decode cX0_movedBy 32 = .ok (.iload 4, 2) := by decide +kernel
theorem dX0_movedBy_34 : decode cX0_movedBy 34 = .ok (.iload 5, 2) := by decide +kernel
theorem dX0_movedBy_36 : decode cX0_movedBy 36 = .ok (.if_icmp .eq 6, 3) := by decide +kernel
theorem dX0_movedBy_39 : decode cX0_movedBy 39 = .ok (.iinc 2 1, 3) := by decide +kernel
theorem dX0_movedBy_42 : decode cX0_movedBy 42 = .ok (.iinc 3 1, 3) := by decide +kernel
theorem dX0_movedBy_45 : decode cX0_movedBy 45 = .ok (.goto (-41), 3) := by decide +kernel
theorem dX0_movedBy_48 : decode cX0_movedBy 48 = .ok (.iload_n 2, 1) := by decide +kernel
theorem dX0_movedBy_49 : decode cX0_movedBy 49 = .ok (.ireturn, 1) := by decide +kernel
theorem dX0_writeWord_0 : decode cX0_writeWord 0 = .ok (.iload_n 1, 1) := by decide +kernel
theorem dX0_writeWord_1 : decode cX0_writeWord 1 = .ok (.ifCond .lt 25, 3) := by decide +kernel
theorem dX0_writeWord_4 : decode cX0_writeWord 4 = .ok (.iload_n 1, 1) := by decide +kernel
theorem dX0_writeWord_5 : decode cX0_writeWord 5 = .ok (.aload_n 0, 1) := by decide +kernel
theorem dX0_writeWord_6 : decode cX0_writeWord 6 = .ok (.getfield 18, 3) := by decide +kernel
theorem dX0_writeWord_9 : decode cX0_writeWord 9 = .ok (.if_icmp .ge 17, 3) := by decide +kernel
theorem dX0_writeWord_12 : decode cX0_writeWord 12 = .ok (.aload_n 2, 1) := by decide +kernel
theorem dX0_writeWord_13 : decode cX0_writeWord 13 = .ok (.aload_n 0, 1) := by decide +kernel
theorem dX0_writeWord_14 : decode cX0_writeWord 14 = .ok (.getfield 9, 3) := by decide +kernel
theorem dX0_writeWord_17 : decode cX0_writeWord 17 = .ok (.iload_n 1, 1) := by decide +kernel
theorem dX0_writeWord_18 : decode cX0_writeWord 18 = .ok (.iaload, 1) := by decide +kernel
theorem dX0_writeWord_19 : decode cX0_writeWord 19 = .ok (.invokevirtual 78, 3) := by decide +kernel
theorem dX0_writeWord_22 : decode cX0_writeWord 22 = .ok (.pop, 1) := by decide +kernel
theorem dX0_writeWord_23 : decode cX0_writeWord 23 = .ok (.goto 58, 3) := by decide +kernel
theorem dX0_writeWord_26 : decode cX0_writeWord 26 = .ok (.aload_n 0, 1) := by decide +kernel
theorem dX0_writeWord_27 : decode cX0_writeWord 27 = .ok (.getfield 18, 3) := by decide +kernel
theorem dX0_writeWord_30 : decode cX0_writeWord 30 = .ok (.ifCond .le 51, 3) := by decide +kernel
theorem dX0_writeWord_33 : decode cX0_writeWord 33 = .ok (.iload_n 1, 1) := by decide +kernel
theorem dX0_writeWord_34 : decode cX0_writeWord 34 = .ok (.aload_n 0, 1) := by decide +kernel
theorem dX0_writeWord_35 : decode cX0_writeWord 35 = .ok (.iconst 3, 1) := by decide +kernel
theorem dX0_writeWord_36 : decode cX0_writeWord 36 = .ok (.invokevirtual 69, 3) := by decide +kernel
theorem dX0_writeWord_39 : decode cX0_writeWord 39 = .ok (.if_icmp .ge 42, 3) := by decide +kernel
theorem dX0_writeWord_42 : decode cX0_writeWord 42 = .ok (.iload_n 1, 1) := by decide +kernel
theorem dX0_writeWord_43 : decode cX0_writeWord 43 = .ok (.aload_n 0, 1) := by decide +kernel
theorem dX0_writeWord_44 : decode cX0_writeWord 44 = .ok (.getfield 18, 3) := by decide +kernel
theorem dX0_writeWord_47 : decode cX0_writeWord 47 = .ok (.isub, 1) := by decide +kernel
theorem dX0_writeWord_48 : decode cX0_writeWord 48 = .ok (.istore_n 3, 1) := by decide +kernel
theorem dX0_writeWord_49 : decode cX0_writeWord 49 = .ok (.aload_n 2, 1) := by decide +kernel
theorem dX0_writeWord_50 : decode cX0_writeWord 50 = .ok (.aload_n 0, 1) := by decide +kernel
theorem dX0_writeWord_51 : decode cX0_writeWord 51 = .ok (.getfield 9, 3) := by decide +kernel
theorem dX0_writeWord_54 : decode cX0_writeWord 54 = .ok (.iload_n 3, 1) := by decide +kernel
theorem dX0_writeWord_55 : decode cX0_writeWord 55 = .ok (.aload_n 0, 1) := by decide +kernel
theorem dX0_writeWord_56 : decode cX0_writeWord 56 = .ok (.getfield 18, 3) := by decide +kernel
theorem dX0_writeWord_59 : decode cX0_writeWord 59 = .ok (.idiv, 1) := by decide +kernel
theorem dX0_writeWord_60 : decode cX0_writeWord 60 = .ok (.iaload, 1) := by decide +kernel
theorem dX0_writeWord_61 : decode cX0_writeWord 61 = .ok (.invokevirtual 78, 3) := by decide +kernel
theorem dX0_writeWord_64 : decode cX0_writeWord 64 = .ok (.pop, 1) := by decide +kernel
theorem dX0_writeWord_65 : decode cX0_writeWord 65 = .ok (.aload_n 2, 1) := by decide +kernel
theorem dX0_writeWord_66 : decode cX0_writeWord 66 = .ok (.aload_n 0, 1) := by decide +kernel
theorem dX0_writeWord_67 : decode cX0_writeWord 67 = .ok (.getfield 9, 3) := by decide +kernel
theorem dX0_writeWord_70 : decode cX0_writeWord 70 = .ok (.iload_n 3, 1) := by decide +kernel
theorem dX0_writeWord_71 : decode cX0_writeWord 71 = .ok (.aload_n 0, 1) := by decide +kernel
theorem dX0_writeWord_72 : decode cX0_writeWord 72 = .ok (.getfield 18, 3) := by decide +kernel
theorem dX0_writeWord_75 : decode cX0_writeWord 75 = .ok (.irem, 1) := by decide +kernel
theorem dX0_writeWord_76 : decode cX0_writeWord 76 = .ok (.iaload, 1) := by decide +kernel
theorem dX0_writeWord_77 : decode cX0_writeWord 77 = .ok (.invokevirtual 78, 3) := by decide +kernel
theorem dX0_writeWord_80 : decode cX0_writeWord 80 = .ok (.pop, 1) := by decide +kernel
theorem dX0_writeWord_81 : decode cX0_writeWord 81 = .ok (.return_, 1) := by decide +kernel
theorem dX1_init_0 : decode cX1_init 0 = .ok (.aload_n 0, 1) := by decide +kernel
theorem dX1_init_1 : decode cX1_init 1 = .ok (.invokespecial 3, 3) := by decide +kernel
theorem dX1_init_4 : decode cX1_init 4 = .ok (.aload_n 0, 1) := by decide +kernel
theorem dX1_init_5 : decode cX1_init 5 = .ok (.ldc 9, 2) := by decide +kernel
theorem dX1_init_7 : decode cX1_init 7 = .ok (.putfield 10, 3) := by decide +kernel
theorem dX1_init_10 : decode cX1_init 10 = .ok (.return_, 1) := by decide +kernel
theorem dX1_errorIn_0 : decode cX1_errorIn 0 = .ok (.aload_n 0, 1) := by decide +kernel
theorem dX1_errorIn_1 : decode cX1_errorIn 1 = .ok (.ldc 9, 2) := by decide +kernel
theorem dX1_errorIn_3 : decode cX1_errorIn 3 = .ok (.putfield 10, 3) := by decide +kernel
theorem dX1_errorIn_6 : decode cX1_errorIn 6 = .ok (.aload_n 0, 1) := by decide +kernel
theorem dX1_errorIn_7 : decode cX1_errorIn 7 = .ok (.iconst 0, 1) := by decide +kernel
theorem dX1_errorIn_8 : decode cX1_errorIn 8 = .ok (.putfield 16, 3) := by decide +kernel
theorem dX1_errorIn_11 : decode cX1_errorIn 11 = .ok (.aload_n 0, 1) := by decide +kernel
theorem dX1_errorIn_12 : decode cX1_errorIn 12 = .ok (.iconst 0, 1) := by decide +kernel
theorem dX1_errorIn_13 : decode cX1_errorIn 13 = .ok (.putfield 19, 3) := by decide +kernel
theorem dX1_errorIn_16 : decode cX1_errorIn 16 = .ok (.iconst 0, 1) := by decide +kernel
theorem dX1_errorIn_17 : decode cX1_errorIn 17 = .ok (.istore_n 3, 1) := by decide +kernel
theorem dX1_errorIn_18 : decode cX1_errorIn 18 = .ok (.iload_n 3, 1) := by decide +kernel
theorem dX1_errorIn_19 : decode cX1_errorIn 19 = .ok (.aload_n 1, 1) := by decide +kernel
theorem dX1_errorIn_20 : decode cX1_errorIn 20 = .ok (.invokevirtual 23, 3) := by decide +kernel
theorem dX1_errorIn_23 : decode cX1_errorIn 23 = .ok (.if_icmp .ge 24, 3) := by decide +kernel
theorem dX1_errorIn_26 : decode cX1_errorIn 26 = .ok (.aload_n 0, 1) := by decide +kernel
theorem dX1_errorIn_27 : decode cX1_errorIn 27 = .ok (.aload_n 1, 1) := by decide +kernel
theorem dX1_errorIn_28 : decode cX1_errorIn 28 = .ok (.iload_n 3, 1) := by decide +kernel
theorem dX1_errorIn_29 : decode cX1_errorIn 29 = .ok (.invokevirtual 29, 3) := by decide +kernel
theorem dX1_errorIn_32 : decode cX1_errorIn 32 = .ok (.iload_n 2, 1) := by decide +kernel
theorem dX1_errorIn_33 : decode cX1_errorIn 33 = .ok (.invokevirtual 33, 3) := by decide +kernel
theorem dX1_errorIn_36 : decode cX1_errorIn 36 = .ok (.ifCond .ne 5, 3) := by decide +kernel
theorem dX1_errorIn_39 : decode cX1_errorIn 39 = .ok (.iload_n 3, 1) := by decide +kernel
theorem dX1_errorIn_40 : decode cX1_errorIn 40 = .ok (.ireturn, 1) := by decide +kernel
theorem dX1_errorIn_41 : decode cX1_errorIn 41 = .ok (.iinc 3 1, 3) := by decide +kernel
theorem dX1_errorIn_44 : decode cX1_errorIn 44 = .ok (.goto (-26), 3) := by decide +kernel
theorem dX1_errorIn_47 : decode cX1_errorIn 47 = .ok (.aload_n 0, 1) := by decide +kernel
theorem dX1_errorIn_48 : decode cX1_errorIn 48 = .ok (.getfield 19, 3) := by decide +kernel
theorem dX1_errorIn_51 : decode cX1_errorIn 51 = .ok (.ifCond .eq 10, 3) := by decide +kernel
theorem dX1_errorIn_54 : decode cX1_errorIn 54 = .ok (.aload_n 1, 1) := by decide +kernel
theorem dX1_errorIn_55 : decode cX1_errorIn 55 = .ok (.invokevirtual 23, 3) := by decide +kernel
theorem dX1_errorIn_58 : decode cX1_errorIn 58 = .ok (.goto 4, 3) := by decide +kernel
theorem dX1_errorIn_61 : decode cX1_errorIn 61 = .ok (.iconst (-1), 1) := by decide +kernel
theorem dX1_errorIn_62 : decode cX1_errorIn 62 = .ok (.ireturn, 1) := by decide +kernel
theorem dX1_effect_0 : decode cX1_effect 0 = .ok (.aload_n 0, 1) := by decide +kernel
theorem dX1_effect_1 : decode cX1_effect 1 = .ok (.getfield 10, 3) := by decide +kernel
theorem dX1_effect_4 : decode cX1_effect 4 = .ok (.ireturn, 1) := by decide +kernel
theorem dX1_accepts_0 : decode cX1_accepts 0 = .ok (.aload_n 0, 1) := by decide +kernel
theorem dX1_accepts_1 : decode cX1_accepts 1 = .ok (.getfield 19, 3) := by decide +kernel
theorem dX1_accepts_4 : decode cX1_accepts 4 = .ok (.ifCond .ne 25, 3) := by decide +kernel
theorem dX1_accepts_7 : decode cX1_accepts 7 = .ok (.aload_n 0, 1) := by decide +kernel
theorem dX1_accepts_8 : decode cX1_accepts 8 = .ok (.iconst 1, 1) := by decide +kernel
theorem dX1_accepts_9 : decode cX1_accepts 9 = .ok (.putfield 19, 3) := by decide +kernel
theorem dX1_accepts_12 : decode cX1_accepts 12 = .ok (.aload_n 0, 1) := by decide +kernel
theorem dX1_accepts_13 : decode cX1_accepts 13 = .ok (.iconst 0, 1) := by decide +kernel
theorem dX1_accepts_14 : decode cX1_accepts 14 = .ok (.putfield 37, 3) := by decide +kernel
theorem dX1_accepts_17 : decode cX1_accepts 17 = .ok (.iload_n 1, 1) := by decide +kernel
theorem dX1_accepts_18 : decode cX1_accepts 18 = .ok (.bipush 40, 2) := by decide +kernel
theorem dX1_accepts_20 : decode cX1_accepts 20 = .ok (.if_icmp .ne 7, 3) := by decide +kernel
theorem dX1_accepts_23 : decode cX1_accepts 23 = .ok (.iconst 1, 1) := by decide +kernel
theorem dX1_accepts_24 : decode cX1_accepts 24 = .ok (.goto 4, 3) := by decide +kernel
theorem dX1_accepts_27 : decode cX1_accepts 27 = .ok (.iconst 0, 1) := by decide +kernel
theorem dX1_accepts_28 : decode cX1_accepts 28 = .ok (.ireturn, 1) := by decide +kernel
theorem dX1_accepts_29 : decode cX1_accepts 29 = .ok (.iload_n 1, 1) := by decide +kernel
theorem dX1_accepts_30 : decode cX1_accepts 30 = .ok (.bipush 41, 2) := by decide +kernel
theorem dX1_accepts_32 : decode cX1_accepts 32 = .ok (.if_icmp .ne 41, 3) := by decide +kernel
theorem dX1_accepts_35 : decode cX1_accepts 35 = .ok (.aload_n 0, 1) := by decide +kernel
theorem dX1_accepts_36 : decode cX1_accepts 36 = .ok (.iconst 0, 1) := by decide +kernel
theorem dX1_accepts_37 : decode cX1_accepts 37 = .ok (.putfield 19, 3) := by decide +kernel
theorem dX1_accepts_40 : decode cX1_accepts 40 = .ok (.aload_n 0, 1) := by decide +kernel
theorem dX1_accepts_41 : decode cX1_accepts 41 = .ok (.aload_n 0, 1) := by decide +kernel
theorem dX1_accepts_42 : decode cX1_accepts 42 = .ok (.getfield 10, 3) := by decide +kernel
theorem dX1_accepts_45 : decode cX1_accepts 45 = .ok (.aload_n 0, 1) := by decide +kernel
theorem dX1_accepts_46 : decode cX1_accepts 46 = .ok (.getfield 40, 3) := by decide +kernel
theorem dX1_accepts_49 : decode cX1_accepts 49 = .ok (.aload_n 0, 1) := by decide +kernel
theorem dX1_accepts_50 : decode cX1_accepts 50 = .ok (.getfield 43, 3) := by decide +kernel
theorem dX1_accepts_53 : decode cX1_accepts 53 = .ok (.invokestatic 46, 3) := by decide +kernel
theorem dX1_accepts_56 : decode cX1_accepts 56 = .ok (.putfield 10, 3) := by decide +kernel
theorem dX1_accepts_59 : decode cX1_accepts 59 = .ok (.aload_n 0, 1) := by decide +kernel
theorem dX1_accepts_60 : decode cX1_accepts 60 = .ok (.getfield 37, 3) := by decide +kernel
theorem dX1_accepts_63 : decode cX1_accepts 63 = .ok (.iconst 2, 1) := by decide +kernel
theorem dX1_accepts_64 : decode cX1_accepts 64 = .ok (.if_icmp .lt 7, 3) := by decide +kernel
theorem dX1_accepts_67 : decode cX1_accepts 67 = .ok (.iconst 1, 1) := by decide +kernel
theorem dX1_accepts_68 : decode cX1_accepts 68 = .ok (.goto 4, 3) := by decide +kernel
theorem dX1_accepts_71 : decode cX1_accepts 71 = .ok (.iconst 0, 1) := by decide +kernel
theorem dX1_accepts_72 : decode cX1_accepts 72 = .ok (.ireturn, 1) := by decide +kernel
theorem dX1_accepts_73 : decode cX1_accepts 73 = .ok (.aload_n 0, 1) := by decide +kernel
theorem dX1_accepts_74 : decode cX1_accepts 74 = .ok (.iload_n 1, 1) := by decide +kernel
theorem dX1_accepts_75 : decode cX1_accepts 75 = .ok (.bipush 49, 2) := by decide +kernel
theorem dX1_accepts_77 : decode cX1_accepts 77 = .ok (.isub, 1) := by decide +kernel
theorem dX1_accepts_78 : decode cX1_accepts 78 = .ok (.iload_n 2, 1) := by decide +kernel
theorem dX1_accepts_79 : decode cX1_accepts 79 = .ok (.invokevirtual 52, 3) := by decide +kernel
theorem dX1_accepts_82 : decode cX1_accepts 82 = .ok (.ireturn, 1) := by decide +kernel
theorem dX1_acceptsPosition_0 : decode cX1_acceptsPosition 0 = .ok (.iload_n 1, 1) := by decide +kernel
theorem dX1_acceptsPosition_1 : decode cX1_acceptsPosition 1 = .ok (.ifCond .lt 20, 3) := by decide +kernel
theorem dX1_acceptsPosition_4 : decode cX1_acceptsPosition 4 = .ok (.iload_n 1, 1) := by decide +kernel
theorem dX1_acceptsPosition_5 : decode cX1_acceptsPosition 5 = .ok (.iload_n 2, 1) := by decide +kernel
theorem dX1_acceptsPosition_6 : decode cX1_acceptsPosition 6 = .ok (.if_icmp .ge 15, 3) := by decide +kernel
theorem dX1_acceptsPosition_9 : decode cX1_acceptsPosition 9 = .ok (.aload_n 0, 1) := by decide +kernel
theorem dX1_acceptsPosition_10 : decode cX1_acceptsPosition 10 = .ok (.getfield 16, 3) := by decide +kernel
theorem dX1_acceptsPosition_13 : decode cX1_acceptsPosition 13 = .ok (.iload_n 1, 1) := by decide +kernel
theorem dX1_acceptsPosition_14 : decode cX1_acceptsPosition 14 = .ok (.iushr, 1) := by decide +kernel
theorem dX1_acceptsPosition_15 : decode cX1_acceptsPosition 15 = .ok (.iconst 1, 1) := by decide +kernel
theorem dX1_acceptsPosition_16 : decode cX1_acceptsPosition 16 = .ok (.iand, 1) := by decide +kernel
theorem dX1_acceptsPosition_17 : decode cX1_acceptsPosition 17 = .ok (.iconst 1, 1) := by decide +kernel
theorem dX1_acceptsPosition_18 : decode cX1_acceptsPosition 18 = .ok (.if_icmp .ne 5, 3) := by decide +kernel
theorem dX1_acceptsPosition_21 : decode cX1_acceptsPosition 21 = .ok (.iconst 0, 1) := by decide +kernel
theorem dX1_acceptsPosition_22 : decode cX1_acceptsPosition 22 = .ok (.ireturn, 1) := by decide +kernel
theorem dX1_acceptsPosition_23 : decode cX1_acceptsPosition 23 = .ok (.aload_n 0, 1) := by decide +kernel
theorem dX1_acceptsPosition_24 : decode cX1_acceptsPosition 24 = .ok (.dup, 1) := by decide +kernel
theorem dX1_acceptsPosition_25 : decode cX1_acceptsPosition 25 = .ok (.getfield 16, 3) := by decide +kernel
theorem dX1_acceptsPosition_28 : decode cX1_acceptsPosition 28 = .ok (.iconst 1, 1) := by decide +kernel
theorem dX1_acceptsPosition_29 : decode cX1_acceptsPosition 29 = .ok (.iload_n 1, 1) := by decide +kernel
theorem dX1_acceptsPosition_30 : decode cX1_acceptsPosition 30 = .ok (.ishl, 1) := by decide +kernel
theorem dX1_acceptsPosition_31 : decode cX1_acceptsPosition 31 = .ok (.ior, 1) := by decide +kernel
theorem dX1_acceptsPosition_32 : decode cX1_acceptsPosition 32 = .ok (.putfield 16, 3) := by decide +kernel
theorem dX1_acceptsPosition_35 : decode cX1_acceptsPosition 35 = .ok (.aload_n 0, 1) := by decide +kernel
theorem dX1_acceptsPosition_36 : decode cX1_acceptsPosition 36 = .ok (.getfield 37, 3) := by decide +kernel
theorem dX1_acceptsPosition_39 : decode cX1_acceptsPosition 39 = .ok (.ifCond .ne 11, 3) := by decide +kernel
theorem dX1_acceptsPosition_42 : decode cX1_acceptsPosition 42 = .ok (.aload_n 0, 1) := by decide +kernel
theorem dX1_acceptsPosition_43 : decode cX1_acceptsPosition 43 = .ok (.iload_n 1, 1) := by decide +kernel
theorem dX1_acceptsPosition_44 : decode cX1_acceptsPosition 44 = .ok (.putfield 43, 3) := by decide +kernel
theorem dX1_acceptsPosition_47 : decode cX1_acceptsPosition 47 = .ok (.goto 19, 3) := by decide +kernel
theorem dX1_acceptsPosition_50 : decode cX1_acceptsPosition 50 = .ok (.aload_n 0, 1) := by decide +kernel
theorem dX1_acceptsPosition_51 : decode cX1_acceptsPosition 51 = .ok (.aload_n 0, 1) := by decide +kernel
theorem dX1_acceptsPosition_52 : decode cX1_acceptsPosition 52 = .ok (.getfield 10, 3) := by decide +kernel
theorem dX1_acceptsPosition_55 : decode cX1_acceptsPosition 55 = .ok (.aload_n 0, 1) := by decide +kernel
theorem dX1_acceptsPosition_56 : decode cX1_acceptsPosition 56 = .ok (.getfield 40, 3) := by decide +kernel
theorem dX1_acceptsPosition_59 : decode cX1_acceptsPosition 59 = .ok (.iload_n 1, 1) := by decide +kernel
theorem dX1_acceptsPosition_60 : decode cX1_acceptsPosition 60 = .ok (.invokestatic 46, 3) := by decide +kernel
theorem dX1_acceptsPosition_63 : decode cX1_acceptsPosition 63 = .ok (.putfield 10, 3) := by decide +kernel
theorem dX1_acceptsPosition_66 : decode cX1_acceptsPosition 66 = .ok (.aload_n 0, 1) := by decide +kernel
theorem dX1_acceptsPosition_67 : decode cX1_acceptsPosition 67 = .ok (.iload_n 1, 1) := by decide +kernel
theorem dX1_acceptsPosition_68 : decode cX1_acceptsPosition 68 = .ok (.putfield 40, 3) := by decide +kernel
theorem dX1_acceptsPosition_71 : decode cX1_acceptsPosition 71 = .ok (.aload_n 0, 1) := by decide +kernel
theorem dX1_acceptsPosition_72 : decode cX1_acceptsPosition 72 = .ok (.dup, 1) := by decide +kernel
theorem dX1_acceptsPosition_73 : decode cX1_acceptsPosition 73 = .ok (.getfield 37, 3) := by decide +kernel
theorem dX1_acceptsPosition_76 : decode cX1_acceptsPosition 76 = .ok (.iconst 1, 1) := by decide +kernel
theorem dX1_acceptsPosition_77 : decode cX1_acceptsPosition 77 = .ok (.iadd, 1) := by decide +kernel
theorem dX1_acceptsPosition_78 : decode cX1_acceptsPosition 78 = .ok (.putfield 37, 3) := by decide +kernel
theorem dX1_acceptsPosition_81 : decode cX1_acceptsPosition 81 = .ok (.iconst 1, 1) := by decide +kernel
theorem dX1_acceptsPosition_82 : decode cX1_acceptsPosition 82 = .ok (.ireturn, 1) := by decide +kernel
theorem dX2_init_0 : decode cX2_init 0 = .ok (.aload_n 0, 1) := by decide +kernel
theorem dX2_init_1 : decode cX2_init 1 = .ok (.invokespecial 3, 3) := by decide +kernel
theorem dX2_init_4 : decode cX2_init 4 = .ok (.aload_n 0, 1) := by decide +kernel
theorem dX2_init_5 : decode cX2_init 5 = .ok (.sipush 5040, 3) := by decide +kernel
theorem dX2_init_8 : decode cX2_init 8 = .ok (.newarray .int, 2) := by decide +kernel
theorem dX2_init_10 : decode cX2_init 10 = .ok (.putfield 9, 3) := by decide +kernel
theorem dX2_init_13 : decode cX2_init 13 = .ok (.aload_n 0, 1) := by decide +kernel
theorem dX2_init_14 : decode cX2_init 14 = .ok (.sipush 5040, 3) := by decide +kernel
theorem dX2_init_17 : decode cX2_init 17 = .ok (.newarray .int, 2) := by decide +kernel
theorem dX2_init_19 : decode cX2_init 19 = .ok (.putfield 15, 3) := by decide +kernel
theorem dX2_init_22 : decode cX2_init 22 = .ok (.aload_n 0, 1) := by decide +kernel
theorem dX2_init_23 : decode cX2_init 23 = .ok (.sipush 5041, 3) := by decide +kernel
theorem dX2_init_26 : decode cX2_init 26 = .ok (.newarray .int, 2) := by decide +kernel
theorem dX2_init_28 : decode cX2_init 28 = .ok (.putfield 18, 3) := by decide +kernel
theorem dX2_init_31 : decode cX2_init 31 = .ok (.aload_n 0, 1) := by decide +kernel
theorem dX2_init_32 : decode cX2_init 32 = .ok (.bipush 10, 2) := by decide +kernel
theorem dX2_init_34 : decode cX2_init 34 = .ok (.newarray .int, 2) := by decide +kernel
theorem dX2_init_36 : decode cX2_init 36 = .ok (.putfield 21, 3) := by decide +kernel
theorem dX2_init_39 : decode cX2_init 39 = .ok (.aload_n 0, 1) := by decide +kernel
theorem dX2_init_40 : decode cX2_init 40 = .ok (.iconst 0, 1) := by decide +kernel
theorem dX2_init_41 : decode cX2_init 41 = .ok (.putfield 24, 3) := by decide +kernel
theorem dX2_init_44 : decode cX2_init 44 = .ok (.aload_n 0, 1) := by decide +kernel
theorem dX2_init_45 : decode cX2_init 45 = .ok (.iconst 0, 1) := by decide +kernel
theorem dX2_init_46 : decode cX2_init 46 = .ok (.putfield 28, 3) := by decide +kernel
theorem dX2_init_49 : decode cX2_init 49 = .ok (.aload_n 0, 1) := by decide +kernel
theorem dX2_init_50 : decode cX2_init 50 = .ok (.iconst 0, 1) := by decide +kernel
theorem dX2_init_51 : decode cX2_init 51 = .ok (.putfield 31, 3) := by decide +kernel
theorem dX2_init_54 : decode cX2_init 54 = .ok (.return_, 1) := by decide +kernel
theorem dX2_build_0 : decode cX2_build 0 = .ok (.aload_n 0, 1) := by decide +kernel
theorem dX2_build_1 : decode cX2_build 1 = .ok (.aload_n 1, 1) := by decide +kernel
theorem dX2_build_2 : decode cX2_build 2 = .ok (.invokevirtual 34, 3) := by decide +kernel
theorem dX2_build_5 : decode cX2_build 5 = .ok (.aload_n 0, 1) := by decide +kernel
theorem dX2_build_6 : decode cX2_build 6 = .ok (.iload_n 2, 1) := by decide +kernel
theorem dX2_build_7 : decode cX2_build 7 = .ok (.invokevirtual 38, 3) := by decide +kernel
theorem dX2_build_10 : decode cX2_build 10 = .ok (.istore_n 3, 1) := by decide +kernel
theorem dX2_build_11 : decode cX2_build 11 = .ok (.aload_n 0, 1) := by decide +kernel
theorem dX2_build_12 : decode cX2_build 12 = .ok (.ldc 42, 2) := by decide +kernel
theorem dX2_build_14 : decode cX2_build 14 = .ok (.iconst 0, 1) := by decide +kernel
theorem dX2_build_15 : decode cX2_build 15 = .ok (.invokevirtual 43, 3) := by decide +kernel
theorem dX2_build_18 : decode cX2_build 18 = .ok (.iconst 0, 1) := by decide +kernel
theorem dX2_build_19 : decode cX2_build 19 = .ok (.istore 4, 2) := by decide +kernel
theorem dX2_build_21 : decode cX2_build 21 = .ok (.iconst 0, 1) := by decide +kernel
theorem dX2_build_22 : decode cX2_build 22 = .ok (.istore 5, 2) := by decide +kernel
theorem dX2_build_24 : decode cX2_build 24 = .ok (.iload 5, 2) := by decide +kernel
theorem dX2_build_26 : decode cX2_build 26 = .ok (.sipush 5040, 3) := by decide +kernel
theorem dX2_build_29 : decode cX2_build 29 = .ok (.if_icmp .ge 113, 3) := by decide +kernel
theorem dX2_build_32 : decode cX2_build 32 = .ok (.iload 4, 2) := by decide +kernel
theorem dX2_build_34 : decode cX2_build 34 = .ok (.aload_n 0, 1) := by decide +kernel
theorem dX2_build_35 : decode cX2_build 35 = .ok (.getfield 28, 3) := by decide +kernel
theorem dX2_build_38 : decode cX2_build 38 = .ok (.if_icmp .ge 104, 3) := by decide +kernel
theorem dX2_build_41 : decode cX2_build 41 = .ok (.aload_n 0, 1) := by decide +kernel
theorem dX2_build_42 : decode cX2_build 42 = .ok (.getfield 28, 3) := by decide +kernel
theorem dX2_build_45 : decode cX2_build 45 = .ok (.istore 6, 2) := by decide +kernel
theorem dX2_build_47 : decode cX2_build 47 = .ok (.iload 4, 2) := by decide +kernel
theorem dX2_build_49 : decode cX2_build 49 = .ok (.istore 7, 2) := by decide +kernel
theorem dX2_build_51 : decode cX2_build 51 = .ok (.iload 7, 2) := by decide +kernel
theorem dX2_build_53 : decode cX2_build 53 = .ok (.iload 6, 2) := by decide +kernel
theorem dX2_build_55 : decode cX2_build 55 = .ok (.if_icmp .ge 60, 3) := by decide +kernel
theorem dX2_build_58 : decode cX2_build 58 = .ok (.aload_n 0, 1) := by decide +kernel
theorem dX2_build_59 : decode cX2_build 59 = .ok (.getfield 28, 3) := by decide +kernel
theorem dX2_build_62 : decode cX2_build 62 = .ok (.iload_n 3, 1) := by decide +kernel
theorem dX2_build_63 : decode cX2_build 63 = .ok (.if_icmp .ge 52, 3) := by decide +kernel
theorem dX2_build_66 : decode cX2_build 66 = .ok (.iconst 0, 1) := by decide +kernel
theorem dX2_build_67 : decode cX2_build 67 = .ok (.istore 8, 2) := by decide +kernel
theorem dX2_build_69 : decode cX2_build 69 = .ok (.iload 8, 2) := by decide +kernel
theorem dX2_build_71 : decode cX2_build 71 = .ok (.aload_n 0, 1) := by decide +kernel
theorem dX2_build_72 : decode cX2_build 72 = .ok (.getfield 24, 3) := by decide +kernel
theorem dX2_build_75 : decode cX2_build 75 = .ok (.if_icmp .ge 34, 3) := by decide +kernel
theorem dX2_build_78 : decode cX2_build 78 = .ok (.aload_n 0, 1) := by decide +kernel
theorem dX2_build_79 : decode cX2_build 79 = .ok (.aload_n 0, 1) := by decide +kernel
theorem dX2_build_80 : decode cX2_build 80 = .ok (.getfield 15, 3) := by decide +kernel
theorem dX2_build_83 : decode cX2_build 83 = .ok (.iload 7, 2) := by decide +kernel
theorem dX2_build_85 : decode cX2_build 85 = .ok (.iaload, 1) := by decide +kernel
theorem dX2_build_86 : decode cX2_build 86 = .ok (.aload_n 0, 1) := by decide +kernel
theorem dX2_build_87 : decode cX2_build 87 = .ok (.getfield 21, 3) := by decide +kernel
theorem dX2_build_90 : decode cX2_build 90 = .ok (.iload 8, 2) := by decide +kernel
theorem dX2_build_92 : decode cX2_build 92 = .ok (.iaload, 1) := by decide +kernel
theorem dX2_build_93 : decode cX2_build 93 = .ok (.invokestatic 47, 3) := by decide +kernel
theorem dX2_build_96 : decode cX2_build 96 = .ok (.iload 5, 2) := by decide +kernel
theorem dX2_build_98 : decode cX2_build 98 = .ok (.iconst 1, 1) := by decide +kernel
theorem dX2_build_99 : decode cX2_build 99 = .ok (.iadd, 1) := by decide +kernel
theorem dX2_build_100 : decode cX2_build 100 = .ok (.invokevirtual 43, 3) := by decide +kernel
theorem dX2_build_103 : decode cX2_build 103 = .ok (.iinc 8 1, 3) := by decide +kernel
theorem dX2_build_106 : decode cX2_build 106 = .ok (.goto (-37), 3) := by decide +kernel
theorem dX2_build_109 : decode cX2_build 109 = .ok (.iinc 7 1, 3) := by decide +kernel
theorem dX2_build_112 : decode cX2_build 112 = .ok (.goto (-61), 3) := by decide +kernel
theorem dX2_build_115 : decode cX2_build 115 = .ok (.aload_n 0, 1) := by decide +kernel
theorem dX2_build_116 : decode cX2_build 116 = .ok (.getfield 18, 3) := by decide +kernel
theorem dX2_build_119 : decode cX2_build 119 = .ok (.iload 5, 2) := by decide +kernel
theorem dX2_build_121 : decode cX2_build 121 = .ok (.iconst 1, 1) := by decide +kernel
theorem dX2_build_122 : decode cX2_build 122 = .ok (.iadd, 1) := by decide +kernel
theorem dX2_build_123 : decode cX2_build 123 = .ok (.iload 6, 2) := by decide +kernel
theorem dX2_build_125 : decode cX2_build 125 = .ok (.iastore, 1) := by decide +kernel
theorem dX2_build_126 : decode cX2_build 126 = .ok (.aload_n 0, 1) := by decide +kernel
theorem dX2_build_127 : decode cX2_build 127 = .ok (.iload 5, 2) := by decide +kernel
theorem dX2_build_129 : decode cX2_build 129 = .ok (.putfield 31, 3) := by decide +kernel
theorem dX2_build_132 : decode cX2_build 132 = .ok (.iload 6, 2) := by decide +kernel
theorem dX2_build_134 : decode cX2_build 134 = .ok (.istore 4, 2) := by decide +kernel
theorem dX2_build_136 : decode cX2_build 136 = .ok (.iinc 5 1, 3) := by decide +kernel
theorem dX2_build_139 : decode cX2_build 139 = .ok (.goto (-115), 3) := by decide +kernel
theorem dX2_build_142 : decode cX2_build 142 = .ok (.return_, 1) := by decide +kernel
theorem dX2_levelOf_0 : decode cX2_levelOf 0 = .ok (.iload_n 1, 1) := by decide +kernel
theorem dX2_levelOf_1 : decode cX2_levelOf 1 = .ok (.invokestatic 53, 3) := by decide +kernel
theorem dX2_levelOf_4 : decode cX2_levelOf 4 = .ok (.istore_n 2, 1) := by decide +kernel
theorem dX2_levelOf_5 : decode cX2_levelOf 5 = .ok (.iload_n 2, 1) := by decide +kernel
theorem dX2_levelOf_6 : decode cX2_levelOf 6 = .ok (.ifCond .lt 21, 3) := by decide +kernel
theorem dX2_levelOf_9 : decode cX2_levelOf 9 = .ok (.iload_n 2, 1) := by decide +kernel
theorem dX2_levelOf_10 : decode cX2_levelOf 10 = .ok (.aload_n 0, 1) := by decide +kernel
theorem dX2_levelOf_11 : decode cX2_levelOf 11 = .ok (.getfield 9, 3) := by decide +kernel
theorem dX2_levelOf_14 : decode cX2_levelOf 14 = .ok (.arraylength, 1) := by decide +kernel
theorem dX2_levelOf_15 : decode cX2_levelOf 15 = .ok (.if_icmp .ge 12, 3) := by decide +kernel
theorem dX2_levelOf_18 : decode cX2_levelOf 18 = .ok (.aload_n 0, 1) := by decide +kernel
theorem dX2_levelOf_19 : decode cX2_levelOf 19 = .ok (.getfield 9, 3) := by decide +kernel
theorem dX2_levelOf_22 : decode cX2_levelOf 22 = .ok (.iload_n 2, 1) := by decide +kernel
theorem dX2_levelOf_23 : decode cX2_levelOf 23 = .ok (.iaload, 1) := by decide +kernel
theorem dX2_levelOf_24 : decode cX2_levelOf 24 = .ok (.goto 4, 3) := by decide +kernel
theorem dX2_levelOf_27 : decode cX2_levelOf 27 = .ok (.iconst (-1), 1) := by decide +kernel
theorem dX2_levelOf_28 : decode cX2_levelOf 28 = .ok (.ireturn, 1) := by decide +kernel
theorem dX2_size_0 : decode cX2_size 0 = .ok (.aload_n 0, 1) := by decide +kernel
theorem dX2_size_1 : decode cX2_size 1 = .ok (.getfield 28, 3) := by decide +kernel
theorem dX2_size_4 : decode cX2_size 4 = .ok (.ireturn, 1) := by decide +kernel
theorem dX2_lastLevel_0 : decode cX2_lastLevel 0 = .ok (.aload_n 0, 1) := by decide +kernel
theorem dX2_lastLevel_1 : decode cX2_lastLevel 1 = .ok (.getfield 31, 3) := by decide +kernel
theorem dX2_lastLevel_4 : decode cX2_lastLevel 4 = .ok (.ireturn, 1) := by decide +kernel
theorem dX2_sizeOfLevel_0 : decode cX2_sizeOfLevel 0 = .ok (.iload_n 1, 1) := by decide +kernel
theorem dX2_sizeOfLevel_1 : decode cX2_sizeOfLevel 1 = .ok (.ifCond .lt 29, 3) := by decide +kernel
theorem dX2_sizeOfLevel_4 : decode cX2_sizeOfLevel 4 = .ok (.iload_n 1, 1) := by decide +kernel
theorem dX2_sizeOfLevel_5 : decode cX2_sizeOfLevel 5 = .ok (.aload_n 0, 1) := by decide +kernel
theorem dX2_sizeOfLevel_6 : decode cX2_sizeOfLevel 6 = .ok (.getfield 31, 3) := by decide +kernel
theorem dX2_sizeOfLevel_9 : decode cX2_sizeOfLevel 9 = .ok (.if_icmp .gt 21, 3) := by decide +kernel
theorem dX2_sizeOfLevel_12 : decode cX2_sizeOfLevel 12 = .ok (.aload_n 0, 1) := by decide +kernel
theorem dX2_sizeOfLevel_13 : decode cX2_sizeOfLevel 13 = .ok (.getfield 18, 3) := by decide +kernel
theorem dX2_sizeOfLevel_16 : decode cX2_sizeOfLevel 16 = .ok (.iload_n 1, 1) := by decide +kernel
theorem dX2_sizeOfLevel_17 : decode cX2_sizeOfLevel 17 = .ok (.iconst 1, 1) := by decide +kernel
theorem dX2_sizeOfLevel_18 : decode cX2_sizeOfLevel 18 = .ok (.iadd, 1) := by decide +kernel
theorem dX2_sizeOfLevel_19 : decode cX2_sizeOfLevel 19 = .ok (.iaload, 1) := by decide +kernel
theorem dX2_sizeOfLevel_20 : decode cX2_sizeOfLevel 20 = .ok (.aload_n 0, 1) := by decide +kernel
theorem dX2_sizeOfLevel_21 : decode cX2_sizeOfLevel 21 = .ok (.getfield 18, 3) := by decide +kernel
theorem dX2_sizeOfLevel_24 : decode cX2_sizeOfLevel 24 = .ok (.iload_n 1, 1) := by decide +kernel
theorem dX2_sizeOfLevel_25 : decode cX2_sizeOfLevel 25 = .ok (.iaload, 1) := by decide +kernel
theorem dX2_sizeOfLevel_26 : decode cX2_sizeOfLevel 26 = .ok (.isub, 1) := by decide +kernel
theorem dX2_sizeOfLevel_27 : decode cX2_sizeOfLevel 27 = .ok (.goto 4, 3) := by decide +kernel
theorem dX2_sizeOfLevel_30 : decode cX2_sizeOfLevel 30 = .ok (.iconst 0, 1) := by decide +kernel
theorem dX2_sizeOfLevel_31 : decode cX2_sizeOfLevel 31 = .ok (.ireturn, 1) := by decide +kernel
theorem dX2_sumOfDepths_0 : decode cX2_sumOfDepths 0 = .ok (.iconst 0, 1) := by decide +kernel
theorem dX2_sumOfDepths_1 : decode cX2_sumOfDepths 1 = .ok (.istore_n 1, 1) := by decide +kernel
theorem dX2_sumOfDepths_2 : decode cX2_sumOfDepths 2 = .ok (.iconst 1, 1) := by decide +kernel
theorem dX2_sumOfDepths_3 : decode cX2_sumOfDepths 3 = .ok (.istore_n 2, 1) := by decide +kernel
theorem dX2_sumOfDepths_4 : decode cX2_sumOfDepths 4 = .ok (.iload_n 2, 1) := by decide +kernel
theorem dX2_sumOfDepths_5 : decode cX2_sumOfDepths 5 = .ok (.aload_n 0, 1) := by decide +kernel
theorem dX2_sumOfDepths_6 : decode cX2_sumOfDepths 6 = .ok (.getfield 31, 3) := by decide +kernel
theorem dX2_sumOfDepths_9 : decode cX2_sumOfDepths 9 = .ok (.if_icmp .gt 19, 3) := by decide +kernel
theorem dX2_sumOfDepths_12 : decode cX2_sumOfDepths 12 = .ok (.iload_n 1, 1) := by decide +kernel
theorem dX2_sumOfDepths_13 : decode cX2_sumOfDepths 13 = .ok (.iload_n 2, 1) := by decide +kernel
theorem dX2_sumOfDepths_14 : decode cX2_sumOfDepths 14 = .ok (.aload_n 0, 1) := by decide +kernel
theorem dX2_sumOfDepths_15 : decode cX2_sumOfDepths 15 = .ok (.iload_n 2, 1) := by decide +kernel
theorem dX2_sumOfDepths_16 : decode cX2_sumOfDepths 16 = .ok (.invokevirtual 56, 3) := by decide +kernel
theorem dX2_sumOfDepths_19 : decode cX2_sumOfDepths 19 = .ok (.imul, 1) := by decide +kernel
theorem dX2_sumOfDepths_20 : decode cX2_sumOfDepths 20 = .ok (.iadd, 1) := by decide +kernel
theorem dX2_sumOfDepths_21 : decode cX2_sumOfDepths 21 = .ok (.istore_n 1, 1) := by decide +kernel
theorem dX2_sumOfDepths_22 : decode cX2_sumOfDepths 22 = .ok (.iinc 2 1, 3) := by decide +kernel
theorem dX2_sumOfDepths_25 : decode cX2_sumOfDepths 25 = .ok (.goto (-21), 3) := by decide +kernel
theorem dX2_sumOfDepths_28 : decode cX2_sumOfDepths 28 = .ok (.iload_n 1, 1) := by decide +kernel
theorem dX2_sumOfDepths_29 : decode cX2_sumOfDepths 29 = .ok (.ireturn, 1) := by decide +kernel
theorem dX2_listTurns_0 : decode cX2_listTurns 0 = .ok (.aload_n 0, 1) := by decide +kernel
theorem dX2_listTurns_1 : decode cX2_listTurns 1 = .ok (.iconst 0, 1) := by decide +kernel
theorem dX2_listTurns_2 : decode cX2_listTurns 2 = .ok (.putfield 24, 3) := by decide +kernel
theorem dX2_listTurns_5 : decode cX2_listTurns 5 = .ok (.iconst 0, 1) := by decide +kernel
theorem dX2_listTurns_6 : decode cX2_listTurns 6 = .ok (.istore_n 2, 1) := by decide +kernel
theorem dX2_listTurns_7 : decode cX2_listTurns 7 = .ok (.iload_n 2, 1) := by decide +kernel
theorem dX2_listTurns_8 : decode cX2_listTurns 8 = .ok (.bipush 10, 2) := by decide +kernel
theorem dX2_listTurns_10 : decode cX2_listTurns 10 = .ok (.if_icmp .ge 49, 3) := by decide +kernel
theorem dX2_listTurns_13 : decode cX2_listTurns 13 = .ok (.aload_n 1, 1) := by decide +kernel
theorem dX2_listTurns_14 : decode cX2_listTurns 14 = .ok (.iload_n 2, 1) := by decide +kernel
theorem dX2_listTurns_15 : decode cX2_listTurns 15 = .ok (.invokevirtual 59, 3) := by decide +kernel
theorem dX2_listTurns_18 : decode cX2_listTurns 18 = .ok (.istore_n 3, 1) := by decide +kernel
theorem dX2_listTurns_19 : decode cX2_listTurns 19 = .ok (.iload_n 3, 1) := by decide +kernel
theorem dX2_listTurns_20 : decode cX2_listTurns 20 = .ok (.ldc 42, 2) := by decide +kernel
theorem dX2_listTurns_22 : decode cX2_listTurns 22 = .ok (.if_icmp .eq 31, 3) := by decide +kernel
theorem dX2_listTurns_25 : decode cX2_listTurns 25 = .ok (.aload_n 0, 1) := by decide +kernel
theorem dX2_listTurns_26 : decode cX2_listTurns 26 = .ok (.iload_n 3, 1) := by decide +kernel
theorem dX2_listTurns_27 : decode cX2_listTurns 27 = .ok (.invokevirtual 64, 3) := by decide +kernel
theorem dX2_listTurns_30 : decode cX2_listTurns 30 = .ok (.ifCond .ne 23, 3) := by decide +kernel
theorem dX2_listTurns_33 : decode cX2_listTurns 33 = .ok (.aload_n 0, 1) := by decide +kernel
theorem dX2_listTurns_34 : decode cX2_listTurns 34 = .ok (.getfield 21, 3) := by decide +kernel
theorem dX2_listTurns_37 : decode cX2_listTurns 37 = .ok (.aload_n 0, 1) := by decide +kernel
theorem dX2_listTurns_38 : decode cX2_listTurns 38 = .ok (.getfield 24, 3) := by decide +kernel
theorem dX2_listTurns_41 : decode cX2_listTurns 41 = .ok (.iload_n 3, 1) := by decide +kernel
theorem dX2_listTurns_42 : decode cX2_listTurns 42 = .ok (.iastore, 1) := by decide +kernel
theorem dX2_listTurns_43 : decode cX2_listTurns 43 = .ok (.aload_n 0, 1) := by decide +kernel
theorem dX2_listTurns_44 : decode cX2_listTurns 44 = .ok (.dup, 1) := by decide +kernel
theorem dX2_listTurns_45 : decode cX2_listTurns 45 = .ok (.getfield 24, 3) := by decide +kernel
theorem dX2_listTurns_48 : decode cX2_listTurns 48 = .ok (.iconst 1, 1) := by decide +kernel
theorem dX2_listTurns_49 : decode cX2_listTurns 49 = .ok (.iadd, 1) := by decide +kernel
theorem dX2_listTurns_50 : decode cX2_listTurns 50 = .ok (.putfield 24, 3) := by decide +kernel
theorem dX2_listTurns_53 : decode cX2_listTurns 53 = .ok (.iinc 2 1, 3) := by decide +kernel
theorem dX2_listTurns_56 : decode cX2_listTurns 56 = .ok (.goto (-49), 3) := by decide +kernel
theorem dX2_listTurns_59 : decode cX2_listTurns 59 = .ok (.return_, 1) := by decide +kernel
theorem dX2_isListed_0 : decode cX2_isListed 0 = .ok (.iconst 0, 1) := by decide +kernel
theorem dX2_isListed_1 : decode cX2_isListed 1 = .ok (.istore_n 2, 1) := by decide +kernel
theorem dX2_isListed_2 : decode cX2_isListed 2 = .ok (.iload_n 2, 1) := by decide +kernel
theorem dX2_isListed_3 : decode cX2_isListed 3 = .ok (.aload_n 0, 1) := by decide +kernel
theorem dX2_isListed_4 : decode cX2_isListed 4 = .ok (.getfield 24, 3) := by decide +kernel
theorem dX2_isListed_7 : decode cX2_isListed 7 = .ok (.if_icmp .ge 21, 3) := by decide +kernel
theorem dX2_isListed_10 : decode cX2_isListed 10 = .ok (.aload_n 0, 1) := by decide +kernel
theorem dX2_isListed_11 : decode cX2_isListed 11 = .ok (.getfield 21, 3) := by decide +kernel
theorem dX2_isListed_14 : decode cX2_isListed 14 = .ok (.iload_n 2, 1) := by decide +kernel
theorem dX2_isListed_15 : decode cX2_isListed 15 = .ok (.iaload, 1) := by decide +kernel
theorem dX2_isListed_16 : decode cX2_isListed 16 = .ok (.iload_n 1, 1) := by decide +kernel
theorem dX2_isListed_17 : decode cX2_isListed 17 = .ok (.if_icmp .ne 5, 3) := by decide +kernel
theorem dX2_isListed_20 : decode cX2_isListed 20 = .ok (.iconst 1, 1) := by decide +kernel
theorem dX2_isListed_21 : decode cX2_isListed 21 = .ok (.ireturn, 1) := by decide +kernel
theorem dX2_isListed_22 : decode cX2_isListed 22 = .ok (.iinc 2 1, 3) := by decide +kernel
theorem dX2_isListed_25 : decode cX2_isListed 25 = .ok (.goto (-23), 3) := by decide +kernel
theorem dX2_isListed_28 : decode cX2_isListed 28 = .ok (.iconst 0, 1) := by decide +kernel
theorem dX2_isListed_29 : decode cX2_isListed 29 = .ok (.ireturn, 1) := by decide +kernel
theorem dX2_clear_0 : decode cX2_clear 0 = .ok (.iconst 1, 1) := by decide +kernel
theorem dX2_clear_1 : decode cX2_clear 1 = .ok (.istore_n 2, 1) := by decide +kernel
theorem dX2_clear_2 : decode cX2_clear 2 = .ok (.iconst 2, 1) := by decide +kernel
theorem dX2_clear_3 : decode cX2_clear 3 = .ok (.istore_n 3, 1) := by decide +kernel
theorem dX2_clear_4 : decode cX2_clear 4 = .ok (.iload_n 3, 1) := by decide +kernel
theorem dX2_clear_5 : decode cX2_clear 5 = .ok (.iload_n 1, 1) := by decide +kernel
theorem dX2_clear_6 : decode cX2_clear 6 = .ok (.if_icmp .gt 19, 3) := by decide +kernel
theorem dX2_clear_9 : decode cX2_clear 9 = .ok (.iload_n 3, 1) := by decide +kernel
theorem dX2_clear_10 : decode cX2_clear 10 = .ok (.bipush 7, 2) := by decide +kernel
theorem dX2_clear_12 : decode cX2_clear 12 = .ok (.if_icmp .gt 13, 3) := by decide +kernel
theorem dX2_clear_15 : decode cX2_clear 15 = .ok (.iload_n 2, 1) := by decide +kernel
theorem dX2_clear_16 : decode cX2_clear 16 = .ok (.iload_n 3, 1) := by decide +kernel
theorem dX2_clear_17 : decode cX2_clear 17 = .ok (.imul, 1) := by decide +kernel
theorem dX2_clear_18 : decode cX2_clear 18 = .ok (.istore_n 2, 1) := by decide +kernel
theorem dX2_clear_19 : decode cX2_clear 19 = .ok (.iinc 3 1, 3) := by decide +kernel
theorem dX2_clear_22 : decode cX2_clear 22 = .ok (.goto (-18), 3) := by decide +kernel
theorem dX2_clear_25 : decode cX2_clear 25 = .ok (.iconst 0, 1) := by decide +kernel
theorem dX2_clear_26 : decode cX2_clear 26 = .ok (.istore_n 3, 1) := by decide +kernel
theorem dX2_clear_27 : decode cX2_clear 27 = .ok (.iload_n 3, 1) := by decide +kernel
theorem dX2_clear_28 : decode cX2_clear 28 = .ok (.iload_n 2, 1) := by decide +kernel
theorem dX2_clear_29 : decode cX2_clear 29 = .ok (.if_icmp .ge 25, 3) := by decide +kernel
theorem dX2_clear_32 : decode cX2_clear 32 = .ok (.iload_n 3, 1) := by decide +kernel
theorem dX2_clear_33 : decode cX2_clear 33 = .ok (.aload_n 0, 1) := by decide +kernel
theorem dX2_clear_34 : decode cX2_clear 34 = .ok (.getfield 9, 3) := by decide +kernel
theorem dX2_clear_37 : decode cX2_clear 37 = .ok (.arraylength, 1) := by decide +kernel
theorem dX2_clear_38 : decode cX2_clear 38 = .ok (.if_icmp .ge 16, 3) := by decide +kernel
theorem dX2_clear_41 : decode cX2_clear 41 = .ok (.aload_n 0, 1) := by decide +kernel
theorem dX2_clear_42 : decode cX2_clear 42 = .ok (.getfield 9, 3) := by decide +kernel
theorem dX2_clear_45 : decode cX2_clear 45 = .ok (.iload_n 3, 1) := by decide +kernel
theorem dX2_clear_46 : decode cX2_clear 46 = .ok (.iconst (-1), 1) := by decide +kernel
theorem dX2_clear_47 : decode cX2_clear 47 = .ok (.iastore, 1) := by decide +kernel
theorem dX2_clear_48 : decode cX2_clear 48 = .ok (.iinc 3 1, 3) := by decide +kernel
theorem dX2_clear_51 : decode cX2_clear 51 = .ok (.goto (-24), 3) := by decide +kernel
theorem dX2_clear_54 : decode cX2_clear 54 = .ok (.aload_n 0, 1) := by decide +kernel
theorem dX2_clear_55 : decode cX2_clear 55 = .ok (.iconst 0, 1) := by decide +kernel
theorem dX2_clear_56 : decode cX2_clear 56 = .ok (.putfield 28, 3) := by decide +kernel
theorem dX2_clear_59 : decode cX2_clear 59 = .ok (.iload_n 2, 1) := by decide +kernel
theorem dX2_clear_60 : decode cX2_clear 60 = .ok (.ireturn, 1) := by decide +kernel
theorem dX2_reach_0 : decode cX2_reach 0 = .ok (.iload_n 1, 1) := by decide +kernel
theorem dX2_reach_1 : decode cX2_reach 1 = .ok (.invokestatic 53, 3) := by decide +kernel
theorem dX2_reach_4 : decode cX2_reach 4 = .ok (.istore_n 3, 1) := by decide +kernel
theorem dX2_reach_5 : decode cX2_reach 5 = .ok (.iload_n 3, 1) := by decide +kernel
theorem dX2_reach_6 : decode cX2_reach 6 = .ok (.ifCond .lt 24, 3) := by decide +kernel
theorem dX2_reach_9 : decode cX2_reach 9 = .ok (.iload_n 3, 1) := by decide +kernel
theorem dX2_reach_10 : decode cX2_reach 10 = .ok (.aload_n 0, 1) := by decide +kernel
theorem dX2_reach_11 : decode cX2_reach 11 = .ok (.getfield 9, 3) := by decide +kernel
theorem dX2_reach_14 : decode cX2_reach 14 = .ok (.arraylength, 1) := by decide +kernel
theorem dX2_reach_15 : decode cX2_reach 15 = .ok (.if_icmp .ge 15, 3) := by decide +kernel
theorem dX2_reach_18 : decode cX2_reach 18 = .ok (.aload_n 0, 1) := by decide +kernel
theorem dX2_reach_19 : decode cX2_reach 19 = .ok (.getfield 28, 3) := by decide +kernel
theorem dX2_reach_22 : decode cX2_reach 22 = .ok (.aload_n 0, 1) := by decide +kernel
theorem dX2_reach_23 : decode cX2_reach 23 = .ok (.getfield 15, 3) := by decide +kernel
theorem dX2_reach_26 : decode cX2_reach 26 = .ok (.arraylength, 1) := by decide +kernel
theorem dX2_reach_27 : decode cX2_reach 27 = .ok (.if_icmp .lt 4, 3) := by decide +kernel
theorem dX2_reach_30 : decode cX2_reach 30 = .ok (.return_, 1) := by decide +kernel
theorem dX2_reach_31 : decode cX2_reach 31 = .ok (.aload_n 0, 1) := by decide +kernel
theorem dX2_reach_32 : decode cX2_reach 32 = .ok (.getfield 9, 3) := by decide +kernel
theorem dX2_reach_35 : decode cX2_reach 35 = .ok (.iload_n 3, 1) := by decide +kernel
theorem dX2_reach_36 : decode cX2_reach 36 = .ok (.iaload, 1) := by decide +kernel
theorem dX2_reach_37 : decode cX2_reach 37 = .ok (.iconst (-1), 1) := by decide +kernel
theorem dX2_reach_38 : decode cX2_reach 38 = .ok (.if_icmp .ne 30, 3) := by decide +kernel
theorem dX2_reach_41 : decode cX2_reach 41 = .ok (.aload_n 0, 1) := by decide +kernel
theorem dX2_reach_42 : decode cX2_reach 42 = .ok (.getfield 9, 3) := by decide +kernel
theorem dX2_reach_45 : decode cX2_reach 45 = .ok (.iload_n 3, 1) := by decide +kernel
theorem dX2_reach_46 : decode cX2_reach 46 = .ok (.iload_n 2, 1) := by decide +kernel
theorem dX2_reach_47 : decode cX2_reach 47 = .ok (.iastore, 1) := by decide +kernel
theorem dX2_reach_48 : decode cX2_reach 48 = .ok (.aload_n 0, 1) := by decide +kernel
theorem dX2_reach_49 : decode cX2_reach 49 = .ok (.getfield 15, 3) := by decide +kernel
theorem dX2_reach_52 : decode cX2_reach 52 = .ok (.aload_n 0, 1) := by decide +kernel
theorem dX2_reach_53 : decode cX2_reach 53 = .ok (.getfield 28, 3) := by decide +kernel
theorem dX2_reach_56 : decode cX2_reach 56 = .ok (.iload_n 1, 1) := by decide +kernel
theorem dX2_reach_57 : decode cX2_reach 57 = .ok (.iastore, 1) := by decide +kernel
theorem dX2_reach_58 : decode cX2_reach 58 = .ok (.aload_n 0, 1) := by decide +kernel
theorem dX2_reach_59 : decode cX2_reach 59 = .ok (.dup, 1) := by decide +kernel
theorem dX2_reach_60 : decode cX2_reach 60 = .ok (.getfield 28, 3) := by decide +kernel
theorem dX2_reach_63 : decode cX2_reach 63 = .ok (.iconst 1, 1) := by decide +kernel
theorem dX2_reach_64 : decode cX2_reach 64 = .ok (.iadd, 1) := by decide +kernel
theorem dX2_reach_65 : decode cX2_reach 65 = .ok (.putfield 28, 3) := by decide +kernel
theorem dX2_reach_68 : decode cX2_reach 68 = .ok (.return_, 1) := by decide +kernel
theorem dX3_imageOf_0 : decode cX3_imageOf 0 = .ok (.iload_n 0, 1) := by decide +kernel
theorem dX3_imageOf_1 : decode cX3_imageOf 1 = .ok (.iconst 3, 1) := by decide +kernel
theorem dX3_imageOf_2 : decode cX3_imageOf 2 = .ok (.iload_n 1, 1) := by decide +kernel
theorem dX3_imageOf_3 : decode cX3_imageOf 3 = .ok (.imul, 1) := by decide +kernel
theorem dX3_imageOf_4 : decode cX3_imageOf 4 = .ok (.iushr, 1) := by decide +kernel
theorem dX3_imageOf_5 : decode cX3_imageOf 5 = .ok (.bipush 7, 2) := by decide +kernel
theorem dX3_imageOf_7 : decode cX3_imageOf 7 = .ok (.iand, 1) := by decide +kernel
theorem dX3_imageOf_8 : decode cX3_imageOf 8 = .ok (.ireturn, 1) := by decide +kernel
theorem dX3_withImage_0 : decode cX3_withImage 0 = .ok (.iload_n 0, 1) := by decide +kernel
theorem dX3_withImage_1 : decode cX3_withImage 1 = .ok (.bipush 7, 2) := by decide +kernel
theorem dX3_withImage_3 : decode cX3_withImage 3 = .ok (.iconst 3, 1) := by decide +kernel
theorem dX3_withImage_4 : decode cX3_withImage 4 = .ok (.iload_n 1, 1) := by decide +kernel
theorem dX3_withImage_5 : decode cX3_withImage 5 = .ok (.imul, 1) := by decide +kernel
theorem dX3_withImage_6 : decode cX3_withImage 6 = .ok (.ishl, 1) := by decide +kernel
theorem dX3_withImage_7 : decode cX3_withImage 7 = .ok (.iconst (-1), 1) := by decide +kernel
theorem dX3_withImage_8 : decode cX3_withImage 8 = .ok (.ixor, 1) := by decide +kernel
theorem dX3_withImage_9 : decode cX3_withImage 9 = .ok (.iand, 1) := by decide +kernel
theorem dX3_withImage_10 : decode cX3_withImage 10 = .ok (.iload_n 2, 1) := by decide +kernel
theorem dX3_withImage_11 : decode cX3_withImage 11 = .ok (.iconst 3, 1) := by decide +kernel
theorem dX3_withImage_12 : decode cX3_withImage 12 = .ok (.iload_n 1, 1) := by decide +kernel
theorem dX3_withImage_13 : decode cX3_withImage 13 = .ok (.imul, 1) := by decide +kernel
theorem dX3_withImage_14 : decode cX3_withImage 14 = .ok (.ishl, 1) := by decide +kernel
theorem dX3_withImage_15 : decode cX3_withImage 15 = .ok (.ior, 1) := by decide +kernel
theorem dX3_withImage_16 : decode cX3_withImage 16 = .ok (.ireturn, 1) := by decide +kernel
theorem dX3_then_0 : decode cX3_then 0 = .ok (.iconst 0, 1) := by decide +kernel
theorem dX3_then_1 : decode cX3_then 1 = .ok (.istore_n 2, 1) := by decide +kernel
theorem dX3_then_2 : decode cX3_then 2 = .ok (.iconst 0, 1) := by decide +kernel
theorem dX3_then_3 : decode cX3_then 3 = .ok (.istore_n 3, 1) := by decide +kernel
theorem dX3_then_4 : decode cX3_then 4 = .ok (.iload_n 3, 1) := by decide +kernel
theorem dX3_then_5 : decode cX3_then 5 = .ok (.bipush 7, 2) := by decide +kernel
theorem dX3_then_7 : decode cX3_then 7 = .ok (.if_icmp .ge 25, 3) := by decide +kernel
theorem dX3_then_10 : decode cX3_then 10 = .ok (.iload_n 2, 1) := by decide +kernel
theorem dX3_then_11 : decode cX3_then 11 = .ok (.iload_n 1, 1) := by decide +kernel
theorem dX3_then_12 : decode cX3_then 12 = .ok (.iload_n 0, 1) := by decide +kernel
theorem dX3_then_13 : decode cX3_then 13 = .ok (.iload_n 3, 1) := by decide +kernel
theorem dX3_then_14 : decode cX3_then 14 = .ok (.invokestatic 11, 3) := by decide +kernel
theorem dX3_then_17 : decode cX3_then 17 = .ok (.invokestatic 11, 3) := by decide +kernel
theorem dX3_then_20 : decode cX3_then 20 = .ok (.iconst 3, 1) := by decide +kernel
theorem dX3_then_21 : decode cX3_then 21 = .ok (.iload_n 3, 1) := by decide +kernel
theorem dX3_then_22 : decode cX3_then 22 = .ok (.imul, 1) := by decide +kernel
theorem dX3_then_23 : decode cX3_then 23 = .ok (.ishl, 1) := by decide +kernel
theorem dX3_then_24 : decode cX3_then 24 = .ok (.ior, 1) := by decide +kernel
theorem dX3_then_25 : decode cX3_then 25 = .ok (.istore_n 2, 1) := by decide +kernel
theorem dX3_then_26 : decode cX3_then 26 = .ok (.iinc 3 1, 3) := by decide +kernel
theorem dX3_then_29 : decode cX3_then 29 = .ok (.goto (-25), 3) := by decide +kernel
theorem dX3_then_32 : decode cX3_then 32 = .ok (.iload_n 2, 1) := by decide +kernel
theorem dX3_then_33 : decode cX3_then 33 = .ok (.ireturn, 1) := by decide +kernel
theorem dX3_inverseOf_0 : decode cX3_inverseOf 0 = .ok (.iconst 0, 1) := by decide +kernel
theorem dX3_inverseOf_1 : decode cX3_inverseOf 1 = .ok (.istore_n 1, 1) := by decide +kernel
theorem dX3_inverseOf_2 : decode cX3_inverseOf 2 = .ok (.iconst 0, 1) := by decide +kernel
theorem dX3_inverseOf_3 : decode cX3_inverseOf 3 = .ok (.istore_n 2, 1) := by decide +kernel
theorem dX3_inverseOf_4 : decode cX3_inverseOf 4 = .ok (.iload_n 2, 1) := by decide +kernel
theorem dX3_inverseOf_5 : decode cX3_inverseOf 5 = .ok (.bipush 7, 2) := by decide +kernel
theorem dX3_inverseOf_7 : decode cX3_inverseOf 7 = .ok (.if_icmp .ge 21, 3) := by decide +kernel
theorem dX3_inverseOf_10 : decode cX3_inverseOf 10 = .ok (.iload_n 1, 1) := by decide +kernel
theorem dX3_inverseOf_11 : decode cX3_inverseOf 11 = .ok (.iload_n 2, 1) := by decide +kernel
theorem dX3_inverseOf_12 : decode cX3_inverseOf 12 = .ok (.iconst 3, 1) := by decide +kernel
theorem dX3_inverseOf_13 : decode cX3_inverseOf 13 = .ok (.iload_n 0, 1) := by decide +kernel
theorem dX3_inverseOf_14 : decode cX3_inverseOf 14 = .ok (.iload_n 2, 1) := by decide +kernel
theorem dX3_inverseOf_15 : decode cX3_inverseOf 15 = .ok (.invokestatic 11, 3) := by decide +kernel
theorem dX3_inverseOf_18 : decode cX3_inverseOf 18 = .ok (.imul, 1) := by decide +kernel
theorem dX3_inverseOf_19 : decode cX3_inverseOf 19 = .ok (.ishl, 1) := by decide +kernel
theorem dX3_inverseOf_20 : decode cX3_inverseOf 20 = .ok (.ior, 1) := by decide +kernel
theorem dX3_inverseOf_21 : decode cX3_inverseOf 21 = .ok (.istore_n 1, 1) := by decide +kernel
theorem dX3_inverseOf_22 : decode cX3_inverseOf 22 = .ok (.iinc 2 1, 3) := by decide +kernel
theorem dX3_inverseOf_25 : decode cX3_inverseOf 25 = .ok (.goto (-21), 3) := by decide +kernel
theorem dX3_inverseOf_28 : decode cX3_inverseOf 28 = .ok (.iload_n 1, 1) := by decide +kernel
theorem dX3_inverseOf_29 : decode cX3_inverseOf 29 = .ok (.ireturn, 1) := by decide +kernel
theorem dX3_differences_0 : decode cX3_differences 0 = .ok (.iconst 0, 1) := by decide +kernel
theorem dX3_differences_1 : decode cX3_differences 1 = .ok (.istore_n 2, 1) := by decide +kernel
theorem dX3_differences_2 : decode cX3_differences 2 = .ok (.iconst 0, 1) := by decide +kernel
theorem dX3_differences_3 : decode cX3_differences 3 = .ok (.istore_n 3, 1) := by decide +kernel
theorem dX3_differences_4 : decode cX3_differences 4 = .ok (.iload_n 3, 1) := by decide +kernel
theorem dX3_differences_5 : decode cX3_differences 5 = .ok (.bipush 7, 2) := by decide +kernel
theorem dX3_differences_7 : decode cX3_differences 7 = .ok (.if_icmp .ge 25, 3) := by decide +kernel
theorem dX3_differences_10 : decode cX3_differences 10 = .ok (.iload_n 0, 1) := by decide +kernel
theorem dX3_differences_11 : decode cX3_differences 11 = .ok (.iload_n 3, 1) := by decide +kernel
theorem dX3_differences_12 : decode cX3_differences 12 = .ok (.invokestatic 11, 3) := by decide +kernel
theorem dX3_differences_15 : decode cX3_differences 15 = .ok (.iload_n 1, 1) := by decide +kernel
theorem dX3_differences_16 : decode cX3_differences 16 = .ok (.iload_n 3, 1) := by decide +kernel
theorem dX3_differences_17 : decode cX3_differences 17 = .ok (.invokestatic 11, 3) := by decide +kernel
theorem dX3_differences_20 : decode cX3_differences 20 = .ok (.if_icmp .eq 6, 3) := by decide +kernel
theorem dX3_differences_23 : decode cX3_differences 23 = .ok (.iinc 2 1, 3) := by decide +kernel
theorem dX3_differences_26 : decode cX3_differences 26 = .ok (.iinc 3 1, 3) := by decide +kernel
theorem dX3_differences_29 : decode cX3_differences 29 = .ok (.goto (-25), 3) := by decide +kernel
theorem dX3_differences_32 : decode cX3_differences 32 = .ok (.iload_n 2, 1) := by decide +kernel
theorem dX3_differences_33 : decode cX3_differences 33 = .ok (.ireturn, 1) := by decide +kernel
theorem dX3_cycleOf_0 : decode cX3_cycleOf 0 = .ok (.iconst 1, 1) := by decide +kernel
theorem dX3_cycleOf_1 : decode cX3_cycleOf 1 = .ok (.istore_n 2, 1) := by decide +kernel
theorem dX3_cycleOf_2 : decode cX3_cycleOf 2 = .ok (.iload_n 0, 1) := by decide +kernel
theorem dX3_cycleOf_3 : decode cX3_cycleOf 3 = .ok (.iload_n 1, 1) := by decide +kernel
theorem dX3_cycleOf_4 : decode cX3_cycleOf 4 = .ok (.invokestatic 11, 3) := by decide +kernel
theorem dX3_cycleOf_7 : decode cX3_cycleOf 7 = .ok (.istore_n 3, 1) := by decide +kernel
theorem dX3_cycleOf_8 : decode cX3_cycleOf 8 = .ok (.iload_n 3, 1) := by decide +kernel
theorem dX3_cycleOf_9 : decode cX3_cycleOf 9 = .ok (.iload_n 1, 1) := by decide +kernel
theorem dX3_cycleOf_10 : decode cX3_cycleOf 10 = .ok (.if_icmp .eq 21, 3) := by decide +kernel
theorem dX3_cycleOf_13 : decode cX3_cycleOf 13 = .ok (.iload_n 2, 1) := by decide +kernel
theorem dX3_cycleOf_14 : decode cX3_cycleOf 14 = .ok (.bipush 7, 2) := by decide +kernel
theorem dX3_cycleOf_16 : decode cX3_cycleOf 16 = .ok (.if_icmp .ge 15, 3) := by decide +kernel
theorem dX3_cycleOf_19 : decode cX3_cycleOf 19 = .ok (.iload_n 0, 1) := by decide +kernel
theorem dX3_cycleOf_20 : decode cX3_cycleOf 20 = .ok (.iload_n 3, 1) := by decide +kernel
theorem dX3_cycleOf_21 : decode cX3_cycleOf 21 = .ok (.invokestatic 11, 3) := by decide +kernel
theorem dX3_cycleOf_24 : decode cX3_cycleOf 24 = .ok (.istore_n 3, 1) := by decide +kernel
theorem dX3_cycleOf_25 : decode cX3_cycleOf 25 = .ok (.iinc 2 1, 3) := by decide +kernel
theorem dX3_cycleOf_28 : decode cX3_cycleOf 28 = .ok (.goto (-20), 3) := by decide +kernel
theorem dX3_cycleOf_31 : decode cX3_cycleOf 31 = .ok (.iload_n 2, 1) := by decide +kernel
theorem dX3_cycleOf_32 : decode cX3_cycleOf 32 = .ok (.ireturn, 1) := by decide +kernel
theorem dX3_orderOf_0 : decode cX3_orderOf 0 = .ok (.iconst 1, 1) := by decide +kernel
theorem dX3_orderOf_1 : decode cX3_orderOf 1 = .ok (.istore_n 1, 1) := by decide +kernel
theorem dX3_orderOf_2 : decode cX3_orderOf 2 = .ok (.iload_n 0, 1) := by decide +kernel
theorem dX3_orderOf_3 : decode cX3_orderOf 3 = .ok (.istore_n 2, 1) := by decide +kernel
theorem dX3_orderOf_4 : decode cX3_orderOf 4 = .ok (.iload_n 2, 1) := by decide +kernel
theorem dX3_orderOf_5 : decode cX3_orderOf 5 = .ok (.ldc 15, 2) := by decide +kernel
theorem dX3_orderOf_7 : decode cX3_orderOf 7 = .ok (.if_icmp .eq 21, 3) := by decide +kernel
theorem dX3_orderOf_10 : decode cX3_orderOf 10 = .ok (.iload_n 1, 1) := by decide +kernel
theorem dX3_orderOf_11 : decode cX3_orderOf 11 = .ok (.bipush 12, 2) := by decide +kernel
theorem dX3_orderOf_13 : decode cX3_orderOf 13 = .ok (.if_icmp .ge 15, 3) := by decide +kernel
theorem dX3_orderOf_16 : decode cX3_orderOf 16 = .ok (.iload_n 2, 1) := by decide +kernel
theorem dX3_orderOf_17 : decode cX3_orderOf 17 = .ok (.iload_n 0, 1) := by decide +kernel
theorem dX3_orderOf_18 : decode cX3_orderOf 18 = .ok (.invokestatic 16, 3) := by decide +kernel
theorem dX3_orderOf_21 : decode cX3_orderOf 21 = .ok (.istore_n 2, 1) := by decide +kernel
theorem dX3_orderOf_22 : decode cX3_orderOf 22 = .ok (.iinc 1 1, 3) := by decide +kernel
theorem dX3_orderOf_25 : decode cX3_orderOf 25 = .ok (.goto (-21), 3) := by decide +kernel
theorem dX3_orderOf_28 : decode cX3_orderOf 28 = .ok (.iload_n 1, 1) := by decide +kernel
theorem dX3_orderOf_29 : decode cX3_orderOf 29 = .ok (.ireturn, 1) := by decide +kernel
theorem dX3_hasOddParity_0 : decode cX3_hasOddParity 0 = .ok (.iconst 0, 1) := by decide +kernel
theorem dX3_hasOddParity_1 : decode cX3_hasOddParity 1 = .ok (.istore_n 1, 1) := by decide +kernel
theorem dX3_hasOddParity_2 : decode cX3_hasOddParity 2 = .ok (.iconst 0, 1) := by decide +kernel
theorem dX3_hasOddParity_3 : decode cX3_hasOddParity 3 = .ok (.istore_n 2, 1) := by decide +kernel
theorem dX3_hasOddParity_4 : decode cX3_hasOddParity 4 = .ok (.iconst 0, 1) := by decide +kernel
theorem dX3_hasOddParity_5 : decode cX3_hasOddParity 5 = .ok (.istore_n 3, 1) := by decide +kernel
theorem dX3_hasOddParity_6 : decode cX3_hasOddParity 6 = .ok (.iload_n 3, 1) := by decide +kernel
theorem dX3_hasOddParity_7 : decode cX3_hasOddParity 7 = .ok (.bipush 7, 2) := by decide +kernel
theorem dX3_hasOddParity_9 : decode cX3_hasOddParity 9 = .ok (.if_icmp .ge 33, 3) := by decide +kernel
theorem dX3_hasOddParity_12 : decode cX3_hasOddParity 12 = .ok (.iload_n 0, 1) := by decide +kernel
theorem dX3_hasOddParity_13 : decode cX3_hasOddParity 13 = .ok (.iload_n 3, 1) := by decide +kernel
theorem dX3_hasOddParity_14 : decode cX3_hasOddParity 14 = .ok (.invokestatic 11, 3) := by decide +kernel
theorem dX3_hasOddParity_17 : decode cX3_hasOddParity 17 = .ok (.istore 4, 2) := by decide +kernel
theorem dX3_hasOddParity_19 : decode cX3_hasOddParity 19 = .ok (.iload_n 2, 1) := by decide +kernel
theorem dX3_hasOddParity_20 : decode cX3_hasOddParity 20 = .ok (.iload_n 1, 1) := by decide +kernel
theorem dX3_hasOddParity_21 : decode cX3_hasOddParity 21 = .ok (.iload 4, 2) := by decide +kernel
theorem dX3_hasOddParity_23 : decode cX3_hasOddParity 23 = .ok (.iushr, 1) := by decide +kernel
theorem dX3_hasOddParity_24 : decode cX3_hasOddParity 24 = .ok (.invokestatic 19, 3) := by decide +kernel
theorem dX3_hasOddParity_27 : decode cX3_hasOddParity 27 = .ok (.iadd, 1) := by decide +kernel
theorem dX3_hasOddParity_28 : decode cX3_hasOddParity 28 = .ok (.istore_n 2, 1) := by decide +kernel
theorem dX3_hasOddParity_29 : decode cX3_hasOddParity 29 = .ok (.iload_n 1, 1) := by decide +kernel
theorem dX3_hasOddParity_30 : decode cX3_hasOddParity 30 = .ok (.iconst 1, 1) := by decide +kernel
theorem dX3_hasOddParity_31 : decode cX3_hasOddParity 31 = .ok (.iload 4, 2) := by decide +kernel
theorem dX3_hasOddParity_33 : decode cX3_hasOddParity 33 = .ok (.ishl, 1) := by decide +kernel
theorem dX3_hasOddParity_34 : decode cX3_hasOddParity 34 = .ok (.ior, 1) := by decide +kernel
theorem dX3_hasOddParity_35 : decode cX3_hasOddParity 35 = .ok (.istore_n 1, 1) := by decide +kernel
theorem dX3_hasOddParity_36 : decode cX3_hasOddParity 36 = .ok (.iinc 3 1, 3) := by decide +kernel
theorem dX3_hasOddParity_39 : decode cX3_hasOddParity 39 = .ok (.goto (-33), 3) := by decide +kernel
theorem dX3_hasOddParity_42 : decode cX3_hasOddParity 42 = .ok (.iload_n 2, 1) := by decide +kernel
theorem dX3_hasOddParity_43 : decode cX3_hasOddParity 43 = .ok (.iconst 1, 1) := by decide +kernel
theorem dX3_hasOddParity_44 : decode cX3_hasOddParity 44 = .ok (.iand, 1) := by decide +kernel
theorem dX3_hasOddParity_45 : decode cX3_hasOddParity 45 = .ok (.iconst 1, 1) := by decide +kernel
theorem dX3_hasOddParity_46 : decode cX3_hasOddParity 46 = .ok (.if_icmp .ne 7, 3) := by decide +kernel
theorem dX3_hasOddParity_49 : decode cX3_hasOddParity 49 = .ok (.iconst 1, 1) := by decide +kernel
theorem dX3_hasOddParity_50 : decode cX3_hasOddParity 50 = .ok (.goto 4, 3) := by decide +kernel
theorem dX3_hasOddParity_53 : decode cX3_hasOddParity 53 = .ok (.iconst 0, 1) := by decide +kernel
theorem dX3_hasOddParity_54 : decode cX3_hasOddParity 54 = .ok (.ireturn, 1) := by decide +kernel
theorem dX3_rankOf_0 : decode cX3_rankOf 0 = .ok (.iconst 0, 1) := by decide +kernel
theorem dX3_rankOf_1 : decode cX3_rankOf 1 = .ok (.istore_n 1, 1) := by decide +kernel
theorem dX3_rankOf_2 : decode cX3_rankOf 2 = .ok (.iconst 0, 1) := by decide +kernel
theorem dX3_rankOf_3 : decode cX3_rankOf 3 = .ok (.istore_n 2, 1) := by decide +kernel
theorem dX3_rankOf_4 : decode cX3_rankOf 4 = .ok (.iconst 1, 1) := by decide +kernel
theorem dX3_rankOf_5 : decode cX3_rankOf 5 = .ok (.istore_n 3, 1) := by decide +kernel
theorem dX3_rankOf_6 : decode cX3_rankOf 6 = .ok (.iconst 0, 1) := by decide +kernel
theorem dX3_rankOf_7 : decode cX3_rankOf 7 = .ok (.istore 4, 2) := by decide +kernel
theorem dX3_rankOf_9 : decode cX3_rankOf 9 = .ok (.iload 4, 2) := by decide +kernel
theorem dX3_rankOf_11 : decode cX3_rankOf 11 = .ok (.bipush 7, 2) := by decide +kernel
theorem dX3_rankOf_13 : decode cX3_rankOf 13 = .ok (.if_icmp .ge 43, 3) := by decide +kernel
theorem dX3_rankOf_16 : decode cX3_rankOf 16 = .ok (.iload_n 0, 1) := by decide +kernel
theorem dX3_rankOf_17 : decode cX3_rankOf 17 = .ok (.iload 4, 2) := by decide +kernel
theorem dX3_rankOf_19 : decode cX3_rankOf 19 = .ok (.invokestatic 11, 3) := by decide +kernel
theorem dX3_rankOf_22 : decode cX3_rankOf 22 = .ok (.istore 5, 2) := by decide +kernel
theorem dX3_rankOf_24 : decode cX3_rankOf 24 = .ok (.iload_n 2, 1) := by decide +kernel
theorem dX3_rankOf_25 : decode cX3_rankOf 25 = .ok (.iload_n 3, 1) := by decide +kernel
theorem dX3_rankOf_26 : decode cX3_rankOf 26 = .ok (.iload_n 1, 1) := by decide +kernel
theorem dX3_rankOf_27 : decode cX3_rankOf 27 = .ok (.iload 5, 2) := by decide +kernel
theorem dX3_rankOf_29 : decode cX3_rankOf 29 = .ok (.iushr, 1) := by decide +kernel
theorem dX3_rankOf_30 : decode cX3_rankOf 30 = .ok (.invokestatic 19, 3) := by decide +kernel
theorem dX3_rankOf_33 : decode cX3_rankOf 33 = .ok (.imul, 1) := by decide +kernel
theorem dX3_rankOf_34 : decode cX3_rankOf 34 = .ok (.iadd, 1) := by decide +kernel
theorem dX3_rankOf_35 : decode cX3_rankOf 35 = .ok (.istore_n 2, 1) := by decide +kernel
theorem dX3_rankOf_36 : decode cX3_rankOf 36 = .ok (.iload_n 1, 1) := by decide +kernel
theorem dX3_rankOf_37 : decode cX3_rankOf 37 = .ok (.iconst 1, 1) := by decide +kernel
theorem dX3_rankOf_38 : decode cX3_rankOf 38 = .ok (.iload 5, 2) := by decide +kernel
theorem dX3_rankOf_40 : decode cX3_rankOf 40 = .ok (.ishl, 1) := by decide +kernel
theorem dX3_rankOf_41 : decode cX3_rankOf 41 = .ok (.ior, 1) := by decide +kernel
theorem dX3_rankOf_42 : decode cX3_rankOf 42 = .ok (.istore_n 1, 1) := by decide +kernel
theorem dX3_rankOf_43 : decode cX3_rankOf 43 = .ok (.iload_n 3, 1) := by decide +kernel
theorem dX3_rankOf_44 : decode cX3_rankOf 44 = .ok (.iload 4, 2) := by decide +kernel
theorem dX3_rankOf_46 : decode cX3_rankOf 46 = .ok (.iconst 1, 1) := by decide +kernel
theorem dX3_rankOf_47 : decode cX3_rankOf 47 = .ok (.iadd, 1) := by decide +kernel
theorem dX3_rankOf_48 : decode cX3_rankOf 48 = .ok (.imul, 1) := by decide +kernel
theorem dX3_rankOf_49 : decode cX3_rankOf 49 = .ok (.istore_n 3, 1) := by decide +kernel
theorem dX3_rankOf_50 : decode cX3_rankOf 50 = .ok (.iinc 4 1, 3) := by decide +kernel
theorem dX3_rankOf_53 : decode cX3_rankOf 53 = .ok (.goto (-44), 3) := by decide +kernel
theorem dX3_rankOf_56 : decode cX3_rankOf 56 = .ok (.iload_n 2, 1) := by decide +kernel
theorem dX3_rankOf_57 : decode cX3_rankOf 57 = .ok (.ireturn, 1) := by decide +kernel
theorem dX4_init_0 : decode cX4_init 0 = .ok (.aload_n 0, 1) := by decide +kernel
theorem dX4_init_1 : decode cX4_init 1 = .ok (.invokespecial 3, 3) := by decide +kernel
theorem dX4_init_4 : decode cX4_init 4 = .ok (.aload_n 0, 1) := by decide +kernel
theorem dX4_init_5 : decode cX4_init 5 = .ok (.bipush 10, 2) := by decide +kernel
theorem dX4_init_7 : decode cX4_init 7 = .ok (.newarray .int, 2) := by decide +kernel
theorem dX4_init_9 : decode cX4_init 9 = .ok (.putfield 9, 3) := by decide +kernel
theorem dX4_init_12 : decode cX4_init 12 = .ok (.aload_n 0, 1) := by decide +kernel
theorem dX4_init_13 : decode cX4_init 13 = .ok (.iconst 4, 1) := by decide +kernel
theorem dX4_init_14 : decode cX4_init 14 = .ok (.anewarray 15, 3) := by decide +kernel
theorem dX4_init_17 : decode cX4_init 17 = .ok (.putfield 17, 3) := by decide +kernel
theorem dX4_init_20 : decode cX4_init 20 = .ok (.aload_n 0, 1) := by decide +kernel
theorem dX4_init_21 : decode cX4_init 21 = .ok (.iconst 0, 1) := by decide +kernel
theorem dX4_init_22 : decode cX4_init 22 = .ok (.putfield 21, 3) := by decide +kernel
theorem dX4_init_25 : decode cX4_init 25 = .ok (.aload_n 0, 1) := by decide +kernel
theorem dX4_init_26 : decode cX4_init 26 = .ok (.ldc 25, 2) := by decide +kernel
theorem dX4_init_28 : decode cX4_init 28 = .ok (.putfield 26, 3) := by decide +kernel
theorem dX4_init_31 : decode cX4_init 31 = .ok (.iconst 0, 1) := by decide +kernel
theorem dX4_init_32 : decode cX4_init 32 = .ok (.istore_n 1, 1) := by decide +kernel
theorem dX4_init_33 : decode cX4_init 33 = .ok (.iload_n 1, 1) := by decide +kernel
theorem dX4_init_34 : decode cX4_init 34 = .ok (.iconst 4, 1) := by decide +kernel
theorem dX4_init_35 : decode cX4_init 35 = .ok (.if_icmp .ge 22, 3) := by decide +kernel
theorem dX4_init_38 : decode cX4_init 38 = .ok (.aload_n 0, 1) := by decide +kernel
theorem dX4_init_39 : decode cX4_init 39 = .ok (.getfield 17, 3) := by decide +kernel
theorem dX4_init_42 : decode cX4_init 42 = .ok (.iload_n 1, 1) := by decide +kernel
theorem dX4_init_43 : decode cX4_init 43 = .ok (.new 15, 3) := by decide +kernel
theorem dX4_init_46 : decode cX4_init 46 = .ok (.dup, 1) := by decide +kernel
theorem dX4_init_47 : decode cX4_init 47 = .ok (.invokespecial 29, 3) := by decide +kernel
theorem dX4_init_50 : decode cX4_init 50 = .ok (.aastore, 1) := by decide +kernel
theorem dX4_init_51 : decode cX4_init 51 = .ok (.iinc 1 1, 3) := by decide +kernel
theorem dX4_init_54 : decode cX4_init 54 = .ok (.goto (-21), 3) := by decide +kernel
theorem dX4_init_57 : decode cX4_init 57 = .ok (.aload_n 0, 1) := by decide +kernel
theorem dX4_init_58 : decode cX4_init 58 = .ok (.invokevirtual 30, 3) := by decide +kernel
theorem dX4_init_61 : decode cX4_init 61 = .ok (.return_, 1) := by decide +kernel
theorem dX4_clear_0 : decode cX4_clear 0 = .ok (.iconst 0, 1) := by decide +kernel
theorem dX4_clear_1 : decode cX4_clear 1 = .ok (.istore_n 1, 1) := by decide +kernel
theorem dX4_clear_2 : decode cX4_clear 2 = .ok (.iload_n 1, 1) := by decide +kernel
theorem dX4_clear_3 : decode cX4_clear 3 = .ok (.bipush 10, 2) := by decide +kernel
theorem dX4_clear_5 : decode cX4_clear 5 = .ok (.if_icmp .ge 17, 3) := by decide +kernel
theorem dX4_clear_8 : decode cX4_clear 8 = .ok (.aload_n 0, 1) := by decide +kernel
theorem dX4_clear_9 : decode cX4_clear 9 = .ok (.getfield 9, 3) := by decide +kernel
theorem dX4_clear_12 : decode cX4_clear 12 = .ok (.iload_n 1, 1) := by decide +kernel
theorem dX4_clear_13 : decode cX4_clear 13 = .ok (.ldc 25, 2) := by decide +kernel
theorem dX4_clear_15 : decode cX4_clear 15 = .ok (.iastore, 1) := by decide +kernel
theorem dX4_clear_16 : decode cX4_clear 16 = .ok (.iinc 1 1, 3) := by decide +kernel
theorem dX4_clear_19 : decode cX4_clear 19 = .ok (.goto (-17), 3) := by decide +kernel
theorem dX4_clear_22 : decode cX4_clear 22 = .ok (.aload_n 0, 1) := by decide +kernel
theorem dX4_clear_23 : decode cX4_clear 23 = .ok (.iconst 0, 1) := by decide +kernel
theorem dX4_clear_24 : decode cX4_clear 24 = .ok (.putfield 21, 3) := by decide +kernel
theorem dX4_clear_27 : decode cX4_clear 27 = .ok (.aload_n 0, 1) := by decide +kernel
theorem dX4_clear_28 : decode cX4_clear 28 = .ok (.ldc 25, 2) := by decide +kernel
theorem dX4_clear_30 : decode cX4_clear 30 = .ok (.putfield 26, 3) := by decide +kernel
theorem dX4_clear_33 : decode cX4_clear 33 = .ok (.iconst 0, 1) := by decide +kernel
theorem dX4_clear_34 : decode cX4_clear 34 = .ok (.istore_n 1, 1) := by decide +kernel
theorem dX4_clear_35 : decode cX4_clear 35 = .ok (.iload_n 1, 1) := by decide +kernel
theorem dX4_clear_36 : decode cX4_clear 36 = .ok (.iconst 4, 1) := by decide +kernel
theorem dX4_clear_37 : decode cX4_clear 37 = .ok (.if_icmp .ge 18, 3) := by decide +kernel
theorem dX4_clear_40 : decode cX4_clear 40 = .ok (.aload_n 0, 1) := by decide +kernel
theorem dX4_clear_41 : decode cX4_clear 41 = .ok (.getfield 17, 3) := by decide +kernel
theorem dX4_clear_44 : decode cX4_clear 44 = .ok (.iload_n 1, 1) := by decide +kernel
theorem dX4_clear_45 : decode cX4_clear 45 = .ok (.aaload, 1) := by decide +kernel
theorem dX4_clear_46 : decode cX4_clear 46 = .ok (.invokevirtual 33, 3) := by decide +kernel
theorem dX4_clear_49 : decode cX4_clear 49 = .ok (.iinc 1 1, 3) := by decide +kernel
theorem dX4_clear_52 : decode cX4_clear 52 = .ok (.goto (-17), 3) := by decide +kernel
theorem dX4_clear_55 : decode cX4_clear 55 = .ok (.return_, 1) := by decide +kernel
theorem dX4_copyFrom_0 : decode cX4_copyFrom 0 = .ok (.iconst 0, 1) := by decide +kernel
theorem dX4_copyFrom_1 : decode cX4_copyFrom 1 = .ok (.istore_n 2, 1) := by decide +kernel
theorem dX4_copyFrom_2 : decode cX4_copyFrom 2 = .ok (.iload_n 2, 1) := by decide +kernel
theorem dX4_copyFrom_3 : decode cX4_copyFrom 3 = .ok (.bipush 10, 2) := by decide +kernel
theorem dX4_copyFrom_5 : decode cX4_copyFrom 5 = .ok (.if_icmp .ge 21, 3) := by decide +kernel
theorem dX4_copyFrom_8 : decode cX4_copyFrom 8 = .ok (.aload_n 0, 1) := by decide +kernel
theorem dX4_copyFrom_9 : decode cX4_copyFrom 9 = .ok (.getfield 9, 3) := by decide +kernel
theorem dX4_copyFrom_12 : decode cX4_copyFrom 12 = .ok (.iload_n 2, 1) := by decide +kernel
theorem dX4_copyFrom_13 : decode cX4_copyFrom 13 = .ok (.aload_n 1, 1) := by decide +kernel
theorem dX4_copyFrom_14 : decode cX4_copyFrom 14 = .ok (.getfield 9, 3) := by decide +kernel
theorem dX4_copyFrom_17 : decode cX4_copyFrom 17 = .ok (.iload_n 2, 1) := by decide +kernel
theorem dX4_copyFrom_18 : decode cX4_copyFrom 18 = .ok (.iaload, 1) := by decide +kernel
theorem dX4_copyFrom_19 : decode cX4_copyFrom 19 = .ok (.iastore, 1) := by decide +kernel
theorem dX4_copyFrom_20 : decode cX4_copyFrom 20 = .ok (.iinc 2 1, 3) := by decide +kernel
theorem dX4_copyFrom_23 : decode cX4_copyFrom 23 = .ok (.goto (-21), 3) := by decide +kernel
theorem dX4_copyFrom_26 : decode cX4_copyFrom 26 = .ok (.aload_n 0, 1) := by decide +kernel
theorem dX4_copyFrom_27 : decode cX4_copyFrom 27 = .ok (.aload_n 1, 1) := by decide +kernel
theorem dX4_copyFrom_28 : decode cX4_copyFrom 28 = .ok (.getfield 21, 3) := by decide +kernel
theorem dX4_copyFrom_31 : decode cX4_copyFrom 31 = .ok (.putfield 21, 3) := by decide +kernel
theorem dX4_copyFrom_34 : decode cX4_copyFrom 34 = .ok (.aload_n 0, 1) := by decide +kernel
theorem dX4_copyFrom_35 : decode cX4_copyFrom 35 = .ok (.aload_n 1, 1) := by decide +kernel
theorem dX4_copyFrom_36 : decode cX4_copyFrom 36 = .ok (.getfield 26, 3) := by decide +kernel
theorem dX4_copyFrom_39 : decode cX4_copyFrom 39 = .ok (.putfield 26, 3) := by decide +kernel
theorem dX4_copyFrom_42 : decode cX4_copyFrom 42 = .ok (.iconst 0, 1) := by decide +kernel
theorem dX4_copyFrom_43 : decode cX4_copyFrom 43 = .ok (.istore_n 2, 1) := by decide +kernel
theorem dX4_copyFrom_44 : decode cX4_copyFrom 44 = .ok (.iload_n 2, 1) := by decide +kernel
theorem dX4_copyFrom_45 : decode cX4_copyFrom 45 = .ok (.iconst 4, 1) := by decide +kernel
theorem dX4_copyFrom_46 : decode cX4_copyFrom 46 = .ok (.if_icmp .ge 24, 3) := by decide +kernel
theorem dX4_copyFrom_49 : decode cX4_copyFrom 49 = .ok (.aload_n 0, 1) := by decide +kernel
theorem dX4_copyFrom_50 : decode cX4_copyFrom 50 = .ok (.getfield 17, 3) := by decide +kernel
theorem dX4_copyFrom_53 : decode cX4_copyFrom 53 = .ok (.iload_n 2, 1) := by decide +kernel
theorem dX4_copyFrom_54 : decode cX4_copyFrom 54 = .ok (.aaload, 1) := by decide +kernel
theorem dX4_copyFrom_55 : decode cX4_copyFrom 55 = .ok (.aload_n 1, 1) := by decide +kernel
theorem dX4_copyFrom_56 : decode cX4_copyFrom 56 = .ok (.getfield 17, 3) := by decide +kernel
theorem dX4_copyFrom_59 : decode cX4_copyFrom 59 = .ok (.iload_n 2, 1) := by decide +kernel
theorem dX4_copyFrom_60 : decode cX4_copyFrom 60 = .ok (.aaload, 1) := by decide +kernel
theorem dX4_copyFrom_61 : decode cX4_copyFrom 61 = .ok (.invokevirtual 34, 3) := by decide +kernel
theorem dX4_copyFrom_64 : decode cX4_copyFrom 64 = .ok (.iinc 2 1, 3) := by decide +kernel
theorem dX4_copyFrom_67 : decode cX4_copyFrom 67 = .ok (.goto (-23), 3) := by decide +kernel
theorem dX4_copyFrom_70 : decode cX4_copyFrom 70 = .ok (.return_, 1) := by decide +kernel
theorem dX4_places_0 : decode cX4_places 0 = .ok (.aload_n 0, 1) := by decide +kernel
theorem dX4_places_1 : decode cX4_places 1 = .ok (.getfield 26, 3) := by decide +kernel
theorem dX4_places_4 : decode cX4_places 4 = .ok (.ireturn, 1) := by decide +kernel
theorem dX4_arrange_0 : decode cX4_arrange 0 = .ok (.aload_n 0, 1) := by decide +kernel
theorem dX4_arrange_1 : decode cX4_arrange 1 = .ok (.iload_n 1, 1) := by decide +kernel
theorem dX4_arrange_2 : decode cX4_arrange 2 = .ok (.putfield 26, 3) := by decide +kernel
theorem dX4_arrange_5 : decode cX4_arrange 5 = .ok (.return_, 1) := by decide +kernel
theorem dX4_word_0 : decode cX4_word 0 = .ok (.aload_n 0, 1) := by decide +kernel
theorem dX4_word_1 : decode cX4_word 1 = .ok (.getfield 17, 3) := by decide +kernel
theorem dX4_word_4 : decode cX4_word 4 = .ok (.iload_n 1, 1) := by decide +kernel
theorem dX4_word_5 : decode cX4_word 5 = .ok (.ifCond .lt 12, 3) := by decide +kernel
theorem dX4_word_8 : decode cX4_word 8 = .ok (.iload_n 1, 1) := by decide +kernel
theorem dX4_word_9 : decode cX4_word 9 = .ok (.iconst 4, 1) := by decide +kernel
theorem dX4_word_10 : decode cX4_word 10 = .ok (.if_icmp .ge 7, 3) := by decide +kernel
theorem dX4_word_13 : decode cX4_word 13 = .ok (.iload_n 1, 1) := by decide +kernel
theorem dX4_word_14 : decode cX4_word 14 = .ok (.goto 4, 3) := by decide +kernel
theorem dX4_word_17 : decode cX4_word 17 = .ok (.iconst 0, 1) := by decide +kernel
theorem dX4_word_18 : decode cX4_word 18 = .ok (.aaload, 1) := by decide +kernel
theorem dX4_word_19 : decode cX4_word 19 = .ok (.areturn, 1) := by decide +kernel
theorem dX4_isDefined_0 : decode cX4_isDefined 0 = .ok (.aload_n 0, 1) := by decide +kernel
theorem dX4_isDefined_1 : decode cX4_isDefined 1 = .ok (.getfield 21, 3) := by decide +kernel
theorem dX4_isDefined_4 : decode cX4_isDefined 4 = .ok (.iload_n 1, 1) := by decide +kernel
theorem dX4_isDefined_5 : decode cX4_isDefined 5 = .ok (.iushr, 1) := by decide +kernel
theorem dX4_isDefined_6 : decode cX4_isDefined 6 = .ok (.iconst 1, 1) := by decide +kernel
theorem dX4_isDefined_7 : decode cX4_isDefined 7 = .ok (.iand, 1) := by decide +kernel
theorem dX4_isDefined_8 : decode cX4_isDefined 8 = .ok (.iconst 1, 1) := by decide +kernel
theorem dX4_isDefined_9 : decode cX4_isDefined 9 = .ok (.if_icmp .ne 7, 3) := by decide +kernel
theorem dX4_isDefined_12 : decode cX4_isDefined 12 = .ok (.iconst 1, 1) := by decide +kernel
theorem dX4_isDefined_13 : decode cX4_isDefined 13 = .ok (.goto 4, 3) := by decide +kernel
theorem dX4_isDefined_16 : decode cX4_isDefined 16 = .ok (.iconst 0, 1) := by decide +kernel
theorem dX4_isDefined_17 : decode cX4_isDefined 17 = .ok (.ireturn, 1) := by decide +kernel
theorem dX4_defineMove_0 : decode cX4_defineMove 0 = .ok (.iload_n 1, 1) := by decide +kernel
theorem dX4_defineMove_1 : decode cX4_defineMove 1 = .ok (.ifCond .lt 8, 3) := by decide +kernel
theorem dX4_defineMove_4 : decode cX4_defineMove 4 = .ok (.iload_n 1, 1) := by decide +kernel
theorem dX4_defineMove_5 : decode cX4_defineMove 5 = .ok (.iconst 5, 1) := by decide +kernel
theorem dX4_defineMove_6 : decode cX4_defineMove 6 = .ok (.if_icmp .lt 4, 3) := by decide +kernel
theorem dX4_defineMove_9 : decode cX4_defineMove 9 = .ok (.return_, 1) := by decide +kernel
theorem dX4_defineMove_10 : decode cX4_defineMove 10 = .ok (.aload_n 0, 1) := by decide +kernel
theorem dX4_defineMove_11 : decode cX4_defineMove 11 = .ok (.getfield 9, 3) := by decide +kernel
theorem dX4_defineMove_14 : decode cX4_defineMove 14 = .ok (.iconst 2, 1) := by decide +kernel
theorem dX4_defineMove_15 : decode cX4_defineMove 15 = .ok (.iload_n 1, 1) := by decide +kernel
theorem dX4_defineMove_16 : decode cX4_defineMove 16 = .ok (.imul, 1) := by decide +kernel
theorem dX4_defineMove_17 : decode cX4_defineMove 17 = .ok (.iload_n 2, 1) := by decide +kernel
theorem dX4_defineMove_18 : decode cX4_defineMove 18 = .ok (.iastore, 1) := by decide +kernel
theorem dX4_defineMove_19 : decode cX4_defineMove 19 = .ok (.aload_n 0, 1) := by decide +kernel
theorem dX4_defineMove_20 : decode cX4_defineMove 20 = .ok (.getfield 9, 3) := by decide +kernel
theorem dX4_defineMove_23 : decode cX4_defineMove 23 = .ok (.iconst 2, 1) := by decide +kernel
theorem dX4_defineMove_24 : decode cX4_defineMove 24 = .ok (.iload_n 1, 1) := by decide +kernel
theorem dX4_defineMove_25 : decode cX4_defineMove 25 = .ok (.imul, 1) := by decide +kernel
theorem dX4_defineMove_26 : decode cX4_defineMove 26 = .ok (.iconst 1, 1) := by decide +kernel
theorem dX4_defineMove_27 : decode cX4_defineMove 27 = .ok (.iadd, 1) := by decide +kernel
theorem dX4_defineMove_28 : decode cX4_defineMove 28 = .ok (.iload_n 2, 1) := by decide +kernel
theorem dX4_defineMove_29 : decode cX4_defineMove 29 = .ok (.invokestatic 38, 3) := by decide +kernel
theorem dX4_defineMove_32 : decode cX4_defineMove 32 = .ok (.iastore, 1) := by decide +kernel
theorem dX4_defineMove_33 : decode cX4_defineMove 33 = .ok (.aload_n 0, 1) := by decide +kernel
theorem dX4_defineMove_34 : decode cX4_defineMove 34 = .ok (.dup, 1) := by decide +kernel
theorem dX4_defineMove_35 : decode cX4_defineMove 35 = .ok (.getfield 21, 3) := by decide +kernel
theorem dX4_defineMove_38 : decode cX4_defineMove 38 = .ok (.iconst 1, 1) := by decide +kernel
theorem dX4_defineMove_39 : decode cX4_defineMove 39 = .ok (.iload_n 1, 1) := by decide +kernel
theorem dX4_defineMove_40 : decode cX4_defineMove 40 = .ok (.ishl, 1) := by decide +kernel
theorem dX4_defineMove_41 : decode cX4_defineMove 41 = .ok (.ior, 1) := by decide +kernel
theorem dX4_defineMove_42 : decode cX4_defineMove 42 = .ok (.putfield 21, 3) := by decide +kernel
theorem dX4_defineMove_45 : decode cX4_defineMove 45 = .ok (.return_, 1) := by decide +kernel
theorem dX4_definesNamesIn_0 : decode cX4_definesNamesIn 0 = .ok (.iconst 0, 1) := by decide +kernel
theorem dX4_definesNamesIn_1 : decode cX4_definesNamesIn 1 = .ok (.istore_n 2, 1) := by decide +kernel
theorem dX4_definesNamesIn_2 : decode cX4_definesNamesIn 2 = .ok (.iload_n 2, 1) := by decide +kernel
theorem dX4_definesNamesIn_3 : decode cX4_definesNamesIn 3 = .ok (.aload_n 1, 1) := by decide +kernel
theorem dX4_definesNamesIn_4 : decode cX4_definesNamesIn 4 = .ok (.invokevirtual 44, 3) := by decide +kernel
theorem dX4_definesNamesIn_7 : decode cX4_definesNamesIn 7 = .ok (.if_icmp .ge 35, 3) := by decide +kernel
theorem dX4_definesNamesIn_10 : decode cX4_definesNamesIn 10 = .ok (.aload_n 1, 1) := by decide +kernel
theorem dX4_definesNamesIn_11 : decode cX4_definesNamesIn 11 = .ok (.iload_n 2, 1) := by decide +kernel
theorem dX4_definesNamesIn_12 : decode cX4_definesNamesIn 12 = .ok (.invokevirtual 50, 3) := by decide +kernel
theorem dX4_definesNamesIn_15 : decode cX4_definesNamesIn 15 = .ok (.istore_n 3, 1) := by decide +kernel
theorem dX4_definesNamesIn_16 : decode cX4_definesNamesIn 16 = .ok (.iload_n 3, 1) := by decide +kernel
theorem dX4_definesNamesIn_17 : decode cX4_definesNamesIn 17 = .ok (.invokestatic 54, 3) := by decide +kernel
theorem dX4_definesNamesIn_20 : decode cX4_definesNamesIn 20 = .ok (.ifCond .eq 16, 3) := by decide +kernel
theorem dX4_definesNamesIn_23 : decode cX4_definesNamesIn 23 = .ok (.aload_n 0, 1) := by decide +kernel
theorem dX4_definesNamesIn_24 : decode cX4_definesNamesIn 24 = .ok (.iload_n 3, 1) := by decide +kernel
theorem dX4_definesNamesIn_25 : decode cX4_definesNamesIn 25 = .ok (.bipush 97, 2) := by decide +kernel
theorem dX4_definesNamesIn_27 : decode cX4_definesNamesIn 27 = .ok (.isub, 1) := by decide +kernel
theorem dX4_definesNamesIn_28 : decode cX4_definesNamesIn 28 = .ok (.invokevirtual 58, 3) := by decide +kernel
theorem dX4_definesNamesIn_31 : decode cX4_definesNamesIn 31 = .ok (.ifCond .ne 5, 3) := by decide +kernel
theorem dX4_definesNamesIn_34 : decode cX4_definesNamesIn 34 = .ok (.iconst 0, 1) := by decide +kernel
theorem dX4_definesNamesIn_35 : decode cX4_definesNamesIn 35 = .ok (.ireturn, 1) := by decide +kernel
theorem dX4_definesNamesIn_36 : decode cX4_definesNamesIn 36 = .ok (.iinc 2 1, 3) := by decide +kernel
theorem dX4_definesNamesIn_39 : decode cX4_definesNamesIn 39 = .ok (.goto (-37), 3) := by decide +kernel
theorem dX4_definesNamesIn_42 : decode cX4_definesNamesIn 42 = .ok (.iconst 1, 1) := by decide +kernel
theorem dX4_definesNamesIn_43 : decode cX4_definesNamesIn 43 = .ok (.ireturn, 1) := by decide +kernel
theorem dX4_effectOfLetter_0 : decode cX4_effectOfLetter 0 = .ok (.iload_n 1, 1) := by decide +kernel
theorem dX4_effectOfLetter_1 : decode cX4_effectOfLetter 1 = .ok (.ifCond .lt 18, 3) := by decide +kernel
theorem dX4_effectOfLetter_4 : decode cX4_effectOfLetter 4 = .ok (.iload_n 1, 1) := by decide +kernel
theorem dX4_effectOfLetter_5 : decode cX4_effectOfLetter 5 = .ok (.bipush 10, 2) := by decide +kernel
theorem dX4_effectOfLetter_7 : decode cX4_effectOfLetter 7 = .ok (.if_icmp .ge 12, 3) := by decide +kernel
theorem dX4_effectOfLetter_10 : decode cX4_effectOfLetter 10 = .ok (.aload_n 0, 1) := by decide +kernel
theorem dX4_effectOfLetter_11 : decode cX4_effectOfLetter 11 = .ok (.getfield 9, 3) := by decide +kernel
theorem dX4_effectOfLetter_14 : decode cX4_effectOfLetter 14 = .ok (.iload_n 1, 1) := by decide +kernel
theorem dX4_effectOfLetter_15 : decode cX4_effectOfLetter 15 = .ok (.iaload, 1) := by decide +kernel
theorem dX4_effectOfLetter_16 : decode cX4_effectOfLetter 16 = .ok (.goto 5, 3) := by decide +kernel
theorem dX4_effectOfLetter_19 : decode cX4_effectOfLetter 19 = .ok (.ldc 25, 2) := by decide +kernel
theorem dX4_effectOfLetter_21 : decode cX4_effectOfLetter 21 = .ok (.ireturn, 1) := by decide +kernel
theorem dX4_effectOfWord_0 : decode cX4_effectOfWord 0 = .ok (.aload_n 0, 1) := by decide +kernel
theorem dX4_effectOfWord_1 : decode cX4_effectOfWord 1 = .ok (.iload_n 1, 1) := by decide +kernel
theorem dX4_effectOfWord_2 : decode cX4_effectOfWord 2 = .ok (.invokevirtual 62, 3) := by decide +kernel
theorem dX4_effectOfWord_5 : decode cX4_effectOfWord 5 = .ok (.astore_n 2, 1) := by decide +kernel
theorem dX4_effectOfWord_6 : decode cX4_effectOfWord 6 = .ok (.ldc 25, 2) := by decide +kernel
theorem dX4_effectOfWord_8 : decode cX4_effectOfWord 8 = .ok (.istore_n 3, 1) := by decide +kernel
theorem dX4_effectOfWord_9 : decode cX4_effectOfWord 9 = .ok (.iconst 0, 1) := by decide +kernel
theorem dX4_effectOfWord_10 : decode cX4_effectOfWord 10 = .ok (.istore 4, 2) := by decide +kernel
theorem dX4_effectOfWord_12 : decode cX4_effectOfWord 12 = .ok (.iload 4, 2) := by decide +kernel
theorem dX4_effectOfWord_14 : decode cX4_effectOfWord 14 = .ok (.aload_n 2, 1) := by decide +kernel
theorem dX4_effectOfWord_15 : decode cX4_effectOfWord 15 = .ok (.invokevirtual 66, 3) := by decide +kernel
theorem dX4_effectOfWord_18 : decode cX4_effectOfWord 18 = .ok (.if_icmp .ge 24, 3) := by decide +kernel
theorem dX4_effectOfWord_21 : decode cX4_effectOfWord 21 = .ok (.iload_n 3, 1) := by decide +kernel
theorem dX4_effectOfWord_22 : decode cX4_effectOfWord 22 = .ok (.aload_n 0, 1) := by decide +kernel
theorem dX4_effectOfWord_23 : decode cX4_effectOfWord 23 = .ok (.aload_n 2, 1) := by decide +kernel
theorem dX4_effectOfWord_24 : decode cX4_effectOfWord 24 = .ok (.iload 4, 2) := by decide +kernel
theorem dX4_effectOfWord_26 : decode cX4_effectOfWord 26 = .ok (.invokevirtual 67, 3) := by decide +kernel
theorem dX4_effectOfWord_29 : decode cX4_effectOfWord 29 = .ok (.invokevirtual 69, 3) := by decide +kernel
theorem dX4_effectOfWord_32 : decode cX4_effectOfWord 32 = .ok (.invokestatic 72, 3) := by decide +kernel
theorem dX4_effectOfWord_35 : decode cX4_effectOfWord 35 = .ok (.istore_n 3, 1) := by decide +kernel
theorem dX4_effectOfWord_36 : decode cX4_effectOfWord 36 = .ok (.iinc 4 1, 3) := by decide +kernel
theorem dX4_effectOfWord_39 : decode cX4_effectOfWord 39 = .ok (.goto (-27), 3) := by decide +kernel
theorem dX4_effectOfWord_42 : decode cX4_effectOfWord 42 = .ok (.iload_n 3, 1) := by decide +kernel
theorem dX4_effectOfWord_43 : decode cX4_effectOfWord 43 = .ok (.ireturn, 1) := by decide +kernel
theorem dX4_spread_0 : decode cX4_spread 0 = .ok (.iload_n 1, 1) := by decide +kernel
theorem dX4_spread_1 : decode cX4_spread 1 = .ok (.istore_n 2, 1) := by decide +kernel
theorem dX4_spread_2 : decode cX4_spread 2 = .ok (.iconst 0, 1) := by decide +kernel
theorem dX4_spread_3 : decode cX4_spread 3 = .ok (.istore_n 3, 1) := by decide +kernel
theorem dX4_spread_4 : decode cX4_spread 4 = .ok (.iload_n 3, 1) := by decide +kernel
theorem dX4_spread_5 : decode cX4_spread 5 = .ok (.bipush 10, 2) := by decide +kernel
theorem dX4_spread_7 : decode cX4_spread 7 = .ok (.if_icmp .ge 51, 3) := by decide +kernel
theorem dX4_spread_10 : decode cX4_spread 10 = .ok (.iconst 0, 1) := by decide +kernel
theorem dX4_spread_11 : decode cX4_spread 11 = .ok (.istore 4, 2) := by decide +kernel
theorem dX4_spread_13 : decode cX4_spread 13 = .ok (.iload 4, 2) := by decide +kernel
theorem dX4_spread_15 : decode cX4_spread 15 = .ok (.bipush 7, 2) := by decide +kernel
theorem dX4_spread_17 : decode cX4_spread 17 = .ok (.if_icmp .ge 35, 3) := by decide +kernel
theorem dX4_spread_20 : decode cX4_spread 20 = .ok (.iload_n 1, 1) := by decide +kernel
theorem dX4_spread_21 : decode cX4_spread 21 = .ok (.iload 4, 2) := by decide +kernel
theorem dX4_spread_23 : decode cX4_spread 23 = .ok (.iushr, 1) := by decide +kernel
theorem dX4_spread_24 : decode cX4_spread 24 = .ok (.iconst 1, 1) := by decide +kernel
theorem dX4_spread_25 : decode cX4_spread 25 = .ok (.iand, 1) := by decide +kernel
theorem dX4_spread_26 : decode cX4_spread 26 = .ok (.iconst 1, 1) := by decide +kernel
theorem dX4_spread_27 : decode cX4_spread 27 = .ok (.if_icmp .ne 19, 3) := by decide +kernel
theorem dX4_spread_30 : decode cX4_spread 30 = .ok (.iload_n 2, 1) := by decide +kernel
theorem dX4_spread_31 : decode cX4_spread 31 = .ok (.iconst 1, 1) := by decide +kernel
theorem dX4_spread_32 : decode cX4_spread 32 = .ok (.aload_n 0, 1) := by decide +kernel
theorem dX4_spread_33 : decode cX4_spread 33 = .ok (.getfield 9, 3) := by decide +kernel
theorem dX4_spread_36 : decode cX4_spread 36 = .ok (.iload_n 3, 1) := by decide +kernel
theorem dX4_spread_37 : decode cX4_spread 37 = .ok (.iaload, 1) := by decide +kernel
theorem dX4_spread_38 : decode cX4_spread 38 = .ok (.iload 4, 2) := by decide +kernel
theorem dX4_spread_40 : decode cX4_spread 40 = .ok (.invokestatic 76, 3) := by decide +kernel
theorem dX4_spread_43 : decode cX4_spread 43 = .ok (.ishl, 1) := by decide +kernel
theorem dX4_spread_44 : decode cX4_spread 44 = .ok (.ior, 1) := by decide +kernel
theorem dX4_spread_45 : decode cX4_spread 45 = .ok (.istore_n 2, 1) := by decide +kernel
theorem dX4_spread_46 : decode cX4_spread 46 = .ok (.iinc 4 1, 3) := by decide +kernel
theorem dX4_spread_49 : decode cX4_spread 49 = .ok (.goto (-36), 3) := by decide +kernel
theorem dX4_spread_52 : decode cX4_spread 52 = .ok (.iinc 3 1, 3) := by decide +kernel
theorem dX4_spread_55 : decode cX4_spread 55 = .ok (.goto (-51), 3) := by decide +kernel
theorem dX4_spread_58 : decode cX4_spread 58 = .ok (.iload_n 2, 1) := by decide +kernel
theorem dX4_spread_59 : decode cX4_spread 59 = .ok (.ireturn, 1) := by decide +kernel
theorem dX5_init_0 : decode cX5_init 0 = .ok (.aload_n 0, 1) := by decide +kernel
theorem dX5_init_1 : decode cX5_init 1 = .ok (.invokespecial 3, 3) := by decide +kernel
theorem dX5_init_4 : decode cX5_init 4 = .ok (.aload_n 0, 1) := by decide +kernel
theorem dX5_init_5 : decode cX5_init 5 = .ok (.bipush 40, 2) := by decide +kernel
theorem dX5_init_7 : decode cX5_init 7 = .ok (.newarray .char, 2) := by decide +kernel
theorem dX5_init_9 : decode cX5_init 9 = .ok (.putfield 9, 3) := by decide +kernel
theorem dX5_init_12 : decode cX5_init 12 = .ok (.aload_n 0, 1) := by decide +kernel
theorem dX5_init_13 : decode cX5_init 13 = .ok (.iconst 0, 1) := by decide +kernel
theorem dX5_init_14 : decode cX5_init 14 = .ok (.putfield 15, 3) := by decide +kernel
theorem dX5_init_17 : decode cX5_init 17 = .ok (.return_, 1) := by decide +kernel
theorem dX5_length_0 : decode cX5_length 0 = .ok (.aload_n 0, 1) := by decide +kernel
theorem dX5_length_1 : decode cX5_length 1 = .ok (.getfield 15, 3) := by decide +kernel
theorem dX5_length_4 : decode cX5_length 4 = .ok (.ireturn, 1) := by decide +kernel
theorem dX5_at_0 : decode cX5_at 0 = .ok (.iload_n 1, 1) := by decide +kernel
theorem dX5_at_1 : decode cX5_at 1 = .ok (.ifCond .lt 20, 3) := by decide +kernel
theorem dX5_at_4 : decode cX5_at 4 = .ok (.iload_n 1, 1) := by decide +kernel
theorem dX5_at_5 : decode cX5_at 5 = .ok (.aload_n 0, 1) := by decide +kernel
theorem dX5_at_6 : decode cX5_at 6 = .ok (.getfield 15, 3) := by decide +kernel
theorem dX5_at_9 : decode cX5_at 9 = .ok (.if_icmp .ge 12, 3) := by decide +kernel
theorem dX5_at_12 : decode cX5_at 12 = .ok (.aload_n 0, 1) := by decide +kernel
theorem dX5_at_13 : decode cX5_at 13 = .ok (.getfield 9, 3) := by decide +kernel
theorem dX5_at_16 : decode cX5_at 16 = .ok (.iload_n 1, 1) := by decide +kernel
theorem dX5_at_17 : decode cX5_at 17 = .ok (.caload, 1) := by decide +kernel
theorem dX5_at_18 : decode cX5_at 18 = .ok (.goto 4, 3) := by decide +kernel
theorem dX5_at_21 : decode cX5_at 21 = .ok (.iconst 0, 1) := by decide +kernel
theorem dX5_at_22 : decode cX5_at 22 = .ok (.ireturn, 1) := by decide +kernel
theorem dX5_add_0 : decode cX5_add 0 = .ok (.aload_n 0, 1) := by decide +kernel
theorem dX5_add_1 : decode cX5_add 1 = .ok (.getfield 15, 3) := by decide +kernel
theorem dX5_add_4 : decode cX5_add 4 = .ok (.aload_n 0, 1) := by decide +kernel
theorem dX5_add_5 : decode cX5_add 5 = .ok (.getfield 9, 3) := by decide +kernel
theorem dX5_add_8 : decode cX5_add 8 = .ok (.arraylength, 1) := by decide +kernel
theorem dX5_add_9 : decode cX5_add 9 = .ok (.if_icmp .lt 5, 3) := by decide +kernel
theorem dX5_add_12 : decode cX5_add 12 = .ok (.iconst 0, 1) := by decide +kernel
theorem dX5_add_13 : decode cX5_add 13 = .ok (.ireturn, 1) := by decide +kernel
theorem dX5_add_14 : decode cX5_add 14 = .ok (.aload_n 0, 1) := by decide +kernel
theorem dX5_add_15 : decode cX5_add 15 = .ok (.getfield 9, 3) := by decide +kernel
theorem dX5_add_18 : decode cX5_add 18 = .ok (.aload_n 0, 1) := by decide +kernel
theorem dX5_add_19 : decode cX5_add 19 = .ok (.getfield 15, 3) := by decide +kernel
theorem dX5_add_22 : decode cX5_add 22 = .ok (.iload_n 1, 1) := by decide +kernel
theorem dX5_add_23 : decode cX5_add 23 = .ok (.castore, 1) := by decide +kernel
theorem dX5_add_24 : decode cX5_add 24 = .ok (.aload_n 0, 1) := by decide +kernel
theorem dX5_add_25 : decode cX5_add 25 = .ok (.dup, 1) := by decide +kernel
theorem dX5_add_26 : decode cX5_add 26 = .ok (.getfield 15, 3) := by decide +kernel
theorem dX5_add_29 : decode cX5_add 29 = .ok (.iconst 1, 1) := by decide +kernel
theorem dX5_add_30 : decode cX5_add 30 = .ok (.iadd, 1) := by decide +kernel
theorem dX5_add_31 : decode cX5_add 31 = .ok (.putfield 15, 3) := by decide +kernel
theorem dX5_add_34 : decode cX5_add 34 = .ok (.iconst 1, 1) := by decide +kernel
theorem dX5_add_35 : decode cX5_add 35 = .ok (.ireturn, 1) := by decide +kernel
theorem dX5_clear_0 : decode cX5_clear 0 = .ok (.aload_n 0, 1) := by decide +kernel
theorem dX5_clear_1 : decode cX5_clear 1 = .ok (.iconst 0, 1) := by decide +kernel
theorem dX5_clear_2 : decode cX5_clear 2 = .ok (.putfield 15, 3) := by decide +kernel
theorem dX5_clear_5 : decode cX5_clear 5 = .ok (.return_, 1) := by decide +kernel
theorem dX5_isName_0 : decode cX5_isName 0 = .ok (.iload_n 0, 1) := by decide +kernel
theorem dX5_isName_1 : decode cX5_isName 1 = .ok (.bipush 97, 2) := by decide +kernel
theorem dX5_isName_3 : decode cX5_isName 3 = .ok (.if_icmp .lt 13, 3) := by decide +kernel
theorem dX5_isName_6 : decode cX5_isName 6 = .ok (.iload_n 0, 1) := by decide +kernel
theorem dX5_isName_7 : decode cX5_isName 7 = .ok (.bipush 102, 2) := by decide +kernel
theorem dX5_isName_9 : decode cX5_isName 9 = .ok (.if_icmp .ge 7, 3) := by decide +kernel
theorem dX5_isName_12 : decode cX5_isName 12 = .ok (.iconst 1, 1) := by decide +kernel
theorem dX5_isName_13 : decode cX5_isName 13 = .ok (.goto 4, 3) := by decide +kernel
theorem dX5_isName_16 : decode cX5_isName 16 = .ok (.iconst 0, 1) := by decide +kernel
theorem dX5_isName_17 : decode cX5_isName 17 = .ok (.ireturn, 1) := by decide +kernel
theorem dX6_init_0 : decode cX6_init 0 = .ok (.aload_n 0, 1) := by decide +kernel
theorem dX6_init_1 : decode cX6_init 1 = .ok (.invokespecial 3, 3) := by decide +kernel
theorem dX6_init_4 : decode cX6_init 4 = .ok (.aload_n 0, 1) := by decide +kernel
theorem dX6_init_5 : decode cX6_init 5 = .ok (.sipush 200, 3) := by decide +kernel
theorem dX6_init_8 : decode cX6_init 8 = .ok (.newarray .int, 2) := by decide +kernel
theorem dX6_init_10 : decode cX6_init 10 = .ok (.putfield 9, 3) := by decide +kernel
theorem dX6_init_13 : decode cX6_init 13 = .ok (.aload_n 0, 1) := by decide +kernel
theorem dX6_init_14 : decode cX6_init 14 = .ok (.iconst 0, 1) := by decide +kernel
theorem dX6_init_15 : decode cX6_init 15 = .ok (.putfield 15, 3) := by decide +kernel
theorem dX6_init_18 : decode cX6_init 18 = .ok (.return_, 1) := by decide +kernel
theorem dX6_length_0 : decode cX6_length 0 = .ok (.aload_n 0, 1) := by decide +kernel
theorem dX6_length_1 : decode cX6_length 1 = .ok (.getfield 15, 3) := by decide +kernel
theorem dX6_length_4 : decode cX6_length 4 = .ok (.ireturn, 1) := by decide +kernel
theorem dX6_at_0 : decode cX6_at 0 = .ok (.iload_n 1, 1) := by decide +kernel
theorem dX6_at_1 : decode cX6_at 1 = .ok (.ifCond .lt 20, 3) := by decide +kernel
theorem dX6_at_4 : decode cX6_at 4 = .ok (.iload_n 1, 1) := by decide +kernel
theorem dX6_at_5 : decode cX6_at 5 = .ok (.aload_n 0, 1) := by decide +kernel
theorem dX6_at_6 : decode cX6_at 6 = .ok (.getfield 15, 3) := by decide +kernel
theorem dX6_at_9 : decode cX6_at 9 = .ok (.if_icmp .ge 12, 3) := by decide +kernel
theorem dX6_at_12 : decode cX6_at 12 = .ok (.aload_n 0, 1) := by decide +kernel
theorem dX6_at_13 : decode cX6_at 13 = .ok (.getfield 9, 3) := by decide +kernel
theorem dX6_at_16 : decode cX6_at 16 = .ok (.iload_n 1, 1) := by decide +kernel
theorem dX6_at_17 : decode cX6_at 17 = .ok (.iaload, 1) := by decide +kernel
theorem dX6_at_18 : decode cX6_at 18 = .ok (.goto 4, 3) := by decide +kernel
theorem dX6_at_21 : decode cX6_at 21 = .ok (.iconst 0, 1) := by decide +kernel
theorem dX6_at_22 : decode cX6_at 22 = .ok (.ireturn, 1) := by decide +kernel
theorem dX6_clear_0 : decode cX6_clear 0 = .ok (.aload_n 0, 1) := by decide +kernel
theorem dX6_clear_1 : decode cX6_clear 1 = .ok (.iconst 0, 1) := by decide +kernel
theorem dX6_clear_2 : decode cX6_clear 2 = .ok (.putfield 15, 3) := by decide +kernel
theorem dX6_clear_5 : decode cX6_clear 5 = .ok (.return_, 1) := by decide +kernel
theorem dX6_copyFrom_0 : decode cX6_copyFrom 0 = .ok (.aload_n 0, 1) := by decide +kernel
theorem dX6_copyFrom_1 : decode cX6_copyFrom 1 = .ok (.iconst 0, 1) := by decide +kernel
theorem dX6_copyFrom_2 : decode cX6_copyFrom 2 = .ok (.putfield 15, 3) := by decide +kernel
theorem dX6_copyFrom_5 : decode cX6_copyFrom 5 = .ok (.aload_n 0, 1) := by decide +kernel
theorem dX6_copyFrom_6 : decode cX6_copyFrom 6 = .ok (.aload_n 1, 1) := by decide +kernel
theorem dX6_copyFrom_7 : decode cX6_copyFrom 7 = .ok (.invokevirtual 19, 3) := by decide +kernel
theorem dX6_copyFrom_10 : decode cX6_copyFrom 10 = .ok (.pop, 1) := by decide +kernel
theorem dX6_copyFrom_11 : decode cX6_copyFrom 11 = .ok (.return_, 1) := by decide +kernel
theorem dX6_add_0 : decode cX6_add 0 = .ok (.aload_n 0, 1) := by decide +kernel
theorem dX6_add_1 : decode cX6_add 1 = .ok (.getfield 15, 3) := by decide +kernel
theorem dX6_add_4 : decode cX6_add 4 = .ok (.aload_n 0, 1) := by decide +kernel
theorem dX6_add_5 : decode cX6_add 5 = .ok (.getfield 9, 3) := by decide +kernel
theorem dX6_add_8 : decode cX6_add 8 = .ok (.arraylength, 1) := by decide +kernel
theorem dX6_add_9 : decode cX6_add 9 = .ok (.if_icmp .lt 5, 3) := by decide +kernel
theorem dX6_add_12 : decode cX6_add 12 = .ok (.iconst 0, 1) := by decide +kernel
theorem dX6_add_13 : decode cX6_add 13 = .ok (.ireturn, 1) := by decide +kernel
theorem dX6_add_14 : decode cX6_add 14 = .ok (.aload_n 0, 1) := by decide +kernel
theorem dX6_add_15 : decode cX6_add 15 = .ok (.getfield 9, 3) := by decide +kernel
theorem dX6_add_18 : decode cX6_add 18 = .ok (.aload_n 0, 1) := by decide +kernel
theorem dX6_add_19 : decode cX6_add 19 = .ok (.getfield 15, 3) := by decide +kernel
theorem dX6_add_22 : decode cX6_add 22 = .ok (.iload_n 1, 1) := by decide +kernel
theorem dX6_add_23 : decode cX6_add 23 = .ok (.iastore, 1) := by decide +kernel
theorem dX6_add_24 : decode cX6_add 24 = .ok (.aload_n 0, 1) := by decide +kernel
theorem dX6_add_25 : decode cX6_add 25 = .ok (.dup, 1) := by decide +kernel
theorem dX6_add_26 : decode cX6_add 26 = .ok (.getfield 15, 3) := by decide +kernel
theorem dX6_add_29 : decode cX6_add 29 = .ok (.iconst 1, 1) := by decide +kernel
theorem dX6_add_30 : decode cX6_add 30 = .ok (.iadd, 1) := by decide +kernel
theorem dX6_add_31 : decode cX6_add 31 = .ok (.putfield 15, 3) := by decide +kernel
theorem dX6_add_34 : decode cX6_add 34 = .ok (.iconst 1, 1) := by decide +kernel
theorem dX6_add_35 : decode cX6_add 35 = .ok (.ireturn, 1) := by decide +kernel
theorem dX6_addAll_0 : decode cX6_addAll 0 = .ok (.aload_n 0, 1) := by decide +kernel
theorem dX6_addAll_1 : decode cX6_addAll 1 = .ok (.aload_n 1, 1) := by decide +kernel
theorem dX6_addAll_2 : decode cX6_addAll 2 = .ok (.iconst 0, 1) := by decide +kernel
theorem dX6_addAll_3 : decode cX6_addAll 3 = .ok (.aload_n 1, 1) := by decide +kernel
theorem dX6_addAll_4 : decode cX6_addAll 4 = .ok (.invokevirtual 23, 3) := by decide +kernel
theorem dX6_addAll_7 : decode cX6_addAll 7 = .ok (.invokevirtual 26, 3) := by decide +kernel
theorem dX6_addAll_10 : decode cX6_addAll 10 = .ok (.ireturn, 1) := by decide +kernel
theorem dX6_addInverseOf_0 : decode cX6_addInverseOf 0 = .ok (.aload_n 0, 1) := by decide +kernel
theorem dX6_addInverseOf_1 : decode cX6_addInverseOf 1 = .ok (.aload_n 1, 1) := by decide +kernel
theorem dX6_addInverseOf_2 : decode cX6_addInverseOf 2 = .ok (.iconst 0, 1) := by decide +kernel
theorem dX6_addInverseOf_3 : decode cX6_addInverseOf 3 = .ok (.aload_n 1, 1) := by decide +kernel
theorem dX6_addInverseOf_4 : decode cX6_addInverseOf 4 = .ok (.invokevirtual 23, 3) := by decide +kernel
theorem dX6_addInverseOf_7 : decode cX6_addInverseOf 7 = .ok (.invokevirtual 30, 3) := by decide +kernel
theorem dX6_addInverseOf_10 : decode cX6_addInverseOf 10 = .ok (.ireturn, 1) := by decide +kernel
theorem dX6_repeatFrom_0 : decode cX6_repeatFrom 0 = .ok (.aload_n 0, 1) := by decide +kernel
theorem dX6_repeatFrom_1 : decode cX6_repeatFrom 1 = .ok (.getfield 15, 3) := by decide +kernel
theorem dX6_repeatFrom_4 : decode cX6_repeatFrom 4 = .ok (.istore_n 3, 1) := by decide +kernel
theorem dX6_repeatFrom_5 : decode cX6_repeatFrom 5 = .ok (.iconst 1, 1) := by decide +kernel
theorem dX6_repeatFrom_6 : decode cX6_repeatFrom 6 = .ok (.istore 4, 2) := by decide +kernel
theorem dX6_repeatFrom_8 : decode cX6_repeatFrom 8 = .ok (.iconst 1, 1) := by decide +kernel
theorem dX6_repeatFrom_9 : decode cX6_repeatFrom 9 = .ok (.istore 5, 2) := by decide +kernel
theorem dX6_repeatFrom_11 : decode cX6_repeatFrom 11 = .ok (.iload 4, 2) := by decide +kernel
theorem dX6_repeatFrom_13 : decode cX6_repeatFrom 13 = .ok (.ifCond .eq 24, 3) := by decide +kernel
theorem dX6_repeatFrom_16 : decode cX6_repeatFrom 16 = .ok (.iload 5, 2) := by decide +kernel
theorem dX6_repeatFrom_18 : decode cX6_repeatFrom 18 = .ok (.iload_n 2, 1) := by decide +kernel
theorem dX6_repeatFrom_19 : decode cX6_repeatFrom 19 = .ok (.if_icmp .ge 18, 3) := by decide +kernel
theorem dX6_repeatFrom_22 : decode cX6_repeatFrom 22 = .ok (.aload_n 0, 1) := by decide +kernel
theorem dX6_repeatFrom_23 : decode cX6_repeatFrom 23 = .ok (.aload_n 0, 1) := by decide +kernel
theorem dX6_repeatFrom_24 : decode cX6_repeatFrom 24 = .ok (.iload_n 1, 1) := by decide +kernel
theorem dX6_repeatFrom_25 : decode cX6_repeatFrom 25 = .ok (.iload_n 3, 1) := by decide +kernel
theorem dX6_repeatFrom_26 : decode cX6_repeatFrom 26 = .ok (.invokevirtual 26, 3) := by decide +kernel
theorem dX6_repeatFrom_29 : decode cX6_repeatFrom 29 = .ok (.istore 4, 2) := by decide +kernel
theorem dX6_repeatFrom_31 : decode cX6_repeatFrom 31 = .ok (.iinc 5 1, 3) := by decide +kernel
theorem dX6_repeatFrom_34 : decode cX6_repeatFrom 34 = .ok (.goto (-23), 3) := by decide +kernel
theorem dX6_repeatFrom_37 : decode cX6_repeatFrom 37 = .ok (.iload 4, 2) := by decide +kernel
theorem dX6_repeatFrom_39 : decode cX6_repeatFrom 39 = .ok (.ireturn, 1) := by decide +kernel
theorem dX6_closeCommutator_0 : decode cX6_closeCommutator 0 = .ok (.aload_n 0, 1) := by decide +kernel
theorem dX6_closeCommutator_1 : decode cX6_closeCommutator 1 = .ok (.getfield 15, 3) := by decide +kernel
theorem dX6_closeCommutator_4 : decode cX6_closeCommutator 4 = .ok (.istore_n 3, 1) := by decide +kernel
theorem dX6_closeCommutator_5 : decode cX6_closeCommutator 5 = .ok (.aload_n 0, 1) := by decide +kernel
theorem dX6_closeCommutator_6 : decode cX6_closeCommutator 6 = .ok (.aload_n 0, 1) := by decide +kernel
theorem dX6_closeCommutator_7 : decode cX6_closeCommutator 7 = .ok (.iload_n 1, 1) := by decide +kernel
theorem dX6_closeCommutator_8 : decode cX6_closeCommutator 8 = .ok (.iload_n 2, 1) := by decide +kernel
theorem dX6_closeCommutator_9 : decode cX6_closeCommutator 9 = .ok (.invokevirtual 30, 3) := by decide +kernel
theorem dX6_closeCommutator_12 : decode cX6_closeCommutator 12 = .ok (.ifCond .eq 17, 3) := by decide +kernel
theorem dX6_closeCommutator_15 : decode cX6_closeCommutator 15 = .ok (.aload_n 0, 1) := by decide +kernel
theorem dX6_closeCommutator_16 : decode cX6_closeCommutator 16 = .ok (.aload_n 0, 1) := by decide +kernel
theorem dX6_closeCommutator_17 : decode cX6_closeCommutator 17 = .ok (.iload_n 2, 1) := by decide +kernel
theorem dX6_closeCommutator_18 : decode cX6_closeCommutator 18 = .ok (.iload_n 3, 1) := by decide +kernel
theorem dX6_closeCommutator_19 : decode cX6_closeCommutator 19 = .ok (.invokevirtual 30, 3) := by decide +kernel
theorem dX6_closeCommutator_22 : decode cX6_closeCommutator 22 = .ok (.ifCond .eq 7, 3) := by decide +kernel
theorem dX6_closeCommutator_25 : decode cX6_closeCommutator 25 = .ok (.iconst 1, 1) := by decide +kernel
theorem dX6_closeCommutator_26 : decode cX6_closeCommutator 26 = .ok (.goto 4, 3) := by decide +kernel
theorem dX6_closeCommutator_29 : decode cX6_closeCommutator 29 = .ok (.iconst 0, 1) := by decide +kernel
theorem dX6_closeCommutator_30 : decode cX6_closeCommutator 30 = .ok (.ireturn, 1) := by decide +kernel
theorem dX6_invertFrom_0 : decode cX6_invertFrom 0 = .ok (.iload_n 1, 1) := by decide +kernel
theorem dX6_invertFrom_1 : decode cX6_invertFrom 1 = .ok (.ifCond .ge 4, 3) := by decide +kernel
theorem dX6_invertFrom_4 : decode cX6_invertFrom 4 = .ok (.return_, 1) := by decide +kernel
theorem dX6_invertFrom_5 : decode cX6_invertFrom 5 = .ok (.aload_n 0, 1) := by decide +kernel
theorem dX6_invertFrom_6 : decode cX6_invertFrom 6 = .ok (.getfield 15, 3) := by decide +kernel
theorem dX6_invertFrom_9 : decode cX6_invertFrom 9 = .ok (.iconst 1, 1) := by decide +kernel
theorem dX6_invertFrom_10 : decode cX6_invertFrom 10 = .ok (.isub, 1) := by decide +kernel
theorem dX6_invertFrom_11 : decode cX6_invertFrom 11 = .ok (.istore_n 2, 1) := by decide +kernel
theorem dX6_invertFrom_12 : decode cX6_invertFrom 12 = .ok (.iload_n 1, 1) := by decide +kernel
theorem dX6_invertFrom_13 : decode cX6_invertFrom 13 = .ok (.istore_n 3, 1) := by decide +kernel
theorem dX6_invertFrom_14 : decode cX6_invertFrom 14 = .ok (.iload_n 3, 1) := by decide +kernel
theorem dX6_invertFrom_15 : decode cX6_invertFrom 15 = .ok (.iload_n 2, 1) := by decide +kernel
theorem dX6_invertFrom_16 : decode cX6_invertFrom 16 = .ok (.if_icmp .gt 44, 3) := by decide +kernel
theorem dX6_invertFrom_19 : decode cX6_invertFrom 19 = .ok (.aload_n 0, 1) := by decide +kernel
theorem dX6_invertFrom_20 : decode cX6_invertFrom 20 = .ok (.getfield 9, 3) := by decide +kernel
theorem dX6_invertFrom_23 : decode cX6_invertFrom 23 = .ok (.iload_n 2, 1) := by decide +kernel
theorem dX6_invertFrom_24 : decode cX6_invertFrom 24 = .ok (.iaload, 1) := by decide +kernel
theorem dX6_invertFrom_25 : decode cX6_invertFrom 25 = .ok (.iconst 1, 1) := by decide +kernel
theorem dX6_invertFrom_26 : decode cX6_invertFrom 26 = .ok (.ixor, 1) := by decide +kernel
theorem dX6_invertFrom_27 : decode cX6_invertFrom 27 = .ok (.istore 4, 2) := by decide +kernel
theorem dX6_invertFrom_29 : decode cX6_invertFrom 29 = .ok (.aload_n 0, 1) := by decide +kernel
theorem dX6_invertFrom_30 : decode cX6_invertFrom 30 = .ok (.getfield 9, 3) := by decide +kernel
theorem dX6_invertFrom_33 : decode cX6_invertFrom 33 = .ok (.iload_n 2, 1) := by decide +kernel
theorem dX6_invertFrom_34 : decode cX6_invertFrom 34 = .ok (.aload_n 0, 1) := by decide +kernel
theorem dX6_invertFrom_35 : decode cX6_invertFrom 35 = .ok (.getfield 9, 3) := by decide +kernel
theorem dX6_invertFrom_38 : decode cX6_invertFrom 38 = .ok (.iload_n 3, 1) := by decide +kernel
theorem dX6_invertFrom_39 : decode cX6_invertFrom 39 = .ok (.iaload, 1) := by decide +kernel
theorem dX6_invertFrom_40 : decode cX6_invertFrom 40 = .ok (.iconst 1, 1) := by decide +kernel
theorem dX6_invertFrom_41 : decode cX6_invertFrom 41 = .ok (.ixor, 1) := by decide +kernel
theorem dX6_invertFrom_42 : decode cX6_invertFrom 42 = .ok (.iastore, 1) := by decide +kernel
theorem dX6_invertFrom_43 : decode cX6_invertFrom 43 = .ok (.aload_n 0, 1) := by decide +kernel
theorem dX6_invertFrom_44 : decode cX6_invertFrom 44 = .ok (.getfield 9, 3) := by decide +kernel
theorem dX6_invertFrom_47 : decode cX6_invertFrom 47 = .ok (.iload_n 3, 1) := by decide +kernel
theorem dX6_invertFrom_48 : decode cX6_invertFrom 48 = .ok (.iload 4, 2) := by decide +kernel
theorem dX6_invertFrom_50 : decode cX6_invertFrom 50 = .ok (.iastore, 1) := by decide +kernel
theorem dX6_invertFrom_51 : decode cX6_invertFrom 51 = .ok (.iinc 2 (-1), 3) := by decide +kernel
theorem dX6_invertFrom_54 : decode cX6_invertFrom 54 = .ok (.iinc 3 1, 3) := by decide +kernel
theorem dX6_invertFrom_57 : decode cX6_invertFrom 57 = .ok (.goto (-43), 3) := by decide +kernel
theorem dX6_invertFrom_60 : decode cX6_invertFrom 60 = .ok (.return_, 1) := by decide +kernel
theorem dX6_addPart_0 : decode cX6_addPart 0 = .ok (.iconst 1, 1) := by decide +kernel
theorem dX6_addPart_1 : decode cX6_addPart 1 = .ok (.istore 4, 2) := by decide +kernel
theorem dX6_addPart_3 : decode cX6_addPart 3 = .ok (.iload_n 2, 1) := by decide +kernel
theorem dX6_addPart_4 : decode cX6_addPart 4 = .ok (.istore 5, 2) := by decide +kernel
theorem dX6_addPart_6 : decode cX6_addPart 6 = .ok (.iload 4, 2) := by decide +kernel
theorem dX6_addPart_8 : decode cX6_addPart 8 = .ok (.ifCond .eq 27, 3) := by decide +kernel
theorem dX6_addPart_11 : decode cX6_addPart 11 = .ok (.iload 5, 2) := by decide +kernel
theorem dX6_addPart_13 : decode cX6_addPart 13 = .ok (.iload_n 3, 1) := by decide +kernel
theorem dX6_addPart_14 : decode cX6_addPart 14 = .ok (.if_icmp .ge 21, 3) := by decide +kernel
theorem dX6_addPart_17 : decode cX6_addPart 17 = .ok (.aload_n 0, 1) := by decide +kernel
theorem dX6_addPart_18 : decode cX6_addPart 18 = .ok (.aload_n 1, 1) := by decide +kernel
theorem dX6_addPart_19 : decode cX6_addPart 19 = .ok (.iload 5, 2) := by decide +kernel
theorem dX6_addPart_21 : decode cX6_addPart 21 = .ok (.invokevirtual 33, 3) := by decide +kernel
theorem dX6_addPart_24 : decode cX6_addPart 24 = .ok (.invokevirtual 37, 3) := by decide +kernel
theorem dX6_addPart_27 : decode cX6_addPart 27 = .ok (.istore 4, 2) := by decide +kernel
theorem dX6_addPart_29 : decode cX6_addPart 29 = .ok (.iinc 5 1, 3) := by decide +kernel
theorem dX6_addPart_32 : decode cX6_addPart 32 = .ok (.goto (-26), 3) := by decide +kernel
theorem dX6_addPart_35 : decode cX6_addPart 35 = .ok (.iload 4, 2) := by decide +kernel
theorem dX6_addPart_37 : decode cX6_addPart 37 = .ok (.ireturn, 1) := by decide +kernel
theorem dX6_addInverseOfPart_0 : decode cX6_addInverseOfPart 0 = .ok (.iconst 1, 1) := by decide +kernel
theorem dX6_addInverseOfPart_1 : decode cX6_addInverseOfPart 1 = .ok (.istore 4, 2) := by decide +kernel
theorem dX6_addInverseOfPart_3 : decode cX6_addInverseOfPart 3 = .ok (.iload_n 3, 1) := by decide +kernel
theorem dX6_addInverseOfPart_4 : decode cX6_addInverseOfPart 4 = .ok (.iconst 1, 1) := by decide +kernel
theorem dX6_addInverseOfPart_5 : decode cX6_addInverseOfPart 5 = .ok (.isub, 1) := by decide +kernel
theorem dX6_addInverseOfPart_6 : decode cX6_addInverseOfPart 6 = .ok (.istore 5, 2) := by decide +kernel
theorem dX6_addInverseOfPart_8 : decode cX6_addInverseOfPart 8 = .ok (.iload 4, 2) := by decide +kernel
theorem dX6_addInverseOfPart_10 : decode cX6_addInverseOfPart 10 = .ok (.ifCond .eq 29, 3) := by decide +kernel
theorem dX6_addInverseOfPart_13 : decode cX6_addInverseOfPart 13 = .ok (.iload 5, 2) := by decide +kernel
theorem dX6_addInverseOfPart_15 : decode cX6_addInverseOfPart 15 = .ok (.iload_n 2, 1) := by decide +kernel
theorem dX6_addInverseOfPart_16 : decode cX6_addInverseOfPart 16 = .ok (.if_icmp .lt 23, 3) := by decide +kernel
theorem dX6_addInverseOfPart_19 : decode cX6_addInverseOfPart 19 = .ok (.aload_n 0, 1) := by decide +kernel
theorem dX6_addInverseOfPart_20 : decode cX6_addInverseOfPart 20 = .ok (.aload_n 1, 1) := by decide +kernel
theorem dX6_addInverseOfPart_21 : decode cX6_addInverseOfPart 21 = .ok (.iload 5, 2) := by decide +kernel
theorem dX6_addInverseOfPart_23 : decode cX6_addInverseOfPart 23 = .ok (.invokevirtual 33, 3) := by decide +kernel
theorem dX6_addInverseOfPart_26 : decode cX6_addInverseOfPart 26 = .ok (.iconst 1, 1) := by decide +kernel
theorem dX6_addInverseOfPart_27 : decode cX6_addInverseOfPart 27 = .ok (.ixor, 1) := by decide +kernel
theorem dX6_addInverseOfPart_28 : decode cX6_addInverseOfPart 28 = .ok (.invokevirtual 37, 3) := by decide +kernel
theorem dX6_addInverseOfPart_31 : decode cX6_addInverseOfPart 31 = .ok (.istore 4, 2) := by decide +kernel
theorem dX6_addInverseOfPart_33 : decode cX6_addInverseOfPart 33 = .ok (.iinc 5 (-1), 3) := by decide +kernel
theorem dX6_addInverseOfPart_36 : decode cX6_addInverseOfPart 36 = .ok (.goto (-28), 3) := by decide +kernel
theorem dX6_addInverseOfPart_39 : decode cX6_addInverseOfPart 39 = .ok (.iload 4, 2) := by decide +kernel
theorem dX6_addInverseOfPart_41 : decode cX6_addInverseOfPart 41 = .ok (.ireturn, 1) := by decide +kernel
theorem dX7_init_0 : decode cX7_init 0 = .ok (.aload_n 0, 1) := by decide +kernel
theorem dX7_init_1 : decode cX7_init 1 = .ok (.invokespecial 3, 3) := by decide +kernel
theorem dX7_init_4 : decode cX7_init 4 = .ok (.aload_n 0, 1) := by decide +kernel
theorem dX7_init_5 : decode cX7_init 5 = .ok (.bipush 6, 2) := by decide +kernel
theorem dX7_init_7 : decode cX7_init 7 = .ok (.newarray .char, 2) := by decide +kernel
theorem dX7_init_9 : decode cX7_init 9 = .ok (.putfield 9, 3) := by decide +kernel
theorem dX7_init_12 : decode cX7_init 12 = .ok (.return_, 1) := by decide +kernel
theorem dX7_errorIn_0 : decode cX7_errorIn 0 = .ok (.aload_n 0, 1) := by decide +kernel
theorem dX7_errorIn_1 : decode cX7_errorIn 1 = .ok (.iconst 0, 1) := by decide +kernel
theorem dX7_errorIn_2 : decode cX7_errorIn 2 = .ok (.putfield 15, 3) := by decide +kernel
theorem dX7_errorIn_5 : decode cX7_errorIn 5 = .ok (.aload_n 0, 1) := by decide +kernel
theorem dX7_errorIn_6 : decode cX7_errorIn 6 = .ok (.iconst 0, 1) := by decide +kernel
theorem dX7_errorIn_7 : decode cX7_errorIn 7 = .ok (.putfield 19, 3) := by decide +kernel
theorem dX7_errorIn_10 : decode cX7_errorIn 10 = .ok (.iconst 0, 1) := by decide +kernel
theorem dX7_errorIn_11 : decode cX7_errorIn 11 = .ok (.istore_n 2, 1) := by decide +kernel
theorem dX7_errorIn_12 : decode cX7_errorIn 12 = .ok (.iload_n 2, 1) := by decide +kernel
theorem dX7_errorIn_13 : decode cX7_errorIn 13 = .ok (.aload_n 1, 1) := by decide +kernel
theorem dX7_errorIn_14 : decode cX7_errorIn 14 = .ok (.invokevirtual 22, 3) := by decide +kernel
theorem dX7_errorIn_17 : decode cX7_errorIn 17 = .ok (.if_icmp .ge 23, 3) := by decide +kernel
theorem dX7_errorIn_20 : decode cX7_errorIn 20 = .ok (.aload_n 0, 1) := by decide +kernel
theorem dX7_errorIn_21 : decode cX7_errorIn 21 = .ok (.aload_n 1, 1) := by decide +kernel
theorem dX7_errorIn_22 : decode cX7_errorIn 22 = .ok (.iload_n 2, 1) := by decide +kernel
theorem dX7_errorIn_23 : decode cX7_errorIn 23 = .ok (.invokevirtual 28, 3) := by decide +kernel
theorem dX7_errorIn_26 : decode cX7_errorIn 26 = .ok (.invokevirtual 32, 3) := by decide +kernel
theorem dX7_errorIn_29 : decode cX7_errorIn 29 = .ok (.ifCond .ne 5, 3) := by decide +kernel
theorem dX7_errorIn_32 : decode cX7_errorIn 32 = .ok (.iload_n 2, 1) := by decide +kernel
theorem dX7_errorIn_33 : decode cX7_errorIn 33 = .ok (.ireturn, 1) := by decide +kernel
theorem dX7_errorIn_34 : decode cX7_errorIn 34 = .ok (.iinc 2 1, 3) := by decide +kernel
theorem dX7_errorIn_37 : decode cX7_errorIn 37 = .ok (.goto (-25), 3) := by decide +kernel
theorem dX7_errorIn_40 : decode cX7_errorIn 40 = .ok (.aload_n 0, 1) := by decide +kernel
theorem dX7_errorIn_41 : decode cX7_errorIn 41 = .ok (.getfield 15, 3) := by decide +kernel
theorem dX7_errorIn_44 : decode cX7_errorIn 44 = .ok (.ifCond .le 10, 3) := by decide +kernel
theorem dX7_errorIn_47 : decode cX7_errorIn 47 = .ok (.aload_n 1, 1) := by decide +kernel
theorem dX7_errorIn_48 : decode cX7_errorIn 48 = .ok (.invokevirtual 22, 3) := by decide +kernel
theorem dX7_errorIn_51 : decode cX7_errorIn 51 = .ok (.goto 4, 3) := by decide +kernel
theorem dX7_errorIn_54 : decode cX7_errorIn 54 = .ok (.iconst (-1), 1) := by decide +kernel
theorem dX7_errorIn_55 : decode cX7_errorIn 55 = .ok (.ireturn, 1) := by decide +kernel
theorem dX7_accepts_0 : decode cX7_accepts 0 = .ok (.iload_n 1, 1) := by decide +kernel
theorem dX7_accepts_1 : decode cX7_accepts 1 = .ok (.invokestatic 36, 3) := by decide +kernel
theorem dX7_accepts_4 : decode cX7_accepts 4 = .ok (.ifCond .eq 10, 3) := by decide +kernel
theorem dX7_accepts_7 : decode cX7_accepts 7 = .ok (.aload_n 0, 1) := by decide +kernel
theorem dX7_accepts_8 : decode cX7_accepts 8 = .ok (.iconst 2, 1) := by decide +kernel
theorem dX7_accepts_9 : decode cX7_accepts 9 = .ok (.putfield 19, 3) := by decide +kernel
theorem dX7_accepts_12 : decode cX7_accepts 12 = .ok (.iconst 1, 1) := by decide +kernel
theorem dX7_accepts_13 : decode cX7_accepts 13 = .ok (.ireturn, 1) := by decide +kernel
theorem dX7_accepts_14 : decode cX7_accepts 14 = .ok (.iload_n 1, 1) := by decide +kernel
theorem dX7_accepts_15 : decode cX7_accepts 15 = .ok (.bipush 40, 2) := by decide +kernel
theorem dX7_accepts_17 : decode cX7_accepts 17 = .ok (.if_icmp .eq 9, 3) := by decide +kernel
theorem dX7_accepts_20 : decode cX7_accepts 20 = .ok (.iload_n 1, 1) := by decide +kernel
theorem dX7_accepts_21 : decode cX7_accepts 21 = .ok (.bipush 60, 2) := by decide +kernel
theorem dX7_accepts_23 : decode cX7_accepts 23 = .ok (.if_icmp .ne 9, 3) := by decide +kernel
theorem dX7_accepts_26 : decode cX7_accepts 26 = .ok (.aload_n 0, 1) := by decide +kernel
theorem dX7_accepts_27 : decode cX7_accepts 27 = .ok (.iload_n 1, 1) := by decide +kernel
theorem dX7_accepts_28 : decode cX7_accepts 28 = .ok (.invokevirtual 39, 3) := by decide +kernel
theorem dX7_accepts_31 : decode cX7_accepts 31 = .ok (.ireturn, 1) := by decide +kernel
theorem dX7_accepts_32 : decode cX7_accepts 32 = .ok (.iload_n 1, 1) := by decide +kernel
theorem dX7_accepts_33 : decode cX7_accepts 33 = .ok (.bipush 41, 2) := by decide +kernel
theorem dX7_accepts_35 : decode cX7_accepts 35 = .ok (.if_icmp .ne 10, 3) := by decide +kernel
theorem dX7_accepts_38 : decode cX7_accepts 38 = .ok (.aload_n 0, 1) := by decide +kernel
theorem dX7_accepts_39 : decode cX7_accepts 39 = .ok (.bipush 40, 2) := by decide +kernel
theorem dX7_accepts_41 : decode cX7_accepts 41 = .ok (.invokevirtual 42, 3) := by decide +kernel
theorem dX7_accepts_44 : decode cX7_accepts 44 = .ok (.ireturn, 1) := by decide +kernel
theorem dX7_accepts_45 : decode cX7_accepts 45 = .ok (.iload_n 1, 1) := by decide +kernel
theorem dX7_accepts_46 : decode cX7_accepts 46 = .ok (.bipush 62, 2) := by decide +kernel
theorem dX7_accepts_48 : decode cX7_accepts 48 = .ok (.if_icmp .ne 10, 3) := by decide +kernel
theorem dX7_accepts_51 : decode cX7_accepts 51 = .ok (.aload_n 0, 1) := by decide +kernel
theorem dX7_accepts_52 : decode cX7_accepts 52 = .ok (.bipush 44, 2) := by decide +kernel
theorem dX7_accepts_54 : decode cX7_accepts 54 = .ok (.invokevirtual 42, 3) := by decide +kernel
theorem dX7_accepts_57 : decode cX7_accepts 57 = .ok (.ireturn, 1) := by decide +kernel
theorem dX7_accepts_58 : decode cX7_accepts 58 = .ok (.iload_n 1, 1) := by decide +kernel
theorem dX7_accepts_59 : decode cX7_accepts 59 = .ok (.bipush 44, 2) := by decide +kernel
theorem dX7_accepts_61 : decode cX7_accepts 61 = .ok (.if_icmp .ne 27, 3) := by decide +kernel
theorem dX7_accepts_64 : decode cX7_accepts 64 = .ok (.aload_n 0, 1) := by decide +kernel
theorem dX7_accepts_65 : decode cX7_accepts 65 = .ok (.bipush 60, 2) := by decide +kernel
theorem dX7_accepts_67 : decode cX7_accepts 67 = .ok (.invokevirtual 42, 3) := by decide +kernel
theorem dX7_accepts_70 : decode cX7_accepts 70 = .ok (.ifCond .eq 16, 3) := by decide +kernel
theorem dX7_accepts_73 : decode cX7_accepts 73 = .ok (.aload_n 0, 1) := by decide +kernel
theorem dX7_accepts_74 : decode cX7_accepts 74 = .ok (.bipush 44, 2) := by decide +kernel
theorem dX7_accepts_76 : decode cX7_accepts 76 = .ok (.invokevirtual 39, 3) := by decide +kernel
theorem dX7_accepts_79 : decode cX7_accepts 79 = .ok (.ifCond .eq 7, 3) := by decide +kernel
theorem dX7_accepts_82 : decode cX7_accepts 82 = .ok (.iconst 1, 1) := by decide +kernel
theorem dX7_accepts_83 : decode cX7_accepts 83 = .ok (.goto 4, 3) := by decide +kernel
theorem dX7_accepts_86 : decode cX7_accepts 86 = .ok (.iconst 0, 1) := by decide +kernel
theorem dX7_accepts_87 : decode cX7_accepts 87 = .ok (.ireturn, 1) := by decide +kernel
theorem dX7_accepts_88 : decode cX7_accepts 88 = .ok (.iload_n 1, 1) := by decide +kernel
theorem dX7_accepts_89 : decode cX7_accepts 89 = .ok (.bipush 39, 2) := by decide +kernel
theorem dX7_accepts_91 : decode cX7_accepts 91 = .ok (.if_icmp .ne 24, 3) := by decide +kernel
theorem dX7_accepts_94 : decode cX7_accepts 94 = .ok (.aload_n 0, 1) := by decide +kernel
theorem dX7_accepts_95 : decode cX7_accepts 95 = .ok (.getfield 19, 3) := by decide +kernel
theorem dX7_accepts_98 : decode cX7_accepts 98 = .ok (.iconst 2, 1) := by decide +kernel
theorem dX7_accepts_99 : decode cX7_accepts 99 = .ok (.if_icmp .ne 7, 3) := by decide +kernel
theorem dX7_accepts_102 : decode cX7_accepts 102 = .ok (.iconst 1, 1) := by decide +kernel
theorem dX7_accepts_103 : decode cX7_accepts 103 = .ok (.goto 4, 3) := by decide +kernel
theorem dX7_accepts_106 : decode cX7_accepts 106 = .ok (.iconst 0, 1) := by decide +kernel
theorem dX7_accepts_107 : decode cX7_accepts 107 = .ok (.istore_n 2, 1) := by decide +kernel
theorem dX7_accepts_108 : decode cX7_accepts 108 = .ok (.aload_n 0, 1) := by decide +kernel
theorem dX7_accepts_109 : decode cX7_accepts 109 = .ok (.iconst 1, 1) := by decide +kernel
theorem dX7_accepts_110 : decode cX7_accepts 110 = .ok (.putfield 19, 3) := by decide +kernel
theorem dX7_accepts_113 : decode cX7_accepts 113 = .ok (.iload_n 2, 1) := by decide +kernel
theorem dX7_accepts_114 : decode cX7_accepts 114 = .ok (.ireturn, 1) := by decide +kernel
theorem dX7_accepts_115 : decode cX7_accepts 115 = .ok (.aload_n 0, 1) := by decide +kernel
theorem dX7_accepts_116 : decode cX7_accepts 116 = .ok (.getfield 19, 3) := by decide +kernel
theorem dX7_accepts_119 : decode cX7_accepts 119 = .ok (.ifCond .eq 19, 3) := by decide +kernel
theorem dX7_accepts_122 : decode cX7_accepts 122 = .ok (.iload_n 1, 1) := by decide +kernel
theorem dX7_accepts_123 : decode cX7_accepts 123 = .ok (.bipush 50, 2) := by decide +kernel
theorem dX7_accepts_125 : decode cX7_accepts 125 = .ok (.if_icmp .lt 13, 3) := by decide +kernel
theorem dX7_accepts_128 : decode cX7_accepts 128 = .ok (.iload_n 1, 1) := by decide +kernel
theorem dX7_accepts_129 : decode cX7_accepts 129 = .ok (.bipush 57, 2) := by decide +kernel
theorem dX7_accepts_131 : decode cX7_accepts 131 = .ok (.if_icmp .gt 7, 3) := by decide +kernel
theorem dX7_accepts_134 : decode cX7_accepts 134 = .ok (.iconst 1, 1) := by decide +kernel
theorem dX7_accepts_135 : decode cX7_accepts 135 = .ok (.goto 4, 3) := by decide +kernel
theorem dX7_accepts_138 : decode cX7_accepts 138 = .ok (.iconst 0, 1) := by decide +kernel
theorem dX7_accepts_139 : decode cX7_accepts 139 = .ok (.istore_n 2, 1) := by decide +kernel
theorem dX7_accepts_140 : decode cX7_accepts 140 = .ok (.aload_n 0, 1) := by decide +kernel
theorem dX7_accepts_141 : decode cX7_accepts 141 = .ok (.iconst 0, 1) := by decide +kernel
theorem dX7_accepts_142 : decode cX7_accepts 142 = .ok (.putfield 19, 3) := by decide +kernel
theorem dX7_accepts_145 : decode cX7_accepts 145 = .ok (.iload_n 2, 1) := by decide +kernel
theorem dX7_accepts_146 : decode cX7_accepts 146 = .ok (.ireturn, 1) := by decide +kernel
theorem dX7_begins_0 : decode cX7_begins 0 = .ok (.aload_n 0, 1) := by decide +kernel
theorem dX7_begins_1 : decode cX7_begins 1 = .ok (.getfield 15, 3) := by decide +kernel
theorem dX7_begins_4 : decode cX7_begins 4 = .ok (.ifCond .lt 15, 3) := by decide +kernel
theorem dX7_begins_7 : decode cX7_begins 7 = .ok (.aload_n 0, 1) := by decide +kernel
theorem dX7_begins_8 : decode cX7_begins 8 = .ok (.getfield 15, 3) := by decide +kernel
theorem dX7_begins_11 : decode cX7_begins 11 = .ok (.aload_n 0, 1) := by decide +kernel
theorem dX7_begins_12 : decode cX7_begins 12 = .ok (.getfield 9, 3) := by decide +kernel
theorem dX7_begins_15 : decode cX7_begins 15 = .ok (.arraylength, 1) := by decide +kernel
theorem dX7_begins_16 : decode cX7_begins 16 = .ok (.if_icmp .lt 5, 3) := by decide +kernel
theorem dX7_begins_19 : decode cX7_begins 19 = .ok (.iconst 0, 1) := by decide +kernel
theorem dX7_begins_20 : decode cX7_begins 20 = .ok (.ireturn, 1) := by decide +kernel
theorem dX7_begins_21 : decode cX7_begins 21 = .ok (.aload_n 0, 1) := by decide +kernel
theorem dX7_begins_22 : decode cX7_begins 22 = .ok (.getfield 9, 3) := by decide +kernel
theorem dX7_begins_25 : decode cX7_begins 25 = .ok (.aload_n 0, 1) := by decide +kernel
theorem dX7_begins_26 : decode cX7_begins 26 = .ok (.getfield 15, 3) := by decide +kernel
theorem dX7_begins_29 : decode cX7_begins 29 = .ok (.iload_n 1, 1) := by decide +kernel
theorem dX7_begins_30 : decode cX7_begins 30 = .ok (.castore, 1) := by decide +kernel
theorem dX7_begins_31 : decode cX7_begins 31 = .ok (.aload_n 0, 1) := by decide +kernel
theorem dX7_begins_32 : decode cX7_begins 32 = .ok (.dup, 1) := by decide +kernel
theorem dX7_begins_33 : decode cX7_begins 33 = .ok (.getfield 15, 3) := by decide +kernel
theorem dX7_begins_36 : decode cX7_begins 36 = .ok (.iconst 1, 1) := by decide +kernel
theorem dX7_begins_37 : decode cX7_begins 37 = .ok (.iadd, 1) := by decide +kernel
theorem dX7_begins_38 : decode cX7_begins 38 = .ok (.putfield 15, 3) := by decide +kernel
theorem dX7_begins_41 : decode cX7_begins 41 = .ok (.aload_n 0, 1) := by decide +kernel
theorem dX7_begins_42 : decode cX7_begins 42 = .ok (.iconst 0, 1) := by decide +kernel
theorem dX7_begins_43 : decode cX7_begins 43 = .ok (.putfield 19, 3) := by decide +kernel
theorem dX7_begins_46 : decode cX7_begins 46 = .ok (.iconst 1, 1) := by decide +kernel
theorem dX7_begins_47 : decode cX7_begins 47 = .ok (.ireturn, 1) := by decide +kernel
theorem dX7_ends_0 : decode cX7_ends 0 = .ok (.aload_n 0, 1) := by decide +kernel
theorem dX7_ends_1 : decode cX7_ends 1 = .ok (.getfield 15, 3) := by decide +kernel
theorem dX7_ends_4 : decode cX7_ends 4 = .ok (.ifCond .le 30, 3) := by decide +kernel
theorem dX7_ends_7 : decode cX7_ends 7 = .ok (.aload_n 0, 1) := by decide +kernel
theorem dX7_ends_8 : decode cX7_ends 8 = .ok (.getfield 15, 3) := by decide +kernel
theorem dX7_ends_11 : decode cX7_ends 11 = .ok (.aload_n 0, 1) := by decide +kernel
theorem dX7_ends_12 : decode cX7_ends 12 = .ok (.getfield 9, 3) := by decide +kernel
theorem dX7_ends_15 : decode cX7_ends 15 = .ok (.arraylength, 1) := by decide +kernel
theorem dX7_ends_16 : decode cX7_ends 16 = .ok (.if_icmp .gt 18, 3) := by decide +kernel
theorem dX7_ends_19 : decode cX7_ends 19 = .ok (.aload_n 0, 1) := by decide +kernel
theorem dX7_ends_20 : decode cX7_ends 20 = .ok (.getfield 9, 3) := by decide +kernel
theorem dX7_ends_23 : decode cX7_ends 23 = .ok (.aload_n 0, 1) := by decide +kernel
theorem dX7_ends_24 : decode cX7_ends 24 = .ok (.getfield 15, 3) := by decide +kernel
theorem dX7_ends_27 : decode cX7_ends 27 = .ok (.iconst 1, 1) := by decide +kernel
theorem dX7_ends_28 : decode cX7_ends 28 = .ok (.isub, 1) := by decide +kernel
theorem dX7_ends_29 : decode cX7_ends 29 = .ok (.caload, 1) := by decide +kernel
theorem dX7_ends_30 : decode cX7_ends 30 = .ok (.iload_n 1, 1) := by decide +kernel
theorem dX7_ends_31 : decode cX7_ends 31 = .ok (.if_icmp .eq 5, 3) := by decide +kernel
theorem dX7_ends_34 : decode cX7_ends 34 = .ok (.iconst 0, 1) := by decide +kernel
theorem dX7_ends_35 : decode cX7_ends 35 = .ok (.ireturn, 1) := by decide +kernel
theorem dX7_ends_36 : decode cX7_ends 36 = .ok (.aload_n 0, 1) := by decide +kernel
theorem dX7_ends_37 : decode cX7_ends 37 = .ok (.dup, 1) := by decide +kernel
theorem dX7_ends_38 : decode cX7_ends 38 = .ok (.getfield 15, 3) := by decide +kernel
theorem dX7_ends_41 : decode cX7_ends 41 = .ok (.iconst 1, 1) := by decide +kernel
theorem dX7_ends_42 : decode cX7_ends 42 = .ok (.isub, 1) := by decide +kernel
theorem dX7_ends_43 : decode cX7_ends 43 = .ok (.putfield 15, 3) := by decide +kernel
theorem dX7_ends_46 : decode cX7_ends 46 = .ok (.aload_n 0, 1) := by decide +kernel
theorem dX7_ends_47 : decode cX7_ends 47 = .ok (.iconst 2, 1) := by decide +kernel
theorem dX7_ends_48 : decode cX7_ends 48 = .ok (.putfield 19, 3) := by decide +kernel
theorem dX7_ends_51 : decode cX7_ends 51 = .ok (.iconst 1, 1) := by decide +kernel
theorem dX7_ends_52 : decode cX7_ends 52 = .ok (.ireturn, 1) := by decide +kernel
theorem dX8_init_0 : decode cX8_init 0 = .ok (.aload_n 0, 1) := by decide +kernel
theorem dX8_init_1 : decode cX8_init 1 = .ok (.invokespecial 3, 3) := by decide +kernel
theorem dX8_init_4 : decode cX8_init 4 = .ok (.aload_n 0, 1) := by decide +kernel
theorem dX8_init_5 : decode cX8_init 5 = .ok (.bipush 6, 2) := by decide +kernel
theorem dX8_init_7 : decode cX8_init 7 = .ok (.newarray .int, 2) := by decide +kernel
theorem dX8_init_9 : decode cX8_init 9 = .ok (.putfield 9, 3) := by decide +kernel
theorem dX8_init_12 : decode cX8_init 12 = .ok (.aload_n 0, 1) := by decide +kernel
theorem dX8_init_13 : decode cX8_init 13 = .ok (.bipush 6, 2) := by decide +kernel
theorem dX8_init_15 : decode cX8_init 15 = .ok (.newarray .int, 2) := by decide +kernel
theorem dX8_init_17 : decode cX8_init 17 = .ok (.putfield 15, 3) := by decide +kernel
theorem dX8_init_20 : decode cX8_init 20 = .ok (.return_, 1) := by decide +kernel
theorem dX8_write_0 : decode cX8_write 0 = .ok (.aload_n 2, 1) := by decide +kernel
theorem dX8_write_1 : decode cX8_write 1 = .ok (.invokevirtual 18, 3) := by decide +kernel
theorem dX8_write_4 : decode cX8_write 4 = .ok (.aload_n 0, 1) := by decide +kernel
theorem dX8_write_5 : decode cX8_write 5 = .ok (.iconst 0, 1) := by decide +kernel
theorem dX8_write_6 : decode cX8_write 6 = .ok (.putfield 23, 3) := by decide +kernel
theorem dX8_write_9 : decode cX8_write 9 = .ok (.aload_n 0, 1) := by decide +kernel
theorem dX8_write_10 : decode cX8_write 10 = .ok (.iconst 0, 1) := by decide +kernel
theorem dX8_write_11 : decode cX8_write 11 = .ok (.putfield 27, 3) := by decide +kernel
theorem dX8_write_14 : decode cX8_write 14 = .ok (.iconst 1, 1) := by decide +kernel
theorem dX8_write_15 : decode cX8_write 15 = .ok (.istore_n 3, 1) := by decide +kernel
theorem dX8_write_16 : decode cX8_write 16 = .ok (.iconst 0, 1) := by decide +kernel
theorem dX8_write_17 : decode cX8_write 17 = .ok (.istore 4, 2) := by decide +kernel
theorem dX8_write_19 : decode cX8_write 19 = .ok (.iload_n 3, 1) := by decide +kernel
theorem dX8_write_20 : decode cX8_write 20 = .ok (.ifCond .eq 30, 3) := by decide +kernel
theorem dX8_write_23 : decode cX8_write 23 = .ok (.iload 4, 2) := by decide +kernel
theorem dX8_write_25 : decode cX8_write 25 = .ok (.aload_n 1, 1) := by decide +kernel
theorem dX8_write_26 : decode cX8_write 26 = .ok (.invokevirtual 30, 3) := by decide +kernel
theorem dX8_write_29 : decode cX8_write 29 = .ok (.if_icmp .ge 21, 3) := by decide +kernel
theorem dX8_write_32 : decode cX8_write 32 = .ok (.aload_n 0, 1) := by decide +kernel
theorem dX8_write_33 : decode cX8_write 33 = .ok (.aload_n 1, 1) := by decide +kernel
theorem dX8_write_34 : decode cX8_write 34 = .ok (.iload 4, 2) := by decide +kernel
theorem dX8_write_36 : decode cX8_write 36 = .ok (.invokevirtual 36, 3) := by decide +kernel
theorem dX8_write_39 : decode cX8_write 39 = .ok (.aload_n 2, 1) := by decide +kernel
theorem dX8_write_40 : decode cX8_write 40 = .ok (.invokevirtual 40, 3) := by decide +kernel
theorem dX8_write_43 : decode cX8_write 43 = .ok (.istore_n 3, 1) := by decide +kernel
theorem dX8_write_44 : decode cX8_write 44 = .ok (.iinc 4 1, 3) := by decide +kernel
theorem dX8_write_47 : decode cX8_write 47 = .ok (.goto (-28), 3) := by decide +kernel
theorem dX8_write_50 : decode cX8_write 50 = .ok (.iload_n 3, 1) := by decide +kernel
theorem dX8_write_51 : decode cX8_write 51 = .ok (.ireturn, 1) := by decide +kernel
theorem dX8_writeNext_0 : decode cX8_writeNext 0 = .ok (.iload_n 1, 1) := by decide +kernel
theorem dX8_writeNext_1 : decode cX8_writeNext 1 = .ok (.invokestatic 44, 3) := by decide +kernel
theorem dX8_writeNext_4 : decode cX8_writeNext 4 = .ok (.ifCond .eq 22, 3) := by decide +kernel
theorem dX8_writeNext_7 : decode cX8_writeNext 7 = .ok (.aload_n 0, 1) := by decide +kernel
theorem dX8_writeNext_8 : decode cX8_writeNext 8 = .ok (.aload_n 2, 1) := by decide +kernel
theorem dX8_writeNext_9 : decode cX8_writeNext 9 = .ok (.invokevirtual 48, 3) := by decide +kernel
theorem dX8_writeNext_12 : decode cX8_writeNext 12 = .ok (.putfield 27, 3) := by decide +kernel
theorem dX8_writeNext_15 : decode cX8_writeNext 15 = .ok (.aload_n 2, 1) := by decide +kernel
theorem dX8_writeNext_16 : decode cX8_writeNext 16 = .ok (.iconst 2, 1) := by decide +kernel
theorem dX8_writeNext_17 : decode cX8_writeNext 17 = .ok (.iload_n 1, 1) := by decide +kernel
theorem dX8_writeNext_18 : decode cX8_writeNext 18 = .ok (.bipush 97, 2) := by decide +kernel
theorem dX8_writeNext_20 : decode cX8_writeNext 20 = .ok (.isub, 1) := by decide +kernel
theorem dX8_writeNext_21 : decode cX8_writeNext 21 = .ok (.imul, 1) := by decide +kernel
theorem dX8_writeNext_22 : decode cX8_writeNext 22 = .ok (.invokevirtual 49, 3) := by decide +kernel
theorem dX8_writeNext_25 : decode cX8_writeNext 25 = .ok (.ireturn, 1) := by decide +kernel
theorem dX8_writeNext_26 : decode cX8_writeNext 26 = .ok (.iload_n 1, 1) := by decide +kernel
theorem dX8_writeNext_27 : decode cX8_writeNext 27 = .ok (.bipush 40, 2) := by decide +kernel
theorem dX8_writeNext_29 : decode cX8_writeNext 29 = .ok (.if_icmp .eq 9, 3) := by decide +kernel
theorem dX8_writeNext_32 : decode cX8_writeNext 32 = .ok (.iload_n 1, 1) := by decide +kernel
theorem dX8_writeNext_33 : decode cX8_writeNext 33 = .ok (.bipush 60, 2) := by decide +kernel
theorem dX8_writeNext_35 : decode cX8_writeNext 35 = .ok (.if_icmp .ne 12, 3) := by decide +kernel
theorem dX8_writeNext_38 : decode cX8_writeNext 38 = .ok (.aload_n 0, 1) := by decide +kernel
theorem dX8_writeNext_39 : decode cX8_writeNext 39 = .ok (.aload_n 2, 1) := by decide +kernel
theorem dX8_writeNext_40 : decode cX8_writeNext 40 = .ok (.invokevirtual 48, 3) := by decide +kernel
theorem dX8_writeNext_43 : decode cX8_writeNext 43 = .ok (.invokevirtual 53, 3) := by decide +kernel
theorem dX8_writeNext_46 : decode cX8_writeNext 46 = .ok (.ireturn, 1) := by decide +kernel
theorem dX8_writeNext_47 : decode cX8_writeNext 47 = .ok (.iload_n 1, 1) := by decide +kernel
theorem dX8_writeNext_48 : decode cX8_writeNext 48 = .ok (.bipush 44, 2) := by decide +kernel
theorem dX8_writeNext_50 : decode cX8_writeNext 50 = .ok (.if_icmp .ne 12, 3) := by decide +kernel
theorem dX8_writeNext_53 : decode cX8_writeNext 53 = .ok (.aload_n 0, 1) := by decide +kernel
theorem dX8_writeNext_54 : decode cX8_writeNext 54 = .ok (.aload_n 2, 1) := by decide +kernel
theorem dX8_writeNext_55 : decode cX8_writeNext 55 = .ok (.invokevirtual 48, 3) := by decide +kernel
theorem dX8_writeNext_58 : decode cX8_writeNext 58 = .ok (.invokevirtual 56, 3) := by decide +kernel
theorem dX8_writeNext_61 : decode cX8_writeNext 61 = .ok (.ireturn, 1) := by decide +kernel
theorem dX8_writeNext_62 : decode cX8_writeNext 62 = .ok (.iload_n 1, 1) := by decide +kernel
theorem dX8_writeNext_63 : decode cX8_writeNext 63 = .ok (.bipush 41, 2) := by decide +kernel
theorem dX8_writeNext_65 : decode cX8_writeNext 65 = .ok (.if_icmp .eq 9, 3) := by decide +kernel
theorem dX8_writeNext_68 : decode cX8_writeNext 68 = .ok (.iload_n 1, 1) := by decide +kernel
theorem dX8_writeNext_69 : decode cX8_writeNext 69 = .ok (.bipush 62, 2) := by decide +kernel
theorem dX8_writeNext_71 : decode cX8_writeNext 71 = .ok (.if_icmp .ne 20, 3) := by decide +kernel
theorem dX8_writeNext_74 : decode cX8_writeNext 74 = .ok (.aload_n 0, 1) := by decide +kernel
theorem dX8_writeNext_75 : decode cX8_writeNext 75 = .ok (.iload_n 1, 1) := by decide +kernel
theorem dX8_writeNext_76 : decode cX8_writeNext 76 = .ok (.bipush 62, 2) := by decide +kernel
theorem dX8_writeNext_78 : decode cX8_writeNext 78 = .ok (.if_icmp .ne 7, 3) := by decide +kernel
theorem dX8_writeNext_81 : decode cX8_writeNext 81 = .ok (.iconst 1, 1) := by decide +kernel
theorem dX8_writeNext_82 : decode cX8_writeNext 82 = .ok (.goto 4, 3) := by decide +kernel
theorem dX8_writeNext_85 : decode cX8_writeNext 85 = .ok (.iconst 0, 1) := by decide +kernel
theorem dX8_writeNext_86 : decode cX8_writeNext 86 = .ok (.aload_n 2, 1) := by decide +kernel
theorem dX8_writeNext_87 : decode cX8_writeNext 87 = .ok (.invokevirtual 59, 3) := by decide +kernel
theorem dX8_writeNext_90 : decode cX8_writeNext 90 = .ok (.ireturn, 1) := by decide +kernel
theorem dX8_writeNext_91 : decode cX8_writeNext 91 = .ok (.iload_n 1, 1) := by decide +kernel
theorem dX8_writeNext_92 : decode cX8_writeNext 92 = .ok (.bipush 39, 2) := by decide +kernel
theorem dX8_writeNext_94 : decode cX8_writeNext 94 = .ok (.if_icmp .ne 13, 3) := by decide +kernel
theorem dX8_writeNext_97 : decode cX8_writeNext 97 = .ok (.aload_n 2, 1) := by decide +kernel
theorem dX8_writeNext_98 : decode cX8_writeNext 98 = .ok (.aload_n 0, 1) := by decide +kernel
theorem dX8_writeNext_99 : decode cX8_writeNext 99 = .ok (.getfield 27, 3) := by decide +kernel
theorem dX8_writeNext_102 : decode cX8_writeNext 102 = .ok (.invokevirtual 63, 3) := by decide +kernel
theorem dX8_writeNext_105 : decode cX8_writeNext 105 = .ok (.iconst 1, 1) := by decide +kernel
theorem dX8_writeNext_106 : decode cX8_writeNext 106 = .ok (.ireturn, 1) := by decide +kernel
theorem dX8_writeNext_107 : decode cX8_writeNext 107 = .ok (.aload_n 2, 1) := by decide +kernel
theorem dX8_writeNext_108 : decode cX8_writeNext 108 = .ok (.aload_n 0, 1) := by decide +kernel
theorem dX8_writeNext_109 : decode cX8_writeNext 109 = .ok (.getfield 27, 3) := by decide +kernel
theorem dX8_writeNext_112 : decode cX8_writeNext 112 = .ok (.iload_n 1, 1) := by decide +kernel
theorem dX8_writeNext_113 : decode cX8_writeNext 113 = .ok (.bipush 48, 2) := by decide +kernel
theorem dX8_writeNext_115 : decode cX8_writeNext 115 = .ok (.isub, 1) := by decide +kernel
theorem dX8_writeNext_116 : decode cX8_writeNext 116 = .ok (.invokevirtual 67, 3) := by decide +kernel
theorem dX8_writeNext_119 : decode cX8_writeNext 119 = .ok (.ireturn, 1) := by decide +kernel
theorem dX8_begin_0 : decode cX8_begin 0 = .ok (.aload_n 0, 1) := by decide +kernel
theorem dX8_begin_1 : decode cX8_begin 1 = .ok (.getfield 23, 3) := by decide +kernel
theorem dX8_begin_4 : decode cX8_begin 4 = .ok (.ifCond .lt 15, 3) := by decide +kernel
theorem dX8_begin_7 : decode cX8_begin 7 = .ok (.aload_n 0, 1) := by decide +kernel
theorem dX8_begin_8 : decode cX8_begin 8 = .ok (.getfield 23, 3) := by decide +kernel
theorem dX8_begin_11 : decode cX8_begin 11 = .ok (.aload_n 0, 1) := by decide +kernel
theorem dX8_begin_12 : decode cX8_begin 12 = .ok (.getfield 9, 3) := by decide +kernel
theorem dX8_begin_15 : decode cX8_begin 15 = .ok (.arraylength, 1) := by decide +kernel
theorem dX8_begin_16 : decode cX8_begin 16 = .ok (.if_icmp .lt 5, 3) := by decide +kernel
theorem dX8_begin_19 : decode cX8_begin 19 = .ok (.iconst 0, 1) := by decide +kernel
theorem dX8_begin_20 : decode cX8_begin 20 = .ok (.ireturn, 1) := by decide +kernel
theorem dX8_begin_21 : decode cX8_begin 21 = .ok (.aload_n 0, 1) := by decide +kernel
theorem dX8_begin_22 : decode cX8_begin 22 = .ok (.getfield 9, 3) := by decide +kernel
theorem dX8_begin_25 : decode cX8_begin 25 = .ok (.aload_n 0, 1) := by decide +kernel
theorem dX8_begin_26 : decode cX8_begin 26 = .ok (.getfield 23, 3) := by decide +kernel
theorem dX8_begin_29 : decode cX8_begin 29 = .ok (.iload_n 1, 1) := by decide +kernel
theorem dX8_begin_30 : decode cX8_begin 30 = .ok (.iastore, 1) := by decide +kernel
theorem dX8_begin_31 : decode cX8_begin 31 = .ok (.aload_n 0, 1) := by decide +kernel
theorem dX8_begin_32 : decode cX8_begin 32 = .ok (.dup, 1) := by decide +kernel
theorem dX8_begin_33 : decode cX8_begin 33 = .ok (.getfield 23, 3) := by decide +kernel
theorem dX8_begin_36 : decode cX8_begin 36 = .ok (.iconst 1, 1) := by decide +kernel
theorem dX8_begin_37 : decode cX8_begin 37 = .ok (.iadd, 1) := by decide +kernel
theorem dX8_begin_38 : decode cX8_begin 38 = .ok (.putfield 23, 3) := by decide +kernel
theorem dX8_begin_41 : decode cX8_begin 41 = .ok (.iconst 1, 1) := by decide +kernel
theorem dX8_begin_42 : decode cX8_begin 42 = .ok (.ireturn, 1) := by decide +kernel
theorem dX8_divide_0 : decode cX8_divide 0 = .ok (.aload_n 0, 1) := by decide +kernel
theorem dX8_divide_1 : decode cX8_divide 1 = .ok (.getfield 23, 3) := by decide +kernel
theorem dX8_divide_4 : decode cX8_divide 4 = .ok (.ifCond .le 15, 3) := by decide +kernel
theorem dX8_divide_7 : decode cX8_divide 7 = .ok (.aload_n 0, 1) := by decide +kernel
theorem dX8_divide_8 : decode cX8_divide 8 = .ok (.getfield 23, 3) := by decide +kernel
theorem dX8_divide_11 : decode cX8_divide 11 = .ok (.aload_n 0, 1) := by decide +kernel
theorem dX8_divide_12 : decode cX8_divide 12 = .ok (.getfield 15, 3) := by decide +kernel
theorem dX8_divide_15 : decode cX8_divide 15 = .ok (.arraylength, 1) := by decide +kernel
theorem dX8_divide_16 : decode cX8_divide 16 = .ok (.if_icmp .le 5, 3) := by decide +kernel
theorem dX8_divide_19 : decode cX8_divide 19 = .ok (.iconst 0, 1) := by decide +kernel
theorem dX8_divide_20 : decode cX8_divide 20 = .ok (.ireturn, 1) := by decide +kernel
theorem dX8_divide_21 : decode cX8_divide 21 = .ok (.aload_n 0, 1) := by decide +kernel
theorem dX8_divide_22 : decode cX8_divide 22 = .ok (.getfield 15, 3) := by decide +kernel
theorem dX8_divide_25 : decode cX8_divide 25 = .ok (.aload_n 0, 1) := by decide +kernel
theorem dX8_divide_26 : decode cX8_divide 26 = .ok (.getfield 23, 3) := by decide +kernel
theorem dX8_divide_29 : decode cX8_divide 29 = .ok (.iconst 1, 1) := by decide +kernel
theorem dX8_divide_30 : decode cX8_divide 30 = .ok (.isub, 1) := by decide +kernel
theorem dX8_divide_31 : decode cX8_divide 31 = .ok (.iload_n 1, 1) := by decide +kernel
theorem dX8_divide_32 : decode cX8_divide 32 = .ok (.iastore, 1) := by decide +kernel
theorem dX8_divide_33 : decode cX8_divide 33 = .ok (.iconst 1, 1) := by decide +kernel
theorem dX8_divide_34 : decode cX8_divide 34 = .ok (.ireturn, 1) := by decide +kernel
theorem dX8_end_0 : decode cX8_end 0 = .ok (.aload_n 0, 1) := by decide +kernel
theorem dX8_end_1 : decode cX8_end 1 = .ok (.getfield 23, 3) := by decide +kernel
theorem dX8_end_4 : decode cX8_end 4 = .ok (.ifCond .le 15, 3) := by decide +kernel
theorem dX8_end_7 : decode cX8_end 7 = .ok (.aload_n 0, 1) := by decide +kernel
theorem dX8_end_8 : decode cX8_end 8 = .ok (.getfield 23, 3) := by decide +kernel
theorem dX8_end_11 : decode cX8_end 11 = .ok (.aload_n 0, 1) := by decide +kernel
theorem dX8_end_12 : decode cX8_end 12 = .ok (.getfield 9, 3) := by decide +kernel
theorem dX8_end_15 : decode cX8_end 15 = .ok (.arraylength, 1) := by decide +kernel
theorem dX8_end_16 : decode cX8_end 16 = .ok (.if_icmp .le 5, 3) := by decide +kernel
theorem dX8_end_19 : decode cX8_end 19 = .ok (.iconst 0, 1) := by decide +kernel
theorem dX8_end_20 : decode cX8_end 20 = .ok (.ireturn, 1) := by decide +kernel
theorem dX8_end_21 : decode cX8_end 21 = .ok (.aload_n 0, 1) := by decide +kernel
theorem dX8_end_22 : decode cX8_end 22 = .ok (.dup, 1) := by decide +kernel
theorem dX8_end_23 : decode cX8_end 23 = .ok (.getfield 23, 3) := by decide +kernel
theorem dX8_end_26 : decode cX8_end 26 = .ok (.iconst 1, 1) := by decide +kernel
theorem dX8_end_27 : decode cX8_end 27 = .ok (.isub, 1) := by decide +kernel
theorem dX8_end_28 : decode cX8_end 28 = .ok (.putfield 23, 3) := by decide +kernel
theorem dX8_end_31 : decode cX8_end 31 = .ok (.aload_n 0, 1) := by decide +kernel
theorem dX8_end_32 : decode cX8_end 32 = .ok (.aload_n 0, 1) := by decide +kernel
theorem dX8_end_33 : decode cX8_end 33 = .ok (.getfield 9, 3) := by decide +kernel
theorem dX8_end_36 : decode cX8_end 36 = .ok (.aload_n 0, 1) := by decide +kernel
theorem dX8_end_37 : decode cX8_end 37 = .ok (.getfield 23, 3) := by decide +kernel
theorem dX8_end_40 : decode cX8_end 40 = .ok (.iaload, 1) := by decide +kernel
theorem dX8_end_41 : decode cX8_end 41 = .ok (.putfield 27, 3) := by decide +kernel
theorem dX8_end_44 : decode cX8_end 44 = .ok (.iload_n 1, 1) := by decide +kernel
theorem dX8_end_45 : decode cX8_end 45 = .ok (.ifCond .eq 28, 3) := by decide +kernel
theorem dX8_end_48 : decode cX8_end 48 = .ok (.aload_n 2, 1) := by decide +kernel
theorem dX8_end_49 : decode cX8_end 49 = .ok (.aload_n 0, 1) := by decide +kernel
theorem dX8_end_50 : decode cX8_end 50 = .ok (.getfield 9, 3) := by decide +kernel
theorem dX8_end_53 : decode cX8_end 53 = .ok (.aload_n 0, 1) := by decide +kernel
theorem dX8_end_54 : decode cX8_end 54 = .ok (.getfield 23, 3) := by decide +kernel
theorem dX8_end_57 : decode cX8_end 57 = .ok (.iaload, 1) := by decide +kernel
theorem dX8_end_58 : decode cX8_end 58 = .ok (.aload_n 0, 1) := by decide +kernel
theorem dX8_end_59 : decode cX8_end 59 = .ok (.getfield 15, 3) := by decide +kernel
theorem dX8_end_62 : decode cX8_end 62 = .ok (.aload_n 0, 1) := by decide +kernel
theorem dX8_end_63 : decode cX8_end 63 = .ok (.getfield 23, 3) := by decide +kernel
theorem dX8_end_66 : decode cX8_end 66 = .ok (.iaload, 1) := by decide +kernel
theorem dX8_end_67 : decode cX8_end 67 = .ok (.invokevirtual 71, 3) := by decide +kernel
theorem dX8_end_70 : decode cX8_end 70 = .ok (.ifCond .eq 7, 3) := by decide +kernel
theorem dX8_end_73 : decode cX8_end 73 = .ok (.iconst 1, 1) := by decide +kernel
theorem dX8_end_74 : decode cX8_end 74 = .ok (.goto 4, 3) := by decide +kernel
theorem dX8_end_77 : decode cX8_end 77 = .ok (.iconst 0, 1) := by decide +kernel
theorem dX8_end_78 : decode cX8_end 78 = .ok (.ireturn, 1) := by decide +kernel
theorem dX9_init_0 : decode cX9_init 0 = .ok (.aload_n 0, 1) := by decide +kernel
theorem dX9_init_1 : decode cX9_init 1 = .ok (.invokespecial 3, 3) := by decide +kernel
theorem dX9_init_4 : decode cX9_init 4 = .ok (.aload_n 0, 1) := by decide +kernel
theorem dX9_init_5 : decode cX9_init 5 = .ok (.new 9, 3) := by decide +kernel
theorem dX9_init_8 : decode cX9_init 8 = .ok (.dup, 1) := by decide +kernel
theorem dX9_init_9 : decode cX9_init 9 = .ok (.invokespecial 11, 3) := by decide +kernel
theorem dX9_init_12 : decode cX9_init 12 = .ok (.putfield 12, 3) := by decide +kernel
theorem dX9_init_15 : decode cX9_init 15 = .ok (.aload_n 0, 1) := by decide +kernel
theorem dX9_init_16 : decode cX9_init 16 = .ok (.new 16, 3) := by decide +kernel
theorem dX9_init_19 : decode cX9_init 19 = .ok (.dup, 1) := by decide +kernel
theorem dX9_init_20 : decode cX9_init 20 = .ok (.invokespecial 18, 3) := by decide +kernel
theorem dX9_init_23 : decode cX9_init 23 = .ok (.putfield 19, 3) := by decide +kernel
theorem dX9_init_26 : decode cX9_init 26 = .ok (.aload_n 0, 1) := by decide +kernel
theorem dX9_init_27 : decode cX9_init 27 = .ok (.new 23, 3) := by decide +kernel
theorem dX9_init_30 : decode cX9_init 30 = .ok (.dup, 1) := by decide +kernel
theorem dX9_init_31 : decode cX9_init 31 = .ok (.invokespecial 25, 3) := by decide +kernel
theorem dX9_init_34 : decode cX9_init 34 = .ok (.putfield 26, 3) := by decide +kernel
theorem dX9_init_37 : decode cX9_init 37 = .ok (.aload_n 0, 1) := by decide +kernel
theorem dX9_init_38 : decode cX9_init 38 = .ok (.new 30, 3) := by decide +kernel
theorem dX9_init_41 : decode cX9_init 41 = .ok (.dup, 1) := by decide +kernel
theorem dX9_init_42 : decode cX9_init 42 = .ok (.invokespecial 32, 3) := by decide +kernel
theorem dX9_init_45 : decode cX9_init 45 = .ok (.putfield 33, 3) := by decide +kernel
theorem dX9_init_48 : decode cX9_init 48 = .ok (.aload_n 0, 1) := by decide +kernel
theorem dX9_init_49 : decode cX9_init 49 = .ok (.new 37, 3) := by decide +kernel
theorem dX9_init_52 : decode cX9_init 52 = .ok (.dup, 1) := by decide +kernel
theorem dX9_init_53 : decode cX9_init 53 = .ok (.invokespecial 39, 3) := by decide +kernel
theorem dX9_init_56 : decode cX9_init 56 = .ok (.putfield 40, 3) := by decide +kernel
theorem dX9_init_59 : decode cX9_init 59 = .ok (.aload_n 0, 1) := by decide +kernel
theorem dX9_init_60 : decode cX9_init 60 = .ok (.new 44, 3) := by decide +kernel
theorem dX9_init_63 : decode cX9_init 63 = .ok (.dup, 1) := by decide +kernel
theorem dX9_init_64 : decode cX9_init 64 = .ok (.invokespecial 46, 3) := by decide +kernel
theorem dX9_init_67 : decode cX9_init 67 = .ok (.putfield 47, 3) := by decide +kernel
theorem dX9_init_70 : decode cX9_init 70 = .ok (.aload_n 0, 1) := by decide +kernel
theorem dX9_init_71 : decode cX9_init 71 = .ok (.new 51, 3) := by decide +kernel
theorem dX9_init_74 : decode cX9_init 74 = .ok (.dup, 1) := by decide +kernel
theorem dX9_init_75 : decode cX9_init 75 = .ok (.invokespecial 53, 3) := by decide +kernel
theorem dX9_init_78 : decode cX9_init 78 = .ok (.putfield 54, 3) := by decide +kernel
theorem dX9_init_81 : decode cX9_init 81 = .ok (.aload_n 0, 1) := by decide +kernel
theorem dX9_init_82 : decode cX9_init 82 = .ok (.new 51, 3) := by decide +kernel
theorem dX9_init_85 : decode cX9_init 85 = .ok (.dup, 1) := by decide +kernel
theorem dX9_init_86 : decode cX9_init 86 = .ok (.invokespecial 53, 3) := by decide +kernel
theorem dX9_init_89 : decode cX9_init 89 = .ok (.putfield 58, 3) := by decide +kernel
theorem dX9_init_92 : decode cX9_init 92 = .ok (.aload_n 0, 1) := by decide +kernel
theorem dX9_init_93 : decode cX9_init 93 = .ok (.new 61, 3) := by decide +kernel
theorem dX9_init_96 : decode cX9_init 96 = .ok (.dup, 1) := by decide +kernel
theorem dX9_init_97 : decode cX9_init 97 = .ok (.invokespecial 63, 3) := by decide +kernel
theorem dX9_init_100 : decode cX9_init 100 = .ok (.putfield 64, 3) := by decide +kernel
theorem dX9_init_103 : decode cX9_init 103 = .ok (.aload_n 0, 1) := by decide +kernel
theorem dX9_init_104 : decode cX9_init 104 = .ok (.bipush 24, 2) := by decide +kernel
theorem dX9_init_106 : decode cX9_init 106 = .ok (.newarray .float, 2) := by decide +kernel
theorem dX9_init_108 : decode cX9_init 108 = .ok (.putfield 68, 3) := by decide +kernel
theorem dX9_init_111 : decode cX9_init 111 = .ok (.aload_n 0, 1) := by decide +kernel
theorem dX9_init_112 : decode cX9_init 112 = .ok (.bipush 24, 2) := by decide +kernel
theorem dX9_init_114 : decode cX9_init 114 = .ok (.newarray .double, 2) := by decide +kernel
theorem dX9_init_116 : decode cX9_init 116 = .ok (.putfield 72, 3) := by decide +kernel
theorem dX9_init_119 : decode cX9_init 119 = .ok (.aload_n 0, 1) := by decide +kernel
theorem dX9_init_120 : decode cX9_init 120 = .ok (.iconst 3, 1) := by decide +kernel
theorem dX9_init_121 : decode cX9_init 121 = .ok (.putfield 76, 3) := by decide +kernel
theorem dX9_init_124 : decode cX9_init 124 = .ok (.aload_n 0, 1) := by decide +kernel
theorem dX9_init_125 : decode cX9_init 125 = .ok (.iconst (-1), 1) := by decide +kernel
theorem dX9_init_126 : decode cX9_init 126 = .ok (.putfield 80, 3) := by decide +kernel
theorem dX9_init_129 : decode cX9_init 129 = .ok (.aload_n 0, 1) := by decide +kernel
theorem dX9_init_130 : decode cX9_init 130 = .ok (.iconst 0, 1) := by decide +kernel
theorem dX9_init_131 : decode cX9_init 131 = .ok (.putfield 83, 3) := by decide +kernel
theorem dX9_init_134 : decode cX9_init 134 = .ok (.aload_n 0, 1) := by decide +kernel
theorem dX9_init_135 : decode cX9_init 135 = .ok (.iconst 0, 1) := by decide +kernel
theorem dX9_init_136 : decode cX9_init 136 = .ok (.putfield 87, 3) := by decide +kernel
theorem dX9_init_139 : decode cX9_init 139 = .ok (.return_, 1) := by decide +kernel
theorem dX9_reset_0 : decode cX9_reset 0 = .ok (.iload_n 1, 1) := by decide +kernel
theorem dX9_reset_1 : decode cX9_reset 1 = .ok (.iconst 2, 1) := by decide +kernel
theorem dX9_reset_2 : decode cX9_reset 2 = .ok (.if_icmp .lt 9, 3) := by decide +kernel
theorem dX9_reset_5 : decode cX9_reset 5 = .ok (.iload_n 1, 1) := by decide +kernel
theorem dX9_reset_6 : decode cX9_reset 6 = .ok (.bipush 7, 2) := by decide +kernel
theorem dX9_reset_8 : decode cX9_reset 8 = .ok (.if_icmp .le 13, 3) := by decide +kernel
theorem dX9_reset_11 : decode cX9_reset 11 = .ok (.new 90, 3) := by decide +kernel
theorem dX9_reset_14 : decode cX9_reset 14 = .ok (.dup, 1) := by decide +kernel
theorem dX9_reset_15 : decode cX9_reset 15 = .ok (.ldc 92, 2) := by decide +kernel
theorem dX9_reset_17 : decode cX9_reset 17 = .ok (.invokespecial 94, 3) := by decide +kernel
theorem dX9_reset_20 : decode cX9_reset 20 = .ok (.athrow, 1) := by decide +kernel
theorem dX9_reset_21 : decode cX9_reset 21 = .ok (.aload_n 0, 1) := by decide +kernel
theorem dX9_reset_22 : decode cX9_reset 22 = .ok (.getfield 76, 3) := by decide +kernel
theorem dX9_reset_25 : decode cX9_reset 25 = .ok (.istore_n 2, 1) := by decide +kernel
theorem dX9_reset_26 : decode cX9_reset 26 = .ok (.aload_n 0, 1) := by decide +kernel
theorem dX9_reset_27 : decode cX9_reset 27 = .ok (.iload_n 1, 1) := by decide +kernel
theorem dX9_reset_28 : decode cX9_reset 28 = .ok (.putfield 76, 3) := by decide +kernel
theorem dX9_reset_31 : decode cX9_reset 31 = .ok (.aload_n 0, 1) := by decide +kernel
theorem dX9_reset_32 : decode cX9_reset 32 = .ok (.getfield 54, 3) := by decide +kernel
theorem dX9_reset_35 : decode cX9_reset 35 = .ok (.invokevirtual 97, 3) := by decide +kernel
theorem dX9_reset_38 : decode cX9_reset 38 = .ok (.aload_n 0, 1) := by decide +kernel
theorem dX9_reset_39 : decode cX9_reset 39 = .ok (.iconst 0, 1) := by decide +kernel
theorem dX9_reset_40 : decode cX9_reset 40 = .ok (.putfield 83, 3) := by decide +kernel
theorem dX9_reset_43 : decode cX9_reset 43 = .ok (.aload_n 0, 1) := by decide +kernel
theorem dX9_reset_44 : decode cX9_reset 44 = .ok (.iconst 0, 1) := by decide +kernel
theorem dX9_reset_45 : decode cX9_reset 45 = .ok (.putfield 87, 3) := by decide +kernel
theorem dX9_reset_48 : decode cX9_reset 48 = .ok (.iload_n 2, 1) := by decide +kernel
theorem dX9_reset_49 : decode cX9_reset 49 = .ok (.ireturn, 1) := by decide +kernel
theorem dX9_positions_0 : decode cX9_positions 0 = .ok (.aload_n 0, 1) := by decide +kernel
theorem dX9_positions_1 : decode cX9_positions 1 = .ok (.getfield 76, 3) := by decide +kernel
theorem dX9_positions_4 : decode cX9_positions 4 = .ok (.ireturn, 1) := by decide +kernel
theorem dX9_append_0 : decode cX9_append 0 = .ok (.iload_n 1, 1) := by decide +kernel
theorem dX9_append_1 : decode cX9_append 1 = .ok (.bipush 32, 2) := by decide +kernel
theorem dX9_append_3 : decode cX9_append 3 = .ok (.if_icmp .lt 9, 3) := by decide +kernel
theorem dX9_append_6 : decode cX9_append 6 = .ok (.iload_n 1, 1) := by decide +kernel
theorem dX9_append_7 : decode cX9_append 7 = .ok (.bipush 126, 2) := by decide +kernel
theorem dX9_append_9 : decode cX9_append 9 = .ok (.if_icmp .le 13, 3) := by decide +kernel
theorem dX9_append_12 : decode cX9_append 12 = .ok (.new 90, 3) := by decide +kernel
theorem dX9_append_15 : decode cX9_append 15 = .ok (.dup, 1) := by decide +kernel
theorem dX9_append_16 : decode cX9_append 16 = .ok (.ldc 100, 2) := by decide +kernel
theorem dX9_append_18 : decode cX9_append 18 = .ok (.invokespecial 94, 3) := by decide +kernel
theorem dX9_append_21 : decode cX9_append 21 = .ok (.athrow, 1) := by decide +kernel
theorem dX9_append_22 : decode cX9_append 22 = .ok (.aload_n 0, 1) := by decide +kernel
theorem dX9_append_23 : decode cX9_append 23 = .ok (.getfield 12, 3) := by decide +kernel
theorem dX9_append_26 : decode cX9_append 26 = .ok (.iload_n 1, 1) := by decide +kernel
theorem dX9_append_27 : decode cX9_append 27 = .ok (.invokevirtual 102, 3) := by decide +kernel
theorem dX9_append_30 : decode cX9_append 30 = .ok (.ifCond .ne 13, 3) := by decide +kernel
theorem dX9_append_33 : decode cX9_append 33 = .ok (.new 106, 3) := by decide +kernel
theorem dX9_append_36 : decode cX9_append 36 = .ok (.dup, 1) := by decide +kernel
theorem dX9_append_37 : decode cX9_append 37 = .ok (.ldc 108, 2) := by decide +kernel
theorem dX9_append_39 : decode cX9_append 39 = .ok (.invokespecial 110, 3) := by decide +kernel
theorem dX9_append_42 : decode cX9_append 42 = .ok (.athrow, 1) := by decide +kernel
theorem dX9_append_43 : decode cX9_append 43 = .ok (.aload_n 0, 1) := by decide +kernel
theorem dX9_append_44 : decode cX9_append 44 = .ok (.getfield 12, 3) := by decide +kernel
theorem dX9_append_47 : decode cX9_append 47 = .ok (.invokevirtual 111, 3) := by decide +kernel
theorem dX9_append_50 : decode cX9_append 50 = .ok (.ireturn, 1) := by decide +kernel
theorem dX9_define_0 : decode cX9_define 0 = .ok (.iload_n 1, 1) := by decide +kernel
theorem dX9_define_1 : decode cX9_define 1 = .ok (.invokestatic 115, 3) := by decide +kernel
theorem dX9_define_4 : decode cX9_define 4 = .ok (.aload_n 0, 1) := by decide +kernel
theorem dX9_define_5 : decode cX9_define 5 = .ok (.getfield 19, 3) := by decide +kernel
theorem dX9_define_8 : decode cX9_define 8 = .ok (.aload_n 0, 1) := by decide +kernel
theorem dX9_define_9 : decode cX9_define 9 = .ok (.getfield 12, 3) := by decide +kernel
theorem dX9_define_12 : decode cX9_define 12 = .ok (.aload_n 0, 1) := by decide +kernel
theorem dX9_define_13 : decode cX9_define 13 = .ok (.getfield 76, 3) := by decide +kernel
theorem dX9_define_16 : decode cX9_define 16 = .ok (.invokevirtual 119, 3) := by decide +kernel
theorem dX9_define_19 : decode cX9_define 19 = .ok (.istore_n 2, 1) := by decide +kernel
theorem dX9_define_20 : decode cX9_define 20 = .ok (.aload_n 0, 1) := by decide +kernel
theorem dX9_define_21 : decode cX9_define 21 = .ok (.getfield 12, 3) := by decide +kernel
theorem dX9_define_24 : decode cX9_define 24 = .ok (.invokevirtual 123, 3) := by decide +kernel
theorem dX9_define_27 : decode cX9_define 27 = .ok (.iload_n 2, 1) := by decide +kernel
theorem dX9_define_28 : decode cX9_define 28 = .ok (.iconst (-1), 1) := by decide +kernel
theorem dX9_define_29 : decode cX9_define 29 = .ok (.if_icmp .eq 18, 3) := by decide +kernel
theorem dX9_define_32 : decode cX9_define 32 = .ok (.aload_n 0, 1) := by decide +kernel
theorem dX9_define_33 : decode cX9_define 33 = .ok (.iload_n 2, 1) := by decide +kernel
theorem dX9_define_34 : decode cX9_define 34 = .ok (.putfield 80, 3) := by decide +kernel
theorem dX9_define_37 : decode cX9_define 37 = .ok (.new 90, 3) := by decide +kernel
theorem dX9_define_40 : decode cX9_define 40 = .ok (.dup, 1) := by decide +kernel
theorem dX9_define_41 : decode cX9_define 41 = .ok (.ldc 124, 2) := by decide +kernel
theorem dX9_define_43 : decode cX9_define 43 = .ok (.invokespecial 94, 3) := by decide +kernel
theorem dX9_define_46 : decode cX9_define 46 = .ok (.athrow, 1) := by decide +kernel
theorem dX9_define_47 : decode cX9_define 47 = .ok (.aload_n 0, 1) := by decide +kernel
theorem dX9_define_48 : decode cX9_define 48 = .ok (.getfield 19, 3) := by decide +kernel
theorem dX9_define_51 : decode cX9_define 51 = .ok (.invokevirtual 126, 3) := by decide +kernel
theorem dX9_define_54 : decode cX9_define 54 = .ok (.istore_n 3, 1) := by decide +kernel
theorem dX9_define_55 : decode cX9_define 55 = .ok (.aload_n 0, 1) := by decide +kernel
theorem dX9_define_56 : decode cX9_define 56 = .ok (.getfield 54, 3) := by decide +kernel
theorem dX9_define_59 : decode cX9_define 59 = .ok (.iload_n 1, 1) := by decide +kernel
theorem dX9_define_60 : decode cX9_define 60 = .ok (.iload_n 3, 1) := by decide +kernel
theorem dX9_define_61 : decode cX9_define 61 = .ok (.invokevirtual 129, 3) := by decide +kernel
theorem dX9_define_64 : decode cX9_define 64 = .ok (.aload_n 0, 1) := by decide +kernel
theorem dX9_define_65 : decode cX9_define 65 = .ok (.iconst 0, 1) := by decide +kernel
theorem dX9_define_66 : decode cX9_define 66 = .ok (.putfield 87, 3) := by decide +kernel
theorem dX9_define_69 : decode cX9_define 69 = .ok (.iload_n 3, 1) := by decide +kernel
theorem dX9_define_70 : decode cX9_define 70 = .ok (.ldc 133, 2) := by decide +kernel
theorem dX9_define_72 : decode cX9_define 72 = .ok (.invokestatic 134, 3) := by decide +kernel
theorem dX9_define_75 : decode cX9_define 75 = .ok (.ireturn, 1) := by decide +kernel
theorem dX9_store_0 : decode cX9_store 0 = .ok (.iload_n 1, 1) := by decide +kernel
theorem dX9_store_1 : decode cX9_store 1 = .ok (.invokestatic 140, 3) := by decide +kernel
theorem dX9_store_4 : decode cX9_store 4 = .ok (.aload_n 0, 1) := by decide +kernel
theorem dX9_store_5 : decode cX9_store 5 = .ok (.getfield 26, 3) := by decide +kernel
theorem dX9_store_8 : decode cX9_store 8 = .ok (.aload_n 0, 1) := by decide +kernel
theorem dX9_store_9 : decode cX9_store 9 = .ok (.getfield 12, 3) := by decide +kernel
theorem dX9_store_12 : decode cX9_store 12 = .ok (.invokevirtual 143, 3) := by decide +kernel
theorem dX9_store_15 : decode cX9_store 15 = .ok (.istore_n 2, 1) := by decide +kernel
theorem dX9_store_16 : decode cX9_store 16 = .ok (.iload_n 2, 1) := by decide +kernel
theorem dX9_store_17 : decode cX9_store 17 = .ok (.iconst (-1), 1) := by decide +kernel
theorem dX9_store_18 : decode cX9_store 18 = .ok (.if_icmp .ne 21, 3) := by decide +kernel
theorem dX9_store_21 : decode cX9_store 21 = .ok (.aload_n 0, 1) := by decide +kernel
theorem dX9_store_22 : decode cX9_store 22 = .ok (.getfield 54, 3) := by decide +kernel
theorem dX9_store_25 : decode cX9_store 25 = .ok (.aload_n 0, 1) := by decide +kernel
theorem dX9_store_26 : decode cX9_store 26 = .ok (.getfield 12, 3) := by decide +kernel
theorem dX9_store_29 : decode cX9_store 29 = .ok (.invokevirtual 146, 3) := by decide +kernel
theorem dX9_store_32 : decode cX9_store 32 = .ok (.ifCond .eq 7, 3) := by decide +kernel
theorem dX9_store_35 : decode cX9_store 35 = .ok (.iconst 1, 1) := by decide +kernel
theorem dX9_store_36 : decode cX9_store 36 = .ok (.goto 4, 3) := by decide +kernel
theorem dX9_store_39 : decode cX9_store 39 = .ok (.iconst 0, 1) := by decide +kernel
theorem dX9_store_40 : decode cX9_store 40 = .ok (.istore_n 3, 1) := by decide +kernel
theorem dX9_store_41 : decode cX9_store 41 = .ok (.iload_n 3, 1) := by decide +kernel
theorem dX9_store_42 : decode cX9_store 42 = .ok (.ifCond .eq 25, 3) := by decide +kernel
theorem dX9_store_45 : decode cX9_store 45 = .ok (.aload_n 0, 1) := by decide +kernel
theorem dX9_store_46 : decode cX9_store 46 = .ok (.getfield 33, 3) := by decide +kernel
theorem dX9_store_49 : decode cX9_store 49 = .ok (.aload_n 0, 1) := by decide +kernel
theorem dX9_store_50 : decode cX9_store 50 = .ok (.getfield 12, 3) := by decide +kernel
theorem dX9_store_53 : decode cX9_store 53 = .ok (.aload_n 0, 1) := by decide +kernel
theorem dX9_store_54 : decode cX9_store 54 = .ok (.getfield 64, 3) := by decide +kernel
theorem dX9_store_57 : decode cX9_store 57 = .ok (.invokevirtual 150, 3) := by decide +kernel
theorem dX9_store_60 : decode cX9_store 60 = .ok (.ifCond .eq 7, 3) := by decide +kernel
theorem dX9_store_63 : decode cX9_store 63 = .ok (.iconst 1, 1) := by decide +kernel
theorem dX9_store_64 : decode cX9_store 64 = .ok (.goto 4, 3) := by decide +kernel
theorem dX9_store_67 : decode cX9_store 67 = .ok (.iconst 0, 1) := by decide +kernel
theorem dX9_store_68 : decode cX9_store 68 = .ok (.istore 4, 2) := by decide +kernel
theorem dX9_store_70 : decode cX9_store 70 = .ok (.aload_n 0, 1) := by decide +kernel
theorem dX9_store_71 : decode cX9_store 71 = .ok (.getfield 12, 3) := by decide +kernel
theorem dX9_store_74 : decode cX9_store 74 = .ok (.invokevirtual 123, 3) := by decide +kernel
theorem dX9_store_77 : decode cX9_store 77 = .ok (.iload_n 2, 1) := by decide +kernel
theorem dX9_store_78 : decode cX9_store 78 = .ok (.iconst (-1), 1) := by decide +kernel
theorem dX9_store_79 : decode cX9_store 79 = .ok (.if_icmp .eq 18, 3) := by decide +kernel
theorem dX9_store_82 : decode cX9_store 82 = .ok (.aload_n 0, 1) := by decide +kernel
theorem dX9_store_83 : decode cX9_store 83 = .ok (.iload_n 2, 1) := by decide +kernel
theorem dX9_store_84 : decode cX9_store 84 = .ok (.putfield 80, 3) := by decide +kernel
theorem dX9_store_87 : decode cX9_store 87 = .ok (.new 90, 3) := by decide +kernel
theorem dX9_store_90 : decode cX9_store 90 = .ok (.dup, 1) := by decide +kernel
theorem dX9_store_91 : decode cX9_store 91 = .ok (.ldc 154, 2) := by decide +kernel
theorem dX9_store_93 : decode cX9_store 93 = .ok (.invokespecial 94, 3) := by decide +kernel
theorem dX9_store_96 : decode cX9_store 96 = .ok (.athrow, 1) := by decide +kernel
theorem dX9_store_97 : decode cX9_store 97 = .ok (.iload_n 3, 1) := by decide +kernel
theorem dX9_store_98 : decode cX9_store 98 = .ok (.ifCond .ne 13, 3) := by decide +kernel
theorem dX9_store_101 : decode cX9_store 101 = .ok (.new 106, 3) := by decide +kernel
theorem dX9_store_104 : decode cX9_store 104 = .ok (.dup, 1) := by decide +kernel
theorem dX9_store_105 : decode cX9_store 105 = .ok (.ldc 156, 2) := by decide +kernel
theorem dX9_store_107 : decode cX9_store 107 = .ok (.invokespecial 110, 3) := by decide +kernel
theorem dX9_store_110 : decode cX9_store 110 = .ok (.athrow, 1) := by decide +kernel
theorem dX9_store_111 : decode cX9_store 111 = .ok (.iload 4, 2) := by decide +kernel
theorem dX9_store_113 : decode cX9_store 113 = .ok (.ifCond .ne 13, 3) := by decide +kernel
theorem dX9_store_116 : decode cX9_store 116 = .ok (.new 158, 3) := by decide +kernel
theorem dX9_store_119 : decode cX9_store 119 = .ok (.dup, 1) := by decide +kernel
theorem dX9_store_120 : decode cX9_store 120 = .ok (.ldc 160, 2) := by decide +kernel
theorem dX9_store_122 : decode cX9_store 122 = .ok (.invokespecial 162, 3) := by decide +kernel
theorem dX9_store_125 : decode cX9_store 125 = .ok (.athrow, 1) := by decide +kernel
theorem dX9_store_126 : decode cX9_store 126 = .ok (.aload_n 0, 1) := by decide +kernel
theorem dX9_store_127 : decode cX9_store 127 = .ok (.iload_n 1, 1) := by decide +kernel
theorem dX9_store_128 : decode cX9_store 128 = .ok (.invokevirtual 163, 3) := by decide +kernel
theorem dX9_store_131 : decode cX9_store 131 = .ok (.ireturn, 1) := by decide +kernel
theorem dX9_errorPosition_0 : decode cX9_errorPosition 0 = .ok (.aload_n 0, 1) := by decide +kernel
theorem dX9_errorPosition_1 : decode cX9_errorPosition 1 = .ok (.getfield 80, 3) := by decide +kernel
theorem dX9_errorPosition_4 : decode cX9_errorPosition 4 = .ok (.iconst (-1), 1) := by decide +kernel
theorem dX9_errorPosition_5 : decode cX9_errorPosition 5 = .ok (.if_icmp .ne 13, 3) := by decide +kernel
theorem dX9_errorPosition_8 : decode cX9_errorPosition 8 = .ok (.new 167, 3) := by decide +kernel
theorem dX9_errorPosition_11 : decode cX9_errorPosition 11 = .ok (.dup, 1) := by decide +kernel
theorem dX9_errorPosition_12 : decode cX9_errorPosition 12 = .ok (.ldc 169, 2) := by decide +kernel
theorem dX9_errorPosition_14 : decode cX9_errorPosition 14 = .ok (.invokespecial 171, 3) := by decide +kernel
theorem dX9_errorPosition_17 : decode cX9_errorPosition 17 = .ok (.athrow, 1) := by decide +kernel
theorem dX9_errorPosition_18 : decode cX9_errorPosition 18 = .ok (.aload_n 0, 1) := by decide +kernel
theorem dX9_errorPosition_19 : decode cX9_errorPosition 19 = .ok (.getfield 80, 3) := by decide +kernel
theorem dX9_errorPosition_22 : decode cX9_errorPosition 22 = .ok (.ireturn, 1) := by decide +kernel
theorem dX9_target_0 : decode cX9_target 0 = .ok (.iload_n 1, 1) := by decide +kernel
theorem dX9_target_1 : decode cX9_target 1 = .ok (.invokestatic 115, 3) := by decide +kernel
theorem dX9_target_4 : decode cX9_target 4 = .ok (.aload_n 0, 1) := by decide +kernel
theorem dX9_target_5 : decode cX9_target 5 = .ok (.iload_n 2, 1) := by decide +kernel
theorem dX9_target_6 : decode cX9_target 6 = .ok (.invokevirtual 172, 3) := by decide +kernel
theorem dX9_target_9 : decode cX9_target 9 = .ok (.aload_n 0, 1) := by decide +kernel
theorem dX9_target_10 : decode cX9_target 10 = .ok (.getfield 54, 3) := by decide +kernel
theorem dX9_target_13 : decode cX9_target 13 = .ok (.iload_n 1, 1) := by decide +kernel
theorem dX9_target_14 : decode cX9_target 14 = .ok (.invokevirtual 175, 3) := by decide +kernel
theorem dX9_target_17 : decode cX9_target 17 = .ok (.ifCond .ne 13, 3) := by decide +kernel
theorem dX9_target_20 : decode cX9_target 20 = .ok (.new 167, 3) := by decide +kernel
theorem dX9_target_23 : decode cX9_target 23 = .ok (.dup, 1) := by decide +kernel
theorem dX9_target_24 : decode cX9_target 24 = .ok (.ldc 179, 2) := by decide +kernel
theorem dX9_target_26 : decode cX9_target 26 = .ok (.invokespecial 171, 3) := by decide +kernel
theorem dX9_target_29 : decode cX9_target 29 = .ok (.athrow, 1) := by decide +kernel
theorem dX9_target_30 : decode cX9_target 30 = .ok (.aload_n 0, 1) := by decide +kernel
theorem dX9_target_31 : decode cX9_target 31 = .ok (.getfield 54, 3) := by decide +kernel
theorem dX9_target_34 : decode cX9_target 34 = .ok (.iconst 2, 1) := by decide +kernel
theorem dX9_target_35 : decode cX9_target 35 = .ok (.iload_n 1, 1) := by decide +kernel
theorem dX9_target_36 : decode cX9_target 36 = .ok (.imul, 1) := by decide +kernel
theorem dX9_target_37 : decode cX9_target 37 = .ok (.invokevirtual 181, 3) := by decide +kernel
theorem dX9_target_40 : decode cX9_target 40 = .ok (.iload_n 2, 1) := by decide +kernel
theorem dX9_target_41 : decode cX9_target 41 = .ok (.iconst 1, 1) := by decide +kernel
theorem dX9_target_42 : decode cX9_target 42 = .ok (.isub, 1) := by decide +kernel
theorem dX9_target_43 : decode cX9_target 43 = .ok (.invokestatic 184, 3) := by decide +kernel
theorem dX9_target_46 : decode cX9_target 46 = .ok (.iconst 1, 1) := by decide +kernel
theorem dX9_target_47 : decode cX9_target 47 = .ok (.iadd, 1) := by decide +kernel
theorem dX9_target_48 : decode cX9_target 48 = .ok (.ireturn, 1) := by decide +kernel
theorem dX9_wordLength_0 : decode cX9_wordLength 0 = .ok (.iload_n 1, 1) := by decide +kernel
theorem dX9_wordLength_1 : decode cX9_wordLength 1 = .ok (.invokestatic 140, 3) := by decide +kernel
theorem dX9_wordLength_4 : decode cX9_wordLength 4 = .ok (.aload_n 0, 1) := by decide +kernel
theorem dX9_wordLength_5 : decode cX9_wordLength 5 = .ok (.getfield 54, 3) := by decide +kernel
theorem dX9_wordLength_8 : decode cX9_wordLength 8 = .ok (.iload_n 1, 1) := by decide +kernel
theorem dX9_wordLength_9 : decode cX9_wordLength 9 = .ok (.invokevirtual 187, 3) := by decide +kernel
theorem dX9_wordLength_12 : decode cX9_wordLength 12 = .ok (.invokevirtual 191, 3) := by decide +kernel
theorem dX9_wordLength_15 : decode cX9_wordLength 15 = .ok (.ireturn, 1) := by decide +kernel
theorem dX9_letter_0 : decode cX9_letter 0 = .ok (.iload_n 1, 1) := by decide +kernel
theorem dX9_letter_1 : decode cX9_letter 1 = .ok (.invokestatic 140, 3) := by decide +kernel
theorem dX9_letter_4 : decode cX9_letter 4 = .ok (.aload_n 0, 1) := by decide +kernel
theorem dX9_letter_5 : decode cX9_letter 5 = .ok (.getfield 54, 3) := by decide +kernel
theorem dX9_letter_8 : decode cX9_letter 8 = .ok (.iload_n 1, 1) := by decide +kernel
theorem dX9_letter_9 : decode cX9_letter 9 = .ok (.invokevirtual 187, 3) := by decide +kernel
theorem dX9_letter_12 : decode cX9_letter 12 = .ok (.astore_n 3, 1) := by decide +kernel
theorem dX9_letter_13 : decode cX9_letter 13 = .ok (.iload_n 2, 1) := by decide +kernel
theorem dX9_letter_14 : decode cX9_letter 14 = .ok (.ifCond .lt 11, 3) := by decide +kernel
theorem dX9_letter_17 : decode cX9_letter 17 = .ok (.iload_n 2, 1) := by decide +kernel
theorem dX9_letter_18 : decode cX9_letter 18 = .ok (.aload_n 3, 1) := by decide +kernel
theorem dX9_letter_19 : decode cX9_letter 19 = .ok (.invokevirtual 191, 3) := by decide +kernel
theorem dX9_letter_22 : decode cX9_letter 22 = .ok (.if_icmp .lt 13, 3) := by decide +kernel
theorem dX9_letter_25 : decode cX9_letter 25 = .ok (.new 192, 3) := by decide +kernel
theorem dX9_letter_28 : decode cX9_letter 28 = .ok (.dup, 1) := by decide +kernel
theorem dX9_letter_29 : decode cX9_letter 29 = .ok (.ldc 194, 2) := by decide +kernel
theorem dX9_letter_31 : decode cX9_letter 31 = .ok (.invokespecial 196, 3) := by decide +kernel
theorem dX9_letter_34 : decode cX9_letter 34 = .ok (.athrow, 1) := by decide +kernel
theorem dX9_letter_35 : decode cX9_letter 35 = .ok (.aload_n 3, 1) := by decide +kernel
theorem dX9_letter_36 : decode cX9_letter 36 = .ok (.iload_n 2, 1) := by decide +kernel
theorem dX9_letter_37 : decode cX9_letter 37 = .ok (.invokevirtual 197, 3) := by decide +kernel
theorem dX9_letter_40 : decode cX9_letter 40 = .ok (.ireturn, 1) := by decide +kernel
theorem dX9_invert_0 : decode cX9_invert 0 = .ok (.iload_n 1, 1) := by decide +kernel
theorem dX9_invert_1 : decode cX9_invert 1 = .ok (.invokestatic 140, 3) := by decide +kernel
theorem dX9_invert_4 : decode cX9_invert 4 = .ok (.iload_n 2, 1) := by decide +kernel
theorem dX9_invert_5 : decode cX9_invert 5 = .ok (.invokestatic 140, 3) := by decide +kernel
theorem dX9_invert_8 : decode cX9_invert 8 = .ok (.aload_n 0, 1) := by decide +kernel
theorem dX9_invert_9 : decode cX9_invert 9 = .ok (.getfield 64, 3) := by decide +kernel
theorem dX9_invert_12 : decode cX9_invert 12 = .ok (.invokevirtual 200, 3) := by decide +kernel
theorem dX9_invert_15 : decode cX9_invert 15 = .ok (.aload_n 0, 1) := by decide +kernel
theorem dX9_invert_16 : decode cX9_invert 16 = .ok (.getfield 64, 3) := by decide +kernel
theorem dX9_invert_19 : decode cX9_invert 19 = .ok (.aload_n 0, 1) := by decide +kernel
theorem dX9_invert_20 : decode cX9_invert 20 = .ok (.getfield 54, 3) := by decide +kernel
theorem dX9_invert_23 : decode cX9_invert 23 = .ok (.iload_n 2, 1) := by decide +kernel
theorem dX9_invert_24 : decode cX9_invert 24 = .ok (.invokevirtual 187, 3) := by decide +kernel
theorem dX9_invert_27 : decode cX9_invert 27 = .ok (.invokevirtual 201, 3) := by decide +kernel
theorem dX9_invert_30 : decode cX9_invert 30 = .ok (.pop, 1) := by decide +kernel
theorem dX9_invert_31 : decode cX9_invert 31 = .ok (.aload_n 0, 1) := by decide +kernel
theorem dX9_invert_32 : decode cX9_invert 32 = .ok (.iload_n 1, 1) := by decide +kernel
theorem dX9_invert_33 : decode cX9_invert 33 = .ok (.invokevirtual 163, 3) := by decide +kernel
theorem dX9_invert_36 : decode cX9_invert 36 = .ok (.ireturn, 1) := by decide +kernel
theorem dX9_conjugate_0 : decode cX9_conjugate 0 = .ok (.iload_n 1, 1) := by decide +kernel
theorem dX9_conjugate_1 : decode cX9_conjugate 1 = .ok (.invokestatic 140, 3) := by decide +kernel
theorem dX9_conjugate_4 : decode cX9_conjugate 4 = .ok (.iload_n 2, 1) := by decide +kernel
theorem dX9_conjugate_5 : decode cX9_conjugate 5 = .ok (.invokestatic 140, 3) := by decide +kernel
theorem dX9_conjugate_8 : decode cX9_conjugate 8 = .ok (.iload_n 3, 1) := by decide +kernel
theorem dX9_conjugate_9 : decode cX9_conjugate 9 = .ok (.invokestatic 140, 3) := by decide +kernel
theorem dX9_conjugate_12 : decode cX9_conjugate 12 = .ok (.aload_n 0, 1) := by decide +kernel
theorem dX9_conjugate_13 : decode cX9_conjugate 13 = .ok (.getfield 64, 3) := by decide +kernel
theorem dX9_conjugate_16 : decode cX9_conjugate 16 = .ok (.invokevirtual 200, 3) := by decide +kernel
theorem dX9_conjugate_19 : decode cX9_conjugate 19 = .ok (.aload_n 0, 1) := by decide +kernel
theorem dX9_conjugate_20 : decode cX9_conjugate 20 = .ok (.getfield 64, 3) := by decide +kernel
theorem dX9_conjugate_23 : decode cX9_conjugate 23 = .ok (.aload_n 0, 1) := by decide +kernel
theorem dX9_conjugate_24 : decode cX9_conjugate 24 = .ok (.getfield 54, 3) := by decide +kernel
theorem dX9_conjugate_27 : decode cX9_conjugate 27 = .ok (.iload_n 3, 1) := by decide +kernel
theorem dX9_conjugate_28 : decode cX9_conjugate 28 = .ok (.invokevirtual 187, 3) := by decide +kernel
theorem dX9_conjugate_31 : decode cX9_conjugate 31 = .ok (.invokevirtual 201, 3) := by decide +kernel
theorem dX9_conjugate_34 : decode cX9_conjugate 34 = .ok (.ifCond .eq 43, 3) := by decide +kernel
theorem dX9_conjugate_37 : decode cX9_conjugate 37 = .ok (.aload_n 0, 1) := by decide +kernel
theorem dX9_conjugate_38 : decode cX9_conjugate 38 = .ok (.getfield 64, 3) := by decide +kernel
theorem dX9_conjugate_41 : decode cX9_conjugate 41 = .ok (.aload_n 0, 1) := by decide +kernel
theorem dX9_conjugate_42 : decode cX9_conjugate 42 = .ok (.getfield 54, 3) := by decide +kernel
theorem dX9_conjugate_45 : decode cX9_conjugate 45 = .ok (.iload_n 2, 1) := by decide +kernel
theorem dX9_conjugate_46 : decode cX9_conjugate 46 = .ok (.invokevirtual 187, 3) := by decide +kernel
theorem dX9_conjugate_49 : decode cX9_conjugate 49 = .ok (.invokevirtual 205, 3) := by decide +kernel
theorem dX9_conjugate_52 : decode cX9_conjugate 52 = .ok (.ifCond .eq 25, 3) := by decide +kernel
theorem dX9_conjugate_55 : decode cX9_conjugate 55 = .ok (.aload_n 0, 1) := by decide +kernel
theorem dX9_conjugate_56 : decode cX9_conjugate 56 = .ok (.getfield 64, 3) := by decide +kernel
theorem dX9_conjugate_59 : decode cX9_conjugate 59 = .ok (.aload_n 0, 1) := by decide +kernel
theorem dX9_conjugate_60 : decode cX9_conjugate 60 = .ok (.getfield 54, 3) := by decide +kernel
theorem dX9_conjugate_63 : decode cX9_conjugate 63 = .ok (.iload_n 3, 1) := by decide +kernel
theorem dX9_conjugate_64 : decode cX9_conjugate 64 = .ok (.invokevirtual 187, 3) := by decide +kernel
theorem dX9_conjugate_67 : decode cX9_conjugate 67 = .ok (.invokevirtual 205, 3) := by decide +kernel
theorem dX9_conjugate_70 : decode cX9_conjugate 70 = .ok (.ifCond .eq 7, 3) := by decide +kernel
theorem dX9_conjugate_73 : decode cX9_conjugate 73 = .ok (.iconst 1, 1) := by decide +kernel
theorem dX9_conjugate_74 : decode cX9_conjugate 74 = .ok (.goto 4, 3) := by decide +kernel
theorem dX9_conjugate_77 : decode cX9_conjugate 77 = .ok (.iconst 0, 1) := by decide +kernel
theorem dX9_conjugate_78 : decode cX9_conjugate 78 = .ok (.istore 4, 2) := by decide +kernel
theorem dX9_conjugate_80 : decode cX9_conjugate 80 = .ok (.iload 4, 2) := by decide +kernel
theorem dX9_conjugate_82 : decode cX9_conjugate 82 = .ok (.ifCond .ne 13, 3) := by decide +kernel
theorem dX9_conjugate_85 : decode cX9_conjugate 85 = .ok (.new 158, 3) := by decide +kernel
theorem dX9_conjugate_88 : decode cX9_conjugate 88 = .ok (.dup, 1) := by decide +kernel
theorem dX9_conjugate_89 : decode cX9_conjugate 89 = .ok (.ldc 208, 2) := by decide +kernel
theorem dX9_conjugate_91 : decode cX9_conjugate 91 = .ok (.invokespecial 162, 3) := by decide +kernel
theorem dX9_conjugate_94 : decode cX9_conjugate 94 = .ok (.athrow, 1) := by decide +kernel
theorem dX9_conjugate_95 : decode cX9_conjugate 95 = .ok (.aload_n 0, 1) := by decide +kernel
theorem dX9_conjugate_96 : decode cX9_conjugate 96 = .ok (.iload_n 1, 1) := by decide +kernel
theorem dX9_conjugate_97 : decode cX9_conjugate 97 = .ok (.invokevirtual 163, 3) := by decide +kernel
theorem dX9_conjugate_100 : decode cX9_conjugate 100 = .ok (.ireturn, 1) := by decide +kernel
theorem dX9_commutator_0 : decode cX9_commutator 0 = .ok (.iload_n 1, 1) := by decide +kernel
theorem dX9_commutator_1 : decode cX9_commutator 1 = .ok (.invokestatic 140, 3) := by decide +kernel
theorem dX9_commutator_4 : decode cX9_commutator 4 = .ok (.iload_n 2, 1) := by decide +kernel
theorem dX9_commutator_5 : decode cX9_commutator 5 = .ok (.invokestatic 140, 3) := by decide +kernel
theorem dX9_commutator_8 : decode cX9_commutator 8 = .ok (.iload_n 3, 1) := by decide +kernel
theorem dX9_commutator_9 : decode cX9_commutator 9 = .ok (.invokestatic 140, 3) := by decide +kernel
theorem dX9_commutator_12 : decode cX9_commutator 12 = .ok (.aload_n 0, 1) := by decide +kernel
theorem dX9_commutator_13 : decode cX9_commutator 13 = .ok (.getfield 64, 3) := by decide +kernel
theorem dX9_commutator_16 : decode cX9_commutator 16 = .ok (.invokevirtual 200, 3) := by decide +kernel
theorem dX9_commutator_19 : decode cX9_commutator 19 = .ok (.aload_n 0, 1) := by decide +kernel
theorem dX9_commutator_20 : decode cX9_commutator 20 = .ok (.getfield 64, 3) := by decide +kernel
theorem dX9_commutator_23 : decode cX9_commutator 23 = .ok (.aload_n 0, 1) := by decide +kernel
theorem dX9_commutator_24 : decode cX9_commutator 24 = .ok (.getfield 54, 3) := by decide +kernel
theorem dX9_commutator_27 : decode cX9_commutator 27 = .ok (.iload_n 2, 1) := by decide +kernel
theorem dX9_commutator_28 : decode cX9_commutator 28 = .ok (.invokevirtual 187, 3) := by decide +kernel
theorem dX9_commutator_31 : decode cX9_commutator 31 = .ok (.invokevirtual 205, 3) := by decide +kernel
theorem dX9_commutator_34 : decode cX9_commutator 34 = .ok (.ifCond .eq 61, 3) := by decide +kernel
theorem dX9_commutator_37 : decode cX9_commutator 37 = .ok (.aload_n 0, 1) := by decide +kernel
theorem dX9_commutator_38 : decode cX9_commutator 38 = .ok (.getfield 64, 3) := by decide +kernel
theorem dX9_commutator_41 : decode cX9_commutator 41 = .ok (.aload_n 0, 1) := by decide +kernel
theorem dX9_commutator_42 : decode cX9_commutator 42 = .ok (.getfield 54, 3) := by decide +kernel
theorem dX9_commutator_45 : decode cX9_commutator 45 = .ok (.iload_n 3, 1) := by decide +kernel
theorem dX9_commutator_46 : decode cX9_commutator 46 = .ok (.invokevirtual 187, 3) := by decide +kernel
theorem dX9_commutator_49 : decode cX9_commutator 49 = .ok (.invokevirtual 205, 3) := by decide +kernel
theorem dX9_commutator_52 : decode cX9_commutator 52 = .ok (.ifCond .eq 43, 3) := by decide +kernel
theorem dX9_commutator_55 : decode cX9_commutator 55 = .ok (.aload_n 0, 1) := by decide +kernel
theorem dX9_commutator_56 : decode cX9_commutator 56 = .ok (.getfield 64, 3) := by decide +kernel
theorem dX9_commutator_59 : decode cX9_commutator 59 = .ok (.aload_n 0, 1) := by decide +kernel
theorem dX9_commutator_60 : decode cX9_commutator 60 = .ok (.getfield 54, 3) := by decide +kernel
theorem dX9_commutator_63 : decode cX9_commutator 63 = .ok (.iload_n 2, 1) := by decide +kernel
theorem dX9_commutator_64 : decode cX9_commutator 64 = .ok (.invokevirtual 187, 3) := by decide +kernel
theorem dX9_commutator_67 : decode cX9_commutator 67 = .ok (.invokevirtual 201, 3) := by decide +kernel
theorem dX9_commutator_70 : decode cX9_commutator 70 = .ok (.ifCond .eq 25, 3) := by decide +kernel
theorem dX9_commutator_73 : decode cX9_commutator 73 = .ok (.aload_n 0, 1) := by decide +kernel
theorem dX9_commutator_74 : decode cX9_commutator 74 = .ok (.getfield 64, 3) := by decide +kernel
theorem dX9_commutator_77 : decode cX9_commutator 77 = .ok (.aload_n 0, 1) := by decide +kernel
theorem dX9_commutator_78 : decode cX9_commutator 78 = .ok (.getfield 54, 3) := by decide +kernel
theorem dX9_commutator_81 : decode cX9_commutator 81 = .ok (.iload_n 3, 1) := by decide +kernel
theorem dX9_commutator_82 : decode cX9_commutator 82 = .ok (.invokevirtual 187, 3) := by decide +kernel
theorem dX9_commutator_85 : decode cX9_commutator 85 = .ok (.invokevirtual 201, 3) := by decide +kernel
theorem dX9_commutator_88 : decode cX9_commutator 88 = .ok (.ifCond .eq 7, 3) := by decide +kernel
theorem dX9_commutator_91 : decode cX9_commutator 91 = .ok (.iconst 1, 1) := by decide +kernel
theorem dX9_commutator_92 : decode cX9_commutator 92 = .ok (.goto 4, 3) := by decide +kernel
theorem dX9_commutator_95 : decode cX9_commutator 95 = .ok (.iconst 0, 1) := by decide +kernel
theorem dX9_commutator_96 : decode cX9_commutator 96 = .ok (.istore 4, 2) := by decide +kernel
theorem dX9_commutator_98 : decode cX9_commutator 98 = .ok (.iload 4, 2) := by decide +kernel
theorem dX9_commutator_100 : decode cX9_commutator 100 = .ok (.ifCond .ne 13, 3) := by decide +kernel
theorem dX9_commutator_103 : decode cX9_commutator 103 = .ok (.new 158, 3) := by decide +kernel
theorem dX9_commutator_106 : decode cX9_commutator 106 = .ok (.dup, 1) := by decide +kernel
theorem dX9_commutator_107 : decode cX9_commutator 107 = .ok (.ldc 210, 2) := by decide +kernel
theorem dX9_commutator_109 : decode cX9_commutator 109 = .ok (.invokespecial 162, 3) := by decide +kernel
theorem dX9_commutator_112 : decode cX9_commutator 112 = .ok (.athrow, 1) := by decide +kernel
theorem dX9_commutator_113 : decode cX9_commutator 113 = .ok (.aload_n 0, 1) := by decide +kernel
theorem dX9_commutator_114 : decode cX9_commutator 114 = .ok (.iload_n 1, 1) := by decide +kernel
theorem dX9_commutator_115 : decode cX9_commutator 115 = .ok (.invokevirtual 163, 3) := by decide +kernel
theorem dX9_commutator_118 : decode cX9_commutator 118 = .ok (.ireturn, 1) := by decide +kernel
theorem dX9_order_0 : decode cX9_order 0 = .ok (.iload_n 1, 1) := by decide +kernel
theorem dX9_order_1 : decode cX9_order 1 = .ok (.invokestatic 140, 3) := by decide +kernel
theorem dX9_order_4 : decode cX9_order 4 = .ok (.aload_n 0, 1) := by decide +kernel
theorem dX9_order_5 : decode cX9_order 5 = .ok (.getfield 54, 3) := by decide +kernel
theorem dX9_order_8 : decode cX9_order 8 = .ok (.iload_n 1, 1) := by decide +kernel
theorem dX9_order_9 : decode cX9_order 9 = .ok (.invokevirtual 212, 3) := by decide +kernel
theorem dX9_order_12 : decode cX9_order 12 = .ok (.invokestatic 215, 3) := by decide +kernel
theorem dX9_order_15 : decode cX9_order 15 = .ok (.ireturn, 1) := by decide +kernel
theorem dX9_isOdd_0 : decode cX9_isOdd 0 = .ok (.iload_n 1, 1) := by decide +kernel
theorem dX9_isOdd_1 : decode cX9_isOdd 1 = .ok (.invokestatic 140, 3) := by decide +kernel
theorem dX9_isOdd_4 : decode cX9_isOdd 4 = .ok (.aload_n 0, 1) := by decide +kernel
theorem dX9_isOdd_5 : decode cX9_isOdd 5 = .ok (.getfield 54, 3) := by decide +kernel
theorem dX9_isOdd_8 : decode cX9_isOdd 8 = .ok (.iload_n 1, 1) := by decide +kernel
theorem dX9_isOdd_9 : decode cX9_isOdd 9 = .ok (.invokevirtual 212, 3) := by decide +kernel
theorem dX9_isOdd_12 : decode cX9_isOdd 12 = .ok (.invokestatic 218, 3) := by decide +kernel
theorem dX9_isOdd_15 : decode cX9_isOdd 15 = .ok (.ireturn, 1) := by decide +kernel
theorem dX9_cycleLength_0 : decode cX9_cycleLength 0 = .ok (.iload_n 1, 1) := by decide +kernel
theorem dX9_cycleLength_1 : decode cX9_cycleLength 1 = .ok (.invokestatic 140, 3) := by decide +kernel
theorem dX9_cycleLength_4 : decode cX9_cycleLength 4 = .ok (.aload_n 0, 1) := by decide +kernel
theorem dX9_cycleLength_5 : decode cX9_cycleLength 5 = .ok (.iload_n 2, 1) := by decide +kernel
theorem dX9_cycleLength_6 : decode cX9_cycleLength 6 = .ok (.invokevirtual 172, 3) := by decide +kernel
theorem dX9_cycleLength_9 : decode cX9_cycleLength 9 = .ok (.aload_n 0, 1) := by decide +kernel
theorem dX9_cycleLength_10 : decode cX9_cycleLength 10 = .ok (.getfield 54, 3) := by decide +kernel
theorem dX9_cycleLength_13 : decode cX9_cycleLength 13 = .ok (.iload_n 1, 1) := by decide +kernel
theorem dX9_cycleLength_14 : decode cX9_cycleLength 14 = .ok (.invokevirtual 212, 3) := by decide +kernel
theorem dX9_cycleLength_17 : decode cX9_cycleLength 17 = .ok (.iload_n 2, 1) := by decide +kernel
theorem dX9_cycleLength_18 : decode cX9_cycleLength 18 = .ok (.iconst 1, 1) := by decide +kernel
theorem dX9_cycleLength_19 : decode cX9_cycleLength 19 = .ok (.isub, 1) := by decide +kernel
theorem dX9_cycleLength_20 : decode cX9_cycleLength 20 = .ok (.invokestatic 221, 3) := by decide +kernel
theorem dX9_cycleLength_23 : decode cX9_cycleLength 23 = .ok (.ireturn, 1) := by decide +kernel
theorem dX9_isSame_0 : decode cX9_isSame 0 = .ok (.iload_n 1, 1) := by decide +kernel
theorem dX9_isSame_1 : decode cX9_isSame 1 = .ok (.invokestatic 140, 3) := by decide +kernel
theorem dX9_isSame_4 : decode cX9_isSame 4 = .ok (.iload_n 2, 1) := by decide +kernel
theorem dX9_isSame_5 : decode cX9_isSame 5 = .ok (.invokestatic 140, 3) := by decide +kernel
theorem dX9_isSame_8 : decode cX9_isSame 8 = .ok (.aload_n 0, 1) := by decide +kernel
theorem dX9_isSame_9 : decode cX9_isSame 9 = .ok (.getfield 54, 3) := by decide +kernel
theorem dX9_isSame_12 : decode cX9_isSame 12 = .ok (.iload_n 1, 1) := by decide +kernel
theorem dX9_isSame_13 : decode cX9_isSame 13 = .ok (.invokevirtual 212, 3) := by decide +kernel
theorem dX9_isSame_16 : decode cX9_isSame 16 = .ok (.aload_n 0, 1) := by decide +kernel
theorem dX9_isSame_17 : decode cX9_isSame 17 = .ok (.getfield 54, 3) := by decide +kernel
theorem dX9_isSame_20 : decode cX9_isSame 20 = .ok (.iload_n 2, 1) := by decide +kernel
theorem dX9_isSame_21 : decode cX9_isSame 21 = .ok (.invokevirtual 212, 3) := by decide +kernel
theorem dX9_isSame_24 : decode cX9_isSame 24 = .ok (.if_icmp .ne 7, 3) := by decide +kernel
theorem dX9_isSame_27 : decode cX9_isSame 27 = .ok (.iconst 1, 1) := by decide +kernel
theorem dX9_isSame_28 : decode cX9_isSame 28 = .ok (.goto 4, 3) := by decide +kernel
theorem dX9_isSame_31 : decode cX9_isSame 31 = .ok (.iconst 0, 1) := by decide +kernel
theorem dX9_isSame_32 : decode cX9_isSame 32 = .ok (.ireturn, 1) := by decide +kernel
theorem dX9_perform_0 : decode cX9_perform 0 = .ok (.iload_n 1, 1) := by decide +kernel
theorem dX9_perform_1 : decode cX9_perform 1 = .ok (.invokestatic 140, 3) := by decide +kernel
theorem dX9_perform_4 : decode cX9_perform 4 = .ok (.iload_n 2, 1) := by decide +kernel
theorem dX9_perform_5 : decode cX9_perform 5 = .ok (.bipush (-100), 2) := by decide +kernel
theorem dX9_perform_7 : decode cX9_perform 7 = .ok (.if_icmp .lt 9, 3) := by decide +kernel
theorem dX9_perform_10 : decode cX9_perform 10 = .ok (.iload_n 2, 1) := by decide +kernel
theorem dX9_perform_11 : decode cX9_perform 11 = .ok (.bipush 100, 2) := by decide +kernel
theorem dX9_perform_13 : decode cX9_perform 13 = .ok (.if_icmp .le 13, 3) := by decide +kernel
theorem dX9_perform_16 : decode cX9_perform 16 = .ok (.new 90, 3) := by decide +kernel
theorem dX9_perform_19 : decode cX9_perform 19 = .ok (.dup, 1) := by decide +kernel
theorem dX9_perform_20 : decode cX9_perform 20 = .ok (.ldc 224, 2) := by decide +kernel
theorem dX9_perform_22 : decode cX9_perform 22 = .ok (.invokespecial 94, 3) := by decide +kernel
theorem dX9_perform_25 : decode cX9_perform 25 = .ok (.athrow, 1) := by decide +kernel
theorem dX9_perform_26 : decode cX9_perform 26 = .ok (.aload_n 0, 1) := by decide +kernel
theorem dX9_perform_27 : decode cX9_perform 27 = .ok (.getfield 54, 3) := by decide +kernel
theorem dX9_perform_30 : decode cX9_perform 30 = .ok (.iload_n 1, 1) := by decide +kernel
theorem dX9_perform_31 : decode cX9_perform 31 = .ok (.invokevirtual 212, 3) := by decide +kernel
theorem dX9_perform_34 : decode cX9_perform 34 = .ok (.istore_n 3, 1) := by decide +kernel
theorem dX9_perform_35 : decode cX9_perform 35 = .ok (.iload_n 2, 1) := by decide +kernel
theorem dX9_perform_36 : decode cX9_perform 36 = .ok (.ifCond .ge 10, 3) := by decide +kernel
theorem dX9_perform_39 : decode cX9_perform 39 = .ok (.iload_n 3, 1) := by decide +kernel
theorem dX9_perform_40 : decode cX9_perform 40 = .ok (.invokestatic 226, 3) := by decide +kernel
theorem dX9_perform_43 : decode cX9_perform 43 = .ok (.goto 4, 3) := by decide +kernel
theorem dX9_perform_46 : decode cX9_perform 46 = .ok (.iload_n 3, 1) := by decide +kernel
theorem dX9_perform_47 : decode cX9_perform 47 = .ok (.istore 4, 2) := by decide +kernel
theorem dX9_perform_49 : decode cX9_perform 49 = .ok (.aload_n 0, 1) := by decide +kernel
theorem dX9_perform_50 : decode cX9_perform 50 = .ok (.getfield 54, 3) := by decide +kernel
theorem dX9_perform_53 : decode cX9_perform 53 = .ok (.invokevirtual 229, 3) := by decide +kernel
theorem dX9_perform_56 : decode cX9_perform 56 = .ok (.istore 5, 2) := by decide +kernel
theorem dX9_perform_58 : decode cX9_perform 58 = .ok (.iload 5, 2) := by decide +kernel
theorem dX9_perform_60 : decode cX9_perform 60 = .ok (.istore 6, 2) := by decide +kernel
theorem dX9_perform_62 : decode cX9_perform 62 = .ok (.iload_n 2, 1) := by decide +kernel
theorem dX9_perform_63 : decode cX9_perform 63 = .ok (.invokestatic 232, 3) := by decide +kernel
theorem dX9_perform_66 : decode cX9_perform 66 = .ok (.istore 7, 2) := by decide +kernel
theorem dX9_perform_68 : decode cX9_perform 68 = .ok (.iload 7, 2) := by decide +kernel
theorem dX9_perform_70 : decode cX9_perform 70 = .ok (.ifCond .le 18, 3) := by decide +kernel
theorem dX9_perform_73 : decode cX9_perform 73 = .ok (.iload 6, 2) := by decide +kernel
theorem dX9_perform_75 : decode cX9_perform 75 = .ok (.iload 4, 2) := by decide +kernel
theorem dX9_perform_77 : decode cX9_perform 77 = .ok (.invokestatic 237, 3) := by decide +kernel
theorem dX9_perform_80 : decode cX9_perform 80 = .ok (.istore 6, 2) := by decide +kernel
theorem dX9_perform_82 : decode cX9_perform 82 = .ok (.iinc 7 (-1), 3) := by decide +kernel
theorem dX9_perform_85 : decode cX9_perform 85 = .ok (.goto (-17), 3) := by decide +kernel
theorem dX9_perform_88 : decode cX9_perform 88 = .ok (.aload_n 0, 1) := by decide +kernel
theorem dX9_perform_89 : decode cX9_perform 89 = .ok (.getfield 54, 3) := by decide +kernel
theorem dX9_perform_92 : decode cX9_perform 92 = .ok (.iload 6, 2) := by decide +kernel
theorem dX9_perform_94 : decode cX9_perform 94 = .ok (.invokevirtual 240, 3) := by decide +kernel
theorem dX9_perform_97 : decode cX9_perform 97 = .ok (.iload 5, 2) := by decide +kernel
theorem dX9_perform_99 : decode cX9_perform 99 = .ok (.iload 6, 2) := by decide +kernel
theorem dX9_perform_101 : decode cX9_perform 101 = .ok (.invokestatic 134, 3) := by decide +kernel
theorem dX9_perform_104 : decode cX9_perform 104 = .ok (.ireturn, 1) := by decide +kernel
theorem dX9_exchange_0 : decode cX9_exchange 0 = .ok (.aload_n 0, 1) := by decide +kernel
theorem dX9_exchange_1 : decode cX9_exchange 1 = .ok (.iload_n 1, 1) := by decide +kernel
theorem dX9_exchange_2 : decode cX9_exchange 2 = .ok (.invokevirtual 172, 3) := by decide +kernel
theorem dX9_exchange_5 : decode cX9_exchange 5 = .ok (.aload_n 0, 1) := by decide +kernel
theorem dX9_exchange_6 : decode cX9_exchange 6 = .ok (.iload_n 2, 1) := by decide +kernel
theorem dX9_exchange_7 : decode cX9_exchange 7 = .ok (.invokevirtual 172, 3) := by decide +kernel
theorem dX9_exchange_10 : decode cX9_exchange 10 = .ok (.ldc 133, 2) := by decide +kernel
theorem dX9_exchange_12 : decode cX9_exchange 12 = .ok (.iload_n 1, 1) := by decide +kernel
theorem dX9_exchange_13 : decode cX9_exchange 13 = .ok (.iconst 1, 1) := by decide +kernel
theorem dX9_exchange_14 : decode cX9_exchange 14 = .ok (.isub, 1) := by decide +kernel
theorem dX9_exchange_15 : decode cX9_exchange 15 = .ok (.iload_n 2, 1) := by decide +kernel
theorem dX9_exchange_16 : decode cX9_exchange 16 = .ok (.iconst 1, 1) := by decide +kernel
theorem dX9_exchange_17 : decode cX9_exchange 17 = .ok (.isub, 1) := by decide +kernel
theorem dX9_exchange_18 : decode cX9_exchange 18 = .ok (.invokestatic 243, 3) := by decide +kernel
theorem dX9_exchange_21 : decode cX9_exchange 21 = .ok (.istore_n 3, 1) := by decide +kernel
theorem dX9_exchange_22 : decode cX9_exchange 22 = .ok (.iload_n 3, 1) := by decide +kernel
theorem dX9_exchange_23 : decode cX9_exchange 23 = .ok (.iload_n 2, 1) := by decide +kernel
theorem dX9_exchange_24 : decode cX9_exchange 24 = .ok (.iconst 1, 1) := by decide +kernel
theorem dX9_exchange_25 : decode cX9_exchange 25 = .ok (.isub, 1) := by decide +kernel
theorem dX9_exchange_26 : decode cX9_exchange 26 = .ok (.iload_n 1, 1) := by decide +kernel
theorem dX9_exchange_27 : decode cX9_exchange 27 = .ok (.iconst 1, 1) := by decide +kernel
theorem dX9_exchange_28 : decode cX9_exchange 28 = .ok (.isub, 1) := by decide +kernel
theorem dX9_exchange_29 : decode cX9_exchange 29 = .ok (.invokestatic 243, 3) := by decide +kernel
theorem dX9_exchange_32 : decode cX9_exchange 32 = .ok (.istore_n 3, 1) := by decide +kernel
theorem dX9_exchange_33 : decode cX9_exchange 33 = .ok (.aload_n 0, 1) := by decide +kernel
theorem dX9_exchange_34 : decode cX9_exchange 34 = .ok (.getfield 54, 3) := by decide +kernel
theorem dX9_exchange_37 : decode cX9_exchange 37 = .ok (.aload_n 0, 1) := by decide +kernel
theorem dX9_exchange_38 : decode cX9_exchange 38 = .ok (.getfield 54, 3) := by decide +kernel
theorem dX9_exchange_41 : decode cX9_exchange 41 = .ok (.invokevirtual 229, 3) := by decide +kernel
theorem dX9_exchange_44 : decode cX9_exchange 44 = .ok (.iload_n 3, 1) := by decide +kernel
theorem dX9_exchange_45 : decode cX9_exchange 45 = .ok (.invokestatic 237, 3) := by decide +kernel
theorem dX9_exchange_48 : decode cX9_exchange 48 = .ok (.invokevirtual 240, 3) := by decide +kernel
theorem dX9_exchange_51 : decode cX9_exchange 51 = .ok (.aload_n 0, 1) := by decide +kernel
theorem dX9_exchange_52 : decode cX9_exchange 52 = .ok (.iload_n 1, 1) := by decide +kernel
theorem dX9_exchange_53 : decode cX9_exchange 53 = .ok (.invokevirtual 247, 3) := by decide +kernel
theorem dX9_exchange_56 : decode cX9_exchange 56 = .ok (.ireturn, 1) := by decide +kernel
theorem dX9_token_0 : decode cX9_token 0 = .ok (.aload_n 0, 1) := by decide +kernel
theorem dX9_token_1 : decode cX9_token 1 = .ok (.iload_n 1, 1) := by decide +kernel
theorem dX9_token_2 : decode cX9_token 2 = .ok (.invokevirtual 172, 3) := by decide +kernel
theorem dX9_token_5 : decode cX9_token 5 = .ok (.aload_n 0, 1) := by decide +kernel
theorem dX9_token_6 : decode cX9_token 6 = .ok (.iload_n 1, 1) := by decide +kernel
theorem dX9_token_7 : decode cX9_token 7 = .ok (.invokevirtual 247, 3) := by decide +kernel
theorem dX9_token_10 : decode cX9_token 10 = .ok (.ireturn, 1) := by decide +kernel
theorem dX9_depth_0 : decode cX9_depth 0 = .ok (.aload_n 0, 1) := by decide +kernel
theorem dX9_depth_1 : decode cX9_depth 1 = .ok (.invokevirtual 250, 3) := by decide +kernel
theorem dX9_depth_4 : decode cX9_depth 4 = .ok (.ireturn, 1) := by decide +kernel
theorem dX9_solve_0 : decode cX9_solve 0 = .ok (.iload_n 1, 1) := by decide +kernel
theorem dX9_solve_1 : decode cX9_solve 1 = .ok (.invokestatic 140, 3) := by decide +kernel
theorem dX9_solve_4 : decode cX9_solve 4 = .ok (.aload_n 0, 1) := by decide +kernel
theorem dX9_solve_5 : decode cX9_solve 5 = .ok (.invokevirtual 250, 3) := by decide +kernel
theorem dX9_solve_8 : decode cX9_solve 8 = .ok (.istore_n 2, 1) := by decide +kernel
theorem dX9_solve_9 : decode cX9_solve 9 = .ok (.aload_n 0, 1) := by decide +kernel
theorem dX9_solve_10 : decode cX9_solve 10 = .ok (.getfield 64, 3) := by decide +kernel
theorem dX9_solve_13 : decode cX9_solve 13 = .ok (.invokevirtual 200, 3) := by decide +kernel
theorem dX9_solve_16 : decode cX9_solve 16 = .ok (.aload_n 0, 1) := by decide +kernel
theorem dX9_solve_17 : decode cX9_solve 17 = .ok (.getfield 54, 3) := by decide +kernel
theorem dX9_solve_20 : decode cX9_solve 20 = .ok (.invokevirtual 229, 3) := by decide +kernel
theorem dX9_solve_23 : decode cX9_solve 23 = .ok (.istore_n 3, 1) := by decide +kernel
theorem dX9_solve_24 : decode cX9_solve 24 = .ok (.iload_n 2, 1) := by decide +kernel
theorem dX9_solve_25 : decode cX9_solve 25 = .ok (.istore 4, 2) := by decide +kernel
theorem dX9_solve_27 : decode cX9_solve 27 = .ok (.iload 4, 2) := by decide +kernel
theorem dX9_solve_29 : decode cX9_solve 29 = .ok (.ifCond .le 44, 3) := by decide +kernel
theorem dX9_solve_32 : decode cX9_solve 32 = .ok (.aload_n 0, 1) := by decide +kernel
theorem dX9_solve_33 : decode cX9_solve 33 = .ok (.iload_n 3, 1) := by decide +kernel
theorem dX9_solve_34 : decode cX9_solve 34 = .ok (.iload 4, 2) := by decide +kernel
theorem dX9_solve_36 : decode cX9_solve 36 = .ok (.iconst 1, 1) := by decide +kernel
theorem dX9_solve_37 : decode cX9_solve 37 = .ok (.isub, 1) := by decide +kernel
theorem dX9_solve_38 : decode cX9_solve 38 = .ok (.invokevirtual 253, 3) := by decide +kernel
theorem dX9_solve_41 : decode cX9_solve 41 = .ok (.istore 5, 2) := by decide +kernel
theorem dX9_solve_43 : decode cX9_solve 43 = .ok (.aload_n 0, 1) := by decide +kernel
theorem dX9_solve_44 : decode cX9_solve 44 = .ok (.getfield 64, 3) := by decide +kernel
theorem dX9_solve_47 : decode cX9_solve 47 = .ok (.iload 5, 2) := by decide +kernel
theorem dX9_solve_49 : decode cX9_solve 49 = .ok (.invokevirtual 256, 3) := by decide +kernel
theorem dX9_solve_52 : decode cX9_solve 52 = .ok (.pop, 1) := by decide +kernel
theorem dX9_solve_53 : decode cX9_solve 53 = .ok (.iload_n 3, 1) := by decide +kernel
theorem dX9_solve_54 : decode cX9_solve 54 = .ok (.aload_n 0, 1) := by decide +kernel
theorem dX9_solve_55 : decode cX9_solve 55 = .ok (.getfield 54, 3) := by decide +kernel
theorem dX9_solve_58 : decode cX9_solve 58 = .ok (.iload 5, 2) := by decide +kernel
theorem dX9_solve_60 : decode cX9_solve 60 = .ok (.invokevirtual 181, 3) := by decide +kernel
theorem dX9_solve_63 : decode cX9_solve 63 = .ok (.invokestatic 237, 3) := by decide +kernel
theorem dX9_solve_66 : decode cX9_solve 66 = .ok (.istore_n 3, 1) := by decide +kernel
theorem dX9_solve_67 : decode cX9_solve 67 = .ok (.iinc 4 (-1), 3) := by decide +kernel
theorem dX9_solve_70 : decode cX9_solve 70 = .ok (.goto (-43), 3) := by decide +kernel
theorem dX9_solve_73 : decode cX9_solve 73 = .ok (.aload_n 0, 1) := by decide +kernel
theorem dX9_solve_74 : decode cX9_solve 74 = .ok (.iload_n 1, 1) := by decide +kernel
theorem dX9_solve_75 : decode cX9_solve 75 = .ok (.invokevirtual 163, 3) := by decide +kernel
theorem dX9_solve_78 : decode cX9_solve 78 = .ok (.ireturn, 1) := by decide +kernel
theorem dX9_countAt_0 : decode cX9_countAt 0 = .ok (.aload_n 0, 1) := by decide +kernel
theorem dX9_countAt_1 : decode cX9_countAt 1 = .ok (.invokevirtual 258, 3) := by decide +kernel
theorem dX9_countAt_4 : decode cX9_countAt 4 = .ok (.iload_n 1, 1) := by decide +kernel
theorem dX9_countAt_5 : decode cX9_countAt 5 = .ok (.invokevirtual 262, 3) := by decide +kernel
theorem dX9_countAt_8 : decode cX9_countAt 8 = .ok (.ireturn, 1) := by decide +kernel
theorem dX9_reachable_0 : decode cX9_reachable 0 = .ok (.aload_n 0, 1) := by decide +kernel
theorem dX9_reachable_1 : decode cX9_reachable 1 = .ok (.invokevirtual 258, 3) := by decide +kernel
theorem dX9_reachable_4 : decode cX9_reachable 4 = .ok (.invokevirtual 265, 3) := by decide +kernel
theorem dX9_reachable_7 : decode cX9_reachable 7 = .ok (.ireturn, 1) := by decide +kernel
theorem dX9_greatestDepth_0 : decode cX9_greatestDepth 0 = .ok (.aload_n 0, 1) := by decide +kernel
theorem dX9_greatestDepth_1 : decode cX9_greatestDepth 1 = .ok (.invokevirtual 258, 3) := by decide +kernel
theorem dX9_greatestDepth_4 : decode cX9_greatestDepth 4 = .ok (.invokevirtual 268, 3) := by decide +kernel
theorem dX9_greatestDepth_7 : decode cX9_greatestDepth 7 = .ok (.ireturn, 1) := by decide +kernel
theorem dX9_averageDepth_0 : decode cX9_averageDepth 0 = .ok (.aload_n 0, 1) := by decide +kernel
theorem dX9_averageDepth_1 : decode cX9_averageDepth 1 = .ok (.invokevirtual 258, 3) := by decide +kernel
theorem dX9_averageDepth_4 : decode cX9_averageDepth 4 = .ok (.astore_n 1, 1) := by decide +kernel
theorem dX9_averageDepth_5 : decode cX9_averageDepth 5 = .ok (.aload_n 1, 1) := by decide +kernel
theorem dX9_averageDepth_6 : decode cX9_averageDepth 6 = .ok (.invokevirtual 271, 3) := by decide +kernel
theorem dX9_averageDepth_9 : decode cX9_averageDepth 9 = .ok (.i2d, 1) := by decide +kernel
theorem dX9_averageDepth_10 : decode cX9_averageDepth 10 = .ok (.aload_n 1, 1) := by decide +kernel
theorem dX9_averageDepth_11 : decode cX9_averageDepth 11 = .ok (.invokevirtual 265, 3) := by decide +kernel
theorem dX9_averageDepth_14 : decode cX9_averageDepth 14 = .ok (.i2d, 1) := by decide +kernel
theorem dX9_averageDepth_15 : decode cX9_averageDepth 15 = .ok (.ddiv, 1) := by decide +kernel
theorem dX9_averageDepth_16 : decode cX9_averageDepth 16 = .ok (.dreturn, 1) := by decide +kernel
theorem dX9_orbit_0 : decode cX9_orbit 0 = .ok (.aload_n 0, 1) := by decide +kernel
theorem dX9_orbit_1 : decode cX9_orbit 1 = .ok (.iload_n 1, 1) := by decide +kernel
theorem dX9_orbit_2 : decode cX9_orbit 2 = .ok (.invokevirtual 172, 3) := by decide +kernel
theorem dX9_orbit_5 : decode cX9_orbit 5 = .ok (.iconst 1, 1) := by decide +kernel
theorem dX9_orbit_6 : decode cX9_orbit 6 = .ok (.iload_n 1, 1) := by decide +kernel
theorem dX9_orbit_7 : decode cX9_orbit 7 = .ok (.iconst 1, 1) := by decide +kernel
theorem dX9_orbit_8 : decode cX9_orbit 8 = .ok (.isub, 1) := by decide +kernel
theorem dX9_orbit_9 : decode cX9_orbit 9 = .ok (.ishl, 1) := by decide +kernel
theorem dX9_orbit_10 : decode cX9_orbit 10 = .ok (.istore_n 2, 1) := by decide +kernel
theorem dX9_orbit_11 : decode cX9_orbit 11 = .ok (.iconst 1, 1) := by decide +kernel
theorem dX9_orbit_12 : decode cX9_orbit 12 = .ok (.istore_n 3, 1) := by decide +kernel
theorem dX9_orbit_13 : decode cX9_orbit 13 = .ok (.iload_n 3, 1) := by decide +kernel
theorem dX9_orbit_14 : decode cX9_orbit 14 = .ok (.aload_n 0, 1) := by decide +kernel
theorem dX9_orbit_15 : decode cX9_orbit 15 = .ok (.getfield 76, 3) := by decide +kernel
theorem dX9_orbit_18 : decode cX9_orbit 18 = .ok (.if_icmp .ge 18, 3) := by decide +kernel
theorem dX9_orbit_21 : decode cX9_orbit 21 = .ok (.aload_n 0, 1) := by decide +kernel
theorem dX9_orbit_22 : decode cX9_orbit 22 = .ok (.getfield 54, 3) := by decide +kernel
theorem dX9_orbit_25 : decode cX9_orbit 25 = .ok (.iload_n 2, 1) := by decide +kernel
theorem dX9_orbit_26 : decode cX9_orbit 26 = .ok (.invokevirtual 274, 3) := by decide +kernel
theorem dX9_orbit_29 : decode cX9_orbit 29 = .ok (.istore_n 2, 1) := by decide +kernel
theorem dX9_orbit_30 : decode cX9_orbit 30 = .ok (.iinc 3 1, 3) := by decide +kernel
theorem dX9_orbit_33 : decode cX9_orbit 33 = .ok (.goto (-20), 3) := by decide +kernel
theorem dX9_orbit_36 : decode cX9_orbit 36 = .ok (.iload_n 2, 1) := by decide +kernel
theorem dX9_orbit_37 : decode cX9_orbit 37 = .ok (.ireturn, 1) := by decide +kernel
theorem dX9_findCommutator_0 : decode cX9_findCommutator 0 = .ok (.iload_n 1, 1) := by decide +kernel
theorem dX9_findCommutator_1 : decode cX9_findCommutator 1 = .ok (.invokestatic 140, 3) := by decide +kernel
theorem dX9_findCommutator_4 : decode cX9_findCommutator 4 = .ok (.aload_n 0, 1) := by decide +kernel
theorem dX9_findCommutator_5 : decode cX9_findCommutator 5 = .ok (.getfield 40, 3) := by decide +kernel
theorem dX9_findCommutator_8 : decode cX9_findCommutator 8 = .ok (.aload_n 0, 1) := by decide +kernel
theorem dX9_findCommutator_9 : decode cX9_findCommutator 9 = .ok (.getfield 54, 3) := by decide +kernel
theorem dX9_findCommutator_12 : decode cX9_findCommutator 12 = .ok (.iload_n 2, 1) := by decide +kernel
theorem dX9_findCommutator_13 : decode cX9_findCommutator 13 = .ok (.aload_n 0, 1) := by decide +kernel
theorem dX9_findCommutator_14 : decode cX9_findCommutator 14 = .ok (.getfield 64, 3) := by decide +kernel
theorem dX9_findCommutator_17 : decode cX9_findCommutator 17 = .ok (.invokevirtual 277, 3) := by decide +kernel
theorem dX9_findCommutator_20 : decode cX9_findCommutator 20 = .ok (.ifCond .ne 14, 3) := by decide +kernel
theorem dX9_findCommutator_23 : decode cX9_findCommutator 23 = .ok (.new 167, 3) := by decide +kernel
theorem dX9_findCommutator_26 : decode cX9_findCommutator 26 = .ok (.dup, 1) := by decide +kernel
theorem dX9_findCommutator_27 : decode cX9_findCommutator 27 = .ok (.ldc_w 281, 3) := by decide +kernel
theorem dX9_findCommutator_30 : decode cX9_findCommutator 30 = .ok (.invokespecial 171, 3) := by decide +kernel
theorem dX9_findCommutator_33 : decode cX9_findCommutator 33 = .ok (.athrow, 1) := by decide +kernel
theorem dX9_findCommutator_34 : decode cX9_findCommutator 34 = .ok (.aload_n 0, 1) := by decide +kernel
theorem dX9_findCommutator_35 : decode cX9_findCommutator 35 = .ok (.iload_n 1, 1) := by decide +kernel
theorem dX9_findCommutator_36 : decode cX9_findCommutator 36 = .ok (.invokevirtual 163, 3) := by decide +kernel
theorem dX9_findCommutator_39 : decode cX9_findCommutator 39 = .ok (.ireturn, 1) := by decide +kernel
theorem dX9_fillShares_0 : decode cX9_fillShares 0 = .ok (.iload_n 1, 1) := by decide +kernel
theorem dX9_fillShares_1 : decode cX9_fillShares 1 = .ok (.invokestatic 283, 3) := by decide +kernel
theorem dX9_fillShares_4 : decode cX9_fillShares 4 = .ok (.aload_n 0, 1) := by decide +kernel
theorem dX9_fillShares_5 : decode cX9_fillShares 5 = .ok (.invokevirtual 258, 3) := by decide +kernel
theorem dX9_fillShares_8 : decode cX9_fillShares 8 = .ok (.astore_n 2, 1) := by decide +kernel
theorem dX9_fillShares_9 : decode cX9_fillShares 9 = .ok (.iconst 0, 1) := by decide +kernel
theorem dX9_fillShares_10 : decode cX9_fillShares 10 = .ok (.istore_n 3, 1) := by decide +kernel
theorem dX9_fillShares_11 : decode cX9_fillShares 11 = .ok (.iload_n 3, 1) := by decide +kernel
theorem dX9_fillShares_12 : decode cX9_fillShares 12 = .ok (.bipush 24, 2) := by decide +kernel
theorem dX9_fillShares_14 : decode cX9_fillShares 14 = .ok (.if_icmp .ge 53, 3) := by decide +kernel
theorem dX9_fillShares_17 : decode cX9_fillShares 17 = .ok (.aload_n 2, 1) := by decide +kernel
theorem dX9_fillShares_18 : decode cX9_fillShares 18 = .ok (.iload_n 3, 1) := by decide +kernel
theorem dX9_fillShares_19 : decode cX9_fillShares 19 = .ok (.invokevirtual 262, 3) := by decide +kernel
theorem dX9_fillShares_22 : decode cX9_fillShares 22 = .ok (.istore 4, 2) := by decide +kernel
theorem dX9_fillShares_24 : decode cX9_fillShares 24 = .ok (.iload_n 1, 1) := by decide +kernel
theorem dX9_fillShares_25 : decode cX9_fillShares 25 = .ok (.ifCond .ne 21, 3) := by decide +kernel
theorem dX9_fillShares_28 : decode cX9_fillShares 28 = .ok (.aload_n 0, 1) := by decide +kernel
theorem dX9_fillShares_29 : decode cX9_fillShares 29 = .ok (.getfield 68, 3) := by decide +kernel
theorem dX9_fillShares_32 : decode cX9_fillShares 32 = .ok (.iload_n 3, 1) := by decide +kernel
theorem dX9_fillShares_33 : decode cX9_fillShares 33 = .ok (.iload 4, 2) := by decide +kernel
theorem dX9_fillShares_35 : decode cX9_fillShares 35 = .ok (.i2f, 1) := by decide +kernel
theorem dX9_fillShares_36 : decode cX9_fillShares 36 = .ok (.aload_n 2, 1) := by decide +kernel
theorem dX9_fillShares_37 : decode cX9_fillShares 37 = .ok (.invokevirtual 265, 3) := by decide +kernel
theorem dX9_fillShares_40 : decode cX9_fillShares 40 = .ok (.i2f, 1) := by decide +kernel
theorem dX9_fillShares_41 : decode cX9_fillShares 41 = .ok (.fdiv, 1) := by decide +kernel
theorem dX9_fillShares_42 : decode cX9_fillShares 42 = .ok (.fastore, 1) := by decide +kernel
theorem dX9_fillShares_43 : decode cX9_fillShares 43 = .ok (.goto 18, 3) := by decide +kernel
theorem dX9_fillShares_46 : decode cX9_fillShares 46 = .ok (.aload_n 0, 1) := by decide +kernel
theorem dX9_fillShares_47 : decode cX9_fillShares 47 = .ok (.getfield 72, 3) := by decide +kernel
theorem dX9_fillShares_50 : decode cX9_fillShares 50 = .ok (.iload_n 3, 1) := by decide +kernel
theorem dX9_fillShares_51 : decode cX9_fillShares 51 = .ok (.iload 4, 2) := by decide +kernel
theorem dX9_fillShares_53 : decode cX9_fillShares 53 = .ok (.i2d, 1) := by decide +kernel
theorem dX9_fillShares_54 : decode cX9_fillShares 54 = .ok (.aload_n 2, 1) := by decide +kernel
theorem dX9_fillShares_55 : decode cX9_fillShares 55 = .ok (.invokevirtual 265, 3) := by decide +kernel
theorem dX9_fillShares_58 : decode cX9_fillShares 58 = .ok (.i2d, 1) := by decide +kernel
theorem dX9_fillShares_59 : decode cX9_fillShares 59 = .ok (.ddiv, 1) := by decide +kernel
theorem dX9_fillShares_60 : decode cX9_fillShares 60 = .ok (.dastore, 1) := by decide +kernel
theorem dX9_fillShares_61 : decode cX9_fillShares 61 = .ok (.iinc 3 1, 3) := by decide +kernel
theorem dX9_fillShares_64 : decode cX9_fillShares 64 = .ok (.goto (-53), 3) := by decide +kernel
theorem dX9_fillShares_67 : decode cX9_fillShares 67 = .ok (.iconst 0, 1) := by decide +kernel
theorem dX9_fillShares_68 : decode cX9_fillShares 68 = .ok (.aload_n 2, 1) := by decide +kernel
theorem dX9_fillShares_69 : decode cX9_fillShares 69 = .ok (.invokevirtual 268, 3) := by decide +kernel
theorem dX9_fillShares_72 : decode cX9_fillShares 72 = .ok (.iconst 1, 1) := by decide +kernel
theorem dX9_fillShares_73 : decode cX9_fillShares 73 = .ok (.iadd, 1) := by decide +kernel
theorem dX9_fillShares_74 : decode cX9_fillShares 74 = .ok (.bipush 24, 2) := by decide +kernel
theorem dX9_fillShares_76 : decode cX9_fillShares 76 = .ok (.isub, 1) := by decide +kernel
theorem dX9_fillShares_77 : decode cX9_fillShares 77 = .ok (.invokestatic 286, 3) := by decide +kernel
theorem dX9_fillShares_80 : decode cX9_fillShares 80 = .ok (.ireturn, 1) := by decide +kernel
theorem dX9_scale_0 : decode cX9_scale 0 = .ok (.iload_n 1, 1) := by decide +kernel
theorem dX9_scale_1 : decode cX9_scale 1 = .ok (.iload_n 2, 1) := by decide +kernel
theorem dX9_scale_2 : decode cX9_scale 2 = .ok (.invokestatic 289, 3) := by decide +kernel
theorem dX9_scale_5 : decode cX9_scale 5 = .ok (.iload_n 3, 1) := by decide +kernel
theorem dX9_scale_6 : decode cX9_scale 6 = .ok (.sipush (-1000), 3) := by decide +kernel
theorem dX9_scale_9 : decode cX9_scale 9 = .ok (.if_icmp .lt 10, 3) := by decide +kernel
theorem dX9_scale_12 : decode cX9_scale 12 = .ok (.iload_n 3, 1) := by decide +kernel
theorem dX9_scale_13 : decode cX9_scale 13 = .ok (.sipush 1000, 3) := by decide +kernel
theorem dX9_scale_16 : decode cX9_scale 16 = .ok (.if_icmp .le 14, 3) := by decide +kernel
theorem dX9_scale_19 : decode cX9_scale 19 = .ok (.new 90, 3) := by decide +kernel
theorem dX9_scale_22 : decode cX9_scale 22 = .ok (.dup, 1) := by decide +kernel
theorem dX9_scale_23 : decode cX9_scale 23 = .ok (.ldc_w 292, 3) := by decide +kernel
theorem dX9_scale_26 : decode cX9_scale 26 = .ok (.invokespecial 94, 3) := by decide +kernel
theorem dX9_scale_29 : decode cX9_scale 29 = .ok (.athrow, 1) := by decide +kernel
theorem dX9_scale_30 : decode cX9_scale 30 = .ok (.iload_n 1, 1) := by decide +kernel
theorem dX9_scale_31 : decode cX9_scale 31 = .ok (.ifCond .ne 12, 3) := by decide +kernel
theorem dX9_scale_34 : decode cX9_scale 34 = .ok (.aload_n 0, 1) := by decide +kernel
theorem dX9_scale_35 : decode cX9_scale 35 = .ok (.iload_n 2, 1) := by decide +kernel
theorem dX9_scale_36 : decode cX9_scale 36 = .ok (.iload_n 3, 1) := by decide +kernel
theorem dX9_scale_37 : decode cX9_scale 37 = .ok (.invokevirtual 294, 3) := by decide +kernel
theorem dX9_scale_40 : decode cX9_scale 40 = .ok (.goto 9, 3) := by decide +kernel
theorem dX9_scale_43 : decode cX9_scale 43 = .ok (.aload_n 0, 1) := by decide +kernel
theorem dX9_scale_44 : decode cX9_scale 44 = .ok (.iload_n 2, 1) := by decide +kernel
theorem dX9_scale_45 : decode cX9_scale 45 = .ok (.iload_n 3, 1) := by decide +kernel
theorem dX9_scale_46 : decode cX9_scale 46 = .ok (.invokevirtual 297, 3) := by decide +kernel
theorem dX9_scale_49 : decode cX9_scale 49 = .ok (.ireturn, 1) := by decide +kernel
theorem dX9_remainder_0 : decode cX9_remainder 0 = .ok (.iload_n 1, 1) := by decide +kernel
theorem dX9_remainder_1 : decode cX9_remainder 1 = .ok (.iload_n 2, 1) := by decide +kernel
theorem dX9_remainder_2 : decode cX9_remainder 2 = .ok (.invokestatic 289, 3) := by decide +kernel
theorem dX9_remainder_5 : decode cX9_remainder 5 = .ok (.iload_n 3, 1) := by decide +kernel
theorem dX9_remainder_6 : decode cX9_remainder 6 = .ok (.ifCond .ne 14, 3) := by decide +kernel
theorem dX9_remainder_9 : decode cX9_remainder 9 = .ok (.new 158, 3) := by decide +kernel
theorem dX9_remainder_12 : decode cX9_remainder 12 = .ok (.dup, 1) := by decide +kernel
theorem dX9_remainder_13 : decode cX9_remainder 13 = .ok (.ldc_w 300, 3) := by decide +kernel
theorem dX9_remainder_16 : decode cX9_remainder 16 = .ok (.invokespecial 162, 3) := by decide +kernel
theorem dX9_remainder_19 : decode cX9_remainder 19 = .ok (.athrow, 1) := by decide +kernel
theorem dX9_remainder_20 : decode cX9_remainder 20 = .ok (.iload_n 1, 1) := by decide +kernel
theorem dX9_remainder_21 : decode cX9_remainder 21 = .ok (.ifCond .ne 19, 3) := by decide +kernel
theorem dX9_remainder_24 : decode cX9_remainder 24 = .ok (.aload_n 0, 1) := by decide +kernel
theorem dX9_remainder_25 : decode cX9_remainder 25 = .ok (.getfield 68, 3) := by decide +kernel
theorem dX9_remainder_28 : decode cX9_remainder 28 = .ok (.iload_n 2, 1) := by decide +kernel
theorem dX9_remainder_29 : decode cX9_remainder 29 = .ok (.faload, 1) := by decide +kernel
theorem dX9_remainder_30 : decode cX9_remainder 30 = .ok (.f2d, 1) := by decide +kernel
theorem dX9_remainder_31 : decode cX9_remainder 31 = .ok (.iload_n 3, 1) := by decide +kernel
theorem dX9_remainder_32 : decode cX9_remainder 32 = .ok (.i2f, 1) := by decide +kernel
theorem dX9_remainder_33 : decode cX9_remainder 33 = .ok (.f2d, 1) := by decide +kernel
theorem dX9_remainder_34 : decode cX9_remainder 34 = .ok (.invokestatic 302, 3) := by decide +kernel
theorem dX9_remainder_37 : decode cX9_remainder 37 = .ok (.goto 14, 3) := by decide +kernel
theorem dX9_remainder_40 : decode cX9_remainder 40 = .ok (.aload_n 0, 1) := by decide +kernel
theorem dX9_remainder_41 : decode cX9_remainder 41 = .ok (.getfield 72, 3) := by decide +kernel
theorem dX9_remainder_44 : decode cX9_remainder 44 = .ok (.iload_n 2, 1) := by decide +kernel
theorem dX9_remainder_45 : decode cX9_remainder 45 = .ok (.daload, 1) := by decide +kernel
theorem dX9_remainder_46 : decode cX9_remainder 46 = .ok (.iload_n 3, 1) := by decide +kernel
theorem dX9_remainder_47 : decode cX9_remainder 47 = .ok (.i2d, 1) := by decide +kernel
theorem dX9_remainder_48 : decode cX9_remainder 48 = .ok (.invokestatic 302, 3) := by decide +kernel
theorem dX9_remainder_51 : decode cX9_remainder 51 = .ok (.dreturn, 1) := by decide +kernel
theorem dX9_snapshot_0 : decode cX9_snapshot 0 = .ok (.aload_n 0, 1) := by decide +kernel
theorem dX9_snapshot_1 : decode cX9_snapshot 1 = .ok (.getfield 58, 3) := by decide +kernel
theorem dX9_snapshot_4 : decode cX9_snapshot 4 = .ok (.aload_n 0, 1) := by decide +kernel
theorem dX9_snapshot_5 : decode cX9_snapshot 5 = .ok (.getfield 54, 3) := by decide +kernel
theorem dX9_snapshot_8 : decode cX9_snapshot 8 = .ok (.invokevirtual 306, 3) := by decide +kernel
theorem dX9_snapshot_11 : decode cX9_snapshot 11 = .ok (.aload_n 0, 1) := by decide +kernel
theorem dX9_snapshot_12 : decode cX9_snapshot 12 = .ok (.iconst 1, 1) := by decide +kernel
theorem dX9_snapshot_13 : decode cX9_snapshot 13 = .ok (.putfield 83, 3) := by decide +kernel
theorem dX9_snapshot_16 : decode cX9_snapshot 16 = .ok (.return_, 1) := by decide +kernel
theorem dX9_restore_0 : decode cX9_restore 0 = .ok (.aload_n 0, 1) := by decide +kernel
theorem dX9_restore_1 : decode cX9_restore 1 = .ok (.getfield 83, 3) := by decide +kernel
theorem dX9_restore_4 : decode cX9_restore 4 = .ok (.ifCond .ne 14, 3) := by decide +kernel
theorem dX9_restore_7 : decode cX9_restore 7 = .ok (.new 106, 3) := by decide +kernel
theorem dX9_restore_10 : decode cX9_restore 10 = .ok (.dup, 1) := by decide +kernel
theorem dX9_restore_11 : decode cX9_restore 11 = .ok (.ldc_w 310, 3) := by decide +kernel
theorem dX9_restore_14 : decode cX9_restore 14 = .ok (.invokespecial 110, 3) := by decide +kernel
theorem dX9_restore_17 : decode cX9_restore 17 = .ok (.athrow, 1) := by decide +kernel
theorem dX9_restore_18 : decode cX9_restore 18 = .ok (.aload_n 0, 1) := by decide +kernel
theorem dX9_restore_19 : decode cX9_restore 19 = .ok (.getfield 54, 3) := by decide +kernel
theorem dX9_restore_22 : decode cX9_restore 22 = .ok (.aload_n 0, 1) := by decide +kernel
theorem dX9_restore_23 : decode cX9_restore 23 = .ok (.getfield 58, 3) := by decide +kernel
theorem dX9_restore_26 : decode cX9_restore 26 = .ok (.invokevirtual 306, 3) := by decide +kernel
theorem dX9_restore_29 : decode cX9_restore 29 = .ok (.aload_n 0, 1) := by decide +kernel
theorem dX9_restore_30 : decode cX9_restore 30 = .ok (.iconst 0, 1) := by decide +kernel
theorem dX9_restore_31 : decode cX9_restore 31 = .ok (.putfield 87, 3) := by decide +kernel
theorem dX9_restore_34 : decode cX9_restore 34 = .ok (.return_, 1) := by decide +kernel
theorem dX9_checkMove_0 : decode cX9_checkMove 0 = .ok (.iload_n 0, 1) := by decide +kernel
theorem dX9_checkMove_1 : decode cX9_checkMove 1 = .ok (.ifCond .lt 8, 3) := by decide +kernel
theorem dX9_checkMove_4 : decode cX9_checkMove 4 = .ok (.iload_n 0, 1) := by decide +kernel
theorem dX9_checkMove_5 : decode cX9_checkMove 5 = .ok (.iconst 5, 1) := by decide +kernel
theorem dX9_checkMove_6 : decode cX9_checkMove 6 = .ok (.if_icmp .lt 14, 3) := by decide +kernel
theorem dX9_checkMove_9 : decode cX9_checkMove 9 = .ok (.new 192, 3) := by decide +kernel
theorem dX9_checkMove_12 : decode cX9_checkMove 12 = .ok (.dup, 1) := by decide +kernel
theorem dX9_checkMove_13 : decode cX9_checkMove 13 = .ok (.ldc_w 312, 3) := by decide +kernel
theorem dX9_checkMove_16 : decode cX9_checkMove 16 = .ok (.invokespecial 196, 3) := by decide +kernel
theorem dX9_checkMove_19 : decode cX9_checkMove 19 = .ok (.athrow, 1) := by decide +kernel
theorem dX9_checkMove_20 : decode cX9_checkMove 20 = .ok (.return_, 1) := by decide +kernel
theorem dX9_checkSlot_0 : decode cX9_checkSlot 0 = .ok (.iload_n 0, 1) := by decide +kernel
theorem dX9_checkSlot_1 : decode cX9_checkSlot 1 = .ok (.ifCond .lt 8, 3) := by decide +kernel
theorem dX9_checkSlot_4 : decode cX9_checkSlot 4 = .ok (.iload_n 0, 1) := by decide +kernel
theorem dX9_checkSlot_5 : decode cX9_checkSlot 5 = .ok (.iconst 4, 1) := by decide +kernel
theorem dX9_checkSlot_6 : decode cX9_checkSlot 6 = .ok (.if_icmp .lt 14, 3) := by decide +kernel
theorem dX9_checkSlot_9 : decode cX9_checkSlot 9 = .ok (.new 192, 3) := by decide +kernel
theorem dX9_checkSlot_12 : decode cX9_checkSlot 12 = .ok (.dup, 1) := by decide +kernel
theorem dX9_checkSlot_13 : decode cX9_checkSlot 13 = .ok (.ldc_w 314, 3) := by decide +kernel
theorem dX9_checkSlot_16 : decode cX9_checkSlot 16 = .ok (.invokespecial 196, 3) := by decide +kernel
theorem dX9_checkSlot_19 : decode cX9_checkSlot 19 = .ok (.athrow, 1) := by decide +kernel
theorem dX9_checkSlot_20 : decode cX9_checkSlot 20 = .ok (.return_, 1) := by decide +kernel
theorem dX9_checkPosition_0 : decode cX9_checkPosition 0 = .ok (.iload_n 1, 1) := by decide +kernel
theorem dX9_checkPosition_1 : decode cX9_checkPosition 1 = .ok (.iconst 1, 1) := by decide +kernel
theorem dX9_checkPosition_2 : decode cX9_checkPosition 2 = .ok (.if_icmp .lt 11, 3) := by decide +kernel
theorem dX9_checkPosition_5 : decode cX9_checkPosition 5 = .ok (.iload_n 1, 1) := by decide +kernel
theorem dX9_checkPosition_6 : decode cX9_checkPosition 6 = .ok (.aload_n 0, 1) := by decide +kernel
theorem dX9_checkPosition_7 : decode cX9_checkPosition 7 = .ok (.getfield 76, 3) := by decide +kernel
theorem dX9_checkPosition_10 : decode cX9_checkPosition 10 = .ok (.if_icmp .le 14, 3) := by decide +kernel
theorem dX9_checkPosition_13 : decode cX9_checkPosition 13 = .ok (.new 192, 3) := by decide +kernel
theorem dX9_checkPosition_16 : decode cX9_checkPosition 16 = .ok (.dup, 1) := by decide +kernel
theorem dX9_checkPosition_17 : decode cX9_checkPosition 17 = .ok (.ldc_w 316, 3) := by decide +kernel
theorem dX9_checkPosition_20 : decode cX9_checkPosition 20 = .ok (.invokespecial 196, 3) := by decide +kernel
theorem dX9_checkPosition_23 : decode cX9_checkPosition 23 = .ok (.athrow, 1) := by decide +kernel
theorem dX9_checkPosition_24 : decode cX9_checkPosition 24 = .ok (.return_, 1) := by decide +kernel
theorem dX9_checkRow_0 : decode cX9_checkRow 0 = .ok (.iload_n 0, 1) := by decide +kernel
theorem dX9_checkRow_1 : decode cX9_checkRow 1 = .ok (.ifCond .eq 19, 3) := by decide +kernel
theorem dX9_checkRow_4 : decode cX9_checkRow 4 = .ok (.iload_n 0, 1) := by decide +kernel
theorem dX9_checkRow_5 : decode cX9_checkRow 5 = .ok (.iconst 1, 1) := by decide +kernel
theorem dX9_checkRow_6 : decode cX9_checkRow 6 = .ok (.if_icmp .eq 14, 3) := by decide +kernel
theorem dX9_checkRow_9 : decode cX9_checkRow 9 = .ok (.new 192, 3) := by decide +kernel
theorem dX9_checkRow_12 : decode cX9_checkRow 12 = .ok (.dup, 1) := by decide +kernel
theorem dX9_checkRow_13 : decode cX9_checkRow 13 = .ok (.ldc_w 318, 3) := by decide +kernel
theorem dX9_checkRow_16 : decode cX9_checkRow 16 = .ok (.invokespecial 196, 3) := by decide +kernel
theorem dX9_checkRow_19 : decode cX9_checkRow 19 = .ok (.athrow, 1) := by decide +kernel
theorem dX9_checkRow_20 : decode cX9_checkRow 20 = .ok (.return_, 1) := by decide +kernel
theorem dX9_checkElement_0 : decode cX9_checkElement 0 = .ok (.iload_n 0, 1) := by decide +kernel
theorem dX9_checkElement_1 : decode cX9_checkElement 1 = .ok (.invokestatic 283, 3) := by decide +kernel
theorem dX9_checkElement_4 : decode cX9_checkElement 4 = .ok (.iload_n 1, 1) := by decide +kernel
theorem dX9_checkElement_5 : decode cX9_checkElement 5 = .ok (.ifCond .lt 9, 3) := by decide +kernel
theorem dX9_checkElement_8 : decode cX9_checkElement 8 = .ok (.iload_n 1, 1) := by decide +kernel
theorem dX9_checkElement_9 : decode cX9_checkElement 9 = .ok (.bipush 24, 2) := by decide +kernel
theorem dX9_checkElement_11 : decode cX9_checkElement 11 = .ok (.if_icmp .lt 14, 3) := by decide +kernel
theorem dX9_checkElement_14 : decode cX9_checkElement 14 = .ok (.new 192, 3) := by decide +kernel
theorem dX9_checkElement_17 : decode cX9_checkElement 17 = .ok (.dup, 1) := by decide +kernel
theorem dX9_checkElement_18 : decode cX9_checkElement 18 = .ok (.ldc_w 320, 3) := by decide +kernel
theorem dX9_checkElement_21 : decode cX9_checkElement 21 = .ok (.invokespecial 196, 3) := by decide +kernel
theorem dX9_checkElement_24 : decode cX9_checkElement 24 = .ok (.athrow, 1) := by decide +kernel
theorem dX9_checkElement_25 : decode cX9_checkElement 25 = .ok (.return_, 1) := by decide +kernel
theorem dX9_keepDraft_0 : decode cX9_keepDraft 0 = .ok (.aload_n 0, 1) := by decide +kernel
theorem dX9_keepDraft_1 : decode cX9_keepDraft 1 = .ok (.getfield 54, 3) := by decide +kernel
theorem dX9_keepDraft_4 : decode cX9_keepDraft 4 = .ok (.iload_n 1, 1) := by decide +kernel
theorem dX9_keepDraft_5 : decode cX9_keepDraft 5 = .ok (.invokevirtual 187, 3) := by decide +kernel
theorem dX9_keepDraft_8 : decode cX9_keepDraft 8 = .ok (.aload_n 0, 1) := by decide +kernel
theorem dX9_keepDraft_9 : decode cX9_keepDraft 9 = .ok (.getfield 64, 3) := by decide +kernel
theorem dX9_keepDraft_12 : decode cX9_keepDraft 12 = .ok (.invokevirtual 322, 3) := by decide +kernel
theorem dX9_keepDraft_15 : decode cX9_keepDraft 15 = .ok (.aload_n 0, 1) := by decide +kernel
theorem dX9_keepDraft_16 : decode cX9_keepDraft 16 = .ok (.getfield 64, 3) := by decide +kernel
theorem dX9_keepDraft_19 : decode cX9_keepDraft 19 = .ok (.invokevirtual 191, 3) := by decide +kernel
theorem dX9_keepDraft_22 : decode cX9_keepDraft 22 = .ok (.ireturn, 1) := by decide +kernel
theorem dX9_tokenOn_0 : decode cX9_tokenOn 0 = .ok (.aload_n 0, 1) := by decide +kernel
theorem dX9_tokenOn_1 : decode cX9_tokenOn 1 = .ok (.getfield 54, 3) := by decide +kernel
theorem dX9_tokenOn_4 : decode cX9_tokenOn 4 = .ok (.invokevirtual 229, 3) := by decide +kernel
theorem dX9_tokenOn_7 : decode cX9_tokenOn 7 = .ok (.invokestatic 226, 3) := by decide +kernel
theorem dX9_tokenOn_10 : decode cX9_tokenOn 10 = .ok (.iload_n 1, 1) := by decide +kernel
theorem dX9_tokenOn_11 : decode cX9_tokenOn 11 = .ok (.iconst 1, 1) := by decide +kernel
theorem dX9_tokenOn_12 : decode cX9_tokenOn 12 = .ok (.isub, 1) := by decide +kernel
theorem dX9_tokenOn_13 : decode cX9_tokenOn 13 = .ok (.invokestatic 184, 3) := by decide +kernel
theorem dX9_tokenOn_16 : decode cX9_tokenOn 16 = .ok (.iconst 1, 1) := by decide +kernel
theorem dX9_tokenOn_17 : decode cX9_tokenOn 17 = .ok (.iadd, 1) := by decide +kernel
theorem dX9_tokenOn_18 : decode cX9_tokenOn 18 = .ok (.ireturn, 1) := by decide +kernel
theorem dX9_currentTable_0 : decode cX9_currentTable 0 = .ok (.aload_n 0, 1) := by decide +kernel
theorem dX9_currentTable_1 : decode cX9_currentTable 1 = .ok (.getfield 87, 3) := by decide +kernel
theorem dX9_currentTable_4 : decode cX9_currentTable 4 = .ok (.ifCond .ne 23, 3) := by decide +kernel
theorem dX9_currentTable_7 : decode cX9_currentTable 7 = .ok (.aload_n 0, 1) := by decide +kernel
theorem dX9_currentTable_8 : decode cX9_currentTable 8 = .ok (.getfield 47, 3) := by decide +kernel
theorem dX9_currentTable_11 : decode cX9_currentTable 11 = .ok (.aload_n 0, 1) := by decide +kernel
theorem dX9_currentTable_12 : decode cX9_currentTable 12 = .ok (.getfield 54, 3) := by decide +kernel
theorem dX9_currentTable_15 : decode cX9_currentTable 15 = .ok (.aload_n 0, 1) := by decide +kernel
theorem dX9_currentTable_16 : decode cX9_currentTable 16 = .ok (.getfield 76, 3) := by decide +kernel
theorem dX9_currentTable_19 : decode cX9_currentTable 19 = .ok (.invokevirtual 325, 3) := by decide +kernel
theorem dX9_currentTable_22 : decode cX9_currentTable 22 = .ok (.aload_n 0, 1) := by decide +kernel
theorem dX9_currentTable_23 : decode cX9_currentTable 23 = .ok (.iconst 1, 1) := by decide +kernel
theorem dX9_currentTable_24 : decode cX9_currentTable 24 = .ok (.putfield 87, 3) := by decide +kernel
theorem dX9_currentTable_27 : decode cX9_currentTable 27 = .ok (.aload_n 0, 1) := by decide +kernel
theorem dX9_currentTable_28 : decode cX9_currentTable 28 = .ok (.getfield 47, 3) := by decide +kernel
theorem dX9_currentTable_31 : decode cX9_currentTable 31 = .ok (.areturn, 1) := by decide +kernel
theorem dX9_presentDepth_0 : decode cX9_presentDepth 0 = .ok (.aload_n 0, 1) := by decide +kernel
theorem dX9_presentDepth_1 : decode cX9_presentDepth 1 = .ok (.invokevirtual 258, 3) := by decide +kernel
theorem dX9_presentDepth_4 : decode cX9_presentDepth 4 = .ok (.aload_n 0, 1) := by decide +kernel
theorem dX9_presentDepth_5 : decode cX9_presentDepth 5 = .ok (.getfield 54, 3) := by decide +kernel
theorem dX9_presentDepth_8 : decode cX9_presentDepth 8 = .ok (.invokevirtual 229, 3) := by decide +kernel
theorem dX9_presentDepth_11 : decode cX9_presentDepth 11 = .ok (.invokevirtual 329, 3) := by decide +kernel
theorem dX9_presentDepth_14 : decode cX9_presentDepth 14 = .ok (.istore_n 1, 1) := by decide +kernel
theorem dX9_presentDepth_15 : decode cX9_presentDepth 15 = .ok (.iload_n 1, 1) := by decide +kernel
theorem dX9_presentDepth_16 : decode cX9_presentDepth 16 = .ok (.iconst (-1), 1) := by decide +kernel
theorem dX9_presentDepth_17 : decode cX9_presentDepth 17 = .ok (.if_icmp .ne 14, 3) := by decide +kernel
theorem dX9_presentDepth_20 : decode cX9_presentDepth 20 = .ok (.new 167, 3) := by decide +kernel
theorem dX9_presentDepth_23 : decode cX9_presentDepth 23 = .ok (.dup, 1) := by decide +kernel
theorem dX9_presentDepth_24 : decode cX9_presentDepth 24 = .ok (.ldc_w 332, 3) := by decide +kernel
theorem dX9_presentDepth_27 : decode cX9_presentDepth 27 = .ok (.invokespecial 171, 3) := by decide +kernel
theorem dX9_presentDepth_30 : decode cX9_presentDepth 30 = .ok (.athrow, 1) := by decide +kernel
theorem dX9_presentDepth_31 : decode cX9_presentDepth 31 = .ok (.iload_n 1, 1) := by decide +kernel
theorem dX9_presentDepth_32 : decode cX9_presentDepth 32 = .ok (.ireturn, 1) := by decide +kernel
theorem dX9_firstLetterTo_0 : decode cX9_firstLetterTo 0 = .ok (.iconst 0, 1) := by decide +kernel
theorem dX9_firstLetterTo_1 : decode cX9_firstLetterTo 1 = .ok (.istore_n 3, 1) := by decide +kernel
theorem dX9_firstLetterTo_2 : decode cX9_firstLetterTo 2 = .ok (.iload_n 3, 1) := by decide +kernel
theorem dX9_firstLetterTo_3 : decode cX9_firstLetterTo 3 = .ok (.bipush 10, 2) := by decide +kernel
theorem dX9_firstLetterTo_5 : decode cX9_firstLetterTo 5 = .ok (.if_icmp .ge 51, 3) := by decide +kernel
theorem dX9_firstLetterTo_8 : decode cX9_firstLetterTo 8 = .ok (.iload_n 1, 1) := by decide +kernel
theorem dX9_firstLetterTo_9 : decode cX9_firstLetterTo 9 = .ok (.aload_n 0, 1) := by decide +kernel
theorem dX9_firstLetterTo_10 : decode cX9_firstLetterTo 10 = .ok (.getfield 54, 3) := by decide +kernel
theorem dX9_firstLetterTo_13 : decode cX9_firstLetterTo 13 = .ok (.iload_n 3, 1) := by decide +kernel
theorem dX9_firstLetterTo_14 : decode cX9_firstLetterTo 14 = .ok (.invokevirtual 181, 3) := by decide +kernel
theorem dX9_firstLetterTo_17 : decode cX9_firstLetterTo 17 = .ok (.invokestatic 237, 3) := by decide +kernel
theorem dX9_firstLetterTo_20 : decode cX9_firstLetterTo 20 = .ok (.istore 4, 2) := by decide +kernel
theorem dX9_firstLetterTo_22 : decode cX9_firstLetterTo 22 = .ok (.aload_n 0, 1) := by decide +kernel
theorem dX9_firstLetterTo_23 : decode cX9_firstLetterTo 23 = .ok (.getfield 54, 3) := by decide +kernel
theorem dX9_firstLetterTo_26 : decode cX9_firstLetterTo 26 = .ok (.iload_n 3, 1) := by decide +kernel
theorem dX9_firstLetterTo_27 : decode cX9_firstLetterTo 27 = .ok (.iconst 2, 1) := by decide +kernel
theorem dX9_firstLetterTo_28 : decode cX9_firstLetterTo 28 = .ok (.idiv, 1) := by decide +kernel
theorem dX9_firstLetterTo_29 : decode cX9_firstLetterTo 29 = .ok (.invokevirtual 175, 3) := by decide +kernel
theorem dX9_firstLetterTo_32 : decode cX9_firstLetterTo 32 = .ok (.ifCond .eq 18, 3) := by decide +kernel
theorem dX9_firstLetterTo_35 : decode cX9_firstLetterTo 35 = .ok (.aload_n 0, 1) := by decide +kernel
theorem dX9_firstLetterTo_36 : decode cX9_firstLetterTo 36 = .ok (.getfield 47, 3) := by decide +kernel
theorem dX9_firstLetterTo_39 : decode cX9_firstLetterTo 39 = .ok (.iload 4, 2) := by decide +kernel
theorem dX9_firstLetterTo_41 : decode cX9_firstLetterTo 41 = .ok (.invokevirtual 329, 3) := by decide +kernel
theorem dX9_firstLetterTo_44 : decode cX9_firstLetterTo 44 = .ok (.iload_n 2, 1) := by decide +kernel
theorem dX9_firstLetterTo_45 : decode cX9_firstLetterTo 45 = .ok (.if_icmp .ne 5, 3) := by decide +kernel
theorem dX9_firstLetterTo_48 : decode cX9_firstLetterTo 48 = .ok (.iload_n 3, 1) := by decide +kernel
theorem dX9_firstLetterTo_49 : decode cX9_firstLetterTo 49 = .ok (.ireturn, 1) := by decide +kernel
theorem dX9_firstLetterTo_50 : decode cX9_firstLetterTo 50 = .ok (.iinc 3 1, 3) := by decide +kernel
theorem dX9_firstLetterTo_53 : decode cX9_firstLetterTo 53 = .ok (.goto (-51), 3) := by decide +kernel
theorem dX9_firstLetterTo_56 : decode cX9_firstLetterTo 56 = .ok (.iconst 0, 1) := by decide +kernel
theorem dX9_firstLetterTo_57 : decode cX9_firstLetterTo 57 = .ok (.ireturn, 1) := by decide +kernel
theorem dX9_scaleFloat_0 : decode cX9_scaleFloat 0 = .ok (.aload_n 0, 1) := by decide +kernel
theorem dX9_scaleFloat_1 : decode cX9_scaleFloat 1 = .ok (.getfield 68, 3) := by decide +kernel
theorem dX9_scaleFloat_4 : decode cX9_scaleFloat 4 = .ok (.iload_n 1, 1) := by decide +kernel
theorem dX9_scaleFloat_5 : decode cX9_scaleFloat 5 = .ok (.faload, 1) := by decide +kernel
theorem dX9_scaleFloat_6 : decode cX9_scaleFloat 6 = .ok (.iload_n 2, 1) := by decide +kernel
theorem dX9_scaleFloat_7 : decode cX9_scaleFloat 7 = .ok (.i2f, 1) := by decide +kernel
theorem dX9_scaleFloat_8 : decode cX9_scaleFloat 8 = .ok (.fmul, 1) := by decide +kernel
theorem dX9_scaleFloat_9 : decode cX9_scaleFloat 9 = .ok (.fstore_n 3, 1) := by decide +kernel
theorem dX9_scaleFloat_10 : decode cX9_scaleFloat 10 = .ok (.fload_n 3, 1) := by decide +kernel
theorem dX9_scaleFloat_11 : decode cX9_scaleFloat 11 = .ok (.fconst 0, 1) := by decide +kernel
theorem dX9_scaleFloat_12 : decode cX9_scaleFloat 12 = .ok (.fcmp .g, 1) := by decide +kernel
theorem dX9_scaleFloat_13 : decode cX9_scaleFloat 13 = .ok (.ifCond .ge 8, 3) := by decide +kernel
theorem dX9_scaleFloat_16 : decode cX9_scaleFloat 16 = .ok (.fload_n 3, 1) := by decide +kernel
theorem dX9_scaleFloat_17 : decode cX9_scaleFloat 17 = .ok (.fneg, 1) := by decide +kernel
theorem dX9_scaleFloat_18 : decode cX9_scaleFloat 18 = .ok (.goto 4, 3) := by decide +kernel
theorem dX9_scaleFloat_21 : decode cX9_scaleFloat 21 = .ok (.fload_n 3, 1) := by decide +kernel
theorem dX9_scaleFloat_22 : decode cX9_scaleFloat 22 = .ok (.fstore 4, 2) := by decide +kernel
theorem dX9_scaleFloat_24 : decode cX9_scaleFloat 24 = .ok (.fload 4, 2) := by decide +kernel
theorem dX9_scaleFloat_26 : decode cX9_scaleFloat 26 = .ok (.ldc_w 334, 3) := by decide +kernel
theorem dX9_scaleFloat_29 : decode cX9_scaleFloat 29 = .ok (.fcmp .l, 1) := by decide +kernel
theorem dX9_scaleFloat_30 : decode cX9_scaleFloat 30 = .ok (.ifCond .le 14, 3) := by decide +kernel
theorem dX9_scaleFloat_33 : decode cX9_scaleFloat 33 = .ok (.new 158, 3) := by decide +kernel
theorem dX9_scaleFloat_36 : decode cX9_scaleFloat 36 = .ok (.dup, 1) := by decide +kernel
theorem dX9_scaleFloat_37 : decode cX9_scaleFloat 37 = .ok (.ldc_w 335, 3) := by decide +kernel
theorem dX9_scaleFloat_40 : decode cX9_scaleFloat 40 = .ok (.invokespecial 162, 3) := by decide +kernel
theorem dX9_scaleFloat_43 : decode cX9_scaleFloat 43 = .ok (.athrow, 1) := by decide +kernel
theorem dX9_scaleFloat_44 : decode cX9_scaleFloat 44 = .ok (.aload_n 0, 1) := by decide +kernel
theorem dX9_scaleFloat_45 : decode cX9_scaleFloat 45 = .ok (.getfield 68, 3) := by decide +kernel
theorem dX9_scaleFloat_48 : decode cX9_scaleFloat 48 = .ok (.iload_n 1, 1) := by decide +kernel
theorem dX9_scaleFloat_49 : decode cX9_scaleFloat 49 = .ok (.fload_n 3, 1) := by decide +kernel
theorem dX9_scaleFloat_50 : decode cX9_scaleFloat 50 = .ok (.fastore, 1) := by decide +kernel
theorem dX9_scaleFloat_51 : decode cX9_scaleFloat 51 = .ok (.fload_n 3, 1) := by decide +kernel
theorem dX9_scaleFloat_52 : decode cX9_scaleFloat 52 = .ok (.f2i, 1) := by decide +kernel
theorem dX9_scaleFloat_53 : decode cX9_scaleFloat 53 = .ok (.ireturn, 1) := by decide +kernel
theorem dX9_scaleDouble_0 : decode cX9_scaleDouble 0 = .ok (.aload_n 0, 1) := by decide +kernel
theorem dX9_scaleDouble_1 : decode cX9_scaleDouble 1 = .ok (.getfield 72, 3) := by decide +kernel
theorem dX9_scaleDouble_4 : decode cX9_scaleDouble 4 = .ok (.iload_n 1, 1) := by decide +kernel
theorem dX9_scaleDouble_5 : decode cX9_scaleDouble 5 = .ok (.daload, 1) := by decide +kernel
theorem dX9_scaleDouble_6 : decode cX9_scaleDouble 6 = .ok (.iload_n 2, 1) := by decide +kernel
theorem dX9_scaleDouble_7 : decode cX9_scaleDouble 7 = .ok (.i2d, 1) := by decide +kernel
theorem dX9_scaleDouble_8 : decode cX9_scaleDouble 8 = .ok (.dmul, 1) := by decide +kernel
theorem dX9_scaleDouble_9 : decode cX9_scaleDouble 9 = .ok (.dstore_n 3, 1) := by decide +kernel
theorem dX9_scaleDouble_10 : decode cX9_scaleDouble 10 = .ok (.dload_n 3, 1) := by decide +kernel
theorem dX9_scaleDouble_11 : decode cX9_scaleDouble 11 = .ok (.dconst 0, 1) := by decide +kernel
theorem dX9_scaleDouble_12 : decode cX9_scaleDouble 12 = .ok (.dcmp .g, 1) := by decide +kernel
theorem dX9_scaleDouble_13 : decode cX9_scaleDouble 13 = .ok (.ifCond .ge 8, 3) := by decide +kernel
theorem dX9_scaleDouble_16 : decode cX9_scaleDouble 16 = .ok (.dload_n 3, 1) := by decide +kernel
theorem dX9_scaleDouble_17 : decode cX9_scaleDouble 17 = .ok (.dneg, 1) := by decide +kernel
theorem dX9_scaleDouble_18 : decode cX9_scaleDouble 18 = .ok (.goto 4, 3) := by decide +kernel
theorem dX9_scaleDouble_21 : decode cX9_scaleDouble 21 = .ok (.dload_n 3, 1) := by decide +kernel
theorem dX9_scaleDouble_22 : decode cX9_scaleDouble 22 = .ok (.dstore 5, 2) := by decide +kernel
theorem dX9_scaleDouble_24 : decode cX9_scaleDouble 24 = .ok (.dload 5, 2) := by decide +kernel
theorem dX9_scaleDouble_26 : decode cX9_scaleDouble 26 = .ok (.ldc2_w 337, 3) := by decide +kernel
theorem dX9_scaleDouble_29 : decode cX9_scaleDouble 29 = .ok (.dcmp .l, 1) := by decide +kernel
theorem dX9_scaleDouble_30 : decode cX9_scaleDouble 30 = .ok (.ifCond .le 14, 3) := by decide +kernel
theorem dX9_scaleDouble_33 : decode cX9_scaleDouble 33 = .ok (.new 158, 3) := by decide +kernel
theorem dX9_scaleDouble_36 : decode cX9_scaleDouble 36 = .ok (.dup, 1) := by decide +kernel
theorem dX9_scaleDouble_37 : decode cX9_scaleDouble 37 = .ok (.ldc_w 335, 3) := by decide +kernel
theorem dX9_scaleDouble_40 : decode cX9_scaleDouble 40 = .ok (.invokespecial 162, 3) := by decide +kernel
theorem dX9_scaleDouble_43 : decode cX9_scaleDouble 43 = .ok (.athrow, 1) := by decide +kernel
theorem dX9_scaleDouble_44 : decode cX9_scaleDouble 44 = .ok (.aload_n 0, 1) := by decide +kernel
theorem dX9_scaleDouble_45 : decode cX9_scaleDouble 45 = .ok (.getfield 72, 3) := by decide +kernel
theorem dX9_scaleDouble_48 : decode cX9_scaleDouble 48 = .ok (.iload_n 1, 1) := by decide +kernel
theorem dX9_scaleDouble_49 : decode cX9_scaleDouble 49 = .ok (.dload_n 3, 1) := by decide +kernel
theorem dX9_scaleDouble_50 : decode cX9_scaleDouble 50 = .ok (.dastore, 1) := by decide +kernel
theorem dX9_scaleDouble_51 : decode cX9_scaleDouble 51 = .ok (.dload_n 3, 1) := by decide +kernel
theorem dX9_scaleDouble_52 : decode cX9_scaleDouble 52 = .ok (.d2i, 1) := by decide +kernel
theorem dX9_scaleDouble_53 : decode cX9_scaleDouble 53 = .ok (.ireturn, 1) := by decide +kernel
theorem dX9_remainderOf_0 : decode cX9_remainderOf 0 = .ok (.dload_n 0, 1) := by decide +kernel
theorem dX9_remainderOf_1 : decode cX9_remainderOf 1 = .ok (.dconst 0, 1) := by decide +kernel
theorem dX9_remainderOf_2 : decode cX9_remainderOf 2 = .ok (.dcmp .g, 1) := by decide +kernel
theorem dX9_remainderOf_3 : decode cX9_remainderOf 3 = .ok (.ifCond .ge 8, 3) := by decide +kernel
theorem dX9_remainderOf_6 : decode cX9_remainderOf 6 = .ok (.dload_n 0, 1) := by decide +kernel
theorem dX9_remainderOf_7 : decode cX9_remainderOf 7 = .ok (.dneg, 1) := by decide +kernel
theorem dX9_remainderOf_8 : decode cX9_remainderOf 8 = .ok (.goto 4, 3) := by decide +kernel
theorem dX9_remainderOf_11 : decode cX9_remainderOf 11 = .ok (.dload_n 0, 1) := by decide +kernel
theorem dX9_remainderOf_12 : decode cX9_remainderOf 12 = .ok (.dstore 4, 2) := by decide +kernel
theorem dX9_remainderOf_14 : decode cX9_remainderOf 14 = .ok (.dload_n 2, 1) := by decide +kernel
theorem dX9_remainderOf_15 : decode cX9_remainderOf 15 = .ok (.dconst 0, 1) := by decide +kernel
theorem dX9_remainderOf_16 : decode cX9_remainderOf 16 = .ok (.dcmp .g, 1) := by decide +kernel
theorem dX9_remainderOf_17 : decode cX9_remainderOf 17 = .ok (.ifCond .ge 8, 3) := by decide +kernel
theorem dX9_remainderOf_20 : decode cX9_remainderOf 20 = .ok (.dload_n 2, 1) := by decide +kernel
theorem dX9_remainderOf_21 : decode cX9_remainderOf 21 = .ok (.dneg, 1) := by decide +kernel
theorem dX9_remainderOf_22 : decode cX9_remainderOf 22 = .ok (.goto 4, 3) := by decide +kernel
theorem dX9_remainderOf_25 : decode cX9_remainderOf 25 = .ok (.dload_n 2, 1) := by decide +kernel
theorem dX9_remainderOf_26 : decode cX9_remainderOf 26 = .ok (.dstore 6, 2) := by decide +kernel
theorem dX9_remainderOf_28 : decode cX9_remainderOf 28 = .ok (.dload 4, 2) := by decide +kernel
theorem dX9_remainderOf_30 : decode cX9_remainderOf 30 = .ok (.dload 6, 2) := by decide +kernel
theorem dX9_remainderOf_32 : decode cX9_remainderOf 32 = .ok (.dcmp .g, 1) := by decide +kernel
theorem dX9_remainderOf_33 : decode cX9_remainderOf 33 = .ok (.ifCond .ge 5, 3) := by decide +kernel
theorem dX9_remainderOf_36 : decode cX9_remainderOf 36 = .ok (.dload_n 0, 1) := by decide +kernel
theorem dX9_remainderOf_37 : decode cX9_remainderOf 37 = .ok (.dreturn, 1) := by decide +kernel
theorem dX9_remainderOf_38 : decode cX9_remainderOf 38 = .ok (.dload 4, 2) := by decide +kernel
theorem dX9_remainderOf_40 : decode cX9_remainderOf 40 = .ok (.dload 4, 2) := by decide +kernel
theorem dX9_remainderOf_42 : decode cX9_remainderOf 42 = .ok (.dload 6, 2) := by decide +kernel
theorem dX9_remainderOf_44 : decode cX9_remainderOf 44 = .ok (.ddiv, 1) := by decide +kernel
theorem dX9_remainderOf_45 : decode cX9_remainderOf 45 = .ok (.d2i, 1) := by decide +kernel
theorem dX9_remainderOf_46 : decode cX9_remainderOf 46 = .ok (.i2d, 1) := by decide +kernel
theorem dX9_remainderOf_47 : decode cX9_remainderOf 47 = .ok (.dload 6, 2) := by decide +kernel
theorem dX9_remainderOf_49 : decode cX9_remainderOf 49 = .ok (.dmul, 1) := by decide +kernel
theorem dX9_remainderOf_50 : decode cX9_remainderOf 50 = .ok (.dsub, 1) := by decide +kernel
theorem dX9_remainderOf_51 : decode cX9_remainderOf 51 = .ok (.dstore 8, 2) := by decide +kernel
theorem dX9_remainderOf_53 : decode cX9_remainderOf 53 = .ok (.dload_n 0, 1) := by decide +kernel
theorem dX9_remainderOf_54 : decode cX9_remainderOf 54 = .ok (.dconst 0, 1) := by decide +kernel
theorem dX9_remainderOf_55 : decode cX9_remainderOf 55 = .ok (.dcmp .g, 1) := by decide +kernel
theorem dX9_remainderOf_56 : decode cX9_remainderOf 56 = .ok (.ifCond .ge 9, 3) := by decide +kernel
theorem dX9_remainderOf_59 : decode cX9_remainderOf 59 = .ok (.dload 8, 2) := by decide +kernel
theorem dX9_remainderOf_61 : decode cX9_remainderOf 61 = .ok (.dneg, 1) := by decide +kernel
theorem dX9_remainderOf_62 : decode cX9_remainderOf 62 = .ok (.goto 5, 3) := by decide +kernel
theorem dX9_remainderOf_65 : decode cX9_remainderOf 65 = .ok (.dload 8, 2) := by decide +kernel
theorem dX9_remainderOf_67 : decode cX9_remainderOf 67 = .ok (.dreturn, 1) := by decide +kernel
theorem dX10_init_0 : decode cX10_init 0 = .ok (.aload_n 0, 1) := by decide +kernel
theorem dX10_init_1 : decode cX10_init 1 = .ok (.invokespecial 1, 3) := by decide +kernel
theorem dX10_init_4 : decode cX10_init 4 = .ok (.aload_n 0, 1) := by decide +kernel
theorem dX10_init_5 : decode cX10_init 5 = .ok (.iconst 3, 1) := by decide +kernel
theorem dX10_init_6 : decode cX10_init 6 = .ok (.putfield 7, 3) := by decide +kernel
theorem dX10_init_9 : decode cX10_init 9 = .ok (.aload_n 0, 1) := by decide +kernel
theorem dX10_init_10 : decode cX10_init 10 = .ok (.bipush 8, 2) := by decide +kernel
theorem dX10_init_12 : decode cX10_init 12 = .ok (.newarray .int, 2) := by decide +kernel
theorem dX10_init_14 : decode cX10_init 14 = .ok (.dup, 1) := by decide +kernel
theorem dX10_init_15 : decode cX10_init 15 = .ok (.iconst 0, 1) := by decide +kernel
theorem dX10_init_16 : decode cX10_init 16 = .ok (.iconst 0, 1) := by decide +kernel
theorem dX10_init_17 : decode cX10_init 17 = .ok (.iastore, 1) := by decide +kernel
theorem dX10_init_18 : decode cX10_init 18 = .ok (.dup, 1) := by decide +kernel
theorem dX10_init_19 : decode cX10_init 19 = .ok (.iconst 1, 1) := by decide +kernel
theorem dX10_init_20 : decode cX10_init 20 = .ok (.iconst 1, 1) := by decide +kernel
theorem dX10_init_21 : decode cX10_init 21 = .ok (.iastore, 1) := by decide +kernel
theorem dX10_init_22 : decode cX10_init 22 = .ok (.dup, 1) := by decide +kernel
theorem dX10_init_23 : decode cX10_init 23 = .ok (.iconst 2, 1) := by decide +kernel
theorem dX10_init_24 : decode cX10_init 24 = .ok (.iconst 2, 1) := by decide +kernel
theorem dX10_init_25 : decode cX10_init 25 = .ok (.iastore, 1) := by decide +kernel
theorem dX10_init_26 : decode cX10_init 26 = .ok (.dup, 1) := by decide +kernel
theorem dX10_init_27 : decode cX10_init 27 = .ok (.iconst 3, 1) := by decide +kernel
theorem dX10_init_28 : decode cX10_init 28 = .ok (.iconst 3, 1) := by decide +kernel
theorem dX10_init_29 : decode cX10_init 29 = .ok (.iastore, 1) := by decide +kernel
theorem dX10_init_30 : decode cX10_init 30 = .ok (.dup, 1) := by decide +kernel
theorem dX10_init_31 : decode cX10_init 31 = .ok (.iconst 4, 1) := by decide +kernel
theorem dX10_init_32 : decode cX10_init 32 = .ok (.iconst 4, 1) := by decide +kernel
theorem dX10_init_33 : decode cX10_init 33 = .ok (.iastore, 1) := by decide +kernel
theorem dX10_init_34 : decode cX10_init 34 = .ok (.dup, 1) := by decide +kernel
theorem dX10_init_35 : decode cX10_init 35 = .ok (.iconst 5, 1) := by decide +kernel
theorem dX10_init_36 : decode cX10_init 36 = .ok (.iconst 5, 1) := by decide +kernel
theorem dX10_init_37 : decode cX10_init 37 = .ok (.iastore, 1) := by decide +kernel
theorem dX10_init_38 : decode cX10_init 38 = .ok (.dup, 1) := by decide +kernel
theorem dX10_init_39 : decode cX10_init 39 = .ok (.bipush 6, 2) := by decide +kernel
theorem dX10_init_41 : decode cX10_init 41 = .ok (.bipush 6, 2) := by decide +kernel
theorem dX10_init_43 : decode cX10_init 43 = .ok (.iastore, 1) := by decide +kernel
theorem dX10_init_44 : decode cX10_init 44 = .ok (.dup, 1) := by decide +kernel
theorem dX10_init_45 : decode cX10_init 45 = .ok (.bipush 7, 2) := by decide +kernel
theorem dX10_init_47 : decode cX10_init 47 = .ok (.bipush 7, 2) := by decide +kernel
theorem dX10_init_49 : decode cX10_init 49 = .ok (.iastore, 1) := by decide +kernel
theorem dX10_init_50 : decode cX10_init 50 = .ok (.putfield 13, 3) := by decide +kernel
theorem dX10_init_53 : decode cX10_init 53 = .ok (.aload_n 0, 1) := by decide +kernel
theorem dX10_init_54 : decode cX10_init 54 = .ok (.iconst 5, 1) := by decide +kernel
theorem dX10_init_55 : decode cX10_init 55 = .ok (.newarray .boolean, 2) := by decide +kernel
theorem dX10_init_57 : decode cX10_init 57 = .ok (.putfield 17, 3) := by decide +kernel
theorem dX10_init_60 : decode cX10_init 60 = .ok (.aload_n 0, 1) := by decide +kernel
theorem dX10_init_61 : decode cX10_init 61 = .ok (.bipush 80, 2) := by decide +kernel
theorem dX10_init_63 : decode cX10_init 63 = .ok (.newarray .int, 2) := by decide +kernel
theorem dX10_init_65 : decode cX10_init 65 = .ok (.putfield 21, 3) := by decide +kernel
theorem dX10_init_68 : decode cX10_init 68 = .ok (.aload_n 0, 1) := by decide +kernel
theorem dX10_init_69 : decode cX10_init 69 = .ok (.iconst 4, 1) := by decide +kernel
theorem dX10_init_70 : decode cX10_init 70 = .ok (.newarray .int, 2) := by decide +kernel
theorem dX10_init_72 : decode cX10_init 72 = .ok (.putfield 24, 3) := by decide +kernel
theorem dX10_init_75 : decode cX10_init 75 = .ok (.aload_n 0, 1) := by decide +kernel
theorem dX10_init_76 : decode cX10_init 76 = .ok (.sipush 800, 3) := by decide +kernel
theorem dX10_init_79 : decode cX10_init 79 = .ok (.newarray .int, 2) := by decide +kernel
theorem dX10_init_81 : decode cX10_init 81 = .ok (.putfield 27, 3) := by decide +kernel
theorem dX10_init_84 : decode cX10_init 84 = .ok (.aload_n 0, 1) := by decide +kernel
theorem dX10_init_85 : decode cX10_init 85 = .ok (.bipush 40, 2) := by decide +kernel
theorem dX10_init_87 : decode cX10_init 87 = .ok (.newarray .char, 2) := by decide +kernel
theorem dX10_init_89 : decode cX10_init 89 = .ok (.putfield 30, 3) := by decide +kernel
theorem dX10_init_92 : decode cX10_init 92 = .ok (.aload_n 0, 1) := by decide +kernel
theorem dX10_init_93 : decode cX10_init 93 = .ok (.iconst (-1), 1) := by decide +kernel
theorem dX10_init_94 : decode cX10_init 94 = .ok (.putfield 34, 3) := by decide +kernel
theorem dX10_init_97 : decode cX10_init 97 = .ok (.aload_n 0, 1) := by decide +kernel
theorem dX10_init_98 : decode cX10_init 98 = .ok (.bipush 24, 2) := by decide +kernel
theorem dX10_init_100 : decode cX10_init 100 = .ok (.newarray .float, 2) := by decide +kernel
theorem dX10_init_102 : decode cX10_init 102 = .ok (.putfield 37, 3) := by decide +kernel
theorem dX10_init_105 : decode cX10_init 105 = .ok (.aload_n 0, 1) := by decide +kernel
theorem dX10_init_106 : decode cX10_init 106 = .ok (.bipush 24, 2) := by decide +kernel
theorem dX10_init_108 : decode cX10_init 108 = .ok (.newarray .double, 2) := by decide +kernel
theorem dX10_init_110 : decode cX10_init 110 = .ok (.putfield 41, 3) := by decide +kernel
theorem dX10_init_113 : decode cX10_init 113 = .ok (.aload_n 0, 1) := by decide +kernel
theorem dX10_init_114 : decode cX10_init 114 = .ok (.bipush 8, 2) := by decide +kernel
theorem dX10_init_116 : decode cX10_init 116 = .ok (.newarray .int, 2) := by decide +kernel
theorem dX10_init_118 : decode cX10_init 118 = .ok (.putfield 45, 3) := by decide +kernel
theorem dX10_init_121 : decode cX10_init 121 = .ok (.aload_n 0, 1) := by decide +kernel
theorem dX10_init_122 : decode cX10_init 122 = .ok (.iconst 5, 1) := by decide +kernel
theorem dX10_init_123 : decode cX10_init 123 = .ok (.newarray .boolean, 2) := by decide +kernel
theorem dX10_init_125 : decode cX10_init 125 = .ok (.putfield 48, 3) := by decide +kernel
theorem dX10_init_128 : decode cX10_init 128 = .ok (.aload_n 0, 1) := by decide +kernel
theorem dX10_init_129 : decode cX10_init 129 = .ok (.bipush 80, 2) := by decide +kernel
theorem dX10_init_131 : decode cX10_init 131 = .ok (.newarray .int, 2) := by decide +kernel
theorem dX10_init_133 : decode cX10_init 133 = .ok (.putfield 51, 3) := by decide +kernel
theorem dX10_init_136 : decode cX10_init 136 = .ok (.aload_n 0, 1) := by decide +kernel
theorem dX10_init_137 : decode cX10_init 137 = .ok (.iconst 4, 1) := by decide +kernel
theorem dX10_init_138 : decode cX10_init 138 = .ok (.newarray .int, 2) := by decide +kernel
theorem dX10_init_140 : decode cX10_init 140 = .ok (.putfield 54, 3) := by decide +kernel
theorem dX10_init_143 : decode cX10_init 143 = .ok (.aload_n 0, 1) := by decide +kernel
theorem dX10_init_144 : decode cX10_init 144 = .ok (.sipush 800, 3) := by decide +kernel
theorem dX10_init_147 : decode cX10_init 147 = .ok (.newarray .int, 2) := by decide +kernel
theorem dX10_init_149 : decode cX10_init 149 = .ok (.putfield 57, 3) := by decide +kernel
theorem dX10_init_152 : decode cX10_init 152 = .ok (.aload_n 0, 1) := by decide +kernel
theorem dX10_init_153 : decode cX10_init 153 = .ok (.bipush 8, 2) := by decide +kernel
theorem dX10_init_155 : decode cX10_init 155 = .ok (.newarray .int, 2) := by decide +kernel
theorem dX10_init_157 : decode cX10_init 157 = .ok (.putfield 60, 3) := by decide +kernel
theorem dX10_init_160 : decode cX10_init 160 = .ok (.aload_n 0, 1) := by decide +kernel
theorem dX10_init_161 : decode cX10_init 161 = .ok (.bipush 8, 2) := by decide +kernel
theorem dX10_init_163 : decode cX10_init 163 = .ok (.newarray .boolean, 2) := by decide +kernel
theorem dX10_init_165 : decode cX10_init 165 = .ok (.putfield 63, 3) := by decide +kernel
theorem dX10_init_168 : decode cX10_init 168 = .ok (.aload_n 0, 1) := by decide +kernel
theorem dX10_init_169 : decode cX10_init 169 = .ok (.sipush 300, 3) := by decide +kernel
theorem dX10_init_172 : decode cX10_init 172 = .ok (.newarray .int, 2) := by decide +kernel
theorem dX10_init_174 : decode cX10_init 174 = .ok (.putfield 66, 3) := by decide +kernel
theorem dX10_init_177 : decode cX10_init 177 = .ok (.aload_n 0, 1) := by decide +kernel
theorem dX10_init_178 : decode cX10_init 178 = .ok (.bipush 8, 2) := by decide +kernel
theorem dX10_init_180 : decode cX10_init 180 = .ok (.newarray .int, 2) := by decide +kernel
theorem dX10_init_182 : decode cX10_init 182 = .ok (.putfield 69, 3) := by decide +kernel
theorem dX10_init_185 : decode cX10_init 185 = .ok (.aload_n 0, 1) := by decide +kernel
theorem dX10_init_186 : decode cX10_init 186 = .ok (.sipush 5040, 3) := by decide +kernel
theorem dX10_init_189 : decode cX10_init 189 = .ok (.newarray .int, 2) := by decide +kernel
theorem dX10_init_191 : decode cX10_init 191 = .ok (.putfield 72, 3) := by decide +kernel
theorem dX10_init_194 : decode cX10_init 194 = .ok (.aload_n 0, 1) := by decide +kernel
theorem dX10_init_195 : decode cX10_init 195 = .ok (.sipush 5040, 3) := by decide +kernel
theorem dX10_init_198 : decode cX10_init 198 = .ok (.newarray .int, 2) := by decide +kernel
theorem dX10_init_200 : decode cX10_init 200 = .ok (.putfield 75, 3) := by decide +kernel
theorem dX10_init_203 : decode cX10_init 203 = .ok (.aload_n 0, 1) := by decide +kernel
theorem dX10_init_204 : decode cX10_init 204 = .ok (.bipush 8, 2) := by decide +kernel
theorem dX10_init_206 : decode cX10_init 206 = .ok (.newarray .int, 2) := by decide +kernel
theorem dX10_init_208 : decode cX10_init 208 = .ok (.putfield 78, 3) := by decide +kernel
theorem dX10_init_211 : decode cX10_init 211 = .ok (.aload_n 0, 1) := by decide +kernel
theorem dX10_init_212 : decode cX10_init 212 = .ok (.bipush 8, 2) := by decide +kernel
theorem dX10_init_214 : decode cX10_init 214 = .ok (.newarray .int, 2) := by decide +kernel
theorem dX10_init_216 : decode cX10_init 216 = .ok (.putfield 81, 3) := by decide +kernel
theorem dX10_init_219 : decode cX10_init 219 = .ok (.aload_n 0, 1) := by decide +kernel
theorem dX10_init_220 : decode cX10_init 220 = .ok (.sipush 5041, 3) := by decide +kernel
theorem dX10_init_223 : decode cX10_init 223 = .ok (.newarray .int, 2) := by decide +kernel
theorem dX10_init_225 : decode cX10_init 225 = .ok (.putfield 84, 3) := by decide +kernel
theorem dX10_init_228 : decode cX10_init 228 = .ok (.return_, 1) := by decide +kernel
theorem dX10_thrown_0 : decode cX10_thrown 0 = .ok (.aload_n 0, 1) := by decide +kernel
theorem dX10_thrown_1 : decode cX10_thrown 1 = .ok (.getfield 87, 3) := by decide +kernel
theorem dX10_thrown_4 : decode cX10_thrown 4 = .ok (.ireturn, 1) := by decide +kernel
theorem dX10_in_0 : decode cX10_in 0 = .ok (.iload_n 0, 1) := by decide +kernel
theorem dX10_in_1 : decode cX10_in 1 = .ok (.iload_n 1, 1) := by decide +kernel
theorem dX10_in_2 : decode cX10_in 2 = .ok (.if_icmp .lt 12, 3) := by decide +kernel
theorem dX10_in_5 : decode cX10_in 5 = .ok (.iload_n 0, 1) := by decide +kernel
theorem dX10_in_6 : decode cX10_in 6 = .ok (.iload_n 2, 1) := by decide +kernel
theorem dX10_in_7 : decode cX10_in 7 = .ok (.if_icmp .gt 7, 3) := by decide +kernel
theorem dX10_in_10 : decode cX10_in 10 = .ok (.iconst 1, 1) := by decide +kernel
theorem dX10_in_11 : decode cX10_in 11 = .ok (.goto 4, 3) := by decide +kernel
theorem dX10_in_14 : decode cX10_in 14 = .ok (.iconst 0, 1) := by decide +kernel
theorem dX10_in_15 : decode cX10_in 15 = .ok (.ireturn, 1) := by decide +kernel
theorem dX10_fails_0 : decode cX10_fails 0 = .ok (.aload_n 0, 1) := by decide +kernel
theorem dX10_fails_1 : decode cX10_fails 1 = .ok (.iload_n 1, 1) := by decide +kernel
theorem dX10_fails_2 : decode cX10_fails 2 = .ok (.putfield 87, 3) := by decide +kernel
theorem dX10_fails_5 : decode cX10_fails 5 = .ok (.iconst 0, 1) := by decide +kernel
theorem dX10_fails_6 : decode cX10_fails 6 = .ok (.ireturn, 1) := by decide +kernel
theorem dX10_done_0 : decode cX10_done 0 = .ok (.aload_n 0, 1) := by decide +kernel
theorem dX10_done_1 : decode cX10_done 1 = .ok (.iconst 0, 1) := by decide +kernel
theorem dX10_done_2 : decode cX10_done 2 = .ok (.putfield 87, 3) := by decide +kernel
theorem dX10_done_5 : decode cX10_done 5 = .ok (.iload_n 1, 1) := by decide +kernel
theorem dX10_done_6 : decode cX10_done 6 = .ok (.ireturn, 1) := by decide +kernel
theorem dX10_so_0 : decode cX10_so 0 = .ok (.aload_n 0, 1) := by decide +kernel
theorem dX10_so_1 : decode cX10_so 1 = .ok (.iconst 0, 1) := by decide +kernel
theorem dX10_so_2 : decode cX10_so 2 = .ok (.putfield 87, 3) := by decide +kernel
theorem dX10_so_5 : decode cX10_so 5 = .ok (.iload_n 1, 1) := by decide +kernel
theorem dX10_so_6 : decode cX10_so 6 = .ok (.ireturn, 1) := by decide +kernel
theorem dX10_not_0 : decode cX10_not 0 = .ok (.aload_n 0, 1) := by decide +kernel
theorem dX10_not_1 : decode cX10_not 1 = .ok (.iload_n 1, 1) := by decide +kernel
theorem dX10_not_2 : decode cX10_not 2 = .ok (.putfield 87, 3) := by decide +kernel
theorem dX10_not_5 : decode cX10_not 5 = .ok (.iconst 0, 1) := by decide +kernel
theorem dX10_not_6 : decode cX10_not 6 = .ok (.ireturn, 1) := by decide +kernel
theorem dX10_isSlot_0 : decode cX10_isSlot 0 = .ok (.iload_n 0, 1) := by decide +kernel
theorem dX10_isSlot_1 : decode cX10_isSlot 1 = .ok (.iconst 0, 1) := by decide +kernel
theorem dX10_isSlot_2 : decode cX10_isSlot 2 = .ok (.iconst 3, 1) := by decide +kernel
theorem dX10_isSlot_3 : decode cX10_isSlot 3 = .ok (.invokestatic 90, 3) := by decide +kernel
theorem dX10_isSlot_6 : decode cX10_isSlot 6 = .ok (.ireturn, 1) := by decide +kernel
theorem dX10_isPosition_0 : decode cX10_isPosition 0 = .ok (.iload_n 1, 1) := by decide +kernel
theorem dX10_isPosition_1 : decode cX10_isPosition 1 = .ok (.iconst 1, 1) := by decide +kernel
theorem dX10_isPosition_2 : decode cX10_isPosition 2 = .ok (.aload_n 0, 1) := by decide +kernel
theorem dX10_isPosition_3 : decode cX10_isPosition 3 = .ok (.getfield 7, 3) := by decide +kernel
theorem dX10_isPosition_6 : decode cX10_isPosition 6 = .ok (.invokestatic 90, 3) := by decide +kernel
theorem dX10_isPosition_9 : decode cX10_isPosition 9 = .ok (.ireturn, 1) := by decide +kernel
theorem dX10_reset_0 : decode cX10_reset 0 = .ok (.iload_n 1, 1) := by decide +kernel
theorem dX10_reset_1 : decode cX10_reset 1 = .ok (.iconst 2, 1) := by decide +kernel
theorem dX10_reset_2 : decode cX10_reset 2 = .ok (.bipush 7, 2) := by decide +kernel
theorem dX10_reset_4 : decode cX10_reset 4 = .ok (.invokestatic 90, 3) := by decide +kernel
theorem dX10_reset_7 : decode cX10_reset 7 = .ok (.ifCond .ne 9, 3) := by decide +kernel
theorem dX10_reset_10 : decode cX10_reset 10 = .ok (.aload_n 0, 1) := by decide +kernel
theorem dX10_reset_11 : decode cX10_reset 11 = .ok (.iconst 1, 1) := by decide +kernel
theorem dX10_reset_12 : decode cX10_reset 12 = .ok (.invokevirtual 94, 3) := by decide +kernel
theorem dX10_reset_15 : decode cX10_reset 15 = .ok (.ireturn, 1) := by decide +kernel
theorem dX10_reset_16 : decode cX10_reset 16 = .ok (.aload_n 0, 1) := by decide +kernel
theorem dX10_reset_17 : decode cX10_reset 17 = .ok (.getfield 7, 3) := by decide +kernel
theorem dX10_reset_20 : decode cX10_reset 20 = .ok (.istore_n 2, 1) := by decide +kernel
theorem dX10_reset_21 : decode cX10_reset 21 = .ok (.aload_n 0, 1) := by decide +kernel
theorem dX10_reset_22 : decode cX10_reset 22 = .ok (.iload_n 1, 1) := by decide +kernel
theorem dX10_reset_23 : decode cX10_reset 23 = .ok (.putfield 7, 3) := by decide +kernel
theorem dX10_reset_26 : decode cX10_reset 26 = .ok (.iconst 1, 1) := by decide +kernel
theorem dX10_reset_27 : decode cX10_reset 27 = .ok (.istore_n 3, 1) := by decide +kernel
theorem dX10_reset_28 : decode cX10_reset 28 = .ok (.iload_n 3, 1) := by decide +kernel
theorem dX10_reset_29 : decode cX10_reset 29 = .ok (.bipush 8, 2) := by decide +kernel
theorem dX10_reset_31 : decode cX10_reset 31 = .ok (.if_icmp .ge 16, 3) := by decide +kernel
theorem dX10_reset_34 : decode cX10_reset 34 = .ok (.aload_n 0, 1) := by decide +kernel
theorem dX10_reset_35 : decode cX10_reset 35 = .ok (.getfield 13, 3) := by decide +kernel
theorem dX10_reset_38 : decode cX10_reset 38 = .ok (.iload_n 3, 1) := by decide +kernel
theorem dX10_reset_39 : decode cX10_reset 39 = .ok (.iload_n 3, 1) := by decide +kernel
theorem dX10_reset_40 : decode cX10_reset 40 = .ok (.iastore, 1) := by decide +kernel
theorem dX10_reset_41 : decode cX10_reset 41 = .ok (.iinc 3 1, 3) := by decide +kernel
theorem dX10_reset_44 : decode cX10_reset 44 = .ok (.goto (-16), 3) := by decide +kernel
theorem dX10_reset_47 : decode cX10_reset 47 = .ok (.iconst 0, 1) := by decide +kernel
theorem dX10_reset_48 : decode cX10_reset 48 = .ok (.istore_n 3, 1) := by decide +kernel
theorem dX10_reset_49 : decode cX10_reset 49 = .ok (.iload_n 3, 1) := by decide +kernel
theorem dX10_reset_50 : decode cX10_reset 50 = .ok (.iconst 5, 1) := by decide +kernel
theorem dX10_reset_51 : decode cX10_reset 51 = .ok (.if_icmp .ge 16, 3) := by decide +kernel
theorem dX10_reset_54 : decode cX10_reset 54 = .ok (.aload_n 0, 1) := by decide +kernel
theorem dX10_reset_55 : decode cX10_reset 55 = .ok (.getfield 17, 3) := by decide +kernel
theorem dX10_reset_58 : decode cX10_reset 58 = .ok (.iload_n 3, 1) := by decide +kernel
theorem dX10_reset_59 : decode cX10_reset 59 = .ok (.iconst 0, 1) := by decide +kernel
theorem dX10_reset_60 : decode cX10_reset 60 = .ok (.bastore, 1) := by decide +kernel
theorem dX10_reset_61 : decode cX10_reset 61 = .ok (.iinc 3 1, 3) := by decide +kernel
theorem dX10_reset_64 : decode cX10_reset 64 = .ok (.goto (-15), 3) := by decide +kernel
theorem dX10_reset_67 : decode cX10_reset 67 = .ok (.iconst 0, 1) := by decide +kernel
theorem dX10_reset_68 : decode cX10_reset 68 = .ok (.istore_n 3, 1) := by decide +kernel
theorem dX10_reset_69 : decode cX10_reset 69 = .ok (.iload_n 3, 1) := by decide +kernel
theorem dX10_reset_70 : decode cX10_reset 70 = .ok (.iconst 4, 1) := by decide +kernel
theorem dX10_reset_71 : decode cX10_reset 71 = .ok (.if_icmp .ge 16, 3) := by decide +kernel
theorem dX10_reset_74 : decode cX10_reset 74 = .ok (.aload_n 0, 1) := by decide +kernel
theorem dX10_reset_75 : decode cX10_reset 75 = .ok (.getfield 24, 3) := by decide +kernel
theorem dX10_reset_78 : decode cX10_reset 78 = .ok (.iload_n 3, 1) := by decide +kernel
theorem dX10_reset_79 : decode cX10_reset 79 = .ok (.iconst 0, 1) := by decide +kernel
theorem dX10_reset_80 : decode cX10_reset 80 = .ok (.iastore, 1) := by decide +kernel
theorem dX10_reset_81 : decode cX10_reset 81 = .ok (.iinc 3 1, 3) := by decide +kernel
theorem dX10_reset_84 : decode cX10_reset 84 = .ok (.goto (-15), 3) := by decide +kernel
theorem dX10_reset_87 : decode cX10_reset 87 = .ok (.aload_n 0, 1) := by decide +kernel
theorem dX10_reset_88 : decode cX10_reset 88 = .ok (.iconst 0, 1) := by decide +kernel
theorem dX10_reset_89 : decode cX10_reset 89 = .ok (.putfield 98, 3) := by decide +kernel
theorem dX10_reset_92 : decode cX10_reset 92 = .ok (.aload_n 0, 1) := by decide +kernel
theorem dX10_reset_93 : decode cX10_reset 93 = .ok (.iconst 0, 1) := by decide +kernel
theorem dX10_reset_94 : decode cX10_reset 94 = .ok (.putfield 102, 3) := by decide +kernel
theorem dX10_reset_97 : decode cX10_reset 97 = .ok (.aload_n 0, 1) := by decide +kernel
theorem dX10_reset_98 : decode cX10_reset 98 = .ok (.iload_n 2, 1) := by decide +kernel
theorem dX10_reset_99 : decode cX10_reset 99 = .ok (.invokevirtual 105, 3) := by decide +kernel
theorem dX10_reset_102 : decode cX10_reset 102 = .ok (.ireturn, 1) := by decide +kernel
theorem dX10_positions_0 : decode cX10_positions 0 = .ok (.aload_n 0, 1) := by decide +kernel
theorem dX10_positions_1 : decode cX10_positions 1 = .ok (.aload_n 0, 1) := by decide +kernel
theorem dX10_positions_2 : decode cX10_positions 2 = .ok (.getfield 7, 3) := by decide +kernel
theorem dX10_positions_5 : decode cX10_positions 5 = .ok (.invokevirtual 105, 3) := by decide +kernel
theorem dX10_positions_8 : decode cX10_positions 8 = .ok (.ireturn, 1) := by decide +kernel
theorem dX10_append_0 : decode cX10_append 0 = .ok (.iload_n 1, 1) := by decide +kernel
theorem dX10_append_1 : decode cX10_append 1 = .ok (.bipush 32, 2) := by decide +kernel
theorem dX10_append_3 : decode cX10_append 3 = .ok (.bipush 126, 2) := by decide +kernel
theorem dX10_append_5 : decode cX10_append 5 = .ok (.invokestatic 90, 3) := by decide +kernel
theorem dX10_append_8 : decode cX10_append 8 = .ok (.ifCond .ne 9, 3) := by decide +kernel
theorem dX10_append_11 : decode cX10_append 11 = .ok (.aload_n 0, 1) := by decide +kernel
theorem dX10_append_12 : decode cX10_append 12 = .ok (.iconst 1, 1) := by decide +kernel
theorem dX10_append_13 : decode cX10_append 13 = .ok (.invokevirtual 94, 3) := by decide +kernel
theorem dX10_append_16 : decode cX10_append 16 = .ok (.ireturn, 1) := by decide +kernel
theorem dX10_append_17 : decode cX10_append 17 = .ok (.aload_n 0, 1) := by decide +kernel
theorem dX10_append_18 : decode cX10_append 18 = .ok (.getfield 108, 3) := by decide +kernel
theorem dX10_append_21 : decode cX10_append 21 = .ok (.bipush 40, 2) := by decide +kernel
theorem dX10_append_23 : decode cX10_append 23 = .ok (.if_icmp .ne 9, 3) := by decide +kernel
theorem dX10_append_26 : decode cX10_append 26 = .ok (.aload_n 0, 1) := by decide +kernel
theorem dX10_append_27 : decode cX10_append 27 = .ok (.iconst 2, 1) := by decide +kernel
theorem dX10_append_28 : decode cX10_append 28 = .ok (.invokevirtual 94, 3) := by decide +kernel
theorem dX10_append_31 : decode cX10_append 31 = .ok (.ireturn, 1) := by decide +kernel
theorem dX10_append_32 : decode cX10_append 32 = .ok (.aload_n 0, 1) := by decide +kernel
theorem dX10_append_33 : decode cX10_append 33 = .ok (.getfield 30, 3) := by decide +kernel
theorem dX10_append_36 : decode cX10_append 36 = .ok (.aload_n 0, 1) := by decide +kernel
theorem dX10_append_37 : decode cX10_append 37 = .ok (.getfield 108, 3) := by decide +kernel
theorem dX10_append_40 : decode cX10_append 40 = .ok (.iload_n 1, 1) := by decide +kernel
theorem dX10_append_41 : decode cX10_append 41 = .ok (.castore, 1) := by decide +kernel
theorem dX10_append_42 : decode cX10_append 42 = .ok (.aload_n 0, 1) := by decide +kernel
theorem dX10_append_43 : decode cX10_append 43 = .ok (.dup, 1) := by decide +kernel
theorem dX10_append_44 : decode cX10_append 44 = .ok (.getfield 108, 3) := by decide +kernel
theorem dX10_append_47 : decode cX10_append 47 = .ok (.iconst 1, 1) := by decide +kernel
theorem dX10_append_48 : decode cX10_append 48 = .ok (.iadd, 1) := by decide +kernel
theorem dX10_append_49 : decode cX10_append 49 = .ok (.putfield 108, 3) := by decide +kernel
theorem dX10_append_52 : decode cX10_append 52 = .ok (.aload_n 0, 1) := by decide +kernel
theorem dX10_append_53 : decode cX10_append 53 = .ok (.aload_n 0, 1) := by decide +kernel
theorem dX10_append_54 : decode cX10_append 54 = .ok (.getfield 108, 3) := by decide +kernel
theorem dX10_append_57 : decode cX10_append 57 = .ok (.invokevirtual 105, 3) := by decide +kernel
theorem dX10_append_60 : decode cX10_append 60 = .ok (.ireturn, 1) := by decide +kernel
theorem dX10_here_0 : decode cX10_here 0 = .ok (.aload_n 0, 1) := by decide +kernel
theorem dX10_here_1 : decode cX10_here 1 = .ok (.getfield 111, 3) := by decide +kernel
theorem dX10_here_4 : decode cX10_here 4 = .ok (.aload_n 0, 1) := by decide +kernel
theorem dX10_here_5 : decode cX10_here 5 = .ok (.getfield 108, 3) := by decide +kernel
theorem dX10_here_8 : decode cX10_here 8 = .ok (.if_icmp .ge 15, 3) := by decide +kernel
theorem dX10_here_11 : decode cX10_here 11 = .ok (.aload_n 0, 1) := by decide +kernel
theorem dX10_here_12 : decode cX10_here 12 = .ok (.getfield 30, 3) := by decide +kernel
theorem dX10_here_15 : decode cX10_here 15 = .ok (.aload_n 0, 1) := by decide +kernel
theorem dX10_here_16 : decode cX10_here 16 = .ok (.getfield 111, 3) := by decide +kernel
theorem dX10_here_19 : decode cX10_here 19 = .ok (.caload, 1) := by decide +kernel
theorem dX10_here_20 : decode cX10_here 20 = .ok (.goto 4, 3) := by decide +kernel
theorem dX10_here_23 : decode cX10_here 23 = .ok (.iconst 0, 1) := by decide +kernel
theorem dX10_here_24 : decode cX10_here 24 = .ok (.ireturn, 1) := by decide +kernel
theorem dX10_readsCycle_0 : decode cX10_readsCycle 0 = .ok (.aload_n 0, 1) := by decide +kernel
theorem dX10_readsCycle_1 : decode cX10_readsCycle 1 = .ok (.dup, 1) := by decide +kernel
theorem dX10_readsCycle_2 : decode cX10_readsCycle 2 = .ok (.getfield 111, 3) := by decide +kernel
theorem dX10_readsCycle_5 : decode cX10_readsCycle 5 = .ok (.iconst 1, 1) := by decide +kernel
theorem dX10_readsCycle_6 : decode cX10_readsCycle 6 = .ok (.iadd, 1) := by decide +kernel
theorem dX10_readsCycle_7 : decode cX10_readsCycle 7 = .ok (.putfield 111, 3) := by decide +kernel
theorem dX10_readsCycle_10 : decode cX10_readsCycle 10 = .ok (.iconst 0, 1) := by decide +kernel
theorem dX10_readsCycle_11 : decode cX10_readsCycle 11 = .ok (.istore_n 1, 1) := by decide +kernel
theorem dX10_readsCycle_12 : decode cX10_readsCycle 12 = .ok (.iconst 0, 1) := by decide +kernel
theorem dX10_readsCycle_13 : decode cX10_readsCycle 13 = .ok (.istore_n 2, 1) := by decide +kernel
theorem dX10_readsCycle_14 : decode cX10_readsCycle 14 = .ok (.iconst 0, 1) := by decide +kernel
theorem dX10_readsCycle_15 : decode cX10_readsCycle 15 = .ok (.istore_n 3, 1) := by decide +kernel
theorem dX10_readsCycle_16 : decode cX10_readsCycle 16 = .ok (.aload_n 0, 1) := by decide +kernel
theorem dX10_readsCycle_17 : decode cX10_readsCycle 17 = .ok (.aload_n 0, 1) := by decide +kernel
theorem dX10_readsCycle_18 : decode cX10_readsCycle 18 = .ok (.invokevirtual 114, 3) := by decide +kernel
theorem dX10_readsCycle_21 : decode cX10_readsCycle 21 = .ok (.bipush 48, 2) := by decide +kernel
theorem dX10_readsCycle_23 : decode cX10_readsCycle 23 = .ok (.isub, 1) := by decide +kernel
theorem dX10_readsCycle_24 : decode cX10_readsCycle 24 = .ok (.invokevirtual 118, 3) := by decide +kernel
theorem dX10_readsCycle_27 : decode cX10_readsCycle 27 = .ok (.ifCond .eq 72, 3) := by decide +kernel
theorem dX10_readsCycle_30 : decode cX10_readsCycle 30 = .ok (.aload_n 0, 1) := by decide +kernel
theorem dX10_readsCycle_31 : decode cX10_readsCycle 31 = .ok (.getfield 63, 3) := by decide +kernel
theorem dX10_readsCycle_34 : decode cX10_readsCycle 34 = .ok (.aload_n 0, 1) := by decide +kernel
theorem dX10_readsCycle_35 : decode cX10_readsCycle 35 = .ok (.invokevirtual 114, 3) := by decide +kernel
theorem dX10_readsCycle_38 : decode cX10_readsCycle 38 = .ok (.bipush 48, 2) := by decide +kernel
theorem dX10_readsCycle_40 : decode cX10_readsCycle 40 = .ok (.isub, 1) := by decide +kernel
theorem dX10_readsCycle_41 : decode cX10_readsCycle 41 = .ok (.baload, 1) := by decide +kernel
theorem dX10_readsCycle_42 : decode cX10_readsCycle 42 = .ok (.ifCond .ne 57, 3) := by decide +kernel
theorem dX10_readsCycle_45 : decode cX10_readsCycle 45 = .ok (.aload_n 0, 1) := by decide +kernel
theorem dX10_readsCycle_46 : decode cX10_readsCycle 46 = .ok (.invokevirtual 114, 3) := by decide +kernel
theorem dX10_readsCycle_49 : decode cX10_readsCycle 49 = .ok (.bipush 48, 2) := by decide +kernel
theorem dX10_readsCycle_51 : decode cX10_readsCycle 51 = .ok (.isub, 1) := by decide +kernel
theorem dX10_readsCycle_52 : decode cX10_readsCycle 52 = .ok (.istore 4, 2) := by decide +kernel
theorem dX10_readsCycle_54 : decode cX10_readsCycle 54 = .ok (.aload_n 0, 1) := by decide +kernel
theorem dX10_readsCycle_55 : decode cX10_readsCycle 55 = .ok (.getfield 63, 3) := by decide +kernel
theorem dX10_readsCycle_58 : decode cX10_readsCycle 58 = .ok (.iload 4, 2) := by decide +kernel
theorem dX10_readsCycle_60 : decode cX10_readsCycle 60 = .ok (.iconst 1, 1) := by decide +kernel
theorem dX10_readsCycle_61 : decode cX10_readsCycle 61 = .ok (.bastore, 1) := by decide +kernel
theorem dX10_readsCycle_62 : decode cX10_readsCycle 62 = .ok (.iload_n 3, 1) := by decide +kernel
theorem dX10_readsCycle_63 : decode cX10_readsCycle 63 = .ok (.ifCond .ne 9, 3) := by decide +kernel
theorem dX10_readsCycle_66 : decode cX10_readsCycle 66 = .ok (.iload 4, 2) := by decide +kernel
theorem dX10_readsCycle_68 : decode cX10_readsCycle 68 = .ok (.istore_n 1, 1) := by decide +kernel
theorem dX10_readsCycle_69 : decode cX10_readsCycle 69 = .ok (.goto 11, 3) := by decide +kernel
theorem dX10_readsCycle_72 : decode cX10_readsCycle 72 = .ok (.aload_n 0, 1) := by decide +kernel
theorem dX10_readsCycle_73 : decode cX10_readsCycle 73 = .ok (.getfield 60, 3) := by decide +kernel
theorem dX10_readsCycle_76 : decode cX10_readsCycle 76 = .ok (.iload_n 2, 1) := by decide +kernel
theorem dX10_readsCycle_77 : decode cX10_readsCycle 77 = .ok (.iload 4, 2) := by decide +kernel
theorem dX10_readsCycle_79 : decode cX10_readsCycle 79 = .ok (.iastore, 1) := by decide +kernel
theorem dX10_readsCycle_80 : decode cX10_readsCycle 80 = .ok (.iload 4, 2) := by decide +kernel
theorem dX10_readsCycle_82 : decode cX10_readsCycle 82 = .ok (.istore_n 2, 1) := by decide +kernel
theorem dX10_readsCycle_83 : decode cX10_readsCycle 83 = .ok (.iinc 3 1, 3) := by decide +kernel
theorem dX10_readsCycle_86 : decode cX10_readsCycle 86 = .ok (.aload_n 0, 1) := by decide +kernel
theorem dX10_readsCycle_87 : decode cX10_readsCycle 87 = .ok (.dup, 1) := by decide +kernel
theorem dX10_readsCycle_88 : decode cX10_readsCycle 88 = .ok (.getfield 111, 3) := by decide +kernel
theorem dX10_readsCycle_91 : decode cX10_readsCycle 91 = .ok (.iconst 1, 1) := by decide +kernel
theorem dX10_readsCycle_92 : decode cX10_readsCycle 92 = .ok (.iadd, 1) := by decide +kernel
theorem dX10_readsCycle_93 : decode cX10_readsCycle 93 = .ok (.putfield 111, 3) := by decide +kernel
theorem dX10_readsCycle_96 : decode cX10_readsCycle 96 = .ok (.goto (-80), 3) := by decide +kernel
theorem dX10_readsCycle_99 : decode cX10_readsCycle 99 = .ok (.iload_n 3, 1) := by decide +kernel
theorem dX10_readsCycle_100 : decode cX10_readsCycle 100 = .ok (.iconst 2, 1) := by decide +kernel
theorem dX10_readsCycle_101 : decode cX10_readsCycle 101 = .ok (.if_icmp .lt 12, 3) := by decide +kernel
theorem dX10_readsCycle_104 : decode cX10_readsCycle 104 = .ok (.aload_n 0, 1) := by decide +kernel
theorem dX10_readsCycle_105 : decode cX10_readsCycle 105 = .ok (.invokevirtual 114, 3) := by decide +kernel
theorem dX10_readsCycle_108 : decode cX10_readsCycle 108 = .ok (.bipush 41, 2) := by decide +kernel
theorem dX10_readsCycle_110 : decode cX10_readsCycle 110 = .ok (.if_icmp .eq 5, 3) := by decide +kernel
theorem dX10_readsCycle_113 : decode cX10_readsCycle 113 = .ok (.iconst 0, 1) := by decide +kernel
theorem dX10_readsCycle_114 : decode cX10_readsCycle 114 = .ok (.ireturn, 1) := by decide +kernel
theorem dX10_readsCycle_115 : decode cX10_readsCycle 115 = .ok (.aload_n 0, 1) := by decide +kernel
theorem dX10_readsCycle_116 : decode cX10_readsCycle 116 = .ok (.getfield 60, 3) := by decide +kernel
theorem dX10_readsCycle_119 : decode cX10_readsCycle 119 = .ok (.iload_n 2, 1) := by decide +kernel
theorem dX10_readsCycle_120 : decode cX10_readsCycle 120 = .ok (.iload_n 1, 1) := by decide +kernel
theorem dX10_readsCycle_121 : decode cX10_readsCycle 121 = .ok (.iastore, 1) := by decide +kernel
theorem dX10_readsCycle_122 : decode cX10_readsCycle 122 = .ok (.aload_n 0, 1) := by decide +kernel
theorem dX10_readsCycle_123 : decode cX10_readsCycle 123 = .ok (.dup, 1) := by decide +kernel
theorem dX10_readsCycle_124 : decode cX10_readsCycle 124 = .ok (.getfield 111, 3) := by decide +kernel
theorem dX10_readsCycle_127 : decode cX10_readsCycle 127 = .ok (.iconst 1, 1) := by decide +kernel
theorem dX10_readsCycle_128 : decode cX10_readsCycle 128 = .ok (.iadd, 1) := by decide +kernel
theorem dX10_readsCycle_129 : decode cX10_readsCycle 129 = .ok (.putfield 111, 3) := by decide +kernel
theorem dX10_readsCycle_132 : decode cX10_readsCycle 132 = .ok (.iconst 1, 1) := by decide +kernel
theorem dX10_readsCycle_133 : decode cX10_readsCycle 133 = .ok (.ireturn, 1) := by decide +kernel
theorem dX10_readsCycles_0 : decode cX10_readsCycles 0 = .ok (.aload_n 0, 1) := by decide +kernel
theorem dX10_readsCycles_1 : decode cX10_readsCycles 1 = .ok (.iconst 0, 1) := by decide +kernel
theorem dX10_readsCycles_2 : decode cX10_readsCycles 2 = .ok (.putfield 111, 3) := by decide +kernel
theorem dX10_readsCycles_5 : decode cX10_readsCycles 5 = .ok (.iconst 0, 1) := by decide +kernel
theorem dX10_readsCycles_6 : decode cX10_readsCycles 6 = .ok (.istore_n 1, 1) := by decide +kernel
theorem dX10_readsCycles_7 : decode cX10_readsCycles 7 = .ok (.iload_n 1, 1) := by decide +kernel
theorem dX10_readsCycles_8 : decode cX10_readsCycles 8 = .ok (.bipush 8, 2) := by decide +kernel
theorem dX10_readsCycles_10 : decode cX10_readsCycles 10 = .ok (.if_icmp .ge 23, 3) := by decide +kernel
theorem dX10_readsCycles_13 : decode cX10_readsCycles 13 = .ok (.aload_n 0, 1) := by decide +kernel
theorem dX10_readsCycles_14 : decode cX10_readsCycles 14 = .ok (.getfield 60, 3) := by decide +kernel
theorem dX10_readsCycles_17 : decode cX10_readsCycles 17 = .ok (.iload_n 1, 1) := by decide +kernel
theorem dX10_readsCycles_18 : decode cX10_readsCycles 18 = .ok (.iload_n 1, 1) := by decide +kernel
theorem dX10_readsCycles_19 : decode cX10_readsCycles 19 = .ok (.iastore, 1) := by decide +kernel
theorem dX10_readsCycles_20 : decode cX10_readsCycles 20 = .ok (.aload_n 0, 1) := by decide +kernel
theorem dX10_readsCycles_21 : decode cX10_readsCycles 21 = .ok (.getfield 63, 3) := by decide +kernel
theorem dX10_readsCycles_24 : decode cX10_readsCycles 24 = .ok (.iload_n 1, 1) := by decide +kernel
theorem dX10_readsCycles_25 : decode cX10_readsCycles 25 = .ok (.iconst 0, 1) := by decide +kernel
theorem dX10_readsCycles_26 : decode cX10_readsCycles 26 = .ok (.bastore, 1) := by decide +kernel
theorem dX10_readsCycles_27 : decode cX10_readsCycles 27 = .ok (.iinc 1 1, 3) := by decide +kernel
theorem dX10_readsCycles_30 : decode cX10_readsCycles 30 = .ok (.goto (-23), 3) := by decide +kernel
theorem dX10_readsCycles_33 : decode cX10_readsCycles 33 = .ok (.iconst 1, 1) := by decide +kernel
theorem dX10_readsCycles_34 : decode cX10_readsCycles 34 = .ok (.istore_n 1, 1) := by decide +kernel
theorem dX10_readsCycles_35 : decode cX10_readsCycles 35 = .ok (.iload_n 1, 1) := by decide +kernel
theorem dX10_readsCycles_36 : decode cX10_readsCycles 36 = .ok (.ifCond .eq 20, 3) := by decide +kernel
theorem dX10_readsCycles_39 : decode cX10_readsCycles 39 = .ok (.aload_n 0, 1) := by decide +kernel
theorem dX10_readsCycles_40 : decode cX10_readsCycles 40 = .ok (.invokevirtual 114, 3) := by decide +kernel
theorem dX10_readsCycles_43 : decode cX10_readsCycles 43 = .ok (.bipush 40, 2) := by decide +kernel
theorem dX10_readsCycles_45 : decode cX10_readsCycles 45 = .ok (.if_icmp .ne 11, 3) := by decide +kernel
theorem dX10_readsCycles_48 : decode cX10_readsCycles 48 = .ok (.aload_n 0, 1) := by decide +kernel
theorem dX10_readsCycles_49 : decode cX10_readsCycles 49 = .ok (.invokevirtual 122, 3) := by decide +kernel
theorem dX10_readsCycles_52 : decode cX10_readsCycles 52 = .ok (.istore_n 1, 1) := by decide +kernel
theorem dX10_readsCycles_53 : decode cX10_readsCycles 53 = .ok (.goto (-18), 3) := by decide +kernel
theorem dX10_readsCycles_56 : decode cX10_readsCycles 56 = .ok (.iload_n 1, 1) := by decide +kernel
theorem dX10_readsCycles_57 : decode cX10_readsCycles 57 = .ok (.ifCond .eq 18, 3) := by decide +kernel
theorem dX10_readsCycles_60 : decode cX10_readsCycles 60 = .ok (.aload_n 0, 1) := by decide +kernel
theorem dX10_readsCycles_61 : decode cX10_readsCycles 61 = .ok (.getfield 111, 3) := by decide +kernel
theorem dX10_readsCycles_64 : decode cX10_readsCycles 64 = .ok (.aload_n 0, 1) := by decide +kernel
theorem dX10_readsCycles_65 : decode cX10_readsCycles 65 = .ok (.getfield 108, 3) := by decide +kernel
theorem dX10_readsCycles_68 : decode cX10_readsCycles 68 = .ok (.if_icmp .ne 7, 3) := by decide +kernel
theorem dX10_readsCycles_71 : decode cX10_readsCycles 71 = .ok (.iconst 1, 1) := by decide +kernel
theorem dX10_readsCycles_72 : decode cX10_readsCycles 72 = .ok (.goto 4, 3) := by decide +kernel
theorem dX10_readsCycles_75 : decode cX10_readsCycles 75 = .ok (.iconst 0, 1) := by decide +kernel
theorem dX10_readsCycles_76 : decode cX10_readsCycles 76 = .ok (.ireturn, 1) := by decide +kernel
theorem dX10_define_0 : decode cX10_define 0 = .ok (.iload_n 1, 1) := by decide +kernel
theorem dX10_define_1 : decode cX10_define 1 = .ok (.iconst 0, 1) := by decide +kernel
theorem dX10_define_2 : decode cX10_define 2 = .ok (.iconst 4, 1) := by decide +kernel
theorem dX10_define_3 : decode cX10_define 3 = .ok (.invokestatic 90, 3) := by decide +kernel
theorem dX10_define_6 : decode cX10_define 6 = .ok (.ifCond .ne 9, 3) := by decide +kernel
theorem dX10_define_9 : decode cX10_define 9 = .ok (.aload_n 0, 1) := by decide +kernel
theorem dX10_define_10 : decode cX10_define 10 = .ok (.iconst 1, 1) := by decide +kernel
theorem dX10_define_11 : decode cX10_define 11 = .ok (.invokevirtual 94, 3) := by decide +kernel
theorem dX10_define_14 : decode cX10_define 14 = .ok (.ireturn, 1) := by decide +kernel
theorem dX10_define_15 : decode cX10_define 15 = .ok (.aload_n 0, 1) := by decide +kernel
theorem dX10_define_16 : decode cX10_define 16 = .ok (.invokevirtual 126, 3) := by decide +kernel
theorem dX10_define_19 : decode cX10_define 19 = .ok (.istore_n 2, 1) := by decide +kernel
theorem dX10_define_20 : decode cX10_define 20 = .ok (.aload_n 0, 1) := by decide +kernel
theorem dX10_define_21 : decode cX10_define 21 = .ok (.iconst 0, 1) := by decide +kernel
theorem dX10_define_22 : decode cX10_define 22 = .ok (.putfield 108, 3) := by decide +kernel
theorem dX10_define_25 : decode cX10_define 25 = .ok (.iload_n 2, 1) := by decide +kernel
theorem dX10_define_26 : decode cX10_define 26 = .ok (.ifCond .ne 17, 3) := by decide +kernel
theorem dX10_define_29 : decode cX10_define 29 = .ok (.aload_n 0, 1) := by decide +kernel
theorem dX10_define_30 : decode cX10_define 30 = .ok (.aload_n 0, 1) := by decide +kernel
theorem dX10_define_31 : decode cX10_define 31 = .ok (.getfield 111, 3) := by decide +kernel
theorem dX10_define_34 : decode cX10_define 34 = .ok (.putfield 34, 3) := by decide +kernel
theorem dX10_define_37 : decode cX10_define 37 = .ok (.aload_n 0, 1) := by decide +kernel
theorem dX10_define_38 : decode cX10_define 38 = .ok (.iconst 2, 1) := by decide +kernel
theorem dX10_define_39 : decode cX10_define 39 = .ok (.invokevirtual 94, 3) := by decide +kernel
theorem dX10_define_42 : decode cX10_define 42 = .ok (.ireturn, 1) := by decide +kernel
theorem dX10_define_43 : decode cX10_define 43 = .ok (.aload_n 0, 1) := by decide +kernel
theorem dX10_define_44 : decode cX10_define 44 = .ok (.getfield 17, 3) := by decide +kernel
theorem dX10_define_47 : decode cX10_define 47 = .ok (.iload_n 1, 1) := by decide +kernel
theorem dX10_define_48 : decode cX10_define 48 = .ok (.iconst 1, 1) := by decide +kernel
theorem dX10_define_49 : decode cX10_define 49 = .ok (.bastore, 1) := by decide +kernel
theorem dX10_define_50 : decode cX10_define 50 = .ok (.aload_n 0, 1) := by decide +kernel
theorem dX10_define_51 : decode cX10_define 51 = .ok (.iconst 0, 1) := by decide +kernel
theorem dX10_define_52 : decode cX10_define 52 = .ok (.putfield 102, 3) := by decide +kernel
theorem dX10_define_55 : decode cX10_define 55 = .ok (.iconst 0, 1) := by decide +kernel
theorem dX10_define_56 : decode cX10_define 56 = .ok (.istore_n 3, 1) := by decide +kernel
theorem dX10_define_57 : decode cX10_define 57 = .ok (.iconst 0, 1) := by decide +kernel
theorem dX10_define_58 : decode cX10_define 58 = .ok (.istore 4, 2) := by decide +kernel
theorem dX10_define_60 : decode cX10_define 60 = .ok (.iload 4, 2) := by decide +kernel
theorem dX10_define_62 : decode cX10_define 62 = .ok (.bipush 8, 2) := by decide +kernel
theorem dX10_define_64 : decode cX10_define 64 = .ok (.if_icmp .ge 70, 3) := by decide +kernel
theorem dX10_define_67 : decode cX10_define 67 = .ok (.aload_n 0, 1) := by decide +kernel
theorem dX10_define_68 : decode cX10_define 68 = .ok (.getfield 21, 3) := by decide +kernel
theorem dX10_define_71 : decode cX10_define 71 = .ok (.bipush 16, 2) := by decide +kernel
theorem dX10_define_73 : decode cX10_define 73 = .ok (.iload_n 1, 1) := by decide +kernel
theorem dX10_define_74 : decode cX10_define 74 = .ok (.imul, 1) := by decide +kernel
theorem dX10_define_75 : decode cX10_define 75 = .ok (.iload 4, 2) := by decide +kernel
theorem dX10_define_77 : decode cX10_define 77 = .ok (.iadd, 1) := by decide +kernel
theorem dX10_define_78 : decode cX10_define 78 = .ok (.aload_n 0, 1) := by decide +kernel
theorem dX10_define_79 : decode cX10_define 79 = .ok (.getfield 60, 3) := by decide +kernel
theorem dX10_define_82 : decode cX10_define 82 = .ok (.iload 4, 2) := by decide +kernel
theorem dX10_define_84 : decode cX10_define 84 = .ok (.iaload, 1) := by decide +kernel
theorem dX10_define_85 : decode cX10_define 85 = .ok (.iastore, 1) := by decide +kernel
theorem dX10_define_86 : decode cX10_define 86 = .ok (.aload_n 0, 1) := by decide +kernel
theorem dX10_define_87 : decode cX10_define 87 = .ok (.getfield 21, 3) := by decide +kernel
theorem dX10_define_90 : decode cX10_define 90 = .ok (.bipush 16, 2) := by decide +kernel
theorem dX10_define_92 : decode cX10_define 92 = .ok (.iload_n 1, 1) := by decide +kernel
theorem dX10_define_93 : decode cX10_define 93 = .ok (.imul, 1) := by decide +kernel
theorem dX10_define_94 : decode cX10_define 94 = .ok (.bipush 8, 2) := by decide +kernel
theorem dX10_define_96 : decode cX10_define 96 = .ok (.iadd, 1) := by decide +kernel
theorem dX10_define_97 : decode cX10_define 97 = .ok (.aload_n 0, 1) := by decide +kernel
theorem dX10_define_98 : decode cX10_define 98 = .ok (.getfield 60, 3) := by decide +kernel
theorem dX10_define_101 : decode cX10_define 101 = .ok (.iload 4, 2) := by decide +kernel
theorem dX10_define_103 : decode cX10_define 103 = .ok (.iaload, 1) := by decide +kernel
theorem dX10_define_104 : decode cX10_define 104 = .ok (.iadd, 1) := by decide +kernel
theorem dX10_define_105 : decode cX10_define 105 = .ok (.iload 4, 2) := by decide +kernel
theorem dX10_define_107 : decode cX10_define 107 = .ok (.iastore, 1) := by decide +kernel
theorem dX10_define_108 : decode cX10_define 108 = .ok (.iload_n 3, 1) := by decide +kernel
theorem dX10_define_109 : decode cX10_define 109 = .ok (.aload_n 0, 1) := by decide +kernel
theorem dX10_define_110 : decode cX10_define 110 = .ok (.getfield 60, 3) := by decide +kernel
theorem dX10_define_113 : decode cX10_define 113 = .ok (.iload 4, 2) := by decide +kernel
theorem dX10_define_115 : decode cX10_define 115 = .ok (.iaload, 1) := by decide +kernel
theorem dX10_define_116 : decode cX10_define 116 = .ok (.iload 4, 2) := by decide +kernel
theorem dX10_define_118 : decode cX10_define 118 = .ok (.if_icmp .eq 7, 3) := by decide +kernel
theorem dX10_define_121 : decode cX10_define 121 = .ok (.iconst 1, 1) := by decide +kernel
theorem dX10_define_122 : decode cX10_define 122 = .ok (.goto 4, 3) := by decide +kernel
theorem dX10_define_125 : decode cX10_define 125 = .ok (.iconst 0, 1) := by decide +kernel
theorem dX10_define_126 : decode cX10_define 126 = .ok (.iadd, 1) := by decide +kernel
theorem dX10_define_127 : decode cX10_define 127 = .ok (.istore_n 3, 1) := by decide +kernel
theorem dX10_define_128 : decode cX10_define 128 = .ok (.iinc 4 1, 3) := by decide +kernel
theorem dX10_define_131 : decode cX10_define 131 = .ok (.goto (-71), 3) := by decide +kernel
theorem dX10_define_134 : decode cX10_define 134 = .ok (.aload_n 0, 1) := by decide +kernel
theorem dX10_define_135 : decode cX10_define 135 = .ok (.iload_n 3, 1) := by decide +kernel
theorem dX10_define_136 : decode cX10_define 136 = .ok (.invokevirtual 105, 3) := by decide +kernel
theorem dX10_define_139 : decode cX10_define 139 = .ok (.ireturn, 1) := by decide +kernel
theorem dX10_comes_0 : decode cX10_comes 0 = .ok (.aload_n 0, 1) := by decide +kernel
theorem dX10_comes_1 : decode cX10_comes 1 = .ok (.getfield 129, 3) := by decide +kernel
theorem dX10_comes_4 : decode cX10_comes 4 = .ok (.sipush 200, 3) := by decide +kernel
theorem dX10_comes_7 : decode cX10_comes 7 = .ok (.if_icmp .ne 11, 3) := by decide +kernel
theorem dX10_comes_10 : decode cX10_comes 10 = .ok (.aload_n 0, 1) := by decide +kernel
theorem dX10_comes_11 : decode cX10_comes 11 = .ok (.iconst 1, 1) := by decide +kernel
theorem dX10_comes_12 : decode cX10_comes 12 = .ok (.putfield 132, 3) := by decide +kernel
theorem dX10_comes_15 : decode cX10_comes 15 = .ok (.goto 23, 3) := by decide +kernel
theorem dX10_comes_18 : decode cX10_comes 18 = .ok (.aload_n 0, 1) := by decide +kernel
theorem dX10_comes_19 : decode cX10_comes 19 = .ok (.getfield 66, 3) := by decide +kernel
theorem dX10_comes_22 : decode cX10_comes 22 = .ok (.aload_n 0, 1) := by decide +kernel
theorem dX10_comes_23 : decode cX10_comes 23 = .ok (.getfield 129, 3) := by decide +kernel
theorem dX10_comes_26 : decode cX10_comes 26 = .ok (.iload_n 1, 1) := by decide +kernel
theorem dX10_comes_27 : decode cX10_comes 27 = .ok (.iastore, 1) := by decide +kernel
theorem dX10_comes_28 : decode cX10_comes 28 = .ok (.aload_n 0, 1) := by decide +kernel
theorem dX10_comes_29 : decode cX10_comes 29 = .ok (.dup, 1) := by decide +kernel
theorem dX10_comes_30 : decode cX10_comes 30 = .ok (.getfield 129, 3) := by decide +kernel
theorem dX10_comes_33 : decode cX10_comes 33 = .ok (.iconst 1, 1) := by decide +kernel
theorem dX10_comes_34 : decode cX10_comes 34 = .ok (.iadd, 1) := by decide +kernel
theorem dX10_comes_35 : decode cX10_comes 35 = .ok (.putfield 129, 3) := by decide +kernel
theorem dX10_comes_38 : decode cX10_comes 38 = .ok (.return_, 1) := by decide +kernel
theorem dX10_comesBack_0 : decode cX10_comesBack 0 = .ok (.iload_n 2, 1) := by decide +kernel
theorem dX10_comesBack_1 : decode cX10_comesBack 1 = .ok (.iconst 1, 1) := by decide +kernel
theorem dX10_comesBack_2 : decode cX10_comesBack 2 = .ok (.isub, 1) := by decide +kernel
theorem dX10_comesBack_3 : decode cX10_comesBack 3 = .ok (.istore_n 3, 1) := by decide +kernel
theorem dX10_comesBack_4 : decode cX10_comesBack 4 = .ok (.iload_n 3, 1) := by decide +kernel
theorem dX10_comesBack_5 : decode cX10_comesBack 5 = .ok (.iload_n 1, 1) := by decide +kernel
theorem dX10_comesBack_6 : decode cX10_comesBack 6 = .ok (.if_icmp .lt 21, 3) := by decide +kernel
theorem dX10_comesBack_9 : decode cX10_comesBack 9 = .ok (.aload_n 0, 1) := by decide +kernel
theorem dX10_comesBack_10 : decode cX10_comesBack 10 = .ok (.aload_n 0, 1) := by decide +kernel
theorem dX10_comesBack_11 : decode cX10_comesBack 11 = .ok (.getfield 66, 3) := by decide +kernel
theorem dX10_comesBack_14 : decode cX10_comesBack 14 = .ok (.iload_n 3, 1) := by decide +kernel
theorem dX10_comesBack_15 : decode cX10_comesBack 15 = .ok (.iaload, 1) := by decide +kernel
theorem dX10_comesBack_16 : decode cX10_comesBack 16 = .ok (.iconst 1, 1) := by decide +kernel
theorem dX10_comesBack_17 : decode cX10_comesBack 17 = .ok (.ixor, 1) := by decide +kernel
theorem dX10_comesBack_18 : decode cX10_comesBack 18 = .ok (.invokevirtual 135, 3) := by decide +kernel
theorem dX10_comesBack_21 : decode cX10_comesBack 21 = .ok (.iinc 3 (-1), 3) := by decide +kernel
theorem dX10_comesBack_24 : decode cX10_comesBack 24 = .ok (.goto (-20), 3) := by decide +kernel
theorem dX10_comesBack_27 : decode cX10_comesBack 27 = .ok (.return_, 1) := by decide +kernel
theorem dX10_turns_0 : decode cX10_turns 0 = .ok (.aload_n 0, 1) := by decide +kernel
theorem dX10_turns_1 : decode cX10_turns 1 = .ok (.getfield 129, 3) := by decide +kernel
theorem dX10_turns_4 : decode cX10_turns 4 = .ok (.iload_n 1, 1) := by decide +kernel
theorem dX10_turns_5 : decode cX10_turns 5 = .ok (.isub, 1) := by decide +kernel
theorem dX10_turns_6 : decode cX10_turns 6 = .ok (.istore_n 2, 1) := by decide +kernel
theorem dX10_turns_7 : decode cX10_turns 7 = .ok (.iconst 0, 1) := by decide +kernel
theorem dX10_turns_8 : decode cX10_turns 8 = .ok (.istore_n 3, 1) := by decide +kernel
theorem dX10_turns_9 : decode cX10_turns 9 = .ok (.iload_n 3, 1) := by decide +kernel
theorem dX10_turns_10 : decode cX10_turns 10 = .ok (.iload_n 2, 1) := by decide +kernel
theorem dX10_turns_11 : decode cX10_turns 11 = .ok (.iconst 2, 1) := by decide +kernel
theorem dX10_turns_12 : decode cX10_turns 12 = .ok (.idiv, 1) := by decide +kernel
theorem dX10_turns_13 : decode cX10_turns 13 = .ok (.if_icmp .ge 55, 3) := by decide +kernel
theorem dX10_turns_16 : decode cX10_turns 16 = .ok (.aload_n 0, 1) := by decide +kernel
theorem dX10_turns_17 : decode cX10_turns 17 = .ok (.getfield 66, 3) := by decide +kernel
theorem dX10_turns_20 : decode cX10_turns 20 = .ok (.iload_n 1, 1) := by decide +kernel
theorem dX10_turns_21 : decode cX10_turns 21 = .ok (.iload_n 3, 1) := by decide +kernel
theorem dX10_turns_22 : decode cX10_turns 22 = .ok (.iadd, 1) := by decide +kernel
theorem dX10_turns_23 : decode cX10_turns 23 = .ok (.iaload, 1) := by decide +kernel
theorem dX10_turns_24 : decode cX10_turns 24 = .ok (.istore 4, 2) := by decide +kernel
theorem dX10_turns_26 : decode cX10_turns 26 = .ok (.aload_n 0, 1) := by decide +kernel
theorem dX10_turns_27 : decode cX10_turns 27 = .ok (.getfield 66, 3) := by decide +kernel
theorem dX10_turns_30 : decode cX10_turns 30 = .ok (.iload_n 1, 1) := by decide +kernel
theorem dX10_turns_31 : decode cX10_turns 31 = .ok (.iload_n 3, 1) := by decide +kernel
theorem dX10_turns_32 : decode cX10_turns 32 = .ok (.iadd, 1) := by decide +kernel
theorem dX10_turns_33 : decode cX10_turns 33 = .ok (.aload_n 0, 1) := by decide +kernel
theorem dX10_turns_34 : decode cX10_turns 34 = .ok (.getfield 66, 3) := by decide +kernel
theorem dX10_turns_37 : decode cX10_turns 37 = .ok (.aload_n 0, 1) := by decide +kernel
theorem dX10_turns_38 : decode cX10_turns 38 = .ok (.getfield 129, 3) := by decide +kernel
theorem dX10_turns_41 : decode cX10_turns 41 = .ok (.iconst 1, 1) := by decide +kernel
theorem dX10_turns_42 : decode cX10_turns 42 = .ok (.isub, 1) := by decide +kernel
theorem dX10_turns_43 : decode cX10_turns 43 = .ok (.iload_n 3, 1) := by decide +kernel
theorem dX10_turns_44 : decode cX10_turns 44 = .ok (.isub, 1) := by decide +kernel
theorem dX10_turns_45 : decode cX10_turns 45 = .ok (.iaload, 1) := by decide +kernel
theorem dX10_turns_46 : decode cX10_turns 46 = .ok (.iastore, 1) := by decide +kernel
theorem dX10_turns_47 : decode cX10_turns 47 = .ok (.aload_n 0, 1) := by decide +kernel
theorem dX10_turns_48 : decode cX10_turns 48 = .ok (.getfield 66, 3) := by decide +kernel
theorem dX10_turns_51 : decode cX10_turns 51 = .ok (.aload_n 0, 1) := by decide +kernel
theorem dX10_turns_52 : decode cX10_turns 52 = .ok (.getfield 129, 3) := by decide +kernel
theorem dX10_turns_55 : decode cX10_turns 55 = .ok (.iconst 1, 1) := by decide +kernel
theorem dX10_turns_56 : decode cX10_turns 56 = .ok (.isub, 1) := by decide +kernel
theorem dX10_turns_57 : decode cX10_turns 57 = .ok (.iload_n 3, 1) := by decide +kernel
theorem dX10_turns_58 : decode cX10_turns 58 = .ok (.isub, 1) := by decide +kernel
theorem dX10_turns_59 : decode cX10_turns 59 = .ok (.iload 4, 2) := by decide +kernel
theorem dX10_turns_61 : decode cX10_turns 61 = .ok (.iastore, 1) := by decide +kernel
theorem dX10_turns_62 : decode cX10_turns 62 = .ok (.iinc 3 1, 3) := by decide +kernel
theorem dX10_turns_65 : decode cX10_turns 65 = .ok (.goto (-56), 3) := by decide +kernel
theorem dX10_turns_68 : decode cX10_turns 68 = .ok (.iload_n 1, 1) := by decide +kernel
theorem dX10_turns_69 : decode cX10_turns 69 = .ok (.istore_n 3, 1) := by decide +kernel
theorem dX10_turns_70 : decode cX10_turns 70 = .ok (.iload_n 3, 1) := by decide +kernel
theorem dX10_turns_71 : decode cX10_turns 71 = .ok (.aload_n 0, 1) := by decide +kernel
theorem dX10_turns_72 : decode cX10_turns 72 = .ok (.getfield 129, 3) := by decide +kernel
theorem dX10_turns_75 : decode cX10_turns 75 = .ok (.if_icmp .ge 19, 3) := by decide +kernel
theorem dX10_turns_78 : decode cX10_turns 78 = .ok (.aload_n 0, 1) := by decide +kernel
theorem dX10_turns_79 : decode cX10_turns 79 = .ok (.getfield 66, 3) := by decide +kernel
theorem dX10_turns_82 : decode cX10_turns 82 = .ok (.iload_n 3, 1) := by decide +kernel
theorem dX10_turns_83 : decode cX10_turns 83 = .ok (.dup2, 1) := by decide +kernel
theorem dX10_turns_84 : decode cX10_turns 84 = .ok (.iaload, 1) := by decide +kernel
theorem dX10_turns_85 : decode cX10_turns 85 = .ok (.iconst 1, 1) := by decide +kernel
theorem dX10_turns_86 : decode cX10_turns 86 = .ok (.ixor, 1) := by decide +kernel
theorem dX10_turns_87 : decode cX10_turns 87 = .ok (.iastore, 1) := by decide +kernel
theorem dX10_turns_88 : decode cX10_turns 88 = .ok (.iinc 3 1, 3) := by decide +kernel
theorem dX10_turns_91 : decode cX10_turns 91 = .ok (.goto (-21), 3) := by decide +kernel
theorem dX10_turns_94 : decode cX10_turns 94 = .ok (.return_, 1) := by decide +kernel
theorem dX10_readsBehind_0 : decode cX10_readsBehind 0 = .ok (.aload_n 0, 1) := by decide +kernel
theorem dX10_readsBehind_1 : decode cX10_readsBehind 1 = .ok (.invokevirtual 114, 3) := by decide +kernel
theorem dX10_readsBehind_4 : decode cX10_readsBehind 4 = .ok (.bipush 39, 2) := by decide +kernel
theorem dX10_readsBehind_6 : decode cX10_readsBehind 6 = .ok (.if_icmp .ne 18, 3) := by decide +kernel
theorem dX10_readsBehind_9 : decode cX10_readsBehind 9 = .ok (.aload_n 0, 1) := by decide +kernel
theorem dX10_readsBehind_10 : decode cX10_readsBehind 10 = .ok (.iload_n 1, 1) := by decide +kernel
theorem dX10_readsBehind_11 : decode cX10_readsBehind 11 = .ok (.invokevirtual 139, 3) := by decide +kernel
theorem dX10_readsBehind_14 : decode cX10_readsBehind 14 = .ok (.aload_n 0, 1) := by decide +kernel
theorem dX10_readsBehind_15 : decode cX10_readsBehind 15 = .ok (.dup, 1) := by decide +kernel
theorem dX10_readsBehind_16 : decode cX10_readsBehind 16 = .ok (.getfield 111, 3) := by decide +kernel
theorem dX10_readsBehind_19 : decode cX10_readsBehind 19 = .ok (.iconst 1, 1) := by decide +kernel
theorem dX10_readsBehind_20 : decode cX10_readsBehind 20 = .ok (.iadd, 1) := by decide +kernel
theorem dX10_readsBehind_21 : decode cX10_readsBehind 21 = .ok (.putfield 111, 3) := by decide +kernel
theorem dX10_readsBehind_24 : decode cX10_readsBehind 24 = .ok (.aload_n 0, 1) := by decide +kernel
theorem dX10_readsBehind_25 : decode cX10_readsBehind 25 = .ok (.invokevirtual 114, 3) := by decide +kernel
theorem dX10_readsBehind_28 : decode cX10_readsBehind 28 = .ok (.bipush 50, 2) := by decide +kernel
theorem dX10_readsBehind_30 : decode cX10_readsBehind 30 = .ok (.bipush 57, 2) := by decide +kernel
theorem dX10_readsBehind_32 : decode cX10_readsBehind 32 = .ok (.invokestatic 90, 3) := by decide +kernel
theorem dX10_readsBehind_35 : decode cX10_readsBehind 35 = .ok (.ifCond .eq 63, 3) := by decide +kernel
theorem dX10_readsBehind_38 : decode cX10_readsBehind 38 = .ok (.aload_n 0, 1) := by decide +kernel
theorem dX10_readsBehind_39 : decode cX10_readsBehind 39 = .ok (.getfield 129, 3) := by decide +kernel
theorem dX10_readsBehind_42 : decode cX10_readsBehind 42 = .ok (.istore_n 2, 1) := by decide +kernel
theorem dX10_readsBehind_43 : decode cX10_readsBehind 43 = .ok (.iconst 1, 1) := by decide +kernel
theorem dX10_readsBehind_44 : decode cX10_readsBehind 44 = .ok (.istore_n 3, 1) := by decide +kernel
theorem dX10_readsBehind_45 : decode cX10_readsBehind 45 = .ok (.iload_n 3, 1) := by decide +kernel
theorem dX10_readsBehind_46 : decode cX10_readsBehind 46 = .ok (.aload_n 0, 1) := by decide +kernel
theorem dX10_readsBehind_47 : decode cX10_readsBehind 47 = .ok (.invokevirtual 114, 3) := by decide +kernel
theorem dX10_readsBehind_50 : decode cX10_readsBehind 50 = .ok (.bipush 48, 2) := by decide +kernel
theorem dX10_readsBehind_52 : decode cX10_readsBehind 52 = .ok (.isub, 1) := by decide +kernel
theorem dX10_readsBehind_53 : decode cX10_readsBehind 53 = .ok (.if_icmp .ge 35, 3) := by decide +kernel
theorem dX10_readsBehind_56 : decode cX10_readsBehind 56 = .ok (.iload_n 1, 1) := by decide +kernel
theorem dX10_readsBehind_57 : decode cX10_readsBehind 57 = .ok (.istore 4, 2) := by decide +kernel
theorem dX10_readsBehind_59 : decode cX10_readsBehind 59 = .ok (.iload 4, 2) := by decide +kernel
theorem dX10_readsBehind_61 : decode cX10_readsBehind 61 = .ok (.iload_n 2, 1) := by decide +kernel
theorem dX10_readsBehind_62 : decode cX10_readsBehind 62 = .ok (.if_icmp .ge 20, 3) := by decide +kernel
theorem dX10_readsBehind_65 : decode cX10_readsBehind 65 = .ok (.aload_n 0, 1) := by decide +kernel
theorem dX10_readsBehind_66 : decode cX10_readsBehind 66 = .ok (.aload_n 0, 1) := by decide +kernel
theorem dX10_readsBehind_67 : decode cX10_readsBehind 67 = .ok (.getfield 66, 3) := by decide +kernel
theorem dX10_readsBehind_70 : decode cX10_readsBehind 70 = .ok (.iload 4, 2) := by decide +kernel
theorem dX10_readsBehind_72 : decode cX10_readsBehind 72 = .ok (.iaload, 1) := by decide +kernel
theorem dX10_readsBehind_73 : decode cX10_readsBehind 73 = .ok (.invokevirtual 135, 3) := by decide +kernel
theorem dX10_readsBehind_76 : decode cX10_readsBehind 76 = .ok (.iinc 4 1, 3) := by decide +kernel
theorem dX10_readsBehind_79 : decode cX10_readsBehind 79 = .ok (.goto (-20), 3) := by decide +kernel
theorem dX10_readsBehind_82 : decode cX10_readsBehind 82 = .ok (.iinc 3 1, 3) := by decide +kernel
theorem dX10_readsBehind_85 : decode cX10_readsBehind 85 = .ok (.goto (-40), 3) := by decide +kernel
theorem dX10_readsBehind_88 : decode cX10_readsBehind 88 = .ok (.aload_n 0, 1) := by decide +kernel
theorem dX10_readsBehind_89 : decode cX10_readsBehind 89 = .ok (.dup, 1) := by decide +kernel
theorem dX10_readsBehind_90 : decode cX10_readsBehind 90 = .ok (.getfield 111, 3) := by decide +kernel
theorem dX10_readsBehind_93 : decode cX10_readsBehind 93 = .ok (.iconst 1, 1) := by decide +kernel
theorem dX10_readsBehind_94 : decode cX10_readsBehind 94 = .ok (.iadd, 1) := by decide +kernel
theorem dX10_readsBehind_95 : decode cX10_readsBehind 95 = .ok (.putfield 111, 3) := by decide +kernel
theorem dX10_readsBehind_98 : decode cX10_readsBehind 98 = .ok (.return_, 1) := by decide +kernel
theorem dX10_readsElement_0 : decode cX10_readsElement 0 = .ok (.aload_n 0, 1) := by decide +kernel
theorem dX10_readsElement_1 : decode cX10_readsElement 1 = .ok (.invokevirtual 114, 3) := by decide +kernel
theorem dX10_readsElement_4 : decode cX10_readsElement 4 = .ok (.istore_n 1, 1) := by decide +kernel
theorem dX10_readsElement_5 : decode cX10_readsElement 5 = .ok (.aload_n 0, 1) := by decide +kernel
theorem dX10_readsElement_6 : decode cX10_readsElement 6 = .ok (.getfield 129, 3) := by decide +kernel
theorem dX10_readsElement_9 : decode cX10_readsElement 9 = .ok (.istore_n 2, 1) := by decide +kernel
theorem dX10_readsElement_10 : decode cX10_readsElement 10 = .ok (.iload_n 1, 1) := by decide +kernel
theorem dX10_readsElement_11 : decode cX10_readsElement 11 = .ok (.bipush 97, 2) := by decide +kernel
theorem dX10_readsElement_13 : decode cX10_readsElement 13 = .ok (.bipush 101, 2) := by decide +kernel
theorem dX10_readsElement_15 : decode cX10_readsElement 15 = .ok (.invokestatic 90, 3) := by decide +kernel
theorem dX10_readsElement_18 : decode cX10_readsElement 18 = .ok (.ifCond .eq 53, 3) := by decide +kernel
theorem dX10_readsElement_21 : decode cX10_readsElement 21 = .ok (.aload_n 0, 1) := by decide +kernel
theorem dX10_readsElement_22 : decode cX10_readsElement 22 = .ok (.aload_n 0, 1) := by decide +kernel
theorem dX10_readsElement_23 : decode cX10_readsElement 23 = .ok (.getfield 142, 3) := by decide +kernel
theorem dX10_readsElement_26 : decode cX10_readsElement 26 = .ok (.ifCond .ne 15, 3) := by decide +kernel
theorem dX10_readsElement_29 : decode cX10_readsElement 29 = .ok (.aload_n 0, 1) := by decide +kernel
theorem dX10_readsElement_30 : decode cX10_readsElement 30 = .ok (.getfield 17, 3) := by decide +kernel
theorem dX10_readsElement_33 : decode cX10_readsElement 33 = .ok (.iload_n 1, 1) := by decide +kernel
theorem dX10_readsElement_34 : decode cX10_readsElement 34 = .ok (.bipush 97, 2) := by decide +kernel
theorem dX10_readsElement_36 : decode cX10_readsElement 36 = .ok (.isub, 1) := by decide +kernel
theorem dX10_readsElement_37 : decode cX10_readsElement 37 = .ok (.baload, 1) := by decide +kernel
theorem dX10_readsElement_38 : decode cX10_readsElement 38 = .ok (.ifCond .ne 7, 3) := by decide +kernel
theorem dX10_readsElement_41 : decode cX10_readsElement 41 = .ok (.iconst 1, 1) := by decide +kernel
theorem dX10_readsElement_42 : decode cX10_readsElement 42 = .ok (.goto 4, 3) := by decide +kernel
theorem dX10_readsElement_45 : decode cX10_readsElement 45 = .ok (.iconst 0, 1) := by decide +kernel
theorem dX10_readsElement_46 : decode cX10_readsElement 46 = .ok (.putfield 142, 3) := by decide +kernel
theorem dX10_readsElement_49 : decode cX10_readsElement 49 = .ok (.aload_n 0, 1) := by decide +kernel
theorem dX10_readsElement_50 : decode cX10_readsElement 50 = .ok (.iconst 2, 1) := by decide +kernel
theorem dX10_readsElement_51 : decode cX10_readsElement 51 = .ok (.iload_n 1, 1) := by decide +kernel
theorem dX10_readsElement_52 : decode cX10_readsElement 52 = .ok (.bipush 97, 2) := by decide +kernel
theorem dX10_readsElement_54 : decode cX10_readsElement 54 = .ok (.isub, 1) := by decide +kernel
theorem dX10_readsElement_55 : decode cX10_readsElement 55 = .ok (.imul, 1) := by decide +kernel
theorem dX10_readsElement_56 : decode cX10_readsElement 56 = .ok (.invokevirtual 135, 3) := by decide +kernel
theorem dX10_readsElement_59 : decode cX10_readsElement 59 = .ok (.aload_n 0, 1) := by decide +kernel
theorem dX10_readsElement_60 : decode cX10_readsElement 60 = .ok (.dup, 1) := by decide +kernel
theorem dX10_readsElement_61 : decode cX10_readsElement 61 = .ok (.getfield 111, 3) := by decide +kernel
theorem dX10_readsElement_64 : decode cX10_readsElement 64 = .ok (.iconst 1, 1) := by decide +kernel
theorem dX10_readsElement_65 : decode cX10_readsElement 65 = .ok (.iadd, 1) := by decide +kernel
theorem dX10_readsElement_66 : decode cX10_readsElement 66 = .ok (.putfield 111, 3) := by decide +kernel
theorem dX10_readsElement_69 : decode cX10_readsElement 69 = .ok (.iconst 1, 1) := by decide +kernel
theorem dX10_readsElement_70 : decode cX10_readsElement 70 = .ok (.ireturn, 1) := by decide +kernel
theorem dX10_readsElement_71 : decode cX10_readsElement 71 = .ok (.iload_n 1, 1) := by decide +kernel
theorem dX10_readsElement_72 : decode cX10_readsElement 72 = .ok (.bipush 40, 2) := by decide +kernel
theorem dX10_readsElement_74 : decode cX10_readsElement 74 = .ok (.if_icmp .eq 9, 3) := by decide +kernel
theorem dX10_readsElement_77 : decode cX10_readsElement 77 = .ok (.iload_n 1, 1) := by decide +kernel
theorem dX10_readsElement_78 : decode cX10_readsElement 78 = .ok (.bipush 60, 2) := by decide +kernel
theorem dX10_readsElement_80 : decode cX10_readsElement 80 = .ok (.if_icmp .ne 12, 3) := by decide +kernel
theorem dX10_readsElement_83 : decode cX10_readsElement 83 = .ok (.aload_n 0, 1) := by decide +kernel
theorem dX10_readsElement_84 : decode cX10_readsElement 84 = .ok (.getfield 145, 3) := by decide +kernel
theorem dX10_readsElement_87 : decode cX10_readsElement 87 = .ok (.bipush 6, 2) := by decide +kernel
theorem dX10_readsElement_89 : decode cX10_readsElement 89 = .ok (.if_icmp .ne 5, 3) := by decide +kernel
theorem dX10_readsElement_92 : decode cX10_readsElement 92 = .ok (.iconst 0, 1) := by decide +kernel
theorem dX10_readsElement_93 : decode cX10_readsElement 93 = .ok (.ireturn, 1) := by decide +kernel
theorem dX10_readsElement_94 : decode cX10_readsElement 94 = .ok (.aload_n 0, 1) := by decide +kernel
theorem dX10_readsElement_95 : decode cX10_readsElement 95 = .ok (.dup, 1) := by decide +kernel
theorem dX10_readsElement_96 : decode cX10_readsElement 96 = .ok (.getfield 145, 3) := by decide +kernel
theorem dX10_readsElement_99 : decode cX10_readsElement 99 = .ok (.iconst 1, 1) := by decide +kernel
theorem dX10_readsElement_100 : decode cX10_readsElement 100 = .ok (.iadd, 1) := by decide +kernel
theorem dX10_readsElement_101 : decode cX10_readsElement 101 = .ok (.putfield 145, 3) := by decide +kernel
theorem dX10_readsElement_104 : decode cX10_readsElement 104 = .ok (.aload_n 0, 1) := by decide +kernel
theorem dX10_readsElement_105 : decode cX10_readsElement 105 = .ok (.dup, 1) := by decide +kernel
theorem dX10_readsElement_106 : decode cX10_readsElement 106 = .ok (.getfield 111, 3) := by decide +kernel
theorem dX10_readsElement_109 : decode cX10_readsElement 109 = .ok (.iconst 1, 1) := by decide +kernel
theorem dX10_readsElement_110 : decode cX10_readsElement 110 = .ok (.iadd, 1) := by decide +kernel
theorem dX10_readsElement_111 : decode cX10_readsElement 111 = .ok (.putfield 111, 3) := by decide +kernel
theorem dX10_readsElement_114 : decode cX10_readsElement 114 = .ok (.aload_n 0, 1) := by decide +kernel
theorem dX10_readsElement_115 : decode cX10_readsElement 115 = .ok (.invokestatic 148, 3) := by decide +kernel
theorem dX10_readsElement_118 : decode cX10_readsElement 118 = .ok (.ifCond .ne 5, 3) := by decide +kernel
theorem dX10_readsElement_121 : decode cX10_readsElement 121 = .ok (.iconst 0, 1) := by decide +kernel
theorem dX10_readsElement_122 : decode cX10_readsElement 122 = .ok (.ireturn, 1) := by decide +kernel
theorem dX10_readsElement_123 : decode cX10_readsElement 123 = .ok (.aload_n 0, 1) := by decide +kernel
theorem dX10_readsElement_124 : decode cX10_readsElement 124 = .ok (.getfield 129, 3) := by decide +kernel
theorem dX10_readsElement_127 : decode cX10_readsElement 127 = .ok (.istore_n 3, 1) := by decide +kernel
theorem dX10_readsElement_128 : decode cX10_readsElement 128 = .ok (.iload_n 1, 1) := by decide +kernel
theorem dX10_readsElement_129 : decode cX10_readsElement 129 = .ok (.bipush 60, 2) := by decide +kernel
theorem dX10_readsElement_131 : decode cX10_readsElement 131 = .ok (.if_icmp .ne 33, 3) := by decide +kernel
theorem dX10_readsElement_134 : decode cX10_readsElement 134 = .ok (.aload_n 0, 1) := by decide +kernel
theorem dX10_readsElement_135 : decode cX10_readsElement 135 = .ok (.invokevirtual 114, 3) := by decide +kernel
theorem dX10_readsElement_138 : decode cX10_readsElement 138 = .ok (.bipush 44, 2) := by decide +kernel
theorem dX10_readsElement_140 : decode cX10_readsElement 140 = .ok (.if_icmp .eq 5, 3) := by decide +kernel
theorem dX10_readsElement_143 : decode cX10_readsElement 143 = .ok (.iconst 0, 1) := by decide +kernel
theorem dX10_readsElement_144 : decode cX10_readsElement 144 = .ok (.ireturn, 1) := by decide +kernel
theorem dX10_readsElement_145 : decode cX10_readsElement 145 = .ok (.aload_n 0, 1) := by decide +kernel
theorem dX10_readsElement_146 : decode cX10_readsElement 146 = .ok (.dup, 1) := by decide +kernel
theorem dX10_readsElement_147 : decode cX10_readsElement 147 = .ok (.getfield 111, 3) := by decide +kernel
theorem dX10_readsElement_150 : decode cX10_readsElement 150 = .ok (.iconst 1, 1) := by decide +kernel
theorem dX10_readsElement_151 : decode cX10_readsElement 151 = .ok (.iadd, 1) := by decide +kernel
theorem dX10_readsElement_152 : decode cX10_readsElement 152 = .ok (.putfield 111, 3) := by decide +kernel
theorem dX10_readsElement_155 : decode cX10_readsElement 155 = .ok (.aload_n 0, 1) := by decide +kernel
theorem dX10_readsElement_156 : decode cX10_readsElement 156 = .ok (.invokestatic 148, 3) := by decide +kernel
theorem dX10_readsElement_159 : decode cX10_readsElement 159 = .ok (.ifCond .ne 5, 3) := by decide +kernel
theorem dX10_readsElement_162 : decode cX10_readsElement 162 = .ok (.iconst 0, 1) := by decide +kernel
theorem dX10_readsElement_163 : decode cX10_readsElement 163 = .ok (.ireturn, 1) := by decide +kernel
theorem dX10_readsElement_164 : decode cX10_readsElement 164 = .ok (.aload_n 0, 1) := by decide +kernel
theorem dX10_readsElement_165 : decode cX10_readsElement 165 = .ok (.invokevirtual 114, 3) := by decide +kernel
theorem dX10_readsElement_168 : decode cX10_readsElement 168 = .ok (.iload_n 1, 1) := by decide +kernel
theorem dX10_readsElement_169 : decode cX10_readsElement 169 = .ok (.bipush 40, 2) := by decide +kernel
theorem dX10_readsElement_171 : decode cX10_readsElement 171 = .ok (.if_icmp .ne 8, 3) := by decide +kernel
theorem dX10_readsElement_174 : decode cX10_readsElement 174 = .ok (.bipush 41, 2) := by decide +kernel
theorem dX10_readsElement_176 : decode cX10_readsElement 176 = .ok (.goto 5, 3) := by decide +kernel
theorem dX10_readsElement_179 : decode cX10_readsElement 179 = .ok (.bipush 62, 2) := by decide +kernel
theorem dX10_readsElement_181 : decode cX10_readsElement 181 = .ok (.if_icmp .eq 5, 3) := by decide +kernel
theorem dX10_readsElement_184 : decode cX10_readsElement 184 = .ok (.iconst 0, 1) := by decide +kernel
theorem dX10_readsElement_185 : decode cX10_readsElement 185 = .ok (.ireturn, 1) := by decide +kernel
theorem dX10_readsElement_186 : decode cX10_readsElement 186 = .ok (.aload_n 0, 1) := by decide +kernel
theorem dX10_readsElement_187 : decode cX10_readsElement 187 = .ok (.dup, 1) := by decide +kernel
theorem dX10_readsElement_188 : decode cX10_readsElement 188 = .ok (.getfield 111, 3) := by decide +kernel
theorem dX10_readsElement_191 : decode cX10_readsElement 191 = .ok (.iconst 1, 1) := by decide +kernel
theorem dX10_readsElement_192 : decode cX10_readsElement 192 = .ok (.iadd, 1) := by decide +kernel
theorem dX10_readsElement_193 : decode cX10_readsElement 193 = .ok (.putfield 111, 3) := by decide +kernel
theorem dX10_readsElement_196 : decode cX10_readsElement 196 = .ok (.aload_n 0, 1) := by decide +kernel
theorem dX10_readsElement_197 : decode cX10_readsElement 197 = .ok (.dup, 1) := by decide +kernel
theorem dX10_readsElement_198 : decode cX10_readsElement 198 = .ok (.getfield 145, 3) := by decide +kernel
theorem dX10_readsElement_201 : decode cX10_readsElement 201 = .ok (.iconst 1, 1) := by decide +kernel
theorem dX10_readsElement_202 : decode cX10_readsElement 202 = .ok (.isub, 1) := by decide +kernel
theorem dX10_readsElement_203 : decode cX10_readsElement 203 = .ok (.putfield 145, 3) := by decide +kernel
theorem dX10_readsElement_206 : decode cX10_readsElement 206 = .ok (.iload_n 1, 1) := by decide +kernel
theorem dX10_readsElement_207 : decode cX10_readsElement 207 = .ok (.bipush 60, 2) := by decide +kernel
theorem dX10_readsElement_209 : decode cX10_readsElement 209 = .ok (.if_icmp .ne 22, 3) := by decide +kernel
theorem dX10_readsElement_212 : decode cX10_readsElement 212 = .ok (.aload_n 0, 1) := by decide +kernel
theorem dX10_readsElement_213 : decode cX10_readsElement 213 = .ok (.getfield 129, 3) := by decide +kernel
theorem dX10_readsElement_216 : decode cX10_readsElement 216 = .ok (.istore 4, 2) := by decide +kernel
theorem dX10_readsElement_218 : decode cX10_readsElement 218 = .ok (.aload_n 0, 1) := by decide +kernel
theorem dX10_readsElement_219 : decode cX10_readsElement 219 = .ok (.iload_n 2, 1) := by decide +kernel
theorem dX10_readsElement_220 : decode cX10_readsElement 220 = .ok (.iload_n 3, 1) := by decide +kernel
theorem dX10_readsElement_221 : decode cX10_readsElement 221 = .ok (.invokevirtual 152, 3) := by decide +kernel
theorem dX10_readsElement_224 : decode cX10_readsElement 224 = .ok (.aload_n 0, 1) := by decide +kernel
theorem dX10_readsElement_225 : decode cX10_readsElement 225 = .ok (.iload_n 3, 1) := by decide +kernel
theorem dX10_readsElement_226 : decode cX10_readsElement 226 = .ok (.iload 4, 2) := by decide +kernel
theorem dX10_readsElement_228 : decode cX10_readsElement 228 = .ok (.invokevirtual 152, 3) := by decide +kernel
theorem dX10_readsElement_231 : decode cX10_readsElement 231 = .ok (.iconst 1, 1) := by decide +kernel
theorem dX10_readsElement_232 : decode cX10_readsElement 232 = .ok (.ireturn, 1) := by decide +kernel
theorem dX10_readsWord_0 : decode cX10_readsWord 0 = .ok (.aload_n 0, 1) := by decide +kernel
theorem dX10_readsWord_1 : decode cX10_readsWord 1 = .ok (.invokevirtual 114, 3) := by decide +kernel
theorem dX10_readsWord_4 : decode cX10_readsWord 4 = .ok (.bipush 97, 2) := by decide +kernel
theorem dX10_readsWord_6 : decode cX10_readsWord 6 = .ok (.bipush 101, 2) := by decide +kernel
theorem dX10_readsWord_8 : decode cX10_readsWord 8 = .ok (.invokestatic 90, 3) := by decide +kernel
theorem dX10_readsWord_11 : decode cX10_readsWord 11 = .ok (.ifCond .ne 21, 3) := by decide +kernel
theorem dX10_readsWord_14 : decode cX10_readsWord 14 = .ok (.aload_n 0, 1) := by decide +kernel
theorem dX10_readsWord_15 : decode cX10_readsWord 15 = .ok (.invokevirtual 114, 3) := by decide +kernel
theorem dX10_readsWord_18 : decode cX10_readsWord 18 = .ok (.bipush 40, 2) := by decide +kernel
theorem dX10_readsWord_20 : decode cX10_readsWord 20 = .ok (.if_icmp .eq 12, 3) := by decide +kernel
theorem dX10_readsWord_23 : decode cX10_readsWord 23 = .ok (.aload_n 0, 1) := by decide +kernel
theorem dX10_readsWord_24 : decode cX10_readsWord 24 = .ok (.invokevirtual 114, 3) := by decide +kernel
theorem dX10_readsWord_27 : decode cX10_readsWord 27 = .ok (.bipush 60, 2) := by decide +kernel
theorem dX10_readsWord_29 : decode cX10_readsWord 29 = .ok (.if_icmp .ne 25, 3) := by decide +kernel
theorem dX10_readsWord_32 : decode cX10_readsWord 32 = .ok (.aload_n 0, 1) := by decide +kernel
theorem dX10_readsWord_33 : decode cX10_readsWord 33 = .ok (.getfield 129, 3) := by decide +kernel
theorem dX10_readsWord_36 : decode cX10_readsWord 36 = .ok (.istore_n 1, 1) := by decide +kernel
theorem dX10_readsWord_37 : decode cX10_readsWord 37 = .ok (.aload_n 0, 1) := by decide +kernel
theorem dX10_readsWord_38 : decode cX10_readsWord 38 = .ok (.invokestatic 156, 3) := by decide +kernel
theorem dX10_readsWord_41 : decode cX10_readsWord 41 = .ok (.ifCond .ne 5, 3) := by decide +kernel
theorem dX10_readsWord_44 : decode cX10_readsWord 44 = .ok (.iconst 0, 1) := by decide +kernel
theorem dX10_readsWord_45 : decode cX10_readsWord 45 = .ok (.ireturn, 1) := by decide +kernel
theorem dX10_readsWord_46 : decode cX10_readsWord 46 = .ok (.aload_n 0, 1) := by decide +kernel
theorem dX10_readsWord_47 : decode cX10_readsWord 47 = .ok (.iload_n 1, 1) := by decide +kernel
theorem dX10_readsWord_48 : decode cX10_readsWord 48 = .ok (.invokevirtual 159, 3) := by decide +kernel
theorem dX10_readsWord_51 : decode cX10_readsWord 51 = .ok (.goto (-51), 3) := by decide +kernel
theorem dX10_readsWord_54 : decode cX10_readsWord 54 = .ok (.iconst 1, 1) := by decide +kernel
theorem dX10_readsWord_55 : decode cX10_readsWord 55 = .ok (.ireturn, 1) := by decide +kernel
theorem dX10_keeps_0 : decode cX10_keeps 0 = .ok (.aload_n 0, 1) := by decide +kernel
theorem dX10_keeps_1 : decode cX10_keeps 1 = .ok (.getfield 24, 3) := by decide +kernel
theorem dX10_keeps_4 : decode cX10_keeps 4 = .ok (.iload_n 1, 1) := by decide +kernel
theorem dX10_keeps_5 : decode cX10_keeps 5 = .ok (.aload_n 0, 1) := by decide +kernel
theorem dX10_keeps_6 : decode cX10_keeps 6 = .ok (.getfield 129, 3) := by decide +kernel
theorem dX10_keeps_9 : decode cX10_keeps 9 = .ok (.iastore, 1) := by decide +kernel
theorem dX10_keeps_10 : decode cX10_keeps 10 = .ok (.iconst 0, 1) := by decide +kernel
theorem dX10_keeps_11 : decode cX10_keeps 11 = .ok (.istore_n 2, 1) := by decide +kernel
theorem dX10_keeps_12 : decode cX10_keeps 12 = .ok (.iload_n 2, 1) := by decide +kernel
theorem dX10_keeps_13 : decode cX10_keeps 13 = .ok (.aload_n 0, 1) := by decide +kernel
theorem dX10_keeps_14 : decode cX10_keeps 14 = .ok (.getfield 129, 3) := by decide +kernel
theorem dX10_keeps_17 : decode cX10_keeps 17 = .ok (.if_icmp .ge 27, 3) := by decide +kernel
theorem dX10_keeps_20 : decode cX10_keeps 20 = .ok (.aload_n 0, 1) := by decide +kernel
theorem dX10_keeps_21 : decode cX10_keeps 21 = .ok (.getfield 27, 3) := by decide +kernel
theorem dX10_keeps_24 : decode cX10_keeps 24 = .ok (.sipush 200, 3) := by decide +kernel
theorem dX10_keeps_27 : decode cX10_keeps 27 = .ok (.iload_n 1, 1) := by decide +kernel
theorem dX10_keeps_28 : decode cX10_keeps 28 = .ok (.imul, 1) := by decide +kernel
theorem dX10_keeps_29 : decode cX10_keeps 29 = .ok (.iload_n 2, 1) := by decide +kernel
theorem dX10_keeps_30 : decode cX10_keeps 30 = .ok (.iadd, 1) := by decide +kernel
theorem dX10_keeps_31 : decode cX10_keeps 31 = .ok (.aload_n 0, 1) := by decide +kernel
theorem dX10_keeps_32 : decode cX10_keeps 32 = .ok (.getfield 66, 3) := by decide +kernel
theorem dX10_keeps_35 : decode cX10_keeps 35 = .ok (.iload_n 2, 1) := by decide +kernel
theorem dX10_keeps_36 : decode cX10_keeps 36 = .ok (.iaload, 1) := by decide +kernel
theorem dX10_keeps_37 : decode cX10_keeps 37 = .ok (.iastore, 1) := by decide +kernel
theorem dX10_keeps_38 : decode cX10_keeps 38 = .ok (.iinc 2 1, 3) := by decide +kernel
theorem dX10_keeps_41 : decode cX10_keeps 41 = .ok (.goto (-29), 3) := by decide +kernel
theorem dX10_keeps_44 : decode cX10_keeps 44 = .ok (.aload_n 0, 1) := by decide +kernel
theorem dX10_keeps_45 : decode cX10_keeps 45 = .ok (.aload_n 0, 1) := by decide +kernel
theorem dX10_keeps_46 : decode cX10_keeps 46 = .ok (.getfield 129, 3) := by decide +kernel
theorem dX10_keeps_49 : decode cX10_keeps 49 = .ok (.invokevirtual 105, 3) := by decide +kernel
theorem dX10_keeps_52 : decode cX10_keeps 52 = .ok (.ireturn, 1) := by decide +kernel
theorem dX10_clears_0 : decode cX10_clears 0 = .ok (.aload_n 0, 1) := by decide +kernel
theorem dX10_clears_1 : decode cX10_clears 1 = .ok (.iconst 0, 1) := by decide +kernel
theorem dX10_clears_2 : decode cX10_clears 2 = .ok (.putfield 129, 3) := by decide +kernel
theorem dX10_clears_5 : decode cX10_clears 5 = .ok (.aload_n 0, 1) := by decide +kernel
theorem dX10_clears_6 : decode cX10_clears 6 = .ok (.iconst 0, 1) := by decide +kernel
theorem dX10_clears_7 : decode cX10_clears 7 = .ok (.putfield 132, 3) := by decide +kernel
theorem dX10_clears_10 : decode cX10_clears 10 = .ok (.aload_n 0, 1) := by decide +kernel
theorem dX10_clears_11 : decode cX10_clears 11 = .ok (.iconst 0, 1) := by decide +kernel
theorem dX10_clears_12 : decode cX10_clears 12 = .ok (.putfield 142, 3) := by decide +kernel
theorem dX10_clears_15 : decode cX10_clears 15 = .ok (.aload_n 0, 1) := by decide +kernel
theorem dX10_clears_16 : decode cX10_clears 16 = .ok (.iconst 0, 1) := by decide +kernel
theorem dX10_clears_17 : decode cX10_clears 17 = .ok (.putfield 145, 3) := by decide +kernel
theorem dX10_clears_20 : decode cX10_clears 20 = .ok (.return_, 1) := by decide +kernel
theorem dX10_store_0 : decode cX10_store 0 = .ok (.iload_n 1, 1) := by decide +kernel
theorem dX10_store_1 : decode cX10_store 1 = .ok (.invokestatic 162, 3) := by decide +kernel
theorem dX10_store_4 : decode cX10_store 4 = .ok (.ifCond .ne 9, 3) := by decide +kernel
theorem dX10_store_7 : decode cX10_store 7 = .ok (.aload_n 0, 1) := by decide +kernel
theorem dX10_store_8 : decode cX10_store 8 = .ok (.iconst 1, 1) := by decide +kernel
theorem dX10_store_9 : decode cX10_store 9 = .ok (.invokevirtual 94, 3) := by decide +kernel
theorem dX10_store_12 : decode cX10_store 12 = .ok (.ireturn, 1) := by decide +kernel
theorem dX10_store_13 : decode cX10_store 13 = .ok (.aload_n 0, 1) := by decide +kernel
theorem dX10_store_14 : decode cX10_store 14 = .ok (.invokevirtual 165, 3) := by decide +kernel
theorem dX10_store_17 : decode cX10_store 17 = .ok (.aload_n 0, 1) := by decide +kernel
theorem dX10_store_18 : decode cX10_store 18 = .ok (.iconst 0, 1) := by decide +kernel
theorem dX10_store_19 : decode cX10_store 19 = .ok (.putfield 111, 3) := by decide +kernel
theorem dX10_store_22 : decode cX10_store 22 = .ok (.aload_n 0, 1) := by decide +kernel
theorem dX10_store_23 : decode cX10_store 23 = .ok (.invokestatic 148, 3) := by decide +kernel
theorem dX10_store_26 : decode cX10_store 26 = .ok (.ifCond .eq 18, 3) := by decide +kernel
theorem dX10_store_29 : decode cX10_store 29 = .ok (.aload_n 0, 1) := by decide +kernel
theorem dX10_store_30 : decode cX10_store 30 = .ok (.getfield 111, 3) := by decide +kernel
theorem dX10_store_33 : decode cX10_store 33 = .ok (.aload_n 0, 1) := by decide +kernel
theorem dX10_store_34 : decode cX10_store 34 = .ok (.getfield 108, 3) := by decide +kernel
theorem dX10_store_37 : decode cX10_store 37 = .ok (.if_icmp .ne 7, 3) := by decide +kernel
theorem dX10_store_40 : decode cX10_store 40 = .ok (.iconst 1, 1) := by decide +kernel
theorem dX10_store_41 : decode cX10_store 41 = .ok (.goto 4, 3) := by decide +kernel
theorem dX10_store_44 : decode cX10_store 44 = .ok (.iconst 0, 1) := by decide +kernel
theorem dX10_store_45 : decode cX10_store 45 = .ok (.istore_n 2, 1) := by decide +kernel
theorem dX10_store_46 : decode cX10_store 46 = .ok (.aload_n 0, 1) := by decide +kernel
theorem dX10_store_47 : decode cX10_store 47 = .ok (.iconst 0, 1) := by decide +kernel
theorem dX10_store_48 : decode cX10_store 48 = .ok (.putfield 108, 3) := by decide +kernel
theorem dX10_store_51 : decode cX10_store 51 = .ok (.iload_n 2, 1) := by decide +kernel
theorem dX10_store_52 : decode cX10_store 52 = .ok (.ifCond .ne 17, 3) := by decide +kernel
theorem dX10_store_55 : decode cX10_store 55 = .ok (.aload_n 0, 1) := by decide +kernel
theorem dX10_store_56 : decode cX10_store 56 = .ok (.aload_n 0, 1) := by decide +kernel
theorem dX10_store_57 : decode cX10_store 57 = .ok (.getfield 111, 3) := by decide +kernel
theorem dX10_store_60 : decode cX10_store 60 = .ok (.putfield 34, 3) := by decide +kernel
theorem dX10_store_63 : decode cX10_store 63 = .ok (.aload_n 0, 1) := by decide +kernel
theorem dX10_store_64 : decode cX10_store 64 = .ok (.iconst 2, 1) := by decide +kernel
theorem dX10_store_65 : decode cX10_store 65 = .ok (.invokevirtual 94, 3) := by decide +kernel
theorem dX10_store_68 : decode cX10_store 68 = .ok (.ireturn, 1) := by decide +kernel
theorem dX10_store_69 : decode cX10_store 69 = .ok (.aload_n 0, 1) := by decide +kernel
theorem dX10_store_70 : decode cX10_store 70 = .ok (.getfield 142, 3) := by decide +kernel
theorem dX10_store_73 : decode cX10_store 73 = .ok (.ifCond .eq 11, 3) := by decide +kernel
theorem dX10_store_76 : decode cX10_store 76 = .ok (.aload_n 0, 1) := by decide +kernel
theorem dX10_store_77 : decode cX10_store 77 = .ok (.iconst 3, 1) := by decide +kernel
theorem dX10_store_78 : decode cX10_store 78 = .ok (.invokevirtual 94, 3) := by decide +kernel
theorem dX10_store_81 : decode cX10_store 81 = .ok (.goto 23, 3) := by decide +kernel
theorem dX10_store_84 : decode cX10_store 84 = .ok (.aload_n 0, 1) := by decide +kernel
theorem dX10_store_85 : decode cX10_store 85 = .ok (.getfield 132, 3) := by decide +kernel
theorem dX10_store_88 : decode cX10_store 88 = .ok (.ifCond .eq 11, 3) := by decide +kernel
theorem dX10_store_91 : decode cX10_store 91 = .ok (.aload_n 0, 1) := by decide +kernel
theorem dX10_store_92 : decode cX10_store 92 = .ok (.iconst 4, 1) := by decide +kernel
theorem dX10_store_93 : decode cX10_store 93 = .ok (.invokevirtual 94, 3) := by decide +kernel
theorem dX10_store_96 : decode cX10_store 96 = .ok (.goto 8, 3) := by decide +kernel
theorem dX10_store_99 : decode cX10_store 99 = .ok (.aload_n 0, 1) := by decide +kernel
theorem dX10_store_100 : decode cX10_store 100 = .ok (.iload_n 1, 1) := by decide +kernel
theorem dX10_store_101 : decode cX10_store 101 = .ok (.invokevirtual 168, 3) := by decide +kernel
theorem dX10_store_104 : decode cX10_store 104 = .ok (.ireturn, 1) := by decide +kernel
theorem dX10_errorPosition_0 : decode cX10_errorPosition 0 = .ok (.aload_n 0, 1) := by decide +kernel
theorem dX10_errorPosition_1 : decode cX10_errorPosition 1 = .ok (.getfield 34, 3) := by decide +kernel
theorem dX10_errorPosition_4 : decode cX10_errorPosition 4 = .ok (.iconst (-1), 1) := by decide +kernel
theorem dX10_errorPosition_5 : decode cX10_errorPosition 5 = .ok (.if_icmp .ne 11, 3) := by decide +kernel
theorem dX10_errorPosition_8 : decode cX10_errorPosition 8 = .ok (.aload_n 0, 1) := by decide +kernel
theorem dX10_errorPosition_9 : decode cX10_errorPosition 9 = .ok (.iconst 1, 1) := by decide +kernel
theorem dX10_errorPosition_10 : decode cX10_errorPosition 10 = .ok (.invokevirtual 94, 3) := by decide +kernel
theorem dX10_errorPosition_13 : decode cX10_errorPosition 13 = .ok (.goto 11, 3) := by decide +kernel
theorem dX10_errorPosition_16 : decode cX10_errorPosition 16 = .ok (.aload_n 0, 1) := by decide +kernel
theorem dX10_errorPosition_17 : decode cX10_errorPosition 17 = .ok (.aload_n 0, 1) := by decide +kernel
theorem dX10_errorPosition_18 : decode cX10_errorPosition 18 = .ok (.getfield 34, 3) := by decide +kernel
theorem dX10_errorPosition_21 : decode cX10_errorPosition 21 = .ok (.invokevirtual 105, 3) := by decide +kernel
theorem dX10_errorPosition_24 : decode cX10_errorPosition 24 = .ok (.ireturn, 1) := by decide +kernel
theorem dX10_target_0 : decode cX10_target 0 = .ok (.iload_n 1, 1) := by decide +kernel
theorem dX10_target_1 : decode cX10_target 1 = .ok (.iconst 0, 1) := by decide +kernel
theorem dX10_target_2 : decode cX10_target 2 = .ok (.iconst 4, 1) := by decide +kernel
theorem dX10_target_3 : decode cX10_target 3 = .ok (.invokestatic 90, 3) := by decide +kernel
theorem dX10_target_6 : decode cX10_target 6 = .ok (.ifCond .eq 11, 3) := by decide +kernel
theorem dX10_target_9 : decode cX10_target 9 = .ok (.aload_n 0, 1) := by decide +kernel
theorem dX10_target_10 : decode cX10_target 10 = .ok (.iload_n 2, 1) := by decide +kernel
theorem dX10_target_11 : decode cX10_target 11 = .ok (.invokevirtual 118, 3) := by decide +kernel
theorem dX10_target_14 : decode cX10_target 14 = .ok (.ifCond .ne 9, 3) := by decide +kernel
theorem dX10_target_17 : decode cX10_target 17 = .ok (.aload_n 0, 1) := by decide +kernel
theorem dX10_target_18 : decode cX10_target 18 = .ok (.iconst 1, 1) := by decide +kernel
theorem dX10_target_19 : decode cX10_target 19 = .ok (.invokevirtual 94, 3) := by decide +kernel
theorem dX10_target_22 : decode cX10_target 22 = .ok (.ireturn, 1) := by decide +kernel
theorem dX10_target_23 : decode cX10_target 23 = .ok (.aload_n 0, 1) := by decide +kernel
theorem dX10_target_24 : decode cX10_target 24 = .ok (.getfield 17, 3) := by decide +kernel
theorem dX10_target_27 : decode cX10_target 27 = .ok (.iload_n 1, 1) := by decide +kernel
theorem dX10_target_28 : decode cX10_target 28 = .ok (.baload, 1) := by decide +kernel
theorem dX10_target_29 : decode cX10_target 29 = .ok (.ifCond .eq 21, 3) := by decide +kernel
theorem dX10_target_32 : decode cX10_target 32 = .ok (.aload_n 0, 1) := by decide +kernel
theorem dX10_target_33 : decode cX10_target 33 = .ok (.aload_n 0, 1) := by decide +kernel
theorem dX10_target_34 : decode cX10_target 34 = .ok (.getfield 21, 3) := by decide +kernel
theorem dX10_target_37 : decode cX10_target 37 = .ok (.bipush 16, 2) := by decide +kernel
theorem dX10_target_39 : decode cX10_target 39 = .ok (.iload_n 1, 1) := by decide +kernel
theorem dX10_target_40 : decode cX10_target 40 = .ok (.imul, 1) := by decide +kernel
theorem dX10_target_41 : decode cX10_target 41 = .ok (.iload_n 2, 1) := by decide +kernel
theorem dX10_target_42 : decode cX10_target 42 = .ok (.iadd, 1) := by decide +kernel
theorem dX10_target_43 : decode cX10_target 43 = .ok (.iaload, 1) := by decide +kernel
theorem dX10_target_44 : decode cX10_target 44 = .ok (.invokevirtual 105, 3) := by decide +kernel
theorem dX10_target_47 : decode cX10_target 47 = .ok (.goto 8, 3) := by decide +kernel
theorem dX10_target_50 : decode cX10_target 50 = .ok (.aload_n 0, 1) := by decide +kernel
theorem dX10_target_51 : decode cX10_target 51 = .ok (.iconst 2, 1) := by decide +kernel
theorem dX10_target_52 : decode cX10_target 52 = .ok (.invokevirtual 94, 3) := by decide +kernel
theorem dX10_target_55 : decode cX10_target 55 = .ok (.ireturn, 1) := by decide +kernel
theorem dX10_wordLength_0 : decode cX10_wordLength 0 = .ok (.iload_n 1, 1) := by decide +kernel
theorem dX10_wordLength_1 : decode cX10_wordLength 1 = .ok (.invokestatic 162, 3) := by decide +kernel
theorem dX10_wordLength_4 : decode cX10_wordLength 4 = .ok (.ifCond .eq 16, 3) := by decide +kernel
theorem dX10_wordLength_7 : decode cX10_wordLength 7 = .ok (.aload_n 0, 1) := by decide +kernel
theorem dX10_wordLength_8 : decode cX10_wordLength 8 = .ok (.aload_n 0, 1) := by decide +kernel
theorem dX10_wordLength_9 : decode cX10_wordLength 9 = .ok (.getfield 24, 3) := by decide +kernel
theorem dX10_wordLength_12 : decode cX10_wordLength 12 = .ok (.iload_n 1, 1) := by decide +kernel
theorem dX10_wordLength_13 : decode cX10_wordLength 13 = .ok (.iaload, 1) := by decide +kernel
theorem dX10_wordLength_14 : decode cX10_wordLength 14 = .ok (.invokevirtual 105, 3) := by decide +kernel
theorem dX10_wordLength_17 : decode cX10_wordLength 17 = .ok (.goto 8, 3) := by decide +kernel
theorem dX10_wordLength_20 : decode cX10_wordLength 20 = .ok (.aload_n 0, 1) := by decide +kernel
theorem dX10_wordLength_21 : decode cX10_wordLength 21 = .ok (.iconst 1, 1) := by decide +kernel
theorem dX10_wordLength_22 : decode cX10_wordLength 22 = .ok (.invokevirtual 94, 3) := by decide +kernel
theorem dX10_wordLength_25 : decode cX10_wordLength 25 = .ok (.ireturn, 1) := by decide +kernel
theorem dX10_letter_0 : decode cX10_letter 0 = .ok (.iload_n 1, 1) := by decide +kernel
theorem dX10_letter_1 : decode cX10_letter 1 = .ok (.invokestatic 162, 3) := by decide +kernel
theorem dX10_letter_4 : decode cX10_letter 4 = .ok (.ifCond .eq 19, 3) := by decide +kernel
theorem dX10_letter_7 : decode cX10_letter 7 = .ok (.iload_n 2, 1) := by decide +kernel
theorem dX10_letter_8 : decode cX10_letter 8 = .ok (.iconst 0, 1) := by decide +kernel
theorem dX10_letter_9 : decode cX10_letter 9 = .ok (.aload_n 0, 1) := by decide +kernel
theorem dX10_letter_10 : decode cX10_letter 10 = .ok (.getfield 24, 3) := by decide +kernel
theorem dX10_letter_13 : decode cX10_letter 13 = .ok (.iload_n 1, 1) := by decide +kernel
theorem dX10_letter_14 : decode cX10_letter 14 = .ok (.iaload, 1) := by decide +kernel
theorem dX10_letter_15 : decode cX10_letter 15 = .ok (.iconst 1, 1) := by decide +kernel
theorem dX10_letter_16 : decode cX10_letter 16 = .ok (.isub, 1) := by decide +kernel
theorem dX10_letter_17 : decode cX10_letter 17 = .ok (.invokestatic 90, 3) := by decide +kernel
theorem dX10_letter_20 : decode cX10_letter 20 = .ok (.ifCond .ne 9, 3) := by decide +kernel
theorem dX10_letter_23 : decode cX10_letter 23 = .ok (.aload_n 0, 1) := by decide +kernel
theorem dX10_letter_24 : decode cX10_letter 24 = .ok (.iconst 1, 1) := by decide +kernel
theorem dX10_letter_25 : decode cX10_letter 25 = .ok (.invokevirtual 94, 3) := by decide +kernel
theorem dX10_letter_28 : decode cX10_letter 28 = .ok (.ireturn, 1) := by decide +kernel
theorem dX10_letter_29 : decode cX10_letter 29 = .ok (.aload_n 0, 1) := by decide +kernel
theorem dX10_letter_30 : decode cX10_letter 30 = .ok (.aload_n 0, 1) := by decide +kernel
theorem dX10_letter_31 : decode cX10_letter 31 = .ok (.getfield 27, 3) := by decide +kernel
theorem dX10_letter_34 : decode cX10_letter 34 = .ok (.sipush 200, 3) := by decide +kernel
theorem dX10_letter_37 : decode cX10_letter 37 = .ok (.iload_n 1, 1) := by decide +kernel
theorem dX10_letter_38 : decode cX10_letter 38 = .ok (.imul, 1) := by decide +kernel
theorem dX10_letter_39 : decode cX10_letter 39 = .ok (.iload_n 2, 1) := by decide +kernel
theorem dX10_letter_40 : decode cX10_letter 40 = .ok (.iadd, 1) := by decide +kernel
theorem dX10_letter_41 : decode cX10_letter 41 = .ok (.iaload, 1) := by decide +kernel
theorem dX10_letter_42 : decode cX10_letter 42 = .ok (.invokevirtual 105, 3) := by decide +kernel
theorem dX10_letter_45 : decode cX10_letter 45 = .ok (.ireturn, 1) := by decide +kernel
theorem dX10_comesWord_0 : decode cX10_comesWord 0 = .ok (.aload_n 0, 1) := by decide +kernel
theorem dX10_comesWord_1 : decode cX10_comesWord 1 = .ok (.getfield 24, 3) := by decide +kernel
theorem dX10_comesWord_4 : decode cX10_comesWord 4 = .ok (.iload_n 1, 1) := by decide +kernel
theorem dX10_comesWord_5 : decode cX10_comesWord 5 = .ok (.iaload, 1) := by decide +kernel
theorem dX10_comesWord_6 : decode cX10_comesWord 6 = .ok (.istore_n 3, 1) := by decide +kernel
theorem dX10_comesWord_7 : decode cX10_comesWord 7 = .ok (.iconst 0, 1) := by decide +kernel
theorem dX10_comesWord_8 : decode cX10_comesWord 8 = .ok (.istore 4, 2) := by decide +kernel
theorem dX10_comesWord_10 : decode cX10_comesWord 10 = .ok (.iload 4, 2) := by decide +kernel
theorem dX10_comesWord_12 : decode cX10_comesWord 12 = .ok (.iload_n 3, 1) := by decide +kernel
theorem dX10_comesWord_13 : decode cX10_comesWord 13 = .ok (.if_icmp .ge 52, 3) := by decide +kernel
theorem dX10_comesWord_16 : decode cX10_comesWord 16 = .ok (.aload_n 0, 1) := by decide +kernel
theorem dX10_comesWord_17 : decode cX10_comesWord 17 = .ok (.iload_n 2, 1) := by decide +kernel
theorem dX10_comesWord_18 : decode cX10_comesWord 18 = .ok (.ifCond .eq 25, 3) := by decide +kernel
theorem dX10_comesWord_21 : decode cX10_comesWord 21 = .ok (.aload_n 0, 1) := by decide +kernel
theorem dX10_comesWord_22 : decode cX10_comesWord 22 = .ok (.getfield 27, 3) := by decide +kernel
theorem dX10_comesWord_25 : decode cX10_comesWord 25 = .ok (.sipush 200, 3) := by decide +kernel
theorem dX10_comesWord_28 : decode cX10_comesWord 28 = .ok (.iload_n 1, 1) := by decide +kernel
theorem dX10_comesWord_29 : decode cX10_comesWord 29 = .ok (.imul, 1) := by decide +kernel
theorem dX10_comesWord_30 : decode cX10_comesWord 30 = .ok (.iload_n 3, 1) := by decide +kernel
theorem dX10_comesWord_31 : decode cX10_comesWord 31 = .ok (.iadd, 1) := by decide +kernel
theorem dX10_comesWord_32 : decode cX10_comesWord 32 = .ok (.iconst 1, 1) := by decide +kernel
theorem dX10_comesWord_33 : decode cX10_comesWord 33 = .ok (.isub, 1) := by decide +kernel
theorem dX10_comesWord_34 : decode cX10_comesWord 34 = .ok (.iload 4, 2) := by decide +kernel
theorem dX10_comesWord_36 : decode cX10_comesWord 36 = .ok (.isub, 1) := by decide +kernel
theorem dX10_comesWord_37 : decode cX10_comesWord 37 = .ok (.iaload, 1) := by decide +kernel
theorem dX10_comesWord_38 : decode cX10_comesWord 38 = .ok (.iconst 1, 1) := by decide +kernel
theorem dX10_comesWord_39 : decode cX10_comesWord 39 = .ok (.ixor, 1) := by decide +kernel
theorem dX10_comesWord_40 : decode cX10_comesWord 40 = .ok (.goto 16, 3) := by decide +kernel
theorem dX10_comesWord_43 : decode cX10_comesWord 43 = .ok (.aload_n 0, 1) := by decide +kernel
theorem dX10_comesWord_44 : decode cX10_comesWord 44 = .ok (.getfield 27, 3) := by decide +kernel
theorem dX10_comesWord_47 : decode cX10_comesWord 47 = .ok (.sipush 200, 3) := by decide +kernel
theorem dX10_comesWord_50 : decode cX10_comesWord 50 = .ok (.iload_n 1, 1) := by decide +kernel
theorem dX10_comesWord_51 : decode cX10_comesWord 51 = .ok (.imul, 1) := by decide +kernel
theorem dX10_comesWord_52 : decode cX10_comesWord 52 = .ok (.iload 4, 2) := by decide +kernel
theorem dX10_comesWord_54 : decode cX10_comesWord 54 = .ok (.iadd, 1) := by decide +kernel
theorem dX10_comesWord_55 : decode cX10_comesWord 55 = .ok (.iaload, 1) := by decide +kernel
theorem dX10_comesWord_56 : decode cX10_comesWord 56 = .ok (.invokevirtual 135, 3) := by decide +kernel
theorem dX10_comesWord_59 : decode cX10_comesWord 59 = .ok (.iinc 4 1, 3) := by decide +kernel
theorem dX10_comesWord_62 : decode cX10_comesWord 62 = .ok (.goto (-52), 3) := by decide +kernel
theorem dX10_comesWord_65 : decode cX10_comesWord 65 = .ok (.return_, 1) := by decide +kernel
theorem dX10_invert_0 : decode cX10_invert 0 = .ok (.iload_n 1, 1) := by decide +kernel
theorem dX10_invert_1 : decode cX10_invert 1 = .ok (.invokestatic 162, 3) := by decide +kernel
theorem dX10_invert_4 : decode cX10_invert 4 = .ok (.ifCond .eq 10, 3) := by decide +kernel
theorem dX10_invert_7 : decode cX10_invert 7 = .ok (.iload_n 2, 1) := by decide +kernel
theorem dX10_invert_8 : decode cX10_invert 8 = .ok (.invokestatic 162, 3) := by decide +kernel
theorem dX10_invert_11 : decode cX10_invert 11 = .ok (.ifCond .ne 9, 3) := by decide +kernel
theorem dX10_invert_14 : decode cX10_invert 14 = .ok (.aload_n 0, 1) := by decide +kernel
theorem dX10_invert_15 : decode cX10_invert 15 = .ok (.iconst 1, 1) := by decide +kernel
theorem dX10_invert_16 : decode cX10_invert 16 = .ok (.invokevirtual 94, 3) := by decide +kernel
theorem dX10_invert_19 : decode cX10_invert 19 = .ok (.ireturn, 1) := by decide +kernel
theorem dX10_invert_20 : decode cX10_invert 20 = .ok (.aload_n 0, 1) := by decide +kernel
theorem dX10_invert_21 : decode cX10_invert 21 = .ok (.invokevirtual 165, 3) := by decide +kernel
theorem dX10_invert_24 : decode cX10_invert 24 = .ok (.aload_n 0, 1) := by decide +kernel
theorem dX10_invert_25 : decode cX10_invert 25 = .ok (.iload_n 2, 1) := by decide +kernel
theorem dX10_invert_26 : decode cX10_invert 26 = .ok (.iconst 1, 1) := by decide +kernel
theorem dX10_invert_27 : decode cX10_invert 27 = .ok (.invokevirtual 171, 3) := by decide +kernel
theorem dX10_invert_30 : decode cX10_invert 30 = .ok (.aload_n 0, 1) := by decide +kernel
theorem dX10_invert_31 : decode cX10_invert 31 = .ok (.iload_n 1, 1) := by decide +kernel
theorem dX10_invert_32 : decode cX10_invert 32 = .ok (.invokevirtual 168, 3) := by decide +kernel
theorem dX10_invert_35 : decode cX10_invert 35 = .ok (.ireturn, 1) := by decide +kernel
theorem dX10_conjugate_0 : decode cX10_conjugate 0 = .ok (.iload_n 1, 1) := by decide +kernel
theorem dX10_conjugate_1 : decode cX10_conjugate 1 = .ok (.invokestatic 162, 3) := by decide +kernel
theorem dX10_conjugate_4 : decode cX10_conjugate 4 = .ok (.ifCond .eq 17, 3) := by decide +kernel
theorem dX10_conjugate_7 : decode cX10_conjugate 7 = .ok (.iload_n 2, 1) := by decide +kernel
theorem dX10_conjugate_8 : decode cX10_conjugate 8 = .ok (.invokestatic 162, 3) := by decide +kernel
theorem dX10_conjugate_11 : decode cX10_conjugate 11 = .ok (.ifCond .eq 10, 3) := by decide +kernel
theorem dX10_conjugate_14 : decode cX10_conjugate 14 = .ok (.iload_n 3, 1) := by decide +kernel
theorem dX10_conjugate_15 : decode cX10_conjugate 15 = .ok (.invokestatic 162, 3) := by decide +kernel
theorem dX10_conjugate_18 : decode cX10_conjugate 18 = .ok (.ifCond .ne 9, 3) := by decide +kernel
theorem dX10_conjugate_21 : decode cX10_conjugate 21 = .ok (.aload_n 0, 1) := by decide +kernel
theorem dX10_conjugate_22 : decode cX10_conjugate 22 = .ok (.iconst 1, 1) := by decide +kernel
theorem dX10_conjugate_23 : decode cX10_conjugate 23 = .ok (.invokevirtual 94, 3) := by decide +kernel
theorem dX10_conjugate_26 : decode cX10_conjugate 26 = .ok (.ireturn, 1) := by decide +kernel
theorem dX10_conjugate_27 : decode cX10_conjugate 27 = .ok (.aload_n 0, 1) := by decide +kernel
theorem dX10_conjugate_28 : decode cX10_conjugate 28 = .ok (.invokevirtual 165, 3) := by decide +kernel
theorem dX10_conjugate_31 : decode cX10_conjugate 31 = .ok (.aload_n 0, 1) := by decide +kernel
theorem dX10_conjugate_32 : decode cX10_conjugate 32 = .ok (.iload_n 3, 1) := by decide +kernel
theorem dX10_conjugate_33 : decode cX10_conjugate 33 = .ok (.iconst 1, 1) := by decide +kernel
theorem dX10_conjugate_34 : decode cX10_conjugate 34 = .ok (.invokevirtual 171, 3) := by decide +kernel
theorem dX10_conjugate_37 : decode cX10_conjugate 37 = .ok (.aload_n 0, 1) := by decide +kernel
theorem dX10_conjugate_38 : decode cX10_conjugate 38 = .ok (.iload_n 2, 1) := by decide +kernel
theorem dX10_conjugate_39 : decode cX10_conjugate 39 = .ok (.iconst 0, 1) := by decide +kernel
theorem dX10_conjugate_40 : decode cX10_conjugate 40 = .ok (.invokevirtual 171, 3) := by decide +kernel
theorem dX10_conjugate_43 : decode cX10_conjugate 43 = .ok (.aload_n 0, 1) := by decide +kernel
theorem dX10_conjugate_44 : decode cX10_conjugate 44 = .ok (.iload_n 3, 1) := by decide +kernel
theorem dX10_conjugate_45 : decode cX10_conjugate 45 = .ok (.iconst 0, 1) := by decide +kernel
theorem dX10_conjugate_46 : decode cX10_conjugate 46 = .ok (.invokevirtual 171, 3) := by decide +kernel
theorem dX10_conjugate_49 : decode cX10_conjugate 49 = .ok (.aload_n 0, 1) := by decide +kernel
theorem dX10_conjugate_50 : decode cX10_conjugate 50 = .ok (.getfield 132, 3) := by decide +kernel
theorem dX10_conjugate_53 : decode cX10_conjugate 53 = .ok (.ifCond .eq 11, 3) := by decide +kernel
theorem dX10_conjugate_56 : decode cX10_conjugate 56 = .ok (.aload_n 0, 1) := by decide +kernel
theorem dX10_conjugate_57 : decode cX10_conjugate 57 = .ok (.iconst 2, 1) := by decide +kernel
theorem dX10_conjugate_58 : decode cX10_conjugate 58 = .ok (.invokevirtual 94, 3) := by decide +kernel
theorem dX10_conjugate_61 : decode cX10_conjugate 61 = .ok (.goto 8, 3) := by decide +kernel
theorem dX10_conjugate_64 : decode cX10_conjugate 64 = .ok (.aload_n 0, 1) := by decide +kernel
theorem dX10_conjugate_65 : decode cX10_conjugate 65 = .ok (.iload_n 1, 1) := by decide +kernel
theorem dX10_conjugate_66 : decode cX10_conjugate 66 = .ok (.invokevirtual 168, 3) := by decide +kernel
theorem dX10_conjugate_69 : decode cX10_conjugate 69 = .ok (.ireturn, 1) := by decide +kernel
theorem dX10_commutator_0 : decode cX10_commutator 0 = .ok (.iload_n 1, 1) := by decide +kernel
theorem dX10_commutator_1 : decode cX10_commutator 1 = .ok (.invokestatic 162, 3) := by decide +kernel
theorem dX10_commutator_4 : decode cX10_commutator 4 = .ok (.ifCond .eq 17, 3) := by decide +kernel
theorem dX10_commutator_7 : decode cX10_commutator 7 = .ok (.iload_n 2, 1) := by decide +kernel
theorem dX10_commutator_8 : decode cX10_commutator 8 = .ok (.invokestatic 162, 3) := by decide +kernel
theorem dX10_commutator_11 : decode cX10_commutator 11 = .ok (.ifCond .eq 10, 3) := by decide +kernel
theorem dX10_commutator_14 : decode cX10_commutator 14 = .ok (.iload_n 3, 1) := by decide +kernel
theorem dX10_commutator_15 : decode cX10_commutator 15 = .ok (.invokestatic 162, 3) := by decide +kernel
theorem dX10_commutator_18 : decode cX10_commutator 18 = .ok (.ifCond .ne 9, 3) := by decide +kernel
theorem dX10_commutator_21 : decode cX10_commutator 21 = .ok (.aload_n 0, 1) := by decide +kernel
theorem dX10_commutator_22 : decode cX10_commutator 22 = .ok (.iconst 1, 1) := by decide +kernel
theorem dX10_commutator_23 : decode cX10_commutator 23 = .ok (.invokevirtual 94, 3) := by decide +kernel
theorem dX10_commutator_26 : decode cX10_commutator 26 = .ok (.ireturn, 1) := by decide +kernel
theorem dX10_commutator_27 : decode cX10_commutator 27 = .ok (.aload_n 0, 1) := by decide +kernel
theorem dX10_commutator_28 : decode cX10_commutator 28 = .ok (.invokevirtual 165, 3) := by decide +kernel
theorem dX10_commutator_31 : decode cX10_commutator 31 = .ok (.aload_n 0, 1) := by decide +kernel
theorem dX10_commutator_32 : decode cX10_commutator 32 = .ok (.iload_n 2, 1) := by decide +kernel
theorem dX10_commutator_33 : decode cX10_commutator 33 = .ok (.iconst 0, 1) := by decide +kernel
theorem dX10_commutator_34 : decode cX10_commutator 34 = .ok (.invokevirtual 171, 3) := by decide +kernel
theorem dX10_commutator_37 : decode cX10_commutator 37 = .ok (.aload_n 0, 1) := by decide +kernel
theorem dX10_commutator_38 : decode cX10_commutator 38 = .ok (.iload_n 3, 1) := by decide +kernel
theorem dX10_commutator_39 : decode cX10_commutator 39 = .ok (.iconst 0, 1) := by decide +kernel
theorem dX10_commutator_40 : decode cX10_commutator 40 = .ok (.invokevirtual 171, 3) := by decide +kernel
theorem dX10_commutator_43 : decode cX10_commutator 43 = .ok (.aload_n 0, 1) := by decide +kernel
theorem dX10_commutator_44 : decode cX10_commutator 44 = .ok (.iload_n 2, 1) := by decide +kernel
theorem dX10_commutator_45 : decode cX10_commutator 45 = .ok (.iconst 1, 1) := by decide +kernel
theorem dX10_commutator_46 : decode cX10_commutator 46 = .ok (.invokevirtual 171, 3) := by decide +kernel
theorem dX10_commutator_49 : decode cX10_commutator 49 = .ok (.aload_n 0, 1) := by decide +kernel
theorem dX10_commutator_50 : decode cX10_commutator 50 = .ok (.iload_n 3, 1) := by decide +kernel
theorem dX10_commutator_51 : decode cX10_commutator 51 = .ok (.iconst 1, 1) := by decide +kernel
theorem dX10_commutator_52 : decode cX10_commutator 52 = .ok (.invokevirtual 171, 3) := by decide +kernel
theorem dX10_commutator_55 : decode cX10_commutator 55 = .ok (.aload_n 0, 1) := by decide +kernel
theorem dX10_commutator_56 : decode cX10_commutator 56 = .ok (.getfield 132, 3) := by decide +kernel
theorem dX10_commutator_59 : decode cX10_commutator 59 = .ok (.ifCond .eq 11, 3) := by decide +kernel
theorem dX10_commutator_62 : decode cX10_commutator 62 = .ok (.aload_n 0, 1) := by decide +kernel
theorem dX10_commutator_63 : decode cX10_commutator 63 = .ok (.iconst 2, 1) := by decide +kernel
theorem dX10_commutator_64 : decode cX10_commutator 64 = .ok (.invokevirtual 94, 3) := by decide +kernel
theorem dX10_commutator_67 : decode cX10_commutator 67 = .ok (.goto 8, 3) := by decide +kernel
theorem dX10_commutator_70 : decode cX10_commutator 70 = .ok (.aload_n 0, 1) := by decide +kernel
theorem dX10_commutator_71 : decode cX10_commutator 71 = .ok (.iload_n 1, 1) := by decide +kernel
theorem dX10_commutator_72 : decode cX10_commutator 72 = .ok (.invokevirtual 168, 3) := by decide +kernel
theorem dX10_commutator_75 : decode cX10_commutator 75 = .ok (.ireturn, 1) := by decide +kernel
theorem dX10_ledBy_0 : decode cX10_ledBy 0 = .ok (.iload_n 2, 1) := by decide +kernel
theorem dX10_ledBy_1 : decode cX10_ledBy 1 = .ok (.istore_n 3, 1) := by decide +kernel
theorem dX10_ledBy_2 : decode cX10_ledBy 2 = .ok (.iconst 0, 1) := by decide +kernel
theorem dX10_ledBy_3 : decode cX10_ledBy 3 = .ok (.istore 4, 2) := by decide +kernel
theorem dX10_ledBy_5 : decode cX10_ledBy 5 = .ok (.iload 4, 2) := by decide +kernel
theorem dX10_ledBy_7 : decode cX10_ledBy 7 = .ok (.aload_n 0, 1) := by decide +kernel
theorem dX10_ledBy_8 : decode cX10_ledBy 8 = .ok (.getfield 24, 3) := by decide +kernel
theorem dX10_ledBy_11 : decode cX10_ledBy 11 = .ok (.iload_n 1, 1) := by decide +kernel
theorem dX10_ledBy_12 : decode cX10_ledBy 12 = .ok (.iaload, 1) := by decide +kernel
theorem dX10_ledBy_13 : decode cX10_ledBy 13 = .ok (.if_icmp .ge 33, 3) := by decide +kernel
theorem dX10_ledBy_16 : decode cX10_ledBy 16 = .ok (.aload_n 0, 1) := by decide +kernel
theorem dX10_ledBy_17 : decode cX10_ledBy 17 = .ok (.getfield 21, 3) := by decide +kernel
theorem dX10_ledBy_20 : decode cX10_ledBy 20 = .ok (.bipush 8, 2) := by decide +kernel
theorem dX10_ledBy_22 : decode cX10_ledBy 22 = .ok (.aload_n 0, 1) := by decide +kernel
theorem dX10_ledBy_23 : decode cX10_ledBy 23 = .ok (.getfield 27, 3) := by decide +kernel
theorem dX10_ledBy_26 : decode cX10_ledBy 26 = .ok (.sipush 200, 3) := by decide +kernel
theorem dX10_ledBy_29 : decode cX10_ledBy 29 = .ok (.iload_n 1, 1) := by decide +kernel
theorem dX10_ledBy_30 : decode cX10_ledBy 30 = .ok (.imul, 1) := by decide +kernel
theorem dX10_ledBy_31 : decode cX10_ledBy 31 = .ok (.iload 4, 2) := by decide +kernel
theorem dX10_ledBy_33 : decode cX10_ledBy 33 = .ok (.iadd, 1) := by decide +kernel
theorem dX10_ledBy_34 : decode cX10_ledBy 34 = .ok (.iaload, 1) := by decide +kernel
theorem dX10_ledBy_35 : decode cX10_ledBy 35 = .ok (.imul, 1) := by decide +kernel
theorem dX10_ledBy_36 : decode cX10_ledBy 36 = .ok (.iload_n 3, 1) := by decide +kernel
theorem dX10_ledBy_37 : decode cX10_ledBy 37 = .ok (.iadd, 1) := by decide +kernel
theorem dX10_ledBy_38 : decode cX10_ledBy 38 = .ok (.iaload, 1) := by decide +kernel
theorem dX10_ledBy_39 : decode cX10_ledBy 39 = .ok (.istore_n 3, 1) := by decide +kernel
theorem dX10_ledBy_40 : decode cX10_ledBy 40 = .ok (.iinc 4 1, 3) := by decide +kernel
theorem dX10_ledBy_43 : decode cX10_ledBy 43 = .ok (.goto (-38), 3) := by decide +kernel
theorem dX10_ledBy_46 : decode cX10_ledBy 46 = .ok (.iload_n 3, 1) := by decide +kernel
theorem dX10_ledBy_47 : decode cX10_ledBy 47 = .ok (.ireturn, 1) := by decide +kernel
theorem dX10_cycleOf_0 : decode cX10_cycleOf 0 = .ok (.iconst 1, 1) := by decide +kernel
theorem dX10_cycleOf_1 : decode cX10_cycleOf 1 = .ok (.istore_n 3, 1) := by decide +kernel
theorem dX10_cycleOf_2 : decode cX10_cycleOf 2 = .ok (.aload_n 0, 1) := by decide +kernel
theorem dX10_cycleOf_3 : decode cX10_cycleOf 3 = .ok (.iload_n 1, 1) := by decide +kernel
theorem dX10_cycleOf_4 : decode cX10_cycleOf 4 = .ok (.iload_n 2, 1) := by decide +kernel
theorem dX10_cycleOf_5 : decode cX10_cycleOf 5 = .ok (.invokevirtual 175, 3) := by decide +kernel
theorem dX10_cycleOf_8 : decode cX10_cycleOf 8 = .ok (.istore 4, 2) := by decide +kernel
theorem dX10_cycleOf_10 : decode cX10_cycleOf 10 = .ok (.iload 4, 2) := by decide +kernel
theorem dX10_cycleOf_12 : decode cX10_cycleOf 12 = .ok (.iload_n 2, 1) := by decide +kernel
theorem dX10_cycleOf_13 : decode cX10_cycleOf 13 = .ok (.if_icmp .eq 18, 3) := by decide +kernel
theorem dX10_cycleOf_16 : decode cX10_cycleOf 16 = .ok (.iinc 3 1, 3) := by decide +kernel
theorem dX10_cycleOf_19 : decode cX10_cycleOf 19 = .ok (.aload_n 0, 1) := by decide +kernel
theorem dX10_cycleOf_20 : decode cX10_cycleOf 20 = .ok (.iload_n 1, 1) := by decide +kernel
theorem dX10_cycleOf_21 : decode cX10_cycleOf 21 = .ok (.iload 4, 2) := by decide +kernel
theorem dX10_cycleOf_23 : decode cX10_cycleOf 23 = .ok (.invokevirtual 175, 3) := by decide +kernel
theorem dX10_cycleOf_26 : decode cX10_cycleOf 26 = .ok (.istore 4, 2) := by decide +kernel
theorem dX10_cycleOf_28 : decode cX10_cycleOf 28 = .ok (.goto (-18), 3) := by decide +kernel
theorem dX10_cycleOf_31 : decode cX10_cycleOf 31 = .ok (.iload_n 3, 1) := by decide +kernel
theorem dX10_cycleOf_32 : decode cX10_cycleOf 32 = .ok (.ireturn, 1) := by decide +kernel
theorem dX10_order_0 : decode cX10_order 0 = .ok (.iload_n 1, 1) := by decide +kernel
theorem dX10_order_1 : decode cX10_order 1 = .ok (.invokestatic 162, 3) := by decide +kernel
theorem dX10_order_4 : decode cX10_order 4 = .ok (.ifCond .ne 9, 3) := by decide +kernel
theorem dX10_order_7 : decode cX10_order 7 = .ok (.aload_n 0, 1) := by decide +kernel
theorem dX10_order_8 : decode cX10_order 8 = .ok (.iconst 1, 1) := by decide +kernel
theorem dX10_order_9 : decode cX10_order 9 = .ok (.invokevirtual 94, 3) := by decide +kernel
theorem dX10_order_12 : decode cX10_order 12 = .ok (.ireturn, 1) := by decide +kernel
theorem dX10_order_13 : decode cX10_order 13 = .ok (.iconst 1, 1) := by decide +kernel
theorem dX10_order_14 : decode cX10_order 14 = .ok (.istore_n 2, 1) := by decide +kernel
theorem dX10_order_15 : decode cX10_order 15 = .ok (.iconst 0, 1) := by decide +kernel
theorem dX10_order_16 : decode cX10_order 16 = .ok (.istore_n 3, 1) := by decide +kernel
theorem dX10_order_17 : decode cX10_order 17 = .ok (.iload_n 3, 1) := by decide +kernel
theorem dX10_order_18 : decode cX10_order 18 = .ok (.ifCond .ne 60, 3) := by decide +kernel
theorem dX10_order_21 : decode cX10_order 21 = .ok (.iconst 1, 1) := by decide +kernel
theorem dX10_order_22 : decode cX10_order 22 = .ok (.istore_n 3, 1) := by decide +kernel
theorem dX10_order_23 : decode cX10_order 23 = .ok (.iconst 1, 1) := by decide +kernel
theorem dX10_order_24 : decode cX10_order 24 = .ok (.istore 4, 2) := by decide +kernel
theorem dX10_order_26 : decode cX10_order 26 = .ok (.iload 4, 2) := by decide +kernel
theorem dX10_order_28 : decode cX10_order 28 = .ok (.aload_n 0, 1) := by decide +kernel
theorem dX10_order_29 : decode cX10_order 29 = .ok (.getfield 7, 3) := by decide +kernel
theorem dX10_order_32 : decode cX10_order 32 = .ok (.if_icmp .gt 31, 3) := by decide +kernel
theorem dX10_order_35 : decode cX10_order 35 = .ok (.iload_n 3, 1) := by decide +kernel
theorem dX10_order_36 : decode cX10_order 36 = .ok (.ifCond .eq 19, 3) := by decide +kernel
theorem dX10_order_39 : decode cX10_order 39 = .ok (.iload_n 2, 1) := by decide +kernel
theorem dX10_order_40 : decode cX10_order 40 = .ok (.aload_n 0, 1) := by decide +kernel
theorem dX10_order_41 : decode cX10_order 41 = .ok (.iload_n 1, 1) := by decide +kernel
theorem dX10_order_42 : decode cX10_order 42 = .ok (.iload 4, 2) := by decide +kernel
theorem dX10_order_44 : decode cX10_order 44 = .ok (.invokevirtual 179, 3) := by decide +kernel
theorem dX10_order_47 : decode cX10_order 47 = .ok (.irem, 1) := by decide +kernel
theorem dX10_order_48 : decode cX10_order 48 = .ok (.ifCond .ne 7, 3) := by decide +kernel
theorem dX10_order_51 : decode cX10_order 51 = .ok (.iconst 1, 1) := by decide +kernel
theorem dX10_order_52 : decode cX10_order 52 = .ok (.goto 4, 3) := by decide +kernel
theorem dX10_order_55 : decode cX10_order 55 = .ok (.iconst 0, 1) := by decide +kernel
theorem dX10_order_56 : decode cX10_order 56 = .ok (.istore_n 3, 1) := by decide +kernel
theorem dX10_order_57 : decode cX10_order 57 = .ok (.iinc 4 1, 3) := by decide +kernel
theorem dX10_order_60 : decode cX10_order 60 = .ok (.goto (-34), 3) := by decide +kernel
theorem dX10_order_63 : decode cX10_order 63 = .ok (.iload_n 2, 1) := by decide +kernel
theorem dX10_order_64 : decode cX10_order 64 = .ok (.iload_n 3, 1) := by decide +kernel
theorem dX10_order_65 : decode cX10_order 65 = .ok (.ifCond .eq 7, 3) := by decide +kernel
theorem dX10_order_68 : decode cX10_order 68 = .ok (.iconst 0, 1) := by decide +kernel
theorem dX10_order_69 : decode cX10_order 69 = .ok (.goto 4, 3) := by decide +kernel
theorem dX10_order_72 : decode cX10_order 72 = .ok (.iconst 1, 1) := by decide +kernel
theorem dX10_order_73 : decode cX10_order 73 = .ok (.iadd, 1) := by decide +kernel
theorem dX10_order_74 : decode cX10_order 74 = .ok (.istore_n 2, 1) := by decide +kernel
theorem dX10_order_75 : decode cX10_order 75 = .ok (.goto (-58), 3) := by decide +kernel
theorem dX10_order_78 : decode cX10_order 78 = .ok (.aload_n 0, 1) := by decide +kernel
theorem dX10_order_79 : decode cX10_order 79 = .ok (.iload_n 2, 1) := by decide +kernel
theorem dX10_order_80 : decode cX10_order 80 = .ok (.invokevirtual 105, 3) := by decide +kernel
theorem dX10_order_83 : decode cX10_order 83 = .ok (.ireturn, 1) := by decide +kernel
theorem dX10_isOdd_0 : decode cX10_isOdd 0 = .ok (.iload_n 1, 1) := by decide +kernel
theorem dX10_isOdd_1 : decode cX10_isOdd 1 = .ok (.invokestatic 162, 3) := by decide +kernel
theorem dX10_isOdd_4 : decode cX10_isOdd 4 = .ok (.ifCond .ne 9, 3) := by decide +kernel
theorem dX10_isOdd_7 : decode cX10_isOdd 7 = .ok (.aload_n 0, 1) := by decide +kernel
theorem dX10_isOdd_8 : decode cX10_isOdd 8 = .ok (.iconst 1, 1) := by decide +kernel
theorem dX10_isOdd_9 : decode cX10_isOdd 9 = .ok (.invokevirtual 182, 3) := by decide +kernel
theorem dX10_isOdd_12 : decode cX10_isOdd 12 = .ok (.ireturn, 1) := by decide +kernel
theorem dX10_isOdd_13 : decode cX10_isOdd 13 = .ok (.iconst 0, 1) := by decide +kernel
theorem dX10_isOdd_14 : decode cX10_isOdd 14 = .ok (.istore_n 2, 1) := by decide +kernel
theorem dX10_isOdd_15 : decode cX10_isOdd 15 = .ok (.iconst 1, 1) := by decide +kernel
theorem dX10_isOdd_16 : decode cX10_isOdd 16 = .ok (.istore_n 3, 1) := by decide +kernel
theorem dX10_isOdd_17 : decode cX10_isOdd 17 = .ok (.iload_n 3, 1) := by decide +kernel
theorem dX10_isOdd_18 : decode cX10_isOdd 18 = .ok (.aload_n 0, 1) := by decide +kernel
theorem dX10_isOdd_19 : decode cX10_isOdd 19 = .ok (.getfield 7, 3) := by decide +kernel
theorem dX10_isOdd_22 : decode cX10_isOdd 22 = .ok (.if_icmp .gt 48, 3) := by decide +kernel
theorem dX10_isOdd_25 : decode cX10_isOdd 25 = .ok (.iconst 1, 1) := by decide +kernel
theorem dX10_isOdd_26 : decode cX10_isOdd 26 = .ok (.istore 4, 2) := by decide +kernel
theorem dX10_isOdd_28 : decode cX10_isOdd 28 = .ok (.iload 4, 2) := by decide +kernel
theorem dX10_isOdd_30 : decode cX10_isOdd 30 = .ok (.iload_n 3, 1) := by decide +kernel
theorem dX10_isOdd_31 : decode cX10_isOdd 31 = .ok (.if_icmp .ge 33, 3) := by decide +kernel
theorem dX10_isOdd_34 : decode cX10_isOdd 34 = .ok (.iload_n 2, 1) := by decide +kernel
theorem dX10_isOdd_35 : decode cX10_isOdd 35 = .ok (.aload_n 0, 1) := by decide +kernel
theorem dX10_isOdd_36 : decode cX10_isOdd 36 = .ok (.iload_n 1, 1) := by decide +kernel
theorem dX10_isOdd_37 : decode cX10_isOdd 37 = .ok (.iload_n 3, 1) := by decide +kernel
theorem dX10_isOdd_38 : decode cX10_isOdd 38 = .ok (.invokevirtual 175, 3) := by decide +kernel
theorem dX10_isOdd_41 : decode cX10_isOdd 41 = .ok (.aload_n 0, 1) := by decide +kernel
theorem dX10_isOdd_42 : decode cX10_isOdd 42 = .ok (.iload_n 1, 1) := by decide +kernel
theorem dX10_isOdd_43 : decode cX10_isOdd 43 = .ok (.iload 4, 2) := by decide +kernel
theorem dX10_isOdd_45 : decode cX10_isOdd 45 = .ok (.invokevirtual 175, 3) := by decide +kernel
theorem dX10_isOdd_48 : decode cX10_isOdd 48 = .ok (.if_icmp .ge 7, 3) := by decide +kernel
theorem dX10_isOdd_51 : decode cX10_isOdd 51 = .ok (.iconst 1, 1) := by decide +kernel
theorem dX10_isOdd_52 : decode cX10_isOdd 52 = .ok (.goto 4, 3) := by decide +kernel
theorem dX10_isOdd_55 : decode cX10_isOdd 55 = .ok (.iconst 0, 1) := by decide +kernel
theorem dX10_isOdd_56 : decode cX10_isOdd 56 = .ok (.iadd, 1) := by decide +kernel
theorem dX10_isOdd_57 : decode cX10_isOdd 57 = .ok (.istore_n 2, 1) := by decide +kernel
theorem dX10_isOdd_58 : decode cX10_isOdd 58 = .ok (.iinc 4 1, 3) := by decide +kernel
theorem dX10_isOdd_61 : decode cX10_isOdd 61 = .ok (.goto (-33), 3) := by decide +kernel
theorem dX10_isOdd_64 : decode cX10_isOdd 64 = .ok (.iinc 3 1, 3) := by decide +kernel
theorem dX10_isOdd_67 : decode cX10_isOdd 67 = .ok (.goto (-50), 3) := by decide +kernel
theorem dX10_isOdd_70 : decode cX10_isOdd 70 = .ok (.aload_n 0, 1) := by decide +kernel
theorem dX10_isOdd_71 : decode cX10_isOdd 71 = .ok (.iload_n 2, 1) := by decide +kernel
theorem dX10_isOdd_72 : decode cX10_isOdd 72 = .ok (.iconst 2, 1) := by decide +kernel
theorem dX10_isOdd_73 : decode cX10_isOdd 73 = .ok (.irem, 1) := by decide +kernel
theorem dX10_isOdd_74 : decode cX10_isOdd 74 = .ok (.iconst 1, 1) := by decide +kernel
theorem dX10_isOdd_75 : decode cX10_isOdd 75 = .ok (.if_icmp .ne 7, 3) := by decide +kernel
theorem dX10_isOdd_78 : decode cX10_isOdd 78 = .ok (.iconst 1, 1) := by decide +kernel
theorem dX10_isOdd_79 : decode cX10_isOdd 79 = .ok (.goto 4, 3) := by decide +kernel
theorem dX10_isOdd_82 : decode cX10_isOdd 82 = .ok (.iconst 0, 1) := by decide +kernel
theorem dX10_isOdd_83 : decode cX10_isOdd 83 = .ok (.invokevirtual 185, 3) := by decide +kernel
theorem dX10_isOdd_86 : decode cX10_isOdd 86 = .ok (.ireturn, 1) := by decide +kernel
theorem dX10_cycleLength_0 : decode cX10_cycleLength 0 = .ok (.iload_n 1, 1) := by decide +kernel
theorem dX10_cycleLength_1 : decode cX10_cycleLength 1 = .ok (.invokestatic 162, 3) := by decide +kernel
theorem dX10_cycleLength_4 : decode cX10_cycleLength 4 = .ok (.ifCond .eq 24, 3) := by decide +kernel
theorem dX10_cycleLength_7 : decode cX10_cycleLength 7 = .ok (.aload_n 0, 1) := by decide +kernel
theorem dX10_cycleLength_8 : decode cX10_cycleLength 8 = .ok (.iload_n 2, 1) := by decide +kernel
theorem dX10_cycleLength_9 : decode cX10_cycleLength 9 = .ok (.invokevirtual 118, 3) := by decide +kernel
theorem dX10_cycleLength_12 : decode cX10_cycleLength 12 = .ok (.ifCond .eq 16, 3) := by decide +kernel
theorem dX10_cycleLength_15 : decode cX10_cycleLength 15 = .ok (.aload_n 0, 1) := by decide +kernel
theorem dX10_cycleLength_16 : decode cX10_cycleLength 16 = .ok (.aload_n 0, 1) := by decide +kernel
theorem dX10_cycleLength_17 : decode cX10_cycleLength 17 = .ok (.iload_n 1, 1) := by decide +kernel
theorem dX10_cycleLength_18 : decode cX10_cycleLength 18 = .ok (.iload_n 2, 1) := by decide +kernel
theorem dX10_cycleLength_19 : decode cX10_cycleLength 19 = .ok (.invokevirtual 179, 3) := by decide +kernel
theorem dX10_cycleLength_22 : decode cX10_cycleLength 22 = .ok (.invokevirtual 105, 3) := by decide +kernel
theorem dX10_cycleLength_25 : decode cX10_cycleLength 25 = .ok (.goto 8, 3) := by decide +kernel
theorem dX10_cycleLength_28 : decode cX10_cycleLength 28 = .ok (.aload_n 0, 1) := by decide +kernel
theorem dX10_cycleLength_29 : decode cX10_cycleLength 29 = .ok (.iconst 1, 1) := by decide +kernel
theorem dX10_cycleLength_30 : decode cX10_cycleLength 30 = .ok (.invokevirtual 94, 3) := by decide +kernel
theorem dX10_cycleLength_33 : decode cX10_cycleLength 33 = .ok (.ireturn, 1) := by decide +kernel
theorem dX10_isSame_0 : decode cX10_isSame 0 = .ok (.iload_n 1, 1) := by decide +kernel
theorem dX10_isSame_1 : decode cX10_isSame 1 = .ok (.invokestatic 162, 3) := by decide +kernel
theorem dX10_isSame_4 : decode cX10_isSame 4 = .ok (.ifCond .eq 10, 3) := by decide +kernel
theorem dX10_isSame_7 : decode cX10_isSame 7 = .ok (.iload_n 2, 1) := by decide +kernel
theorem dX10_isSame_8 : decode cX10_isSame 8 = .ok (.invokestatic 162, 3) := by decide +kernel
theorem dX10_isSame_11 : decode cX10_isSame 11 = .ok (.ifCond .ne 9, 3) := by decide +kernel
theorem dX10_isSame_14 : decode cX10_isSame 14 = .ok (.aload_n 0, 1) := by decide +kernel
theorem dX10_isSame_15 : decode cX10_isSame 15 = .ok (.iconst 1, 1) := by decide +kernel
theorem dX10_isSame_16 : decode cX10_isSame 16 = .ok (.invokevirtual 182, 3) := by decide +kernel
theorem dX10_isSame_19 : decode cX10_isSame 19 = .ok (.ireturn, 1) := by decide +kernel
theorem dX10_isSame_20 : decode cX10_isSame 20 = .ok (.iconst 1, 1) := by decide +kernel
theorem dX10_isSame_21 : decode cX10_isSame 21 = .ok (.istore_n 3, 1) := by decide +kernel
theorem dX10_isSame_22 : decode cX10_isSame 22 = .ok (.iconst 1, 1) := by decide +kernel
theorem dX10_isSame_23 : decode cX10_isSame 23 = .ok (.istore 4, 2) := by decide +kernel
theorem dX10_isSame_25 : decode cX10_isSame 25 = .ok (.iload 4, 2) := by decide +kernel
theorem dX10_isSame_27 : decode cX10_isSame 27 = .ok (.aload_n 0, 1) := by decide +kernel
theorem dX10_isSame_28 : decode cX10_isSame 28 = .ok (.getfield 7, 3) := by decide +kernel
theorem dX10_isSame_31 : decode cX10_isSame 31 = .ok (.if_icmp .gt 36, 3) := by decide +kernel
theorem dX10_isSame_34 : decode cX10_isSame 34 = .ok (.iload_n 3, 1) := by decide +kernel
theorem dX10_isSame_35 : decode cX10_isSame 35 = .ok (.ifCond .eq 24, 3) := by decide +kernel
theorem dX10_isSame_38 : decode cX10_isSame 38 = .ok (.aload_n 0, 1) := by decide +kernel
theorem dX10_isSame_39 : decode cX10_isSame 39 = .ok (.iload_n 1, 1) := by decide +kernel
theorem dX10_isSame_40 : decode cX10_isSame 40 = .ok (.iload 4, 2) := by decide +kernel
theorem dX10_isSame_42 : decode cX10_isSame 42 = .ok (.invokevirtual 175, 3) := by decide +kernel
theorem dX10_isSame_45 : decode cX10_isSame 45 = .ok (.aload_n 0, 1) := by decide +kernel
theorem dX10_isSame_46 : decode cX10_isSame 46 = .ok (.iload_n 2, 1) := by decide +kernel
theorem dX10_isSame_47 : decode cX10_isSame 47 = .ok (.iload 4, 2) := by decide +kernel
theorem dX10_isSame_49 : decode cX10_isSame 49 = .ok (.invokevirtual 175, 3) := by decide +kernel
theorem dX10_isSame_52 : decode cX10_isSame 52 = .ok (.if_icmp .ne 7, 3) := by decide +kernel
theorem dX10_isSame_55 : decode cX10_isSame 55 = .ok (.iconst 1, 1) := by decide +kernel
theorem dX10_isSame_56 : decode cX10_isSame 56 = .ok (.goto 4, 3) := by decide +kernel
theorem dX10_isSame_59 : decode cX10_isSame 59 = .ok (.iconst 0, 1) := by decide +kernel
theorem dX10_isSame_60 : decode cX10_isSame 60 = .ok (.istore_n 3, 1) := by decide +kernel
theorem dX10_isSame_61 : decode cX10_isSame 61 = .ok (.iinc 4 1, 3) := by decide +kernel
theorem dX10_isSame_64 : decode cX10_isSame 64 = .ok (.goto (-39), 3) := by decide +kernel
theorem dX10_isSame_67 : decode cX10_isSame 67 = .ok (.aload_n 0, 1) := by decide +kernel
theorem dX10_isSame_68 : decode cX10_isSame 68 = .ok (.iload_n 3, 1) := by decide +kernel
theorem dX10_isSame_69 : decode cX10_isSame 69 = .ok (.invokevirtual 185, 3) := by decide +kernel
theorem dX10_isSame_72 : decode cX10_isSame 72 = .ok (.ireturn, 1) := by decide +kernel
theorem dX10_perform_0 : decode cX10_perform 0 = .ok (.iload_n 1, 1) := by decide +kernel
theorem dX10_perform_1 : decode cX10_perform 1 = .ok (.invokestatic 162, 3) := by decide +kernel
theorem dX10_perform_4 : decode cX10_perform 4 = .ok (.ifCond .ne 9, 3) := by decide +kernel
theorem dX10_perform_7 : decode cX10_perform 7 = .ok (.aload_n 0, 1) := by decide +kernel
theorem dX10_perform_8 : decode cX10_perform 8 = .ok (.iconst 1, 1) := by decide +kernel
theorem dX10_perform_9 : decode cX10_perform 9 = .ok (.invokevirtual 94, 3) := by decide +kernel
theorem dX10_perform_12 : decode cX10_perform 12 = .ok (.ireturn, 1) := by decide +kernel
theorem dX10_perform_13 : decode cX10_perform 13 = .ok (.iload_n 2, 1) := by decide +kernel
theorem dX10_perform_14 : decode cX10_perform 14 = .ok (.bipush (-100), 2) := by decide +kernel
theorem dX10_perform_16 : decode cX10_perform 16 = .ok (.bipush 100, 2) := by decide +kernel
theorem dX10_perform_18 : decode cX10_perform 18 = .ok (.invokestatic 90, 3) := by decide +kernel
theorem dX10_perform_21 : decode cX10_perform 21 = .ok (.ifCond .ne 9, 3) := by decide +kernel
theorem dX10_perform_24 : decode cX10_perform 24 = .ok (.aload_n 0, 1) := by decide +kernel
theorem dX10_perform_25 : decode cX10_perform 25 = .ok (.iconst 2, 1) := by decide +kernel
theorem dX10_perform_26 : decode cX10_perform 26 = .ok (.invokevirtual 94, 3) := by decide +kernel
theorem dX10_perform_29 : decode cX10_perform 29 = .ok (.ireturn, 1) := by decide +kernel
theorem dX10_perform_30 : decode cX10_perform 30 = .ok (.iconst 0, 1) := by decide +kernel
theorem dX10_perform_31 : decode cX10_perform 31 = .ok (.istore_n 3, 1) := by decide +kernel
theorem dX10_perform_32 : decode cX10_perform 32 = .ok (.iconst 1, 1) := by decide +kernel
theorem dX10_perform_33 : decode cX10_perform 33 = .ok (.istore 4, 2) := by decide +kernel
theorem dX10_perform_35 : decode cX10_perform 35 = .ok (.iload 4, 2) := by decide +kernel
theorem dX10_perform_37 : decode cX10_perform 37 = .ok (.aload_n 0, 1) := by decide +kernel
theorem dX10_perform_38 : decode cX10_perform 38 = .ok (.getfield 7, 3) := by decide +kernel
theorem dX10_perform_41 : decode cX10_perform 41 = .ok (.if_icmp .gt 81, 3) := by decide +kernel
theorem dX10_perform_44 : decode cX10_perform 44 = .ok (.aload_n 0, 1) := by decide +kernel
theorem dX10_perform_45 : decode cX10_perform 45 = .ok (.iload_n 1, 1) := by decide +kernel
theorem dX10_perform_46 : decode cX10_perform 46 = .ok (.iload 4, 2) := by decide +kernel
theorem dX10_perform_48 : decode cX10_perform 48 = .ok (.invokevirtual 179, 3) := by decide +kernel
theorem dX10_perform_51 : decode cX10_perform 51 = .ok (.istore 5, 2) := by decide +kernel
theorem dX10_perform_53 : decode cX10_perform 53 = .ok (.iload_n 2, 1) := by decide +kernel
theorem dX10_perform_54 : decode cX10_perform 54 = .ok (.iload 5, 2) := by decide +kernel
theorem dX10_perform_56 : decode cX10_perform 56 = .ok (.irem, 1) := by decide +kernel
theorem dX10_perform_57 : decode cX10_perform 57 = .ok (.iload_n 2, 1) := by decide +kernel
theorem dX10_perform_58 : decode cX10_perform 58 = .ok (.iload 5, 2) := by decide +kernel
theorem dX10_perform_60 : decode cX10_perform 60 = .ok (.irem, 1) := by decide +kernel
theorem dX10_perform_61 : decode cX10_perform 61 = .ok (.ifCond .ge 8, 3) := by decide +kernel
theorem dX10_perform_64 : decode cX10_perform 64 = .ok (.iload 5, 2) := by decide +kernel
theorem dX10_perform_66 : decode cX10_perform 66 = .ok (.goto 4, 3) := by decide +kernel
theorem dX10_perform_69 : decode cX10_perform 69 = .ok (.iconst 0, 1) := by decide +kernel
theorem dX10_perform_70 : decode cX10_perform 70 = .ok (.iadd, 1) := by decide +kernel
theorem dX10_perform_71 : decode cX10_perform 71 = .ok (.istore 6, 2) := by decide +kernel
theorem dX10_perform_73 : decode cX10_perform 73 = .ok (.iload 4, 2) := by decide +kernel
theorem dX10_perform_75 : decode cX10_perform 75 = .ok (.istore 7, 2) := by decide +kernel
theorem dX10_perform_77 : decode cX10_perform 77 = .ok (.iconst 0, 1) := by decide +kernel
theorem dX10_perform_78 : decode cX10_perform 78 = .ok (.istore 8, 2) := by decide +kernel
theorem dX10_perform_80 : decode cX10_perform 80 = .ok (.iload 8, 2) := by decide +kernel
theorem dX10_perform_82 : decode cX10_perform 82 = .ok (.iload 6, 2) := by decide +kernel
theorem dX10_perform_84 : decode cX10_perform 84 = .ok (.if_icmp .ge 18, 3) := by decide +kernel
theorem dX10_perform_87 : decode cX10_perform 87 = .ok (.aload_n 0, 1) := by decide +kernel
theorem dX10_perform_88 : decode cX10_perform 88 = .ok (.iload_n 1, 1) := by decide +kernel
theorem dX10_perform_89 : decode cX10_perform 89 = .ok (.iload 7, 2) := by decide +kernel
theorem dX10_perform_91 : decode cX10_perform 91 = .ok (.invokevirtual 175, 3) := by decide +kernel
theorem dX10_perform_94 : decode cX10_perform 94 = .ok (.istore 7, 2) := by decide +kernel
theorem dX10_perform_96 : decode cX10_perform 96 = .ok (.iinc 8 1, 3) := by decide +kernel
theorem dX10_perform_99 : decode cX10_perform 99 = .ok (.goto (-19), 3) := by decide +kernel
theorem dX10_perform_102 : decode cX10_perform 102 = .ok (.aload_n 0, 1) := by decide +kernel
theorem dX10_perform_103 : decode cX10_perform 103 = .ok (.getfield 69, 3) := by decide +kernel
theorem dX10_perform_106 : decode cX10_perform 106 = .ok (.iload 7, 2) := by decide +kernel
theorem dX10_perform_108 : decode cX10_perform 108 = .ok (.aload_n 0, 1) := by decide +kernel
theorem dX10_perform_109 : decode cX10_perform 109 = .ok (.getfield 13, 3) := by decide +kernel
theorem dX10_perform_112 : decode cX10_perform 112 = .ok (.iload 4, 2) := by decide +kernel
theorem dX10_perform_114 : decode cX10_perform 114 = .ok (.iaload, 1) := by decide +kernel
theorem dX10_perform_115 : decode cX10_perform 115 = .ok (.iastore, 1) := by decide +kernel
theorem dX10_perform_116 : decode cX10_perform 116 = .ok (.iinc 4 1, 3) := by decide +kernel
theorem dX10_perform_119 : decode cX10_perform 119 = .ok (.goto (-84), 3) := by decide +kernel
theorem dX10_perform_122 : decode cX10_perform 122 = .ok (.iconst 1, 1) := by decide +kernel
theorem dX10_perform_123 : decode cX10_perform 123 = .ok (.istore 4, 2) := by decide +kernel
theorem dX10_perform_125 : decode cX10_perform 125 = .ok (.iload 4, 2) := by decide +kernel
theorem dX10_perform_127 : decode cX10_perform 127 = .ok (.aload_n 0, 1) := by decide +kernel
theorem dX10_perform_128 : decode cX10_perform 128 = .ok (.getfield 7, 3) := by decide +kernel
theorem dX10_perform_131 : decode cX10_perform 131 = .ok (.if_icmp .gt 48, 3) := by decide +kernel
theorem dX10_perform_134 : decode cX10_perform 134 = .ok (.iload_n 3, 1) := by decide +kernel
theorem dX10_perform_135 : decode cX10_perform 135 = .ok (.aload_n 0, 1) := by decide +kernel
theorem dX10_perform_136 : decode cX10_perform 136 = .ok (.getfield 69, 3) := by decide +kernel
theorem dX10_perform_139 : decode cX10_perform 139 = .ok (.iload 4, 2) := by decide +kernel
theorem dX10_perform_141 : decode cX10_perform 141 = .ok (.iaload, 1) := by decide +kernel
theorem dX10_perform_142 : decode cX10_perform 142 = .ok (.aload_n 0, 1) := by decide +kernel
theorem dX10_perform_143 : decode cX10_perform 143 = .ok (.getfield 13, 3) := by decide +kernel
theorem dX10_perform_146 : decode cX10_perform 146 = .ok (.iload 4, 2) := by decide +kernel
theorem dX10_perform_148 : decode cX10_perform 148 = .ok (.iaload, 1) := by decide +kernel
theorem dX10_perform_149 : decode cX10_perform 149 = .ok (.if_icmp .eq 7, 3) := by decide +kernel
theorem dX10_perform_152 : decode cX10_perform 152 = .ok (.iconst 1, 1) := by decide +kernel
theorem dX10_perform_153 : decode cX10_perform 153 = .ok (.goto 4, 3) := by decide +kernel
theorem dX10_perform_156 : decode cX10_perform 156 = .ok (.iconst 0, 1) := by decide +kernel
theorem dX10_perform_157 : decode cX10_perform 157 = .ok (.iadd, 1) := by decide +kernel
theorem dX10_perform_158 : decode cX10_perform 158 = .ok (.istore_n 3, 1) := by decide +kernel
theorem dX10_perform_159 : decode cX10_perform 159 = .ok (.aload_n 0, 1) := by decide +kernel
theorem dX10_perform_160 : decode cX10_perform 160 = .ok (.getfield 13, 3) := by decide +kernel
theorem dX10_perform_163 : decode cX10_perform 163 = .ok (.iload 4, 2) := by decide +kernel
theorem dX10_perform_165 : decode cX10_perform 165 = .ok (.aload_n 0, 1) := by decide +kernel
theorem dX10_perform_166 : decode cX10_perform 166 = .ok (.getfield 69, 3) := by decide +kernel
theorem dX10_perform_169 : decode cX10_perform 169 = .ok (.iload 4, 2) := by decide +kernel
theorem dX10_perform_171 : decode cX10_perform 171 = .ok (.iaload, 1) := by decide +kernel
theorem dX10_perform_172 : decode cX10_perform 172 = .ok (.iastore, 1) := by decide +kernel
theorem dX10_perform_173 : decode cX10_perform 173 = .ok (.iinc 4 1, 3) := by decide +kernel
theorem dX10_perform_176 : decode cX10_perform 176 = .ok (.goto (-51), 3) := by decide +kernel
theorem dX10_perform_179 : decode cX10_perform 179 = .ok (.aload_n 0, 1) := by decide +kernel
theorem dX10_perform_180 : decode cX10_perform 180 = .ok (.iload_n 3, 1) := by decide +kernel
theorem dX10_perform_181 : decode cX10_perform 181 = .ok (.invokevirtual 105, 3) := by decide +kernel
theorem dX10_perform_184 : decode cX10_perform 184 = .ok (.ireturn, 1) := by decide +kernel
theorem dX10_exchange_0 : decode cX10_exchange 0 = .ok (.aload_n 0, 1) := by decide +kernel
theorem dX10_exchange_1 : decode cX10_exchange 1 = .ok (.iload_n 1, 1) := by decide +kernel
theorem dX10_exchange_2 : decode cX10_exchange 2 = .ok (.invokevirtual 118, 3) := by decide +kernel
theorem dX10_exchange_5 : decode cX10_exchange 5 = .ok (.ifCond .eq 11, 3) := by decide +kernel
theorem dX10_exchange_8 : decode cX10_exchange 8 = .ok (.aload_n 0, 1) := by decide +kernel
theorem dX10_exchange_9 : decode cX10_exchange 9 = .ok (.iload_n 2, 1) := by decide +kernel
theorem dX10_exchange_10 : decode cX10_exchange 10 = .ok (.invokevirtual 118, 3) := by decide +kernel
theorem dX10_exchange_13 : decode cX10_exchange 13 = .ok (.ifCond .ne 9, 3) := by decide +kernel
theorem dX10_exchange_16 : decode cX10_exchange 16 = .ok (.aload_n 0, 1) := by decide +kernel
theorem dX10_exchange_17 : decode cX10_exchange 17 = .ok (.iconst 1, 1) := by decide +kernel
theorem dX10_exchange_18 : decode cX10_exchange 18 = .ok (.invokevirtual 94, 3) := by decide +kernel
theorem dX10_exchange_21 : decode cX10_exchange 21 = .ok (.ireturn, 1) := by decide +kernel
theorem dX10_exchange_22 : decode cX10_exchange 22 = .ok (.aload_n 0, 1) := by decide +kernel
theorem dX10_exchange_23 : decode cX10_exchange 23 = .ok (.getfield 13, 3) := by decide +kernel
theorem dX10_exchange_26 : decode cX10_exchange 26 = .ok (.iload_n 1, 1) := by decide +kernel
theorem dX10_exchange_27 : decode cX10_exchange 27 = .ok (.iaload, 1) := by decide +kernel
theorem dX10_exchange_28 : decode cX10_exchange 28 = .ok (.istore_n 3, 1) := by decide +kernel
theorem dX10_exchange_29 : decode cX10_exchange 29 = .ok (.aload_n 0, 1) := by decide +kernel
theorem dX10_exchange_30 : decode cX10_exchange 30 = .ok (.getfield 13, 3) := by decide +kernel
theorem dX10_exchange_33 : decode cX10_exchange 33 = .ok (.iload_n 1, 1) := by decide +kernel
theorem dX10_exchange_34 : decode cX10_exchange 34 = .ok (.aload_n 0, 1) := by decide +kernel
theorem dX10_exchange_35 : decode cX10_exchange 35 = .ok (.getfield 13, 3) := by decide +kernel
theorem dX10_exchange_38 : decode cX10_exchange 38 = .ok (.iload_n 2, 1) := by decide +kernel
theorem dX10_exchange_39 : decode cX10_exchange 39 = .ok (.iaload, 1) := by decide +kernel
theorem dX10_exchange_40 : decode cX10_exchange 40 = .ok (.iastore, 1) := by decide +kernel
theorem dX10_exchange_41 : decode cX10_exchange 41 = .ok (.aload_n 0, 1) := by decide +kernel
theorem dX10_exchange_42 : decode cX10_exchange 42 = .ok (.getfield 13, 3) := by decide +kernel
theorem dX10_exchange_45 : decode cX10_exchange 45 = .ok (.iload_n 2, 1) := by decide +kernel
theorem dX10_exchange_46 : decode cX10_exchange 46 = .ok (.iload_n 3, 1) := by decide +kernel
theorem dX10_exchange_47 : decode cX10_exchange 47 = .ok (.iastore, 1) := by decide +kernel
theorem dX10_exchange_48 : decode cX10_exchange 48 = .ok (.aload_n 0, 1) := by decide +kernel
theorem dX10_exchange_49 : decode cX10_exchange 49 = .ok (.aload_n 0, 1) := by decide +kernel
theorem dX10_exchange_50 : decode cX10_exchange 50 = .ok (.getfield 13, 3) := by decide +kernel
theorem dX10_exchange_53 : decode cX10_exchange 53 = .ok (.iload_n 1, 1) := by decide +kernel
theorem dX10_exchange_54 : decode cX10_exchange 54 = .ok (.iaload, 1) := by decide +kernel
theorem dX10_exchange_55 : decode cX10_exchange 55 = .ok (.invokevirtual 105, 3) := by decide +kernel
theorem dX10_exchange_58 : decode cX10_exchange 58 = .ok (.ireturn, 1) := by decide +kernel
theorem dX10_token_0 : decode cX10_token 0 = .ok (.aload_n 0, 1) := by decide +kernel
theorem dX10_token_1 : decode cX10_token 1 = .ok (.iload_n 1, 1) := by decide +kernel
theorem dX10_token_2 : decode cX10_token 2 = .ok (.invokevirtual 118, 3) := by decide +kernel
theorem dX10_token_5 : decode cX10_token 5 = .ok (.ifCond .eq 16, 3) := by decide +kernel
theorem dX10_token_8 : decode cX10_token 8 = .ok (.aload_n 0, 1) := by decide +kernel
theorem dX10_token_9 : decode cX10_token 9 = .ok (.aload_n 0, 1) := by decide +kernel
theorem dX10_token_10 : decode cX10_token 10 = .ok (.getfield 13, 3) := by decide +kernel
theorem dX10_token_13 : decode cX10_token 13 = .ok (.iload_n 1, 1) := by decide +kernel
theorem dX10_token_14 : decode cX10_token 14 = .ok (.iaload, 1) := by decide +kernel
theorem dX10_token_15 : decode cX10_token 15 = .ok (.invokevirtual 105, 3) := by decide +kernel
theorem dX10_token_18 : decode cX10_token 18 = .ok (.goto 8, 3) := by decide +kernel
theorem dX10_token_21 : decode cX10_token 21 = .ok (.aload_n 0, 1) := by decide +kernel
theorem dX10_token_22 : decode cX10_token 22 = .ok (.iconst 1, 1) := by decide +kernel
theorem dX10_token_23 : decode cX10_token 23 = .ok (.invokevirtual 94, 3) := by decide +kernel
theorem dX10_token_26 : decode cX10_token 26 = .ok (.ireturn, 1) := by decide +kernel
theorem dX10_numberOf_0 : decode cX10_numberOf 0 = .ok (.iconst 0, 1) := by decide +kernel
theorem dX10_numberOf_1 : decode cX10_numberOf 1 = .ok (.istore_n 2, 1) := by decide +kernel
theorem dX10_numberOf_2 : decode cX10_numberOf 2 = .ok (.iconst 1, 1) := by decide +kernel
theorem dX10_numberOf_3 : decode cX10_numberOf 3 = .ok (.istore_n 3, 1) := by decide +kernel
theorem dX10_numberOf_4 : decode cX10_numberOf 4 = .ok (.iload_n 3, 1) := by decide +kernel
theorem dX10_numberOf_5 : decode cX10_numberOf 5 = .ok (.aload_n 0, 1) := by decide +kernel
theorem dX10_numberOf_6 : decode cX10_numberOf 6 = .ok (.getfield 7, 3) := by decide +kernel
theorem dX10_numberOf_9 : decode cX10_numberOf 9 = .ok (.if_icmp .gt 66, 3) := by decide +kernel
theorem dX10_numberOf_12 : decode cX10_numberOf 12 = .ok (.iconst 0, 1) := by decide +kernel
theorem dX10_numberOf_13 : decode cX10_numberOf 13 = .ok (.istore 4, 2) := by decide +kernel
theorem dX10_numberOf_15 : decode cX10_numberOf 15 = .ok (.iload_n 3, 1) := by decide +kernel
theorem dX10_numberOf_16 : decode cX10_numberOf 16 = .ok (.iconst 1, 1) := by decide +kernel
theorem dX10_numberOf_17 : decode cX10_numberOf 17 = .ok (.iadd, 1) := by decide +kernel
theorem dX10_numberOf_18 : decode cX10_numberOf 18 = .ok (.istore 5, 2) := by decide +kernel
theorem dX10_numberOf_20 : decode cX10_numberOf 20 = .ok (.iload 5, 2) := by decide +kernel
theorem dX10_numberOf_22 : decode cX10_numberOf 22 = .ok (.aload_n 0, 1) := by decide +kernel
theorem dX10_numberOf_23 : decode cX10_numberOf 23 = .ok (.getfield 7, 3) := by decide +kernel
theorem dX10_numberOf_26 : decode cX10_numberOf 26 = .ok (.if_icmp .gt 29, 3) := by decide +kernel
theorem dX10_numberOf_29 : decode cX10_numberOf 29 = .ok (.iload 4, 2) := by decide +kernel
theorem dX10_numberOf_31 : decode cX10_numberOf 31 = .ok (.aload_n 1, 1) := by decide +kernel
theorem dX10_numberOf_32 : decode cX10_numberOf 32 = .ok (.iload 5, 2) := by decide +kernel
theorem dX10_numberOf_34 : decode cX10_numberOf 34 = .ok (.iaload, 1) := by decide +kernel
theorem dX10_numberOf_35 : decode cX10_numberOf 35 = .ok (.aload_n 1, 1) := by decide +kernel
theorem dX10_numberOf_36 : decode cX10_numberOf 36 = .ok (.iload_n 3, 1) := by decide +kernel
theorem dX10_numberOf_37 : decode cX10_numberOf 37 = .ok (.iaload, 1) := by decide +kernel
theorem dX10_numberOf_38 : decode cX10_numberOf 38 = .ok (.if_icmp .ge 7, 3) := by decide +kernel
theorem dX10_numberOf_41 : decode cX10_numberOf 41 = .ok (.iconst 1, 1) := by decide +kernel
theorem dX10_numberOf_42 : decode cX10_numberOf 42 = .ok (.goto 4, 3) := by decide +kernel
theorem dX10_numberOf_45 : decode cX10_numberOf 45 = .ok (.iconst 0, 1) := by decide +kernel
theorem dX10_numberOf_46 : decode cX10_numberOf 46 = .ok (.iadd, 1) := by decide +kernel
theorem dX10_numberOf_47 : decode cX10_numberOf 47 = .ok (.istore 4, 2) := by decide +kernel
theorem dX10_numberOf_49 : decode cX10_numberOf 49 = .ok (.iinc 5 1, 3) := by decide +kernel
theorem dX10_numberOf_52 : decode cX10_numberOf 52 = .ok (.goto (-32), 3) := by decide +kernel
theorem dX10_numberOf_55 : decode cX10_numberOf 55 = .ok (.iload_n 2, 1) := by decide +kernel
theorem dX10_numberOf_56 : decode cX10_numberOf 56 = .ok (.aload_n 0, 1) := by decide +kernel
theorem dX10_numberOf_57 : decode cX10_numberOf 57 = .ok (.getfield 7, 3) := by decide +kernel
theorem dX10_numberOf_60 : decode cX10_numberOf 60 = .ok (.iload_n 3, 1) := by decide +kernel
theorem dX10_numberOf_61 : decode cX10_numberOf 61 = .ok (.isub, 1) := by decide +kernel
theorem dX10_numberOf_62 : decode cX10_numberOf 62 = .ok (.iconst 1, 1) := by decide +kernel
theorem dX10_numberOf_63 : decode cX10_numberOf 63 = .ok (.iadd, 1) := by decide +kernel
theorem dX10_numberOf_64 : decode cX10_numberOf 64 = .ok (.imul, 1) := by decide +kernel
theorem dX10_numberOf_65 : decode cX10_numberOf 65 = .ok (.iload 4, 2) := by decide +kernel
theorem dX10_numberOf_67 : decode cX10_numberOf 67 = .ok (.iadd, 1) := by decide +kernel
theorem dX10_numberOf_68 : decode cX10_numberOf 68 = .ok (.istore_n 2, 1) := by decide +kernel
theorem dX10_numberOf_69 : decode cX10_numberOf 69 = .ok (.iinc 3 1, 3) := by decide +kernel
theorem dX10_numberOf_72 : decode cX10_numberOf 72 = .ok (.goto (-68), 3) := by decide +kernel
theorem dX10_numberOf_75 : decode cX10_numberOf 75 = .ok (.iload_n 2, 1) := by decide +kernel
theorem dX10_numberOf_76 : decode cX10_numberOf 76 = .ok (.ireturn, 1) := by decide +kernel
theorem dX10_packed_0 : decode cX10_packed 0 = .ok (.iconst 0, 1) := by decide +kernel
theorem dX10_packed_1 : decode cX10_packed 1 = .ok (.istore_n 2, 1) := by decide +kernel
theorem dX10_packed_2 : decode cX10_packed 2 = .ok (.iconst 1, 1) := by decide +kernel
theorem dX10_packed_3 : decode cX10_packed 3 = .ok (.istore_n 3, 1) := by decide +kernel
theorem dX10_packed_4 : decode cX10_packed 4 = .ok (.iload_n 3, 1) := by decide +kernel
theorem dX10_packed_5 : decode cX10_packed 5 = .ok (.aload_n 0, 1) := by decide +kernel
theorem dX10_packed_6 : decode cX10_packed 6 = .ok (.getfield 7, 3) := by decide +kernel
theorem dX10_packed_9 : decode cX10_packed 9 = .ok (.if_icmp .gt 19, 3) := by decide +kernel
theorem dX10_packed_12 : decode cX10_packed 12 = .ok (.iload_n 2, 1) := by decide +kernel
theorem dX10_packed_13 : decode cX10_packed 13 = .ok (.aload_n 1, 1) := by decide +kernel
theorem dX10_packed_14 : decode cX10_packed 14 = .ok (.iload_n 3, 1) := by decide +kernel
theorem dX10_packed_15 : decode cX10_packed 15 = .ok (.iaload, 1) := by decide +kernel
theorem dX10_packed_16 : decode cX10_packed 16 = .ok (.iconst 3, 1) := by decide +kernel
theorem dX10_packed_17 : decode cX10_packed 17 = .ok (.iload_n 3, 1) := by decide +kernel
theorem dX10_packed_18 : decode cX10_packed 18 = .ok (.imul, 1) := by decide +kernel
theorem dX10_packed_19 : decode cX10_packed 19 = .ok (.ishl, 1) := by decide +kernel
theorem dX10_packed_20 : decode cX10_packed 20 = .ok (.ior, 1) := by decide +kernel
theorem dX10_packed_21 : decode cX10_packed 21 = .ok (.istore_n 2, 1) := by decide +kernel
theorem dX10_packed_22 : decode cX10_packed 22 = .ok (.iinc 3 1, 3) := by decide +kernel
theorem dX10_packed_25 : decode cX10_packed 25 = .ok (.goto (-21), 3) := by decide +kernel
theorem dX10_packed_28 : decode cX10_packed 28 = .ok (.iload_n 2, 1) := by decide +kernel
theorem dX10_packed_29 : decode cX10_packed 29 = .ok (.ireturn, 1) := by decide +kernel
theorem dX10_unpacks_0 : decode cX10_unpacks 0 = .ok (.iconst 1, 1) := by decide +kernel
theorem dX10_unpacks_1 : decode cX10_unpacks 1 = .ok (.istore_n 2, 1) := by decide +kernel
theorem dX10_unpacks_2 : decode cX10_unpacks 2 = .ok (.iload_n 2, 1) := by decide +kernel
theorem dX10_unpacks_3 : decode cX10_unpacks 3 = .ok (.aload_n 0, 1) := by decide +kernel
theorem dX10_unpacks_4 : decode cX10_unpacks 4 = .ok (.getfield 7, 3) := by decide +kernel
theorem dX10_unpacks_7 : decode cX10_unpacks 7 = .ok (.if_icmp .gt 23, 3) := by decide +kernel
theorem dX10_unpacks_10 : decode cX10_unpacks 10 = .ok (.aload_n 0, 1) := by decide +kernel
theorem dX10_unpacks_11 : decode cX10_unpacks 11 = .ok (.getfield 78, 3) := by decide +kernel
theorem dX10_unpacks_14 : decode cX10_unpacks 14 = .ok (.iload_n 2, 1) := by decide +kernel
theorem dX10_unpacks_15 : decode cX10_unpacks 15 = .ok (.iload_n 1, 1) := by decide +kernel
theorem dX10_unpacks_16 : decode cX10_unpacks 16 = .ok (.iconst 3, 1) := by decide +kernel
theorem dX10_unpacks_17 : decode cX10_unpacks 17 = .ok (.iload_n 2, 1) := by decide +kernel
theorem dX10_unpacks_18 : decode cX10_unpacks 18 = .ok (.imul, 1) := by decide +kernel
theorem dX10_unpacks_19 : decode cX10_unpacks 19 = .ok (.ishr, 1) := by decide +kernel
theorem dX10_unpacks_20 : decode cX10_unpacks 20 = .ok (.bipush 7, 2) := by decide +kernel
theorem dX10_unpacks_22 : decode cX10_unpacks 22 = .ok (.iand, 1) := by decide +kernel
theorem dX10_unpacks_23 : decode cX10_unpacks 23 = .ok (.iastore, 1) := by decide +kernel
theorem dX10_unpacks_24 : decode cX10_unpacks 24 = .ok (.iinc 2 1, 3) := by decide +kernel
theorem dX10_unpacks_27 : decode cX10_unpacks 27 = .ok (.goto (-25), 3) := by decide +kernel
theorem dX10_unpacks_30 : decode cX10_unpacks 30 = .ok (.return_, 1) := by decide +kernel
theorem dX10_isLetter_0 : decode cX10_isLetter 0 = .ok (.aload_n 0, 1) := by decide +kernel
theorem dX10_isLetter_1 : decode cX10_isLetter 1 = .ok (.getfield 17, 3) := by decide +kernel
theorem dX10_isLetter_4 : decode cX10_isLetter 4 = .ok (.iload_n 1, 1) := by decide +kernel
theorem dX10_isLetter_5 : decode cX10_isLetter 5 = .ok (.iconst 2, 1) := by decide +kernel
theorem dX10_isLetter_6 : decode cX10_isLetter 6 = .ok (.idiv, 1) := by decide +kernel
theorem dX10_isLetter_7 : decode cX10_isLetter 7 = .ok (.baload, 1) := by decide +kernel
theorem dX10_isLetter_8 : decode cX10_isLetter 8 = .ok (.ireturn, 1) := by decide +kernel
theorem dX10_moves_0 : decode cX10_moves 0 = .ok (.iconst 1, 1) := by decide +kernel
theorem dX10_moves_1 : decode cX10_moves 1 = .ok (.istore_n 2, 1) := by decide +kernel
theorem dX10_moves_2 : decode cX10_moves 2 = .ok (.iload_n 2, 1) := by decide +kernel
theorem dX10_moves_3 : decode cX10_moves 3 = .ok (.aload_n 0, 1) := by decide +kernel
theorem dX10_moves_4 : decode cX10_moves 4 = .ok (.getfield 7, 3) := by decide +kernel
theorem dX10_moves_7 : decode cX10_moves 7 = .ok (.if_icmp .gt 31, 3) := by decide +kernel
theorem dX10_moves_10 : decode cX10_moves 10 = .ok (.aload_n 0, 1) := by decide +kernel
theorem dX10_moves_11 : decode cX10_moves 11 = .ok (.getfield 81, 3) := by decide +kernel
theorem dX10_moves_14 : decode cX10_moves 14 = .ok (.aload_n 0, 1) := by decide +kernel
theorem dX10_moves_15 : decode cX10_moves 15 = .ok (.getfield 21, 3) := by decide +kernel
theorem dX10_moves_18 : decode cX10_moves 18 = .ok (.bipush 8, 2) := by decide +kernel
theorem dX10_moves_20 : decode cX10_moves 20 = .ok (.iload_n 1, 1) := by decide +kernel
theorem dX10_moves_21 : decode cX10_moves 21 = .ok (.imul, 1) := by decide +kernel
theorem dX10_moves_22 : decode cX10_moves 22 = .ok (.iload_n 2, 1) := by decide +kernel
theorem dX10_moves_23 : decode cX10_moves 23 = .ok (.iadd, 1) := by decide +kernel
theorem dX10_moves_24 : decode cX10_moves 24 = .ok (.iaload, 1) := by decide +kernel
theorem dX10_moves_25 : decode cX10_moves 25 = .ok (.aload_n 0, 1) := by decide +kernel
theorem dX10_moves_26 : decode cX10_moves 26 = .ok (.getfield 78, 3) := by decide +kernel
theorem dX10_moves_29 : decode cX10_moves 29 = .ok (.iload_n 2, 1) := by decide +kernel
theorem dX10_moves_30 : decode cX10_moves 30 = .ok (.iaload, 1) := by decide +kernel
theorem dX10_moves_31 : decode cX10_moves 31 = .ok (.iastore, 1) := by decide +kernel
theorem dX10_moves_32 : decode cX10_moves 32 = .ok (.iinc 2 1, 3) := by decide +kernel
theorem dX10_moves_35 : decode cX10_moves 35 = .ok (.goto (-33), 3) := by decide +kernel
theorem dX10_moves_38 : decode cX10_moves 38 = .ok (.return_, 1) := by decide +kernel
theorem dX10_tellDepths_0 : decode cX10_tellDepths 0 = .ok (.aload_n 0, 1) := by decide +kernel
theorem dX10_tellDepths_1 : decode cX10_tellDepths 1 = .ok (.getfield 102, 3) := by decide +kernel
theorem dX10_tellDepths_4 : decode cX10_tellDepths 4 = .ok (.ifCond .eq 4, 3) := by decide +kernel
theorem dX10_tellDepths_7 : decode cX10_tellDepths 7 = .ok (.return_, 1) := by decide +kernel
theorem dX10_tellDepths_8 : decode cX10_tellDepths 8 = .ok (.aload_n 0, 1) := by decide +kernel
theorem dX10_tellDepths_9 : decode cX10_tellDepths 9 = .ok (.iconst 1, 1) := by decide +kernel
theorem dX10_tellDepths_10 : decode cX10_tellDepths 10 = .ok (.putfield 102, 3) := by decide +kernel
theorem dX10_tellDepths_13 : decode cX10_tellDepths 13 = .ok (.iconst 0, 1) := by decide +kernel
theorem dX10_tellDepths_14 : decode cX10_tellDepths 14 = .ok (.istore_n 1, 1) := by decide +kernel
theorem dX10_tellDepths_15 : decode cX10_tellDepths 15 = .ok (.iload_n 1, 1) := by decide +kernel
theorem dX10_tellDepths_16 : decode cX10_tellDepths 16 = .ok (.sipush 5040, 3) := by decide +kernel
theorem dX10_tellDepths_19 : decode cX10_tellDepths 19 = .ok (.if_icmp .ge 23, 3) := by decide +kernel
theorem dX10_tellDepths_22 : decode cX10_tellDepths 22 = .ok (.aload_n 0, 1) := by decide +kernel
theorem dX10_tellDepths_23 : decode cX10_tellDepths 23 = .ok (.getfield 72, 3) := by decide +kernel
theorem dX10_tellDepths_26 : decode cX10_tellDepths 26 = .ok (.iload_n 1, 1) := by decide +kernel
theorem dX10_tellDepths_27 : decode cX10_tellDepths 27 = .ok (.iconst (-1), 1) := by decide +kernel
theorem dX10_tellDepths_28 : decode cX10_tellDepths 28 = .ok (.iastore, 1) := by decide +kernel
theorem dX10_tellDepths_29 : decode cX10_tellDepths 29 = .ok (.aload_n 0, 1) := by decide +kernel
theorem dX10_tellDepths_30 : decode cX10_tellDepths 30 = .ok (.getfield 84, 3) := by decide +kernel
theorem dX10_tellDepths_33 : decode cX10_tellDepths 33 = .ok (.iload_n 1, 1) := by decide +kernel
theorem dX10_tellDepths_34 : decode cX10_tellDepths 34 = .ok (.iconst 0, 1) := by decide +kernel
theorem dX10_tellDepths_35 : decode cX10_tellDepths 35 = .ok (.iastore, 1) := by decide +kernel
theorem dX10_tellDepths_36 : decode cX10_tellDepths 36 = .ok (.iinc 1 1, 3) := by decide +kernel
theorem dX10_tellDepths_39 : decode cX10_tellDepths 39 = .ok (.goto (-24), 3) := by decide +kernel
theorem dX10_tellDepths_42 : decode cX10_tellDepths 42 = .ok (.iconst 1, 1) := by decide +kernel
theorem dX10_tellDepths_43 : decode cX10_tellDepths 43 = .ok (.istore_n 1, 1) := by decide +kernel
theorem dX10_tellDepths_44 : decode cX10_tellDepths 44 = .ok (.iload_n 1, 1) := by decide +kernel
theorem dX10_tellDepths_45 : decode cX10_tellDepths 45 = .ok (.aload_n 0, 1) := by decide +kernel
theorem dX10_tellDepths_46 : decode cX10_tellDepths 46 = .ok (.getfield 7, 3) := by decide +kernel
theorem dX10_tellDepths_49 : decode cX10_tellDepths 49 = .ok (.if_icmp .gt 16, 3) := by decide +kernel
theorem dX10_tellDepths_52 : decode cX10_tellDepths 52 = .ok (.aload_n 0, 1) := by decide +kernel
theorem dX10_tellDepths_53 : decode cX10_tellDepths 53 = .ok (.getfield 78, 3) := by decide +kernel
theorem dX10_tellDepths_56 : decode cX10_tellDepths 56 = .ok (.iload_n 1, 1) := by decide +kernel
theorem dX10_tellDepths_57 : decode cX10_tellDepths 57 = .ok (.iload_n 1, 1) := by decide +kernel
theorem dX10_tellDepths_58 : decode cX10_tellDepths 58 = .ok (.iastore, 1) := by decide +kernel
theorem dX10_tellDepths_59 : decode cX10_tellDepths 59 = .ok (.iinc 1 1, 3) := by decide +kernel
theorem dX10_tellDepths_62 : decode cX10_tellDepths 62 = .ok (.goto (-18), 3) := by decide +kernel
theorem dX10_tellDepths_65 : decode cX10_tellDepths 65 = .ok (.aload_n 0, 1) := by decide +kernel
theorem dX10_tellDepths_66 : decode cX10_tellDepths 66 = .ok (.getfield 72, 3) := by decide +kernel
theorem dX10_tellDepths_69 : decode cX10_tellDepths 69 = .ok (.aload_n 0, 1) := by decide +kernel
theorem dX10_tellDepths_70 : decode cX10_tellDepths 70 = .ok (.aload_n 0, 1) := by decide +kernel
theorem dX10_tellDepths_71 : decode cX10_tellDepths 71 = .ok (.getfield 78, 3) := by decide +kernel
theorem dX10_tellDepths_74 : decode cX10_tellDepths 74 = .ok (.invokevirtual 189, 3) := by decide +kernel
theorem dX10_tellDepths_77 : decode cX10_tellDepths 77 = .ok (.iconst 0, 1) := by decide +kernel
theorem dX10_tellDepths_78 : decode cX10_tellDepths 78 = .ok (.iastore, 1) := by decide +kernel
theorem dX10_tellDepths_79 : decode cX10_tellDepths 79 = .ok (.aload_n 0, 1) := by decide +kernel
theorem dX10_tellDepths_80 : decode cX10_tellDepths 80 = .ok (.getfield 75, 3) := by decide +kernel
theorem dX10_tellDepths_83 : decode cX10_tellDepths 83 = .ok (.iconst 0, 1) := by decide +kernel
theorem dX10_tellDepths_84 : decode cX10_tellDepths 84 = .ok (.aload_n 0, 1) := by decide +kernel
theorem dX10_tellDepths_85 : decode cX10_tellDepths 85 = .ok (.aload_n 0, 1) := by decide +kernel
theorem dX10_tellDepths_86 : decode cX10_tellDepths 86 = .ok (.getfield 78, 3) := by decide +kernel
theorem dX10_tellDepths_89 : decode cX10_tellDepths 89 = .ok (.invokevirtual 193, 3) := by decide +kernel
theorem dX10_tellDepths_92 : decode cX10_tellDepths 92 = .ok (.iastore, 1) := by decide +kernel
theorem dX10_tellDepths_93 : decode cX10_tellDepths 93 = .ok (.aload_n 0, 1) := by decide +kernel
theorem dX10_tellDepths_94 : decode cX10_tellDepths 94 = .ok (.iconst 1, 1) := by decide +kernel
theorem dX10_tellDepths_95 : decode cX10_tellDepths 95 = .ok (.putfield 196, 3) := by decide +kernel
theorem dX10_tellDepths_98 : decode cX10_tellDepths 98 = .ok (.iconst 0, 1) := by decide +kernel
theorem dX10_tellDepths_99 : decode cX10_tellDepths 99 = .ok (.istore_n 1, 1) := by decide +kernel
theorem dX10_tellDepths_100 : decode cX10_tellDepths 100 = .ok (.iload_n 1, 1) := by decide +kernel
theorem dX10_tellDepths_101 : decode cX10_tellDepths 101 = .ok (.aload_n 0, 1) := by decide +kernel
theorem dX10_tellDepths_102 : decode cX10_tellDepths 102 = .ok (.getfield 196, 3) := by decide +kernel
theorem dX10_tellDepths_105 : decode cX10_tellDepths 105 = .ok (.if_icmp .ge 133, 3) := by decide +kernel
theorem dX10_tellDepths_108 : decode cX10_tellDepths 108 = .ok (.aload_n 0, 1) := by decide +kernel
theorem dX10_tellDepths_109 : decode cX10_tellDepths 109 = .ok (.aload_n 0, 1) := by decide +kernel
theorem dX10_tellDepths_110 : decode cX10_tellDepths 110 = .ok (.getfield 75, 3) := by decide +kernel
theorem dX10_tellDepths_113 : decode cX10_tellDepths 113 = .ok (.iload_n 1, 1) := by decide +kernel
theorem dX10_tellDepths_114 : decode cX10_tellDepths 114 = .ok (.iaload, 1) := by decide +kernel
theorem dX10_tellDepths_115 : decode cX10_tellDepths 115 = .ok (.invokevirtual 199, 3) := by decide +kernel
theorem dX10_tellDepths_118 : decode cX10_tellDepths 118 = .ok (.aload_n 0, 1) := by decide +kernel
theorem dX10_tellDepths_119 : decode cX10_tellDepths 119 = .ok (.getfield 72, 3) := by decide +kernel
theorem dX10_tellDepths_122 : decode cX10_tellDepths 122 = .ok (.aload_n 0, 1) := by decide +kernel
theorem dX10_tellDepths_123 : decode cX10_tellDepths 123 = .ok (.aload_n 0, 1) := by decide +kernel
theorem dX10_tellDepths_124 : decode cX10_tellDepths 124 = .ok (.getfield 78, 3) := by decide +kernel
theorem dX10_tellDepths_127 : decode cX10_tellDepths 127 = .ok (.invokevirtual 189, 3) := by decide +kernel
theorem dX10_tellDepths_130 : decode cX10_tellDepths 130 = .ok (.iaload, 1) := by decide +kernel
theorem dX10_tellDepths_131 : decode cX10_tellDepths 131 = .ok (.istore_n 2, 1) := by decide +kernel
theorem dX10_tellDepths_132 : decode cX10_tellDepths 132 = .ok (.aload_n 0, 1) := by decide +kernel
theorem dX10_tellDepths_133 : decode cX10_tellDepths 133 = .ok (.getfield 84, 3) := by decide +kernel
theorem dX10_tellDepths_136 : decode cX10_tellDepths 136 = .ok (.iload_n 2, 1) := by decide +kernel
theorem dX10_tellDepths_137 : decode cX10_tellDepths 137 = .ok (.dup2, 1) := by decide +kernel
theorem dX10_tellDepths_138 : decode cX10_tellDepths 138 = .ok (.iaload, 1) := by decide +kernel
theorem dX10_tellDepths_139 : decode cX10_tellDepths 139 = .ok (.iconst 1, 1) := by decide +kernel
theorem dX10_tellDepths_140 : decode cX10_tellDepths 140 = .ok (.iadd, 1) := by decide +kernel
theorem dX10_tellDepths_141 : decode cX10_tellDepths 141 = .ok (.iastore, 1) := by decide +kernel
theorem dX10_tellDepths_142 : decode cX10_tellDepths 142 = .ok (.aload_n 0, 1) := by decide +kernel
theorem dX10_tellDepths_143 : decode cX10_tellDepths 143 = .ok (.iload_n 2, 1) := by decide +kernel
theorem dX10_tellDepths_144 : decode cX10_tellDepths 144 = .ok (.putfield 202, 3) := by decide +kernel
theorem dX10_tellDepths_147 : decode cX10_tellDepths 147 = .ok (.iconst 0, 1) := by decide +kernel
theorem dX10_tellDepths_148 : decode cX10_tellDepths 148 = .ok (.istore_n 3, 1) := by decide +kernel
theorem dX10_tellDepths_149 : decode cX10_tellDepths 149 = .ok (.iload_n 3, 1) := by decide +kernel
theorem dX10_tellDepths_150 : decode cX10_tellDepths 150 = .ok (.bipush 10, 2) := by decide +kernel
theorem dX10_tellDepths_152 : decode cX10_tellDepths 152 = .ok (.if_icmp .ge 80, 3) := by decide +kernel
theorem dX10_tellDepths_155 : decode cX10_tellDepths 155 = .ok (.aload_n 0, 1) := by decide +kernel
theorem dX10_tellDepths_156 : decode cX10_tellDepths 156 = .ok (.iload_n 3, 1) := by decide +kernel
theorem dX10_tellDepths_157 : decode cX10_tellDepths 157 = .ok (.invokevirtual 205, 3) := by decide +kernel
theorem dX10_tellDepths_160 : decode cX10_tellDepths 160 = .ok (.ifCond .eq 66, 3) := by decide +kernel
theorem dX10_tellDepths_163 : decode cX10_tellDepths 163 = .ok (.aload_n 0, 1) := by decide +kernel
theorem dX10_tellDepths_164 : decode cX10_tellDepths 164 = .ok (.iload_n 3, 1) := by decide +kernel
theorem dX10_tellDepths_165 : decode cX10_tellDepths 165 = .ok (.invokevirtual 208, 3) := by decide +kernel
theorem dX10_tellDepths_168 : decode cX10_tellDepths 168 = .ok (.aload_n 0, 1) := by decide +kernel
theorem dX10_tellDepths_169 : decode cX10_tellDepths 169 = .ok (.aload_n 0, 1) := by decide +kernel
theorem dX10_tellDepths_170 : decode cX10_tellDepths 170 = .ok (.getfield 81, 3) := by decide +kernel
theorem dX10_tellDepths_173 : decode cX10_tellDepths 173 = .ok (.invokevirtual 189, 3) := by decide +kernel
theorem dX10_tellDepths_176 : decode cX10_tellDepths 176 = .ok (.istore 4, 2) := by decide +kernel
theorem dX10_tellDepths_178 : decode cX10_tellDepths 178 = .ok (.aload_n 0, 1) := by decide +kernel
theorem dX10_tellDepths_179 : decode cX10_tellDepths 179 = .ok (.getfield 72, 3) := by decide +kernel
theorem dX10_tellDepths_182 : decode cX10_tellDepths 182 = .ok (.iload 4, 2) := by decide +kernel
theorem dX10_tellDepths_184 : decode cX10_tellDepths 184 = .ok (.iaload, 1) := by decide +kernel
theorem dX10_tellDepths_185 : decode cX10_tellDepths 185 = .ok (.iconst (-1), 1) := by decide +kernel
theorem dX10_tellDepths_186 : decode cX10_tellDepths 186 = .ok (.if_icmp .ne 40, 3) := by decide +kernel
theorem dX10_tellDepths_189 : decode cX10_tellDepths 189 = .ok (.aload_n 0, 1) := by decide +kernel
theorem dX10_tellDepths_190 : decode cX10_tellDepths 190 = .ok (.getfield 72, 3) := by decide +kernel
theorem dX10_tellDepths_193 : decode cX10_tellDepths 193 = .ok (.iload 4, 2) := by decide +kernel
theorem dX10_tellDepths_195 : decode cX10_tellDepths 195 = .ok (.iload_n 2, 1) := by decide +kernel
theorem dX10_tellDepths_196 : decode cX10_tellDepths 196 = .ok (.iconst 1, 1) := by decide +kernel
theorem dX10_tellDepths_197 : decode cX10_tellDepths 197 = .ok (.iadd, 1) := by decide +kernel
theorem dX10_tellDepths_198 : decode cX10_tellDepths 198 = .ok (.iastore, 1) := by decide +kernel
theorem dX10_tellDepths_199 : decode cX10_tellDepths 199 = .ok (.aload_n 0, 1) := by decide +kernel
theorem dX10_tellDepths_200 : decode cX10_tellDepths 200 = .ok (.getfield 75, 3) := by decide +kernel
theorem dX10_tellDepths_203 : decode cX10_tellDepths 203 = .ok (.aload_n 0, 1) := by decide +kernel
theorem dX10_tellDepths_204 : decode cX10_tellDepths 204 = .ok (.getfield 196, 3) := by decide +kernel
theorem dX10_tellDepths_207 : decode cX10_tellDepths 207 = .ok (.aload_n 0, 1) := by decide +kernel
theorem dX10_tellDepths_208 : decode cX10_tellDepths 208 = .ok (.aload_n 0, 1) := by decide +kernel
theorem dX10_tellDepths_209 : decode cX10_tellDepths 209 = .ok (.getfield 81, 3) := by decide +kernel
theorem dX10_tellDepths_212 : decode cX10_tellDepths 212 = .ok (.invokevirtual 193, 3) := by decide +kernel
theorem dX10_tellDepths_215 : decode cX10_tellDepths 215 = .ok (.iastore, 1) := by decide +kernel
theorem dX10_tellDepths_216 : decode cX10_tellDepths 216 = .ok (.aload_n 0, 1) := by decide +kernel
theorem dX10_tellDepths_217 : decode cX10_tellDepths 217 = .ok (.dup, 1) := by decide +kernel
theorem dX10_tellDepths_218 : decode cX10_tellDepths 218 = .ok (.getfield 196, 3) := by decide +kernel
theorem dX10_tellDepths_221 : decode cX10_tellDepths 221 = .ok (.iconst 1, 1) := by decide +kernel
theorem dX10_tellDepths_222 : decode cX10_tellDepths 222 = .ok (.iadd, 1) := by decide +kernel
theorem dX10_tellDepths_223 : decode cX10_tellDepths 223 = .ok (.putfield 196, 3) := by decide +kernel
theorem dX10_tellDepths_226 : decode cX10_tellDepths 226 = .ok (.iinc 3 1, 3) := by decide +kernel
theorem dX10_tellDepths_229 : decode cX10_tellDepths 229 = .ok (.goto (-80), 3) := by decide +kernel
theorem dX10_tellDepths_232 : decode cX10_tellDepths 232 = .ok (.iinc 1 1, 3) := by decide +kernel
theorem dX10_tellDepths_235 : decode cX10_tellDepths 235 = .ok (.goto (-135), 3) := by decide +kernel
theorem dX10_tellDepths_238 : decode cX10_tellDepths 238 = .ok (.return_, 1) := by decide +kernel
theorem dX10_depthNow_0 : decode cX10_depthNow 0 = .ok (.aload_n 0, 1) := by decide +kernel
theorem dX10_depthNow_1 : decode cX10_depthNow 1 = .ok (.invokevirtual 211, 3) := by decide +kernel
theorem dX10_depthNow_4 : decode cX10_depthNow 4 = .ok (.aload_n 0, 1) := by decide +kernel
theorem dX10_depthNow_5 : decode cX10_depthNow 5 = .ok (.getfield 72, 3) := by decide +kernel
theorem dX10_depthNow_8 : decode cX10_depthNow 8 = .ok (.aload_n 0, 1) := by decide +kernel
theorem dX10_depthNow_9 : decode cX10_depthNow 9 = .ok (.aload_n 0, 1) := by decide +kernel
theorem dX10_depthNow_10 : decode cX10_depthNow 10 = .ok (.getfield 13, 3) := by decide +kernel
theorem dX10_depthNow_13 : decode cX10_depthNow 13 = .ok (.invokevirtual 189, 3) := by decide +kernel
theorem dX10_depthNow_16 : decode cX10_depthNow 16 = .ok (.iaload, 1) := by decide +kernel
theorem dX10_depthNow_17 : decode cX10_depthNow 17 = .ok (.ireturn, 1) := by decide +kernel
theorem dX10_depth_0 : decode cX10_depth 0 = .ok (.aload_n 0, 1) := by decide +kernel
theorem dX10_depth_1 : decode cX10_depth 1 = .ok (.invokevirtual 214, 3) := by decide +kernel
theorem dX10_depth_4 : decode cX10_depth 4 = .ok (.istore_n 1, 1) := by decide +kernel
theorem dX10_depth_5 : decode cX10_depth 5 = .ok (.iload_n 1, 1) := by decide +kernel
theorem dX10_depth_6 : decode cX10_depth 6 = .ok (.iconst (-1), 1) := by decide +kernel
theorem dX10_depth_7 : decode cX10_depth 7 = .ok (.if_icmp .ne 11, 3) := by decide +kernel
theorem dX10_depth_10 : decode cX10_depth 10 = .ok (.aload_n 0, 1) := by decide +kernel
theorem dX10_depth_11 : decode cX10_depth 11 = .ok (.iconst 1, 1) := by decide +kernel
theorem dX10_depth_12 : decode cX10_depth 12 = .ok (.invokevirtual 94, 3) := by decide +kernel
theorem dX10_depth_15 : decode cX10_depth 15 = .ok (.goto 8, 3) := by decide +kernel
theorem dX10_depth_18 : decode cX10_depth 18 = .ok (.aload_n 0, 1) := by decide +kernel
theorem dX10_depth_19 : decode cX10_depth 19 = .ok (.iload_n 1, 1) := by decide +kernel
theorem dX10_depth_20 : decode cX10_depth 20 = .ok (.invokevirtual 105, 3) := by decide +kernel
theorem dX10_depth_23 : decode cX10_depth 23 = .ok (.ireturn, 1) := by decide +kernel
theorem dX10_solve_0 : decode cX10_solve 0 = .ok (.iload_n 1, 1) := by decide +kernel
theorem dX10_solve_1 : decode cX10_solve 1 = .ok (.invokestatic 162, 3) := by decide +kernel
theorem dX10_solve_4 : decode cX10_solve 4 = .ok (.ifCond .ne 9, 3) := by decide +kernel
theorem dX10_solve_7 : decode cX10_solve 7 = .ok (.aload_n 0, 1) := by decide +kernel
theorem dX10_solve_8 : decode cX10_solve 8 = .ok (.iconst 1, 1) := by decide +kernel
theorem dX10_solve_9 : decode cX10_solve 9 = .ok (.invokevirtual 94, 3) := by decide +kernel
theorem dX10_solve_12 : decode cX10_solve 12 = .ok (.ireturn, 1) := by decide +kernel
theorem dX10_solve_13 : decode cX10_solve 13 = .ok (.aload_n 0, 1) := by decide +kernel
theorem dX10_solve_14 : decode cX10_solve 14 = .ok (.invokevirtual 214, 3) := by decide +kernel
theorem dX10_solve_17 : decode cX10_solve 17 = .ok (.istore_n 2, 1) := by decide +kernel
theorem dX10_solve_18 : decode cX10_solve 18 = .ok (.iload_n 2, 1) := by decide +kernel
theorem dX10_solve_19 : decode cX10_solve 19 = .ok (.iconst (-1), 1) := by decide +kernel
theorem dX10_solve_20 : decode cX10_solve 20 = .ok (.if_icmp .ne 9, 3) := by decide +kernel
theorem dX10_solve_23 : decode cX10_solve 23 = .ok (.aload_n 0, 1) := by decide +kernel
theorem dX10_solve_24 : decode cX10_solve 24 = .ok (.iconst 2, 1) := by decide +kernel
theorem dX10_solve_25 : decode cX10_solve 25 = .ok (.invokevirtual 94, 3) := by decide +kernel
theorem dX10_solve_28 : decode cX10_solve 28 = .ok (.ireturn, 1) := by decide +kernel
theorem dX10_solve_29 : decode cX10_solve 29 = .ok (.aload_n 0, 1) := by decide +kernel
theorem dX10_solve_30 : decode cX10_solve 30 = .ok (.invokevirtual 165, 3) := by decide +kernel
theorem dX10_solve_33 : decode cX10_solve 33 = .ok (.iconst 1, 1) := by decide +kernel
theorem dX10_solve_34 : decode cX10_solve 34 = .ok (.istore_n 3, 1) := by decide +kernel
theorem dX10_solve_35 : decode cX10_solve 35 = .ok (.iload_n 3, 1) := by decide +kernel
theorem dX10_solve_36 : decode cX10_solve 36 = .ok (.aload_n 0, 1) := by decide +kernel
theorem dX10_solve_37 : decode cX10_solve 37 = .ok (.getfield 7, 3) := by decide +kernel
theorem dX10_solve_40 : decode cX10_solve 40 = .ok (.if_icmp .gt 21, 3) := by decide +kernel
theorem dX10_solve_43 : decode cX10_solve 43 = .ok (.aload_n 0, 1) := by decide +kernel
theorem dX10_solve_44 : decode cX10_solve 44 = .ok (.getfield 78, 3) := by decide +kernel
theorem dX10_solve_47 : decode cX10_solve 47 = .ok (.iload_n 3, 1) := by decide +kernel
theorem dX10_solve_48 : decode cX10_solve 48 = .ok (.aload_n 0, 1) := by decide +kernel
theorem dX10_solve_49 : decode cX10_solve 49 = .ok (.getfield 13, 3) := by decide +kernel
theorem dX10_solve_52 : decode cX10_solve 52 = .ok (.iload_n 3, 1) := by decide +kernel
theorem dX10_solve_53 : decode cX10_solve 53 = .ok (.iaload, 1) := by decide +kernel
theorem dX10_solve_54 : decode cX10_solve 54 = .ok (.iastore, 1) := by decide +kernel
theorem dX10_solve_55 : decode cX10_solve 55 = .ok (.iinc 3 1, 3) := by decide +kernel
theorem dX10_solve_58 : decode cX10_solve 58 = .ok (.goto (-23), 3) := by decide +kernel
theorem dX10_solve_61 : decode cX10_solve 61 = .ok (.iload_n 2, 1) := by decide +kernel
theorem dX10_solve_62 : decode cX10_solve 62 = .ok (.ifCond .le 111, 3) := by decide +kernel
theorem dX10_solve_65 : decode cX10_solve 65 = .ok (.iconst 0, 1) := by decide +kernel
theorem dX10_solve_66 : decode cX10_solve 66 = .ok (.istore_n 3, 1) := by decide +kernel
theorem dX10_solve_67 : decode cX10_solve 67 = .ok (.iconst 0, 1) := by decide +kernel
theorem dX10_solve_68 : decode cX10_solve 68 = .ok (.istore 4, 2) := by decide +kernel
theorem dX10_solve_70 : decode cX10_solve 70 = .ok (.iload 4, 2) := by decide +kernel
theorem dX10_solve_72 : decode cX10_solve 72 = .ok (.ifCond .ne 58, 3) := by decide +kernel
theorem dX10_solve_75 : decode cX10_solve 75 = .ok (.aload_n 0, 1) := by decide +kernel
theorem dX10_solve_76 : decode cX10_solve 76 = .ok (.iload_n 3, 1) := by decide +kernel
theorem dX10_solve_77 : decode cX10_solve 77 = .ok (.invokevirtual 205, 3) := by decide +kernel
theorem dX10_solve_80 : decode cX10_solve 80 = .ok (.ifCond .eq 34, 3) := by decide +kernel
theorem dX10_solve_83 : decode cX10_solve 83 = .ok (.aload_n 0, 1) := by decide +kernel
theorem dX10_solve_84 : decode cX10_solve 84 = .ok (.iload_n 3, 1) := by decide +kernel
theorem dX10_solve_85 : decode cX10_solve 85 = .ok (.invokevirtual 208, 3) := by decide +kernel
theorem dX10_solve_88 : decode cX10_solve 88 = .ok (.aload_n 0, 1) := by decide +kernel
theorem dX10_solve_89 : decode cX10_solve 89 = .ok (.getfield 72, 3) := by decide +kernel
theorem dX10_solve_92 : decode cX10_solve 92 = .ok (.aload_n 0, 1) := by decide +kernel
theorem dX10_solve_93 : decode cX10_solve 93 = .ok (.aload_n 0, 1) := by decide +kernel
theorem dX10_solve_94 : decode cX10_solve 94 = .ok (.getfield 81, 3) := by decide +kernel
theorem dX10_solve_97 : decode cX10_solve 97 = .ok (.invokevirtual 189, 3) := by decide +kernel
theorem dX10_solve_100 : decode cX10_solve 100 = .ok (.iaload, 1) := by decide +kernel
theorem dX10_solve_101 : decode cX10_solve 101 = .ok (.iload_n 2, 1) := by decide +kernel
theorem dX10_solve_102 : decode cX10_solve 102 = .ok (.iconst 1, 1) := by decide +kernel
theorem dX10_solve_103 : decode cX10_solve 103 = .ok (.isub, 1) := by decide +kernel
theorem dX10_solve_104 : decode cX10_solve 104 = .ok (.if_icmp .ne 7, 3) := by decide +kernel
theorem dX10_solve_107 : decode cX10_solve 107 = .ok (.iconst 1, 1) := by decide +kernel
theorem dX10_solve_108 : decode cX10_solve 108 = .ok (.goto 4, 3) := by decide +kernel
theorem dX10_solve_111 : decode cX10_solve 111 = .ok (.iconst 0, 1) := by decide +kernel
theorem dX10_solve_112 : decode cX10_solve 112 = .ok (.istore 4, 2) := by decide +kernel
theorem dX10_solve_114 : decode cX10_solve 114 = .ok (.iload_n 3, 1) := by decide +kernel
theorem dX10_solve_115 : decode cX10_solve 115 = .ok (.iload 4, 2) := by decide +kernel
theorem dX10_solve_117 : decode cX10_solve 117 = .ok (.ifCond .eq 7, 3) := by decide +kernel
theorem dX10_solve_120 : decode cX10_solve 120 = .ok (.iconst 0, 1) := by decide +kernel
theorem dX10_solve_121 : decode cX10_solve 121 = .ok (.goto 4, 3) := by decide +kernel
theorem dX10_solve_124 : decode cX10_solve 124 = .ok (.iconst 1, 1) := by decide +kernel
theorem dX10_solve_125 : decode cX10_solve 125 = .ok (.iadd, 1) := by decide +kernel
theorem dX10_solve_126 : decode cX10_solve 126 = .ok (.istore_n 3, 1) := by decide +kernel
theorem dX10_solve_127 : decode cX10_solve 127 = .ok (.goto (-57), 3) := by decide +kernel
theorem dX10_solve_130 : decode cX10_solve 130 = .ok (.aload_n 0, 1) := by decide +kernel
theorem dX10_solve_131 : decode cX10_solve 131 = .ok (.iload_n 3, 1) := by decide +kernel
theorem dX10_solve_132 : decode cX10_solve 132 = .ok (.invokevirtual 135, 3) := by decide +kernel
theorem dX10_solve_135 : decode cX10_solve 135 = .ok (.iconst 1, 1) := by decide +kernel
theorem dX10_solve_136 : decode cX10_solve 136 = .ok (.istore 5, 2) := by decide +kernel
theorem dX10_solve_138 : decode cX10_solve 138 = .ok (.iload 5, 2) := by decide +kernel
theorem dX10_solve_140 : decode cX10_solve 140 = .ok (.aload_n 0, 1) := by decide +kernel
theorem dX10_solve_141 : decode cX10_solve 141 = .ok (.getfield 7, 3) := by decide +kernel
theorem dX10_solve_144 : decode cX10_solve 144 = .ok (.if_icmp .gt 23, 3) := by decide +kernel
theorem dX10_solve_147 : decode cX10_solve 147 = .ok (.aload_n 0, 1) := by decide +kernel
theorem dX10_solve_148 : decode cX10_solve 148 = .ok (.getfield 78, 3) := by decide +kernel
theorem dX10_solve_151 : decode cX10_solve 151 = .ok (.iload 5, 2) := by decide +kernel
theorem dX10_solve_153 : decode cX10_solve 153 = .ok (.aload_n 0, 1) := by decide +kernel
theorem dX10_solve_154 : decode cX10_solve 154 = .ok (.getfield 81, 3) := by decide +kernel
theorem dX10_solve_157 : decode cX10_solve 157 = .ok (.iload 5, 2) := by decide +kernel
theorem dX10_solve_159 : decode cX10_solve 159 = .ok (.iaload, 1) := by decide +kernel
theorem dX10_solve_160 : decode cX10_solve 160 = .ok (.iastore, 1) := by decide +kernel
theorem dX10_solve_161 : decode cX10_solve 161 = .ok (.iinc 5 1, 3) := by decide +kernel
theorem dX10_solve_164 : decode cX10_solve 164 = .ok (.goto (-26), 3) := by decide +kernel
theorem dX10_solve_167 : decode cX10_solve 167 = .ok (.iinc 2 (-1), 3) := by decide +kernel
theorem dX10_solve_170 : decode cX10_solve 170 = .ok (.goto (-109), 3) := by decide +kernel
theorem dX10_solve_173 : decode cX10_solve 173 = .ok (.aload_n 0, 1) := by decide +kernel
theorem dX10_solve_174 : decode cX10_solve 174 = .ok (.iload_n 1, 1) := by decide +kernel
theorem dX10_solve_175 : decode cX10_solve 175 = .ok (.invokevirtual 168, 3) := by decide +kernel
theorem dX10_solve_178 : decode cX10_solve 178 = .ok (.ireturn, 1) := by decide +kernel
theorem dX10_countAt_0 : decode cX10_countAt 0 = .ok (.aload_n 0, 1) := by decide +kernel
theorem dX10_countAt_1 : decode cX10_countAt 1 = .ok (.invokevirtual 211, 3) := by decide +kernel
theorem dX10_countAt_4 : decode cX10_countAt 4 = .ok (.aload_n 0, 1) := by decide +kernel
theorem dX10_countAt_5 : decode cX10_countAt 5 = .ok (.iload_n 1, 1) := by decide +kernel
theorem dX10_countAt_6 : decode cX10_countAt 6 = .ok (.iconst 0, 1) := by decide +kernel
theorem dX10_countAt_7 : decode cX10_countAt 7 = .ok (.sipush 5039, 3) := by decide +kernel
theorem dX10_countAt_10 : decode cX10_countAt 10 = .ok (.invokestatic 90, 3) := by decide +kernel
theorem dX10_countAt_13 : decode cX10_countAt 13 = .ok (.ifCond .eq 12, 3) := by decide +kernel
theorem dX10_countAt_16 : decode cX10_countAt 16 = .ok (.aload_n 0, 1) := by decide +kernel
theorem dX10_countAt_17 : decode cX10_countAt 17 = .ok (.getfield 84, 3) := by decide +kernel
theorem dX10_countAt_20 : decode cX10_countAt 20 = .ok (.iload_n 1, 1) := by decide +kernel
theorem dX10_countAt_21 : decode cX10_countAt 21 = .ok (.iaload, 1) := by decide +kernel
theorem dX10_countAt_22 : decode cX10_countAt 22 = .ok (.goto 4, 3) := by decide +kernel
theorem dX10_countAt_25 : decode cX10_countAt 25 = .ok (.iconst 0, 1) := by decide +kernel
theorem dX10_countAt_26 : decode cX10_countAt 26 = .ok (.invokevirtual 105, 3) := by decide +kernel
theorem dX10_countAt_29 : decode cX10_countAt 29 = .ok (.ireturn, 1) := by decide +kernel
theorem dX10_reachable_0 : decode cX10_reachable 0 = .ok (.aload_n 0, 1) := by decide +kernel
theorem dX10_reachable_1 : decode cX10_reachable 1 = .ok (.invokevirtual 211, 3) := by decide +kernel
theorem dX10_reachable_4 : decode cX10_reachable 4 = .ok (.aload_n 0, 1) := by decide +kernel
theorem dX10_reachable_5 : decode cX10_reachable 5 = .ok (.aload_n 0, 1) := by decide +kernel
theorem dX10_reachable_6 : decode cX10_reachable 6 = .ok (.getfield 196, 3) := by decide +kernel
theorem dX10_reachable_9 : decode cX10_reachable 9 = .ok (.invokevirtual 105, 3) := by decide +kernel
theorem dX10_reachable_12 : decode cX10_reachable 12 = .ok (.ireturn, 1) := by decide +kernel
theorem dX10_greatestDepth_0 : decode cX10_greatestDepth 0 = .ok (.aload_n 0, 1) := by decide +kernel
theorem dX10_greatestDepth_1 : decode cX10_greatestDepth 1 = .ok (.invokevirtual 211, 3) := by decide +kernel
theorem dX10_greatestDepth_4 : decode cX10_greatestDepth 4 = .ok (.aload_n 0, 1) := by decide +kernel
theorem dX10_greatestDepth_5 : decode cX10_greatestDepth 5 = .ok (.aload_n 0, 1) := by decide +kernel
theorem dX10_greatestDepth_6 : decode cX10_greatestDepth 6 = .ok (.getfield 202, 3) := by decide +kernel
theorem dX10_greatestDepth_9 : decode cX10_greatestDepth 9 = .ok (.invokevirtual 105, 3) := by decide +kernel
theorem dX10_greatestDepth_12 : decode cX10_greatestDepth 12 = .ok (.ireturn, 1) := by decide +kernel
theorem dX10_averageDepth_0 : decode cX10_averageDepth 0 = .ok (.aload_n 0, 1) := by decide +kernel
theorem dX10_averageDepth_1 : decode cX10_averageDepth 1 = .ok (.invokevirtual 211, 3) := by decide +kernel
theorem dX10_averageDepth_4 : decode cX10_averageDepth 4 = .ok (.iconst 0, 1) := by decide +kernel
theorem dX10_averageDepth_5 : decode cX10_averageDepth 5 = .ok (.istore_n 1, 1) := by decide +kernel
theorem dX10_averageDepth_6 : decode cX10_averageDepth 6 = .ok (.iconst 0, 1) := by decide +kernel
theorem dX10_averageDepth_7 : decode cX10_averageDepth 7 = .ok (.istore_n 2, 1) := by decide +kernel
theorem dX10_averageDepth_8 : decode cX10_averageDepth 8 = .ok (.iload_n 2, 1) := by decide +kernel
theorem dX10_averageDepth_9 : decode cX10_averageDepth 9 = .ok (.aload_n 0, 1) := by decide +kernel
theorem dX10_averageDepth_10 : decode cX10_averageDepth 10 = .ok (.getfield 202, 3) := by decide +kernel
theorem dX10_averageDepth_13 : decode cX10_averageDepth 13 = .ok (.if_icmp .gt 20, 3) := by decide +kernel
theorem dX10_averageDepth_16 : decode cX10_averageDepth 16 = .ok (.iload_n 1, 1) := by decide +kernel
theorem dX10_averageDepth_17 : decode cX10_averageDepth 17 = .ok (.iload_n 2, 1) := by decide +kernel
theorem dX10_averageDepth_18 : decode cX10_averageDepth 18 = .ok (.aload_n 0, 1) := by decide +kernel
theorem dX10_averageDepth_19 : decode cX10_averageDepth 19 = .ok (.getfield 84, 3) := by decide +kernel
theorem dX10_averageDepth_22 : decode cX10_averageDepth 22 = .ok (.iload_n 2, 1) := by decide +kernel
theorem dX10_averageDepth_23 : decode cX10_averageDepth 23 = .ok (.iaload, 1) := by decide +kernel
theorem dX10_averageDepth_24 : decode cX10_averageDepth 24 = .ok (.imul, 1) := by decide +kernel
theorem dX10_averageDepth_25 : decode cX10_averageDepth 25 = .ok (.iadd, 1) := by decide +kernel
theorem dX10_averageDepth_26 : decode cX10_averageDepth 26 = .ok (.istore_n 1, 1) := by decide +kernel
theorem dX10_averageDepth_27 : decode cX10_averageDepth 27 = .ok (.iinc 2 1, 3) := by decide +kernel
theorem dX10_averageDepth_30 : decode cX10_averageDepth 30 = .ok (.goto (-22), 3) := by decide +kernel
theorem dX10_averageDepth_33 : decode cX10_averageDepth 33 = .ok (.aload_n 0, 1) := by decide +kernel
theorem dX10_averageDepth_34 : decode cX10_averageDepth 34 = .ok (.iconst 0, 1) := by decide +kernel
theorem dX10_averageDepth_35 : decode cX10_averageDepth 35 = .ok (.putfield 87, 3) := by decide +kernel
theorem dX10_averageDepth_38 : decode cX10_averageDepth 38 = .ok (.iload_n 1, 1) := by decide +kernel
theorem dX10_averageDepth_39 : decode cX10_averageDepth 39 = .ok (.i2d, 1) := by decide +kernel
theorem dX10_averageDepth_40 : decode cX10_averageDepth 40 = .ok (.aload_n 0, 1) := by decide +kernel
theorem dX10_averageDepth_41 : decode cX10_averageDepth 41 = .ok (.getfield 196, 3) := by decide +kernel
theorem dX10_averageDepth_44 : decode cX10_averageDepth 44 = .ok (.i2d, 1) := by decide +kernel
theorem dX10_averageDepth_45 : decode cX10_averageDepth 45 = .ok (.ddiv, 1) := by decide +kernel
theorem dX10_averageDepth_46 : decode cX10_averageDepth 46 = .ok (.dreturn, 1) := by decide +kernel
theorem dX10_orbit_0 : decode cX10_orbit 0 = .ok (.aload_n 0, 1) := by decide +kernel
theorem dX10_orbit_1 : decode cX10_orbit 1 = .ok (.iload_n 1, 1) := by decide +kernel
theorem dX10_orbit_2 : decode cX10_orbit 2 = .ok (.invokevirtual 118, 3) := by decide +kernel
theorem dX10_orbit_5 : decode cX10_orbit 5 = .ok (.ifCond .ne 9, 3) := by decide +kernel
theorem dX10_orbit_8 : decode cX10_orbit 8 = .ok (.aload_n 0, 1) := by decide +kernel
theorem dX10_orbit_9 : decode cX10_orbit 9 = .ok (.iconst 1, 1) := by decide +kernel
theorem dX10_orbit_10 : decode cX10_orbit 10 = .ok (.invokevirtual 94, 3) := by decide +kernel
theorem dX10_orbit_13 : decode cX10_orbit 13 = .ok (.ireturn, 1) := by decide +kernel
theorem dX10_orbit_14 : decode cX10_orbit 14 = .ok (.iconst 1, 1) := by decide +kernel
theorem dX10_orbit_15 : decode cX10_orbit 15 = .ok (.iload_n 1, 1) := by decide +kernel
theorem dX10_orbit_16 : decode cX10_orbit 16 = .ok (.iconst 1, 1) := by decide +kernel
theorem dX10_orbit_17 : decode cX10_orbit 17 = .ok (.isub, 1) := by decide +kernel
theorem dX10_orbit_18 : decode cX10_orbit 18 = .ok (.ishl, 1) := by decide +kernel
theorem dX10_orbit_19 : decode cX10_orbit 19 = .ok (.istore_n 2, 1) := by decide +kernel
theorem dX10_orbit_20 : decode cX10_orbit 20 = .ok (.iconst 0, 1) := by decide +kernel
theorem dX10_orbit_21 : decode cX10_orbit 21 = .ok (.istore_n 3, 1) := by decide +kernel
theorem dX10_orbit_22 : decode cX10_orbit 22 = .ok (.iload_n 3, 1) := by decide +kernel
theorem dX10_orbit_23 : decode cX10_orbit 23 = .ok (.iload_n 2, 1) := by decide +kernel
theorem dX10_orbit_24 : decode cX10_orbit 24 = .ok (.if_icmp .eq 87, 3) := by decide +kernel
theorem dX10_orbit_27 : decode cX10_orbit 27 = .ok (.iload_n 2, 1) := by decide +kernel
theorem dX10_orbit_28 : decode cX10_orbit 28 = .ok (.istore_n 3, 1) := by decide +kernel
theorem dX10_orbit_29 : decode cX10_orbit 29 = .ok (.iconst 0, 1) := by decide +kernel
theorem dX10_orbit_30 : decode cX10_orbit 30 = .ok (.istore 4, 2) := by decide +kernel
theorem dX10_orbit_32 : decode cX10_orbit 32 = .ok (.iload 4, 2) := by decide +kernel
theorem dX10_orbit_34 : decode cX10_orbit 34 = .ok (.bipush 10, 2) := by decide +kernel
theorem dX10_orbit_36 : decode cX10_orbit 36 = .ok (.if_icmp .ge 72, 3) := by decide +kernel
theorem dX10_orbit_39 : decode cX10_orbit 39 = .ok (.iconst 1, 1) := by decide +kernel
theorem dX10_orbit_40 : decode cX10_orbit 40 = .ok (.istore 5, 2) := by decide +kernel
theorem dX10_orbit_42 : decode cX10_orbit 42 = .ok (.iload 5, 2) := by decide +kernel
theorem dX10_orbit_44 : decode cX10_orbit 44 = .ok (.aload_n 0, 1) := by decide +kernel
theorem dX10_orbit_45 : decode cX10_orbit 45 = .ok (.getfield 7, 3) := by decide +kernel
theorem dX10_orbit_48 : decode cX10_orbit 48 = .ok (.if_icmp .gt 54, 3) := by decide +kernel
theorem dX10_orbit_51 : decode cX10_orbit 51 = .ok (.aload_n 0, 1) := by decide +kernel
theorem dX10_orbit_52 : decode cX10_orbit 52 = .ok (.iload 4, 2) := by decide +kernel
theorem dX10_orbit_54 : decode cX10_orbit 54 = .ok (.invokevirtual 205, 3) := by decide +kernel
theorem dX10_orbit_57 : decode cX10_orbit 57 = .ok (.ifCond .eq 45, 3) := by decide +kernel
theorem dX10_orbit_60 : decode cX10_orbit 60 = .ok (.iload_n 2, 1) := by decide +kernel
theorem dX10_orbit_61 : decode cX10_orbit 61 = .ok (.iload_n 2, 1) := by decide +kernel
theorem dX10_orbit_62 : decode cX10_orbit 62 = .ok (.iload 5, 2) := by decide +kernel
theorem dX10_orbit_64 : decode cX10_orbit 64 = .ok (.iconst 1, 1) := by decide +kernel
theorem dX10_orbit_65 : decode cX10_orbit 65 = .ok (.isub, 1) := by decide +kernel
theorem dX10_orbit_66 : decode cX10_orbit 66 = .ok (.ishr, 1) := by decide +kernel
theorem dX10_orbit_67 : decode cX10_orbit 67 = .ok (.iconst 1, 1) := by decide +kernel
theorem dX10_orbit_68 : decode cX10_orbit 68 = .ok (.iand, 1) := by decide +kernel
theorem dX10_orbit_69 : decode cX10_orbit 69 = .ok (.iconst 1, 1) := by decide +kernel
theorem dX10_orbit_70 : decode cX10_orbit 70 = .ok (.if_icmp .ne 23, 3) := by decide +kernel
theorem dX10_orbit_73 : decode cX10_orbit 73 = .ok (.iconst 1, 1) := by decide +kernel
theorem dX10_orbit_74 : decode cX10_orbit 74 = .ok (.aload_n 0, 1) := by decide +kernel
theorem dX10_orbit_75 : decode cX10_orbit 75 = .ok (.getfield 21, 3) := by decide +kernel
theorem dX10_orbit_78 : decode cX10_orbit 78 = .ok (.bipush 8, 2) := by decide +kernel
theorem dX10_orbit_80 : decode cX10_orbit 80 = .ok (.iload 4, 2) := by decide +kernel
theorem dX10_orbit_82 : decode cX10_orbit 82 = .ok (.imul, 1) := by decide +kernel
theorem dX10_orbit_83 : decode cX10_orbit 83 = .ok (.iload 5, 2) := by decide +kernel
theorem dX10_orbit_85 : decode cX10_orbit 85 = .ok (.iadd, 1) := by decide +kernel
theorem dX10_orbit_86 : decode cX10_orbit 86 = .ok (.iaload, 1) := by decide +kernel
theorem dX10_orbit_87 : decode cX10_orbit 87 = .ok (.iconst 1, 1) := by decide +kernel
theorem dX10_orbit_88 : decode cX10_orbit 88 = .ok (.isub, 1) := by decide +kernel
theorem dX10_orbit_89 : decode cX10_orbit 89 = .ok (.ishl, 1) := by decide +kernel
theorem dX10_orbit_90 : decode cX10_orbit 90 = .ok (.goto 4, 3) := by decide +kernel
theorem dX10_orbit_93 : decode cX10_orbit 93 = .ok (.iconst 0, 1) := by decide +kernel
theorem dX10_orbit_94 : decode cX10_orbit 94 = .ok (.ior, 1) := by decide +kernel
theorem dX10_orbit_95 : decode cX10_orbit 95 = .ok (.istore_n 2, 1) := by decide +kernel
theorem dX10_orbit_96 : decode cX10_orbit 96 = .ok (.iinc 5 1, 3) := by decide +kernel
theorem dX10_orbit_99 : decode cX10_orbit 99 = .ok (.goto (-57), 3) := by decide +kernel
theorem dX10_orbit_102 : decode cX10_orbit 102 = .ok (.iinc 4 1, 3) := by decide +kernel
theorem dX10_orbit_105 : decode cX10_orbit 105 = .ok (.goto (-73), 3) := by decide +kernel
theorem dX10_orbit_108 : decode cX10_orbit 108 = .ok (.goto (-86), 3) := by decide +kernel
theorem dX10_orbit_111 : decode cX10_orbit 111 = .ok (.aload_n 0, 1) := by decide +kernel
theorem dX10_orbit_112 : decode cX10_orbit 112 = .ok (.iload_n 2, 1) := by decide +kernel
theorem dX10_orbit_113 : decode cX10_orbit 113 = .ok (.invokevirtual 105, 3) := by decide +kernel
theorem dX10_orbit_116 : decode cX10_orbit 116 = .ok (.ireturn, 1) := by decide +kernel
theorem dX10_shortLed_0 : decode cX10_shortLed 0 = .ok (.iload_n 1, 1) := by decide +kernel
theorem dX10_shortLed_1 : decode cX10_shortLed 1 = .ok (.iconst 1, 1) := by decide +kernel
theorem dX10_shortLed_2 : decode cX10_shortLed 2 = .ok (.if_icmp .ne 7, 3) := by decide +kernel
theorem dX10_shortLed_5 : decode cX10_shortLed 5 = .ok (.iload_n 2, 1) := by decide +kernel
theorem dX10_shortLed_6 : decode cX10_shortLed 6 = .ok (.goto 7, 3) := by decide +kernel
theorem dX10_shortLed_9 : decode cX10_shortLed 9 = .ok (.iload_n 2, 1) := by decide +kernel
theorem dX10_shortLed_10 : decode cX10_shortLed 10 = .ok (.bipush 10, 2) := by decide +kernel
theorem dX10_shortLed_12 : decode cX10_shortLed 12 = .ok (.idiv, 1) := by decide +kernel
theorem dX10_shortLed_13 : decode cX10_shortLed 13 = .ok (.istore 5, 2) := by decide +kernel
theorem dX10_shortLed_15 : decode cX10_shortLed 15 = .ok (.iload_n 2, 1) := by decide +kernel
theorem dX10_shortLed_16 : decode cX10_shortLed 16 = .ok (.bipush 10, 2) := by decide +kernel
theorem dX10_shortLed_18 : decode cX10_shortLed 18 = .ok (.irem, 1) := by decide +kernel
theorem dX10_shortLed_19 : decode cX10_shortLed 19 = .ok (.istore 6, 2) := by decide +kernel
theorem dX10_shortLed_21 : decode cX10_shortLed 21 = .ok (.iload_n 1, 1) := by decide +kernel
theorem dX10_shortLed_22 : decode cX10_shortLed 22 = .ok (.iconst 1, 1) := by decide +kernel
theorem dX10_shortLed_23 : decode cX10_shortLed 23 = .ok (.if_icmp .ne 28, 3) := by decide +kernel
theorem dX10_shortLed_26 : decode cX10_shortLed 26 = .ok (.aload_n 0, 1) := by decide +kernel
theorem dX10_shortLed_27 : decode cX10_shortLed 27 = .ok (.getfield 21, 3) := by decide +kernel
theorem dX10_shortLed_30 : decode cX10_shortLed 30 = .ok (.bipush 8, 2) := by decide +kernel
theorem dX10_shortLed_32 : decode cX10_shortLed 32 = .ok (.iload_n 3, 1) := by decide +kernel
theorem dX10_shortLed_33 : decode cX10_shortLed 33 = .ok (.ifCond .eq 10, 3) := by decide +kernel
theorem dX10_shortLed_36 : decode cX10_shortLed 36 = .ok (.iload 5, 2) := by decide +kernel
theorem dX10_shortLed_38 : decode cX10_shortLed 38 = .ok (.iconst 1, 1) := by decide +kernel
theorem dX10_shortLed_39 : decode cX10_shortLed 39 = .ok (.ixor, 1) := by decide +kernel
theorem dX10_shortLed_40 : decode cX10_shortLed 40 = .ok (.goto 5, 3) := by decide +kernel
theorem dX10_shortLed_43 : decode cX10_shortLed 43 = .ok (.iload 5, 2) := by decide +kernel
theorem dX10_shortLed_45 : decode cX10_shortLed 45 = .ok (.imul, 1) := by decide +kernel
theorem dX10_shortLed_46 : decode cX10_shortLed 46 = .ok (.iload 4, 2) := by decide +kernel
theorem dX10_shortLed_48 : decode cX10_shortLed 48 = .ok (.iadd, 1) := by decide +kernel
theorem dX10_shortLed_49 : decode cX10_shortLed 49 = .ok (.iaload, 1) := by decide +kernel
theorem dX10_shortLed_50 : decode cX10_shortLed 50 = .ok (.ireturn, 1) := by decide +kernel
theorem dX10_shortLed_51 : decode cX10_shortLed 51 = .ok (.aload_n 0, 1) := by decide +kernel
theorem dX10_shortLed_52 : decode cX10_shortLed 52 = .ok (.getfield 21, 3) := by decide +kernel
theorem dX10_shortLed_55 : decode cX10_shortLed 55 = .ok (.bipush 8, 2) := by decide +kernel
theorem dX10_shortLed_57 : decode cX10_shortLed 57 = .ok (.iload_n 3, 1) := by decide +kernel
theorem dX10_shortLed_58 : decode cX10_shortLed 58 = .ok (.ifCond .eq 10, 3) := by decide +kernel
theorem dX10_shortLed_61 : decode cX10_shortLed 61 = .ok (.iload 6, 2) := by decide +kernel
theorem dX10_shortLed_63 : decode cX10_shortLed 63 = .ok (.iconst 1, 1) := by decide +kernel
theorem dX10_shortLed_64 : decode cX10_shortLed 64 = .ok (.ixor, 1) := by decide +kernel
theorem dX10_shortLed_65 : decode cX10_shortLed 65 = .ok (.goto 5, 3) := by decide +kernel
theorem dX10_shortLed_68 : decode cX10_shortLed 68 = .ok (.iload 5, 2) := by decide +kernel
theorem dX10_shortLed_70 : decode cX10_shortLed 70 = .ok (.imul, 1) := by decide +kernel
theorem dX10_shortLed_71 : decode cX10_shortLed 71 = .ok (.iload 4, 2) := by decide +kernel
theorem dX10_shortLed_73 : decode cX10_shortLed 73 = .ok (.iadd, 1) := by decide +kernel
theorem dX10_shortLed_74 : decode cX10_shortLed 74 = .ok (.iaload, 1) := by decide +kernel
theorem dX10_shortLed_75 : decode cX10_shortLed 75 = .ok (.istore 7, 2) := by decide +kernel
theorem dX10_shortLed_77 : decode cX10_shortLed 77 = .ok (.aload_n 0, 1) := by decide +kernel
theorem dX10_shortLed_78 : decode cX10_shortLed 78 = .ok (.getfield 21, 3) := by decide +kernel
theorem dX10_shortLed_81 : decode cX10_shortLed 81 = .ok (.bipush 8, 2) := by decide +kernel
theorem dX10_shortLed_83 : decode cX10_shortLed 83 = .ok (.iload_n 3, 1) := by decide +kernel
theorem dX10_shortLed_84 : decode cX10_shortLed 84 = .ok (.ifCond .eq 10, 3) := by decide +kernel
theorem dX10_shortLed_87 : decode cX10_shortLed 87 = .ok (.iload 5, 2) := by decide +kernel
theorem dX10_shortLed_89 : decode cX10_shortLed 89 = .ok (.iconst 1, 1) := by decide +kernel
theorem dX10_shortLed_90 : decode cX10_shortLed 90 = .ok (.ixor, 1) := by decide +kernel
theorem dX10_shortLed_91 : decode cX10_shortLed 91 = .ok (.goto 5, 3) := by decide +kernel
theorem dX10_shortLed_94 : decode cX10_shortLed 94 = .ok (.iload 6, 2) := by decide +kernel
theorem dX10_shortLed_96 : decode cX10_shortLed 96 = .ok (.imul, 1) := by decide +kernel
theorem dX10_shortLed_97 : decode cX10_shortLed 97 = .ok (.iload 7, 2) := by decide +kernel
theorem dX10_shortLed_99 : decode cX10_shortLed 99 = .ok (.iadd, 1) := by decide +kernel
theorem dX10_shortLed_100 : decode cX10_shortLed 100 = .ok (.iaload, 1) := by decide +kernel
theorem dX10_shortLed_101 : decode cX10_shortLed 101 = .ok (.ireturn, 1) := by decide +kernel
theorem dX10_isShort_0 : decode cX10_isShort 0 = .ok (.aload_n 0, 1) := by decide +kernel
theorem dX10_isShort_1 : decode cX10_isShort 1 = .ok (.iload_n 2, 1) := by decide +kernel
theorem dX10_isShort_2 : decode cX10_isShort 2 = .ok (.bipush 10, 2) := by decide +kernel
theorem dX10_isShort_4 : decode cX10_isShort 4 = .ok (.irem, 1) := by decide +kernel
theorem dX10_isShort_5 : decode cX10_isShort 5 = .ok (.invokevirtual 205, 3) := by decide +kernel
theorem dX10_isShort_8 : decode cX10_isShort 8 = .ok (.ifCond .eq 23, 3) := by decide +kernel
theorem dX10_isShort_11 : decode cX10_isShort 11 = .ok (.iload_n 1, 1) := by decide +kernel
theorem dX10_isShort_12 : decode cX10_isShort 12 = .ok (.iconst 1, 1) := by decide +kernel
theorem dX10_isShort_13 : decode cX10_isShort 13 = .ok (.if_icmp .eq 14, 3) := by decide +kernel
theorem dX10_isShort_16 : decode cX10_isShort 16 = .ok (.aload_n 0, 1) := by decide +kernel
theorem dX10_isShort_17 : decode cX10_isShort 17 = .ok (.iload_n 2, 1) := by decide +kernel
theorem dX10_isShort_18 : decode cX10_isShort 18 = .ok (.bipush 10, 2) := by decide +kernel
theorem dX10_isShort_20 : decode cX10_isShort 20 = .ok (.idiv, 1) := by decide +kernel
theorem dX10_isShort_21 : decode cX10_isShort 21 = .ok (.invokevirtual 205, 3) := by decide +kernel
theorem dX10_isShort_24 : decode cX10_isShort 24 = .ok (.ifCond .eq 7, 3) := by decide +kernel
theorem dX10_isShort_27 : decode cX10_isShort 27 = .ok (.iconst 1, 1) := by decide +kernel
theorem dX10_isShort_28 : decode cX10_isShort 28 = .ok (.goto 4, 3) := by decide +kernel
theorem dX10_isShort_31 : decode cX10_isShort 31 = .ok (.iconst 0, 1) := by decide +kernel
theorem dX10_isShort_32 : decode cX10_isShort 32 = .ok (.ireturn, 1) := by decide +kernel
theorem dX10_movedBy_0 : decode cX10_movedBy 0 = .ok (.iconst 0, 1) := by decide +kernel
theorem dX10_movedBy_1 : decode cX10_movedBy 1 = .ok (.istore 5, 2) := by decide +kernel
theorem dX10_movedBy_3 : decode cX10_movedBy 3 = .ok (.iconst 1, 1) := by decide +kernel
theorem dX10_movedBy_4 : decode cX10_movedBy 4 = .ok (.istore 6, 2) := by decide +kernel
theorem dX10_movedBy_6 : decode cX10_movedBy 6 = .ok (.iload 6, 2) := by decide +kernel
theorem dX10_movedBy_8 : decode cX10_movedBy 8 = .ok (.aload_n 0, 1) := by decide +kernel
theorem dX10_movedBy_9 : decode cX10_movedBy 9 = .ok (.getfield 7, 3) := by decide +kernel
theorem dX10_movedBy_12 : decode cX10_movedBy 12 = .ok (.if_icmp .gt 64, 3) := by decide +kernel
theorem dX10_movedBy_15 : decode cX10_movedBy 15 = .ok (.aload_n 0, 1) := by decide +kernel
theorem dX10_movedBy_16 : decode cX10_movedBy 16 = .ok (.iload_n 3, 1) := by decide +kernel
theorem dX10_movedBy_17 : decode cX10_movedBy 17 = .ok (.iload 4, 2) := by decide +kernel
theorem dX10_movedBy_19 : decode cX10_movedBy 19 = .ok (.iconst 0, 1) := by decide +kernel
theorem dX10_movedBy_20 : decode cX10_movedBy 20 = .ok (.aload_n 0, 1) := by decide +kernel
theorem dX10_movedBy_21 : decode cX10_movedBy 21 = .ok (.iload_n 1, 1) := by decide +kernel
theorem dX10_movedBy_22 : decode cX10_movedBy 22 = .ok (.iload_n 2, 1) := by decide +kernel
theorem dX10_movedBy_23 : decode cX10_movedBy 23 = .ok (.iconst 0, 1) := by decide +kernel
theorem dX10_movedBy_24 : decode cX10_movedBy 24 = .ok (.iload 6, 2) := by decide +kernel
theorem dX10_movedBy_26 : decode cX10_movedBy 26 = .ok (.invokevirtual 217, 3) := by decide +kernel
theorem dX10_movedBy_29 : decode cX10_movedBy 29 = .ok (.invokevirtual 217, 3) := by decide +kernel
theorem dX10_movedBy_32 : decode cX10_movedBy 32 = .ok (.istore 7, 2) := by decide +kernel
theorem dX10_movedBy_34 : decode cX10_movedBy 34 = .ok (.aload_n 0, 1) := by decide +kernel
theorem dX10_movedBy_35 : decode cX10_movedBy 35 = .ok (.iload_n 3, 1) := by decide +kernel
theorem dX10_movedBy_36 : decode cX10_movedBy 36 = .ok (.iload 4, 2) := by decide +kernel
theorem dX10_movedBy_38 : decode cX10_movedBy 38 = .ok (.iconst 1, 1) := by decide +kernel
theorem dX10_movedBy_39 : decode cX10_movedBy 39 = .ok (.aload_n 0, 1) := by decide +kernel
theorem dX10_movedBy_40 : decode cX10_movedBy 40 = .ok (.iload_n 1, 1) := by decide +kernel
theorem dX10_movedBy_41 : decode cX10_movedBy 41 = .ok (.iload_n 2, 1) := by decide +kernel
theorem dX10_movedBy_42 : decode cX10_movedBy 42 = .ok (.iconst 1, 1) := by decide +kernel
theorem dX10_movedBy_43 : decode cX10_movedBy 43 = .ok (.iload 7, 2) := by decide +kernel
theorem dX10_movedBy_45 : decode cX10_movedBy 45 = .ok (.invokevirtual 217, 3) := by decide +kernel
theorem dX10_movedBy_48 : decode cX10_movedBy 48 = .ok (.invokevirtual 217, 3) := by decide +kernel
theorem dX10_movedBy_51 : decode cX10_movedBy 51 = .ok (.istore 7, 2) := by decide +kernel
theorem dX10_movedBy_53 : decode cX10_movedBy 53 = .ok (.iload 5, 2) := by decide +kernel
theorem dX10_movedBy_55 : decode cX10_movedBy 55 = .ok (.iload 7, 2) := by decide +kernel
theorem dX10_movedBy_57 : decode cX10_movedBy 57 = .ok (.iload 6, 2) := by decide +kernel
theorem dX10_movedBy_59 : decode cX10_movedBy 59 = .ok (.if_icmp .eq 7, 3) := by decide +kernel
theorem dX10_movedBy_62 : decode cX10_movedBy 62 = .ok (.iconst 1, 1) := by decide +kernel
theorem dX10_movedBy_63 : decode cX10_movedBy 63 = .ok (.goto 4, 3) := by decide +kernel
theorem dX10_movedBy_66 : decode cX10_movedBy 66 = .ok (.iconst 0, 1) := by decide +kernel
theorem dX10_movedBy_67 : decode cX10_movedBy 67 = .ok (.iadd, 1) := by decide +kernel
theorem dX10_movedBy_68 : decode cX10_movedBy 68 = .ok (.istore 5, 2) := by decide +kernel
theorem dX10_movedBy_70 : decode cX10_movedBy 70 = .ok (.iinc 6 1, 3) := by decide +kernel
theorem dX10_movedBy_73 : decode cX10_movedBy 73 = .ok (.goto (-67), 3) := by decide +kernel
theorem dX10_movedBy_76 : decode cX10_movedBy 76 = .ok (.iload 5, 2) := by decide +kernel
theorem dX10_movedBy_78 : decode cX10_movedBy 78 = .ok (.ireturn, 1) := by decide +kernel
theorem dX10_comesShort_0 : decode cX10_comesShort 0 = .ok (.iload_n 1, 1) := by decide +kernel
theorem dX10_comesShort_1 : decode cX10_comesShort 1 = .ok (.iconst 1, 1) := by decide +kernel
theorem dX10_comesShort_2 : decode cX10_comesShort 2 = .ok (.if_icmp .ne 21, 3) := by decide +kernel
theorem dX10_comesShort_5 : decode cX10_comesShort 5 = .ok (.aload_n 0, 1) := by decide +kernel
theorem dX10_comesShort_6 : decode cX10_comesShort 6 = .ok (.iload_n 3, 1) := by decide +kernel
theorem dX10_comesShort_7 : decode cX10_comesShort 7 = .ok (.ifCond .eq 9, 3) := by decide +kernel
theorem dX10_comesShort_10 : decode cX10_comesShort 10 = .ok (.iload_n 2, 1) := by decide +kernel
theorem dX10_comesShort_11 : decode cX10_comesShort 11 = .ok (.iconst 1, 1) := by decide +kernel
theorem dX10_comesShort_12 : decode cX10_comesShort 12 = .ok (.ixor, 1) := by decide +kernel
theorem dX10_comesShort_13 : decode cX10_comesShort 13 = .ok (.goto 4, 3) := by decide +kernel
theorem dX10_comesShort_16 : decode cX10_comesShort 16 = .ok (.iload_n 2, 1) := by decide +kernel
theorem dX10_comesShort_17 : decode cX10_comesShort 17 = .ok (.invokevirtual 135, 3) := by decide +kernel
theorem dX10_comesShort_20 : decode cX10_comesShort 20 = .ok (.goto 45, 3) := by decide +kernel
theorem dX10_comesShort_23 : decode cX10_comesShort 23 = .ok (.aload_n 0, 1) := by decide +kernel
theorem dX10_comesShort_24 : decode cX10_comesShort 24 = .ok (.iload_n 3, 1) := by decide +kernel
theorem dX10_comesShort_25 : decode cX10_comesShort 25 = .ok (.ifCond .eq 12, 3) := by decide +kernel
theorem dX10_comesShort_28 : decode cX10_comesShort 28 = .ok (.iload_n 2, 1) := by decide +kernel
theorem dX10_comesShort_29 : decode cX10_comesShort 29 = .ok (.bipush 10, 2) := by decide +kernel
theorem dX10_comesShort_31 : decode cX10_comesShort 31 = .ok (.irem, 1) := by decide +kernel
theorem dX10_comesShort_32 : decode cX10_comesShort 32 = .ok (.iconst 1, 1) := by decide +kernel
theorem dX10_comesShort_33 : decode cX10_comesShort 33 = .ok (.ixor, 1) := by decide +kernel
theorem dX10_comesShort_34 : decode cX10_comesShort 34 = .ok (.goto 7, 3) := by decide +kernel
theorem dX10_comesShort_37 : decode cX10_comesShort 37 = .ok (.iload_n 2, 1) := by decide +kernel
theorem dX10_comesShort_38 : decode cX10_comesShort 38 = .ok (.bipush 10, 2) := by decide +kernel
theorem dX10_comesShort_40 : decode cX10_comesShort 40 = .ok (.idiv, 1) := by decide +kernel
theorem dX10_comesShort_41 : decode cX10_comesShort 41 = .ok (.invokevirtual 135, 3) := by decide +kernel
theorem dX10_comesShort_44 : decode cX10_comesShort 44 = .ok (.aload_n 0, 1) := by decide +kernel
theorem dX10_comesShort_45 : decode cX10_comesShort 45 = .ok (.iload_n 3, 1) := by decide +kernel
theorem dX10_comesShort_46 : decode cX10_comesShort 46 = .ok (.ifCond .eq 12, 3) := by decide +kernel
theorem dX10_comesShort_49 : decode cX10_comesShort 49 = .ok (.iload_n 2, 1) := by decide +kernel
theorem dX10_comesShort_50 : decode cX10_comesShort 50 = .ok (.bipush 10, 2) := by decide +kernel
theorem dX10_comesShort_52 : decode cX10_comesShort 52 = .ok (.idiv, 1) := by decide +kernel
theorem dX10_comesShort_53 : decode cX10_comesShort 53 = .ok (.iconst 1, 1) := by decide +kernel
theorem dX10_comesShort_54 : decode cX10_comesShort 54 = .ok (.ixor, 1) := by decide +kernel
theorem dX10_comesShort_55 : decode cX10_comesShort 55 = .ok (.goto 7, 3) := by decide +kernel
theorem dX10_comesShort_58 : decode cX10_comesShort 58 = .ok (.iload_n 2, 1) := by decide +kernel
theorem dX10_comesShort_59 : decode cX10_comesShort 59 = .ok (.bipush 10, 2) := by decide +kernel
theorem dX10_comesShort_61 : decode cX10_comesShort 61 = .ok (.irem, 1) := by decide +kernel
theorem dX10_comesShort_62 : decode cX10_comesShort 62 = .ok (.invokevirtual 135, 3) := by decide +kernel
theorem dX10_comesShort_65 : decode cX10_comesShort 65 = .ok (.return_, 1) := by decide +kernel
theorem dX10_finds_0 : decode cX10_finds 0 = .ok (.iload_n 3, 1) := by decide +kernel
theorem dX10_finds_1 : decode cX10_finds 1 = .ok (.iconst 1, 1) := by decide +kernel
theorem dX10_finds_2 : decode cX10_finds 2 = .ok (.if_icmp .ne 8, 3) := by decide +kernel
theorem dX10_finds_5 : decode cX10_finds 5 = .ok (.bipush 10, 2) := by decide +kernel
theorem dX10_finds_7 : decode cX10_finds 7 = .ok (.goto 5, 3) := by decide +kernel
theorem dX10_finds_10 : decode cX10_finds 10 = .ok (.bipush 100, 2) := by decide +kernel
theorem dX10_finds_12 : decode cX10_finds 12 = .ok (.istore 5, 2) := by decide +kernel
theorem dX10_finds_14 : decode cX10_finds 14 = .ok (.iload 4, 2) := by decide +kernel
theorem dX10_finds_16 : decode cX10_finds 16 = .ok (.iconst 1, 1) := by decide +kernel
theorem dX10_finds_17 : decode cX10_finds 17 = .ok (.if_icmp .ne 8, 3) := by decide +kernel
theorem dX10_finds_20 : decode cX10_finds 20 = .ok (.bipush 10, 2) := by decide +kernel
theorem dX10_finds_22 : decode cX10_finds 22 = .ok (.goto 5, 3) := by decide +kernel
theorem dX10_finds_25 : decode cX10_finds 25 = .ok (.bipush 100, 2) := by decide +kernel
theorem dX10_finds_27 : decode cX10_finds 27 = .ok (.istore 6, 2) := by decide +kernel
theorem dX10_finds_29 : decode cX10_finds 29 = .ok (.iconst 0, 1) := by decide +kernel
theorem dX10_finds_30 : decode cX10_finds 30 = .ok (.istore 7, 2) := by decide +kernel
theorem dX10_finds_32 : decode cX10_finds 32 = .ok (.iload 7, 2) := by decide +kernel
theorem dX10_finds_34 : decode cX10_finds 34 = .ok (.iload 5, 2) := by decide +kernel
theorem dX10_finds_36 : decode cX10_finds 36 = .ok (.if_icmp .ge 101, 3) := by decide +kernel
theorem dX10_finds_39 : decode cX10_finds 39 = .ok (.iconst 0, 1) := by decide +kernel
theorem dX10_finds_40 : decode cX10_finds 40 = .ok (.istore 8, 2) := by decide +kernel
theorem dX10_finds_42 : decode cX10_finds 42 = .ok (.iload 8, 2) := by decide +kernel
theorem dX10_finds_44 : decode cX10_finds 44 = .ok (.iload 6, 2) := by decide +kernel
theorem dX10_finds_46 : decode cX10_finds 46 = .ok (.if_icmp .ge 85, 3) := by decide +kernel
theorem dX10_finds_49 : decode cX10_finds 49 = .ok (.aload_n 0, 1) := by decide +kernel
theorem dX10_finds_50 : decode cX10_finds 50 = .ok (.iload_n 3, 1) := by decide +kernel
theorem dX10_finds_51 : decode cX10_finds 51 = .ok (.iload 7, 2) := by decide +kernel
theorem dX10_finds_53 : decode cX10_finds 53 = .ok (.invokevirtual 221, 3) := by decide +kernel
theorem dX10_finds_56 : decode cX10_finds 56 = .ok (.ifCond .eq 75, 3) := by decide +kernel
theorem dX10_finds_59 : decode cX10_finds 59 = .ok (.aload_n 0, 1) := by decide +kernel
theorem dX10_finds_60 : decode cX10_finds 60 = .ok (.iload 4, 2) := by decide +kernel
theorem dX10_finds_62 : decode cX10_finds 62 = .ok (.iload 8, 2) := by decide +kernel
theorem dX10_finds_64 : decode cX10_finds 64 = .ok (.invokevirtual 221, 3) := by decide +kernel
theorem dX10_finds_67 : decode cX10_finds 67 = .ok (.ifCond .eq 58, 3) := by decide +kernel
theorem dX10_finds_70 : decode cX10_finds 70 = .ok (.aload_n 0, 1) := by decide +kernel
theorem dX10_finds_71 : decode cX10_finds 71 = .ok (.iload_n 3, 1) := by decide +kernel
theorem dX10_finds_72 : decode cX10_finds 72 = .ok (.iload 7, 2) := by decide +kernel
theorem dX10_finds_74 : decode cX10_finds 74 = .ok (.iload 4, 2) := by decide +kernel
theorem dX10_finds_76 : decode cX10_finds 76 = .ok (.iload 8, 2) := by decide +kernel
theorem dX10_finds_78 : decode cX10_finds 78 = .ok (.invokevirtual 225, 3) := by decide +kernel
theorem dX10_finds_81 : decode cX10_finds 81 = .ok (.iload_n 2, 1) := by decide +kernel
theorem dX10_finds_82 : decode cX10_finds 82 = .ok (.if_icmp .ne 43, 3) := by decide +kernel
theorem dX10_finds_85 : decode cX10_finds 85 = .ok (.aload_n 0, 1) := by decide +kernel
theorem dX10_finds_86 : decode cX10_finds 86 = .ok (.invokevirtual 165, 3) := by decide +kernel
theorem dX10_finds_89 : decode cX10_finds 89 = .ok (.aload_n 0, 1) := by decide +kernel
theorem dX10_finds_90 : decode cX10_finds 90 = .ok (.iload_n 3, 1) := by decide +kernel
theorem dX10_finds_91 : decode cX10_finds 91 = .ok (.iload 7, 2) := by decide +kernel
theorem dX10_finds_93 : decode cX10_finds 93 = .ok (.iconst 0, 1) := by decide +kernel
theorem dX10_finds_94 : decode cX10_finds 94 = .ok (.invokevirtual 229, 3) := by decide +kernel
theorem dX10_finds_97 : decode cX10_finds 97 = .ok (.aload_n 0, 1) := by decide +kernel
theorem dX10_finds_98 : decode cX10_finds 98 = .ok (.iload 4, 2) := by decide +kernel
theorem dX10_finds_100 : decode cX10_finds 100 = .ok (.iload 8, 2) := by decide +kernel
theorem dX10_finds_102 : decode cX10_finds 102 = .ok (.iconst 0, 1) := by decide +kernel
theorem dX10_finds_103 : decode cX10_finds 103 = .ok (.invokevirtual 229, 3) := by decide +kernel
theorem dX10_finds_106 : decode cX10_finds 106 = .ok (.aload_n 0, 1) := by decide +kernel
theorem dX10_finds_107 : decode cX10_finds 107 = .ok (.iload_n 3, 1) := by decide +kernel
theorem dX10_finds_108 : decode cX10_finds 108 = .ok (.iload 7, 2) := by decide +kernel
theorem dX10_finds_110 : decode cX10_finds 110 = .ok (.iconst 1, 1) := by decide +kernel
theorem dX10_finds_111 : decode cX10_finds 111 = .ok (.invokevirtual 229, 3) := by decide +kernel
theorem dX10_finds_114 : decode cX10_finds 114 = .ok (.aload_n 0, 1) := by decide +kernel
theorem dX10_finds_115 : decode cX10_finds 115 = .ok (.iload 4, 2) := by decide +kernel
theorem dX10_finds_117 : decode cX10_finds 117 = .ok (.iload 8, 2) := by decide +kernel
theorem dX10_finds_119 : decode cX10_finds 119 = .ok (.iconst 1, 1) := by decide +kernel
theorem dX10_finds_120 : decode cX10_finds 120 = .ok (.invokevirtual 229, 3) := by decide +kernel
theorem dX10_finds_123 : decode cX10_finds 123 = .ok (.iconst 1, 1) := by decide +kernel
theorem dX10_finds_124 : decode cX10_finds 124 = .ok (.ireturn, 1) := by decide +kernel
theorem dX10_finds_125 : decode cX10_finds 125 = .ok (.iinc 8 1, 3) := by decide +kernel
theorem dX10_finds_128 : decode cX10_finds 128 = .ok (.goto (-86), 3) := by decide +kernel
theorem dX10_finds_131 : decode cX10_finds 131 = .ok (.iinc 7 1, 3) := by decide +kernel
theorem dX10_finds_134 : decode cX10_finds 134 = .ok (.goto (-102), 3) := by decide +kernel
theorem dX10_finds_137 : decode cX10_finds 137 = .ok (.iconst 0, 1) := by decide +kernel
theorem dX10_finds_138 : decode cX10_finds 138 = .ok (.ireturn, 1) := by decide +kernel
theorem dX10_findCommutator_0 : decode cX10_findCommutator 0 = .ok (.iload_n 1, 1) := by decide +kernel
theorem dX10_findCommutator_1 : decode cX10_findCommutator 1 = .ok (.invokestatic 162, 3) := by decide +kernel
theorem dX10_findCommutator_4 : decode cX10_findCommutator 4 = .ok (.ifCond .ne 9, 3) := by decide +kernel
theorem dX10_findCommutator_7 : decode cX10_findCommutator 7 = .ok (.aload_n 0, 1) := by decide +kernel
theorem dX10_findCommutator_8 : decode cX10_findCommutator 8 = .ok (.iconst 1, 1) := by decide +kernel
theorem dX10_findCommutator_9 : decode cX10_findCommutator 9 = .ok (.invokevirtual 94, 3) := by decide +kernel
theorem dX10_findCommutator_12 : decode cX10_findCommutator 12 = .ok (.ireturn, 1) := by decide +kernel
theorem dX10_findCommutator_13 : decode cX10_findCommutator 13 = .ok (.aload_n 0, 1) := by decide +kernel
theorem dX10_findCommutator_14 : decode cX10_findCommutator 14 = .ok (.iload_n 1, 1) := by decide +kernel
theorem dX10_findCommutator_15 : decode cX10_findCommutator 15 = .ok (.iload_n 2, 1) := by decide +kernel
theorem dX10_findCommutator_16 : decode cX10_findCommutator 16 = .ok (.iconst 1, 1) := by decide +kernel
theorem dX10_findCommutator_17 : decode cX10_findCommutator 17 = .ok (.iconst 1, 1) := by decide +kernel
theorem dX10_findCommutator_18 : decode cX10_findCommutator 18 = .ok (.invokevirtual 233, 3) := by decide +kernel
theorem dX10_findCommutator_21 : decode cX10_findCommutator 21 = .ok (.ifCond .ne 36, 3) := by decide +kernel
theorem dX10_findCommutator_24 : decode cX10_findCommutator 24 = .ok (.aload_n 0, 1) := by decide +kernel
theorem dX10_findCommutator_25 : decode cX10_findCommutator 25 = .ok (.iload_n 1, 1) := by decide +kernel
theorem dX10_findCommutator_26 : decode cX10_findCommutator 26 = .ok (.iload_n 2, 1) := by decide +kernel
theorem dX10_findCommutator_27 : decode cX10_findCommutator 27 = .ok (.iconst 1, 1) := by decide +kernel
theorem dX10_findCommutator_28 : decode cX10_findCommutator 28 = .ok (.iconst 2, 1) := by decide +kernel
theorem dX10_findCommutator_29 : decode cX10_findCommutator 29 = .ok (.invokevirtual 233, 3) := by decide +kernel
theorem dX10_findCommutator_32 : decode cX10_findCommutator 32 = .ok (.ifCond .ne 25, 3) := by decide +kernel
theorem dX10_findCommutator_35 : decode cX10_findCommutator 35 = .ok (.aload_n 0, 1) := by decide +kernel
theorem dX10_findCommutator_36 : decode cX10_findCommutator 36 = .ok (.iload_n 1, 1) := by decide +kernel
theorem dX10_findCommutator_37 : decode cX10_findCommutator 37 = .ok (.iload_n 2, 1) := by decide +kernel
theorem dX10_findCommutator_38 : decode cX10_findCommutator 38 = .ok (.iconst 2, 1) := by decide +kernel
theorem dX10_findCommutator_39 : decode cX10_findCommutator 39 = .ok (.iconst 1, 1) := by decide +kernel
theorem dX10_findCommutator_40 : decode cX10_findCommutator 40 = .ok (.invokevirtual 233, 3) := by decide +kernel
theorem dX10_findCommutator_43 : decode cX10_findCommutator 43 = .ok (.ifCond .ne 14, 3) := by decide +kernel
theorem dX10_findCommutator_46 : decode cX10_findCommutator 46 = .ok (.aload_n 0, 1) := by decide +kernel
theorem dX10_findCommutator_47 : decode cX10_findCommutator 47 = .ok (.iload_n 1, 1) := by decide +kernel
theorem dX10_findCommutator_48 : decode cX10_findCommutator 48 = .ok (.iload_n 2, 1) := by decide +kernel
theorem dX10_findCommutator_49 : decode cX10_findCommutator 49 = .ok (.iconst 2, 1) := by decide +kernel
theorem dX10_findCommutator_50 : decode cX10_findCommutator 50 = .ok (.iconst 2, 1) := by decide +kernel
theorem dX10_findCommutator_51 : decode cX10_findCommutator 51 = .ok (.invokevirtual 233, 3) := by decide +kernel
theorem dX10_findCommutator_54 : decode cX10_findCommutator 54 = .ok (.ifCond .eq 7, 3) := by decide +kernel
theorem dX10_findCommutator_57 : decode cX10_findCommutator 57 = .ok (.iconst 1, 1) := by decide +kernel
theorem dX10_findCommutator_58 : decode cX10_findCommutator 58 = .ok (.goto 4, 3) := by decide +kernel
theorem dX10_findCommutator_61 : decode cX10_findCommutator 61 = .ok (.iconst 0, 1) := by decide +kernel
theorem dX10_findCommutator_62 : decode cX10_findCommutator 62 = .ok (.istore_n 3, 1) := by decide +kernel
theorem dX10_findCommutator_63 : decode cX10_findCommutator 63 = .ok (.iload_n 3, 1) := by decide +kernel
theorem dX10_findCommutator_64 : decode cX10_findCommutator 64 = .ok (.ifCond .eq 11, 3) := by decide +kernel
theorem dX10_findCommutator_67 : decode cX10_findCommutator 67 = .ok (.aload_n 0, 1) := by decide +kernel
theorem dX10_findCommutator_68 : decode cX10_findCommutator 68 = .ok (.iload_n 1, 1) := by decide +kernel
theorem dX10_findCommutator_69 : decode cX10_findCommutator 69 = .ok (.invokevirtual 168, 3) := by decide +kernel
theorem dX10_findCommutator_72 : decode cX10_findCommutator 72 = .ok (.goto 8, 3) := by decide +kernel
theorem dX10_findCommutator_75 : decode cX10_findCommutator 75 = .ok (.aload_n 0, 1) := by decide +kernel
theorem dX10_findCommutator_76 : decode cX10_findCommutator 76 = .ok (.iconst 2, 1) := by decide +kernel
theorem dX10_findCommutator_77 : decode cX10_findCommutator 77 = .ok (.invokevirtual 94, 3) := by decide +kernel
theorem dX10_findCommutator_80 : decode cX10_findCommutator 80 = .ok (.ireturn, 1) := by decide +kernel
theorem dX10_isRow_0 : decode cX10_isRow 0 = .ok (.iload_n 0, 1) := by decide +kernel
theorem dX10_isRow_1 : decode cX10_isRow 1 = .ok (.iconst 0, 1) := by decide +kernel
theorem dX10_isRow_2 : decode cX10_isRow 2 = .ok (.iconst 1, 1) := by decide +kernel
theorem dX10_isRow_3 : decode cX10_isRow 3 = .ok (.invokestatic 90, 3) := by decide +kernel
theorem dX10_isRow_6 : decode cX10_isRow 6 = .ok (.ireturn, 1) := by decide +kernel
theorem dX10_fillShares_0 : decode cX10_fillShares 0 = .ok (.iload_n 1, 1) := by decide +kernel
theorem dX10_fillShares_1 : decode cX10_fillShares 1 = .ok (.invokestatic 237, 3) := by decide +kernel
theorem dX10_fillShares_4 : decode cX10_fillShares 4 = .ok (.ifCond .ne 9, 3) := by decide +kernel
theorem dX10_fillShares_7 : decode cX10_fillShares 7 = .ok (.aload_n 0, 1) := by decide +kernel
theorem dX10_fillShares_8 : decode cX10_fillShares 8 = .ok (.iconst 1, 1) := by decide +kernel
theorem dX10_fillShares_9 : decode cX10_fillShares 9 = .ok (.invokevirtual 94, 3) := by decide +kernel
theorem dX10_fillShares_12 : decode cX10_fillShares 12 = .ok (.ireturn, 1) := by decide +kernel
theorem dX10_fillShares_13 : decode cX10_fillShares 13 = .ok (.aload_n 0, 1) := by decide +kernel
theorem dX10_fillShares_14 : decode cX10_fillShares 14 = .ok (.invokevirtual 211, 3) := by decide +kernel
theorem dX10_fillShares_17 : decode cX10_fillShares 17 = .ok (.iconst 0, 1) := by decide +kernel
theorem dX10_fillShares_18 : decode cX10_fillShares 18 = .ok (.istore_n 2, 1) := by decide +kernel
theorem dX10_fillShares_19 : decode cX10_fillShares 19 = .ok (.iload_n 2, 1) := by decide +kernel
theorem dX10_fillShares_20 : decode cX10_fillShares 20 = .ok (.bipush 24, 2) := by decide +kernel
theorem dX10_fillShares_22 : decode cX10_fillShares 22 = .ok (.if_icmp .ge 54, 3) := by decide +kernel
theorem dX10_fillShares_25 : decode cX10_fillShares 25 = .ok (.iload_n 1, 1) := by decide +kernel
theorem dX10_fillShares_26 : decode cX10_fillShares 26 = .ok (.ifCond .ne 25, 3) := by decide +kernel
theorem dX10_fillShares_29 : decode cX10_fillShares 29 = .ok (.aload_n 0, 1) := by decide +kernel
theorem dX10_fillShares_30 : decode cX10_fillShares 30 = .ok (.getfield 37, 3) := by decide +kernel
theorem dX10_fillShares_33 : decode cX10_fillShares 33 = .ok (.iload_n 2, 1) := by decide +kernel
theorem dX10_fillShares_34 : decode cX10_fillShares 34 = .ok (.aload_n 0, 1) := by decide +kernel
theorem dX10_fillShares_35 : decode cX10_fillShares 35 = .ok (.getfield 84, 3) := by decide +kernel
theorem dX10_fillShares_38 : decode cX10_fillShares 38 = .ok (.iload_n 2, 1) := by decide +kernel
theorem dX10_fillShares_39 : decode cX10_fillShares 39 = .ok (.iaload, 1) := by decide +kernel
theorem dX10_fillShares_40 : decode cX10_fillShares 40 = .ok (.i2f, 1) := by decide +kernel
theorem dX10_fillShares_41 : decode cX10_fillShares 41 = .ok (.aload_n 0, 1) := by decide +kernel
theorem dX10_fillShares_42 : decode cX10_fillShares 42 = .ok (.getfield 196, 3) := by decide +kernel
theorem dX10_fillShares_45 : decode cX10_fillShares 45 = .ok (.i2f, 1) := by decide +kernel
theorem dX10_fillShares_46 : decode cX10_fillShares 46 = .ok (.fdiv, 1) := by decide +kernel
theorem dX10_fillShares_47 : decode cX10_fillShares 47 = .ok (.fastore, 1) := by decide +kernel
theorem dX10_fillShares_48 : decode cX10_fillShares 48 = .ok (.goto 22, 3) := by decide +kernel
theorem dX10_fillShares_51 : decode cX10_fillShares 51 = .ok (.aload_n 0, 1) := by decide +kernel
theorem dX10_fillShares_52 : decode cX10_fillShares 52 = .ok (.getfield 41, 3) := by decide +kernel
theorem dX10_fillShares_55 : decode cX10_fillShares 55 = .ok (.iload_n 2, 1) := by decide +kernel
theorem dX10_fillShares_56 : decode cX10_fillShares 56 = .ok (.aload_n 0, 1) := by decide +kernel
theorem dX10_fillShares_57 : decode cX10_fillShares 57 = .ok (.getfield 84, 3) := by decide +kernel
theorem dX10_fillShares_60 : decode cX10_fillShares 60 = .ok (.iload_n 2, 1) := by decide +kernel
theorem dX10_fillShares_61 : decode cX10_fillShares 61 = .ok (.iaload, 1) := by decide +kernel
theorem dX10_fillShares_62 : decode cX10_fillShares 62 = .ok (.i2d, 1) := by decide +kernel
theorem dX10_fillShares_63 : decode cX10_fillShares 63 = .ok (.aload_n 0, 1) := by decide +kernel
theorem dX10_fillShares_64 : decode cX10_fillShares 64 = .ok (.getfield 196, 3) := by decide +kernel
theorem dX10_fillShares_67 : decode cX10_fillShares 67 = .ok (.i2d, 1) := by decide +kernel
theorem dX10_fillShares_68 : decode cX10_fillShares 68 = .ok (.ddiv, 1) := by decide +kernel
theorem dX10_fillShares_69 : decode cX10_fillShares 69 = .ok (.dastore, 1) := by decide +kernel
theorem dX10_fillShares_70 : decode cX10_fillShares 70 = .ok (.iinc 2 1, 3) := by decide +kernel
theorem dX10_fillShares_73 : decode cX10_fillShares 73 = .ok (.goto (-54), 3) := by decide +kernel
theorem dX10_fillShares_76 : decode cX10_fillShares 76 = .ok (.aload_n 0, 1) := by decide +kernel
theorem dX10_fillShares_77 : decode cX10_fillShares 77 = .ok (.aload_n 0, 1) := by decide +kernel
theorem dX10_fillShares_78 : decode cX10_fillShares 78 = .ok (.getfield 202, 3) := by decide +kernel
theorem dX10_fillShares_81 : decode cX10_fillShares 81 = .ok (.bipush 24, 2) := by decide +kernel
theorem dX10_fillShares_83 : decode cX10_fillShares 83 = .ok (.if_icmp .ge 7, 3) := by decide +kernel
theorem dX10_fillShares_86 : decode cX10_fillShares 86 = .ok (.iconst 0, 1) := by decide +kernel
theorem dX10_fillShares_87 : decode cX10_fillShares 87 = .ok (.goto 12, 3) := by decide +kernel
theorem dX10_fillShares_90 : decode cX10_fillShares 90 = .ok (.aload_n 0, 1) := by decide +kernel
theorem dX10_fillShares_91 : decode cX10_fillShares 91 = .ok (.getfield 202, 3) := by decide +kernel
theorem dX10_fillShares_94 : decode cX10_fillShares 94 = .ok (.bipush 24, 2) := by decide +kernel
theorem dX10_fillShares_96 : decode cX10_fillShares 96 = .ok (.isub, 1) := by decide +kernel
theorem dX10_fillShares_97 : decode cX10_fillShares 97 = .ok (.iconst 1, 1) := by decide +kernel
theorem dX10_fillShares_98 : decode cX10_fillShares 98 = .ok (.iadd, 1) := by decide +kernel
theorem dX10_fillShares_99 : decode cX10_fillShares 99 = .ok (.invokevirtual 105, 3) := by decide +kernel
theorem dX10_fillShares_102 : decode cX10_fillShares 102 = .ok (.ireturn, 1) := by decide +kernel
theorem dX10_scale_0 : decode cX10_scale 0 = .ok (.iload_n 1, 1) := by decide +kernel
theorem dX10_scale_1 : decode cX10_scale 1 = .ok (.invokestatic 237, 3) := by decide +kernel
theorem dX10_scale_4 : decode cX10_scale 4 = .ok (.ifCond .eq 13, 3) := by decide +kernel
theorem dX10_scale_7 : decode cX10_scale 7 = .ok (.iload_n 2, 1) := by decide +kernel
theorem dX10_scale_8 : decode cX10_scale 8 = .ok (.iconst 0, 1) := by decide +kernel
theorem dX10_scale_9 : decode cX10_scale 9 = .ok (.bipush 23, 2) := by decide +kernel
theorem dX10_scale_11 : decode cX10_scale 11 = .ok (.invokestatic 90, 3) := by decide +kernel
theorem dX10_scale_14 : decode cX10_scale 14 = .ok (.ifCond .ne 9, 3) := by decide +kernel
theorem dX10_scale_17 : decode cX10_scale 17 = .ok (.aload_n 0, 1) := by decide +kernel
theorem dX10_scale_18 : decode cX10_scale 18 = .ok (.iconst 1, 1) := by decide +kernel
theorem dX10_scale_19 : decode cX10_scale 19 = .ok (.invokevirtual 94, 3) := by decide +kernel
theorem dX10_scale_22 : decode cX10_scale 22 = .ok (.ireturn, 1) := by decide +kernel
theorem dX10_scale_23 : decode cX10_scale 23 = .ok (.iload_n 3, 1) := by decide +kernel
theorem dX10_scale_24 : decode cX10_scale 24 = .ok (.sipush (-1000), 3) := by decide +kernel
theorem dX10_scale_27 : decode cX10_scale 27 = .ok (.sipush 1000, 3) := by decide +kernel
theorem dX10_scale_30 : decode cX10_scale 30 = .ok (.invokestatic 90, 3) := by decide +kernel
theorem dX10_scale_33 : decode cX10_scale 33 = .ok (.ifCond .ne 9, 3) := by decide +kernel
theorem dX10_scale_36 : decode cX10_scale 36 = .ok (.aload_n 0, 1) := by decide +kernel
theorem dX10_scale_37 : decode cX10_scale 37 = .ok (.iconst 2, 1) := by decide +kernel
theorem dX10_scale_38 : decode cX10_scale 38 = .ok (.invokevirtual 94, 3) := by decide +kernel
theorem dX10_scale_41 : decode cX10_scale 41 = .ok (.ireturn, 1) := by decide +kernel
theorem dX10_scale_42 : decode cX10_scale 42 = .ok (.iload_n 1, 1) := by decide +kernel
theorem dX10_scale_43 : decode cX10_scale 43 = .ok (.ifCond .ne 52, 3) := by decide +kernel
theorem dX10_scale_46 : decode cX10_scale 46 = .ok (.aload_n 0, 1) := by decide +kernel
theorem dX10_scale_47 : decode cX10_scale 47 = .ok (.getfield 37, 3) := by decide +kernel
theorem dX10_scale_50 : decode cX10_scale 50 = .ok (.iload_n 2, 1) := by decide +kernel
theorem dX10_scale_51 : decode cX10_scale 51 = .ok (.faload, 1) := by decide +kernel
theorem dX10_scale_52 : decode cX10_scale 52 = .ok (.iload_n 3, 1) := by decide +kernel
theorem dX10_scale_53 : decode cX10_scale 53 = .ok (.i2f, 1) := by decide +kernel
theorem dX10_scale_54 : decode cX10_scale 54 = .ok (.fmul, 1) := by decide +kernel
theorem dX10_scale_55 : decode cX10_scale 55 = .ok (.fstore 4, 2) := by decide +kernel
theorem dX10_scale_57 : decode cX10_scale 57 = .ok (.fload 4, 2) := by decide +kernel
theorem dX10_scale_59 : decode cX10_scale 59 = .ok (.ldc 240, 2) := by decide +kernel
theorem dX10_scale_61 : decode cX10_scale 61 = .ok (.fcmp .l, 1) := by decide +kernel
theorem dX10_scale_62 : decode cX10_scale 62 = .ok (.ifCond .gt 11, 3) := by decide +kernel
theorem dX10_scale_65 : decode cX10_scale 65 = .ok (.fload 4, 2) := by decide +kernel
theorem dX10_scale_67 : decode cX10_scale 67 = .ok (.ldc 241, 2) := by decide +kernel
theorem dX10_scale_69 : decode cX10_scale 69 = .ok (.fcmp .g, 1) := by decide +kernel
theorem dX10_scale_70 : decode cX10_scale 70 = .ok (.ifCond .ge 9, 3) := by decide +kernel
theorem dX10_scale_73 : decode cX10_scale 73 = .ok (.aload_n 0, 1) := by decide +kernel
theorem dX10_scale_74 : decode cX10_scale 74 = .ok (.iconst 3, 1) := by decide +kernel
theorem dX10_scale_75 : decode cX10_scale 75 = .ok (.invokevirtual 94, 3) := by decide +kernel
theorem dX10_scale_78 : decode cX10_scale 78 = .ok (.ireturn, 1) := by decide +kernel
theorem dX10_scale_79 : decode cX10_scale 79 = .ok (.aload_n 0, 1) := by decide +kernel
theorem dX10_scale_80 : decode cX10_scale 80 = .ok (.getfield 37, 3) := by decide +kernel
theorem dX10_scale_83 : decode cX10_scale 83 = .ok (.iload_n 2, 1) := by decide +kernel
theorem dX10_scale_84 : decode cX10_scale 84 = .ok (.fload 4, 2) := by decide +kernel
theorem dX10_scale_86 : decode cX10_scale 86 = .ok (.fastore, 1) := by decide +kernel
theorem dX10_scale_87 : decode cX10_scale 87 = .ok (.aload_n 0, 1) := by decide +kernel
theorem dX10_scale_88 : decode cX10_scale 88 = .ok (.fload 4, 2) := by decide +kernel
theorem dX10_scale_90 : decode cX10_scale 90 = .ok (.f2i, 1) := by decide +kernel
theorem dX10_scale_91 : decode cX10_scale 91 = .ok (.invokevirtual 105, 3) := by decide +kernel
theorem dX10_scale_94 : decode cX10_scale 94 = .ok (.ireturn, 1) := by decide +kernel
theorem dX10_scale_95 : decode cX10_scale 95 = .ok (.aload_n 0, 1) := by decide +kernel
theorem dX10_scale_96 : decode cX10_scale 96 = .ok (.getfield 41, 3) := by decide +kernel
theorem dX10_scale_99 : decode cX10_scale 99 = .ok (.iload_n 2, 1) := by decide +kernel
theorem dX10_scale_100 : decode cX10_scale 100 = .ok (.daload, 1) := by decide +kernel
theorem dX10_scale_101 : decode cX10_scale 101 = .ok (.iload_n 3, 1) := by decide +kernel
theorem dX10_scale_102 : decode cX10_scale 102 = .ok (.i2d, 1) := by decide +kernel
theorem dX10_scale_103 : decode cX10_scale 103 = .ok (.dmul, 1) := by decide +kernel
theorem dX10_scale_104 : decode cX10_scale 104 = .ok (.dstore 4, 2) := by decide +kernel
theorem dX10_scale_106 : decode cX10_scale 106 = .ok (.dload 4, 2) := by decide +kernel
theorem dX10_scale_108 : decode cX10_scale 108 = .ok (.ldc2_w 242, 3) := by decide +kernel
theorem dX10_scale_111 : decode cX10_scale 111 = .ok (.dcmp .l, 1) := by decide +kernel
theorem dX10_scale_112 : decode cX10_scale 112 = .ok (.ifCond .gt 12, 3) := by decide +kernel
theorem dX10_scale_115 : decode cX10_scale 115 = .ok (.dload 4, 2) := by decide +kernel
theorem dX10_scale_117 : decode cX10_scale 117 = .ok (.ldc2_w 244, 3) := by decide +kernel
theorem dX10_scale_120 : decode cX10_scale 120 = .ok (.dcmp .g, 1) := by decide +kernel
theorem dX10_scale_121 : decode cX10_scale 121 = .ok (.ifCond .ge 9, 3) := by decide +kernel
theorem dX10_scale_124 : decode cX10_scale 124 = .ok (.aload_n 0, 1) := by decide +kernel
theorem dX10_scale_125 : decode cX10_scale 125 = .ok (.iconst 3, 1) := by decide +kernel
theorem dX10_scale_126 : decode cX10_scale 126 = .ok (.invokevirtual 94, 3) := by decide +kernel
theorem dX10_scale_129 : decode cX10_scale 129 = .ok (.ireturn, 1) := by decide +kernel
theorem dX10_scale_130 : decode cX10_scale 130 = .ok (.aload_n 0, 1) := by decide +kernel
theorem dX10_scale_131 : decode cX10_scale 131 = .ok (.getfield 41, 3) := by decide +kernel
theorem dX10_scale_134 : decode cX10_scale 134 = .ok (.iload_n 2, 1) := by decide +kernel
theorem dX10_scale_135 : decode cX10_scale 135 = .ok (.dload 4, 2) := by decide +kernel
theorem dX10_scale_137 : decode cX10_scale 137 = .ok (.dastore, 1) := by decide +kernel
theorem dX10_scale_138 : decode cX10_scale 138 = .ok (.aload_n 0, 1) := by decide +kernel
theorem dX10_scale_139 : decode cX10_scale 139 = .ok (.dload 4, 2) := by decide +kernel
theorem dX10_scale_141 : decode cX10_scale 141 = .ok (.d2i, 1) := by decide +kernel
theorem dX10_scale_142 : decode cX10_scale 142 = .ok (.invokevirtual 105, 3) := by decide +kernel
theorem dX10_scale_145 : decode cX10_scale 145 = .ok (.ireturn, 1) := by decide +kernel
theorem dX10_remainder_0 : decode cX10_remainder 0 = .ok (.aload_n 0, 1) := by decide +kernel
theorem dX10_remainder_1 : decode cX10_remainder 1 = .ok (.iload_n 1, 1) := by decide +kernel
theorem dX10_remainder_2 : decode cX10_remainder 2 = .ok (.invokestatic 237, 3) := by decide +kernel
theorem dX10_remainder_5 : decode cX10_remainder 5 = .ok (.ifCond .eq 13, 3) := by decide +kernel
theorem dX10_remainder_8 : decode cX10_remainder 8 = .ok (.iload_n 2, 1) := by decide +kernel
theorem dX10_remainder_9 : decode cX10_remainder 9 = .ok (.iconst 0, 1) := by decide +kernel
theorem dX10_remainder_10 : decode cX10_remainder 10 = .ok (.bipush 23, 2) := by decide +kernel
theorem dX10_remainder_12 : decode cX10_remainder 12 = .ok (.invokestatic 90, 3) := by decide +kernel
theorem dX10_remainder_15 : decode cX10_remainder 15 = .ok (.ifCond .ne 7, 3) := by decide +kernel
theorem dX10_remainder_18 : decode cX10_remainder 18 = .ok (.iconst 1, 1) := by decide +kernel
theorem dX10_remainder_19 : decode cX10_remainder 19 = .ok (.goto 12, 3) := by decide +kernel
theorem dX10_remainder_22 : decode cX10_remainder 22 = .ok (.iload_n 3, 1) := by decide +kernel
theorem dX10_remainder_23 : decode cX10_remainder 23 = .ok (.ifCond .ne 7, 3) := by decide +kernel
theorem dX10_remainder_26 : decode cX10_remainder 26 = .ok (.iconst 2, 1) := by decide +kernel
theorem dX10_remainder_27 : decode cX10_remainder 27 = .ok (.goto 4, 3) := by decide +kernel
theorem dX10_remainder_30 : decode cX10_remainder 30 = .ok (.iconst 0, 1) := by decide +kernel
theorem dX10_remainder_31 : decode cX10_remainder 31 = .ok (.putfield 87, 3) := by decide +kernel
theorem dX10_remainder_34 : decode cX10_remainder 34 = .ok (.aload_n 0, 1) := by decide +kernel
theorem dX10_remainder_35 : decode cX10_remainder 35 = .ok (.getfield 87, 3) := by decide +kernel
theorem dX10_remainder_38 : decode cX10_remainder 38 = .ok (.ifCond .eq 5, 3) := by decide +kernel
theorem dX10_remainder_41 : decode cX10_remainder 41 = .ok (.dconst 0, 1) := by decide +kernel
theorem dX10_remainder_42 : decode cX10_remainder 42 = .ok (.dreturn, 1) := by decide +kernel
theorem dX10_remainder_43 : decode cX10_remainder 43 = .ok (.iload_n 1, 1) := by decide +kernel
theorem dX10_remainder_44 : decode cX10_remainder 44 = .ok (.ifCond .ne 16, 3) := by decide +kernel
theorem dX10_remainder_47 : decode cX10_remainder 47 = .ok (.aload_n 0, 1) := by decide +kernel
theorem dX10_remainder_48 : decode cX10_remainder 48 = .ok (.getfield 37, 3) := by decide +kernel
theorem dX10_remainder_51 : decode cX10_remainder 51 = .ok (.iload_n 2, 1) := by decide +kernel
theorem dX10_remainder_52 : decode cX10_remainder 52 = .ok (.faload, 1) := by decide +kernel
theorem dX10_remainder_53 : decode cX10_remainder 53 = .ok (.iload_n 3, 1) := by decide +kernel
theorem dX10_remainder_54 : decode cX10_remainder 54 = .ok (.i2f, 1) := by decide +kernel
theorem dX10_remainder_55 : decode cX10_remainder 55 = .ok (.frem, 1) := by decide +kernel
theorem dX10_remainder_56 : decode cX10_remainder 56 = .ok (.f2d, 1) := by decide +kernel
theorem dX10_remainder_57 : decode cX10_remainder 57 = .ok (.goto 12, 3) := by decide +kernel
theorem dX10_remainder_60 : decode cX10_remainder 60 = .ok (.aload_n 0, 1) := by decide +kernel
theorem dX10_remainder_61 : decode cX10_remainder 61 = .ok (.getfield 41, 3) := by decide +kernel
theorem dX10_remainder_64 : decode cX10_remainder 64 = .ok (.iload_n 2, 1) := by decide +kernel
theorem dX10_remainder_65 : decode cX10_remainder 65 = .ok (.daload, 1) := by decide +kernel
theorem dX10_remainder_66 : decode cX10_remainder 66 = .ok (.iload_n 3, 1) := by decide +kernel
theorem dX10_remainder_67 : decode cX10_remainder 67 = .ok (.i2d, 1) := by decide +kernel
theorem dX10_remainder_68 : decode cX10_remainder 68 = .ok (.drem, 1) := by decide +kernel
theorem dX10_remainder_69 : decode cX10_remainder 69 = .ok (.dreturn, 1) := by decide +kernel
theorem dX10_copy_0 : decode cX10_copy 0 = .ok (.iconst 0, 1) := by decide +kernel
theorem dX10_copy_1 : decode cX10_copy 1 = .ok (.istore_n 2, 1) := by decide +kernel
theorem dX10_copy_2 : decode cX10_copy 2 = .ok (.iload_n 2, 1) := by decide +kernel
theorem dX10_copy_3 : decode cX10_copy 3 = .ok (.aload_n 0, 1) := by decide +kernel
theorem dX10_copy_4 : decode cX10_copy 4 = .ok (.arraylength, 1) := by decide +kernel
theorem dX10_copy_5 : decode cX10_copy 5 = .ok (.if_icmp .ge 15, 3) := by decide +kernel
theorem dX10_copy_8 : decode cX10_copy 8 = .ok (.aload_n 1, 1) := by decide +kernel
theorem dX10_copy_9 : decode cX10_copy 9 = .ok (.iload_n 2, 1) := by decide +kernel
theorem dX10_copy_10 : decode cX10_copy 10 = .ok (.aload_n 0, 1) := by decide +kernel
theorem dX10_copy_11 : decode cX10_copy 11 = .ok (.iload_n 2, 1) := by decide +kernel
theorem dX10_copy_12 : decode cX10_copy 12 = .ok (.iaload, 1) := by decide +kernel
theorem dX10_copy_13 : decode cX10_copy 13 = .ok (.iastore, 1) := by decide +kernel
theorem dX10_copy_14 : decode cX10_copy 14 = .ok (.iinc 2 1, 3) := by decide +kernel
theorem dX10_copy_17 : decode cX10_copy 17 = .ok (.goto (-15), 3) := by decide +kernel
theorem dX10_copy_20 : decode cX10_copy 20 = .ok (.return_, 1) := by decide +kernel
theorem dX10_snapshot_0 : decode cX10_snapshot 0 = .ok (.aload_n 0, 1) := by decide +kernel
theorem dX10_snapshot_1 : decode cX10_snapshot 1 = .ok (.iconst 0, 1) := by decide +kernel
theorem dX10_snapshot_2 : decode cX10_snapshot 2 = .ok (.putfield 87, 3) := by decide +kernel
theorem dX10_snapshot_5 : decode cX10_snapshot 5 = .ok (.aload_n 0, 1) := by decide +kernel
theorem dX10_snapshot_6 : decode cX10_snapshot 6 = .ok (.iconst 1, 1) := by decide +kernel
theorem dX10_snapshot_7 : decode cX10_snapshot 7 = .ok (.putfield 98, 3) := by decide +kernel
theorem dX10_snapshot_10 : decode cX10_snapshot 10 = .ok (.aload_n 0, 1) := by decide +kernel
theorem dX10_snapshot_11 : decode cX10_snapshot 11 = .ok (.getfield 13, 3) := by decide +kernel
theorem dX10_snapshot_14 : decode cX10_snapshot 14 = .ok (.aload_n 0, 1) := by decide +kernel
theorem dX10_snapshot_15 : decode cX10_snapshot 15 = .ok (.getfield 45, 3) := by decide +kernel
theorem dX10_snapshot_18 : decode cX10_snapshot 18 = .ok (.invokestatic 246, 3) := by decide +kernel
theorem dX10_snapshot_21 : decode cX10_snapshot 21 = .ok (.aload_n 0, 1) := by decide +kernel
theorem dX10_snapshot_22 : decode cX10_snapshot 22 = .ok (.getfield 21, 3) := by decide +kernel
theorem dX10_snapshot_25 : decode cX10_snapshot 25 = .ok (.aload_n 0, 1) := by decide +kernel
theorem dX10_snapshot_26 : decode cX10_snapshot 26 = .ok (.getfield 51, 3) := by decide +kernel
theorem dX10_snapshot_29 : decode cX10_snapshot 29 = .ok (.invokestatic 246, 3) := by decide +kernel
theorem dX10_snapshot_32 : decode cX10_snapshot 32 = .ok (.aload_n 0, 1) := by decide +kernel
theorem dX10_snapshot_33 : decode cX10_snapshot 33 = .ok (.getfield 24, 3) := by decide +kernel
theorem dX10_snapshot_36 : decode cX10_snapshot 36 = .ok (.aload_n 0, 1) := by decide +kernel
theorem dX10_snapshot_37 : decode cX10_snapshot 37 = .ok (.getfield 54, 3) := by decide +kernel
theorem dX10_snapshot_40 : decode cX10_snapshot 40 = .ok (.invokestatic 246, 3) := by decide +kernel
theorem dX10_snapshot_43 : decode cX10_snapshot 43 = .ok (.aload_n 0, 1) := by decide +kernel
theorem dX10_snapshot_44 : decode cX10_snapshot 44 = .ok (.getfield 27, 3) := by decide +kernel
theorem dX10_snapshot_47 : decode cX10_snapshot 47 = .ok (.aload_n 0, 1) := by decide +kernel
theorem dX10_snapshot_48 : decode cX10_snapshot 48 = .ok (.getfield 57, 3) := by decide +kernel
theorem dX10_snapshot_51 : decode cX10_snapshot 51 = .ok (.invokestatic 246, 3) := by decide +kernel
theorem dX10_snapshot_54 : decode cX10_snapshot 54 = .ok (.iconst 0, 1) := by decide +kernel
theorem dX10_snapshot_55 : decode cX10_snapshot 55 = .ok (.istore_n 1, 1) := by decide +kernel
theorem dX10_snapshot_56 : decode cX10_snapshot 56 = .ok (.iload_n 1, 1) := by decide +kernel
theorem dX10_snapshot_57 : decode cX10_snapshot 57 = .ok (.iconst 5, 1) := by decide +kernel
theorem dX10_snapshot_58 : decode cX10_snapshot 58 = .ok (.if_icmp .ge 21, 3) := by decide +kernel
theorem dX10_snapshot_61 : decode cX10_snapshot 61 = .ok (.aload_n 0, 1) := by decide +kernel
theorem dX10_snapshot_62 : decode cX10_snapshot 62 = .ok (.getfield 48, 3) := by decide +kernel
theorem dX10_snapshot_65 : decode cX10_snapshot 65 = .ok (.iload_n 1, 1) := by decide +kernel
theorem dX10_snapshot_66 : decode cX10_snapshot 66 = .ok (.aload_n 0, 1) := by decide +kernel
theorem dX10_snapshot_67 : decode cX10_snapshot 67 = .ok (.getfield 17, 3) := by decide +kernel
theorem dX10_snapshot_70 : decode cX10_snapshot 70 = .ok (.iload_n 1, 1) := by decide +kernel
theorem dX10_snapshot_71 : decode cX10_snapshot 71 = .ok (.baload, 1) := by decide +kernel
theorem dX10_snapshot_72 : decode cX10_snapshot 72 = .ok (.bastore, 1) := by decide +kernel
theorem dX10_snapshot_73 : decode cX10_snapshot 73 = .ok (.iinc 1 1, 3) := by decide +kernel
theorem dX10_snapshot_76 : decode cX10_snapshot 76 = .ok (.goto (-20), 3) := by decide +kernel
theorem dX10_snapshot_79 : decode cX10_snapshot 79 = .ok (.return_, 1) := by decide +kernel
theorem dX10_restore_0 : decode cX10_restore 0 = .ok (.aload_n 0, 1) := by decide +kernel
theorem dX10_restore_1 : decode cX10_restore 1 = .ok (.aload_n 0, 1) := by decide +kernel
theorem dX10_restore_2 : decode cX10_restore 2 = .ok (.getfield 98, 3) := by decide +kernel
theorem dX10_restore_5 : decode cX10_restore 5 = .ok (.ifCond .eq 7, 3) := by decide +kernel
theorem dX10_restore_8 : decode cX10_restore 8 = .ok (.iconst 0, 1) := by decide +kernel
theorem dX10_restore_9 : decode cX10_restore 9 = .ok (.goto 4, 3) := by decide +kernel
theorem dX10_restore_12 : decode cX10_restore 12 = .ok (.iconst 1, 1) := by decide +kernel
theorem dX10_restore_13 : decode cX10_restore 13 = .ok (.putfield 87, 3) := by decide +kernel
theorem dX10_restore_16 : decode cX10_restore 16 = .ok (.aload_n 0, 1) := by decide +kernel
theorem dX10_restore_17 : decode cX10_restore 17 = .ok (.getfield 87, 3) := by decide +kernel
theorem dX10_restore_20 : decode cX10_restore 20 = .ok (.ifCond .eq 4, 3) := by decide +kernel
theorem dX10_restore_23 : decode cX10_restore 23 = .ok (.return_, 1) := by decide +kernel
theorem dX10_restore_24 : decode cX10_restore 24 = .ok (.aload_n 0, 1) := by decide +kernel
theorem dX10_restore_25 : decode cX10_restore 25 = .ok (.getfield 45, 3) := by decide +kernel
theorem dX10_restore_28 : decode cX10_restore 28 = .ok (.aload_n 0, 1) := by decide +kernel
theorem dX10_restore_29 : decode cX10_restore 29 = .ok (.getfield 13, 3) := by decide +kernel
theorem dX10_restore_32 : decode cX10_restore 32 = .ok (.invokestatic 246, 3) := by decide +kernel
theorem dX10_restore_35 : decode cX10_restore 35 = .ok (.aload_n 0, 1) := by decide +kernel
theorem dX10_restore_36 : decode cX10_restore 36 = .ok (.getfield 51, 3) := by decide +kernel
theorem dX10_restore_39 : decode cX10_restore 39 = .ok (.aload_n 0, 1) := by decide +kernel
theorem dX10_restore_40 : decode cX10_restore 40 = .ok (.getfield 21, 3) := by decide +kernel
theorem dX10_restore_43 : decode cX10_restore 43 = .ok (.invokestatic 246, 3) := by decide +kernel
theorem dX10_restore_46 : decode cX10_restore 46 = .ok (.aload_n 0, 1) := by decide +kernel
theorem dX10_restore_47 : decode cX10_restore 47 = .ok (.getfield 54, 3) := by decide +kernel
theorem dX10_restore_50 : decode cX10_restore 50 = .ok (.aload_n 0, 1) := by decide +kernel
theorem dX10_restore_51 : decode cX10_restore 51 = .ok (.getfield 24, 3) := by decide +kernel
theorem dX10_restore_54 : decode cX10_restore 54 = .ok (.invokestatic 246, 3) := by decide +kernel
theorem dX10_restore_57 : decode cX10_restore 57 = .ok (.aload_n 0, 1) := by decide +kernel
theorem dX10_restore_58 : decode cX10_restore 58 = .ok (.getfield 57, 3) := by decide +kernel
theorem dX10_restore_61 : decode cX10_restore 61 = .ok (.aload_n 0, 1) := by decide +kernel
theorem dX10_restore_62 : decode cX10_restore 62 = .ok (.getfield 27, 3) := by decide +kernel
theorem dX10_restore_65 : decode cX10_restore 65 = .ok (.invokestatic 246, 3) := by decide +kernel
theorem dX10_restore_68 : decode cX10_restore 68 = .ok (.iconst 0, 1) := by decide +kernel
theorem dX10_restore_69 : decode cX10_restore 69 = .ok (.istore_n 1, 1) := by decide +kernel
theorem dX10_restore_70 : decode cX10_restore 70 = .ok (.iload_n 1, 1) := by decide +kernel
theorem dX10_restore_71 : decode cX10_restore 71 = .ok (.iconst 5, 1) := by decide +kernel
theorem dX10_restore_72 : decode cX10_restore 72 = .ok (.if_icmp .ge 21, 3) := by decide +kernel
theorem dX10_restore_75 : decode cX10_restore 75 = .ok (.aload_n 0, 1) := by decide +kernel
theorem dX10_restore_76 : decode cX10_restore 76 = .ok (.getfield 17, 3) := by decide +kernel
theorem dX10_restore_79 : decode cX10_restore 79 = .ok (.iload_n 1, 1) := by decide +kernel
theorem dX10_restore_80 : decode cX10_restore 80 = .ok (.aload_n 0, 1) := by decide +kernel
theorem dX10_restore_81 : decode cX10_restore 81 = .ok (.getfield 48, 3) := by decide +kernel
theorem dX10_restore_84 : decode cX10_restore 84 = .ok (.iload_n 1, 1) := by decide +kernel
theorem dX10_restore_85 : decode cX10_restore 85 = .ok (.baload, 1) := by decide +kernel
theorem dX10_restore_86 : decode cX10_restore 86 = .ok (.bastore, 1) := by decide +kernel
theorem dX10_restore_87 : decode cX10_restore 87 = .ok (.iinc 1 1, 3) := by decide +kernel
theorem dX10_restore_90 : decode cX10_restore 90 = .ok (.goto (-20), 3) := by decide +kernel
theorem dX10_restore_93 : decode cX10_restore 93 = .ok (.aload_n 0, 1) := by decide +kernel
theorem dX10_restore_94 : decode cX10_restore 94 = .ok (.iconst 0, 1) := by decide +kernel
theorem dX10_restore_95 : decode cX10_restore 95 = .ok (.putfield 102, 3) := by decide +kernel
theorem dX10_restore_98 : decode cX10_restore 98 = .ok (.return_, 1) := by decide +kernel
theorem dJx00060_init_a7421_0 : decode cJx00060_init_a7421 0 = .ok (.aload_n 0, 1) := by decide +kernel
theorem dJx00060_init_a7421_1 : decode cJx00060_init_a7421 1 = .ok (.aload_n 1, 1) := by decide +kernel
theorem dJx00060_init_a7421_2 : decode cJx00060_init_a7421 2 = .ok (.invokespecial 7, 3) := by decide +kernel
theorem dJx00060_init_a7421_5 : decode cJx00060_init_a7421 5 = .ok (.return_, 1) := by decide +kernel
theorem dJ6_bitCount_0f7a4_0 : decode cJ6_bitCount_0f7a4 0 = .ok (.iload_n 0, 1) := by decide +kernel
theorem dJ6_bitCount_0f7a4_1 : decode cJ6_bitCount_0f7a4 1 = .ok (.iload_n 0, 1) := by decide +kernel
theorem dJ6_bitCount_0f7a4_2 : decode cJ6_bitCount_0f7a4 2 = .ok (.iconst 1, 1) := by decide +kernel
theorem dJ6_bitCount_0f7a4_3 : decode cJ6_bitCount_0f7a4 3 = .ok (.iushr, 1) := by decide +kernel
theorem dJ6_bitCount_0f7a4_4 : decode cJ6_bitCount_0f7a4 4 = .ok (.ldc_w 265, 3) := by decide +kernel
theorem dJ6_bitCount_0f7a4_7 : decode cJ6_bitCount_0f7a4 7 = .ok (.iand, 1) := by decide +kernel
theorem dJ6_bitCount_0f7a4_8 : decode cJ6_bitCount_0f7a4 8 = .ok (.isub, 1) := by decide +kernel
theorem dJ6_bitCount_0f7a4_9 : decode cJ6_bitCount_0f7a4 9 = .ok (.istore_n 0, 1) := by decide +kernel
theorem dJ6_bitCount_0f7a4_10 : decode cJ6_bitCount_0f7a4 10 = .ok (.iload_n 0, 1) := by decide +kernel
theorem dJ6_bitCount_0f7a4_11 : decode cJ6_bitCount_0f7a4 11 = .ok (.ldc_w 266, 3) := by decide +kernel
theorem dJ6_bitCount_0f7a4_14 : decode cJ6_bitCount_0f7a4 14 = .ok (.iand, 1) := by decide +kernel
theorem dJ6_bitCount_0f7a4_15 : decode cJ6_bitCount_0f7a4 15 = .ok (.iload_n 0, 1) := by decide +kernel
theorem dJ6_bitCount_0f7a4_16 : decode cJ6_bitCount_0f7a4 16 = .ok (.iconst 2, 1) := by decide +kernel
theorem dJ6_bitCount_0f7a4_17 : decode cJ6_bitCount_0f7a4 17 = .ok (.iushr, 1) := by decide +kernel
theorem dJ6_bitCount_0f7a4_18 : decode cJ6_bitCount_0f7a4 18 = .ok (.ldc_w 266, 3) := by decide +kernel
theorem dJ6_bitCount_0f7a4_21 : decode cJ6_bitCount_0f7a4 21 = .ok (.iand, 1) := by decide +kernel
theorem dJ6_bitCount_0f7a4_22 : decode cJ6_bitCount_0f7a4 22 = .ok (.iadd, 1) := by decide +kernel
theorem dJ6_bitCount_0f7a4_23 : decode cJ6_bitCount_0f7a4 23 = .ok (.istore_n 0, 1) := by decide +kernel
theorem dJ6_bitCount_0f7a4_24 : decode cJ6_bitCount_0f7a4 24 = .ok (.iload_n 0, 1) := by decide +kernel
theorem dJ6_bitCount_0f7a4_25 : decode cJ6_bitCount_0f7a4 25 = .ok (.iload_n 0, 1) := by decide +kernel
theorem dJ6_bitCount_0f7a4_26 : decode cJ6_bitCount_0f7a4 26 = .ok (.iconst 4, 1) := by decide +kernel
theorem dJ6_bitCount_0f7a4_27 : decode cJ6_bitCount_0f7a4 27 = .ok (.iushr, 1) := by decide +kernel
theorem dJ6_bitCount_0f7a4_28 : decode cJ6_bitCount_0f7a4 28 = .ok (.iadd, 1) := by decide +kernel
theorem dJ6_bitCount_0f7a4_29 : decode cJ6_bitCount_0f7a4 29 = .ok (.ldc_w 267, 3) := by decide +kernel
theorem dJ6_bitCount_0f7a4_32 : decode cJ6_bitCount_0f7a4 32 = .ok (.iand, 1) := by decide +kernel
theorem dJ6_bitCount_0f7a4_33 : decode cJ6_bitCount_0f7a4 33 = .ok (.istore_n 0, 1) := by decide +kernel
theorem dJ6_bitCount_0f7a4_34 : decode cJ6_bitCount_0f7a4 34 = .ok (.iload_n 0, 1) := by decide +kernel
theorem dJ6_bitCount_0f7a4_35 : decode cJ6_bitCount_0f7a4 35 = .ok (.iload_n 0, 1) := by decide +kernel
theorem dJ6_bitCount_0f7a4_36 : decode cJ6_bitCount_0f7a4 36 = .ok (.bipush 8, 2) := by decide +kernel
theorem dJ6_bitCount_0f7a4_38 : decode cJ6_bitCount_0f7a4 38 = .ok (.iushr, 1) := by decide +kernel
theorem dJ6_bitCount_0f7a4_39 : decode cJ6_bitCount_0f7a4 39 = .ok (.iadd, 1) := by decide +kernel
theorem dJ6_bitCount_0f7a4_40 : decode cJ6_bitCount_0f7a4 40 = .ok (.istore_n 0, 1) := by decide +kernel
theorem dJ6_bitCount_0f7a4_41 : decode cJ6_bitCount_0f7a4 41 = .ok (.iload_n 0, 1) := by decide +kernel
theorem dJ6_bitCount_0f7a4_42 : decode cJ6_bitCount_0f7a4 42 = .ok (.iload_n 0, 1) := by decide +kernel
theorem dJ6_bitCount_0f7a4_43 : decode cJ6_bitCount_0f7a4 43 = .ok (.bipush 16, 2) := by decide +kernel
theorem dJ6_bitCount_0f7a4_45 : decode cJ6_bitCount_0f7a4 45 = .ok (.iushr, 1) := by decide +kernel
theorem dJ6_bitCount_0f7a4_46 : decode cJ6_bitCount_0f7a4 46 = .ok (.iadd, 1) := by decide +kernel
theorem dJ6_bitCount_0f7a4_47 : decode cJ6_bitCount_0f7a4 47 = .ok (.istore_n 0, 1) := by decide +kernel
theorem dJ6_bitCount_0f7a4_48 : decode cJ6_bitCount_0f7a4 48 = .ok (.iload_n 0, 1) := by decide +kernel
theorem dJ6_bitCount_0f7a4_49 : decode cJ6_bitCount_0f7a4 49 = .ok (.bipush 63, 2) := by decide +kernel
theorem dJ6_bitCount_0f7a4_51 : decode cJ6_bitCount_0f7a4 51 = .ok (.iand, 1) := by decide +kernel
theorem dJ6_bitCount_0f7a4_52 : decode cJ6_bitCount_0f7a4 52 = .ok (.ireturn, 1) := by decide +kernel
theorem dJ9_abs_0f7a4_0 : decode cJ9_abs_0f7a4 0 = .ok (.iload_n 0, 1) := by decide +kernel
theorem dJ9_abs_0f7a4_1 : decode cJ9_abs_0f7a4 1 = .ok (.ifCond .ge 8, 3) := by decide +kernel
theorem dJ9_abs_0f7a4_4 : decode cJ9_abs_0f7a4 4 = .ok (.iload_n 0, 1) := by decide +kernel
theorem dJ9_abs_0f7a4_5 : decode cJ9_abs_0f7a4 5 = .ok (.ineg, 1) := by decide +kernel
theorem dJ9_abs_0f7a4_6 : decode cJ9_abs_0f7a4 6 = .ok (.goto 4, 3) := by decide +kernel
theorem dJ9_abs_0f7a4_9 : decode cJ9_abs_0f7a4 9 = .ok (.iload_n 0, 1) := by decide +kernel
theorem dJ9_abs_0f7a4_10 : decode cJ9_abs_0f7a4 10 = .ok (.ireturn, 1) := by decide +kernel
theorem dJ9_max_7cf53_0 : decode cJ9_max_7cf53 0 = .ok (.iload_n 0, 1) := by decide +kernel
theorem dJ9_max_7cf53_1 : decode cJ9_max_7cf53 1 = .ok (.iload_n 1, 1) := by decide +kernel
theorem dJ9_max_7cf53_2 : decode cJ9_max_7cf53 2 = .ok (.if_icmp .lt 7, 3) := by decide +kernel
theorem dJ9_max_7cf53_5 : decode cJ9_max_7cf53 5 = .ok (.iload_n 0, 1) := by decide +kernel
theorem dJ9_max_7cf53_6 : decode cJ9_max_7cf53 6 = .ok (.goto 4, 3) := by decide +kernel
theorem dJ9_max_7cf53_9 : decode cJ9_max_7cf53 9 = .ok (.iload_n 1, 1) := by decide +kernel
theorem dJ9_max_7cf53_10 : decode cJ9_max_7cf53 10 = .ok (.ireturn, 1) := by decide +kernel
theorem dL_reset_0 : decode cL_reset 0 = .ok (.aload_n 2, 1) := by decide +kernel
theorem dL_reset_1 : decode cL_reset 1 = .ok (.iconst 0, 1) := by decide +kernel
theorem dL_reset_2 : decode cL_reset 2 = .ok (.aload_n 0, 1) := by decide +kernel
theorem dL_reset_3 : decode cL_reset 3 = .ok (.iload_n 1, 1) := by decide +kernel
theorem dL_reset_4 : decode cL_reset 4 = .ok (.invokevirtual 7, 3) := by decide +kernel
theorem dL_reset_7 : decode cL_reset 7 = .ok (.i2l, 1) := by decide +kernel
theorem dL_reset_8 : decode cL_reset 8 = .ok (.lastore, 1) := by decide +kernel
theorem dL_reset_9 : decode cL_reset 9 = .ok (.goto 6, 3) := by decide +kernel
theorem dL_reset_12 : decode cL_reset 12 = .ok (.astore_n 3, 1) := by decide +kernel
theorem dL_reset_13 : decode cL_reset 13 = .ok (.iconst 1, 1) := by decide +kernel
theorem dL_reset_14 : decode cL_reset 14 = .ok (.ireturn, 1) := by decide +kernel
theorem dL_reset_15 : decode cL_reset 15 = .ok (.iconst 0, 1) := by decide +kernel
theorem dL_reset_16 : decode cL_reset 16 = .ok (.ireturn, 1) := by decide +kernel
theorem dL_append_0 : decode cL_append 0 = .ok (.aload_n 2, 1) := by decide +kernel
theorem dL_append_1 : decode cL_append 1 = .ok (.iconst 0, 1) := by decide +kernel
theorem dL_append_2 : decode cL_append 2 = .ok (.aload_n 0, 1) := by decide +kernel
theorem dL_append_3 : decode cL_append 3 = .ok (.iload_n 1, 1) := by decide +kernel
theorem dL_append_4 : decode cL_append 4 = .ok (.invokevirtual 15, 3) := by decide +kernel
theorem dL_append_7 : decode cL_append 7 = .ok (.i2l, 1) := by decide +kernel
theorem dL_append_8 : decode cL_append 8 = .ok (.lastore, 1) := by decide +kernel
theorem dL_append_9 : decode cL_append 9 = .ok (.goto 9, 3) := by decide +kernel
theorem dL_append_12 : decode cL_append 12 = .ok (.astore_n 3, 1) := by decide +kernel
theorem dL_append_13 : decode cL_append 13 = .ok (.iconst 1, 1) := by decide +kernel
theorem dL_append_14 : decode cL_append 14 = .ok (.ireturn, 1) := by decide +kernel
theorem dL_append_15 : decode cL_append 15 = .ok (.astore_n 3, 1) := by decide +kernel
theorem dL_append_16 : decode cL_append 16 = .ok (.iconst 2, 1) := by decide +kernel
theorem dL_append_17 : decode cL_append 17 = .ok (.ireturn, 1) := by decide +kernel
theorem dL_append_18 : decode cL_append 18 = .ok (.iconst 0, 1) := by decide +kernel
theorem dL_append_19 : decode cL_append 19 = .ok (.ireturn, 1) := by decide +kernel
theorem dL_define_0 : decode cL_define 0 = .ok (.aload_n 2, 1) := by decide +kernel
theorem dL_define_1 : decode cL_define 1 = .ok (.iconst 0, 1) := by decide +kernel
theorem dL_define_2 : decode cL_define 2 = .ok (.aload_n 0, 1) := by decide +kernel
theorem dL_define_3 : decode cL_define 3 = .ok (.iload_n 1, 1) := by decide +kernel
theorem dL_define_4 : decode cL_define 4 = .ok (.invokevirtual 21, 3) := by decide +kernel
theorem dL_define_7 : decode cL_define 7 = .ok (.i2l, 1) := by decide +kernel
theorem dL_define_8 : decode cL_define 8 = .ok (.lastore, 1) := by decide +kernel
theorem dL_define_9 : decode cL_define 9 = .ok (.goto 9, 3) := by decide +kernel
theorem dL_define_12 : decode cL_define 12 = .ok (.astore_n 3, 1) := by decide +kernel
theorem dL_define_13 : decode cL_define 13 = .ok (.iconst 1, 1) := by decide +kernel
theorem dL_define_14 : decode cL_define 14 = .ok (.ireturn, 1) := by decide +kernel
theorem dL_define_15 : decode cL_define 15 = .ok (.astore_n 3, 1) := by decide +kernel
theorem dL_define_16 : decode cL_define 16 = .ok (.iconst 2, 1) := by decide +kernel
theorem dL_define_17 : decode cL_define 17 = .ok (.ireturn, 1) := by decide +kernel
theorem dL_define_18 : decode cL_define 18 = .ok (.iconst 0, 1) := by decide +kernel
theorem dL_define_19 : decode cL_define 19 = .ok (.ireturn, 1) := by decide +kernel
theorem dL_store_0 : decode cL_store 0 = .ok (.aload_n 2, 1) := by decide +kernel
theorem dL_store_1 : decode cL_store 1 = .ok (.iconst 0, 1) := by decide +kernel
theorem dL_store_2 : decode cL_store 2 = .ok (.aload_n 0, 1) := by decide +kernel
theorem dL_store_3 : decode cL_store 3 = .ok (.iload_n 1, 1) := by decide +kernel
theorem dL_store_4 : decode cL_store 4 = .ok (.invokevirtual 26, 3) := by decide +kernel
theorem dL_store_7 : decode cL_store 7 = .ok (.i2l, 1) := by decide +kernel
theorem dL_store_8 : decode cL_store 8 = .ok (.lastore, 1) := by decide +kernel
theorem dL_store_9 : decode cL_store 9 = .ok (.goto 15, 3) := by decide +kernel
theorem dL_store_12 : decode cL_store 12 = .ok (.astore_n 3, 1) := by decide +kernel
theorem dL_store_13 : decode cL_store 13 = .ok (.iconst 1, 1) := by decide +kernel
theorem dL_store_14 : decode cL_store 14 = .ok (.ireturn, 1) := by decide +kernel
theorem dL_store_15 : decode cL_store 15 = .ok (.astore_n 3, 1) := by decide +kernel
theorem dL_store_16 : decode cL_store 16 = .ok (.iconst 2, 1) := by decide +kernel
theorem dL_store_17 : decode cL_store 17 = .ok (.ireturn, 1) := by decide +kernel
theorem dL_store_18 : decode cL_store 18 = .ok (.astore_n 3, 1) := by decide +kernel
theorem dL_store_19 : decode cL_store 19 = .ok (.iconst 3, 1) := by decide +kernel
theorem dL_store_20 : decode cL_store 20 = .ok (.ireturn, 1) := by decide +kernel
theorem dL_store_21 : decode cL_store 21 = .ok (.astore_n 3, 1) := by decide +kernel
theorem dL_store_22 : decode cL_store 22 = .ok (.iconst 4, 1) := by decide +kernel
theorem dL_store_23 : decode cL_store 23 = .ok (.ireturn, 1) := by decide +kernel
theorem dL_store_24 : decode cL_store 24 = .ok (.iconst 0, 1) := by decide +kernel
theorem dL_store_25 : decode cL_store 25 = .ok (.ireturn, 1) := by decide +kernel
theorem dL_errorPosition_0 : decode cL_errorPosition 0 = .ok (.aload_n 1, 1) := by decide +kernel
theorem dL_errorPosition_1 : decode cL_errorPosition 1 = .ok (.iconst 0, 1) := by decide +kernel
theorem dL_errorPosition_2 : decode cL_errorPosition 2 = .ok (.aload_n 0, 1) := by decide +kernel
theorem dL_errorPosition_3 : decode cL_errorPosition 3 = .ok (.invokevirtual 31, 3) := by decide +kernel
theorem dL_errorPosition_6 : decode cL_errorPosition 6 = .ok (.i2l, 1) := by decide +kernel
theorem dL_errorPosition_7 : decode cL_errorPosition 7 = .ok (.lastore, 1) := by decide +kernel
theorem dL_errorPosition_8 : decode cL_errorPosition 8 = .ok (.goto 6, 3) := by decide +kernel
theorem dL_errorPosition_11 : decode cL_errorPosition 11 = .ok (.astore_n 2, 1) := by decide +kernel
theorem dL_errorPosition_12 : decode cL_errorPosition 12 = .ok (.iconst 1, 1) := by decide +kernel
theorem dL_errorPosition_13 : decode cL_errorPosition 13 = .ok (.ireturn, 1) := by decide +kernel
theorem dL_errorPosition_14 : decode cL_errorPosition 14 = .ok (.iconst 0, 1) := by decide +kernel
theorem dL_errorPosition_15 : decode cL_errorPosition 15 = .ok (.ireturn, 1) := by decide +kernel
theorem dL_target_0 : decode cL_target 0 = .ok (.aload_n 3, 1) := by decide +kernel
theorem dL_target_1 : decode cL_target 1 = .ok (.iconst 0, 1) := by decide +kernel
theorem dL_target_2 : decode cL_target 2 = .ok (.aload_n 0, 1) := by decide +kernel
theorem dL_target_3 : decode cL_target 3 = .ok (.iload_n 1, 1) := by decide +kernel
theorem dL_target_4 : decode cL_target 4 = .ok (.iload_n 2, 1) := by decide +kernel
theorem dL_target_5 : decode cL_target 5 = .ok (.invokevirtual 37, 3) := by decide +kernel
theorem dL_target_8 : decode cL_target 8 = .ok (.i2l, 1) := by decide +kernel
theorem dL_target_9 : decode cL_target 9 = .ok (.lastore, 1) := by decide +kernel
theorem dL_target_10 : decode cL_target 10 = .ok (.goto 11, 3) := by decide +kernel
theorem dL_target_13 : decode cL_target 13 = .ok (.astore 4, 2) := by decide +kernel
theorem dL_target_15 : decode cL_target 15 = .ok (.iconst 1, 1) := by decide +kernel
theorem dL_target_16 : decode cL_target 16 = .ok (.ireturn, 1) := by decide +kernel
theorem dL_target_17 : decode cL_target 17 = .ok (.astore 4, 2) := by decide +kernel
theorem dL_target_19 : decode cL_target 19 = .ok (.iconst 2, 1) := by decide +kernel
theorem dL_target_20 : decode cL_target 20 = .ok (.ireturn, 1) := by decide +kernel
theorem dL_target_21 : decode cL_target 21 = .ok (.iconst 0, 1) := by decide +kernel
theorem dL_target_22 : decode cL_target 22 = .ok (.ireturn, 1) := by decide +kernel
theorem dL_wordLength_0 : decode cL_wordLength 0 = .ok (.aload_n 2, 1) := by decide +kernel
theorem dL_wordLength_1 : decode cL_wordLength 1 = .ok (.iconst 0, 1) := by decide +kernel
theorem dL_wordLength_2 : decode cL_wordLength 2 = .ok (.aload_n 0, 1) := by decide +kernel
theorem dL_wordLength_3 : decode cL_wordLength 3 = .ok (.iload_n 1, 1) := by decide +kernel
theorem dL_wordLength_4 : decode cL_wordLength 4 = .ok (.invokevirtual 41, 3) := by decide +kernel
theorem dL_wordLength_7 : decode cL_wordLength 7 = .ok (.i2l, 1) := by decide +kernel
theorem dL_wordLength_8 : decode cL_wordLength 8 = .ok (.lastore, 1) := by decide +kernel
theorem dL_wordLength_9 : decode cL_wordLength 9 = .ok (.goto 6, 3) := by decide +kernel
theorem dL_wordLength_12 : decode cL_wordLength 12 = .ok (.astore_n 3, 1) := by decide +kernel
theorem dL_wordLength_13 : decode cL_wordLength 13 = .ok (.iconst 1, 1) := by decide +kernel
theorem dL_wordLength_14 : decode cL_wordLength 14 = .ok (.ireturn, 1) := by decide +kernel
theorem dL_wordLength_15 : decode cL_wordLength 15 = .ok (.iconst 0, 1) := by decide +kernel
theorem dL_wordLength_16 : decode cL_wordLength 16 = .ok (.ireturn, 1) := by decide +kernel
theorem dL_letter_0 : decode cL_letter 0 = .ok (.aload_n 3, 1) := by decide +kernel
theorem dL_letter_1 : decode cL_letter 1 = .ok (.iconst 0, 1) := by decide +kernel
theorem dL_letter_2 : decode cL_letter 2 = .ok (.aload_n 0, 1) := by decide +kernel
theorem dL_letter_3 : decode cL_letter 3 = .ok (.iload_n 1, 1) := by decide +kernel
theorem dL_letter_4 : decode cL_letter 4 = .ok (.iload_n 2, 1) := by decide +kernel
theorem dL_letter_5 : decode cL_letter 5 = .ok (.invokevirtual 44, 3) := by decide +kernel
theorem dL_letter_8 : decode cL_letter 8 = .ok (.i2l, 1) := by decide +kernel
theorem dL_letter_9 : decode cL_letter 9 = .ok (.lastore, 1) := by decide +kernel
theorem dL_letter_10 : decode cL_letter 10 = .ok (.goto 7, 3) := by decide +kernel
theorem dL_letter_13 : decode cL_letter 13 = .ok (.astore 4, 2) := by decide +kernel
theorem dL_letter_15 : decode cL_letter 15 = .ok (.iconst 1, 1) := by decide +kernel
theorem dL_letter_16 : decode cL_letter 16 = .ok (.ireturn, 1) := by decide +kernel
theorem dL_letter_17 : decode cL_letter 17 = .ok (.iconst 0, 1) := by decide +kernel
theorem dL_letter_18 : decode cL_letter 18 = .ok (.ireturn, 1) := by decide +kernel
theorem dL_invert_0 : decode cL_invert 0 = .ok (.aload_n 3, 1) := by decide +kernel
theorem dL_invert_1 : decode cL_invert 1 = .ok (.iconst 0, 1) := by decide +kernel
theorem dL_invert_2 : decode cL_invert 2 = .ok (.aload_n 0, 1) := by decide +kernel
theorem dL_invert_3 : decode cL_invert 3 = .ok (.iload_n 1, 1) := by decide +kernel
theorem dL_invert_4 : decode cL_invert 4 = .ok (.iload_n 2, 1) := by decide +kernel
theorem dL_invert_5 : decode cL_invert 5 = .ok (.invokevirtual 47, 3) := by decide +kernel
theorem dL_invert_8 : decode cL_invert 8 = .ok (.i2l, 1) := by decide +kernel
theorem dL_invert_9 : decode cL_invert 9 = .ok (.lastore, 1) := by decide +kernel
theorem dL_invert_10 : decode cL_invert 10 = .ok (.goto 7, 3) := by decide +kernel
theorem dL_invert_13 : decode cL_invert 13 = .ok (.astore 4, 2) := by decide +kernel
theorem dL_invert_15 : decode cL_invert 15 = .ok (.iconst 1, 1) := by decide +kernel
theorem dL_invert_16 : decode cL_invert 16 = .ok (.ireturn, 1) := by decide +kernel
theorem dL_invert_17 : decode cL_invert 17 = .ok (.iconst 0, 1) := by decide +kernel
theorem dL_invert_18 : decode cL_invert 18 = .ok (.ireturn, 1) := by decide +kernel
theorem dL_conjugate_0 : decode cL_conjugate 0 = .ok (.aload 4, 2) := by decide +kernel
theorem dL_conjugate_2 : decode cL_conjugate 2 = .ok (.iconst 0, 1) := by decide +kernel
theorem dL_conjugate_3 : decode cL_conjugate 3 = .ok (.aload_n 0, 1) := by decide +kernel
theorem dL_conjugate_4 : decode cL_conjugate 4 = .ok (.iload_n 1, 1) := by decide +kernel
theorem dL_conjugate_5 : decode cL_conjugate 5 = .ok (.iload_n 2, 1) := by decide +kernel
theorem dL_conjugate_6 : decode cL_conjugate 6 = .ok (.iload_n 3, 1) := by decide +kernel
theorem dL_conjugate_7 : decode cL_conjugate 7 = .ok (.invokevirtual 50, 3) := by decide +kernel
theorem dL_conjugate_10 : decode cL_conjugate 10 = .ok (.i2l, 1) := by decide +kernel
theorem dL_conjugate_11 : decode cL_conjugate 11 = .ok (.lastore, 1) := by decide +kernel
theorem dL_conjugate_12 : decode cL_conjugate 12 = .ok (.goto 11, 3) := by decide +kernel
theorem dL_conjugate_15 : decode cL_conjugate 15 = .ok (.astore 5, 2) := by decide +kernel
theorem dL_conjugate_17 : decode cL_conjugate 17 = .ok (.iconst 1, 1) := by decide +kernel
theorem dL_conjugate_18 : decode cL_conjugate 18 = .ok (.ireturn, 1) := by decide +kernel
theorem dL_conjugate_19 : decode cL_conjugate 19 = .ok (.astore 5, 2) := by decide +kernel
theorem dL_conjugate_21 : decode cL_conjugate 21 = .ok (.iconst 2, 1) := by decide +kernel
theorem dL_conjugate_22 : decode cL_conjugate 22 = .ok (.ireturn, 1) := by decide +kernel
theorem dL_conjugate_23 : decode cL_conjugate 23 = .ok (.iconst 0, 1) := by decide +kernel
theorem dL_conjugate_24 : decode cL_conjugate 24 = .ok (.ireturn, 1) := by decide +kernel
theorem dL_commutator_0 : decode cL_commutator 0 = .ok (.aload 4, 2) := by decide +kernel
theorem dL_commutator_2 : decode cL_commutator 2 = .ok (.iconst 0, 1) := by decide +kernel
theorem dL_commutator_3 : decode cL_commutator 3 = .ok (.aload_n 0, 1) := by decide +kernel
theorem dL_commutator_4 : decode cL_commutator 4 = .ok (.iload_n 1, 1) := by decide +kernel
theorem dL_commutator_5 : decode cL_commutator 5 = .ok (.iload_n 2, 1) := by decide +kernel
theorem dL_commutator_6 : decode cL_commutator 6 = .ok (.iload_n 3, 1) := by decide +kernel
theorem dL_commutator_7 : decode cL_commutator 7 = .ok (.invokevirtual 54, 3) := by decide +kernel
theorem dL_commutator_10 : decode cL_commutator 10 = .ok (.i2l, 1) := by decide +kernel
theorem dL_commutator_11 : decode cL_commutator 11 = .ok (.lastore, 1) := by decide +kernel
theorem dL_commutator_12 : decode cL_commutator 12 = .ok (.goto 11, 3) := by decide +kernel
theorem dL_commutator_15 : decode cL_commutator 15 = .ok (.astore 5, 2) := by decide +kernel
theorem dL_commutator_17 : decode cL_commutator 17 = .ok (.iconst 1, 1) := by decide +kernel
theorem dL_commutator_18 : decode cL_commutator 18 = .ok (.ireturn, 1) := by decide +kernel
theorem dL_commutator_19 : decode cL_commutator 19 = .ok (.astore 5, 2) := by decide +kernel
theorem dL_commutator_21 : decode cL_commutator 21 = .ok (.iconst 2, 1) := by decide +kernel
theorem dL_commutator_22 : decode cL_commutator 22 = .ok (.ireturn, 1) := by decide +kernel
theorem dL_commutator_23 : decode cL_commutator 23 = .ok (.iconst 0, 1) := by decide +kernel
theorem dL_commutator_24 : decode cL_commutator 24 = .ok (.ireturn, 1) := by decide +kernel
theorem dL_order_0 : decode cL_order 0 = .ok (.aload_n 2, 1) := by decide +kernel
theorem dL_order_1 : decode cL_order 1 = .ok (.iconst 0, 1) := by decide +kernel
theorem dL_order_2 : decode cL_order 2 = .ok (.aload_n 0, 1) := by decide +kernel
theorem dL_order_3 : decode cL_order 3 = .ok (.iload_n 1, 1) := by decide +kernel
theorem dL_order_4 : decode cL_order 4 = .ok (.invokevirtual 57, 3) := by decide +kernel
theorem dL_order_7 : decode cL_order 7 = .ok (.i2l, 1) := by decide +kernel
theorem dL_order_8 : decode cL_order 8 = .ok (.lastore, 1) := by decide +kernel
theorem dL_order_9 : decode cL_order 9 = .ok (.goto 6, 3) := by decide +kernel
theorem dL_order_12 : decode cL_order 12 = .ok (.astore_n 3, 1) := by decide +kernel
theorem dL_order_13 : decode cL_order 13 = .ok (.iconst 1, 1) := by decide +kernel
theorem dL_order_14 : decode cL_order 14 = .ok (.ireturn, 1) := by decide +kernel
theorem dL_order_15 : decode cL_order 15 = .ok (.iconst 0, 1) := by decide +kernel
theorem dL_order_16 : decode cL_order 16 = .ok (.ireturn, 1) := by decide +kernel
theorem dL_isOdd_0 : decode cL_isOdd 0 = .ok (.aload_n 2, 1) := by decide +kernel
theorem dL_isOdd_1 : decode cL_isOdd 1 = .ok (.iconst 0, 1) := by decide +kernel
theorem dL_isOdd_2 : decode cL_isOdd 2 = .ok (.aload_n 0, 1) := by decide +kernel
theorem dL_isOdd_3 : decode cL_isOdd 3 = .ok (.iload_n 1, 1) := by decide +kernel
theorem dL_isOdd_4 : decode cL_isOdd 4 = .ok (.invokevirtual 60, 3) := by decide +kernel
theorem dL_isOdd_7 : decode cL_isOdd 7 = .ok (.ifCond .eq 7, 3) := by decide +kernel
theorem dL_isOdd_10 : decode cL_isOdd 10 = .ok (.lconst 1, 1) := by decide +kernel
theorem dL_isOdd_11 : decode cL_isOdd 11 = .ok (.goto 4, 3) := by decide +kernel
theorem dL_isOdd_14 : decode cL_isOdd 14 = .ok (.lconst 0, 1) := by decide +kernel
theorem dL_isOdd_15 : decode cL_isOdd 15 = .ok (.lastore, 1) := by decide +kernel
theorem dL_isOdd_16 : decode cL_isOdd 16 = .ok (.goto 6, 3) := by decide +kernel
theorem dL_isOdd_19 : decode cL_isOdd 19 = .ok (.astore_n 3, 1) := by decide +kernel
theorem dL_isOdd_20 : decode cL_isOdd 20 = .ok (.iconst 1, 1) := by decide +kernel
theorem dL_isOdd_21 : decode cL_isOdd 21 = .ok (.ireturn, 1) := by decide +kernel
theorem dL_isOdd_22 : decode cL_isOdd 22 = .ok (.iconst 0, 1) := by decide +kernel
theorem dL_isOdd_23 : decode cL_isOdd 23 = .ok (.ireturn, 1) := by decide +kernel
theorem dL_cycleLength_0 : decode cL_cycleLength 0 = .ok (.aload_n 3, 1) := by decide +kernel
theorem dL_cycleLength_1 : decode cL_cycleLength 1 = .ok (.iconst 0, 1) := by decide +kernel
theorem dL_cycleLength_2 : decode cL_cycleLength 2 = .ok (.aload_n 0, 1) := by decide +kernel
theorem dL_cycleLength_3 : decode cL_cycleLength 3 = .ok (.iload_n 1, 1) := by decide +kernel
theorem dL_cycleLength_4 : decode cL_cycleLength 4 = .ok (.iload_n 2, 1) := by decide +kernel
theorem dL_cycleLength_5 : decode cL_cycleLength 5 = .ok (.invokevirtual 64, 3) := by decide +kernel
theorem dL_cycleLength_8 : decode cL_cycleLength 8 = .ok (.i2l, 1) := by decide +kernel
theorem dL_cycleLength_9 : decode cL_cycleLength 9 = .ok (.lastore, 1) := by decide +kernel
theorem dL_cycleLength_10 : decode cL_cycleLength 10 = .ok (.goto 7, 3) := by decide +kernel
theorem dL_cycleLength_13 : decode cL_cycleLength 13 = .ok (.astore 4, 2) := by decide +kernel
theorem dL_cycleLength_15 : decode cL_cycleLength 15 = .ok (.iconst 1, 1) := by decide +kernel
theorem dL_cycleLength_16 : decode cL_cycleLength 16 = .ok (.ireturn, 1) := by decide +kernel
theorem dL_cycleLength_17 : decode cL_cycleLength 17 = .ok (.iconst 0, 1) := by decide +kernel
theorem dL_cycleLength_18 : decode cL_cycleLength 18 = .ok (.ireturn, 1) := by decide +kernel
theorem dL_isSame_0 : decode cL_isSame 0 = .ok (.aload_n 3, 1) := by decide +kernel
theorem dL_isSame_1 : decode cL_isSame 1 = .ok (.iconst 0, 1) := by decide +kernel
theorem dL_isSame_2 : decode cL_isSame 2 = .ok (.aload_n 0, 1) := by decide +kernel
theorem dL_isSame_3 : decode cL_isSame 3 = .ok (.iload_n 1, 1) := by decide +kernel
theorem dL_isSame_4 : decode cL_isSame 4 = .ok (.iload_n 2, 1) := by decide +kernel
theorem dL_isSame_5 : decode cL_isSame 5 = .ok (.invokevirtual 67, 3) := by decide +kernel
theorem dL_isSame_8 : decode cL_isSame 8 = .ok (.ifCond .eq 7, 3) := by decide +kernel
theorem dL_isSame_11 : decode cL_isSame 11 = .ok (.lconst 1, 1) := by decide +kernel
theorem dL_isSame_12 : decode cL_isSame 12 = .ok (.goto 4, 3) := by decide +kernel
theorem dL_isSame_15 : decode cL_isSame 15 = .ok (.lconst 0, 1) := by decide +kernel
theorem dL_isSame_16 : decode cL_isSame 16 = .ok (.lastore, 1) := by decide +kernel
theorem dL_isSame_17 : decode cL_isSame 17 = .ok (.goto 7, 3) := by decide +kernel
theorem dL_isSame_20 : decode cL_isSame 20 = .ok (.astore 4, 2) := by decide +kernel
theorem dL_isSame_22 : decode cL_isSame 22 = .ok (.iconst 1, 1) := by decide +kernel
theorem dL_isSame_23 : decode cL_isSame 23 = .ok (.ireturn, 1) := by decide +kernel
theorem dL_isSame_24 : decode cL_isSame 24 = .ok (.iconst 0, 1) := by decide +kernel
theorem dL_isSame_25 : decode cL_isSame 25 = .ok (.ireturn, 1) := by decide +kernel
theorem dL_perform_0 : decode cL_perform 0 = .ok (.aload_n 3, 1) := by decide +kernel
theorem dL_perform_1 : decode cL_perform 1 = .ok (.iconst 0, 1) := by decide +kernel
theorem dL_perform_2 : decode cL_perform 2 = .ok (.aload_n 0, 1) := by decide +kernel
theorem dL_perform_3 : decode cL_perform 3 = .ok (.iload_n 1, 1) := by decide +kernel
theorem dL_perform_4 : decode cL_perform 4 = .ok (.iload_n 2, 1) := by decide +kernel
theorem dL_perform_5 : decode cL_perform 5 = .ok (.invokevirtual 71, 3) := by decide +kernel
theorem dL_perform_8 : decode cL_perform 8 = .ok (.i2l, 1) := by decide +kernel
theorem dL_perform_9 : decode cL_perform 9 = .ok (.lastore, 1) := by decide +kernel
theorem dL_perform_10 : decode cL_perform 10 = .ok (.goto 11, 3) := by decide +kernel
theorem dL_perform_13 : decode cL_perform 13 = .ok (.astore 4, 2) := by decide +kernel
theorem dL_perform_15 : decode cL_perform 15 = .ok (.iconst 1, 1) := by decide +kernel
theorem dL_perform_16 : decode cL_perform 16 = .ok (.ireturn, 1) := by decide +kernel
theorem dL_perform_17 : decode cL_perform 17 = .ok (.astore 4, 2) := by decide +kernel
theorem dL_perform_19 : decode cL_perform 19 = .ok (.iconst 2, 1) := by decide +kernel
theorem dL_perform_20 : decode cL_perform 20 = .ok (.ireturn, 1) := by decide +kernel
theorem dL_perform_21 : decode cL_perform 21 = .ok (.iconst 0, 1) := by decide +kernel
theorem dL_perform_22 : decode cL_perform 22 = .ok (.ireturn, 1) := by decide +kernel
theorem dL_exchange_0 : decode cL_exchange 0 = .ok (.aload_n 3, 1) := by decide +kernel
theorem dL_exchange_1 : decode cL_exchange 1 = .ok (.iconst 0, 1) := by decide +kernel
theorem dL_exchange_2 : decode cL_exchange 2 = .ok (.aload_n 0, 1) := by decide +kernel
theorem dL_exchange_3 : decode cL_exchange 3 = .ok (.iload_n 1, 1) := by decide +kernel
theorem dL_exchange_4 : decode cL_exchange 4 = .ok (.iload_n 2, 1) := by decide +kernel
theorem dL_exchange_5 : decode cL_exchange 5 = .ok (.invokevirtual 74, 3) := by decide +kernel
theorem dL_exchange_8 : decode cL_exchange 8 = .ok (.i2l, 1) := by decide +kernel
theorem dL_exchange_9 : decode cL_exchange 9 = .ok (.lastore, 1) := by decide +kernel
theorem dL_exchange_10 : decode cL_exchange 10 = .ok (.goto 7, 3) := by decide +kernel
theorem dL_exchange_13 : decode cL_exchange 13 = .ok (.astore 4, 2) := by decide +kernel
theorem dL_exchange_15 : decode cL_exchange 15 = .ok (.iconst 1, 1) := by decide +kernel
theorem dL_exchange_16 : decode cL_exchange 16 = .ok (.ireturn, 1) := by decide +kernel
theorem dL_exchange_17 : decode cL_exchange 17 = .ok (.iconst 0, 1) := by decide +kernel
theorem dL_exchange_18 : decode cL_exchange 18 = .ok (.ireturn, 1) := by decide +kernel
theorem dL_token_0 : decode cL_token 0 = .ok (.aload_n 2, 1) := by decide +kernel
theorem dL_token_1 : decode cL_token 1 = .ok (.iconst 0, 1) := by decide +kernel
theorem dL_token_2 : decode cL_token 2 = .ok (.aload_n 0, 1) := by decide +kernel
theorem dL_token_3 : decode cL_token 3 = .ok (.iload_n 1, 1) := by decide +kernel
theorem dL_token_4 : decode cL_token 4 = .ok (.invokevirtual 77, 3) := by decide +kernel
theorem dL_token_7 : decode cL_token 7 = .ok (.i2l, 1) := by decide +kernel
theorem dL_token_8 : decode cL_token 8 = .ok (.lastore, 1) := by decide +kernel
theorem dL_token_9 : decode cL_token 9 = .ok (.goto 6, 3) := by decide +kernel
theorem dL_token_12 : decode cL_token 12 = .ok (.astore_n 3, 1) := by decide +kernel
theorem dL_token_13 : decode cL_token 13 = .ok (.iconst 1, 1) := by decide +kernel
theorem dL_token_14 : decode cL_token 14 = .ok (.ireturn, 1) := by decide +kernel
theorem dL_token_15 : decode cL_token 15 = .ok (.iconst 0, 1) := by decide +kernel
theorem dL_token_16 : decode cL_token 16 = .ok (.ireturn, 1) := by decide +kernel
theorem dL_depth_0 : decode cL_depth 0 = .ok (.aload_n 1, 1) := by decide +kernel
theorem dL_depth_1 : decode cL_depth 1 = .ok (.iconst 0, 1) := by decide +kernel
theorem dL_depth_2 : decode cL_depth 2 = .ok (.aload_n 0, 1) := by decide +kernel
theorem dL_depth_3 : decode cL_depth 3 = .ok (.invokevirtual 80, 3) := by decide +kernel
theorem dL_depth_6 : decode cL_depth 6 = .ok (.i2l, 1) := by decide +kernel
theorem dL_depth_7 : decode cL_depth 7 = .ok (.lastore, 1) := by decide +kernel
theorem dL_depth_8 : decode cL_depth 8 = .ok (.goto 6, 3) := by decide +kernel
theorem dL_depth_11 : decode cL_depth 11 = .ok (.astore_n 2, 1) := by decide +kernel
theorem dL_depth_12 : decode cL_depth 12 = .ok (.iconst 1, 1) := by decide +kernel
theorem dL_depth_13 : decode cL_depth 13 = .ok (.ireturn, 1) := by decide +kernel
theorem dL_depth_14 : decode cL_depth 14 = .ok (.iconst 0, 1) := by decide +kernel
theorem dL_depth_15 : decode cL_depth 15 = .ok (.ireturn, 1) := by decide +kernel
theorem dL_solve_0 : decode cL_solve 0 = .ok (.aload_n 2, 1) := by decide +kernel
theorem dL_solve_1 : decode cL_solve 1 = .ok (.iconst 0, 1) := by decide +kernel
theorem dL_solve_2 : decode cL_solve 2 = .ok (.aload_n 0, 1) := by decide +kernel
theorem dL_solve_3 : decode cL_solve 3 = .ok (.iload_n 1, 1) := by decide +kernel
theorem dL_solve_4 : decode cL_solve 4 = .ok (.invokevirtual 83, 3) := by decide +kernel
theorem dL_solve_7 : decode cL_solve 7 = .ok (.i2l, 1) := by decide +kernel
theorem dL_solve_8 : decode cL_solve 8 = .ok (.lastore, 1) := by decide +kernel
theorem dL_solve_9 : decode cL_solve 9 = .ok (.goto 9, 3) := by decide +kernel
theorem dL_solve_12 : decode cL_solve 12 = .ok (.astore_n 3, 1) := by decide +kernel
theorem dL_solve_13 : decode cL_solve 13 = .ok (.iconst 1, 1) := by decide +kernel
theorem dL_solve_14 : decode cL_solve 14 = .ok (.ireturn, 1) := by decide +kernel
theorem dL_solve_15 : decode cL_solve 15 = .ok (.astore_n 3, 1) := by decide +kernel
theorem dL_solve_16 : decode cL_solve 16 = .ok (.iconst 2, 1) := by decide +kernel
theorem dL_solve_17 : decode cL_solve 17 = .ok (.ireturn, 1) := by decide +kernel
theorem dL_solve_18 : decode cL_solve 18 = .ok (.iconst 0, 1) := by decide +kernel
theorem dL_solve_19 : decode cL_solve 19 = .ok (.ireturn, 1) := by decide +kernel
theorem dL_orbit_0 : decode cL_orbit 0 = .ok (.aload_n 2, 1) := by decide +kernel
theorem dL_orbit_1 : decode cL_orbit 1 = .ok (.iconst 0, 1) := by decide +kernel
theorem dL_orbit_2 : decode cL_orbit 2 = .ok (.aload_n 0, 1) := by decide +kernel
theorem dL_orbit_3 : decode cL_orbit 3 = .ok (.iload_n 1, 1) := by decide +kernel
theorem dL_orbit_4 : decode cL_orbit 4 = .ok (.invokevirtual 86, 3) := by decide +kernel
theorem dL_orbit_7 : decode cL_orbit 7 = .ok (.i2l, 1) := by decide +kernel
theorem dL_orbit_8 : decode cL_orbit 8 = .ok (.lastore, 1) := by decide +kernel
theorem dL_orbit_9 : decode cL_orbit 9 = .ok (.goto 6, 3) := by decide +kernel
theorem dL_orbit_12 : decode cL_orbit 12 = .ok (.astore_n 3, 1) := by decide +kernel
theorem dL_orbit_13 : decode cL_orbit 13 = .ok (.iconst 1, 1) := by decide +kernel
theorem dL_orbit_14 : decode cL_orbit 14 = .ok (.ireturn, 1) := by decide +kernel
theorem dL_orbit_15 : decode cL_orbit 15 = .ok (.iconst 0, 1) := by decide +kernel
theorem dL_orbit_16 : decode cL_orbit 16 = .ok (.ireturn, 1) := by decide +kernel
theorem dL_findCommutator_0 : decode cL_findCommutator 0 = .ok (.aload_n 3, 1) := by decide +kernel
theorem dL_findCommutator_1 : decode cL_findCommutator 1 = .ok (.iconst 0, 1) := by decide +kernel
theorem dL_findCommutator_2 : decode cL_findCommutator 2 = .ok (.aload_n 0, 1) := by decide +kernel
theorem dL_findCommutator_3 : decode cL_findCommutator 3 = .ok (.iload_n 1, 1) := by decide +kernel
theorem dL_findCommutator_4 : decode cL_findCommutator 4 = .ok (.iload_n 2, 1) := by decide +kernel
theorem dL_findCommutator_5 : decode cL_findCommutator 5 = .ok (.invokevirtual 89, 3) := by decide +kernel
theorem dL_findCommutator_8 : decode cL_findCommutator 8 = .ok (.i2l, 1) := by decide +kernel
theorem dL_findCommutator_9 : decode cL_findCommutator 9 = .ok (.lastore, 1) := by decide +kernel
theorem dL_findCommutator_10 : decode cL_findCommutator 10 = .ok (.goto 11, 3) := by decide +kernel
theorem dL_findCommutator_13 : decode cL_findCommutator 13 = .ok (.astore 4, 2) := by decide +kernel
theorem dL_findCommutator_15 : decode cL_findCommutator 15 = .ok (.iconst 1, 1) := by decide +kernel
theorem dL_findCommutator_16 : decode cL_findCommutator 16 = .ok (.ireturn, 1) := by decide +kernel
theorem dL_findCommutator_17 : decode cL_findCommutator 17 = .ok (.astore 4, 2) := by decide +kernel
theorem dL_findCommutator_19 : decode cL_findCommutator 19 = .ok (.iconst 2, 1) := by decide +kernel
theorem dL_findCommutator_20 : decode cL_findCommutator 20 = .ok (.ireturn, 1) := by decide +kernel
theorem dL_findCommutator_21 : decode cL_findCommutator 21 = .ok (.iconst 0, 1) := by decide +kernel
theorem dL_findCommutator_22 : decode cL_findCommutator 22 = .ok (.ireturn, 1) := by decide +kernel
theorem dL_fillShares_0 : decode cL_fillShares 0 = .ok (.aload_n 2, 1) := by decide +kernel
theorem dL_fillShares_1 : decode cL_fillShares 1 = .ok (.iconst 0, 1) := by decide +kernel
theorem dL_fillShares_2 : decode cL_fillShares 2 = .ok (.aload_n 0, 1) := by decide +kernel
theorem dL_fillShares_3 : decode cL_fillShares 3 = .ok (.iload_n 1, 1) := by decide +kernel
theorem dL_fillShares_4 : decode cL_fillShares 4 = .ok (.invokevirtual 92, 3) := by decide +kernel
theorem dL_fillShares_7 : decode cL_fillShares 7 = .ok (.i2l, 1) := by decide +kernel
theorem dL_fillShares_8 : decode cL_fillShares 8 = .ok (.lastore, 1) := by decide +kernel
theorem dL_fillShares_9 : decode cL_fillShares 9 = .ok (.goto 6, 3) := by decide +kernel
theorem dL_fillShares_12 : decode cL_fillShares 12 = .ok (.astore_n 3, 1) := by decide +kernel
theorem dL_fillShares_13 : decode cL_fillShares 13 = .ok (.iconst 1, 1) := by decide +kernel
theorem dL_fillShares_14 : decode cL_fillShares 14 = .ok (.ireturn, 1) := by decide +kernel
theorem dL_fillShares_15 : decode cL_fillShares 15 = .ok (.iconst 0, 1) := by decide +kernel
theorem dL_fillShares_16 : decode cL_fillShares 16 = .ok (.ireturn, 1) := by decide +kernel
theorem dL_scale_0 : decode cL_scale 0 = .ok (.aload 4, 2) := by decide +kernel
theorem dL_scale_2 : decode cL_scale 2 = .ok (.iconst 0, 1) := by decide +kernel
theorem dL_scale_3 : decode cL_scale 3 = .ok (.aload_n 0, 1) := by decide +kernel
theorem dL_scale_4 : decode cL_scale 4 = .ok (.iload_n 1, 1) := by decide +kernel
theorem dL_scale_5 : decode cL_scale 5 = .ok (.iload_n 2, 1) := by decide +kernel
theorem dL_scale_6 : decode cL_scale 6 = .ok (.iload_n 3, 1) := by decide +kernel
theorem dL_scale_7 : decode cL_scale 7 = .ok (.invokevirtual 95, 3) := by decide +kernel
theorem dL_scale_10 : decode cL_scale 10 = .ok (.i2l, 1) := by decide +kernel
theorem dL_scale_11 : decode cL_scale 11 = .ok (.lastore, 1) := by decide +kernel
theorem dL_scale_12 : decode cL_scale 12 = .ok (.goto 15, 3) := by decide +kernel
theorem dL_scale_15 : decode cL_scale 15 = .ok (.astore 5, 2) := by decide +kernel
theorem dL_scale_17 : decode cL_scale 17 = .ok (.iconst 1, 1) := by decide +kernel
theorem dL_scale_18 : decode cL_scale 18 = .ok (.ireturn, 1) := by decide +kernel
theorem dL_scale_19 : decode cL_scale 19 = .ok (.astore 5, 2) := by decide +kernel
theorem dL_scale_21 : decode cL_scale 21 = .ok (.iconst 2, 1) := by decide +kernel
theorem dL_scale_22 : decode cL_scale 22 = .ok (.ireturn, 1) := by decide +kernel
theorem dL_scale_23 : decode cL_scale 23 = .ok (.astore 5, 2) := by decide +kernel
theorem dL_scale_25 : decode cL_scale 25 = .ok (.iconst 3, 1) := by decide +kernel
theorem dL_scale_26 : decode cL_scale 26 = .ok (.ireturn, 1) := by decide +kernel
theorem dL_scale_27 : decode cL_scale 27 = .ok (.iconst 0, 1) := by decide +kernel
theorem dL_scale_28 : decode cL_scale 28 = .ok (.ireturn, 1) := by decide +kernel
theorem dL_remainder_0 : decode cL_remainder 0 = .ok (.aload 4, 2) := by decide +kernel
theorem dL_remainder_2 : decode cL_remainder 2 = .ok (.iconst 0, 1) := by decide +kernel
theorem dL_remainder_3 : decode cL_remainder 3 = .ok (.aload_n 0, 1) := by decide +kernel
theorem dL_remainder_4 : decode cL_remainder 4 = .ok (.iload_n 1, 1) := by decide +kernel
theorem dL_remainder_5 : decode cL_remainder 5 = .ok (.iload_n 2, 1) := by decide +kernel
theorem dL_remainder_6 : decode cL_remainder 6 = .ok (.iload_n 3, 1) := by decide +kernel
theorem dL_remainder_7 : decode cL_remainder 7 = .ok (.invokevirtual 98, 3) := by decide +kernel
theorem dL_remainder_10 : decode cL_remainder 10 = .ok (.dastore, 1) := by decide +kernel
theorem dL_remainder_11 : decode cL_remainder 11 = .ok (.goto 11, 3) := by decide +kernel
theorem dL_remainder_14 : decode cL_remainder 14 = .ok (.astore 5, 2) := by decide +kernel
theorem dL_remainder_16 : decode cL_remainder 16 = .ok (.iconst 1, 1) := by decide +kernel
theorem dL_remainder_17 : decode cL_remainder 17 = .ok (.ireturn, 1) := by decide +kernel
theorem dL_remainder_18 : decode cL_remainder 18 = .ok (.astore 5, 2) := by decide +kernel
theorem dL_remainder_20 : decode cL_remainder 20 = .ok (.iconst 2, 1) := by decide +kernel
theorem dL_remainder_21 : decode cL_remainder 21 = .ok (.ireturn, 1) := by decide +kernel
theorem dL_remainder_22 : decode cL_remainder 22 = .ok (.iconst 0, 1) := by decide +kernel
theorem dL_remainder_23 : decode cL_remainder 23 = .ok (.ireturn, 1) := by decide +kernel
theorem dL_restore_0 : decode cL_restore 0 = .ok (.aload_n 0, 1) := by decide +kernel
theorem dL_restore_1 : decode cL_restore 1 = .ok (.invokevirtual 102, 3) := by decide +kernel
theorem dL_restore_4 : decode cL_restore 4 = .ok (.goto 6, 3) := by decide +kernel
theorem dL_restore_7 : decode cL_restore 7 = .ok (.astore_n 1, 1) := by decide +kernel
theorem dL_restore_8 : decode cL_restore 8 = .ok (.iconst 1, 1) := by decide +kernel
theorem dL_restore_9 : decode cL_restore 9 = .ok (.ireturn, 1) := by decide +kernel
theorem dL_restore_10 : decode cL_restore 10 = .ok (.iconst 0, 1) := by decide +kernel
theorem dL_restore_11 : decode cL_restore 11 = .ok (.ireturn, 1) := by decide +kernel
end
section
theorem dL_law_0 : decode cL_law 0 = .ok (.new 8, 3) := by decide +kernel
theorem dL_law_3 : decode cL_law 3 = .ok (.dup, 1) := by decide +kernel
theorem dL_law_4 : decode cL_law 4 = .ok (.invokespecial 105, 3) := by decide +kernel
theorem dL_law_7 : decode cL_law 7 = .ok (.astore_n 1, 1) := by decide +kernel
theorem dL_law_8 : decode cL_law 8 = .ok (.new 106, 3) := by decide +kernel
theorem dL_law_11 : decode cL_law 11 = .ok (.dup, 1) := by decide +kernel
theorem dL_law_12 : decode cL_law 12 = .ok (.invokespecial 108, 3) := by decide +kernel
theorem dL_law_15 : decode cL_law 15 = .ok (.astore_n 2, 1) := by decide +kernel
theorem dL_law_16 : decode cL_law 16 = .ok (.iconst 1, 1) := by decide +kernel
theorem dL_law_17 : decode cL_law 17 = .ok (.newarray .long, 2) := by decide +kernel
theorem dL_law_19 : decode cL_law 19 = .ok (.astore_n 3, 1) := by decide +kernel
theorem dL_law_20 : decode cL_law 20 = .ok (.iconst 1, 1) := by decide +kernel
theorem dL_law_21 : decode cL_law 21 = .ok (.newarray .double, 2) := by decide +kernel
theorem dL_law_23 : decode cL_law 23 = .ok (.astore 4, 2) := by decide +kernel
theorem dL_law_25 : decode cL_law 25 = .ok (.iconst 0, 1) := by decide +kernel
theorem dL_law_26 : decode cL_law 26 = .ok (.istore 5, 2) := by decide +kernel
theorem dL_law_28 : decode cL_law 28 = .ok (.iload 5, 2) := by decide +kernel
theorem dL_law_30 : decode cL_law 30 = .ok (.aload_n 0, 1) := by decide +kernel
theorem dL_law_31 : decode cL_law 31 = .ok (.arraylength, 1) := by decide +kernel
theorem dL_law_32 : decode cL_law 32 = .ok (.iconst 4, 1) := by decide +kernel
theorem dL_law_33 : decode cL_law 33 = .ok (.isub, 1) := by decide +kernel
theorem dL_law_34 : decode cL_law 34 = .ok (.if_icmp .gt 1905, 3) := by decide +kernel
theorem dL_law_37 : decode cL_law 37 = .ok (.aload_n 0, 1) := by decide +kernel
theorem dL_law_38 : decode cL_law 38 = .ok (.iload 5, 2) := by decide +kernel
theorem dL_law_40 : decode cL_law 40 = .ok (.iaload, 1) := by decide +kernel
theorem dL_law_41 : decode cL_law 41 = .ok (.bipush 31, 2) := by decide +kernel
theorem dL_law_43 : decode cL_law 43 = .ok (.iand, 1) := by decide +kernel
theorem dL_law_44 : decode cL_law 44 = .ok (.tableswitch 1889 0 31 #[144, 200, 213, 271, 327, 383, 427, 495, 551, 619, 687, 767, 847, 903, 966, 1034, 1109, 1177, 1245, 1301, 1345, 1401, 1426, 1439, 1452, 1493, 1549, 1617, 1673, 1753, 1854, 1865], 144) := by decide +kernel
theorem dL_law_188 : decode cL_law 188 = .ok (.aload_n 1, 1) := by decide +kernel
theorem dL_law_189 : decode cL_law 189 = .ok (.aload_n 0, 1) := by decide +kernel
theorem dL_law_190 : decode cL_law 190 = .ok (.iload 5, 2) := by decide +kernel
theorem dL_law_192 : decode cL_law 192 = .ok (.iconst 1, 1) := by decide +kernel
theorem dL_law_193 : decode cL_law 193 = .ok (.iadd, 1) := by decide +kernel
theorem dL_law_194 : decode cL_law 194 = .ok (.iaload, 1) := by decide +kernel
theorem dL_law_195 : decode cL_law 195 = .ok (.aload_n 3, 1) := by decide +kernel
theorem dL_law_196 : decode cL_law 196 = .ok (.invokestatic 109, 3) := by decide +kernel
theorem dL_law_199 : decode cL_law 199 = .ok (.istore 6, 2) := by decide +kernel
theorem dL_law_201 : decode cL_law 201 = .ok (.aload_n 2, 1) := by decide +kernel
theorem dL_law_202 : decode cL_law 202 = .ok (.aload_n 0, 1) := by decide +kernel
theorem dL_law_203 : decode cL_law 203 = .ok (.iload 5, 2) := by decide +kernel
theorem dL_law_205 : decode cL_law 205 = .ok (.iconst 1, 1) := by decide +kernel
theorem dL_law_206 : decode cL_law 206 = .ok (.iadd, 1) := by decide +kernel
theorem dL_law_207 : decode cL_law 207 = .ok (.iaload, 1) := by decide +kernel
theorem dL_law_208 : decode cL_law 208 = .ok (.invokevirtual 114, 3) := by decide +kernel
theorem dL_law_211 : decode cL_law 211 = .ok (.istore 7, 2) := by decide +kernel
theorem dL_law_213 : decode cL_law 213 = .ok (.aload_n 2, 1) := by decide +kernel
theorem dL_law_214 : decode cL_law 214 = .ok (.invokevirtual 115, 3) := by decide +kernel
theorem dL_law_217 : decode cL_law 217 = .ok (.iload 6, 2) := by decide +kernel
theorem dL_law_219 : decode cL_law 219 = .ok (.if_icmp .eq 5, 3) := by decide +kernel
theorem dL_law_222 : decode cL_law 222 = .ok (.iconst 0, 1) := by decide +kernel
theorem dL_law_223 : decode cL_law 223 = .ok (.ireturn, 1) := by decide +kernel
theorem dL_law_224 : decode cL_law 224 = .ok (.iload 6, 2) := by decide +kernel
theorem dL_law_226 : decode cL_law 226 = .ok (.ifCond .ne 15, 3) := by decide +kernel
theorem dL_law_229 : decode cL_law 229 = .ok (.aload_n 3, 1) := by decide +kernel
theorem dL_law_230 : decode cL_law 230 = .ok (.iconst 0, 1) := by decide +kernel
theorem dL_law_231 : decode cL_law 231 = .ok (.laload, 1) := by decide +kernel
theorem dL_law_232 : decode cL_law 232 = .ok (.iload 7, 2) := by decide +kernel
theorem dL_law_234 : decode cL_law 234 = .ok (.i2l, 1) := by decide +kernel
theorem dL_law_235 : decode cL_law 235 = .ok (.lcmp, 1) := by decide +kernel
theorem dL_law_236 : decode cL_law 236 = .ok (.ifCond .eq 5, 3) := by decide +kernel
theorem dL_law_239 : decode cL_law 239 = .ok (.iconst 0, 1) := by decide +kernel
theorem dL_law_240 : decode cL_law 240 = .ok (.ireturn, 1) := by decide +kernel
theorem dL_law_241 : decode cL_law 241 = .ok (.goto 1692, 3) := by decide +kernel
theorem dL_law_244 : decode cL_law 244 = .ok (.aload_n 1, 1) := by decide +kernel
theorem dL_law_245 : decode cL_law 245 = .ok (.invokevirtual 118, 3) := by decide +kernel
theorem dL_law_248 : decode cL_law 248 = .ok (.aload_n 2, 1) := by decide +kernel
theorem dL_law_249 : decode cL_law 249 = .ok (.invokevirtual 121, 3) := by decide +kernel
theorem dL_law_252 : decode cL_law 252 = .ok (.if_icmp .eq 1681, 3) := by decide +kernel
theorem dL_law_255 : decode cL_law 255 = .ok (.iconst 0, 1) := by decide +kernel
theorem dL_law_256 : decode cL_law 256 = .ok (.ireturn, 1) := by decide +kernel
theorem dL_law_257 : decode cL_law 257 = .ok (.aload_n 1, 1) := by decide +kernel
theorem dL_law_258 : decode cL_law 258 = .ok (.aload_n 0, 1) := by decide +kernel
theorem dL_law_259 : decode cL_law 259 = .ok (.iload 5, 2) := by decide +kernel
theorem dL_law_261 : decode cL_law 261 = .ok (.iconst 1, 1) := by decide +kernel
theorem dL_law_262 : decode cL_law 262 = .ok (.iadd, 1) := by decide +kernel
theorem dL_law_263 : decode cL_law 263 = .ok (.iaload, 1) := by decide +kernel
theorem dL_law_264 : decode cL_law 264 = .ok (.i2c, 1) := by decide +kernel
theorem dL_law_265 : decode cL_law 265 = .ok (.aload_n 3, 1) := by decide +kernel
theorem dL_law_266 : decode cL_law 266 = .ok (.invokestatic 122, 3) := by decide +kernel
theorem dL_law_269 : decode cL_law 269 = .ok (.istore 6, 2) := by decide +kernel
theorem dL_law_271 : decode cL_law 271 = .ok (.aload_n 2, 1) := by decide +kernel
theorem dL_law_272 : decode cL_law 272 = .ok (.aload_n 0, 1) := by decide +kernel
theorem dL_law_273 : decode cL_law 273 = .ok (.iload 5, 2) := by decide +kernel
theorem dL_law_275 : decode cL_law 275 = .ok (.iconst 1, 1) := by decide +kernel
theorem dL_law_276 : decode cL_law 276 = .ok (.iadd, 1) := by decide +kernel
theorem dL_law_277 : decode cL_law 277 = .ok (.iaload, 1) := by decide +kernel
theorem dL_law_278 : decode cL_law 278 = .ok (.i2c, 1) := by decide +kernel
theorem dL_law_279 : decode cL_law 279 = .ok (.invokevirtual 125, 3) := by decide +kernel
theorem dL_law_282 : decode cL_law 282 = .ok (.istore 7, 2) := by decide +kernel
theorem dL_law_284 : decode cL_law 284 = .ok (.aload_n 2, 1) := by decide +kernel
theorem dL_law_285 : decode cL_law 285 = .ok (.invokevirtual 115, 3) := by decide +kernel
theorem dL_law_288 : decode cL_law 288 = .ok (.iload 6, 2) := by decide +kernel
theorem dL_law_290 : decode cL_law 290 = .ok (.if_icmp .eq 5, 3) := by decide +kernel
theorem dL_law_293 : decode cL_law 293 = .ok (.iconst 0, 1) := by decide +kernel
theorem dL_law_294 : decode cL_law 294 = .ok (.ireturn, 1) := by decide +kernel
theorem dL_law_295 : decode cL_law 295 = .ok (.iload 6, 2) := by decide +kernel
theorem dL_law_297 : decode cL_law 297 = .ok (.ifCond .ne 15, 3) := by decide +kernel
theorem dL_law_300 : decode cL_law 300 = .ok (.aload_n 3, 1) := by decide +kernel
theorem dL_law_301 : decode cL_law 301 = .ok (.iconst 0, 1) := by decide +kernel
theorem dL_law_302 : decode cL_law 302 = .ok (.laload, 1) := by decide +kernel
theorem dL_law_303 : decode cL_law 303 = .ok (.iload 7, 2) := by decide +kernel
theorem dL_law_305 : decode cL_law 305 = .ok (.i2l, 1) := by decide +kernel
theorem dL_law_306 : decode cL_law 306 = .ok (.lcmp, 1) := by decide +kernel
theorem dL_law_307 : decode cL_law 307 = .ok (.ifCond .eq 5, 3) := by decide +kernel
theorem dL_law_310 : decode cL_law 310 = .ok (.iconst 0, 1) := by decide +kernel
theorem dL_law_311 : decode cL_law 311 = .ok (.ireturn, 1) := by decide +kernel
theorem dL_law_312 : decode cL_law 312 = .ok (.goto 1621, 3) := by decide +kernel
theorem dL_law_315 : decode cL_law 315 = .ok (.aload_n 1, 1) := by decide +kernel
theorem dL_law_316 : decode cL_law 316 = .ok (.aload_n 0, 1) := by decide +kernel
theorem dL_law_317 : decode cL_law 317 = .ok (.iload 5, 2) := by decide +kernel
theorem dL_law_319 : decode cL_law 319 = .ok (.iconst 1, 1) := by decide +kernel
theorem dL_law_320 : decode cL_law 320 = .ok (.iadd, 1) := by decide +kernel
theorem dL_law_321 : decode cL_law 321 = .ok (.iaload, 1) := by decide +kernel
theorem dL_law_322 : decode cL_law 322 = .ok (.aload_n 3, 1) := by decide +kernel
theorem dL_law_323 : decode cL_law 323 = .ok (.invokestatic 126, 3) := by decide +kernel
theorem dL_law_326 : decode cL_law 326 = .ok (.istore 6, 2) := by decide +kernel
theorem dL_law_328 : decode cL_law 328 = .ok (.aload_n 2, 1) := by decide +kernel
theorem dL_law_329 : decode cL_law 329 = .ok (.aload_n 0, 1) := by decide +kernel
theorem dL_law_330 : decode cL_law 330 = .ok (.iload 5, 2) := by decide +kernel
theorem dL_law_332 : decode cL_law 332 = .ok (.iconst 1, 1) := by decide +kernel
theorem dL_law_333 : decode cL_law 333 = .ok (.iadd, 1) := by decide +kernel
theorem dL_law_334 : decode cL_law 334 = .ok (.iaload, 1) := by decide +kernel
theorem dL_law_335 : decode cL_law 335 = .ok (.invokevirtual 128, 3) := by decide +kernel
theorem dL_law_338 : decode cL_law 338 = .ok (.istore 7, 2) := by decide +kernel
theorem dL_law_340 : decode cL_law 340 = .ok (.aload_n 2, 1) := by decide +kernel
theorem dL_law_341 : decode cL_law 341 = .ok (.invokevirtual 115, 3) := by decide +kernel
theorem dL_law_344 : decode cL_law 344 = .ok (.iload 6, 2) := by decide +kernel
theorem dL_law_346 : decode cL_law 346 = .ok (.if_icmp .eq 5, 3) := by decide +kernel
theorem dL_law_349 : decode cL_law 349 = .ok (.iconst 0, 1) := by decide +kernel
theorem dL_law_350 : decode cL_law 350 = .ok (.ireturn, 1) := by decide +kernel
theorem dL_law_351 : decode cL_law 351 = .ok (.iload 6, 2) := by decide +kernel
theorem dL_law_353 : decode cL_law 353 = .ok (.ifCond .ne 15, 3) := by decide +kernel
theorem dL_law_356 : decode cL_law 356 = .ok (.aload_n 3, 1) := by decide +kernel
theorem dL_law_357 : decode cL_law 357 = .ok (.iconst 0, 1) := by decide +kernel
theorem dL_law_358 : decode cL_law 358 = .ok (.laload, 1) := by decide +kernel
theorem dL_law_359 : decode cL_law 359 = .ok (.iload 7, 2) := by decide +kernel
theorem dL_law_361 : decode cL_law 361 = .ok (.i2l, 1) := by decide +kernel
theorem dL_law_362 : decode cL_law 362 = .ok (.lcmp, 1) := by decide +kernel
theorem dL_law_363 : decode cL_law 363 = .ok (.ifCond .eq 5, 3) := by decide +kernel
theorem dL_law_366 : decode cL_law 366 = .ok (.iconst 0, 1) := by decide +kernel
theorem dL_law_367 : decode cL_law 367 = .ok (.ireturn, 1) := by decide +kernel
theorem dL_law_368 : decode cL_law 368 = .ok (.goto 1565, 3) := by decide +kernel
theorem dL_law_371 : decode cL_law 371 = .ok (.aload_n 1, 1) := by decide +kernel
theorem dL_law_372 : decode cL_law 372 = .ok (.aload_n 0, 1) := by decide +kernel
theorem dL_law_373 : decode cL_law 373 = .ok (.iload 5, 2) := by decide +kernel
theorem dL_law_375 : decode cL_law 375 = .ok (.iconst 1, 1) := by decide +kernel
theorem dL_law_376 : decode cL_law 376 = .ok (.iadd, 1) := by decide +kernel
theorem dL_law_377 : decode cL_law 377 = .ok (.iaload, 1) := by decide +kernel
theorem dL_law_378 : decode cL_law 378 = .ok (.aload_n 3, 1) := by decide +kernel
theorem dL_law_379 : decode cL_law 379 = .ok (.invokestatic 129, 3) := by decide +kernel
theorem dL_law_382 : decode cL_law 382 = .ok (.istore 6, 2) := by decide +kernel
theorem dL_law_384 : decode cL_law 384 = .ok (.aload_n 2, 1) := by decide +kernel
theorem dL_law_385 : decode cL_law 385 = .ok (.aload_n 0, 1) := by decide +kernel
theorem dL_law_386 : decode cL_law 386 = .ok (.iload 5, 2) := by decide +kernel
theorem dL_law_388 : decode cL_law 388 = .ok (.iconst 1, 1) := by decide +kernel
theorem dL_law_389 : decode cL_law 389 = .ok (.iadd, 1) := by decide +kernel
theorem dL_law_390 : decode cL_law 390 = .ok (.iaload, 1) := by decide +kernel
theorem dL_law_391 : decode cL_law 391 = .ok (.invokevirtual 131, 3) := by decide +kernel
theorem dL_law_394 : decode cL_law 394 = .ok (.istore 7, 2) := by decide +kernel
theorem dL_law_396 : decode cL_law 396 = .ok (.aload_n 2, 1) := by decide +kernel
theorem dL_law_397 : decode cL_law 397 = .ok (.invokevirtual 115, 3) := by decide +kernel
theorem dL_law_400 : decode cL_law 400 = .ok (.iload 6, 2) := by decide +kernel
theorem dL_law_402 : decode cL_law 402 = .ok (.if_icmp .eq 5, 3) := by decide +kernel
theorem dL_law_405 : decode cL_law 405 = .ok (.iconst 0, 1) := by decide +kernel
theorem dL_law_406 : decode cL_law 406 = .ok (.ireturn, 1) := by decide +kernel
theorem dL_law_407 : decode cL_law 407 = .ok (.iload 6, 2) := by decide +kernel
theorem dL_law_409 : decode cL_law 409 = .ok (.ifCond .ne 15, 3) := by decide +kernel
theorem dL_law_412 : decode cL_law 412 = .ok (.aload_n 3, 1) := by decide +kernel
theorem dL_law_413 : decode cL_law 413 = .ok (.iconst 0, 1) := by decide +kernel
theorem dL_law_414 : decode cL_law 414 = .ok (.laload, 1) := by decide +kernel
theorem dL_law_415 : decode cL_law 415 = .ok (.iload 7, 2) := by decide +kernel
theorem dL_law_417 : decode cL_law 417 = .ok (.i2l, 1) := by decide +kernel
theorem dL_law_418 : decode cL_law 418 = .ok (.lcmp, 1) := by decide +kernel
theorem dL_law_419 : decode cL_law 419 = .ok (.ifCond .eq 5, 3) := by decide +kernel
theorem dL_law_422 : decode cL_law 422 = .ok (.iconst 0, 1) := by decide +kernel
theorem dL_law_423 : decode cL_law 423 = .ok (.ireturn, 1) := by decide +kernel
theorem dL_law_424 : decode cL_law 424 = .ok (.goto 1509, 3) := by decide +kernel
theorem dL_law_427 : decode cL_law 427 = .ok (.aload_n 1, 1) := by decide +kernel
theorem dL_law_428 : decode cL_law 428 = .ok (.aload_n 3, 1) := by decide +kernel
theorem dL_law_429 : decode cL_law 429 = .ok (.invokestatic 132, 3) := by decide +kernel
theorem dL_law_432 : decode cL_law 432 = .ok (.istore 6, 2) := by decide +kernel
theorem dL_law_434 : decode cL_law 434 = .ok (.aload_n 2, 1) := by decide +kernel
theorem dL_law_435 : decode cL_law 435 = .ok (.invokevirtual 135, 3) := by decide +kernel
theorem dL_law_438 : decode cL_law 438 = .ok (.istore 7, 2) := by decide +kernel
theorem dL_law_440 : decode cL_law 440 = .ok (.aload_n 2, 1) := by decide +kernel
theorem dL_law_441 : decode cL_law 441 = .ok (.invokevirtual 115, 3) := by decide +kernel
theorem dL_law_444 : decode cL_law 444 = .ok (.iload 6, 2) := by decide +kernel
theorem dL_law_446 : decode cL_law 446 = .ok (.if_icmp .eq 5, 3) := by decide +kernel
theorem dL_law_449 : decode cL_law 449 = .ok (.iconst 0, 1) := by decide +kernel
theorem dL_law_450 : decode cL_law 450 = .ok (.ireturn, 1) := by decide +kernel
theorem dL_law_451 : decode cL_law 451 = .ok (.iload 6, 2) := by decide +kernel
theorem dL_law_453 : decode cL_law 453 = .ok (.ifCond .ne 15, 3) := by decide +kernel
theorem dL_law_456 : decode cL_law 456 = .ok (.aload_n 3, 1) := by decide +kernel
theorem dL_law_457 : decode cL_law 457 = .ok (.iconst 0, 1) := by decide +kernel
theorem dL_law_458 : decode cL_law 458 = .ok (.laload, 1) := by decide +kernel
theorem dL_law_459 : decode cL_law 459 = .ok (.iload 7, 2) := by decide +kernel
theorem dL_law_461 : decode cL_law 461 = .ok (.i2l, 1) := by decide +kernel
theorem dL_law_462 : decode cL_law 462 = .ok (.lcmp, 1) := by decide +kernel
theorem dL_law_463 : decode cL_law 463 = .ok (.ifCond .eq 5, 3) := by decide +kernel
theorem dL_law_466 : decode cL_law 466 = .ok (.iconst 0, 1) := by decide +kernel
theorem dL_law_467 : decode cL_law 467 = .ok (.ireturn, 1) := by decide +kernel
theorem dL_law_468 : decode cL_law 468 = .ok (.goto 1465, 3) := by decide +kernel
theorem dL_law_471 : decode cL_law 471 = .ok (.aload_n 1, 1) := by decide +kernel
theorem dL_law_472 : decode cL_law 472 = .ok (.aload_n 0, 1) := by decide +kernel
theorem dL_law_473 : decode cL_law 473 = .ok (.iload 5, 2) := by decide +kernel
theorem dL_law_475 : decode cL_law 475 = .ok (.iconst 1, 1) := by decide +kernel
theorem dL_law_476 : decode cL_law 476 = .ok (.iadd, 1) := by decide +kernel
theorem dL_law_477 : decode cL_law 477 = .ok (.iaload, 1) := by decide +kernel
theorem dL_law_478 : decode cL_law 478 = .ok (.aload_n 0, 1) := by decide +kernel
theorem dL_law_479 : decode cL_law 479 = .ok (.iload 5, 2) := by decide +kernel
theorem dL_law_481 : decode cL_law 481 = .ok (.iconst 2, 1) := by decide +kernel
theorem dL_law_482 : decode cL_law 482 = .ok (.iadd, 1) := by decide +kernel
theorem dL_law_483 : decode cL_law 483 = .ok (.iaload, 1) := by decide +kernel
theorem dL_law_484 : decode cL_law 484 = .ok (.aload_n 3, 1) := by decide +kernel
theorem dL_law_485 : decode cL_law 485 = .ok (.invokestatic 136, 3) := by decide +kernel
theorem dL_law_488 : decode cL_law 488 = .ok (.istore 6, 2) := by decide +kernel
theorem dL_law_490 : decode cL_law 490 = .ok (.aload_n 2, 1) := by decide +kernel
theorem dL_law_491 : decode cL_law 491 = .ok (.aload_n 0, 1) := by decide +kernel
theorem dL_law_492 : decode cL_law 492 = .ok (.iload 5, 2) := by decide +kernel
theorem dL_law_494 : decode cL_law 494 = .ok (.iconst 1, 1) := by decide +kernel
theorem dL_law_495 : decode cL_law 495 = .ok (.iadd, 1) := by decide +kernel
theorem dL_law_496 : decode cL_law 496 = .ok (.iaload, 1) := by decide +kernel
theorem dL_law_497 : decode cL_law 497 = .ok (.aload_n 0, 1) := by decide +kernel
theorem dL_law_498 : decode cL_law 498 = .ok (.iload 5, 2) := by decide +kernel
theorem dL_law_500 : decode cL_law 500 = .ok (.iconst 2, 1) := by decide +kernel
theorem dL_law_501 : decode cL_law 501 = .ok (.iadd, 1) := by decide +kernel
theorem dL_law_502 : decode cL_law 502 = .ok (.iaload, 1) := by decide +kernel
theorem dL_law_503 : decode cL_law 503 = .ok (.invokevirtual 139, 3) := by decide +kernel
theorem dL_law_506 : decode cL_law 506 = .ok (.istore 7, 2) := by decide +kernel
theorem dL_law_508 : decode cL_law 508 = .ok (.aload_n 2, 1) := by decide +kernel
theorem dL_law_509 : decode cL_law 509 = .ok (.invokevirtual 115, 3) := by decide +kernel
theorem dL_law_512 : decode cL_law 512 = .ok (.iload 6, 2) := by decide +kernel
theorem dL_law_514 : decode cL_law 514 = .ok (.if_icmp .eq 5, 3) := by decide +kernel
theorem dL_law_517 : decode cL_law 517 = .ok (.iconst 0, 1) := by decide +kernel
theorem dL_law_518 : decode cL_law 518 = .ok (.ireturn, 1) := by decide +kernel
theorem dL_law_519 : decode cL_law 519 = .ok (.iload 6, 2) := by decide +kernel
theorem dL_law_521 : decode cL_law 521 = .ok (.ifCond .ne 15, 3) := by decide +kernel
theorem dL_law_524 : decode cL_law 524 = .ok (.aload_n 3, 1) := by decide +kernel
theorem dL_law_525 : decode cL_law 525 = .ok (.iconst 0, 1) := by decide +kernel
theorem dL_law_526 : decode cL_law 526 = .ok (.laload, 1) := by decide +kernel
theorem dL_law_527 : decode cL_law 527 = .ok (.iload 7, 2) := by decide +kernel
theorem dL_law_529 : decode cL_law 529 = .ok (.i2l, 1) := by decide +kernel
theorem dL_law_530 : decode cL_law 530 = .ok (.lcmp, 1) := by decide +kernel
theorem dL_law_531 : decode cL_law 531 = .ok (.ifCond .eq 5, 3) := by decide +kernel
theorem dL_law_534 : decode cL_law 534 = .ok (.iconst 0, 1) := by decide +kernel
theorem dL_law_535 : decode cL_law 535 = .ok (.ireturn, 1) := by decide +kernel
theorem dL_law_536 : decode cL_law 536 = .ok (.goto 1397, 3) := by decide +kernel
theorem dL_law_539 : decode cL_law 539 = .ok (.aload_n 1, 1) := by decide +kernel
theorem dL_law_540 : decode cL_law 540 = .ok (.aload_n 0, 1) := by decide +kernel
theorem dL_law_541 : decode cL_law 541 = .ok (.iload 5, 2) := by decide +kernel
theorem dL_law_543 : decode cL_law 543 = .ok (.iconst 1, 1) := by decide +kernel
theorem dL_law_544 : decode cL_law 544 = .ok (.iadd, 1) := by decide +kernel
theorem dL_law_545 : decode cL_law 545 = .ok (.iaload, 1) := by decide +kernel
theorem dL_law_546 : decode cL_law 546 = .ok (.aload_n 3, 1) := by decide +kernel
theorem dL_law_547 : decode cL_law 547 = .ok (.invokestatic 140, 3) := by decide +kernel
theorem dL_law_550 : decode cL_law 550 = .ok (.istore 6, 2) := by decide +kernel
theorem dL_law_552 : decode cL_law 552 = .ok (.aload_n 2, 1) := by decide +kernel
theorem dL_law_553 : decode cL_law 553 = .ok (.aload_n 0, 1) := by decide +kernel
theorem dL_law_554 : decode cL_law 554 = .ok (.iload 5, 2) := by decide +kernel
theorem dL_law_556 : decode cL_law 556 = .ok (.iconst 1, 1) := by decide +kernel
theorem dL_law_557 : decode cL_law 557 = .ok (.iadd, 1) := by decide +kernel
theorem dL_law_558 : decode cL_law 558 = .ok (.iaload, 1) := by decide +kernel
theorem dL_law_559 : decode cL_law 559 = .ok (.invokevirtual 142, 3) := by decide +kernel
theorem dL_law_562 : decode cL_law 562 = .ok (.istore 7, 2) := by decide +kernel
theorem dL_law_564 : decode cL_law 564 = .ok (.aload_n 2, 1) := by decide +kernel
theorem dL_law_565 : decode cL_law 565 = .ok (.invokevirtual 115, 3) := by decide +kernel
theorem dL_law_568 : decode cL_law 568 = .ok (.iload 6, 2) := by decide +kernel
theorem dL_law_570 : decode cL_law 570 = .ok (.if_icmp .eq 5, 3) := by decide +kernel
theorem dL_law_573 : decode cL_law 573 = .ok (.iconst 0, 1) := by decide +kernel
theorem dL_law_574 : decode cL_law 574 = .ok (.ireturn, 1) := by decide +kernel
theorem dL_law_575 : decode cL_law 575 = .ok (.iload 6, 2) := by decide +kernel
theorem dL_law_577 : decode cL_law 577 = .ok (.ifCond .ne 15, 3) := by decide +kernel
theorem dL_law_580 : decode cL_law 580 = .ok (.aload_n 3, 1) := by decide +kernel
theorem dL_law_581 : decode cL_law 581 = .ok (.iconst 0, 1) := by decide +kernel
theorem dL_law_582 : decode cL_law 582 = .ok (.laload, 1) := by decide +kernel
theorem dL_law_583 : decode cL_law 583 = .ok (.iload 7, 2) := by decide +kernel
theorem dL_law_585 : decode cL_law 585 = .ok (.i2l, 1) := by decide +kernel
theorem dL_law_586 : decode cL_law 586 = .ok (.lcmp, 1) := by decide +kernel
theorem dL_law_587 : decode cL_law 587 = .ok (.ifCond .eq 5, 3) := by decide +kernel
theorem dL_law_590 : decode cL_law 590 = .ok (.iconst 0, 1) := by decide +kernel
theorem dL_law_591 : decode cL_law 591 = .ok (.ireturn, 1) := by decide +kernel
theorem dL_law_592 : decode cL_law 592 = .ok (.goto 1341, 3) := by decide +kernel
theorem dL_law_595 : decode cL_law 595 = .ok (.aload_n 1, 1) := by decide +kernel
theorem dL_law_596 : decode cL_law 596 = .ok (.aload_n 0, 1) := by decide +kernel
theorem dL_law_597 : decode cL_law 597 = .ok (.iload 5, 2) := by decide +kernel
theorem dL_law_599 : decode cL_law 599 = .ok (.iconst 1, 1) := by decide +kernel
theorem dL_law_600 : decode cL_law 600 = .ok (.iadd, 1) := by decide +kernel
theorem dL_law_601 : decode cL_law 601 = .ok (.iaload, 1) := by decide +kernel
theorem dL_law_602 : decode cL_law 602 = .ok (.aload_n 0, 1) := by decide +kernel
theorem dL_law_603 : decode cL_law 603 = .ok (.iload 5, 2) := by decide +kernel
theorem dL_law_605 : decode cL_law 605 = .ok (.iconst 2, 1) := by decide +kernel
theorem dL_law_606 : decode cL_law 606 = .ok (.iadd, 1) := by decide +kernel
theorem dL_law_607 : decode cL_law 607 = .ok (.iaload, 1) := by decide +kernel
theorem dL_law_608 : decode cL_law 608 = .ok (.aload_n 3, 1) := by decide +kernel
theorem dL_law_609 : decode cL_law 609 = .ok (.invokestatic 143, 3) := by decide +kernel
theorem dL_law_612 : decode cL_law 612 = .ok (.istore 6, 2) := by decide +kernel
theorem dL_law_614 : decode cL_law 614 = .ok (.aload_n 2, 1) := by decide +kernel
theorem dL_law_615 : decode cL_law 615 = .ok (.aload_n 0, 1) := by decide +kernel
theorem dL_law_616 : decode cL_law 616 = .ok (.iload 5, 2) := by decide +kernel
theorem dL_law_618 : decode cL_law 618 = .ok (.iconst 1, 1) := by decide +kernel
theorem dL_law_619 : decode cL_law 619 = .ok (.iadd, 1) := by decide +kernel
theorem dL_law_620 : decode cL_law 620 = .ok (.iaload, 1) := by decide +kernel
theorem dL_law_621 : decode cL_law 621 = .ok (.aload_n 0, 1) := by decide +kernel
theorem dL_law_622 : decode cL_law 622 = .ok (.iload 5, 2) := by decide +kernel
theorem dL_law_624 : decode cL_law 624 = .ok (.iconst 2, 1) := by decide +kernel
theorem dL_law_625 : decode cL_law 625 = .ok (.iadd, 1) := by decide +kernel
theorem dL_law_626 : decode cL_law 626 = .ok (.iaload, 1) := by decide +kernel
theorem dL_law_627 : decode cL_law 627 = .ok (.invokevirtual 145, 3) := by decide +kernel
theorem dL_law_630 : decode cL_law 630 = .ok (.istore 7, 2) := by decide +kernel
theorem dL_law_632 : decode cL_law 632 = .ok (.aload_n 2, 1) := by decide +kernel
theorem dL_law_633 : decode cL_law 633 = .ok (.invokevirtual 115, 3) := by decide +kernel
theorem dL_law_636 : decode cL_law 636 = .ok (.iload 6, 2) := by decide +kernel
theorem dL_law_638 : decode cL_law 638 = .ok (.if_icmp .eq 5, 3) := by decide +kernel
theorem dL_law_641 : decode cL_law 641 = .ok (.iconst 0, 1) := by decide +kernel
theorem dL_law_642 : decode cL_law 642 = .ok (.ireturn, 1) := by decide +kernel
theorem dL_law_643 : decode cL_law 643 = .ok (.iload 6, 2) := by decide +kernel
theorem dL_law_645 : decode cL_law 645 = .ok (.ifCond .ne 15, 3) := by decide +kernel
theorem dL_law_648 : decode cL_law 648 = .ok (.aload_n 3, 1) := by decide +kernel
theorem dL_law_649 : decode cL_law 649 = .ok (.iconst 0, 1) := by decide +kernel
theorem dL_law_650 : decode cL_law 650 = .ok (.laload, 1) := by decide +kernel
theorem dL_law_651 : decode cL_law 651 = .ok (.iload 7, 2) := by decide +kernel
theorem dL_law_653 : decode cL_law 653 = .ok (.i2l, 1) := by decide +kernel
theorem dL_law_654 : decode cL_law 654 = .ok (.lcmp, 1) := by decide +kernel
theorem dL_law_655 : decode cL_law 655 = .ok (.ifCond .eq 5, 3) := by decide +kernel
theorem dL_law_658 : decode cL_law 658 = .ok (.iconst 0, 1) := by decide +kernel
theorem dL_law_659 : decode cL_law 659 = .ok (.ireturn, 1) := by decide +kernel
theorem dL_law_660 : decode cL_law 660 = .ok (.goto 1273, 3) := by decide +kernel
theorem dL_law_663 : decode cL_law 663 = .ok (.aload_n 1, 1) := by decide +kernel
theorem dL_law_664 : decode cL_law 664 = .ok (.aload_n 0, 1) := by decide +kernel
theorem dL_law_665 : decode cL_law 665 = .ok (.iload 5, 2) := by decide +kernel
theorem dL_law_667 : decode cL_law 667 = .ok (.iconst 1, 1) := by decide +kernel
theorem dL_law_668 : decode cL_law 668 = .ok (.iadd, 1) := by decide +kernel
theorem dL_law_669 : decode cL_law 669 = .ok (.iaload, 1) := by decide +kernel
theorem dL_law_670 : decode cL_law 670 = .ok (.aload_n 0, 1) := by decide +kernel
theorem dL_law_671 : decode cL_law 671 = .ok (.iload 5, 2) := by decide +kernel
theorem dL_law_673 : decode cL_law 673 = .ok (.iconst 2, 1) := by decide +kernel
theorem dL_law_674 : decode cL_law 674 = .ok (.iadd, 1) := by decide +kernel
theorem dL_law_675 : decode cL_law 675 = .ok (.iaload, 1) := by decide +kernel
theorem dL_law_676 : decode cL_law 676 = .ok (.aload_n 3, 1) := by decide +kernel
theorem dL_law_677 : decode cL_law 677 = .ok (.invokestatic 146, 3) := by decide +kernel
theorem dL_law_680 : decode cL_law 680 = .ok (.istore 6, 2) := by decide +kernel
theorem dL_law_682 : decode cL_law 682 = .ok (.aload_n 2, 1) := by decide +kernel
theorem dL_law_683 : decode cL_law 683 = .ok (.aload_n 0, 1) := by decide +kernel
theorem dL_law_684 : decode cL_law 684 = .ok (.iload 5, 2) := by decide +kernel
theorem dL_law_686 : decode cL_law 686 = .ok (.iconst 1, 1) := by decide +kernel
theorem dL_law_687 : decode cL_law 687 = .ok (.iadd, 1) := by decide +kernel
theorem dL_law_688 : decode cL_law 688 = .ok (.iaload, 1) := by decide +kernel
theorem dL_law_689 : decode cL_law 689 = .ok (.aload_n 0, 1) := by decide +kernel
theorem dL_law_690 : decode cL_law 690 = .ok (.iload 5, 2) := by decide +kernel
theorem dL_law_692 : decode cL_law 692 = .ok (.iconst 2, 1) := by decide +kernel
theorem dL_law_693 : decode cL_law 693 = .ok (.iadd, 1) := by decide +kernel
theorem dL_law_694 : decode cL_law 694 = .ok (.iaload, 1) := by decide +kernel
theorem dL_law_695 : decode cL_law 695 = .ok (.invokevirtual 148, 3) := by decide +kernel
theorem dL_law_698 : decode cL_law 698 = .ok (.istore 7, 2) := by decide +kernel
theorem dL_law_700 : decode cL_law 700 = .ok (.aload_n 2, 1) := by decide +kernel
theorem dL_law_701 : decode cL_law 701 = .ok (.invokevirtual 115, 3) := by decide +kernel
theorem dL_law_704 : decode cL_law 704 = .ok (.iload 6, 2) := by decide +kernel
theorem dL_law_706 : decode cL_law 706 = .ok (.if_icmp .eq 5, 3) := by decide +kernel
theorem dL_law_709 : decode cL_law 709 = .ok (.iconst 0, 1) := by decide +kernel
theorem dL_law_710 : decode cL_law 710 = .ok (.ireturn, 1) := by decide +kernel
theorem dL_law_711 : decode cL_law 711 = .ok (.iload 6, 2) := by decide +kernel
theorem dL_law_713 : decode cL_law 713 = .ok (.ifCond .ne 15, 3) := by decide +kernel
theorem dL_law_716 : decode cL_law 716 = .ok (.aload_n 3, 1) := by decide +kernel
theorem dL_law_717 : decode cL_law 717 = .ok (.iconst 0, 1) := by decide +kernel
theorem dL_law_718 : decode cL_law 718 = .ok (.laload, 1) := by decide +kernel
theorem dL_law_719 : decode cL_law 719 = .ok (.iload 7, 2) := by decide +kernel
theorem dL_law_721 : decode cL_law 721 = .ok (.i2l, 1) := by decide +kernel
theorem dL_law_722 : decode cL_law 722 = .ok (.lcmp, 1) := by decide +kernel
theorem dL_law_723 : decode cL_law 723 = .ok (.ifCond .eq 5, 3) := by decide +kernel
theorem dL_law_726 : decode cL_law 726 = .ok (.iconst 0, 1) := by decide +kernel
theorem dL_law_727 : decode cL_law 727 = .ok (.ireturn, 1) := by decide +kernel
theorem dL_law_728 : decode cL_law 728 = .ok (.goto 1205, 3) := by decide +kernel
theorem dL_law_731 : decode cL_law 731 = .ok (.aload_n 1, 1) := by decide +kernel
theorem dL_law_732 : decode cL_law 732 = .ok (.aload_n 0, 1) := by decide +kernel
theorem dL_law_733 : decode cL_law 733 = .ok (.iload 5, 2) := by decide +kernel
theorem dL_law_735 : decode cL_law 735 = .ok (.iconst 1, 1) := by decide +kernel
theorem dL_law_736 : decode cL_law 736 = .ok (.iadd, 1) := by decide +kernel
theorem dL_law_737 : decode cL_law 737 = .ok (.iaload, 1) := by decide +kernel
theorem dL_law_738 : decode cL_law 738 = .ok (.aload_n 0, 1) := by decide +kernel
theorem dL_law_739 : decode cL_law 739 = .ok (.iload 5, 2) := by decide +kernel
theorem dL_law_741 : decode cL_law 741 = .ok (.iconst 2, 1) := by decide +kernel
theorem dL_law_742 : decode cL_law 742 = .ok (.iadd, 1) := by decide +kernel
theorem dL_law_743 : decode cL_law 743 = .ok (.iaload, 1) := by decide +kernel
theorem dL_law_744 : decode cL_law 744 = .ok (.aload_n 0, 1) := by decide +kernel
theorem dL_law_745 : decode cL_law 745 = .ok (.iload 5, 2) := by decide +kernel
theorem dL_law_747 : decode cL_law 747 = .ok (.iconst 3, 1) := by decide +kernel
theorem dL_law_748 : decode cL_law 748 = .ok (.iadd, 1) := by decide +kernel
theorem dL_law_749 : decode cL_law 749 = .ok (.iaload, 1) := by decide +kernel
theorem dL_law_750 : decode cL_law 750 = .ok (.aload_n 3, 1) := by decide +kernel
theorem dL_law_751 : decode cL_law 751 = .ok (.invokestatic 149, 3) := by decide +kernel
theorem dL_law_754 : decode cL_law 754 = .ok (.istore 6, 2) := by decide +kernel
theorem dL_law_756 : decode cL_law 756 = .ok (.aload_n 2, 1) := by decide +kernel
theorem dL_law_757 : decode cL_law 757 = .ok (.aload_n 0, 1) := by decide +kernel
theorem dL_law_758 : decode cL_law 758 = .ok (.iload 5, 2) := by decide +kernel
theorem dL_law_760 : decode cL_law 760 = .ok (.iconst 1, 1) := by decide +kernel
theorem dL_law_761 : decode cL_law 761 = .ok (.iadd, 1) := by decide +kernel
theorem dL_law_762 : decode cL_law 762 = .ok (.iaload, 1) := by decide +kernel
theorem dL_law_763 : decode cL_law 763 = .ok (.aload_n 0, 1) := by decide +kernel
theorem dL_law_764 : decode cL_law 764 = .ok (.iload 5, 2) := by decide +kernel
theorem dL_law_766 : decode cL_law 766 = .ok (.iconst 2, 1) := by decide +kernel
theorem dL_law_767 : decode cL_law 767 = .ok (.iadd, 1) := by decide +kernel
theorem dL_law_768 : decode cL_law 768 = .ok (.iaload, 1) := by decide +kernel
theorem dL_law_769 : decode cL_law 769 = .ok (.aload_n 0, 1) := by decide +kernel
theorem dL_law_770 : decode cL_law 770 = .ok (.iload 5, 2) := by decide +kernel
theorem dL_law_772 : decode cL_law 772 = .ok (.iconst 3, 1) := by decide +kernel
theorem dL_law_773 : decode cL_law 773 = .ok (.iadd, 1) := by decide +kernel
theorem dL_law_774 : decode cL_law 774 = .ok (.iaload, 1) := by decide +kernel
theorem dL_law_775 : decode cL_law 775 = .ok (.invokevirtual 152, 3) := by decide +kernel
theorem dL_law_778 : decode cL_law 778 = .ok (.istore 7, 2) := by decide +kernel
theorem dL_law_780 : decode cL_law 780 = .ok (.aload_n 2, 1) := by decide +kernel
theorem dL_law_781 : decode cL_law 781 = .ok (.invokevirtual 115, 3) := by decide +kernel
theorem dL_law_784 : decode cL_law 784 = .ok (.iload 6, 2) := by decide +kernel
theorem dL_law_786 : decode cL_law 786 = .ok (.if_icmp .eq 5, 3) := by decide +kernel
theorem dL_law_789 : decode cL_law 789 = .ok (.iconst 0, 1) := by decide +kernel
theorem dL_law_790 : decode cL_law 790 = .ok (.ireturn, 1) := by decide +kernel
theorem dL_law_791 : decode cL_law 791 = .ok (.iload 6, 2) := by decide +kernel
theorem dL_law_793 : decode cL_law 793 = .ok (.ifCond .ne 15, 3) := by decide +kernel
theorem dL_law_796 : decode cL_law 796 = .ok (.aload_n 3, 1) := by decide +kernel
theorem dL_law_797 : decode cL_law 797 = .ok (.iconst 0, 1) := by decide +kernel
theorem dL_law_798 : decode cL_law 798 = .ok (.laload, 1) := by decide +kernel
theorem dL_law_799 : decode cL_law 799 = .ok (.iload 7, 2) := by decide +kernel
theorem dL_law_801 : decode cL_law 801 = .ok (.i2l, 1) := by decide +kernel
theorem dL_law_802 : decode cL_law 802 = .ok (.lcmp, 1) := by decide +kernel
theorem dL_law_803 : decode cL_law 803 = .ok (.ifCond .eq 5, 3) := by decide +kernel
theorem dL_law_806 : decode cL_law 806 = .ok (.iconst 0, 1) := by decide +kernel
theorem dL_law_807 : decode cL_law 807 = .ok (.ireturn, 1) := by decide +kernel
theorem dL_law_808 : decode cL_law 808 = .ok (.goto 1125, 3) := by decide +kernel
theorem dL_law_811 : decode cL_law 811 = .ok (.aload_n 1, 1) := by decide +kernel
theorem dL_law_812 : decode cL_law 812 = .ok (.aload_n 0, 1) := by decide +kernel
theorem dL_law_813 : decode cL_law 813 = .ok (.iload 5, 2) := by decide +kernel
theorem dL_law_815 : decode cL_law 815 = .ok (.iconst 1, 1) := by decide +kernel
theorem dL_law_816 : decode cL_law 816 = .ok (.iadd, 1) := by decide +kernel
theorem dL_law_817 : decode cL_law 817 = .ok (.iaload, 1) := by decide +kernel
theorem dL_law_818 : decode cL_law 818 = .ok (.aload_n 0, 1) := by decide +kernel
theorem dL_law_819 : decode cL_law 819 = .ok (.iload 5, 2) := by decide +kernel
theorem dL_law_821 : decode cL_law 821 = .ok (.iconst 2, 1) := by decide +kernel
theorem dL_law_822 : decode cL_law 822 = .ok (.iadd, 1) := by decide +kernel
theorem dL_law_823 : decode cL_law 823 = .ok (.iaload, 1) := by decide +kernel
theorem dL_law_824 : decode cL_law 824 = .ok (.aload_n 0, 1) := by decide +kernel
theorem dL_law_825 : decode cL_law 825 = .ok (.iload 5, 2) := by decide +kernel
theorem dL_law_827 : decode cL_law 827 = .ok (.iconst 3, 1) := by decide +kernel
theorem dL_law_828 : decode cL_law 828 = .ok (.iadd, 1) := by decide +kernel
theorem dL_law_829 : decode cL_law 829 = .ok (.iaload, 1) := by decide +kernel
theorem dL_law_830 : decode cL_law 830 = .ok (.aload_n 3, 1) := by decide +kernel
theorem dL_law_831 : decode cL_law 831 = .ok (.invokestatic 153, 3) := by decide +kernel
theorem dL_law_834 : decode cL_law 834 = .ok (.istore 6, 2) := by decide +kernel
theorem dL_law_836 : decode cL_law 836 = .ok (.aload_n 2, 1) := by decide +kernel
theorem dL_law_837 : decode cL_law 837 = .ok (.aload_n 0, 1) := by decide +kernel
theorem dL_law_838 : decode cL_law 838 = .ok (.iload 5, 2) := by decide +kernel
theorem dL_law_840 : decode cL_law 840 = .ok (.iconst 1, 1) := by decide +kernel
theorem dL_law_841 : decode cL_law 841 = .ok (.iadd, 1) := by decide +kernel
theorem dL_law_842 : decode cL_law 842 = .ok (.iaload, 1) := by decide +kernel
theorem dL_law_843 : decode cL_law 843 = .ok (.aload_n 0, 1) := by decide +kernel
theorem dL_law_844 : decode cL_law 844 = .ok (.iload 5, 2) := by decide +kernel
theorem dL_law_846 : decode cL_law 846 = .ok (.iconst 2, 1) := by decide +kernel
theorem dL_law_847 : decode cL_law 847 = .ok (.iadd, 1) := by decide +kernel
theorem dL_law_848 : decode cL_law 848 = .ok (.iaload, 1) := by decide +kernel
theorem dL_law_849 : decode cL_law 849 = .ok (.aload_n 0, 1) := by decide +kernel
theorem dL_law_850 : decode cL_law 850 = .ok (.iload 5, 2) := by decide +kernel
theorem dL_law_852 : decode cL_law 852 = .ok (.iconst 3, 1) := by decide +kernel
theorem dL_law_853 : decode cL_law 853 = .ok (.iadd, 1) := by decide +kernel
theorem dL_law_854 : decode cL_law 854 = .ok (.iaload, 1) := by decide +kernel
theorem dL_law_855 : decode cL_law 855 = .ok (.invokevirtual 155, 3) := by decide +kernel
theorem dL_law_858 : decode cL_law 858 = .ok (.istore 7, 2) := by decide +kernel
theorem dL_law_860 : decode cL_law 860 = .ok (.aload_n 2, 1) := by decide +kernel
theorem dL_law_861 : decode cL_law 861 = .ok (.invokevirtual 115, 3) := by decide +kernel
theorem dL_law_864 : decode cL_law 864 = .ok (.iload 6, 2) := by decide +kernel
theorem dL_law_866 : decode cL_law 866 = .ok (.if_icmp .eq 5, 3) := by decide +kernel
theorem dL_law_869 : decode cL_law 869 = .ok (.iconst 0, 1) := by decide +kernel
theorem dL_law_870 : decode cL_law 870 = .ok (.ireturn, 1) := by decide +kernel
theorem dL_law_871 : decode cL_law 871 = .ok (.iload 6, 2) := by decide +kernel
theorem dL_law_873 : decode cL_law 873 = .ok (.ifCond .ne 15, 3) := by decide +kernel
theorem dL_law_876 : decode cL_law 876 = .ok (.aload_n 3, 1) := by decide +kernel
theorem dL_law_877 : decode cL_law 877 = .ok (.iconst 0, 1) := by decide +kernel
theorem dL_law_878 : decode cL_law 878 = .ok (.laload, 1) := by decide +kernel
theorem dL_law_879 : decode cL_law 879 = .ok (.iload 7, 2) := by decide +kernel
theorem dL_law_881 : decode cL_law 881 = .ok (.i2l, 1) := by decide +kernel
theorem dL_law_882 : decode cL_law 882 = .ok (.lcmp, 1) := by decide +kernel
theorem dL_law_883 : decode cL_law 883 = .ok (.ifCond .eq 5, 3) := by decide +kernel
theorem dL_law_886 : decode cL_law 886 = .ok (.iconst 0, 1) := by decide +kernel
theorem dL_law_887 : decode cL_law 887 = .ok (.ireturn, 1) := by decide +kernel
theorem dL_law_888 : decode cL_law 888 = .ok (.goto 1045, 3) := by decide +kernel
theorem dL_law_891 : decode cL_law 891 = .ok (.aload_n 1, 1) := by decide +kernel
theorem dL_law_892 : decode cL_law 892 = .ok (.aload_n 0, 1) := by decide +kernel
theorem dL_law_893 : decode cL_law 893 = .ok (.iload 5, 2) := by decide +kernel
theorem dL_law_895 : decode cL_law 895 = .ok (.iconst 1, 1) := by decide +kernel
theorem dL_law_896 : decode cL_law 896 = .ok (.iadd, 1) := by decide +kernel
theorem dL_law_897 : decode cL_law 897 = .ok (.iaload, 1) := by decide +kernel
theorem dL_law_898 : decode cL_law 898 = .ok (.aload_n 3, 1) := by decide +kernel
theorem dL_law_899 : decode cL_law 899 = .ok (.invokestatic 156, 3) := by decide +kernel
theorem dL_law_902 : decode cL_law 902 = .ok (.istore 6, 2) := by decide +kernel
theorem dL_law_904 : decode cL_law 904 = .ok (.aload_n 2, 1) := by decide +kernel
theorem dL_law_905 : decode cL_law 905 = .ok (.aload_n 0, 1) := by decide +kernel
theorem dL_law_906 : decode cL_law 906 = .ok (.iload 5, 2) := by decide +kernel
theorem dL_law_908 : decode cL_law 908 = .ok (.iconst 1, 1) := by decide +kernel
theorem dL_law_909 : decode cL_law 909 = .ok (.iadd, 1) := by decide +kernel
theorem dL_law_910 : decode cL_law 910 = .ok (.iaload, 1) := by decide +kernel
theorem dL_law_911 : decode cL_law 911 = .ok (.invokevirtual 158, 3) := by decide +kernel
theorem dL_law_914 : decode cL_law 914 = .ok (.istore 7, 2) := by decide +kernel
theorem dL_law_916 : decode cL_law 916 = .ok (.aload_n 2, 1) := by decide +kernel
theorem dL_law_917 : decode cL_law 917 = .ok (.invokevirtual 115, 3) := by decide +kernel
theorem dL_law_920 : decode cL_law 920 = .ok (.iload 6, 2) := by decide +kernel
theorem dL_law_922 : decode cL_law 922 = .ok (.if_icmp .eq 5, 3) := by decide +kernel
theorem dL_law_925 : decode cL_law 925 = .ok (.iconst 0, 1) := by decide +kernel
theorem dL_law_926 : decode cL_law 926 = .ok (.ireturn, 1) := by decide +kernel
theorem dL_law_927 : decode cL_law 927 = .ok (.iload 6, 2) := by decide +kernel
theorem dL_law_929 : decode cL_law 929 = .ok (.ifCond .ne 15, 3) := by decide +kernel
theorem dL_law_932 : decode cL_law 932 = .ok (.aload_n 3, 1) := by decide +kernel
theorem dL_law_933 : decode cL_law 933 = .ok (.iconst 0, 1) := by decide +kernel
theorem dL_law_934 : decode cL_law 934 = .ok (.laload, 1) := by decide +kernel
theorem dL_law_935 : decode cL_law 935 = .ok (.iload 7, 2) := by decide +kernel
theorem dL_law_937 : decode cL_law 937 = .ok (.i2l, 1) := by decide +kernel
theorem dL_law_938 : decode cL_law 938 = .ok (.lcmp, 1) := by decide +kernel
theorem dL_law_939 : decode cL_law 939 = .ok (.ifCond .eq 5, 3) := by decide +kernel
theorem dL_law_942 : decode cL_law 942 = .ok (.iconst 0, 1) := by decide +kernel
theorem dL_law_943 : decode cL_law 943 = .ok (.ireturn, 1) := by decide +kernel
theorem dL_law_944 : decode cL_law 944 = .ok (.goto 989, 3) := by decide +kernel
theorem dL_law_947 : decode cL_law 947 = .ok (.aload_n 1, 1) := by decide +kernel
theorem dL_law_948 : decode cL_law 948 = .ok (.aload_n 0, 1) := by decide +kernel
theorem dL_law_949 : decode cL_law 949 = .ok (.iload 5, 2) := by decide +kernel
theorem dL_law_951 : decode cL_law 951 = .ok (.iconst 1, 1) := by decide +kernel
theorem dL_law_952 : decode cL_law 952 = .ok (.iadd, 1) := by decide +kernel
theorem dL_law_953 : decode cL_law 953 = .ok (.iaload, 1) := by decide +kernel
theorem dL_law_954 : decode cL_law 954 = .ok (.aload_n 3, 1) := by decide +kernel
theorem dL_law_955 : decode cL_law 955 = .ok (.invokestatic 159, 3) := by decide +kernel
theorem dL_law_958 : decode cL_law 958 = .ok (.istore 6, 2) := by decide +kernel
theorem dL_law_960 : decode cL_law 960 = .ok (.aload_n 2, 1) := by decide +kernel
theorem dL_law_961 : decode cL_law 961 = .ok (.aload_n 0, 1) := by decide +kernel
theorem dL_law_962 : decode cL_law 962 = .ok (.iload 5, 2) := by decide +kernel
theorem dL_law_964 : decode cL_law 964 = .ok (.iconst 1, 1) := by decide +kernel
theorem dL_law_965 : decode cL_law 965 = .ok (.iadd, 1) := by decide +kernel
theorem dL_law_966 : decode cL_law 966 = .ok (.iaload, 1) := by decide +kernel
theorem dL_law_967 : decode cL_law 967 = .ok (.invokevirtual 161, 3) := by decide +kernel
theorem dL_law_970 : decode cL_law 970 = .ok (.istore 7, 2) := by decide +kernel
theorem dL_law_972 : decode cL_law 972 = .ok (.aload_n 2, 1) := by decide +kernel
theorem dL_law_973 : decode cL_law 973 = .ok (.invokevirtual 115, 3) := by decide +kernel
theorem dL_law_976 : decode cL_law 976 = .ok (.iload 6, 2) := by decide +kernel
theorem dL_law_978 : decode cL_law 978 = .ok (.if_icmp .eq 5, 3) := by decide +kernel
theorem dL_law_981 : decode cL_law 981 = .ok (.iconst 0, 1) := by decide +kernel
theorem dL_law_982 : decode cL_law 982 = .ok (.ireturn, 1) := by decide +kernel
theorem dL_law_983 : decode cL_law 983 = .ok (.iload 6, 2) := by decide +kernel
theorem dL_law_985 : decode cL_law 985 = .ok (.ifCond .ne 22, 3) := by decide +kernel
theorem dL_law_988 : decode cL_law 988 = .ok (.aload_n 3, 1) := by decide +kernel
theorem dL_law_989 : decode cL_law 989 = .ok (.iconst 0, 1) := by decide +kernel
theorem dL_law_990 : decode cL_law 990 = .ok (.laload, 1) := by decide +kernel
theorem dL_law_991 : decode cL_law 991 = .ok (.iload 7, 2) := by decide +kernel
theorem dL_law_993 : decode cL_law 993 = .ok (.ifCond .eq 7, 3) := by decide +kernel
theorem dL_law_996 : decode cL_law 996 = .ok (.lconst 1, 1) := by decide +kernel
theorem dL_law_997 : decode cL_law 997 = .ok (.goto 4, 3) := by decide +kernel
theorem dL_law_1000 : decode cL_law 1000 = .ok (.lconst 0, 1) := by decide +kernel
theorem dL_law_1001 : decode cL_law 1001 = .ok (.lcmp, 1) := by decide +kernel
theorem dL_law_1002 : decode cL_law 1002 = .ok (.ifCond .eq 5, 3) := by decide +kernel
theorem dL_law_1005 : decode cL_law 1005 = .ok (.iconst 0, 1) := by decide +kernel
theorem dL_law_1006 : decode cL_law 1006 = .ok (.ireturn, 1) := by decide +kernel
theorem dL_law_1007 : decode cL_law 1007 = .ok (.goto 926, 3) := by decide +kernel
theorem dL_law_1010 : decode cL_law 1010 = .ok (.aload_n 1, 1) := by decide +kernel
theorem dL_law_1011 : decode cL_law 1011 = .ok (.aload_n 0, 1) := by decide +kernel
theorem dL_law_1012 : decode cL_law 1012 = .ok (.iload 5, 2) := by decide +kernel
theorem dL_law_1014 : decode cL_law 1014 = .ok (.iconst 1, 1) := by decide +kernel
theorem dL_law_1015 : decode cL_law 1015 = .ok (.iadd, 1) := by decide +kernel
theorem dL_law_1016 : decode cL_law 1016 = .ok (.iaload, 1) := by decide +kernel
theorem dL_law_1017 : decode cL_law 1017 = .ok (.aload_n 0, 1) := by decide +kernel
theorem dL_law_1018 : decode cL_law 1018 = .ok (.iload 5, 2) := by decide +kernel
theorem dL_law_1020 : decode cL_law 1020 = .ok (.iconst 2, 1) := by decide +kernel
theorem dL_law_1021 : decode cL_law 1021 = .ok (.iadd, 1) := by decide +kernel
theorem dL_law_1022 : decode cL_law 1022 = .ok (.iaload, 1) := by decide +kernel
theorem dL_law_1023 : decode cL_law 1023 = .ok (.aload_n 3, 1) := by decide +kernel
theorem dL_law_1024 : decode cL_law 1024 = .ok (.invokestatic 162, 3) := by decide +kernel
theorem dL_law_1027 : decode cL_law 1027 = .ok (.istore 6, 2) := by decide +kernel
theorem dL_law_1029 : decode cL_law 1029 = .ok (.aload_n 2, 1) := by decide +kernel
theorem dL_law_1030 : decode cL_law 1030 = .ok (.aload_n 0, 1) := by decide +kernel
theorem dL_law_1031 : decode cL_law 1031 = .ok (.iload 5, 2) := by decide +kernel
theorem dL_law_1033 : decode cL_law 1033 = .ok (.iconst 1, 1) := by decide +kernel
theorem dL_law_1034 : decode cL_law 1034 = .ok (.iadd, 1) := by decide +kernel
theorem dL_law_1035 : decode cL_law 1035 = .ok (.iaload, 1) := by decide +kernel
theorem dL_law_1036 : decode cL_law 1036 = .ok (.aload_n 0, 1) := by decide +kernel
theorem dL_law_1037 : decode cL_law 1037 = .ok (.iload 5, 2) := by decide +kernel
theorem dL_law_1039 : decode cL_law 1039 = .ok (.iconst 2, 1) := by decide +kernel
theorem dL_law_1040 : decode cL_law 1040 = .ok (.iadd, 1) := by decide +kernel
theorem dL_law_1041 : decode cL_law 1041 = .ok (.iaload, 1) := by decide +kernel
theorem dL_law_1042 : decode cL_law 1042 = .ok (.invokevirtual 164, 3) := by decide +kernel
theorem dL_law_1045 : decode cL_law 1045 = .ok (.istore 7, 2) := by decide +kernel
theorem dL_law_1047 : decode cL_law 1047 = .ok (.aload_n 2, 1) := by decide +kernel
theorem dL_law_1048 : decode cL_law 1048 = .ok (.invokevirtual 115, 3) := by decide +kernel
theorem dL_law_1051 : decode cL_law 1051 = .ok (.iload 6, 2) := by decide +kernel
theorem dL_law_1053 : decode cL_law 1053 = .ok (.if_icmp .eq 5, 3) := by decide +kernel
theorem dL_law_1056 : decode cL_law 1056 = .ok (.iconst 0, 1) := by decide +kernel
theorem dL_law_1057 : decode cL_law 1057 = .ok (.ireturn, 1) := by decide +kernel
theorem dL_law_1058 : decode cL_law 1058 = .ok (.iload 6, 2) := by decide +kernel
theorem dL_law_1060 : decode cL_law 1060 = .ok (.ifCond .ne 15, 3) := by decide +kernel
theorem dL_law_1063 : decode cL_law 1063 = .ok (.aload_n 3, 1) := by decide +kernel
theorem dL_law_1064 : decode cL_law 1064 = .ok (.iconst 0, 1) := by decide +kernel
theorem dL_law_1065 : decode cL_law 1065 = .ok (.laload, 1) := by decide +kernel
theorem dL_law_1066 : decode cL_law 1066 = .ok (.iload 7, 2) := by decide +kernel
theorem dL_law_1068 : decode cL_law 1068 = .ok (.i2l, 1) := by decide +kernel
theorem dL_law_1069 : decode cL_law 1069 = .ok (.lcmp, 1) := by decide +kernel
theorem dL_law_1070 : decode cL_law 1070 = .ok (.ifCond .eq 5, 3) := by decide +kernel
theorem dL_law_1073 : decode cL_law 1073 = .ok (.iconst 0, 1) := by decide +kernel
theorem dL_law_1074 : decode cL_law 1074 = .ok (.ireturn, 1) := by decide +kernel
theorem dL_law_1075 : decode cL_law 1075 = .ok (.goto 858, 3) := by decide +kernel
theorem dL_law_1078 : decode cL_law 1078 = .ok (.aload_n 1, 1) := by decide +kernel
theorem dL_law_1079 : decode cL_law 1079 = .ok (.aload_n 0, 1) := by decide +kernel
theorem dL_law_1080 : decode cL_law 1080 = .ok (.iload 5, 2) := by decide +kernel
theorem dL_law_1082 : decode cL_law 1082 = .ok (.iconst 1, 1) := by decide +kernel
theorem dL_law_1083 : decode cL_law 1083 = .ok (.iadd, 1) := by decide +kernel
theorem dL_law_1084 : decode cL_law 1084 = .ok (.iaload, 1) := by decide +kernel
theorem dL_law_1085 : decode cL_law 1085 = .ok (.aload_n 0, 1) := by decide +kernel
theorem dL_law_1086 : decode cL_law 1086 = .ok (.iload 5, 2) := by decide +kernel
theorem dL_law_1088 : decode cL_law 1088 = .ok (.iconst 2, 1) := by decide +kernel
theorem dL_law_1089 : decode cL_law 1089 = .ok (.iadd, 1) := by decide +kernel
theorem dL_law_1090 : decode cL_law 1090 = .ok (.iaload, 1) := by decide +kernel
theorem dL_law_1091 : decode cL_law 1091 = .ok (.aload_n 3, 1) := by decide +kernel
theorem dL_law_1092 : decode cL_law 1092 = .ok (.invokestatic 165, 3) := by decide +kernel
theorem dL_law_1095 : decode cL_law 1095 = .ok (.istore 6, 2) := by decide +kernel
theorem dL_law_1097 : decode cL_law 1097 = .ok (.aload_n 2, 1) := by decide +kernel
theorem dL_law_1098 : decode cL_law 1098 = .ok (.aload_n 0, 1) := by decide +kernel
theorem dL_law_1099 : decode cL_law 1099 = .ok (.iload 5, 2) := by decide +kernel
theorem dL_law_1101 : decode cL_law 1101 = .ok (.iconst 1, 1) := by decide +kernel
theorem dL_law_1102 : decode cL_law 1102 = .ok (.iadd, 1) := by decide +kernel
theorem dL_law_1103 : decode cL_law 1103 = .ok (.iaload, 1) := by decide +kernel
theorem dL_law_1104 : decode cL_law 1104 = .ok (.aload_n 0, 1) := by decide +kernel
theorem dL_law_1105 : decode cL_law 1105 = .ok (.iload 5, 2) := by decide +kernel
theorem dL_law_1107 : decode cL_law 1107 = .ok (.iconst 2, 1) := by decide +kernel
theorem dL_law_1108 : decode cL_law 1108 = .ok (.iadd, 1) := by decide +kernel
theorem dL_law_1109 : decode cL_law 1109 = .ok (.iaload, 1) := by decide +kernel
theorem dL_law_1110 : decode cL_law 1110 = .ok (.invokevirtual 167, 3) := by decide +kernel
theorem dL_law_1113 : decode cL_law 1113 = .ok (.istore 7, 2) := by decide +kernel
theorem dL_law_1115 : decode cL_law 1115 = .ok (.aload_n 2, 1) := by decide +kernel
theorem dL_law_1116 : decode cL_law 1116 = .ok (.invokevirtual 115, 3) := by decide +kernel
theorem dL_law_1119 : decode cL_law 1119 = .ok (.iload 6, 2) := by decide +kernel
theorem dL_law_1121 : decode cL_law 1121 = .ok (.if_icmp .eq 5, 3) := by decide +kernel
theorem dL_law_1124 : decode cL_law 1124 = .ok (.iconst 0, 1) := by decide +kernel
theorem dL_law_1125 : decode cL_law 1125 = .ok (.ireturn, 1) := by decide +kernel
theorem dL_law_1126 : decode cL_law 1126 = .ok (.iload 6, 2) := by decide +kernel
theorem dL_law_1128 : decode cL_law 1128 = .ok (.ifCond .ne 22, 3) := by decide +kernel
theorem dL_law_1131 : decode cL_law 1131 = .ok (.aload_n 3, 1) := by decide +kernel
theorem dL_law_1132 : decode cL_law 1132 = .ok (.iconst 0, 1) := by decide +kernel
theorem dL_law_1133 : decode cL_law 1133 = .ok (.laload, 1) := by decide +kernel
theorem dL_law_1134 : decode cL_law 1134 = .ok (.iload 7, 2) := by decide +kernel
theorem dL_law_1136 : decode cL_law 1136 = .ok (.ifCond .eq 7, 3) := by decide +kernel
theorem dL_law_1139 : decode cL_law 1139 = .ok (.lconst 1, 1) := by decide +kernel
theorem dL_law_1140 : decode cL_law 1140 = .ok (.goto 4, 3) := by decide +kernel
theorem dL_law_1143 : decode cL_law 1143 = .ok (.lconst 0, 1) := by decide +kernel
theorem dL_law_1144 : decode cL_law 1144 = .ok (.lcmp, 1) := by decide +kernel
theorem dL_law_1145 : decode cL_law 1145 = .ok (.ifCond .eq 5, 3) := by decide +kernel
theorem dL_law_1148 : decode cL_law 1148 = .ok (.iconst 0, 1) := by decide +kernel
theorem dL_law_1149 : decode cL_law 1149 = .ok (.ireturn, 1) := by decide +kernel
theorem dL_law_1150 : decode cL_law 1150 = .ok (.goto 783, 3) := by decide +kernel
theorem dL_law_1153 : decode cL_law 1153 = .ok (.aload_n 1, 1) := by decide +kernel
theorem dL_law_1154 : decode cL_law 1154 = .ok (.aload_n 0, 1) := by decide +kernel
theorem dL_law_1155 : decode cL_law 1155 = .ok (.iload 5, 2) := by decide +kernel
theorem dL_law_1157 : decode cL_law 1157 = .ok (.iconst 1, 1) := by decide +kernel
theorem dL_law_1158 : decode cL_law 1158 = .ok (.iadd, 1) := by decide +kernel
theorem dL_law_1159 : decode cL_law 1159 = .ok (.iaload, 1) := by decide +kernel
theorem dL_law_1160 : decode cL_law 1160 = .ok (.aload_n 0, 1) := by decide +kernel
theorem dL_law_1161 : decode cL_law 1161 = .ok (.iload 5, 2) := by decide +kernel
theorem dL_law_1163 : decode cL_law 1163 = .ok (.iconst 2, 1) := by decide +kernel
theorem dL_law_1164 : decode cL_law 1164 = .ok (.iadd, 1) := by decide +kernel
theorem dL_law_1165 : decode cL_law 1165 = .ok (.iaload, 1) := by decide +kernel
theorem dL_law_1166 : decode cL_law 1166 = .ok (.aload_n 3, 1) := by decide +kernel
theorem dL_law_1167 : decode cL_law 1167 = .ok (.invokestatic 168, 3) := by decide +kernel
theorem dL_law_1170 : decode cL_law 1170 = .ok (.istore 6, 2) := by decide +kernel
theorem dL_law_1172 : decode cL_law 1172 = .ok (.aload_n 2, 1) := by decide +kernel
theorem dL_law_1173 : decode cL_law 1173 = .ok (.aload_n 0, 1) := by decide +kernel
theorem dL_law_1174 : decode cL_law 1174 = .ok (.iload 5, 2) := by decide +kernel
theorem dL_law_1176 : decode cL_law 1176 = .ok (.iconst 1, 1) := by decide +kernel
theorem dL_law_1177 : decode cL_law 1177 = .ok (.iadd, 1) := by decide +kernel
theorem dL_law_1178 : decode cL_law 1178 = .ok (.iaload, 1) := by decide +kernel
theorem dL_law_1179 : decode cL_law 1179 = .ok (.aload_n 0, 1) := by decide +kernel
theorem dL_law_1180 : decode cL_law 1180 = .ok (.iload 5, 2) := by decide +kernel
theorem dL_law_1182 : decode cL_law 1182 = .ok (.iconst 2, 1) := by decide +kernel
theorem dL_law_1183 : decode cL_law 1183 = .ok (.iadd, 1) := by decide +kernel
theorem dL_law_1184 : decode cL_law 1184 = .ok (.iaload, 1) := by decide +kernel
theorem dL_law_1185 : decode cL_law 1185 = .ok (.invokevirtual 170, 3) := by decide +kernel
theorem dL_law_1188 : decode cL_law 1188 = .ok (.istore 7, 2) := by decide +kernel
theorem dL_law_1190 : decode cL_law 1190 = .ok (.aload_n 2, 1) := by decide +kernel
theorem dL_law_1191 : decode cL_law 1191 = .ok (.invokevirtual 115, 3) := by decide +kernel
theorem dL_law_1194 : decode cL_law 1194 = .ok (.iload 6, 2) := by decide +kernel
theorem dL_law_1196 : decode cL_law 1196 = .ok (.if_icmp .eq 5, 3) := by decide +kernel
theorem dL_law_1199 : decode cL_law 1199 = .ok (.iconst 0, 1) := by decide +kernel
theorem dL_law_1200 : decode cL_law 1200 = .ok (.ireturn, 1) := by decide +kernel
theorem dL_law_1201 : decode cL_law 1201 = .ok (.iload 6, 2) := by decide +kernel
theorem dL_law_1203 : decode cL_law 1203 = .ok (.ifCond .ne 15, 3) := by decide +kernel
theorem dL_law_1206 : decode cL_law 1206 = .ok (.aload_n 3, 1) := by decide +kernel
theorem dL_law_1207 : decode cL_law 1207 = .ok (.iconst 0, 1) := by decide +kernel
theorem dL_law_1208 : decode cL_law 1208 = .ok (.laload, 1) := by decide +kernel
theorem dL_law_1209 : decode cL_law 1209 = .ok (.iload 7, 2) := by decide +kernel
theorem dL_law_1211 : decode cL_law 1211 = .ok (.i2l, 1) := by decide +kernel
theorem dL_law_1212 : decode cL_law 1212 = .ok (.lcmp, 1) := by decide +kernel
theorem dL_law_1213 : decode cL_law 1213 = .ok (.ifCond .eq 5, 3) := by decide +kernel
theorem dL_law_1216 : decode cL_law 1216 = .ok (.iconst 0, 1) := by decide +kernel
theorem dL_law_1217 : decode cL_law 1217 = .ok (.ireturn, 1) := by decide +kernel
theorem dL_law_1218 : decode cL_law 1218 = .ok (.goto 715, 3) := by decide +kernel
theorem dL_law_1221 : decode cL_law 1221 = .ok (.aload_n 1, 1) := by decide +kernel
theorem dL_law_1222 : decode cL_law 1222 = .ok (.aload_n 0, 1) := by decide +kernel
theorem dL_law_1223 : decode cL_law 1223 = .ok (.iload 5, 2) := by decide +kernel
theorem dL_law_1225 : decode cL_law 1225 = .ok (.iconst 1, 1) := by decide +kernel
theorem dL_law_1226 : decode cL_law 1226 = .ok (.iadd, 1) := by decide +kernel
theorem dL_law_1227 : decode cL_law 1227 = .ok (.iaload, 1) := by decide +kernel
theorem dL_law_1228 : decode cL_law 1228 = .ok (.aload_n 0, 1) := by decide +kernel
theorem dL_law_1229 : decode cL_law 1229 = .ok (.iload 5, 2) := by decide +kernel
theorem dL_law_1231 : decode cL_law 1231 = .ok (.iconst 2, 1) := by decide +kernel
theorem dL_law_1232 : decode cL_law 1232 = .ok (.iadd, 1) := by decide +kernel
theorem dL_law_1233 : decode cL_law 1233 = .ok (.iaload, 1) := by decide +kernel
theorem dL_law_1234 : decode cL_law 1234 = .ok (.aload_n 3, 1) := by decide +kernel
theorem dL_law_1235 : decode cL_law 1235 = .ok (.invokestatic 171, 3) := by decide +kernel
theorem dL_law_1238 : decode cL_law 1238 = .ok (.istore 6, 2) := by decide +kernel
theorem dL_law_1240 : decode cL_law 1240 = .ok (.aload_n 2, 1) := by decide +kernel
theorem dL_law_1241 : decode cL_law 1241 = .ok (.aload_n 0, 1) := by decide +kernel
theorem dL_law_1242 : decode cL_law 1242 = .ok (.iload 5, 2) := by decide +kernel
theorem dL_law_1244 : decode cL_law 1244 = .ok (.iconst 1, 1) := by decide +kernel
theorem dL_law_1245 : decode cL_law 1245 = .ok (.iadd, 1) := by decide +kernel
theorem dL_law_1246 : decode cL_law 1246 = .ok (.iaload, 1) := by decide +kernel
theorem dL_law_1247 : decode cL_law 1247 = .ok (.aload_n 0, 1) := by decide +kernel
theorem dL_law_1248 : decode cL_law 1248 = .ok (.iload 5, 2) := by decide +kernel
theorem dL_law_1250 : decode cL_law 1250 = .ok (.iconst 2, 1) := by decide +kernel
theorem dL_law_1251 : decode cL_law 1251 = .ok (.iadd, 1) := by decide +kernel
theorem dL_law_1252 : decode cL_law 1252 = .ok (.iaload, 1) := by decide +kernel
theorem dL_law_1253 : decode cL_law 1253 = .ok (.invokevirtual 173, 3) := by decide +kernel
theorem dL_law_1256 : decode cL_law 1256 = .ok (.istore 7, 2) := by decide +kernel
theorem dL_law_1258 : decode cL_law 1258 = .ok (.aload_n 2, 1) := by decide +kernel
theorem dL_law_1259 : decode cL_law 1259 = .ok (.invokevirtual 115, 3) := by decide +kernel
theorem dL_law_1262 : decode cL_law 1262 = .ok (.iload 6, 2) := by decide +kernel
theorem dL_law_1264 : decode cL_law 1264 = .ok (.if_icmp .eq 5, 3) := by decide +kernel
theorem dL_law_1267 : decode cL_law 1267 = .ok (.iconst 0, 1) := by decide +kernel
theorem dL_law_1268 : decode cL_law 1268 = .ok (.ireturn, 1) := by decide +kernel
theorem dL_law_1269 : decode cL_law 1269 = .ok (.iload 6, 2) := by decide +kernel
theorem dL_law_1271 : decode cL_law 1271 = .ok (.ifCond .ne 15, 3) := by decide +kernel
theorem dL_law_1274 : decode cL_law 1274 = .ok (.aload_n 3, 1) := by decide +kernel
theorem dL_law_1275 : decode cL_law 1275 = .ok (.iconst 0, 1) := by decide +kernel
theorem dL_law_1276 : decode cL_law 1276 = .ok (.laload, 1) := by decide +kernel
theorem dL_law_1277 : decode cL_law 1277 = .ok (.iload 7, 2) := by decide +kernel
theorem dL_law_1279 : decode cL_law 1279 = .ok (.i2l, 1) := by decide +kernel
theorem dL_law_1280 : decode cL_law 1280 = .ok (.lcmp, 1) := by decide +kernel
theorem dL_law_1281 : decode cL_law 1281 = .ok (.ifCond .eq 5, 3) := by decide +kernel
theorem dL_law_1284 : decode cL_law 1284 = .ok (.iconst 0, 1) := by decide +kernel
theorem dL_law_1285 : decode cL_law 1285 = .ok (.ireturn, 1) := by decide +kernel
theorem dL_law_1286 : decode cL_law 1286 = .ok (.goto 647, 3) := by decide +kernel
theorem dL_law_1289 : decode cL_law 1289 = .ok (.aload_n 1, 1) := by decide +kernel
theorem dL_law_1290 : decode cL_law 1290 = .ok (.aload_n 0, 1) := by decide +kernel
theorem dL_law_1291 : decode cL_law 1291 = .ok (.iload 5, 2) := by decide +kernel
theorem dL_law_1293 : decode cL_law 1293 = .ok (.iconst 1, 1) := by decide +kernel
theorem dL_law_1294 : decode cL_law 1294 = .ok (.iadd, 1) := by decide +kernel
theorem dL_law_1295 : decode cL_law 1295 = .ok (.iaload, 1) := by decide +kernel
theorem dL_law_1296 : decode cL_law 1296 = .ok (.aload_n 3, 1) := by decide +kernel
theorem dL_law_1297 : decode cL_law 1297 = .ok (.invokestatic 174, 3) := by decide +kernel
theorem dL_law_1300 : decode cL_law 1300 = .ok (.istore 6, 2) := by decide +kernel
theorem dL_law_1302 : decode cL_law 1302 = .ok (.aload_n 2, 1) := by decide +kernel
theorem dL_law_1303 : decode cL_law 1303 = .ok (.aload_n 0, 1) := by decide +kernel
theorem dL_law_1304 : decode cL_law 1304 = .ok (.iload 5, 2) := by decide +kernel
theorem dL_law_1306 : decode cL_law 1306 = .ok (.iconst 1, 1) := by decide +kernel
theorem dL_law_1307 : decode cL_law 1307 = .ok (.iadd, 1) := by decide +kernel
theorem dL_law_1308 : decode cL_law 1308 = .ok (.iaload, 1) := by decide +kernel
theorem dL_law_1309 : decode cL_law 1309 = .ok (.invokevirtual 176, 3) := by decide +kernel
theorem dL_law_1312 : decode cL_law 1312 = .ok (.istore 7, 2) := by decide +kernel
theorem dL_law_1314 : decode cL_law 1314 = .ok (.aload_n 2, 1) := by decide +kernel
theorem dL_law_1315 : decode cL_law 1315 = .ok (.invokevirtual 115, 3) := by decide +kernel
theorem dL_law_1318 : decode cL_law 1318 = .ok (.iload 6, 2) := by decide +kernel
theorem dL_law_1320 : decode cL_law 1320 = .ok (.if_icmp .eq 5, 3) := by decide +kernel
theorem dL_law_1323 : decode cL_law 1323 = .ok (.iconst 0, 1) := by decide +kernel
theorem dL_law_1324 : decode cL_law 1324 = .ok (.ireturn, 1) := by decide +kernel
theorem dL_law_1325 : decode cL_law 1325 = .ok (.iload 6, 2) := by decide +kernel
theorem dL_law_1327 : decode cL_law 1327 = .ok (.ifCond .ne 15, 3) := by decide +kernel
theorem dL_law_1330 : decode cL_law 1330 = .ok (.aload_n 3, 1) := by decide +kernel
theorem dL_law_1331 : decode cL_law 1331 = .ok (.iconst 0, 1) := by decide +kernel
theorem dL_law_1332 : decode cL_law 1332 = .ok (.laload, 1) := by decide +kernel
theorem dL_law_1333 : decode cL_law 1333 = .ok (.iload 7, 2) := by decide +kernel
theorem dL_law_1335 : decode cL_law 1335 = .ok (.i2l, 1) := by decide +kernel
theorem dL_law_1336 : decode cL_law 1336 = .ok (.lcmp, 1) := by decide +kernel
theorem dL_law_1337 : decode cL_law 1337 = .ok (.ifCond .eq 5, 3) := by decide +kernel
theorem dL_law_1340 : decode cL_law 1340 = .ok (.iconst 0, 1) := by decide +kernel
theorem dL_law_1341 : decode cL_law 1341 = .ok (.ireturn, 1) := by decide +kernel
theorem dL_law_1342 : decode cL_law 1342 = .ok (.goto 591, 3) := by decide +kernel
theorem dL_law_1345 : decode cL_law 1345 = .ok (.aload_n 1, 1) := by decide +kernel
theorem dL_law_1346 : decode cL_law 1346 = .ok (.aload_n 3, 1) := by decide +kernel
theorem dL_law_1347 : decode cL_law 1347 = .ok (.invokestatic 177, 3) := by decide +kernel
theorem dL_law_1350 : decode cL_law 1350 = .ok (.istore 6, 2) := by decide +kernel
theorem dL_law_1352 : decode cL_law 1352 = .ok (.aload_n 2, 1) := by decide +kernel
theorem dL_law_1353 : decode cL_law 1353 = .ok (.invokevirtual 179, 3) := by decide +kernel
theorem dL_law_1356 : decode cL_law 1356 = .ok (.istore 7, 2) := by decide +kernel
theorem dL_law_1358 : decode cL_law 1358 = .ok (.aload_n 2, 1) := by decide +kernel
theorem dL_law_1359 : decode cL_law 1359 = .ok (.invokevirtual 115, 3) := by decide +kernel
theorem dL_law_1362 : decode cL_law 1362 = .ok (.iload 6, 2) := by decide +kernel
theorem dL_law_1364 : decode cL_law 1364 = .ok (.if_icmp .eq 5, 3) := by decide +kernel
theorem dL_law_1367 : decode cL_law 1367 = .ok (.iconst 0, 1) := by decide +kernel
theorem dL_law_1368 : decode cL_law 1368 = .ok (.ireturn, 1) := by decide +kernel
theorem dL_law_1369 : decode cL_law 1369 = .ok (.iload 6, 2) := by decide +kernel
theorem dL_law_1371 : decode cL_law 1371 = .ok (.ifCond .ne 15, 3) := by decide +kernel
theorem dL_law_1374 : decode cL_law 1374 = .ok (.aload_n 3, 1) := by decide +kernel
theorem dL_law_1375 : decode cL_law 1375 = .ok (.iconst 0, 1) := by decide +kernel
theorem dL_law_1376 : decode cL_law 1376 = .ok (.laload, 1) := by decide +kernel
theorem dL_law_1377 : decode cL_law 1377 = .ok (.iload 7, 2) := by decide +kernel
theorem dL_law_1379 : decode cL_law 1379 = .ok (.i2l, 1) := by decide +kernel
theorem dL_law_1380 : decode cL_law 1380 = .ok (.lcmp, 1) := by decide +kernel
theorem dL_law_1381 : decode cL_law 1381 = .ok (.ifCond .eq 5, 3) := by decide +kernel
theorem dL_law_1384 : decode cL_law 1384 = .ok (.iconst 0, 1) := by decide +kernel
theorem dL_law_1385 : decode cL_law 1385 = .ok (.ireturn, 1) := by decide +kernel
theorem dL_law_1386 : decode cL_law 1386 = .ok (.goto 547, 3) := by decide +kernel
theorem dL_law_1389 : decode cL_law 1389 = .ok (.aload_n 1, 1) := by decide +kernel
theorem dL_law_1390 : decode cL_law 1390 = .ok (.aload_n 0, 1) := by decide +kernel
theorem dL_law_1391 : decode cL_law 1391 = .ok (.iload 5, 2) := by decide +kernel
theorem dL_law_1393 : decode cL_law 1393 = .ok (.iconst 1, 1) := by decide +kernel
theorem dL_law_1394 : decode cL_law 1394 = .ok (.iadd, 1) := by decide +kernel
theorem dL_law_1395 : decode cL_law 1395 = .ok (.iaload, 1) := by decide +kernel
theorem dL_law_1396 : decode cL_law 1396 = .ok (.aload_n 3, 1) := by decide +kernel
theorem dL_law_1397 : decode cL_law 1397 = .ok (.invokestatic 180, 3) := by decide +kernel
theorem dL_law_1400 : decode cL_law 1400 = .ok (.istore 6, 2) := by decide +kernel
theorem dL_law_1402 : decode cL_law 1402 = .ok (.aload_n 2, 1) := by decide +kernel
theorem dL_law_1403 : decode cL_law 1403 = .ok (.aload_n 0, 1) := by decide +kernel
theorem dL_law_1404 : decode cL_law 1404 = .ok (.iload 5, 2) := by decide +kernel
theorem dL_law_1406 : decode cL_law 1406 = .ok (.iconst 1, 1) := by decide +kernel
theorem dL_law_1407 : decode cL_law 1407 = .ok (.iadd, 1) := by decide +kernel
theorem dL_law_1408 : decode cL_law 1408 = .ok (.iaload, 1) := by decide +kernel
theorem dL_law_1409 : decode cL_law 1409 = .ok (.invokevirtual 182, 3) := by decide +kernel
theorem dL_law_1412 : decode cL_law 1412 = .ok (.istore 7, 2) := by decide +kernel
theorem dL_law_1414 : decode cL_law 1414 = .ok (.aload_n 2, 1) := by decide +kernel
theorem dL_law_1415 : decode cL_law 1415 = .ok (.invokevirtual 115, 3) := by decide +kernel
theorem dL_law_1418 : decode cL_law 1418 = .ok (.iload 6, 2) := by decide +kernel
theorem dL_law_1420 : decode cL_law 1420 = .ok (.if_icmp .eq 5, 3) := by decide +kernel
theorem dL_law_1423 : decode cL_law 1423 = .ok (.iconst 0, 1) := by decide +kernel
theorem dL_law_1424 : decode cL_law 1424 = .ok (.ireturn, 1) := by decide +kernel
theorem dL_law_1425 : decode cL_law 1425 = .ok (.iload 6, 2) := by decide +kernel
theorem dL_law_1427 : decode cL_law 1427 = .ok (.ifCond .ne 15, 3) := by decide +kernel
theorem dL_law_1430 : decode cL_law 1430 = .ok (.aload_n 3, 1) := by decide +kernel
theorem dL_law_1431 : decode cL_law 1431 = .ok (.iconst 0, 1) := by decide +kernel
theorem dL_law_1432 : decode cL_law 1432 = .ok (.laload, 1) := by decide +kernel
theorem dL_law_1433 : decode cL_law 1433 = .ok (.iload 7, 2) := by decide +kernel
theorem dL_law_1435 : decode cL_law 1435 = .ok (.i2l, 1) := by decide +kernel
theorem dL_law_1436 : decode cL_law 1436 = .ok (.lcmp, 1) := by decide +kernel
theorem dL_law_1437 : decode cL_law 1437 = .ok (.ifCond .eq 5, 3) := by decide +kernel
theorem dL_law_1440 : decode cL_law 1440 = .ok (.iconst 0, 1) := by decide +kernel
theorem dL_law_1441 : decode cL_law 1441 = .ok (.ireturn, 1) := by decide +kernel
theorem dL_law_1442 : decode cL_law 1442 = .ok (.goto 491, 3) := by decide +kernel
theorem dL_law_1445 : decode cL_law 1445 = .ok (.aload_n 1, 1) := by decide +kernel
theorem dL_law_1446 : decode cL_law 1446 = .ok (.aload_n 0, 1) := by decide +kernel
theorem dL_law_1447 : decode cL_law 1447 = .ok (.iload 5, 2) := by decide +kernel
theorem dL_law_1449 : decode cL_law 1449 = .ok (.iconst 1, 1) := by decide +kernel
theorem dL_law_1450 : decode cL_law 1450 = .ok (.iadd, 1) := by decide +kernel
theorem dL_law_1451 : decode cL_law 1451 = .ok (.iaload, 1) := by decide +kernel
theorem dL_law_1452 : decode cL_law 1452 = .ok (.invokevirtual 183, 3) := by decide +kernel
theorem dL_law_1455 : decode cL_law 1455 = .ok (.aload_n 2, 1) := by decide +kernel
theorem dL_law_1456 : decode cL_law 1456 = .ok (.aload_n 0, 1) := by decide +kernel
theorem dL_law_1457 : decode cL_law 1457 = .ok (.iload 5, 2) := by decide +kernel
theorem dL_law_1459 : decode cL_law 1459 = .ok (.iconst 1, 1) := by decide +kernel
theorem dL_law_1460 : decode cL_law 1460 = .ok (.iadd, 1) := by decide +kernel
theorem dL_law_1461 : decode cL_law 1461 = .ok (.iaload, 1) := by decide +kernel
theorem dL_law_1462 : decode cL_law 1462 = .ok (.invokevirtual 186, 3) := by decide +kernel
theorem dL_law_1465 : decode cL_law 1465 = .ok (.if_icmp .eq 468, 3) := by decide +kernel
theorem dL_law_1468 : decode cL_law 1468 = .ok (.iconst 0, 1) := by decide +kernel
theorem dL_law_1469 : decode cL_law 1469 = .ok (.ireturn, 1) := by decide +kernel
theorem dL_law_1470 : decode cL_law 1470 = .ok (.aload_n 1, 1) := by decide +kernel
theorem dL_law_1471 : decode cL_law 1471 = .ok (.invokevirtual 187, 3) := by decide +kernel
theorem dL_law_1474 : decode cL_law 1474 = .ok (.aload_n 2, 1) := by decide +kernel
theorem dL_law_1475 : decode cL_law 1475 = .ok (.invokevirtual 190, 3) := by decide +kernel
theorem dL_law_1478 : decode cL_law 1478 = .ok (.if_icmp .eq 455, 3) := by decide +kernel
theorem dL_law_1481 : decode cL_law 1481 = .ok (.iconst 0, 1) := by decide +kernel
theorem dL_law_1482 : decode cL_law 1482 = .ok (.ireturn, 1) := by decide +kernel
theorem dL_law_1483 : decode cL_law 1483 = .ok (.aload_n 1, 1) := by decide +kernel
theorem dL_law_1484 : decode cL_law 1484 = .ok (.invokevirtual 191, 3) := by decide +kernel
theorem dL_law_1487 : decode cL_law 1487 = .ok (.aload_n 2, 1) := by decide +kernel
theorem dL_law_1488 : decode cL_law 1488 = .ok (.invokevirtual 194, 3) := by decide +kernel
theorem dL_law_1491 : decode cL_law 1491 = .ok (.if_icmp .eq 442, 3) := by decide +kernel
theorem dL_law_1494 : decode cL_law 1494 = .ok (.iconst 0, 1) := by decide +kernel
theorem dL_law_1495 : decode cL_law 1495 = .ok (.ireturn, 1) := by decide +kernel
theorem dL_law_1496 : decode cL_law 1496 = .ok (.aload_n 1, 1) := by decide +kernel
theorem dL_law_1497 : decode cL_law 1497 = .ok (.invokevirtual 195, 3) := by decide +kernel
theorem dL_law_1500 : decode cL_law 1500 = .ok (.dstore 6, 2) := by decide +kernel
theorem dL_law_1502 : decode cL_law 1502 = .ok (.aload_n 2, 1) := by decide +kernel
theorem dL_law_1503 : decode cL_law 1503 = .ok (.invokevirtual 199, 3) := by decide +kernel
theorem dL_law_1506 : decode cL_law 1506 = .ok (.dstore 8, 2) := by decide +kernel
theorem dL_law_1508 : decode cL_law 1508 = .ok (.dload 6, 2) := by decide +kernel
theorem dL_law_1510 : decode cL_law 1510 = .ok (.dload 8, 2) := by decide +kernel
theorem dL_law_1512 : decode cL_law 1512 = .ok (.dcmp .l, 1) := by decide +kernel
theorem dL_law_1513 : decode cL_law 1513 = .ok (.ifCond .eq 21, 3) := by decide +kernel
theorem dL_law_1516 : decode cL_law 1516 = .ok (.dload 6, 2) := by decide +kernel
theorem dL_law_1518 : decode cL_law 1518 = .ok (.dload 6, 2) := by decide +kernel
theorem dL_law_1520 : decode cL_law 1520 = .ok (.dcmp .l, 1) := by decide +kernel
theorem dL_law_1521 : decode cL_law 1521 = .ok (.ifCond .eq 11, 3) := by decide +kernel
theorem dL_law_1524 : decode cL_law 1524 = .ok (.dload 8, 2) := by decide +kernel
theorem dL_law_1526 : decode cL_law 1526 = .ok (.dload 8, 2) := by decide +kernel
theorem dL_law_1528 : decode cL_law 1528 = .ok (.dcmp .l, 1) := by decide +kernel
theorem dL_law_1529 : decode cL_law 1529 = .ok (.ifCond .ne 5, 3) := by decide +kernel
theorem dL_law_1532 : decode cL_law 1532 = .ok (.iconst 0, 1) := by decide +kernel
theorem dL_law_1533 : decode cL_law 1533 = .ok (.ireturn, 1) := by decide +kernel
theorem dL_law_1534 : decode cL_law 1534 = .ok (.goto 399, 3) := by decide +kernel
theorem dL_law_1537 : decode cL_law 1537 = .ok (.aload_n 1, 1) := by decide +kernel
theorem dL_law_1538 : decode cL_law 1538 = .ok (.aload_n 0, 1) := by decide +kernel
theorem dL_law_1539 : decode cL_law 1539 = .ok (.iload 5, 2) := by decide +kernel
theorem dL_law_1541 : decode cL_law 1541 = .ok (.iconst 1, 1) := by decide +kernel
theorem dL_law_1542 : decode cL_law 1542 = .ok (.iadd, 1) := by decide +kernel
theorem dL_law_1543 : decode cL_law 1543 = .ok (.iaload, 1) := by decide +kernel
theorem dL_law_1544 : decode cL_law 1544 = .ok (.aload_n 3, 1) := by decide +kernel
theorem dL_law_1545 : decode cL_law 1545 = .ok (.invokestatic 200, 3) := by decide +kernel
theorem dL_law_1548 : decode cL_law 1548 = .ok (.istore 6, 2) := by decide +kernel
theorem dL_law_1550 : decode cL_law 1550 = .ok (.aload_n 2, 1) := by decide +kernel
theorem dL_law_1551 : decode cL_law 1551 = .ok (.aload_n 0, 1) := by decide +kernel
theorem dL_law_1552 : decode cL_law 1552 = .ok (.iload 5, 2) := by decide +kernel
theorem dL_law_1554 : decode cL_law 1554 = .ok (.iconst 1, 1) := by decide +kernel
theorem dL_law_1555 : decode cL_law 1555 = .ok (.iadd, 1) := by decide +kernel
theorem dL_law_1556 : decode cL_law 1556 = .ok (.iaload, 1) := by decide +kernel
theorem dL_law_1557 : decode cL_law 1557 = .ok (.invokevirtual 202, 3) := by decide +kernel
theorem dL_law_1560 : decode cL_law 1560 = .ok (.istore 7, 2) := by decide +kernel
theorem dL_law_1562 : decode cL_law 1562 = .ok (.aload_n 2, 1) := by decide +kernel
theorem dL_law_1563 : decode cL_law 1563 = .ok (.invokevirtual 115, 3) := by decide +kernel
theorem dL_law_1566 : decode cL_law 1566 = .ok (.iload 6, 2) := by decide +kernel
theorem dL_law_1568 : decode cL_law 1568 = .ok (.if_icmp .eq 5, 3) := by decide +kernel
theorem dL_law_1571 : decode cL_law 1571 = .ok (.iconst 0, 1) := by decide +kernel
theorem dL_law_1572 : decode cL_law 1572 = .ok (.ireturn, 1) := by decide +kernel
theorem dL_law_1573 : decode cL_law 1573 = .ok (.iload 6, 2) := by decide +kernel
theorem dL_law_1575 : decode cL_law 1575 = .ok (.ifCond .ne 15, 3) := by decide +kernel
theorem dL_law_1578 : decode cL_law 1578 = .ok (.aload_n 3, 1) := by decide +kernel
theorem dL_law_1579 : decode cL_law 1579 = .ok (.iconst 0, 1) := by decide +kernel
theorem dL_law_1580 : decode cL_law 1580 = .ok (.laload, 1) := by decide +kernel
theorem dL_law_1581 : decode cL_law 1581 = .ok (.iload 7, 2) := by decide +kernel
theorem dL_law_1583 : decode cL_law 1583 = .ok (.i2l, 1) := by decide +kernel
theorem dL_law_1584 : decode cL_law 1584 = .ok (.lcmp, 1) := by decide +kernel
theorem dL_law_1585 : decode cL_law 1585 = .ok (.ifCond .eq 5, 3) := by decide +kernel
theorem dL_law_1588 : decode cL_law 1588 = .ok (.iconst 0, 1) := by decide +kernel
theorem dL_law_1589 : decode cL_law 1589 = .ok (.ireturn, 1) := by decide +kernel
theorem dL_law_1590 : decode cL_law 1590 = .ok (.goto 343, 3) := by decide +kernel
theorem dL_law_1593 : decode cL_law 1593 = .ok (.aload_n 1, 1) := by decide +kernel
theorem dL_law_1594 : decode cL_law 1594 = .ok (.aload_n 0, 1) := by decide +kernel
theorem dL_law_1595 : decode cL_law 1595 = .ok (.iload 5, 2) := by decide +kernel
theorem dL_law_1597 : decode cL_law 1597 = .ok (.iconst 1, 1) := by decide +kernel
theorem dL_law_1598 : decode cL_law 1598 = .ok (.iadd, 1) := by decide +kernel
theorem dL_law_1599 : decode cL_law 1599 = .ok (.iaload, 1) := by decide +kernel
theorem dL_law_1600 : decode cL_law 1600 = .ok (.aload_n 0, 1) := by decide +kernel
theorem dL_law_1601 : decode cL_law 1601 = .ok (.iload 5, 2) := by decide +kernel
theorem dL_law_1603 : decode cL_law 1603 = .ok (.iconst 2, 1) := by decide +kernel
theorem dL_law_1604 : decode cL_law 1604 = .ok (.iadd, 1) := by decide +kernel
theorem dL_law_1605 : decode cL_law 1605 = .ok (.iaload, 1) := by decide +kernel
theorem dL_law_1606 : decode cL_law 1606 = .ok (.aload_n 3, 1) := by decide +kernel
theorem dL_law_1607 : decode cL_law 1607 = .ok (.invokestatic 203, 3) := by decide +kernel
theorem dL_law_1610 : decode cL_law 1610 = .ok (.istore 6, 2) := by decide +kernel
theorem dL_law_1612 : decode cL_law 1612 = .ok (.aload_n 2, 1) := by decide +kernel
theorem dL_law_1613 : decode cL_law 1613 = .ok (.aload_n 0, 1) := by decide +kernel
theorem dL_law_1614 : decode cL_law 1614 = .ok (.iload 5, 2) := by decide +kernel
theorem dL_law_1616 : decode cL_law 1616 = .ok (.iconst 1, 1) := by decide +kernel
theorem dL_law_1617 : decode cL_law 1617 = .ok (.iadd, 1) := by decide +kernel
theorem dL_law_1618 : decode cL_law 1618 = .ok (.iaload, 1) := by decide +kernel
theorem dL_law_1619 : decode cL_law 1619 = .ok (.aload_n 0, 1) := by decide +kernel
theorem dL_law_1620 : decode cL_law 1620 = .ok (.iload 5, 2) := by decide +kernel
theorem dL_law_1622 : decode cL_law 1622 = .ok (.iconst 2, 1) := by decide +kernel
theorem dL_law_1623 : decode cL_law 1623 = .ok (.iadd, 1) := by decide +kernel
theorem dL_law_1624 : decode cL_law 1624 = .ok (.iaload, 1) := by decide +kernel
theorem dL_law_1625 : decode cL_law 1625 = .ok (.invokevirtual 205, 3) := by decide +kernel
theorem dL_law_1628 : decode cL_law 1628 = .ok (.istore 7, 2) := by decide +kernel
theorem dL_law_1630 : decode cL_law 1630 = .ok (.aload_n 2, 1) := by decide +kernel
theorem dL_law_1631 : decode cL_law 1631 = .ok (.invokevirtual 115, 3) := by decide +kernel
theorem dL_law_1634 : decode cL_law 1634 = .ok (.iload 6, 2) := by decide +kernel
theorem dL_law_1636 : decode cL_law 1636 = .ok (.if_icmp .eq 5, 3) := by decide +kernel
theorem dL_law_1639 : decode cL_law 1639 = .ok (.iconst 0, 1) := by decide +kernel
theorem dL_law_1640 : decode cL_law 1640 = .ok (.ireturn, 1) := by decide +kernel
theorem dL_law_1641 : decode cL_law 1641 = .ok (.iload 6, 2) := by decide +kernel
theorem dL_law_1643 : decode cL_law 1643 = .ok (.ifCond .ne 15, 3) := by decide +kernel
theorem dL_law_1646 : decode cL_law 1646 = .ok (.aload_n 3, 1) := by decide +kernel
theorem dL_law_1647 : decode cL_law 1647 = .ok (.iconst 0, 1) := by decide +kernel
theorem dL_law_1648 : decode cL_law 1648 = .ok (.laload, 1) := by decide +kernel
theorem dL_law_1649 : decode cL_law 1649 = .ok (.iload 7, 2) := by decide +kernel
theorem dL_law_1651 : decode cL_law 1651 = .ok (.i2l, 1) := by decide +kernel
theorem dL_law_1652 : decode cL_law 1652 = .ok (.lcmp, 1) := by decide +kernel
theorem dL_law_1653 : decode cL_law 1653 = .ok (.ifCond .eq 5, 3) := by decide +kernel
theorem dL_law_1656 : decode cL_law 1656 = .ok (.iconst 0, 1) := by decide +kernel
theorem dL_law_1657 : decode cL_law 1657 = .ok (.ireturn, 1) := by decide +kernel
theorem dL_law_1658 : decode cL_law 1658 = .ok (.goto 275, 3) := by decide +kernel
theorem dL_law_1661 : decode cL_law 1661 = .ok (.aload_n 1, 1) := by decide +kernel
theorem dL_law_1662 : decode cL_law 1662 = .ok (.aload_n 0, 1) := by decide +kernel
theorem dL_law_1663 : decode cL_law 1663 = .ok (.iload 5, 2) := by decide +kernel
theorem dL_law_1665 : decode cL_law 1665 = .ok (.iconst 1, 1) := by decide +kernel
theorem dL_law_1666 : decode cL_law 1666 = .ok (.iadd, 1) := by decide +kernel
theorem dL_law_1667 : decode cL_law 1667 = .ok (.iaload, 1) := by decide +kernel
theorem dL_law_1668 : decode cL_law 1668 = .ok (.aload_n 3, 1) := by decide +kernel
theorem dL_law_1669 : decode cL_law 1669 = .ok (.invokestatic 206, 3) := by decide +kernel
theorem dL_law_1672 : decode cL_law 1672 = .ok (.istore 6, 2) := by decide +kernel
theorem dL_law_1674 : decode cL_law 1674 = .ok (.aload_n 2, 1) := by decide +kernel
theorem dL_law_1675 : decode cL_law 1675 = .ok (.aload_n 0, 1) := by decide +kernel
theorem dL_law_1676 : decode cL_law 1676 = .ok (.iload 5, 2) := by decide +kernel
theorem dL_law_1678 : decode cL_law 1678 = .ok (.iconst 1, 1) := by decide +kernel
theorem dL_law_1679 : decode cL_law 1679 = .ok (.iadd, 1) := by decide +kernel
theorem dL_law_1680 : decode cL_law 1680 = .ok (.iaload, 1) := by decide +kernel
theorem dL_law_1681 : decode cL_law 1681 = .ok (.invokevirtual 208, 3) := by decide +kernel
theorem dL_law_1684 : decode cL_law 1684 = .ok (.istore 7, 2) := by decide +kernel
theorem dL_law_1686 : decode cL_law 1686 = .ok (.aload_n 2, 1) := by decide +kernel
theorem dL_law_1687 : decode cL_law 1687 = .ok (.invokevirtual 115, 3) := by decide +kernel
theorem dL_law_1690 : decode cL_law 1690 = .ok (.iload 6, 2) := by decide +kernel
theorem dL_law_1692 : decode cL_law 1692 = .ok (.if_icmp .eq 5, 3) := by decide +kernel
theorem dL_law_1695 : decode cL_law 1695 = .ok (.iconst 0, 1) := by decide +kernel
theorem dL_law_1696 : decode cL_law 1696 = .ok (.ireturn, 1) := by decide +kernel
theorem dL_law_1697 : decode cL_law 1697 = .ok (.iload 6, 2) := by decide +kernel
theorem dL_law_1699 : decode cL_law 1699 = .ok (.ifCond .ne 15, 3) := by decide +kernel
theorem dL_law_1702 : decode cL_law 1702 = .ok (.aload_n 3, 1) := by decide +kernel
theorem dL_law_1703 : decode cL_law 1703 = .ok (.iconst 0, 1) := by decide +kernel
theorem dL_law_1704 : decode cL_law 1704 = .ok (.laload, 1) := by decide +kernel
theorem dL_law_1705 : decode cL_law 1705 = .ok (.iload 7, 2) := by decide +kernel
theorem dL_law_1707 : decode cL_law 1707 = .ok (.i2l, 1) := by decide +kernel
theorem dL_law_1708 : decode cL_law 1708 = .ok (.lcmp, 1) := by decide +kernel
theorem dL_law_1709 : decode cL_law 1709 = .ok (.ifCond .eq 5, 3) := by decide +kernel
theorem dL_law_1712 : decode cL_law 1712 = .ok (.iconst 0, 1) := by decide +kernel
theorem dL_law_1713 : decode cL_law 1713 = .ok (.ireturn, 1) := by decide +kernel
theorem dL_law_1714 : decode cL_law 1714 = .ok (.goto 219, 3) := by decide +kernel
theorem dL_law_1717 : decode cL_law 1717 = .ok (.aload_n 1, 1) := by decide +kernel
theorem dL_law_1718 : decode cL_law 1718 = .ok (.aload_n 0, 1) := by decide +kernel
theorem dL_law_1719 : decode cL_law 1719 = .ok (.iload 5, 2) := by decide +kernel
theorem dL_law_1721 : decode cL_law 1721 = .ok (.iconst 1, 1) := by decide +kernel
theorem dL_law_1722 : decode cL_law 1722 = .ok (.iadd, 1) := by decide +kernel
theorem dL_law_1723 : decode cL_law 1723 = .ok (.iaload, 1) := by decide +kernel
theorem dL_law_1724 : decode cL_law 1724 = .ok (.aload_n 0, 1) := by decide +kernel
theorem dL_law_1725 : decode cL_law 1725 = .ok (.iload 5, 2) := by decide +kernel
theorem dL_law_1727 : decode cL_law 1727 = .ok (.iconst 2, 1) := by decide +kernel
theorem dL_law_1728 : decode cL_law 1728 = .ok (.iadd, 1) := by decide +kernel
theorem dL_law_1729 : decode cL_law 1729 = .ok (.iaload, 1) := by decide +kernel
theorem dL_law_1730 : decode cL_law 1730 = .ok (.aload_n 0, 1) := by decide +kernel
theorem dL_law_1731 : decode cL_law 1731 = .ok (.iload 5, 2) := by decide +kernel
theorem dL_law_1733 : decode cL_law 1733 = .ok (.iconst 3, 1) := by decide +kernel
theorem dL_law_1734 : decode cL_law 1734 = .ok (.iadd, 1) := by decide +kernel
theorem dL_law_1735 : decode cL_law 1735 = .ok (.iaload, 1) := by decide +kernel
theorem dL_law_1736 : decode cL_law 1736 = .ok (.aload_n 3, 1) := by decide +kernel
theorem dL_law_1737 : decode cL_law 1737 = .ok (.invokestatic 209, 3) := by decide +kernel
theorem dL_law_1740 : decode cL_law 1740 = .ok (.istore 6, 2) := by decide +kernel
theorem dL_law_1742 : decode cL_law 1742 = .ok (.aload_n 2, 1) := by decide +kernel
theorem dL_law_1743 : decode cL_law 1743 = .ok (.aload_n 0, 1) := by decide +kernel
theorem dL_law_1744 : decode cL_law 1744 = .ok (.iload 5, 2) := by decide +kernel
theorem dL_law_1746 : decode cL_law 1746 = .ok (.iconst 1, 1) := by decide +kernel
theorem dL_law_1747 : decode cL_law 1747 = .ok (.iadd, 1) := by decide +kernel
theorem dL_law_1748 : decode cL_law 1748 = .ok (.iaload, 1) := by decide +kernel
theorem dL_law_1749 : decode cL_law 1749 = .ok (.aload_n 0, 1) := by decide +kernel
theorem dL_law_1750 : decode cL_law 1750 = .ok (.iload 5, 2) := by decide +kernel
theorem dL_law_1752 : decode cL_law 1752 = .ok (.iconst 2, 1) := by decide +kernel
theorem dL_law_1753 : decode cL_law 1753 = .ok (.iadd, 1) := by decide +kernel
theorem dL_law_1754 : decode cL_law 1754 = .ok (.iaload, 1) := by decide +kernel
theorem dL_law_1755 : decode cL_law 1755 = .ok (.aload_n 0, 1) := by decide +kernel
theorem dL_law_1756 : decode cL_law 1756 = .ok (.iload 5, 2) := by decide +kernel
theorem dL_law_1758 : decode cL_law 1758 = .ok (.iconst 3, 1) := by decide +kernel
theorem dL_law_1759 : decode cL_law 1759 = .ok (.iadd, 1) := by decide +kernel
theorem dL_law_1760 : decode cL_law 1760 = .ok (.iaload, 1) := by decide +kernel
theorem dL_law_1761 : decode cL_law 1761 = .ok (.invokevirtual 211, 3) := by decide +kernel
theorem dL_law_1764 : decode cL_law 1764 = .ok (.istore 7, 2) := by decide +kernel
theorem dL_law_1766 : decode cL_law 1766 = .ok (.aload_n 2, 1) := by decide +kernel
theorem dL_law_1767 : decode cL_law 1767 = .ok (.invokevirtual 115, 3) := by decide +kernel
theorem dL_law_1770 : decode cL_law 1770 = .ok (.iload 6, 2) := by decide +kernel
theorem dL_law_1772 : decode cL_law 1772 = .ok (.if_icmp .eq 5, 3) := by decide +kernel
theorem dL_law_1775 : decode cL_law 1775 = .ok (.iconst 0, 1) := by decide +kernel
theorem dL_law_1776 : decode cL_law 1776 = .ok (.ireturn, 1) := by decide +kernel
theorem dL_law_1777 : decode cL_law 1777 = .ok (.iload 6, 2) := by decide +kernel
theorem dL_law_1779 : decode cL_law 1779 = .ok (.ifCond .ne 15, 3) := by decide +kernel
theorem dL_law_1782 : decode cL_law 1782 = .ok (.aload_n 3, 1) := by decide +kernel
theorem dL_law_1783 : decode cL_law 1783 = .ok (.iconst 0, 1) := by decide +kernel
theorem dL_law_1784 : decode cL_law 1784 = .ok (.laload, 1) := by decide +kernel
theorem dL_law_1785 : decode cL_law 1785 = .ok (.iload 7, 2) := by decide +kernel
theorem dL_law_1787 : decode cL_law 1787 = .ok (.i2l, 1) := by decide +kernel
theorem dL_law_1788 : decode cL_law 1788 = .ok (.lcmp, 1) := by decide +kernel
theorem dL_law_1789 : decode cL_law 1789 = .ok (.ifCond .eq 5, 3) := by decide +kernel
theorem dL_law_1792 : decode cL_law 1792 = .ok (.iconst 0, 1) := by decide +kernel
theorem dL_law_1793 : decode cL_law 1793 = .ok (.ireturn, 1) := by decide +kernel
theorem dL_law_1794 : decode cL_law 1794 = .ok (.goto 139, 3) := by decide +kernel
theorem dL_law_1797 : decode cL_law 1797 = .ok (.aload_n 1, 1) := by decide +kernel
theorem dL_law_1798 : decode cL_law 1798 = .ok (.aload_n 0, 1) := by decide +kernel
theorem dL_law_1799 : decode cL_law 1799 = .ok (.iload 5, 2) := by decide +kernel
theorem dL_law_1801 : decode cL_law 1801 = .ok (.iconst 1, 1) := by decide +kernel
theorem dL_law_1802 : decode cL_law 1802 = .ok (.iadd, 1) := by decide +kernel
theorem dL_law_1803 : decode cL_law 1803 = .ok (.iaload, 1) := by decide +kernel
theorem dL_law_1804 : decode cL_law 1804 = .ok (.aload_n 0, 1) := by decide +kernel
theorem dL_law_1805 : decode cL_law 1805 = .ok (.iload 5, 2) := by decide +kernel
theorem dL_law_1807 : decode cL_law 1807 = .ok (.iconst 2, 1) := by decide +kernel
theorem dL_law_1808 : decode cL_law 1808 = .ok (.iadd, 1) := by decide +kernel
theorem dL_law_1809 : decode cL_law 1809 = .ok (.iaload, 1) := by decide +kernel
theorem dL_law_1810 : decode cL_law 1810 = .ok (.aload_n 0, 1) := by decide +kernel
theorem dL_law_1811 : decode cL_law 1811 = .ok (.iload 5, 2) := by decide +kernel
theorem dL_law_1813 : decode cL_law 1813 = .ok (.iconst 3, 1) := by decide +kernel
theorem dL_law_1814 : decode cL_law 1814 = .ok (.iadd, 1) := by decide +kernel
theorem dL_law_1815 : decode cL_law 1815 = .ok (.iaload, 1) := by decide +kernel
theorem dL_law_1816 : decode cL_law 1816 = .ok (.aload 4, 2) := by decide +kernel
theorem dL_law_1818 : decode cL_law 1818 = .ok (.invokestatic 212, 3) := by decide +kernel
theorem dL_law_1821 : decode cL_law 1821 = .ok (.istore 6, 2) := by decide +kernel
theorem dL_law_1823 : decode cL_law 1823 = .ok (.aload_n 2, 1) := by decide +kernel
theorem dL_law_1824 : decode cL_law 1824 = .ok (.aload_n 0, 1) := by decide +kernel
theorem dL_law_1825 : decode cL_law 1825 = .ok (.iload 5, 2) := by decide +kernel
theorem dL_law_1827 : decode cL_law 1827 = .ok (.iconst 1, 1) := by decide +kernel
theorem dL_law_1828 : decode cL_law 1828 = .ok (.iadd, 1) := by decide +kernel
theorem dL_law_1829 : decode cL_law 1829 = .ok (.iaload, 1) := by decide +kernel
theorem dL_law_1830 : decode cL_law 1830 = .ok (.aload_n 0, 1) := by decide +kernel
theorem dL_law_1831 : decode cL_law 1831 = .ok (.iload 5, 2) := by decide +kernel
theorem dL_law_1833 : decode cL_law 1833 = .ok (.iconst 2, 1) := by decide +kernel
theorem dL_law_1834 : decode cL_law 1834 = .ok (.iadd, 1) := by decide +kernel
theorem dL_law_1835 : decode cL_law 1835 = .ok (.iaload, 1) := by decide +kernel
theorem dL_law_1836 : decode cL_law 1836 = .ok (.aload_n 0, 1) := by decide +kernel
theorem dL_law_1837 : decode cL_law 1837 = .ok (.iload 5, 2) := by decide +kernel
theorem dL_law_1839 : decode cL_law 1839 = .ok (.iconst 3, 1) := by decide +kernel
theorem dL_law_1840 : decode cL_law 1840 = .ok (.iadd, 1) := by decide +kernel
theorem dL_law_1841 : decode cL_law 1841 = .ok (.iaload, 1) := by decide +kernel
theorem dL_law_1842 : decode cL_law 1842 = .ok (.invokevirtual 215, 3) := by decide +kernel
theorem dL_law_1845 : decode cL_law 1845 = .ok (.dstore 7, 2) := by decide +kernel
theorem dL_law_1847 : decode cL_law 1847 = .ok (.aload_n 2, 1) := by decide +kernel
theorem dL_law_1848 : decode cL_law 1848 = .ok (.invokevirtual 115, 3) := by decide +kernel
theorem dL_law_1851 : decode cL_law 1851 = .ok (.iload 6, 2) := by decide +kernel
theorem dL_law_1853 : decode cL_law 1853 = .ok (.if_icmp .eq 5, 3) := by decide +kernel
theorem dL_law_1856 : decode cL_law 1856 = .ok (.iconst 0, 1) := by decide +kernel
theorem dL_law_1857 : decode cL_law 1857 = .ok (.ireturn, 1) := by decide +kernel
theorem dL_law_1858 : decode cL_law 1858 = .ok (.iload 6, 2) := by decide +kernel
theorem dL_law_1860 : decode cL_law 1860 = .ok (.ifCond .ne 35, 3) := by decide +kernel
theorem dL_law_1863 : decode cL_law 1863 = .ok (.aload 4, 2) := by decide +kernel
theorem dL_law_1865 : decode cL_law 1865 = .ok (.iconst 0, 1) := by decide +kernel
theorem dL_law_1866 : decode cL_law 1866 = .ok (.daload, 1) := by decide +kernel
theorem dL_law_1867 : decode cL_law 1867 = .ok (.dload 7, 2) := by decide +kernel
theorem dL_law_1869 : decode cL_law 1869 = .ok (.dcmp .l, 1) := by decide +kernel
theorem dL_law_1870 : decode cL_law 1870 = .ok (.ifCond .eq 25, 3) := by decide +kernel
theorem dL_law_1873 : decode cL_law 1873 = .ok (.aload 4, 2) := by decide +kernel
theorem dL_law_1875 : decode cL_law 1875 = .ok (.iconst 0, 1) := by decide +kernel
theorem dL_law_1876 : decode cL_law 1876 = .ok (.daload, 1) := by decide +kernel
theorem dL_law_1877 : decode cL_law 1877 = .ok (.aload 4, 2) := by decide +kernel
theorem dL_law_1879 : decode cL_law 1879 = .ok (.iconst 0, 1) := by decide +kernel
theorem dL_law_1880 : decode cL_law 1880 = .ok (.daload, 1) := by decide +kernel
theorem dL_law_1881 : decode cL_law 1881 = .ok (.dcmp .l, 1) := by decide +kernel
theorem dL_law_1882 : decode cL_law 1882 = .ok (.ifCond .eq 11, 3) := by decide +kernel
theorem dL_law_1885 : decode cL_law 1885 = .ok (.dload 7, 2) := by decide +kernel
theorem dL_law_1887 : decode cL_law 1887 = .ok (.dload 7, 2) := by decide +kernel
theorem dL_law_1889 : decode cL_law 1889 = .ok (.dcmp .l, 1) := by decide +kernel
theorem dL_law_1890 : decode cL_law 1890 = .ok (.ifCond .ne 5, 3) := by decide +kernel
theorem dL_law_1893 : decode cL_law 1893 = .ok (.iconst 0, 1) := by decide +kernel
theorem dL_law_1894 : decode cL_law 1894 = .ok (.ireturn, 1) := by decide +kernel
theorem dL_law_1895 : decode cL_law 1895 = .ok (.goto 38, 3) := by decide +kernel
theorem dL_law_1898 : decode cL_law 1898 = .ok (.aload_n 1, 1) := by decide +kernel
theorem dL_law_1899 : decode cL_law 1899 = .ok (.invokevirtual 216, 3) := by decide +kernel
theorem dL_law_1902 : decode cL_law 1902 = .ok (.aload_n 2, 1) := by decide +kernel
theorem dL_law_1903 : decode cL_law 1903 = .ok (.invokevirtual 219, 3) := by decide +kernel
theorem dL_law_1906 : decode cL_law 1906 = .ok (.goto 27, 3) := by decide +kernel
theorem dL_law_1909 : decode cL_law 1909 = .ok (.aload_n 1, 1) := by decide +kernel
theorem dL_law_1910 : decode cL_law 1910 = .ok (.invokestatic 220, 3) := by decide +kernel
theorem dL_law_1913 : decode cL_law 1913 = .ok (.istore 6, 2) := by decide +kernel
theorem dL_law_1915 : decode cL_law 1915 = .ok (.aload_n 2, 1) := by decide +kernel
theorem dL_law_1916 : decode cL_law 1916 = .ok (.invokevirtual 223, 3) := by decide +kernel
theorem dL_law_1919 : decode cL_law 1919 = .ok (.aload_n 2, 1) := by decide +kernel
theorem dL_law_1920 : decode cL_law 1920 = .ok (.invokevirtual 115, 3) := by decide +kernel
theorem dL_law_1923 : decode cL_law 1923 = .ok (.iload 6, 2) := by decide +kernel
theorem dL_law_1925 : decode cL_law 1925 = .ok (.if_icmp .eq 5, 3) := by decide +kernel
theorem dL_law_1928 : decode cL_law 1928 = .ok (.iconst 0, 1) := by decide +kernel
theorem dL_law_1929 : decode cL_law 1929 = .ok (.ireturn, 1) := by decide +kernel
theorem dL_law_1930 : decode cL_law 1930 = .ok (.goto 3, 3) := by decide +kernel
theorem dL_law_1933 : decode cL_law 1933 = .ok (.iinc 5 4, 3) := by decide +kernel
theorem dL_law_1936 : decode cL_law 1936 = .ok (.goto (-1908), 3) := by decide +kernel
theorem dL_law_1939 : decode cL_law 1939 = .ok (.iconst 1, 1) := by decide +kernel
theorem dL_law_1940 : decode cL_law 1940 = .ok (.ireturn, 1) := by decide +kernel
end
section
/-! THE WORLD: 68 cells of fixed kinds; their data is a Dz. Written by wip/whole/genworld.py -/
section ZWorld
def zW : List Cond := lw_tbl.filter goodWord
theorem zm_in {w : Cond} (h : w ∈ lw_tbl) (g : goodWord w = true) : w ∈ zW := List.mem_filter.mpr ⟨h, g⟩
theorem zmp {w : Cond} (i : Nat) (h : (k2_sels lw_privs)[i]? = some w) (g : goodWord w = true) : w ∈ zW := zm_in (List.mem_append_left _ (List.mem_of_getElem? h)) g
theorem zm1 {w : Cond} (i : Nat) (h : tables_1_1[i]? = some w) (g : goodWord w = true) : w ∈ zW := zm_in (List.mem_append_right _ (List.mem_append_left _ (List.mem_of_getElem? h))) g
theorem zm2 {w : Cond} (i : Nat) (h : tables_1_2[i]? = some w) (g : goodWord w = true) : w ∈ zW := zm_in (List.mem_append_right _ (List.mem_append_right _ (List.mem_append_left _ (List.mem_of_getElem? h)))) g
theorem zm3 {w : Cond} (i : Nat) (h : tables_1_3[i]? = some w) (g : goodWord w = true) : w ∈ zW := zm_in (List.mem_append_right _ (List.mem_append_right _ (List.mem_append_right _ (List.mem_append_left _ (List.mem_of_getElem? h))))) g
theorem zm4 {w : Cond} (i : Nat) (h : tables_1_4[i]? = some w) (g : goodWord w = true) : w ∈ zW := zm_in (List.mem_append_right _ (List.mem_append_right _ (List.mem_append_right _ (List.mem_append_right _ (List.mem_append_left _ (List.mem_of_getElem? h)))))) g
theorem zm5 {w : Cond} (i : Nat) (h : tables_1_5[i]? = some w) (g : goodWord w = true) : w ∈ zW := zm_in (List.mem_append_right _ (List.mem_append_right _ (List.mem_append_right _ (List.mem_append_right _ (List.mem_append_right _ (List.mem_append_left _ (List.mem_of_getElem? h))))))) g
theorem zm6 {w : Cond} (i : Nat) (h : tables_1_6[i]? = some w) (g : goodWord w = true) : w ∈ zW := zm_in (List.mem_append_right _ (List.mem_append_right _ (List.mem_append_right _ (List.mem_append_right _ (List.mem_append_right _ (List.mem_append_right _ (List.mem_of_getElem? h))))))) g
theorem zW_good {w : Cond} (h : w ∈ zW) : (w.onTables && w.keeps) = true ∨ ∃ ty, w = .arrayClass ty := good_of_word (List.mem_filter.mp h).2
abbrev zCl : List vw_C := [(RX0, TX0, 5), (RX1, TX1, 6), (RX2, TX2, 7), (RX4, TX4, 4), (RX5, TX5, 2), (RX6, TX6, 2), (RX7, TX7, 3), (RX8, TX8, 4), (RX9, TX9, 15), (RX10, TX10, 35)]
/-- ints (fields, elements of int, char and boolean rows), floats, doubles, longs: by the cell's number, then the place -/
abbrev Dz : Type := (Nat → Nat → Int32) × (Nat → Nat → UInt32) × (Nat → Nat → UInt64) × (Nat → Nat → Int64)
def gz_i (σ : Dz) (k j : Nat) : Int32 := σ.1 k j
def gz_f (σ : Dz) (k j : Nat) : UInt32 := σ.2.1 k j
def gz_d (σ : Dz) (k j : Nat) : UInt64 := σ.2.2.1 k j
def gz_l (σ : Dz) (k j : Nat) : Int64 := σ.2.2.2 k j
def sz_i (σ : Dz) (k j : Nat) (v : Int32) : Dz := (va_up σ.1 k (upd (σ.1 k) j v), σ.2)
def sz_f (σ : Dz) (k j : Nat) (v : UInt32) : Dz := (σ.1, va_up σ.2.1 k (vf_upd (σ.2.1 k) j v), σ.2.2)
def sz_d (σ : Dz) (k j : Nat) (v : UInt64) : Dz := (σ.1, σ.2.1, va_up σ.2.2.1 k (vf_upd (σ.2.2.1 k) j v), σ.2.2.2)
def sz_l (σ : Dz) (k j : Nat) (v : Int64) : Dz := (σ.1, σ.2.1, σ.2.2.1, va_up σ.2.2.2 k (vp_updL (σ.2.2.2 k) j v))
def cz (ad : Nat → Nat) (ty : Nat → ClassId) (f : Nat → Int32) (g : Nat → UInt32) (h : Nat → UInt64) (q : Nat → Int64) (k : Nat) : va_E := match k with
  | 0 => .inr (8, [.ref (ad 1), .ref (ad 3), .ref (ad 4), .ref (ad 6), .ref (ad 9), .ref (ad 12), .ref (ad 17), .ref (ad 28), .ref (ad 39), .ref (ad 41), .ref (ad 42), .int (f 11), .int (f 12), .int (f 13), .int (f 14)])
  | 1 => .inr (4, [.ref (ad 2), .int (f 1)])
  | 2 => .inl (ty 0, 40, .inl f)
  | 3 => .inr (1, [.int (f 0), .int (f 1), .int (f 2), .int (f 3), .int (f 4), .int (f 5)])
  | 4 => .inr (6, [.ref (ad 5), .int (f 1), .int (f 2)])
  | 5 => .inl (ty 0, 6, .inl f)
  | 6 => .inr (7, [.ref (ad 7), .ref (ad 8), .int (f 2), .int (f 3)])
  | 7 => .inl (ty 3, 6, .inl f)
  | 8 => .inl (ty 3, 6, .inl f)
  | 9 => .inr (0, [.ref (ad 10), .ref (ad 11), .int (f 2), .int (f 3), .int (f 4)])
  | 10 => .inl (ty 3, 10, .inl f)
  | 11 => .inl (ty 3, 110, .inl f)
  | 12 => .inr (2, [.ref (ad 13), .ref (ad 14), .ref (ad 15), .ref (ad 16), .int (f 4), .int (f 5), .int (f 6)])
  | 13 => .inl (ty 3, 5040, .inl f)
  | 14 => .inl (ty 3, 5040, .inl f)
  | 15 => .inl (ty 3, 5041, .inl f)
  | 16 => .inl (ty 3, 10, .inl f)
  | 17 => .inr (3, [.ref (ad 18), .ref (ad 19), .int (f 2), .int (f 3)])
  | 18 => .inl (ty 3, 10, .inl f)
  | 19 => .inl (ty 5, 4, .inr (.inr (.inr (.inr (fun i => some (ad (20 + 2 * i)))))))
  | 20 => .inr (5, [.ref (ad 21), .int (f 1)])
  | 21 => .inl (ty 3, 200, .inl f)
  | 22 => .inr (5, [.ref (ad 23), .int (f 1)])
  | 23 => .inl (ty 3, 200, .inl f)
  | 24 => .inr (5, [.ref (ad 25), .int (f 1)])
  | 25 => .inl (ty 3, 200, .inl f)
  | 26 => .inr (5, [.ref (ad 27), .int (f 1)])
  | 27 => .inl (ty 3, 200, .inl f)
  | 28 => .inr (3, [.ref (ad 29), .ref (ad 30), .int (f 2), .int (f 3)])
  | 29 => .inl (ty 3, 10, .inl f)
  | 30 => .inl (ty 5, 4, .inr (.inr (.inr (.inr (fun i => some (ad (31 + 2 * i)))))))
  | 31 => .inr (5, [.ref (ad 32), .int (f 1)])
  | 32 => .inl (ty 3, 200, .inl f)
  | 33 => .inr (5, [.ref (ad 34), .int (f 1)])
  | 34 => .inl (ty 3, 200, .inl f)
  | 35 => .inr (5, [.ref (ad 36), .int (f 1)])
  | 36 => .inl (ty 3, 200, .inl f)
  | 37 => .inr (5, [.ref (ad 38), .int (f 1)])
  | 38 => .inl (ty 3, 200, .inl f)
  | 39 => .inr (5, [.ref (ad 40), .int (f 1)])
  | 40 => .inl (ty 3, 200, .inl f)
  | 41 => .inl (ty 2, 24, .inr (.inr (.inl g)))
  | 42 => .inl (ty 1, 24, .inr (.inr (.inr (.inl h))))
  | 43 => .inr (9, [.int (f 0), .int (f 1), .ref (ad 44), .ref (ad 45), .ref (ad 46), .ref (ad 47), .ref (ad 48), .ref (ad 49), .int (f 8), .int (f 9), .ref (ad 50), .ref (ad 51), .int (f 12), .ref (ad 52), .ref (ad 53), .ref (ad 54), .ref (ad 55), .ref (ad 56), .int (f 18), .ref (ad 57), .ref (ad 58), .ref (ad 59), .int (f 22), .int (f 23), .int (f 24), .int (f 25), .ref (ad 60), .int (f 27), .ref (ad 61), .ref (ad 62), .ref (ad 63), .ref (ad 64), .int (f 32), .int (f 33), .ref (ad 65)])
  | 44 => .inl (ty 3, 8, .inl f)
  | 45 => .inl (ty 4, 5, .inl f)
  | 46 => .inl (ty 3, 80, .inl f)
  | 47 => .inl (ty 3, 4, .inl f)
  | 48 => .inl (ty 3, 800, .inl f)
  | 49 => .inl (ty 0, 40, .inl f)
  | 50 => .inl (ty 2, 24, .inr (.inr (.inl g)))
  | 51 => .inl (ty 1, 24, .inr (.inr (.inr (.inl h))))
  | 52 => .inl (ty 3, 8, .inl f)
  | 53 => .inl (ty 4, 5, .inl f)
  | 54 => .inl (ty 3, 80, .inl f)
  | 55 => .inl (ty 3, 4, .inl f)
  | 56 => .inl (ty 3, 800, .inl f)
  | 57 => .inl (ty 3, 8, .inl f)
  | 58 => .inl (ty 4, 8, .inl f)
  | 59 => .inl (ty 3, 300, .inl f)
  | 60 => .inl (ty 3, 8, .inl f)
  | 61 => .inl (ty 3, 5040, .inl f)
  | 62 => .inl (ty 3, 5040, .inl f)
  | 63 => .inl (ty 3, 8, .inl f)
  | 64 => .inl (ty 3, 8, .inl f)
  | 65 => .inl (ty 3, 5041, .inl f)
  | 66 => .inl (ty 6, 1, .inr (.inl q))
  | _ => .inl (ty 1, 1, .inr (.inr (.inr (.inl h))))
abbrev ez (ad : Nat → Nat) (ty : Nat → ClassId) (σ : Dz) (k : Nat) : va_E := cz ad ty (σ.1 k) (σ.2.1 k) (σ.2.2.1 k) (σ.2.2.2 k) k
def wz (ad : Nat → Nat) (ty : Nat → ClassId) (σ : Dz) : va_W := (List.range 68).map (fun k => (ad k, ez ad ty σ k))
def tz (ty : Nat → ClassId) : List (ClassId × FieldType) := [(ty 0, .char), (ty 1, .double), (ty 2, .float), (ty 3, .int), (ty 4, .boolean), (ty 5, .object "PermutationPuzzle$Word"), (ty 6, .long)]
def Az (ad : Nat → Nat) (n : Nat) : Nat → Prop := fun q => (∃ k, k < 68 ∧ q = ad k) ∨ n ≤ q
def isW (w : Nat) : Prop := w = 20 ∨ w = 22 ∨ w = 24 ∨ w = 26 ∨ w = 31 ∨ w = 33 ∨ w = 35 ∨ w = 37 ∨ w = 39
def isS (k : Nat) : Prop := k = 17 ∨ k = 28
theorem wz_get {ad : Nat → Nat} {ty : Nat → ClassId} {σ : Dz} {k : Nat} (hk : k < 68) : (wz ad ty σ)[k]? = some (ad k, ez ad ty σ k) := by
  simp [wz, List.getElem?_map, List.getElem?_range hk]
theorem wz_len {ad : Nat → Nat} {ty : Nat → ClassId} {σ : Dz} : (wz ad ty σ).length = 68 := by simp [wz]
theorem wz_get' {ad : Nat → Nat} {ty : Nat → ClassId} {σ : Dz} {k : Nat} {q : Nat × va_E} (h : (wz ad ty σ)[k]? = some q) : k < 68 ∧ q = (ad k, ez ad ty σ k) := by
  have hk : k < 68 := by
    rcases Nat.lt_or_ge k 68 with z | z
    · exact z
    · rw [List.getElem?_eq_none (by rw [wz_len]; exact z)] at h; cases h
  rw [wz_get hk] at h
  exact ⟨hk, (Option.some.inj h).symm⟩
theorem wz_D {ad : Nat → Nat} {ty : Nat → ClassId} {σ : Dz} (hj : ∀ i j, i < 68 → j < 68 → ad i = ad j → i = j) (n : Nat) : va_D (Az ad n) (wz ad ty σ) := by
  refine ⟨fun i j p q h1 h2 e => ?_, fun k q h => ?_⟩
  · obtain ⟨a1, rfl⟩ := wz_get' h1
    obtain ⟨a2, rfl⟩ := wz_get' h2
    exact hj i j a1 a2 e
  · obtain ⟨a1, rfl⟩ := wz_get' h
    exact Or.inl ⟨k, a1, rfl⟩
theorem wz_set {ad : Nat → Nat} {ty : Nat → ClassId} {σ σ' : Dz} {k : Nat} {e : va_E} (hk : k < 68) (he : ez ad ty σ' k = e) (ho : ∀ j, j ≠ k → ez ad ty σ' j = ez ad ty σ j) : (wz ad ty σ).set k (ad k, e) = wz ad ty σ' := by
  refine List.ext_getElem? (fun j => ?_)
  rw [List.getElem?_set, wz_len]
  by_cases hjk : k = j
  · subst hjk
    rw [if_pos rfl, if_pos hk, wz_get hk, he]
  · rw [if_neg hjk]
    rcases Nat.lt_or_ge j 68 with z | z
    · rw [wz_get z, wz_get z, ho j (Ne.symm hjk)]
    · rw [List.getElem?_eq_none (by rw [wz_len]; exact z), List.getElem?_eq_none (by rw [wz_len]; exact z)]
theorem sz_i_ne {ad : Nat → Nat} {ty : Nat → ClassId} (σ : Dz) (k i : Nat) (v : Int32) (j : Nat) (h : j ≠ k) : ez ad ty (sz_i σ k i v) j = ez ad ty σ j := by
  simp only [ez, sz_i, va_up_ne _ _ h]
theorem sz_f_ne {ad : Nat → Nat} {ty : Nat → ClassId} (σ : Dz) (k i : Nat) (v : UInt32) (j : Nat) (h : j ≠ k) : ez ad ty (sz_f σ k i v) j = ez ad ty σ j := by
  simp only [ez, sz_f, va_up_ne _ _ h]
theorem sz_d_ne {ad : Nat → Nat} {ty : Nat → ClassId} (σ : Dz) (k i : Nat) (v : UInt64) (j : Nat) (h : j ≠ k) : ez ad ty (sz_d σ k i v) j = ez ad ty σ j := by
  simp only [ez, sz_d, va_up_ne _ _ h]
theorem sz_l_ne {ad : Nat → Nat} {ty : Nat → ClassId} (σ : Dz) (k i : Nat) (v : Int64) (j : Nat) (h : j ≠ k) : ez ad ty (sz_l σ k i v) j = ez ad ty σ j := by
  simp only [ez, sz_l, va_up_ne _ _ h]
theorem sz_i_at (σ : Dz) (k i : Nat) (v : Int32) : (sz_i σ k i v).1 k = upd (σ.1 k) i v := by simp [sz_i, va_up_self]
theorem sz_f_at (σ : Dz) (k i : Nat) (v : UInt32) : (sz_f σ k i v).2.1 k = vf_upd (σ.2.1 k) i v := by simp [sz_f, va_up_self]
theorem sz_d_at (σ : Dz) (k i : Nat) (v : UInt64) : (sz_d σ k i v).2.2.1 k = vf_upd (σ.2.2.1 k) i v := by simp [sz_d, va_up_self]
theorem sz_l_at (σ : Dz) (k i : Nat) (v : Int64) : (sz_l σ k i v).2.2.2 k = vp_updL (σ.2.2.2 k) i v := by simp [sz_l, va_up_self]
/-- an int row of n places at the cell k -/
def isA (k n : Nat) : Prop := k < 68 ∧ ∀ (ad : Nat → Nat) (ty : Nat → ClassId) (f : Nat → Int32) (g : Nat → UInt32) (h : Nat → UInt64) (q : Nat → Int64), cz ad ty f g h q k = .inl (ty 3, n, .inl f)
theorem ceW {w : Nat} (hw : isW w) : w < 68 ∧ ∀ (ad : Nat → Nat) (ty : Nat → ClassId) (f : Nat → Int32) (g : Nat → UInt32) (h : Nat → UInt64) (q : Nat → Int64), cz ad ty f g h q w = .inr (5, [.ref (ad (w + 1)), .int (f 1)]) := by
  rcases hw with rfl | rfl | rfl | rfl | rfl | rfl | rfl | rfl | rfl <;> exact ⟨by decide, fun _ _ _ _ _ _ => rfl⟩
theorem caW {w : Nat} (hw : isW w) : isA (w + 1) 200 := by
  rcases hw with rfl | rfl | rfl | rfl | rfl | rfl | rfl | rfl | rfl <;> exact ⟨by decide, fun _ _ _ _ _ _ => rfl⟩
theorem ceS {k : Nat} (hk : isS k) : k < 68 ∧ ∀ (ad : Nat → Nat) (ty : Nat → ClassId) (f : Nat → Int32) (g : Nat → UInt32) (h : Nat → UInt64) (q : Nat → Int64), cz ad ty f g h q k = .inr (3, [.ref (ad (k + 1)), .ref (ad (k + 2)), .int (f 2), .int (f 3)]) := by
  rcases hk with rfl | rfl <;> exact ⟨by decide, fun _ _ _ _ _ _ => rfl⟩
theorem caS {k : Nat} (hk : isS k) : isA (k + 1) 10 := by
  rcases hk with rfl | rfl <;> exact ⟨by decide, fun _ _ _ _ _ _ => rfl⟩
theorem cwS2 {k : Nat} (hk : isS k) : k + 2 < 68 ∧ ∀ (ad : Nat → Nat) (ty : Nat → ClassId) (f : Nat → Int32) (g : Nat → UInt32) (h : Nat → UInt64) (q : Nat → Int64), cz ad ty f g h q (k + 2) = .inl (ty 5, 4, .inr (.inr (.inr (.inr (fun i => some (ad (k + 3 + 2 * i))))))) := by
  rcases hk with rfl | rfl <;> exact ⟨by decide, fun _ _ _ _ _ _ => rfl⟩
theorem isW_S {k i : Nat} (hk : isS k) (hi : i < 4) : isW (k + 3 + 2 * i) := by
  rcases hk with rfl | rfl <;> rcases (show i = 0 ∨ i = 1 ∨ i = 2 ∨ i = 3 by omega) with rfl | rfl | rfl | rfl <;> (unfold isW; decide)

theorem ce_0 (ad : Nat → Nat) (ty : Nat → ClassId) (f : Nat → Int32) (g : Nat → UInt32) (h : Nat → UInt64) (q : Nat → Int64) : cz ad ty f g h q 0 = .inr (8, [.ref (ad 1), .ref (ad 3), .ref (ad 4), .ref (ad 6), .ref (ad 9), .ref (ad 12), .ref (ad 17), .ref (ad 28), .ref (ad 39), .ref (ad 41), .ref (ad 42), .int (f 11), .int (f 12), .int (f 13), .int (f 14)]) := rfl
theorem ce_1 (ad : Nat → Nat) (ty : Nat → ClassId) (f : Nat → Int32) (g : Nat → UInt32) (h : Nat → UInt64) (q : Nat → Int64) : cz ad ty f g h q 1 = .inr (4, [.ref (ad 2), .int (f 1)]) := rfl
theorem ce_2 (ad : Nat → Nat) (ty : Nat → ClassId) (f : Nat → Int32) (g : Nat → UInt32) (h : Nat → UInt64) (q : Nat → Int64) : cz ad ty f g h q 2 = .inl (ty 0, 40, .inl f) := rfl
theorem ce_3 (ad : Nat → Nat) (ty : Nat → ClassId) (f : Nat → Int32) (g : Nat → UInt32) (h : Nat → UInt64) (q : Nat → Int64) : cz ad ty f g h q 3 = .inr (1, [.int (f 0), .int (f 1), .int (f 2), .int (f 3), .int (f 4), .int (f 5)]) := rfl
theorem ce_4 (ad : Nat → Nat) (ty : Nat → ClassId) (f : Nat → Int32) (g : Nat → UInt32) (h : Nat → UInt64) (q : Nat → Int64) : cz ad ty f g h q 4 = .inr (6, [.ref (ad 5), .int (f 1), .int (f 2)]) := rfl
theorem ce_5 (ad : Nat → Nat) (ty : Nat → ClassId) (f : Nat → Int32) (g : Nat → UInt32) (h : Nat → UInt64) (q : Nat → Int64) : cz ad ty f g h q 5 = .inl (ty 0, 6, .inl f) := rfl
theorem ce_6 (ad : Nat → Nat) (ty : Nat → ClassId) (f : Nat → Int32) (g : Nat → UInt32) (h : Nat → UInt64) (q : Nat → Int64) : cz ad ty f g h q 6 = .inr (7, [.ref (ad 7), .ref (ad 8), .int (f 2), .int (f 3)]) := rfl
theorem ce_7 (ad : Nat → Nat) (ty : Nat → ClassId) (f : Nat → Int32) (g : Nat → UInt32) (h : Nat → UInt64) (q : Nat → Int64) : cz ad ty f g h q 7 = .inl (ty 3, 6, .inl f) := rfl
theorem ce_8 (ad : Nat → Nat) (ty : Nat → ClassId) (f : Nat → Int32) (g : Nat → UInt32) (h : Nat → UInt64) (q : Nat → Int64) : cz ad ty f g h q 8 = .inl (ty 3, 6, .inl f) := rfl
theorem ce_9 (ad : Nat → Nat) (ty : Nat → ClassId) (f : Nat → Int32) (g : Nat → UInt32) (h : Nat → UInt64) (q : Nat → Int64) : cz ad ty f g h q 9 = .inr (0, [.ref (ad 10), .ref (ad 11), .int (f 2), .int (f 3), .int (f 4)]) := rfl
theorem ce_10 (ad : Nat → Nat) (ty : Nat → ClassId) (f : Nat → Int32) (g : Nat → UInt32) (h : Nat → UInt64) (q : Nat → Int64) : cz ad ty f g h q 10 = .inl (ty 3, 10, .inl f) := rfl
theorem ce_11 (ad : Nat → Nat) (ty : Nat → ClassId) (f : Nat → Int32) (g : Nat → UInt32) (h : Nat → UInt64) (q : Nat → Int64) : cz ad ty f g h q 11 = .inl (ty 3, 110, .inl f) := rfl
theorem ce_12 (ad : Nat → Nat) (ty : Nat → ClassId) (f : Nat → Int32) (g : Nat → UInt32) (h : Nat → UInt64) (q : Nat → Int64) : cz ad ty f g h q 12 = .inr (2, [.ref (ad 13), .ref (ad 14), .ref (ad 15), .ref (ad 16), .int (f 4), .int (f 5), .int (f 6)]) := rfl
theorem ce_13 (ad : Nat → Nat) (ty : Nat → ClassId) (f : Nat → Int32) (g : Nat → UInt32) (h : Nat → UInt64) (q : Nat → Int64) : cz ad ty f g h q 13 = .inl (ty 3, 5040, .inl f) := rfl
theorem ce_14 (ad : Nat → Nat) (ty : Nat → ClassId) (f : Nat → Int32) (g : Nat → UInt32) (h : Nat → UInt64) (q : Nat → Int64) : cz ad ty f g h q 14 = .inl (ty 3, 5040, .inl f) := rfl
theorem ce_15 (ad : Nat → Nat) (ty : Nat → ClassId) (f : Nat → Int32) (g : Nat → UInt32) (h : Nat → UInt64) (q : Nat → Int64) : cz ad ty f g h q 15 = .inl (ty 3, 5041, .inl f) := rfl
theorem ce_16 (ad : Nat → Nat) (ty : Nat → ClassId) (f : Nat → Int32) (g : Nat → UInt32) (h : Nat → UInt64) (q : Nat → Int64) : cz ad ty f g h q 16 = .inl (ty 3, 10, .inl f) := rfl
theorem ce_17 (ad : Nat → Nat) (ty : Nat → ClassId) (f : Nat → Int32) (g : Nat → UInt32) (h : Nat → UInt64) (q : Nat → Int64) : cz ad ty f g h q 17 = .inr (3, [.ref (ad 18), .ref (ad 19), .int (f 2), .int (f 3)]) := rfl
theorem ce_18 (ad : Nat → Nat) (ty : Nat → ClassId) (f : Nat → Int32) (g : Nat → UInt32) (h : Nat → UInt64) (q : Nat → Int64) : cz ad ty f g h q 18 = .inl (ty 3, 10, .inl f) := rfl
theorem ce_19 (ad : Nat → Nat) (ty : Nat → ClassId) (f : Nat → Int32) (g : Nat → UInt32) (h : Nat → UInt64) (q : Nat → Int64) : cz ad ty f g h q 19 = .inl (ty 5, 4, .inr (.inr (.inr (.inr (fun i => some (ad (20 + 2 * i))))))) := rfl
theorem ce_20 (ad : Nat → Nat) (ty : Nat → ClassId) (f : Nat → Int32) (g : Nat → UInt32) (h : Nat → UInt64) (q : Nat → Int64) : cz ad ty f g h q 20 = .inr (5, [.ref (ad 21), .int (f 1)]) := rfl
theorem ce_21 (ad : Nat → Nat) (ty : Nat → ClassId) (f : Nat → Int32) (g : Nat → UInt32) (h : Nat → UInt64) (q : Nat → Int64) : cz ad ty f g h q 21 = .inl (ty 3, 200, .inl f) := rfl
theorem ce_22 (ad : Nat → Nat) (ty : Nat → ClassId) (f : Nat → Int32) (g : Nat → UInt32) (h : Nat → UInt64) (q : Nat → Int64) : cz ad ty f g h q 22 = .inr (5, [.ref (ad 23), .int (f 1)]) := rfl
theorem ce_23 (ad : Nat → Nat) (ty : Nat → ClassId) (f : Nat → Int32) (g : Nat → UInt32) (h : Nat → UInt64) (q : Nat → Int64) : cz ad ty f g h q 23 = .inl (ty 3, 200, .inl f) := rfl
theorem ce_24 (ad : Nat → Nat) (ty : Nat → ClassId) (f : Nat → Int32) (g : Nat → UInt32) (h : Nat → UInt64) (q : Nat → Int64) : cz ad ty f g h q 24 = .inr (5, [.ref (ad 25), .int (f 1)]) := rfl
theorem ce_25 (ad : Nat → Nat) (ty : Nat → ClassId) (f : Nat → Int32) (g : Nat → UInt32) (h : Nat → UInt64) (q : Nat → Int64) : cz ad ty f g h q 25 = .inl (ty 3, 200, .inl f) := rfl
theorem ce_26 (ad : Nat → Nat) (ty : Nat → ClassId) (f : Nat → Int32) (g : Nat → UInt32) (h : Nat → UInt64) (q : Nat → Int64) : cz ad ty f g h q 26 = .inr (5, [.ref (ad 27), .int (f 1)]) := rfl
theorem ce_27 (ad : Nat → Nat) (ty : Nat → ClassId) (f : Nat → Int32) (g : Nat → UInt32) (h : Nat → UInt64) (q : Nat → Int64) : cz ad ty f g h q 27 = .inl (ty 3, 200, .inl f) := rfl
theorem ce_28 (ad : Nat → Nat) (ty : Nat → ClassId) (f : Nat → Int32) (g : Nat → UInt32) (h : Nat → UInt64) (q : Nat → Int64) : cz ad ty f g h q 28 = .inr (3, [.ref (ad 29), .ref (ad 30), .int (f 2), .int (f 3)]) := rfl
theorem ce_29 (ad : Nat → Nat) (ty : Nat → ClassId) (f : Nat → Int32) (g : Nat → UInt32) (h : Nat → UInt64) (q : Nat → Int64) : cz ad ty f g h q 29 = .inl (ty 3, 10, .inl f) := rfl
theorem ce_30 (ad : Nat → Nat) (ty : Nat → ClassId) (f : Nat → Int32) (g : Nat → UInt32) (h : Nat → UInt64) (q : Nat → Int64) : cz ad ty f g h q 30 = .inl (ty 5, 4, .inr (.inr (.inr (.inr (fun i => some (ad (31 + 2 * i))))))) := rfl
theorem ce_31 (ad : Nat → Nat) (ty : Nat → ClassId) (f : Nat → Int32) (g : Nat → UInt32) (h : Nat → UInt64) (q : Nat → Int64) : cz ad ty f g h q 31 = .inr (5, [.ref (ad 32), .int (f 1)]) := rfl
theorem ce_32 (ad : Nat → Nat) (ty : Nat → ClassId) (f : Nat → Int32) (g : Nat → UInt32) (h : Nat → UInt64) (q : Nat → Int64) : cz ad ty f g h q 32 = .inl (ty 3, 200, .inl f) := rfl
theorem ce_33 (ad : Nat → Nat) (ty : Nat → ClassId) (f : Nat → Int32) (g : Nat → UInt32) (h : Nat → UInt64) (q : Nat → Int64) : cz ad ty f g h q 33 = .inr (5, [.ref (ad 34), .int (f 1)]) := rfl
theorem ce_34 (ad : Nat → Nat) (ty : Nat → ClassId) (f : Nat → Int32) (g : Nat → UInt32) (h : Nat → UInt64) (q : Nat → Int64) : cz ad ty f g h q 34 = .inl (ty 3, 200, .inl f) := rfl
theorem ce_35 (ad : Nat → Nat) (ty : Nat → ClassId) (f : Nat → Int32) (g : Nat → UInt32) (h : Nat → UInt64) (q : Nat → Int64) : cz ad ty f g h q 35 = .inr (5, [.ref (ad 36), .int (f 1)]) := rfl
theorem ce_36 (ad : Nat → Nat) (ty : Nat → ClassId) (f : Nat → Int32) (g : Nat → UInt32) (h : Nat → UInt64) (q : Nat → Int64) : cz ad ty f g h q 36 = .inl (ty 3, 200, .inl f) := rfl
theorem ce_37 (ad : Nat → Nat) (ty : Nat → ClassId) (f : Nat → Int32) (g : Nat → UInt32) (h : Nat → UInt64) (q : Nat → Int64) : cz ad ty f g h q 37 = .inr (5, [.ref (ad 38), .int (f 1)]) := rfl
theorem ce_38 (ad : Nat → Nat) (ty : Nat → ClassId) (f : Nat → Int32) (g : Nat → UInt32) (h : Nat → UInt64) (q : Nat → Int64) : cz ad ty f g h q 38 = .inl (ty 3, 200, .inl f) := rfl
theorem ce_39 (ad : Nat → Nat) (ty : Nat → ClassId) (f : Nat → Int32) (g : Nat → UInt32) (h : Nat → UInt64) (q : Nat → Int64) : cz ad ty f g h q 39 = .inr (5, [.ref (ad 40), .int (f 1)]) := rfl
theorem ce_40 (ad : Nat → Nat) (ty : Nat → ClassId) (f : Nat → Int32) (g : Nat → UInt32) (h : Nat → UInt64) (q : Nat → Int64) : cz ad ty f g h q 40 = .inl (ty 3, 200, .inl f) := rfl
theorem ce_41 (ad : Nat → Nat) (ty : Nat → ClassId) (f : Nat → Int32) (g : Nat → UInt32) (h : Nat → UInt64) (q : Nat → Int64) : cz ad ty f g h q 41 = .inl (ty 2, 24, .inr (.inr (.inl g))) := rfl
theorem ce_42 (ad : Nat → Nat) (ty : Nat → ClassId) (f : Nat → Int32) (g : Nat → UInt32) (h : Nat → UInt64) (q : Nat → Int64) : cz ad ty f g h q 42 = .inl (ty 1, 24, .inr (.inr (.inr (.inl h)))) := rfl
theorem ce_43 (ad : Nat → Nat) (ty : Nat → ClassId) (f : Nat → Int32) (g : Nat → UInt32) (h : Nat → UInt64) (q : Nat → Int64) : cz ad ty f g h q 43 = .inr (9, [.int (f 0), .int (f 1), .ref (ad 44), .ref (ad 45), .ref (ad 46), .ref (ad 47), .ref (ad 48), .ref (ad 49), .int (f 8), .int (f 9), .ref (ad 50), .ref (ad 51), .int (f 12), .ref (ad 52), .ref (ad 53), .ref (ad 54), .ref (ad 55), .ref (ad 56), .int (f 18), .ref (ad 57), .ref (ad 58), .ref (ad 59), .int (f 22), .int (f 23), .int (f 24), .int (f 25), .ref (ad 60), .int (f 27), .ref (ad 61), .ref (ad 62), .ref (ad 63), .ref (ad 64), .int (f 32), .int (f 33), .ref (ad 65)]) := rfl
theorem ce_44 (ad : Nat → Nat) (ty : Nat → ClassId) (f : Nat → Int32) (g : Nat → UInt32) (h : Nat → UInt64) (q : Nat → Int64) : cz ad ty f g h q 44 = .inl (ty 3, 8, .inl f) := rfl
theorem ce_45 (ad : Nat → Nat) (ty : Nat → ClassId) (f : Nat → Int32) (g : Nat → UInt32) (h : Nat → UInt64) (q : Nat → Int64) : cz ad ty f g h q 45 = .inl (ty 4, 5, .inl f) := rfl
theorem ce_46 (ad : Nat → Nat) (ty : Nat → ClassId) (f : Nat → Int32) (g : Nat → UInt32) (h : Nat → UInt64) (q : Nat → Int64) : cz ad ty f g h q 46 = .inl (ty 3, 80, .inl f) := rfl
theorem ce_47 (ad : Nat → Nat) (ty : Nat → ClassId) (f : Nat → Int32) (g : Nat → UInt32) (h : Nat → UInt64) (q : Nat → Int64) : cz ad ty f g h q 47 = .inl (ty 3, 4, .inl f) := rfl
theorem ce_48 (ad : Nat → Nat) (ty : Nat → ClassId) (f : Nat → Int32) (g : Nat → UInt32) (h : Nat → UInt64) (q : Nat → Int64) : cz ad ty f g h q 48 = .inl (ty 3, 800, .inl f) := rfl
theorem ce_49 (ad : Nat → Nat) (ty : Nat → ClassId) (f : Nat → Int32) (g : Nat → UInt32) (h : Nat → UInt64) (q : Nat → Int64) : cz ad ty f g h q 49 = .inl (ty 0, 40, .inl f) := rfl
theorem ce_50 (ad : Nat → Nat) (ty : Nat → ClassId) (f : Nat → Int32) (g : Nat → UInt32) (h : Nat → UInt64) (q : Nat → Int64) : cz ad ty f g h q 50 = .inl (ty 2, 24, .inr (.inr (.inl g))) := rfl
theorem ce_51 (ad : Nat → Nat) (ty : Nat → ClassId) (f : Nat → Int32) (g : Nat → UInt32) (h : Nat → UInt64) (q : Nat → Int64) : cz ad ty f g h q 51 = .inl (ty 1, 24, .inr (.inr (.inr (.inl h)))) := rfl
theorem ce_52 (ad : Nat → Nat) (ty : Nat → ClassId) (f : Nat → Int32) (g : Nat → UInt32) (h : Nat → UInt64) (q : Nat → Int64) : cz ad ty f g h q 52 = .inl (ty 3, 8, .inl f) := rfl
theorem ce_53 (ad : Nat → Nat) (ty : Nat → ClassId) (f : Nat → Int32) (g : Nat → UInt32) (h : Nat → UInt64) (q : Nat → Int64) : cz ad ty f g h q 53 = .inl (ty 4, 5, .inl f) := rfl
theorem ce_54 (ad : Nat → Nat) (ty : Nat → ClassId) (f : Nat → Int32) (g : Nat → UInt32) (h : Nat → UInt64) (q : Nat → Int64) : cz ad ty f g h q 54 = .inl (ty 3, 80, .inl f) := rfl
theorem ce_55 (ad : Nat → Nat) (ty : Nat → ClassId) (f : Nat → Int32) (g : Nat → UInt32) (h : Nat → UInt64) (q : Nat → Int64) : cz ad ty f g h q 55 = .inl (ty 3, 4, .inl f) := rfl
theorem ce_56 (ad : Nat → Nat) (ty : Nat → ClassId) (f : Nat → Int32) (g : Nat → UInt32) (h : Nat → UInt64) (q : Nat → Int64) : cz ad ty f g h q 56 = .inl (ty 3, 800, .inl f) := rfl
theorem ce_57 (ad : Nat → Nat) (ty : Nat → ClassId) (f : Nat → Int32) (g : Nat → UInt32) (h : Nat → UInt64) (q : Nat → Int64) : cz ad ty f g h q 57 = .inl (ty 3, 8, .inl f) := rfl
theorem ce_58 (ad : Nat → Nat) (ty : Nat → ClassId) (f : Nat → Int32) (g : Nat → UInt32) (h : Nat → UInt64) (q : Nat → Int64) : cz ad ty f g h q 58 = .inl (ty 4, 8, .inl f) := rfl
theorem ce_59 (ad : Nat → Nat) (ty : Nat → ClassId) (f : Nat → Int32) (g : Nat → UInt32) (h : Nat → UInt64) (q : Nat → Int64) : cz ad ty f g h q 59 = .inl (ty 3, 300, .inl f) := rfl
theorem ce_60 (ad : Nat → Nat) (ty : Nat → ClassId) (f : Nat → Int32) (g : Nat → UInt32) (h : Nat → UInt64) (q : Nat → Int64) : cz ad ty f g h q 60 = .inl (ty 3, 8, .inl f) := rfl
theorem ce_61 (ad : Nat → Nat) (ty : Nat → ClassId) (f : Nat → Int32) (g : Nat → UInt32) (h : Nat → UInt64) (q : Nat → Int64) : cz ad ty f g h q 61 = .inl (ty 3, 5040, .inl f) := rfl
theorem ce_62 (ad : Nat → Nat) (ty : Nat → ClassId) (f : Nat → Int32) (g : Nat → UInt32) (h : Nat → UInt64) (q : Nat → Int64) : cz ad ty f g h q 62 = .inl (ty 3, 5040, .inl f) := rfl
theorem ce_63 (ad : Nat → Nat) (ty : Nat → ClassId) (f : Nat → Int32) (g : Nat → UInt32) (h : Nat → UInt64) (q : Nat → Int64) : cz ad ty f g h q 63 = .inl (ty 3, 8, .inl f) := rfl
theorem ce_64 (ad : Nat → Nat) (ty : Nat → ClassId) (f : Nat → Int32) (g : Nat → UInt32) (h : Nat → UInt64) (q : Nat → Int64) : cz ad ty f g h q 64 = .inl (ty 3, 8, .inl f) := rfl
theorem ce_65 (ad : Nat → Nat) (ty : Nat → ClassId) (f : Nat → Int32) (g : Nat → UInt32) (h : Nat → UInt64) (q : Nat → Int64) : cz ad ty f g h q 65 = .inl (ty 3, 5041, .inl f) := rfl
theorem ce_66 (ad : Nat → Nat) (ty : Nat → ClassId) (f : Nat → Int32) (g : Nat → UInt32) (h : Nat → UInt64) (q : Nat → Int64) : cz ad ty f g h q 66 = .inl (ty 6, 1, .inr (.inl q)) := rfl
theorem ce_67 (ad : Nat → Nat) (ty : Nat → ClassId) (f : Nat → Int32) (g : Nat → UInt32) (h : Nat → UInt64) (q : Nat → Int64) : cz ad ty f g h q 67 = .inl (ty 1, 1, .inr (.inr (.inr (.inl h)))) := rfl
end ZWorld
section ZYz
def zStr : List (String × Nat × String) := [("PermutationPuzzle", 92, "a puzzle has 2 to 7 positions"), ("PermutationPuzzle", 100, "the code is not from 32 to 126"), ("PermutationPuzzle", 108, "the buffer is full"), ("PermutationPuzzle", 312, "no such move"), ("PermutationPuzzle", 124, "the cycles are malformed"), ("PermutationPuzzle", 314, "no such slot"), ("PermutationPuzzle", 154, "the word is malformed"), ("PermutationPuzzle", 156, "a name is that of an undefined move"), ("PermutationPuzzle", 160, "the word has more than 200 letters"), ("PermutationPuzzle", 169, "no text was malformed"), ("PermutationPuzzle", 316, "no such position"), ("PermutationPuzzle", 179, "the move is undefined"), ("PermutationPuzzle", 194, "no such letter"), ("PermutationPuzzle", 208, "the conjugate has more than 200 letters"), ("PermutationPuzzle", 210, "the commutator has more than 200 letters"), ("PermutationPuzzle", 224, "times is not from -100 to 100"), ("PermutationPuzzle", 332, "the arrangement is not reachable"), ("PermutationPuzzle", 281, "no such commutator"), ("PermutationPuzzle", 318, "no such row"), ("PermutationPuzzle", 320, "no such element"), ("PermutationPuzzle", 292, "the factor is not from -1000 to 1000"), ("PermutationPuzzle", 335, "the product is too great"), ("PermutationPuzzle", 300, "the divisor is 0"), ("PermutationPuzzle", 310, "there is no snapshot")]
def zDc : List MethodName := [⟨"java/lang/RuntimeException", "<init>", "()V"⟩, ⟨"java/lang/RuntimeException", "<init>", "(Ljava/lang/String;)V"⟩, ⟨"java/lang/Exception", "<init>", "()V"⟩, ⟨"java/lang/Exception", "<init>", "(Ljava/lang/String;)V"⟩, ⟨"java/lang/Throwable", "<init>", "()V"⟩, ⟨"java/lang/Throwable", "<init>", "(Ljava/lang/String;)V"⟩, ⟨"java/lang/IndexOutOfBoundsException", "<init>", "()V"⟩, ⟨"java/lang/IndexOutOfBoundsException", "<init>", "(Ljava/lang/String;)V"⟩]
def zCs : List (String × String) := [("java/lang/IllegalArgumentException", "java/lang/IllegalArgumentException"), ("java/lang/IllegalStateException", "java/lang/IllegalStateException"), ("java/lang/IndexOutOfBoundsException", "java/lang/IndexOutOfBoundsException"), ("java/lang/ArithmeticException", "java/lang/ArithmeticException"), ("java/util/NoSuchElementException", "java/util/NoSuchElementException")]
def zNc : List (String × String) := [("java/lang/IllegalStateException", "java/lang/IllegalArgumentException"), ("java/lang/IndexOutOfBoundsException", "java/lang/IllegalArgumentException"), ("java/lang/ArithmeticException", "java/lang/IllegalArgumentException"), ("java/util/NoSuchElementException", "java/lang/IllegalArgumentException"), ("java/lang/IllegalArgumentException", "java/lang/IllegalStateException"), ("java/lang/IndexOutOfBoundsException", "java/lang/IllegalStateException"), ("java/lang/ArithmeticException", "java/lang/IllegalStateException"), ("java/util/NoSuchElementException", "java/lang/IllegalStateException"), ("java/lang/IllegalArgumentException", "java/lang/IndexOutOfBoundsException"), ("java/lang/IllegalStateException", "java/lang/IndexOutOfBoundsException"), ("java/lang/ArithmeticException", "java/lang/IndexOutOfBoundsException"), ("java/util/NoSuchElementException", "java/lang/IndexOutOfBoundsException"), ("java/lang/IllegalArgumentException", "java/lang/ArithmeticException"), ("java/lang/IllegalStateException", "java/lang/ArithmeticException"), ("java/lang/IndexOutOfBoundsException", "java/lang/ArithmeticException"), ("java/util/NoSuchElementException", "java/lang/ArithmeticException"), ("java/lang/IllegalArgumentException", "java/util/NoSuchElementException"), ("java/lang/IllegalStateException", "java/util/NoSuchElementException"), ("java/lang/IndexOutOfBoundsException", "java/util/NoSuchElementException"), ("java/lang/ArithmeticException", "java/util/NoSuchElementException")]
/-- what a thrown exception needs of the state: the two statics of Throwable, the texts, the classes that are no others -/
def Yz (ad : Nat → Nat) (U : State) : Prop := vx_Zq Bundle.tN "UNASSIGNED_STACK" Bundle.steD (Az ad U.heap.size) U U.heap ∧ vx_Zq Bundle.tN "SUPPRESSED_SENTINEL" Bundle.listD (Az ad U.heap.size) U U.heap ∧ (∀ q ∈ zStr, ∃ sa, vk_R q.1 q.2.1 q.2.2 sa U) ∧ (∀ q ∈ zNc, va_Nc q.1 q.2 U) ∧ (∀ x ∈ zDc, va_Nw (.declares x) U) ∧ ∀ q ∈ zCs, va_Nw (.castable q.1 q.2) U
theorem Az_le {ad : Nat → Nat} {n n' : Nat} (h : n ≤ n') : ∀ q, Az ad n' q → Az ad n q := fun q hq => hq.elim Or.inl (fun z => Or.inr (Nat.le_trans h z))
theorem Yz.at {ad : Nat → Nat} {s U : State} {H : Heap} {locs : List Loc} (h : Yz ad s) (hS : va_S (Az ad s.heap.size) s.heap H locs) (hU : U.heap = H) (hW : s.WarmedH U.vm) : Yz ad U := by
  subst hU
  exact ⟨((h.1.kept hS.2.1).moved hW.alike).narrow (Az_le hS.1), ((h.2.1.kept hS.2.1).moved hW.alike).narrow (Az_le hS.1), fun q hq => (h.2.2.1 q hq).elim (fun sa z => ⟨sa, z.warm hW⟩), fun q hq => (h.2.2.2.1 q hq).moved hW.alike, fun x hx => (h.2.2.2.2.1 x hx).warmD hW, fun q hq => (h.2.2.2.2.2 q hq).warmC hW⟩
theorem Yz.calling {ad : Nat → Nat} {U : State} (h : Yz ad U) (g : JFrame) (mk : MethodId) (a : Array Value) : Yz ad (U.calling g mk a) := 
  ⟨h.1.moved (U := U.calling g mk a) (Vm.Alike.refl U.vm), h.2.1.moved (U := U.calling g mk a) (Vm.Alike.refl U.vm), fun q hq => (h.2.2.1 q hq).elim (fun sa z => ⟨sa, z.same rfl⟩), fun q hq => (h.2.2.2.1 q hq).moved (U := U.calling g mk a) (Vm.Alike.refl U.vm), fun x hx => va_Nw.same rfl rfl (h.2.2.2.2.1 x hx), fun q hq => va_Nw.same rfl rfl (h.2.2.2.2.2 q hq)⟩
end ZYz
end
section
/-! the judgement Gz: the machine at pc over the world σ, locals lv, stack st; a row an instruction. Written by wip/whole/genrows.py -/
section ZRows
def Gz (p : Program) (l : Launch) (e : Env) (R : Room) (s : State) (m : MethodId) (args : Array Value) (below : List Frame) (meth : Method) (c : Code) (D : va_G) (ad : Nat → Nat) (ty : Nat → ClassId) (nL cells slots : Nat) (Q : State → Prop) (σ : Dz) (pc : Nat) (lv : List (Nat × Value)) (st : List Value) : Prop :=
  ∀ (H : Heap) (locs : List Loc) (ls : Array Slot), va_P D zCl (wz ad ty σ) H → va_S (Az ad s.heap.size) s.heap H locs → lv_has ls nL lv → W p l e R s m args below meth c H locs cells slots Q (F0 m pc ls st)
def Kz (p : Program) (l : Launch) (s : State) (m : MethodId) (args : Array Value) (meth : Method) (c : Code) (D : va_G) (ad : Nat → Nat) (ty : Nat → ClassId) (cc : ByteArray) (nL : Nat) (own : String) : Prop :=
  CallFix p m c cc nL s args zW own ∧ va_K D zCl (tz ty) s ∧ (∀ i j, i < 68 → j < 68 → ad i = ad j → i = j) ∧ meth.locks = false ∧ Yz ad s ∧ l.stackTraces = false
variable {p : Program} {l : Launch} {e : Env} {R : Room} {s : State} {m : MethodId} {args : Array Value} {below : List Frame} {meth : Method} {c : Code} {D : va_G} {ad : Nat → Nat} {ty : Nat → ClassId} {cc : ByteArray} {nL cells slots : Nat} {own : String} {Q : State → Prop} {σ : Dz} {pc : Nat} {lv : List (Nat × Value)} {st : List Value}
theorem gz_iload_n (K : Kz p l s m args meth c D ad ty cc nL own) {k : Fin 4} {x : Int32} (hdg : decode cc pc = .ok (.iload_n k, 1)) (i : Nat) (h : lv[i]? = some ((k : Nat), .int x)) (kk : Gz p l e R s m args below meth c D ad ty nL cells slots Q σ (pc + 1) lv (.int x :: st)) : Gz p l e R s m args below meth c D ad ty nL cells slots Q σ pc lv (st) := fun H locs ls hP hS hl => lv_iload_n K.1.1 K.1.2.1 hdg rfl (lv_at hl i h) (kk H locs ls hP hS hl)
theorem gz_iload (K : Kz p l s m args meth c D ad ty cc nL own) {k : Nat} {x : Int32} (hdg : decode cc pc = .ok (.iload k, 2)) (i : Nat) (h : lv[i]? = some (k, .int x)) (kk : Gz p l e R s m args below meth c D ad ty nL cells slots Q σ (pc + 2) lv (.int x :: st)) : Gz p l e R s m args below meth c D ad ty nL cells slots Q σ pc lv (st) := fun H locs ls hP hS hl => lv_iload K.1.1 K.1.2.1 hdg (lv_at hl i h) (kk H locs ls hP hS hl)
theorem gz_aload_n (K : Kz p l s m args meth c D ad ty cc nL own) {k : Fin 4} {x : Nat} (hdg : decode cc pc = .ok (.aload_n k, 1)) (i : Nat) (h : lv[i]? = some ((k : Nat), .ref x)) (kk : Gz p l e R s m args below meth c D ad ty nL cells slots Q σ (pc + 1) lv (.ref x :: st)) : Gz p l e R s m args below meth c D ad ty nL cells slots Q σ pc lv (st) := fun H locs ls hP hS hl => lv_aload_n K.1.1 K.1.2.1 hdg rfl (lv_at hl i h) (kk H locs ls hP hS hl)
theorem gz_aload (K : Kz p l s m args meth c D ad ty cc nL own) {k : Nat} {x : Nat} (hdg : decode cc pc = .ok (.aload k, 2)) (i : Nat) (h : lv[i]? = some (k, .ref x)) (kk : Gz p l e R s m args below meth c D ad ty nL cells slots Q σ (pc + 2) lv (.ref x :: st)) : Gz p l e R s m args below meth c D ad ty nL cells slots Q σ pc lv (st) := fun H locs ls hP hS hl => lv_aload K.1.1 K.1.2.1 hdg (lv_at hl i h) (kk H locs ls hP hS hl)
theorem gz_fload_n (K : Kz p l s m args meth c D ad ty cc nL own) {k : Fin 4} {x : UInt32} (hdg : decode cc pc = .ok (.fload_n k, 1)) (i : Nat) (h : lv[i]? = some ((k : Nat), .float x)) (kk : Gz p l e R s m args below meth c D ad ty nL cells slots Q σ (pc + 1) lv (.float x :: st)) : Gz p l e R s m args below meth c D ad ty nL cells slots Q σ pc lv (st) := fun H locs ls hP hS hl => lv_fload_n K.1.1 K.1.2.1 hdg rfl (lv_at hl i h) (kk H locs ls hP hS hl)
theorem gz_fload (K : Kz p l s m args meth c D ad ty cc nL own) {k : Nat} {x : UInt32} (hdg : decode cc pc = .ok (.fload k, 2)) (i : Nat) (h : lv[i]? = some (k, .float x)) (kk : Gz p l e R s m args below meth c D ad ty nL cells slots Q σ (pc + 2) lv (.float x :: st)) : Gz p l e R s m args below meth c D ad ty nL cells slots Q σ pc lv (st) := fun H locs ls hP hS hl => lv_fload K.1.1 K.1.2.1 hdg (lv_at hl i h) (kk H locs ls hP hS hl)
theorem gz_dload_n (K : Kz p l s m args meth c D ad ty cc nL own) {k : Fin 4} {x : UInt64} (hdg : decode cc pc = .ok (.dload_n k, 1)) (i : Nat) (h : lv[i]? = some ((k : Nat), .double x)) (kk : Gz p l e R s m args below meth c D ad ty nL cells slots Q σ (pc + 1) lv (.double x :: st)) : Gz p l e R s m args below meth c D ad ty nL cells slots Q σ pc lv (st) := fun H locs ls hP hS hl => lv_dload_n K.1.1 K.1.2.1 hdg rfl (lv_at hl i h) (kk H locs ls hP hS hl)
theorem gz_dload (K : Kz p l s m args meth c D ad ty cc nL own) {k : Nat} {x : UInt64} (hdg : decode cc pc = .ok (.dload k, 2)) (i : Nat) (h : lv[i]? = some (k, .double x)) (kk : Gz p l e R s m args below meth c D ad ty nL cells slots Q σ (pc + 2) lv (.double x :: st)) : Gz p l e R s m args below meth c D ad ty nL cells slots Q σ pc lv (st) := fun H locs ls hP hS hl => lv_dload K.1.1 K.1.2.1 hdg (lv_at hl i h) (kk H locs ls hP hS hl)
theorem gz_istore_n (K : Kz p l s m args meth c D ad ty cc nL own) {k : Fin 4} {x : Int32} (lv' : List (Nat × Value)) (hdg : decode cc pc = .ok (.istore_n k, 1)) (hn : (k : Nat) < nL) (h : ((k : Nat), Value.int x) :: lv.filter (fun q => !(q.1 == (k : Nat)) && !(q.1 + 1 == (k : Nat) && q.2.category == 2)) = lv') (kk : Gz p l e R s m args below meth c D ad ty nL cells slots Q σ (pc + 1) lv' (st)) : Gz p l e R s m args below meth c D ad ty nL cells slots Q σ pc lv (.int x :: st) := fun H locs ls hP hS hl => lv_istore_n K.1.1 K.1.2.1 hdg rfl hl hn h (fun ls hl => kk H locs ls hP hS hl)
theorem gz_istore (K : Kz p l s m args meth c D ad ty cc nL own) {k : Nat} {x : Int32} (lv' : List (Nat × Value)) (hdg : decode cc pc = .ok (.istore k, 2)) (hn : k < nL) (h : (k, Value.int x) :: lv.filter (fun q => !(q.1 == k) && !(q.1 + 1 == k && q.2.category == 2)) = lv') (kk : Gz p l e R s m args below meth c D ad ty nL cells slots Q σ (pc + 2) lv' (st)) : Gz p l e R s m args below meth c D ad ty nL cells slots Q σ pc lv (.int x :: st) := fun H locs ls hP hS hl => lv_istore K.1.1 K.1.2.1 hdg hl hn h (fun ls hl => kk H locs ls hP hS hl)
theorem gz_astore_n (K : Kz p l s m args meth c D ad ty cc nL own) {k : Fin 4} {x : Nat} (lv' : List (Nat × Value)) (hdg : decode cc pc = .ok (.astore_n k, 1)) (hn : (k : Nat) < nL) (h : ((k : Nat), Value.ref x) :: lv.filter (fun q => !(q.1 == (k : Nat)) && !(q.1 + 1 == (k : Nat) && q.2.category == 2)) = lv') (kk : Gz p l e R s m args below meth c D ad ty nL cells slots Q σ (pc + 1) lv' (st)) : Gz p l e R s m args below meth c D ad ty nL cells slots Q σ pc lv (.ref x :: st) := fun H locs ls hP hS hl => lv_astore_n K.1.1 K.1.2.1 hdg rfl hl hn h (fun ls hl => kk H locs ls hP hS hl)
theorem gz_astore (K : Kz p l s m args meth c D ad ty cc nL own) {k : Nat} {x : Nat} (lv' : List (Nat × Value)) (hdg : decode cc pc = .ok (.astore k, 2)) (hn : k < nL) (h : (k, Value.ref x) :: lv.filter (fun q => !(q.1 == k) && !(q.1 + 1 == k && q.2.category == 2)) = lv') (kk : Gz p l e R s m args below meth c D ad ty nL cells slots Q σ (pc + 2) lv' (st)) : Gz p l e R s m args below meth c D ad ty nL cells slots Q σ pc lv (.ref x :: st) := fun H locs ls hP hS hl => lv_astore K.1.1 K.1.2.1 hdg hl hn h (fun ls hl => kk H locs ls hP hS hl)
theorem gz_fstore_n (K : Kz p l s m args meth c D ad ty cc nL own) {k : Fin 4} {x : UInt32} (lv' : List (Nat × Value)) (hdg : decode cc pc = .ok (.fstore_n k, 1)) (hn : (k : Nat) < nL) (h : ((k : Nat), Value.float x) :: lv.filter (fun q => !(q.1 == (k : Nat)) && !(q.1 + 1 == (k : Nat) && q.2.category == 2)) = lv') (kk : Gz p l e R s m args below meth c D ad ty nL cells slots Q σ (pc + 1) lv' (st)) : Gz p l e R s m args below meth c D ad ty nL cells slots Q σ pc lv (.float x :: st) := fun H locs ls hP hS hl => lv_fstore_n K.1.1 K.1.2.1 hdg rfl hl hn h (fun ls hl => kk H locs ls hP hS hl)
theorem gz_fstore (K : Kz p l s m args meth c D ad ty cc nL own) {k : Nat} {x : UInt32} (lv' : List (Nat × Value)) (hdg : decode cc pc = .ok (.fstore k, 2)) (hn : k < nL) (h : (k, Value.float x) :: lv.filter (fun q => !(q.1 == k) && !(q.1 + 1 == k && q.2.category == 2)) = lv') (kk : Gz p l e R s m args below meth c D ad ty nL cells slots Q σ (pc + 2) lv' (st)) : Gz p l e R s m args below meth c D ad ty nL cells slots Q σ pc lv (.float x :: st) := fun H locs ls hP hS hl => lv_fstore K.1.1 K.1.2.1 hdg hl hn h (fun ls hl => kk H locs ls hP hS hl)
theorem gz_dstore_n (K : Kz p l s m args meth c D ad ty cc nL own) {k : Fin 4} {x : UInt64} (lv' : List (Nat × Value)) (hdg : decode cc pc = .ok (.dstore_n k, 1)) (hn : (k : Nat) + 1 < nL) (h : ((k : Nat), Value.double x) :: lv.filter (fun q => !(q.1 == (k : Nat)) && (!(q.1 == (k : Nat) + 1) && !(q.1 + 1 == (k : Nat) && q.2.category == 2))) = lv') (kk : Gz p l e R s m args below meth c D ad ty nL cells slots Q σ (pc + 1) lv' (st)) : Gz p l e R s m args below meth c D ad ty nL cells slots Q σ pc lv (.double x :: st) := fun H locs ls hP hS hl => lv_dstore_n K.1.1 K.1.2.1 hdg rfl hl hn h (fun ls hl => kk H locs ls hP hS hl)
theorem gz_dstore (K : Kz p l s m args meth c D ad ty cc nL own) {k : Nat} {x : UInt64} (lv' : List (Nat × Value)) (hdg : decode cc pc = .ok (.dstore k, 2)) (hn : k + 1 < nL) (h : (k, Value.double x) :: lv.filter (fun q => !(q.1 == k) && (!(q.1 == k + 1) && !(q.1 + 1 == k && q.2.category == 2))) = lv') (kk : Gz p l e R s m args below meth c D ad ty nL cells slots Q σ (pc + 2) lv' (st)) : Gz p l e R s m args below meth c D ad ty nL cells slots Q σ pc lv (.double x :: st) := fun H locs ls hP hS hl => lv_dstore K.1.1 K.1.2.1 hdg hl hn h (fun ls hl => kk H locs ls hP hS hl)
theorem gz_iinc (K : Kz p l s m args meth c D ad ty cc nL own) {k : Nat} {n : Int} {x v : Int32} (lv' : List (Nat × Value)) (hdg : decode cc pc = .ok (.iinc k n, 3)) (i : Nat) (hi : lv[i]? = some (k, .int x)) (hv : x + Int32.ofInt n = v) (hn : k < nL) (h : (k, Value.int v) :: lv.filter (fun q => !(q.1 == k) && !(q.1 + 1 == k && q.2.category == 2)) = lv') (kk : Gz p l e R s m args below meth c D ad ty nL cells slots Q σ (pc + 3) lv' (st)) : Gz p l e R s m args below meth c D ad ty nL cells slots Q σ pc lv (st) := fun H locs ls hP hS hl => lv_iinc K.1.1 K.1.2.1 hdg hl hi hv hn h (fun ls hl => kk H locs ls hP hS hl)
theorem gz_iconst (K : Kz p l s m args meth c D ad ty cc nL own) {n : Int} {v : Int32} (hdg : decode cc pc = .ok (.iconst n, 1)) (hv : Int32.ofInt n = v) (kk : Gz p l e R s m args below meth c D ad ty nL cells slots Q σ (pc + 1) lv (.int v :: st)) : Gz p l e R s m args below meth c D ad ty nL cells slots Q σ pc lv (st) := fun H locs ls hP hS hl => lv_iconst K.1.1 K.1.2.1 hdg hv (kk H locs ls hP hS hl)
theorem gz_bipush (K : Kz p l s m args meth c D ad ty cc nL own) {n : Int} {v : Int32} (hdg : decode cc pc = .ok (.bipush n, 2)) (hv : (Int8.ofInt n).toInt32 = v) (kk : Gz p l e R s m args below meth c D ad ty nL cells slots Q σ (pc + 2) lv (.int v :: st)) : Gz p l e R s m args below meth c D ad ty nL cells slots Q σ pc lv (st) := fun H locs ls hP hS hl => lv_bipush K.1.1 K.1.2.1 hdg hv (kk H locs ls hP hS hl)
theorem gz_sipush (K : Kz p l s m args meth c D ad ty cc nL own) {n : Int} {v : Int32} (hdg : decode cc pc = .ok (.sipush n, 3)) (hv : (Int16.ofInt n).toInt32 = v) (kk : Gz p l e R s m args below meth c D ad ty nL cells slots Q σ (pc + 3) lv (.int v :: st)) : Gz p l e R s m args below meth c D ad ty nL cells slots Q σ pc lv (st) := fun H locs ls hP hS hl => lv_sipush K.1.1 K.1.2.1 hdg hv (kk H locs ls hP hS hl)
theorem gz_lconst (K : Kz p l s m args meth c D ad ty cc nL own) {n : Fin 2} {v : Int64} (hdg : decode cc pc = .ok (.lconst n, 1)) (hv : Int64.ofNat (n : Nat) = v) (kk : Gz p l e R s m args below meth c D ad ty nL cells slots Q σ (pc + 1) lv (.long v :: st)) : Gz p l e R s m args below meth c D ad ty nL cells slots Q σ pc lv (st) := fun H locs ls hP hS hl => lv_lconst K.1.1 K.1.2.1 hdg hv (kk H locs ls hP hS hl)
theorem gz_ldc (K : Kz p l s m args meth c D ad ty cc nL own) {idx : Nat} {v : Int32} (hc : Cond.constant own idx v ∈ zW) (hdg : decode cc pc = .ok (.ldc idx, 2)) (kk : Gz p l e R s m args below meth c D ad ty nL cells slots Q σ (pc + 2) lv (.int v :: st)) : Gz p l e R s m args below meth c D ad ty nL cells slots Q σ pc lv (st) := fun H locs ls hP hS hl => lv_ldc K.1.1 K.1.2.1 K.1.2.2.2.1 (K.1.2.2.2.2 _ hc) hdg (kk H locs ls hP hS hl)
theorem gz_ldcf (K : Kz p l s m args meth c D ad ty cc nL own) {idx : Nat} {v : UInt32} (hc : Cond.constantFloat own idx v ∈ zW) (hdg : decode cc pc = .ok (.ldc idx, 2)) (kk : Gz p l e R s m args below meth c D ad ty nL cells slots Q σ (pc + 2) lv (.float v :: st)) : Gz p l e R s m args below meth c D ad ty nL cells slots Q σ pc lv (st) := fun H locs ls hP hS hl => lv_ldcf K.1.1 K.1.2.1 K.1.2.2.2.1 (K.1.2.2.2.2 _ hc) hdg (kk H locs ls hP hS hl)
theorem gz_ldc2d (K : Kz p l s m args meth c D ad ty cc nL own) {idx : Nat} {v : UInt64} (hc : Cond.constantDouble own idx v ∈ zW) (hdg : decode cc pc = .ok (.ldc2_w idx, 3)) (kk : Gz p l e R s m args below meth c D ad ty nL cells slots Q σ (pc + 3) lv (.double v :: st)) : Gz p l e R s m args below meth c D ad ty nL cells slots Q σ pc lv (st) := fun H locs ls hP hS hl => lv_ldc2d K.1.1 K.1.2.1 K.1.2.2.2.1 (K.1.2.2.2.2 _ hc) hdg (kk H locs ls hP hS hl)
theorem gz_fconst0 (K : Kz p l s m args meth c D ad ty cc nL own) (hdg : decode cc pc = .ok (.fconst 0, 1)) (kk : Gz p l e R s m args below meth c D ad ty nL cells slots Q σ (pc + 1) lv (.float 0 :: st)) : Gz p l e R s m args below meth c D ad ty nL cells slots Q σ pc lv (st) := fun H locs ls hP hS hl => lv_fconst0 K.1.1 K.1.2.1 hdg (kk H locs ls hP hS hl)
theorem gz_dconst0 (K : Kz p l s m args meth c D ad ty cc nL own) (hdg : decode cc pc = .ok (.dconst 0, 1)) (kk : Gz p l e R s m args below meth c D ad ty nL cells slots Q σ (pc + 1) lv (.double 0 :: st)) : Gz p l e R s m args below meth c D ad ty nL cells slots Q σ pc lv (st) := fun H locs ls hP hS hl => lv_dconst0 K.1.1 K.1.2.1 hdg (kk H locs ls hP hS hl)
theorem gz_iadd (K : Kz p l s m args meth c D ad ty cc nL own) {x y : Int32} (hdg : decode cc pc = .ok (.iadd, 1)) (kk : Gz p l e R s m args below meth c D ad ty nL cells slots Q σ (pc + 1) lv (.int (x + y) :: st)) : Gz p l e R s m args below meth c D ad ty nL cells slots Q σ pc lv (.int y :: .int x :: st) := fun H locs ls hP hS hl => lv_iadd K.1.1 K.1.2.1 hdg (kk H locs ls hP hS hl)
theorem gz_isub (K : Kz p l s m args meth c D ad ty cc nL own) {x y : Int32} (hdg : decode cc pc = .ok (.isub, 1)) (kk : Gz p l e R s m args below meth c D ad ty nL cells slots Q σ (pc + 1) lv (.int (x - y) :: st)) : Gz p l e R s m args below meth c D ad ty nL cells slots Q σ pc lv (.int y :: .int x :: st) := fun H locs ls hP hS hl => lv_isub K.1.1 K.1.2.1 hdg (kk H locs ls hP hS hl)
theorem gz_imul (K : Kz p l s m args meth c D ad ty cc nL own) {x y : Int32} (hdg : decode cc pc = .ok (.imul, 1)) (kk : Gz p l e R s m args below meth c D ad ty nL cells slots Q σ (pc + 1) lv (.int (x * y) :: st)) : Gz p l e R s m args below meth c D ad ty nL cells slots Q σ pc lv (.int y :: .int x :: st) := fun H locs ls hP hS hl => lv_imul K.1.1 K.1.2.1 hdg (kk H locs ls hP hS hl)
theorem gz_ishl (K : Kz p l s m args meth c D ad ty cc nL own) {x y : Int32} (hdg : decode cc pc = .ok (.ishl, 1)) (kk : Gz p l e R s m args below meth c D ad ty nL cells slots Q σ (pc + 1) lv (.int (x <<< (y &&& 31)) :: st)) : Gz p l e R s m args below meth c D ad ty nL cells slots Q σ pc lv (.int y :: .int x :: st) := fun H locs ls hP hS hl => lv_ishl K.1.1 K.1.2.1 hdg (kk H locs ls hP hS hl)
theorem gz_ishr (K : Kz p l s m args meth c D ad ty cc nL own) {x y : Int32} (hdg : decode cc pc = .ok (.ishr, 1)) (kk : Gz p l e R s m args below meth c D ad ty nL cells slots Q σ (pc + 1) lv (.int (x >>> (y &&& 31)) :: st)) : Gz p l e R s m args below meth c D ad ty nL cells slots Q σ pc lv (.int y :: .int x :: st) := fun H locs ls hP hS hl => lv_ishr K.1.1 K.1.2.1 hdg (kk H locs ls hP hS hl)
theorem gz_iand (K : Kz p l s m args meth c D ad ty cc nL own) {x y : Int32} (hdg : decode cc pc = .ok (.iand, 1)) (kk : Gz p l e R s m args below meth c D ad ty nL cells slots Q σ (pc + 1) lv (.int (x &&& y) :: st)) : Gz p l e R s m args below meth c D ad ty nL cells slots Q σ pc lv (.int y :: .int x :: st) := fun H locs ls hP hS hl => lv_iand K.1.1 K.1.2.1 hdg (kk H locs ls hP hS hl)
theorem gz_ior (K : Kz p l s m args meth c D ad ty cc nL own) {x y : Int32} (hdg : decode cc pc = .ok (.ior, 1)) (kk : Gz p l e R s m args below meth c D ad ty nL cells slots Q σ (pc + 1) lv (.int (x ||| y) :: st)) : Gz p l e R s m args below meth c D ad ty nL cells slots Q σ pc lv (.int y :: .int x :: st) := fun H locs ls hP hS hl => lv_ior K.1.1 K.1.2.1 hdg (kk H locs ls hP hS hl)
theorem gz_ixor (K : Kz p l s m args meth c D ad ty cc nL own) {x y : Int32} (hdg : decode cc pc = .ok (.ixor, 1)) (kk : Gz p l e R s m args below meth c D ad ty nL cells slots Q σ (pc + 1) lv (.int (x ^^^ y) :: st)) : Gz p l e R s m args below meth c D ad ty nL cells slots Q σ pc lv (.int y :: .int x :: st) := fun H locs ls hP hS hl => lv_ixor K.1.1 K.1.2.1 hdg (kk H locs ls hP hS hl)
theorem gz_iushr (K : Kz p l s m args meth c D ad ty cc nL own) {x y : Int32} (hdg : decode cc pc = .ok (.iushr, 1)) (kk : Gz p l e R s m args below meth c D ad ty nL cells slots Q σ (pc + 1) lv (.int ((x.toUInt32 >>> (y.toUInt32 &&& Int32.toUInt32 31)).toInt32) :: st)) : Gz p l e R s m args below meth c D ad ty nL cells slots Q σ pc lv (.int y :: .int x :: st) := fun H locs ls hP hS hl => lv_iushr K.1.1 K.1.2.1 hdg rfl (kk H locs ls hP hS hl)
theorem gz_idiv (K : Kz p l s m args meth c D ad ty cc nL own) {x y : Int32} (hdg : decode cc pc = .ok (.idiv, 1)) (hne : ¬ y = 0) (kk : Gz p l e R s m args below meth c D ad ty nL cells slots Q σ (pc + 1) lv (.int (x / y) :: st)) : Gz p l e R s m args below meth c D ad ty nL cells slots Q σ pc lv (.int y :: .int x :: st) := fun H locs ls hP hS hl => lv_idiv K.1.1 K.1.2.1 hdg hne (kk H locs ls hP hS hl)
theorem gz_irem (K : Kz p l s m args meth c D ad ty cc nL own) {x y : Int32} (hdg : decode cc pc = .ok (.irem, 1)) (hne : ¬ y = 0) (kk : Gz p l e R s m args below meth c D ad ty nL cells slots Q σ (pc + 1) lv (.int (x - x / y * y) :: st)) : Gz p l e R s m args below meth c D ad ty nL cells slots Q σ pc lv (.int y :: .int x :: st) := fun H locs ls hP hS hl => lv_irem K.1.1 K.1.2.1 hdg hne (kk H locs ls hP hS hl)
theorem gz_ineg (K : Kz p l s m args meth c D ad ty cc nL own) {x : Int32} (hdg : decode cc pc = .ok (.ineg, 1)) (kk : Gz p l e R s m args below meth c D ad ty nL cells slots Q σ (pc + 1) lv (.int (-x) :: st)) : Gz p l e R s m args below meth c D ad ty nL cells slots Q σ pc lv (.int x :: st) := fun H locs ls hP hS hl => lv_ineg K.1.1 K.1.2.1 hdg (kk H locs ls hP hS hl)
theorem gz_i2c (K : Kz p l s m args meth c D ad ty cc nL own) {x : Int32} (hdg : decode cc pc = .ok (.i2c, 1)) (kk : Gz p l e R s m args below meth c D ad ty nL cells slots Q σ (pc + 1) lv (.int ((x.toUInt32 % 65536).toInt32) :: st)) : Gz p l e R s m args below meth c D ad ty nL cells slots Q σ pc lv (.int x :: st) := fun H locs ls hP hS hl => lv_i2c K.1.1 K.1.2.1 hdg rfl (kk H locs ls hP hS hl)
theorem gz_i2l (K : Kz p l s m args meth c D ad ty cc nL own) {x : Int32} (hdg : decode cc pc = .ok (.i2l, 1)) (kk : Gz p l e R s m args below meth c D ad ty nL cells slots Q σ (pc + 1) lv (.long (x.toInt64) :: st)) : Gz p l e R s m args below meth c D ad ty nL cells slots Q σ pc lv (.int x :: st) := fun H locs ls hP hS hl => lv_i2l K.1.1 K.1.2.1 hdg rfl (kk H locs ls hP hS hl)
theorem gz_lcmp (K : Kz p l s m args meth c D ad ty cc nL own) {x y : Int64} (hdg : decode cc pc = .ok (.lcmp, 1)) (kk : Gz p l e R s m args below meth c D ad ty nL cells slots Q σ (pc + 1) lv (.int (lg_cmp x y) :: st)) : Gz p l e R s m args below meth c D ad ty nL cells slots Q σ pc lv (.long y :: .long x :: st) := fun H locs ls hP hS hl => W.lcmp K.1.1 K.1.2.1 hdg (kk H locs ls hP hS hl)
theorem gz_i2f (K : Kz p l s m args meth c D ad ty cc nL own) {x : Int32} (hdg : decode cc pc = .ok (.i2f, 1)) (kk : Gz p l e R s m args below meth c D ad ty nL cells slots Q σ (pc + 1) lv (.float (FP.i2f x) :: st)) : Gz p l e R s m args below meth c D ad ty nL cells slots Q σ pc lv (.int x :: st) := fun H locs ls hP hS hl => lv_i2f K.1.1 K.1.2.1 hdg (kk H locs ls hP hS hl)
theorem gz_i2d (K : Kz p l s m args meth c D ad ty cc nL own) {x : Int32} (hdg : decode cc pc = .ok (.i2d, 1)) (kk : Gz p l e R s m args below meth c D ad ty nL cells slots Q σ (pc + 1) lv (.double (FP.i2d x) :: st)) : Gz p l e R s m args below meth c D ad ty nL cells slots Q σ pc lv (.int x :: st) := fun H locs ls hP hS hl => lv_i2d K.1.1 K.1.2.1 hdg (kk H locs ls hP hS hl)
theorem gz_f2i (K : Kz p l s m args meth c D ad ty cc nL own) {x : UInt32} (hdg : decode cc pc = .ok (.f2i, 1)) (kk : Gz p l e R s m args below meth c D ad ty nL cells slots Q σ (pc + 1) lv (.int (FP.f2i x) :: st)) : Gz p l e R s m args below meth c D ad ty nL cells slots Q σ pc lv (.float x :: st) := fun H locs ls hP hS hl => lv_f2i K.1.1 K.1.2.1 hdg (kk H locs ls hP hS hl)
theorem gz_d2i (K : Kz p l s m args meth c D ad ty cc nL own) {x : UInt64} (hdg : decode cc pc = .ok (.d2i, 1)) (kk : Gz p l e R s m args below meth c D ad ty nL cells slots Q σ (pc + 1) lv (.int (FP.d2i x) :: st)) : Gz p l e R s m args below meth c D ad ty nL cells slots Q σ pc lv (.double x :: st) := fun H locs ls hP hS hl => lv_d2i K.1.1 K.1.2.1 hdg (kk H locs ls hP hS hl)
theorem gz_dneg (K : Kz p l s m args meth c D ad ty cc nL own) {x : UInt64} (hdg : decode cc pc = .ok (.dneg, 1)) (kk : Gz p l e R s m args below meth c D ad ty nL cells slots Q σ (pc + 1) lv (.double (FP.dneg x) :: st)) : Gz p l e R s m args below meth c D ad ty nL cells slots Q σ pc lv (.double x :: st) := fun H locs ls hP hS hl => lv_dneg K.1.1 K.1.2.1 hdg (kk H locs ls hP hS hl)
theorem gz_fneg (K : Kz p l s m args meth c D ad ty cc nL own) {x : UInt32} (hdg : decode cc pc = .ok (.fneg, 1)) (kk : Gz p l e R s m args below meth c D ad ty nL cells slots Q σ (pc + 1) lv (.float (FP.fneg x) :: st)) : Gz p l e R s m args below meth c D ad ty nL cells slots Q σ pc lv (.float x :: st) := fun H locs ls hP hS hl => lv_fneg K.1.1 K.1.2.1 hdg (kk H locs ls hP hS hl)
theorem gz_f2d (K : Kz p l s m args meth c D ad ty cc nL own) {x : UInt32} (hdg : decode cc pc = .ok (.f2d, 1)) (hne : vf_n64 (FP.f2d x)) (kk : Gz p l e R s m args below meth c D ad ty nL cells slots Q σ (pc + 1) lv (.double (FP.f2d x) :: st)) : Gz p l e R s m args below meth c D ad ty nL cells slots Q σ pc lv (.float x :: st) := fun H locs ls hP hS hl => lv_f2d K.1.1 K.1.2.1 hdg hne (kk H locs ls hP hS hl)
theorem gz_fmul (K : Kz p l s m args meth c D ad ty cc nL own) {x y : UInt32} (hdg : decode cc pc = .ok (.fmul, 1)) (hne : vf_n32 (FP.fmul x y)) (kk : Gz p l e R s m args below meth c D ad ty nL cells slots Q σ (pc + 1) lv (.float (FP.fmul x y) :: st)) : Gz p l e R s m args below meth c D ad ty nL cells slots Q σ pc lv (.float y :: .float x :: st) := fun H locs ls hP hS hl => lv_fmul K.1.1 K.1.2.1 hdg hne (kk H locs ls hP hS hl)
theorem gz_fdiv (K : Kz p l s m args meth c D ad ty cc nL own) {x y : UInt32} (hdg : decode cc pc = .ok (.fdiv, 1)) (hne : vf_n32 (FP.fdiv x y)) (kk : Gz p l e R s m args below meth c D ad ty nL cells slots Q σ (pc + 1) lv (.float (FP.fdiv x y) :: st)) : Gz p l e R s m args below meth c D ad ty nL cells slots Q σ pc lv (.float y :: .float x :: st) := fun H locs ls hP hS hl => lv_fdiv K.1.1 K.1.2.1 hdg hne (kk H locs ls hP hS hl)
theorem gz_frem (K : Kz p l s m args meth c D ad ty cc nL own) {x y : UInt32} (hdg : decode cc pc = .ok (.frem, 1)) (hne : vf_n32 (FP.frem x y)) (kk : Gz p l e R s m args below meth c D ad ty nL cells slots Q σ (pc + 1) lv (.float (FP.frem x y) :: st)) : Gz p l e R s m args below meth c D ad ty nL cells slots Q σ pc lv (.float y :: .float x :: st) := fun H locs ls hP hS hl => lv_frem K.1.1 K.1.2.1 hdg hne (kk H locs ls hP hS hl)
theorem gz_dmul (K : Kz p l s m args meth c D ad ty cc nL own) {x y : UInt64} (hdg : decode cc pc = .ok (.dmul, 1)) (hne : vf_n64 (FP.dmul x y)) (kk : Gz p l e R s m args below meth c D ad ty nL cells slots Q σ (pc + 1) lv (.double (FP.dmul x y) :: st)) : Gz p l e R s m args below meth c D ad ty nL cells slots Q σ pc lv (.double y :: .double x :: st) := fun H locs ls hP hS hl => lv_dmul K.1.1 K.1.2.1 hdg hne (kk H locs ls hP hS hl)
theorem gz_ddiv (K : Kz p l s m args meth c D ad ty cc nL own) {x y : UInt64} (hdg : decode cc pc = .ok (.ddiv, 1)) (hne : vf_n64 (FP.ddiv x y)) (kk : Gz p l e R s m args below meth c D ad ty nL cells slots Q σ (pc + 1) lv (.double (FP.ddiv x y) :: st)) : Gz p l e R s m args below meth c D ad ty nL cells slots Q σ pc lv (.double y :: .double x :: st) := fun H locs ls hP hS hl => lv_ddiv K.1.1 K.1.2.1 hdg hne (kk H locs ls hP hS hl)
theorem gz_dsub (K : Kz p l s m args meth c D ad ty cc nL own) {x y : UInt64} (hdg : decode cc pc = .ok (.dsub, 1)) (hne : vf_n64 (FP.dsub x y)) (kk : Gz p l e R s m args below meth c D ad ty nL cells slots Q σ (pc + 1) lv (.double (FP.dsub x y) :: st)) : Gz p l e R s m args below meth c D ad ty nL cells slots Q σ pc lv (.double y :: .double x :: st) := fun H locs ls hP hS hl => lv_dsub K.1.1 K.1.2.1 hdg hne (kk H locs ls hP hS hl)
theorem gz_drem (K : Kz p l s m args meth c D ad ty cc nL own) {x y : UInt64} (hdg : decode cc pc = .ok (.drem, 1)) (hne : vf_n64 (FP.drem x y)) (kk : Gz p l e R s m args below meth c D ad ty nL cells slots Q σ (pc + 1) lv (.double (FP.drem x y) :: st)) : Gz p l e R s m args below meth c D ad ty nL cells slots Q σ pc lv (.double y :: .double x :: st) := fun H locs ls hP hS hl => lv_drem K.1.1 K.1.2.1 hdg hne (kk H locs ls hP hS hl)
theorem gz_dcmp (K : Kz p l s m args meth c D ad ty cc nL own) {x y : UInt64} {op : CmpOp} (hdg : decode cc pc = .ok (.dcmp op, 1)) (kk : Gz p l e R s m args below meth c D ad ty nL cells slots Q σ (pc + 1) lv (.int (Op.cmpValue (FP.dcmp x y) op) :: st)) : Gz p l e R s m args below meth c D ad ty nL cells slots Q σ pc lv (.double y :: .double x :: st) := fun H locs ls hP hS hl => lv_dcmp K.1.1 K.1.2.1 hdg (kk H locs ls hP hS hl)
theorem gz_fcmp (K : Kz p l s m args meth c D ad ty cc nL own) {x y : UInt32} {op : CmpOp} (hdg : decode cc pc = .ok (.fcmp op, 1)) (kk : Gz p l e R s m args below meth c D ad ty nL cells slots Q σ (pc + 1) lv (.int (Op.cmpValue (FP.fcmp x y) op) :: st)) : Gz p l e R s m args below meth c D ad ty nL cells slots Q σ pc lv (.float y :: .float x :: st) := fun H locs ls hP hS hl => lv_fcmp K.1.1 K.1.2.1 hdg (kk H locs ls hP hS hl)
theorem gz_dup (K : Kz p l s m args meth c D ad ty cc nL own) {va : Value} (hdg : decode cc pc = .ok (.dup, 1)) (h : va.category = 1) (kk : Gz p l e R s m args below meth c D ad ty nL cells slots Q σ (pc + 1) lv (va :: va :: st)) : Gz p l e R s m args below meth c D ad ty nL cells slots Q σ pc lv (va :: st) := fun H locs ls hP hS hl => lv_dup K.1.1 K.1.2.1 hdg h (kk H locs ls hP hS hl)
theorem gz_pop (K : Kz p l s m args meth c D ad ty cc nL own) {va : Value} (hdg : decode cc pc = .ok (.pop, 1)) (h : va.category = 1) (kk : Gz p l e R s m args below meth c D ad ty nL cells slots Q σ (pc + 1) lv (st)) : Gz p l e R s m args below meth c D ad ty nL cells slots Q σ pc lv (va :: st) := fun H locs ls hP hS hl => lv_pop K.1.1 K.1.2.1 hdg h (kk H locs ls hP hS hl)
theorem gz_dup2 (K : Kz p l s m args meth c D ad ty cc nL own) {va vb : Value} (hdg : decode cc pc = .ok (.dup2, 1)) (ha : va.category = 1) (hb : vb.category = 1) (kk : Gz p l e R s m args below meth c D ad ty nL cells slots Q σ (pc + 1) lv (va :: vb :: va :: vb :: st)) : Gz p l e R s m args below meth c D ad ty nL cells slots Q σ pc lv (va :: vb :: st) := fun H locs ls hP hS hl => lv_dup2_11 K.1.1 K.1.2.1 hdg ha hb (kk H locs ls hP hS hl)
theorem gz_goto (K : Kz p l s m args meth c D ad ty cc nL own) {off : Int} (tgt : Nat) (hdg : decode cc pc = .ok (.goto off, 3)) (ht : (pc : Int) + off = (tgt : Int)) (kk : Gz p l e R s m args below meth c D ad ty nL cells slots Q σ tgt lv (st)) : Gz p l e R s m args below meth c D ad ty nL cells slots Q σ pc lv (st) := fun H locs ls hP hS hl => lv_goto K.1.1 K.1.2.1 hdg ht (kk H locs ls hP hS hl)
theorem gz_icmp_ge (K : Kz p l s m args meth c D ad ty cc nL own) {x y : Int32} {off : Int} (tgt : Nat) (hdg : decode cc pc = .ok (.if_icmp .ge off, 3)) (ht : (pc : Int) + off = (tgt : Int)) (kt : y ≤ x → Gz p l e R s m args below meth c D ad ty nL cells slots Q σ tgt lv (st)) (kf : ¬ y ≤ x → Gz p l e R s m args below meth c D ad ty nL cells slots Q σ (pc + 3) lv (st)) : Gz p l e R s m args below meth c D ad ty nL cells slots Q σ pc lv (.int y :: .int x :: st) := fun H locs ls hP hS hl => lv_icmp_ge K.1.1 K.1.2.1 hdg ht (fun h => kt h H locs ls hP hS hl) (fun h => kf h H locs ls hP hS hl)
theorem gz_icmp_gt (K : Kz p l s m args meth c D ad ty cc nL own) {x y : Int32} {off : Int} (tgt : Nat) (hdg : decode cc pc = .ok (.if_icmp .gt off, 3)) (ht : (pc : Int) + off = (tgt : Int)) (kt : y < x → Gz p l e R s m args below meth c D ad ty nL cells slots Q σ tgt lv (st)) (kf : ¬ y < x → Gz p l e R s m args below meth c D ad ty nL cells slots Q σ (pc + 3) lv (st)) : Gz p l e R s m args below meth c D ad ty nL cells slots Q σ pc lv (.int y :: .int x :: st) := fun H locs ls hP hS hl => lv_icmp_gt K.1.1 K.1.2.1 hdg ht (fun h => kt h H locs ls hP hS hl) (fun h => kf h H locs ls hP hS hl)
theorem gz_icmp_lt (K : Kz p l s m args meth c D ad ty cc nL own) {x y : Int32} {off : Int} (tgt : Nat) (hdg : decode cc pc = .ok (.if_icmp .lt off, 3)) (ht : (pc : Int) + off = (tgt : Int)) (kt : x < y → Gz p l e R s m args below meth c D ad ty nL cells slots Q σ tgt lv (st)) (kf : ¬ x < y → Gz p l e R s m args below meth c D ad ty nL cells slots Q σ (pc + 3) lv (st)) : Gz p l e R s m args below meth c D ad ty nL cells slots Q σ pc lv (.int y :: .int x :: st) := fun H locs ls hP hS hl => lv_icmp_lt K.1.1 K.1.2.1 hdg ht (fun h => kt h H locs ls hP hS hl) (fun h => kf h H locs ls hP hS hl)
theorem gz_icmp_le (K : Kz p l s m args meth c D ad ty cc nL own) {x y : Int32} {off : Int} (tgt : Nat) (hdg : decode cc pc = .ok (.if_icmp .le off, 3)) (ht : (pc : Int) + off = (tgt : Int)) (kt : x ≤ y → Gz p l e R s m args below meth c D ad ty nL cells slots Q σ tgt lv (st)) (kf : ¬ x ≤ y → Gz p l e R s m args below meth c D ad ty nL cells slots Q σ (pc + 3) lv (st)) : Gz p l e R s m args below meth c D ad ty nL cells slots Q σ pc lv (.int y :: .int x :: st) := fun H locs ls hP hS hl => lv_icmp_le K.1.1 K.1.2.1 hdg ht (fun h => kt h H locs ls hP hS hl) (fun h => kf h H locs ls hP hS hl)
theorem gz_icmp_eq (K : Kz p l s m args meth c D ad ty cc nL own) {x y : Int32} {off : Int} (tgt : Nat) (hdg : decode cc pc = .ok (.if_icmp .eq off, 3)) (ht : (pc : Int) + off = (tgt : Int)) (kt : x = y → Gz p l e R s m args below meth c D ad ty nL cells slots Q σ tgt lv (st)) (kf : ¬ x = y → Gz p l e R s m args below meth c D ad ty nL cells slots Q σ (pc + 3) lv (st)) : Gz p l e R s m args below meth c D ad ty nL cells slots Q σ pc lv (.int y :: .int x :: st) := fun H locs ls hP hS hl => lv_icmp_eq K.1.1 K.1.2.1 hdg ht (fun h => kt h H locs ls hP hS hl) (fun h => kf h H locs ls hP hS hl)
theorem gz_icmp_ne (K : Kz p l s m args meth c D ad ty cc nL own) {x y : Int32} {off : Int} (tgt : Nat) (hdg : decode cc pc = .ok (.if_icmp .ne off, 3)) (ht : (pc : Int) + off = (tgt : Int)) (kt : ¬ x = y → Gz p l e R s m args below meth c D ad ty nL cells slots Q σ tgt lv (st)) (kf : x = y → Gz p l e R s m args below meth c D ad ty nL cells slots Q σ (pc + 3) lv (st)) : Gz p l e R s m args below meth c D ad ty nL cells slots Q σ pc lv (.int y :: .int x :: st) := fun H locs ls hP hS hl => lv_icmp_ne K.1.1 K.1.2.1 hdg ht (fun h => kt h H locs ls hP hS hl) (fun h => kf h H locs ls hP hS hl)
theorem gz_if_eq (K : Kz p l s m args meth c D ad ty cc nL own) {x : Int32} {off : Int} (tgt : Nat) (hdg : decode cc pc = .ok (.ifCond .eq off, 3)) (ht : (pc : Int) + off = (tgt : Int)) (kt : x = 0 → Gz p l e R s m args below meth c D ad ty nL cells slots Q σ tgt lv (st)) (kf : ¬ x = 0 → Gz p l e R s m args below meth c D ad ty nL cells slots Q σ (pc + 3) lv (st)) : Gz p l e R s m args below meth c D ad ty nL cells slots Q σ pc lv (.int x :: st) := fun H locs ls hP hS hl => lv_if_eq K.1.1 K.1.2.1 hdg ht (fun h => kt h H locs ls hP hS hl) (fun h => kf h H locs ls hP hS hl)
theorem gz_if_ne (K : Kz p l s m args meth c D ad ty cc nL own) {x : Int32} {off : Int} (tgt : Nat) (hdg : decode cc pc = .ok (.ifCond .ne off, 3)) (ht : (pc : Int) + off = (tgt : Int)) (kt : ¬ x = 0 → Gz p l e R s m args below meth c D ad ty nL cells slots Q σ tgt lv (st)) (kf : x = 0 → Gz p l e R s m args below meth c D ad ty nL cells slots Q σ (pc + 3) lv (st)) : Gz p l e R s m args below meth c D ad ty nL cells slots Q σ pc lv (.int x :: st) := fun H locs ls hP hS hl => lv_if_ne K.1.1 K.1.2.1 hdg ht (fun h => kt h H locs ls hP hS hl) (fun h => kf h H locs ls hP hS hl)
theorem gz_if_lt (K : Kz p l s m args meth c D ad ty cc nL own) {x : Int32} {off : Int} (tgt : Nat) (hdg : decode cc pc = .ok (.ifCond .lt off, 3)) (ht : (pc : Int) + off = (tgt : Int)) (kt : x < 0 → Gz p l e R s m args below meth c D ad ty nL cells slots Q σ tgt lv (st)) (kf : ¬ x < 0 → Gz p l e R s m args below meth c D ad ty nL cells slots Q σ (pc + 3) lv (st)) : Gz p l e R s m args below meth c D ad ty nL cells slots Q σ pc lv (.int x :: st) := fun H locs ls hP hS hl => lv_if_lt K.1.1 K.1.2.1 hdg ht (fun h => kt h H locs ls hP hS hl) (fun h => kf h H locs ls hP hS hl)
theorem gz_if_ge (K : Kz p l s m args meth c D ad ty cc nL own) {x : Int32} {off : Int} (tgt : Nat) (hdg : decode cc pc = .ok (.ifCond .ge off, 3)) (ht : (pc : Int) + off = (tgt : Int)) (kt : 0 ≤ x → Gz p l e R s m args below meth c D ad ty nL cells slots Q σ tgt lv (st)) (kf : ¬ 0 ≤ x → Gz p l e R s m args below meth c D ad ty nL cells slots Q σ (pc + 3) lv (st)) : Gz p l e R s m args below meth c D ad ty nL cells slots Q σ pc lv (.int x :: st) := fun H locs ls hP hS hl => lv_if_ge K.1.1 K.1.2.1 hdg ht (fun h => kt h H locs ls hP hS hl) (fun h => kf h H locs ls hP hS hl)
theorem gz_if_gt (K : Kz p l s m args meth c D ad ty cc nL own) {x : Int32} {off : Int} (tgt : Nat) (hdg : decode cc pc = .ok (.ifCond .gt off, 3)) (ht : (pc : Int) + off = (tgt : Int)) (kt : 0 < x → Gz p l e R s m args below meth c D ad ty nL cells slots Q σ tgt lv (st)) (kf : ¬ 0 < x → Gz p l e R s m args below meth c D ad ty nL cells slots Q σ (pc + 3) lv (st)) : Gz p l e R s m args below meth c D ad ty nL cells slots Q σ pc lv (.int x :: st) := fun H locs ls hP hS hl => lv_if_gt K.1.1 K.1.2.1 hdg ht (fun h => kt h H locs ls hP hS hl) (fun h => kf h H locs ls hP hS hl)
theorem gz_if_le (K : Kz p l s m args meth c D ad ty cc nL own) {x : Int32} {off : Int} (tgt : Nat) (hdg : decode cc pc = .ok (.ifCond .le off, 3)) (ht : (pc : Int) + off = (tgt : Int)) (kt : x ≤ 0 → Gz p l e R s m args below meth c D ad ty nL cells slots Q σ tgt lv (st)) (kf : ¬ x ≤ 0 → Gz p l e R s m args below meth c D ad ty nL cells slots Q σ (pc + 3) lv (st)) : Gz p l e R s m args below meth c D ad ty nL cells slots Q σ pc lv (.int x :: st) := fun H locs ls hP hS hl => lv_if_le K.1.1 K.1.2.1 hdg ht (fun h => kt h H locs ls hP hS hl) (fun h => kf h H locs ls hP hS hl)
theorem gz_sub {lv' : List (Nat × Value)} (ks : List Nat) (h : lv_pick lv ks = lv') (kk : Gz p l e R s m args below meth c D ad ty nL cells slots Q σ pc lv' (st)) : Gz p l e R s m args below meth c D ad ty nL cells slots Q σ pc lv (st) := fun H locs ls hP hS hl => kk H locs ls hP hS (lv_sub hl ks h)
theorem gz_widen {k n : Nat} (h1 : cells ≤ k) (h2 : slots ≤ n) (kk : Gz p l e R s m args below meth c D ad ty nL k n Q σ pc lv (st)) : Gz p l e R s m args below meth c D ad ty nL cells slots Q σ pc lv (st) := fun H locs ls hP hS hl => W.widen h1 h2 (kk H locs ls hP hS hl)
theorem gz_get (K : Kz p l s m args meth c D ad ty cc nL own) {k ci N idx : Nat} {Cn : String} {T : u_T} {fs : List Value} {v : Value} (hk : k < 68) (he : ez ad ty σ k = .inr (ci, fs)) (hc : zCl[ci]? = some (Cn, T, N)) (hin : ∀ w ∈ u_ws Cn T N, w ∈ zW) (j : Nat) (hj : j < N) (hlink : Cond.fieldLink own idx (T j).1 (T j).2.1 (T j).2.2.1 ∈ zW) (hv : fs[j]? = some v) (hdg : decode cc pc = .ok (.getfield idx, 3)) (kk : Gz p l e R s m args below meth c D ad ty nL cells slots Q σ (pc + 3) lv (v :: st)) : Gz p l e R s m args below meth c D ad ty nL cells slots Q σ pc lv (.ref (ad k) :: st) := fun H locs ls hP hS hl =>
  va_get K.1.1 K.1.2.1 K.1.2.2.2.2 hin K.1.2.2.2.1 K.2.1 hP k ((wz_get hk).trans (congrArg (fun z => some (ad k, z)) he)) hc j hj (K.1.2.2.2.2 _ hlink) (fun _ h => h) hv hdg (kk H locs ls hP hS hl)
theorem gz_put (K : Kz p l s m args meth c D ad ty cc nL own) {k ci N idx : Nat} {Cn : String} {T : u_T} {fs : List Value} {x : Int32} {ft : FieldType} (hk : k < 68) (he : ez ad ty σ k = .inr (ci, fs)) (hc : zCl[ci]? = some (Cn, T, N)) (hin : ∀ w ∈ u_ws Cn T N, w ∈ zW) (ty0 : Nat → FieldType) (hty : ∀ k, k < N → parseFieldDescriptor (T k).2.2.1 = some (ty0 k)) (hnm : ∀ a, a < N → ∀ b, b < N → a ≠ b → (T a).2.1 ≠ (T b).2.1) (j : Nat) (hj : j < N) (hlink : Cond.fieldLink own idx (T j).1 (T j).2.1 (T j).2.2.1 ∈ zW) (hfin : (T j).2.2.2 = false) (hd : parseFieldDescriptor (T j).2.2.1 = some ft) (hn : narrow ft (.int x) = .int x) (hfit : fits ft (.int x) = true) (hl0 : j < fs.length) (he' : ez ad ty (sz_i σ k j x) k = .inr (ci, fs.set j (.int x))) (hdg : decode cc pc = .ok (.putfield idx, 3)) (kk : Gz p l e R s m args below meth c D ad ty nL cells slots Q (sz_i σ k j x) (pc + 3) lv (st)) : Gz p l e R s m args below meth c D ad ty nL cells slots Q σ pc lv (.int x :: .ref (ad k) :: st) := fun H locs ls hP hS hl =>
  va_put K.1.1 K.1.2.1 K.1.2.2.2.2 hin ty0 hty hnm K.1.2.2.2.1 K.2.1 hP (wz_D K.2.2.1 _) hS k ((wz_get hk).trans (congrArg (fun z => some (ad k, z)) he)) hc j hj (K.1.2.2.2.2 _ hlink) (fun _ h => h) hfin hd hn hfit hl0 hdg (fun H1 locs1 hP1 _ hS1 => kk H1 locs1 ls (by rw [wz_set hk he' (sz_i_ne σ k j x)] at hP1; exact hP1) hS1 hl)
theorem gz_iald (K : Kz p l s m args meth c D ad ty cc nL own) {k n : Nat} {i : Int32} (hk : k < 68) (he : ez ad ty σ k = .inl (ty 3, n, .inl (σ.1 k))) (hin : vp_in i n) (hdg : decode cc pc = .ok (.iaload, 1)) (kk : Gz p l e R s m args below meth c D ad ty nL cells slots Q σ (pc + 1) lv (.int (gz_i σ k i.toNatClampNeg) :: st)) : Gz p l e R s m args below meth c D ad ty nL cells slots Q σ pc lv (.int i :: .ref (ad k) :: st) := fun H locs ls hP hS hl =>
  va_iald K.1.1 K.1.2.1 K.2.1 hP k 3 ((wz_get hk).trans (congrArg (fun z => some (ad k, z)) he)) rfl hin hdg (kk H locs ls hP hS hl)
theorem gz_zald (K : Kz p l s m args meth c D ad ty cc nL own) {k n : Nat} {i : Int32} (hk : k < 68) (he : ez ad ty σ k = .inl (ty 4, n, .inl (σ.1 k))) (hin : vp_in i n) (hdg : decode cc pc = .ok (.baload, 1)) (kk : Gz p l e R s m args below meth c D ad ty nL cells slots Q σ (pc + 1) lv (.int (gz_i σ k i.toNatClampNeg) :: st)) : Gz p l e R s m args below meth c D ad ty nL cells slots Q σ pc lv (.int i :: .ref (ad k) :: st) := fun H locs ls hP hS hl =>
  va_zald K.1.1 K.1.2.1 K.2.1 hP k 4 ((wz_get hk).trans (congrArg (fun z => some (ad k, z)) he)) rfl hin hdg (kk H locs ls hP hS hl)
theorem gz_cald (K : Kz p l s m args meth c D ad ty cc nL own) {k n : Nat} {i : Int32} (hk : k < 68) (he : ez ad ty σ k = .inl (ty 0, n, .inl (σ.1 k))) (hin : vp_in i n) (hdg : decode cc pc = .ok (.caload, 1)) (kk : Gz p l e R s m args below meth c D ad ty nL cells slots Q σ (pc + 1) lv (.int (gz_i σ k i.toNatClampNeg) :: st)) : Gz p l e R s m args below meth c D ad ty nL cells slots Q σ pc lv (.int i :: .ref (ad k) :: st) := fun H locs ls hP hS hl =>
  va_cald K.1.1 K.1.2.1 K.2.1 hP k 0 ((wz_get hk).trans (congrArg (fun z => some (ad k, z)) he)) rfl hin hdg (kk H locs ls hP hS hl)
theorem gz_fald (K : Kz p l s m args meth c D ad ty cc nL own) {k n : Nat} {i : Int32} (hk : k < 68) (he : ez ad ty σ k = .inl (ty 2, n, .inr (.inr (.inl (σ.2.1 k))))) (hin : vp_in i n) (hdg : decode cc pc = .ok (.faload, 1)) (kk : Gz p l e R s m args below meth c D ad ty nL cells slots Q σ (pc + 1) lv (.float (gz_f σ k i.toNatClampNeg) :: st)) : Gz p l e R s m args below meth c D ad ty nL cells slots Q σ pc lv (.int i :: .ref (ad k) :: st) := fun H locs ls hP hS hl =>
  va_fald K.1.1 K.1.2.1 K.2.1 hP k 2 ((wz_get hk).trans (congrArg (fun z => some (ad k, z)) he)) rfl hin hdg (kk H locs ls hP hS hl)
theorem gz_dald (K : Kz p l s m args meth c D ad ty cc nL own) {k n : Nat} {i : Int32} (hk : k < 68) (he : ez ad ty σ k = .inl (ty 1, n, .inr (.inr (.inr (.inl (σ.2.2.1 k)))))) (hin : vp_in i n) (hdg : decode cc pc = .ok (.daload, 1)) (kk : Gz p l e R s m args below meth c D ad ty nL cells slots Q σ (pc + 1) lv (.double (gz_d σ k i.toNatClampNeg) :: st)) : Gz p l e R s m args below meth c D ad ty nL cells slots Q σ pc lv (.int i :: .ref (ad k) :: st) := fun H locs ls hP hS hl =>
  va_dald K.1.1 K.1.2.1 K.2.1 hP k 1 ((wz_get hk).trans (congrArg (fun z => some (ad k, z)) he)) rfl hin hdg (kk H locs ls hP hS hl)
theorem gz_lald (K : Kz p l s m args meth c D ad ty cc nL own) {k n : Nat} {i : Int32} (hk : k < 68) (he : ez ad ty σ k = .inl (ty 6, n, .inr (.inl (σ.2.2.2 k)))) (hin : vp_in i n) (hdg : decode cc pc = .ok (.laload, 1)) (kk : Gz p l e R s m args below meth c D ad ty nL cells slots Q σ (pc + 1) lv (.long (gz_l σ k i.toNatClampNeg) :: st)) : Gz p l e R s m args below meth c D ad ty nL cells slots Q σ pc lv (.int i :: .ref (ad k) :: st) := fun H locs ls hP hS hl =>
  va_lald K.1.1 K.1.2.1 K.2.1 hP k 6 ((wz_get hk).trans (congrArg (fun z => some (ad k, z)) he)) rfl hin hdg (kk H locs ls hP hS hl)
theorem gz_aald (K : Kz p l s m args meth c D ad ty cc nL own) {k n : Nat} {i : Int32} {f : Nat → Nat} (hk : k < 68) (he : ez ad ty σ k = .inl (ty 5, n, .inr (.inr (.inr (.inr (fun i => some (ad (f i)))))))) (hin : vp_in i n) (hdg : decode cc pc = .ok (.aaload, 1)) (kk : Gz p l e R s m args below meth c D ad ty nL cells slots Q σ (pc + 1) lv (.ref (ad (f i.toNatClampNeg)) :: st)) : Gz p l e R s m args below meth c D ad ty nL cells slots Q σ pc lv (.int i :: .ref (ad k) :: st) := fun H locs ls hP hS hl =>
  va_aldq K.1.1 K.1.2.1 K.2.1 hP k 5 ((wz_get hk).trans (congrArg (fun z => some (ad k, z)) he)) rfl hin hdg (kk H locs ls hP hS hl)

theorem gz_iast (K : Kz p l s m args meth c D ad ty cc nL own) {k n : Nat} {i : Int32} {x : Int32} (hk : k < 68) (he : ∀ f g h q, cz ad ty f g h q k = .inl (ty 3, n, .inl f)) (hin : vp_in i n) (hdg : decode cc pc = .ok (.iastore, 1)) (kk : Gz p l e R s m args below meth c D ad ty nL cells slots Q (sz_i σ k i.toNatClampNeg x) (pc + 1) lv (st)) : Gz p l e R s m args below meth c D ad ty nL cells slots Q σ pc lv (.int x :: .int i :: .ref (ad k) :: st) := fun H locs ls hP hS hl =>
  va_iast K.1.1 K.1.2.1 K.2.1 hP (wz_D K.2.2.1 _) hS k 3 (by rw [wz_get hk]; exact congrArg (fun z => some (ad k, z)) (he _ _ _ _)) rfl hin hdg (fun H1 locs1 hP1 _ hS1 => kk H1 locs1 ls (by rw [wz_set (σ' := sz_i σ k i.toNatClampNeg x) hk (by rw [ez, he, sz_i_at]) (sz_i_ne σ k _ _)] at hP1; exact hP1) hS1 hl)
theorem gz_zast (K : Kz p l s m args meth c D ad ty cc nL own) {k n : Nat} {i : Int32} {x : Int32} (hk : k < 68) (he : ∀ f g h q, cz ad ty f g h q k = .inl (ty 4, n, .inl f)) (hin : vp_in i n) (hdg : decode cc pc = .ok (.bastore, 1)) (kk : Gz p l e R s m args below meth c D ad ty nL cells slots Q (sz_i σ k i.toNatClampNeg (vp_nar .boolean x)) (pc + 1) lv (st)) : Gz p l e R s m args below meth c D ad ty nL cells slots Q σ pc lv (.int x :: .int i :: .ref (ad k) :: st) := fun H locs ls hP hS hl =>
  va_zast K.1.1 K.1.2.1 K.2.1 hP (wz_D K.2.2.1 _) hS k 4 (by rw [wz_get hk]; exact congrArg (fun z => some (ad k, z)) (he _ _ _ _)) rfl hin hdg (fun H1 locs1 hP1 _ hS1 => kk H1 locs1 ls (by rw [wz_set (σ' := sz_i σ k i.toNatClampNeg (vp_nar .boolean x)) hk (by rw [ez, he, sz_i_at]) (sz_i_ne σ k _ _)] at hP1; exact hP1) hS1 hl)
theorem gz_cast (K : Kz p l s m args meth c D ad ty cc nL own) {k n : Nat} {i : Int32} {x : Int32} (hk : k < 68) (he : ∀ f g h q, cz ad ty f g h q k = .inl (ty 0, n, .inl f)) (hin : vp_in i n) (hdg : decode cc pc = .ok (.castore, 1)) (kk : Gz p l e R s m args below meth c D ad ty nL cells slots Q (sz_i σ k i.toNatClampNeg (vp_nar .char x)) (pc + 1) lv (st)) : Gz p l e R s m args below meth c D ad ty nL cells slots Q σ pc lv (.int x :: .int i :: .ref (ad k) :: st) := fun H locs ls hP hS hl =>
  va_cast K.1.1 K.1.2.1 K.2.1 hP (wz_D K.2.2.1 _) hS k 0 (by rw [wz_get hk]; exact congrArg (fun z => some (ad k, z)) (he _ _ _ _)) rfl hin hdg (fun H1 locs1 hP1 _ hS1 => kk H1 locs1 ls (by rw [wz_set (σ' := sz_i σ k i.toNatClampNeg (vp_nar .char x)) hk (by rw [ez, he, sz_i_at]) (sz_i_ne σ k _ _)] at hP1; exact hP1) hS1 hl)
theorem gz_fast (K : Kz p l s m args meth c D ad ty cc nL own) {k n : Nat} {i : Int32} {x : UInt32} (hk : k < 68) (he : ∀ f g h q, cz ad ty f g h q k = .inl (ty 2, n, .inr (.inr (.inl g)))) (hin : vp_in i n) (hdg : decode cc pc = .ok (.fastore, 1)) (kk : Gz p l e R s m args below meth c D ad ty nL cells slots Q (sz_f σ k i.toNatClampNeg x) (pc + 1) lv (st)) : Gz p l e R s m args below meth c D ad ty nL cells slots Q σ pc lv (.float x :: .int i :: .ref (ad k) :: st) := fun H locs ls hP hS hl =>
  va_fast K.1.1 K.1.2.1 K.2.1 hP (wz_D K.2.2.1 _) hS k 2 (by rw [wz_get hk]; exact congrArg (fun z => some (ad k, z)) (he _ _ _ _)) rfl hin hdg (fun H1 locs1 hP1 _ hS1 => kk H1 locs1 ls (by rw [wz_set (σ' := sz_f σ k i.toNatClampNeg x) hk (by rw [ez, he, sz_f_at]) (sz_f_ne σ k _ _)] at hP1; exact hP1) hS1 hl)
theorem gz_dast (K : Kz p l s m args meth c D ad ty cc nL own) {k n : Nat} {i : Int32} {x : UInt64} (hk : k < 68) (he : ∀ f g h q, cz ad ty f g h q k = .inl (ty 1, n, .inr (.inr (.inr (.inl h))))) (hin : vp_in i n) (hdg : decode cc pc = .ok (.dastore, 1)) (kk : Gz p l e R s m args below meth c D ad ty nL cells slots Q (sz_d σ k i.toNatClampNeg x) (pc + 1) lv (st)) : Gz p l e R s m args below meth c D ad ty nL cells slots Q σ pc lv (.double x :: .int i :: .ref (ad k) :: st) := fun H locs ls hP hS hl =>
  va_dast K.1.1 K.1.2.1 K.2.1 hP (wz_D K.2.2.1 _) hS k 1 (by rw [wz_get hk]; exact congrArg (fun z => some (ad k, z)) (he _ _ _ _)) rfl hin hdg (fun H1 locs1 hP1 _ hS1 => kk H1 locs1 ls (by rw [wz_set (σ' := sz_d σ k i.toNatClampNeg x) hk (by rw [ez, he, sz_d_at]) (sz_d_ne σ k _ _)] at hP1; exact hP1) hS1 hl)
theorem gz_last (K : Kz p l s m args meth c D ad ty cc nL own) {k n : Nat} {i : Int32} {x : Int64} (hk : k < 68) (he : ∀ f g h q, cz ad ty f g h q k = .inl (ty 6, n, .inr (.inl q))) (hin : vp_in i n) (hdg : decode cc pc = .ok (.lastore, 1)) (kk : Gz p l e R s m args below meth c D ad ty nL cells slots Q (sz_l σ k i.toNatClampNeg x) (pc + 1) lv (st)) : Gz p l e R s m args below meth c D ad ty nL cells slots Q σ pc lv (.long x :: .int i :: .ref (ad k) :: st) := fun H locs ls hP hS hl =>
  va_last K.1.1 K.1.2.1 K.2.1 hP (wz_D K.2.2.1 _) hS k 6 (by rw [wz_get hk]; exact congrArg (fun z => some (ad k, z)) (he _ _ _ _)) rfl hin hdg (fun H1 locs1 hP1 _ hS1 => kk H1 locs1 ls (by rw [wz_set (σ' := sz_l σ k i.toNatClampNeg x) hk (by rw [ez, he, sz_l_at]) (sz_l_ne σ k _ _)] at hP1; exact hP1) hS1 hl)
theorem gz_alen (K : Kz p l s m args meth c D ad ty cc nL own) {k n : Nat} {x : (Nat → Int32) ⊕ (Nat → Int64) ⊕ (Nat → UInt32) ⊕ (Nat → UInt64) ⊕ (Nat → Option Nat)} (t : Nat) {ft : FieldType} (ht : (tz ty)[t]? = some (ty t, ft)) (hk : k < 68) (he : ez ad ty σ k = .inl (ty t, n, x)) {v : Int32} (hv : Int32.ofNat n = v) (hdg : decode cc pc = .ok (.arraylength, 1)) (kk : Gz p l e R s m args below meth c D ad ty nL cells slots Q σ (pc + 1) lv (.int v :: st)) : Gz p l e R s m args below meth c D ad ty nL cells slots Q σ pc lv (.ref (ad k) :: st) := fun H locs ls hP hS hl =>
  va_alen K.1.1 K.1.2.1 K.2.1 hP k t ((wz_get hk).trans (congrArg (fun z => some (ad k, z)) he)) ht hv hdg (kk H locs ls hP hS hl)
end ZRows
end
section
/-! contracts: every method returns or throws; Mz. Written by wip/whole/gencontracts.py -/
section ZMet
def Qz (D : va_G) (ad : Nat → Nat) (ty : Nat → ClassId) (sz : Nat) {ρ : Type} (enc : ρ → Option Value) (post : ρ → Dz → Prop) : Array Value → State → Outcome → State → Prop := fun _ st oc t => (∃ (r : ρ) (σ' : Dz), oc = .returned (enc r) ∧ post r σ' ∧ va_P D zCl (wz ad ty σ') t.heap) ∧ va_F (Az ad sz) st t
def Xz (D : va_G) (ad : Nat → Nat) (ty : Nat → ClassId) (sz : Nat) (px : String → Dz → Prop) : String → State → State → Prop := fun E st t => (∃ σ' : Dz, px E σ' ∧ va_P D zCl (wz ad ty σ') t.heap) ∧ va_F (Az ad sz) st t
def Pz (D : va_G) (ad : Nat → Nat) (ty : Nat → ClassId) (sz : Nat) (σ : Dz) (av : List Value) : Array Value → State → Prop := va_Pc av (fun U => U.heap.size = sz ∧ va_P D zCl (wz ad ty σ) U.heap ∧ va_K D zCl (tz ty) U ∧ Yz ad U)
/-- the contract of a method: from the world σ with the arguments av it returns (post) or throws (px) -/
def Mz (l : Launch) (D : va_G) (ad : Nat → Nat) (ty : Nat → ClassId) (y : MethodName) (cc : ByteArray) (maxL : Nat) (ret : Option FieldType) (rm : Room) {ρ : Type} (enc : ρ → Option Value) (σ : Dz) (av : List Value) (post : ρ → Dz → Prop) (px : String → Dz → Prop) : Prop :=
  ∀ sz, vx_Met l y (Cond.code y cc maxL ret :: zW) rm (Pz D ad ty sz σ av) (Qz D ad ty sz enc post) (Xz D ad ty sz px) rm.cells rm.slots (Az ad sz)
def Ez (below : List Frame) (D : va_G) (ad : Nat → Nat) (ty : Nat → ClassId) {ρ : Type} (enc : ρ → Option Value) (post : ρ → Dz → Prop) (px : String → Dz → Prop) (args : Array Value) (s : State) (mc ms : Nat) : State → Prop := vx_MQ below (Qz D ad ty s.heap.size enc post) (Xz D ad ty s.heap.size px) args s mc ms (Az ad s.heap.size)
abbrev nI0 : Int32 → Option Value := fun r => some (.int r)
abbrev nD0 : UInt64 → Option Value := fun r => some (.double r)
abbrev nV0 : Unit → Option Value := fun _ => none
abbrev nR0 (ad : Nat → Nat) : Nat → Option Value := fun w => some (.ref (ad w))
theorem Pz_blind {D : va_G} {ad : Nat → Nat} {ty : Nat → ClassId} {sz : Nat} {σ : Dz} {av : List Value} : FrameBlind (Pz D ad ty sz σ av) := by
  intro a U g mk h
  obtain ⟨h1, h2, h3, h4, h5⟩ := h
  exact ⟨h1, h2, h3, va_K.moved (u := U) (U := U.calling g mk a) (Vm.Alike.refl U.vm) h4, h5.calling g mk a⟩
theorem mz_of {l : Launch} {D : va_G} {ad : Nat → Nat} {ty : Nat → ClassId} {y : MethodName} {cc : ByteArray} {maxL : Nat} {ret : Option FieldType} {rm : Room} {ρ : Type} {enc : ρ → Option Value} {σ : Dz} {av : List Value} {post : ρ → Dz → Prop} {px : String → Dz → Prop}
    (hy : plainName y.cls = true) (hl : l.stackTraces = false) (hj : ∀ i j, i < 68 → j < 68 → ad i = ad j → i = j) (hav : (lg_sl av).length ≤ maxL)
    (body : ∀ p e s m args below meth c, Kz p l s m args meth c D ad ty cc maxL y.cls → (∀ x ∈ c.exceptionTable.toList, False) → meth.sig.returnType = ret → Gz p l e rm s m args below meth c D ad ty maxL 0 0 (Ez below D ad ty enc post px args s rm.cells rm.slots) σ 0 (lv_args 0 av) []) :
    Mz l D ad ty y cc maxL ret rm enc σ av post px := by
  intro sz
  refine vx_ofW (cc := cc) (maxL := maxL) (ret := ret) hy rfl ?_
  intro p e s m args below meth c s₁ B hml hex hv
  obtain ⟨h1, hsz, hP, hK, hY⟩ := hv
  have hts := atoms_spec (ws := Cond.code y cc maxL ret :: zW) B.pre
  have K : Kz p l s m args meth c D ad ty cc maxL y.cls := ⟨⟨B.exec, B.bytes, hml, findClass_of_methodNamed B.named, fun w h => hts w (List.mem_cons_of_mem _ h)⟩, hK, hj, B.notSynchronized, hY, hl⟩
  subst hsz
  have hb := body p e s m args below meth c K hex B.returns
  have hen := lv_entry av (n := maxL) hav
  have hw := hb s.heap [] _ hP va_S.rf hen
  rw [h1, lg_entry_eq]
  subst h1
  exact hw
variable {p : Program} {l : Launch} {e : Env} {R : Room} {s : State} {m : MethodId} {args : Array Value} {below : List Frame} {meth : Method} {c : Code} {D : va_G} {ad : Nat → Nat} {ty : Nat → ClassId} {cc : ByteArray} {nL cells slots : Nat} {own : String} {Q : State → Prop} {σ : Dz} {pc : Nat} {lv : List (Nat × Value)} {st : List Value} {ρ : Type} {enc : ρ → Option Value} {post : ρ → Dz → Prop} {px : String → Dz → Prop} {mc ms : Nat}
-- ends
theorem gz_vret (K : Kz p l s m args meth c D ad ty cc nL own) (hr : meth.sig.returnType = none) {post : Unit → Dz → Prop} (hp : post () σ) (hdg : decode cc pc = .ok (.return_, 1)) (h1 : cells ≤ mc) (h2 : slots ≤ ms) : Gz p l e R s m args below meth c D ad ty nL cells slots (Ez below D ad ty nV0 post px args s mc ms) σ pc lv [] := fun H locs ls hP hS hl =>
  W.widen h1 h2 (vx_ret (W.vret K.1.1 K.1.2.1 hr (fun t ht hW => ⟨⟨(), σ, rfl, hp, by rw [ht]; exact hP⟩, hS.F ht⟩) hS.2.2 hdg K.2.2.2.1))
theorem gz_iret (K : Kz p l s m args meth c D ad ty cc nL own) (hr : meth.sig.returnType = some .int) {post : Int32 → Dz → Prop} {v : Int32} (hp : post v σ) (hdg : decode cc pc = .ok (.ireturn, 1)) (h1 : cells ≤ mc) (h2 : slots ≤ ms) : Gz p l e R s m args below meth c D ad ty nL cells slots (Ez below D ad ty nI0 post px args s mc ms) σ pc lv [.int v] := fun H locs ls hP hS hl =>
  W.widen h1 h2 (vx_ret (W.iret K.1.1 K.1.2.1 hr (fun t ht hW => ⟨⟨v, σ, rfl, hp, by rw [ht]; exact hP⟩, hS.F ht⟩) hS.2.2 hdg K.2.2.2.1))
theorem gz_zret (K : Kz p l s m args meth c D ad ty cc nL own) {rt : FieldType} (hr : meth.sig.returnType = some rt) {post : Int32 → Dz → Prop} {v : Int32} (hn : narrow rt (.int v) = .int v) (hp : post v σ) (hdg : decode cc pc = .ok (.ireturn, 1)) (h1 : cells ≤ mc) (h2 : slots ≤ ms) : Gz p l e R s m args below meth c D ad ty nL cells slots (Ez below D ad ty nI0 post px args s mc ms) σ pc lv [.int v] := fun H locs ls hP hS hl =>
  W.widen h1 h2 (vx_ret (W.zret K.1.1 K.1.2.1 hr hn (fun t ht hW => ⟨⟨v, σ, rfl, hp, by rw [ht]; exact hP⟩, hS.F ht⟩) hS.2.2 hdg K.2.2.2.1))
theorem gz_dret (K : Kz p l s m args meth c D ad ty cc nL own) (hr : meth.sig.returnType = some .double) {post : UInt64 → Dz → Prop} {v : UInt64} (hp : post v σ) (hdg : decode cc pc = .ok (.dreturn, 1)) (h1 : cells ≤ mc) (h2 : slots ≤ ms) : Gz p l e R s m args below meth c D ad ty nL cells slots (Ez below D ad ty nD0 post px args s mc ms) σ pc lv [.double v] := fun H locs ls hP hS hl =>
  W.widen h1 h2 (vx_ret (W.dret K.1.1 K.1.2.1 hr (fun t ht hW => ⟨⟨v, σ, rfl, hp, by rw [ht]; exact hP⟩, hS.F ht⟩) hS.2.2 hdg K.2.2.2.1))
theorem gz_aret (K : Kz p l s m args meth c D ad ty cc nL own) {nm : String} (hr : meth.sig.returnType = some (.object nm)) {post : Nat → Dz → Prop} {v : Nat} (hp : post v σ) (hdg : decode cc pc = .ok (.areturn, 1)) (h1 : cells ≤ mc) (h2 : slots ≤ ms) : Gz p l e R s m args below meth c D ad ty nL cells slots (Ez below D ad ty (nR0 ad) post px args s mc ms) σ pc lv [.ref (ad v)] := fun H locs ls hP hS hl =>
  W.widen h1 h2 (vx_ret (W.aret K.1.1 K.1.2.1 hr (Or.inl ⟨nm, rfl⟩) (Or.inr ⟨_, rfl⟩) (fun t ht hW => ⟨⟨v, σ, rfl, hp, by rw [ht]; exact hP⟩, hS.F ht⟩) hS.2.2 hdg K.2.2.2.1))
-- calls
def CfV (y : MethodName) (bytes : ByteArray) (maxL : Nat) (ret : Option FieldType) (C : String) (n : Nat) : Prop := Cond.instanceMethod y ∈ zW ∧ Cond.selects C y y ∈ zW ∧ Cond.initialized C ∈ zW ∧ Cond.code y bytes maxL ret ∈ zW ∧ (y.cls = C ∧ y.cls ≠ "java/lang/invoke/MethodHandle" ∧ y.cls ≠ "java/lang/invoke/VarHandle" ∧ (parseMethodDescriptor y.desc).map (fun d => d.parameters.length) = some n)
def CfS (y : MethodName) (bytes : ByteArray) (maxL : Nat) (ret : Option FieldType) (n : Nat) : Prop := Cond.static y ∈ zW ∧ Cond.initialized y.cls ∈ zW ∧ Cond.code y bytes maxL ret ∈ zW ∧ (y.cls ≠ "java/lang/invoke/MethodHandle" ∧ y.cls ≠ "java/lang/invoke/VarHandle" ∧ (parseMethodDescriptor y.desc).map (fun d => d.parameters.length) = some n)
theorem zg_cons {w : Cond} (h : w ∈ zW) : GoodIn zW (w :: zW) := fun x hx => (List.mem_cons.mp hx).elim (fun e => ⟨e ▸ h, e ▸ zW_good h⟩) (fun z => ⟨z, zW_good z⟩)
theorem zg_V {own C : String} {idx n maxL : Nat} {y : MethodName} {bytes : ByteArray} {ret : Option FieldType} (h : CfV y bytes maxL ret C n) (h1 : Cond.methodLink own idx y ∈ zW) : GoodIn zW (wsV own idx C y (Cond.code y bytes maxL ret :: zW)) := by
  intro w hw
  rcases List.mem_append.mp hw with z | z
  · rcases List.mem_cons.mp z with rfl | z
    · exact ⟨h1, zW_good h1⟩
    rcases List.mem_cons.mp z with rfl | z
    · exact ⟨h.1, zW_good h.1⟩
    rcases List.mem_cons.mp z with rfl | z
    · exact ⟨h.2.1, zW_good h.2.1⟩
    rcases List.mem_cons.mp z with rfl | z
    · exact ⟨h.2.2.1, zW_good h.2.2.1⟩
    · cases z
  · exact zg_cons h.2.2.2.1 w z
theorem zg_S {own : String} {idx n maxL : Nat} {y : MethodName} {bytes : ByteArray} {ret : Option FieldType} (h : CfS y bytes maxL ret n) (h1 : Cond.methodLink own idx y ∈ zW) : GoodIn zW (va_wsS own idx y (Cond.code y bytes maxL ret :: zW)) := by
  intro w hw
  rcases List.mem_append.mp hw with z | z
  · rcases List.mem_cons.mp z with rfl | z
    · exact ⟨h1, zW_good h1⟩
    rcases List.mem_cons.mp z with rfl | z
    · exact ⟨h.1, zW_good h.1⟩
    rcases List.mem_cons.mp z with rfl | z
    · exact ⟨h.2.1, zW_good h.2.1⟩
    · cases z
  · exact zg_cons h.2.2.1 w z
theorem Pz_at (K : Kz p l s m args meth c D ad ty cc nL own) {H : Heap} {locs : List Loc} (hP : va_P D zCl (wz ad ty σ) H) (hS : va_S (Az ad s.heap.size) s.heap H locs) (av : List Value) : ∀ U : State, U.heap = H → s.WarmedH U.vm → Pz D ad ty H.size σ av av.toArray U := fun U hU hW =>
  ⟨rfl, by rw [hU], by rw [hU]; exact hP, va_K.moved hW.alike K.2.1, K.2.2.2.2.1.at hS hU hW⟩
/-- behind a call: it came back, or threw out of this method too -/
theorem gz_back {H : Heap} {locs : List Loc} {ls : Array Slot} {rm : Room} {rest st0 : List Value} {a : Array Value} {ρ1 : Type} {enc1 : ρ1 → Option Value} {post1 : ρ1 → Dz → Prop} {px1 : String → Dz → Prop} (K : Kz p l s m args meth c D ad ty cc nL own) (hex : ∀ x ∈ c.exceptionTable.toList, False)
    (hr : vx_Run p l e R s m args below meth c H locs cells slots rm.cells rm.slots (F0 m pc ls st0) rest (Qz D ad ty H.size enc1 post1 a) (Xz D ad ty H.size px1) (Az ad H.size)) (hS : va_S (Az ad s.heap.size) s.heap H locs) (hl : lv_has ls nL lv) (hc : cells + rm.cells ≤ mc) (hs : slots + rm.slots ≤ ms)
    (kx : ∀ E σ', px1 E σ' → px E σ') (kk : ∀ r σ', post1 r σ' → Gz p l e R s m args below meth c D ad ty nL (cells + rm.cells) (slots + rm.slots) (Ez below D ad ty enc post px args s mc ms) σ' (pc + 3) lv ((enc1 r).toList ++ rest)) :
    W p l e R s m args below meth c H locs cells slots (Ez below D ad ty enc post px args s mc ms) (F0 m pc ls st0) := by
  intro T hT X
  have hA : ∀ q, Az ad H.size q → Az ad s.heap.size q := Az_le hS.1
  rcases hr T hT X with ⟨v, st₀, t, T', L, h0, X', hL, e1, e2, ⟨⟨r, u, hv, hp, hb⟩, hF⟩, st⟩ | ⟨q, st₀, t, T', L, E, ce, h0, X', hL, e1, e2, ⟨⟨u, hp, hb⟩, hF⟩, hce, hcv, hcl, st⟩
  · cases hv
    obtain ⟨k1, k2, k3⟩ := vx_keep h0 e1 hS (fun q _ h => hA q h) hA hL hF
    obtain ⟨t2, a1, b1⟩ := kk r u hp T'.heap (locs ++ L) ls (by rw [e1]; exact hb) k3 hl T' rfl X'
    exact ⟨t2, st t2 a1, b1⟩
  · obtain ⟨k1, k2, k3⟩ := vx_keep h0 e1 hS (fun q _ h => hA q h) hA hL hF
    have hw : vx_W p l e R s m args below meth c T'.heap (locs ++ L) (cells + rm.cells) (slots + rm.slots) (Ez below D ad ty enc post px args s mc ms) (F0 m pc ls rest) q :=
      vx_out (fun x hx => (hex x hx).elim) K.2.2.2.1 (by rw [e1]; exact hce) hcv hcl (fun t' ht' _ => ⟨⟨u, kx E u hp, by rw [ht', e1]; exact hb⟩, k3.F ht'⟩) k3.2.2 hc hs
    obtain ⟨t2, a1, b1⟩ := hw T' rfl X'
    exact ⟨t2, st.trans a1, b1⟩
theorem gz_callV (K : Kz p l s m args meth c D ad ty cc nL own) (hex : ∀ x ∈ c.exceptionTable.toList, False) {y : MethodName} {bytes : ByteArray} {maxL n idx k ci N : Nat} {ret : Option FieldType} {Cn : String} {T : u_T} {fs : List Value} {rm : Room} {ρ1 : Type} {enc1 : ρ1 → Option Value} {As rest : List Value} {post1 : ρ1 → Dz → Prop} {px1 : String → Dz → Prop}
    (hM : Mz l D ad ty y bytes maxL ret rm enc1 σ (.ref (ad k) :: As) post1 px1) (hcf : CfV y bytes maxL ret Cn n) (hlink : Cond.methodLink own idx y ∈ zW) (hk : k < 68) (he : ez ad ty σ k = .inr (ci, fs)) (hci : zCl[ci]? = some (Cn, T, N)) (hdg : decode cc pc = .ok (.invokevirtual idx, 3)) (hn : As.length = n) (hst : st = As.reverse ++ .ref (ad k) :: rest) (hW : (rest.map fun v => v.category).sum ≤ 8)
    (hR : rm.frames + 1 ≤ R.frames ∧ 8 + (maxL + 11) + rm.locals ≤ R.locals) (hf : cells + rm.cells ≤ R.cells ∧ slots + rm.slots ≤ R.slots) (hc : cells + rm.cells ≤ mc) (hs : slots + rm.slots ≤ ms)
    (kx : ∀ E σ', px1 E σ' → px E σ') (kk : ∀ r σ', post1 r σ' → Gz p l e R s m args below meth c D ad ty nL (cells + rm.cells) (slots + rm.slots) (Ez below D ad ty enc post px args s mc ms) σ' (pc + 3) lv ((enc1 r).toList ++ rest)) :
    Gz p l e R s m args below meth c D ad ty nL cells slots (Ez below D ad ty enc post px args s mc ms) σ pc lv st := fun H locs ls hP hS hl => by
  subst hst
  exact gz_back K hex (vx_runV (As := As) (rest := rest) K.1 (hM H.size) (cwV n K.1.2.2.2.2 (zg_V hcf hlink) rfl rfl rfl hcf.2.2.2.2 hR) ⟨Pz_blind, va_recv K.2.1 hP hci ((wz_get hk).trans (congrArg (fun z => some (ad k, z)) he)), Pz_at K hP hS _⟩ rfl hn hl.1 rfl (lv_room hW) hdg hf) hS hl hc hs kx kk
theorem gz_callS (K : Kz p l s m args meth c D ad ty cc nL own) (hex : ∀ x ∈ c.exceptionTable.toList, False) {y : MethodName} {bytes : ByteArray} {maxL n idx : Nat} {ret : Option FieldType} {rm : Room} {ρ1 : Type} {enc1 : ρ1 → Option Value} {As rest : List Value} {post1 : ρ1 → Dz → Prop} {px1 : String → Dz → Prop}
    (hM : Mz l D ad ty y bytes maxL ret rm enc1 σ As post1 px1) (hcf : CfS y bytes maxL ret n) (hlink : Cond.methodLink own idx y ∈ zW) (hdg : decode cc pc = .ok (.invokestatic idx, 3)) (hn : As.length = n) (hst : st = As.reverse ++ rest) (hW : (rest.map fun v => v.category).sum ≤ 8)
    (hR : rm.frames + 1 ≤ R.frames ∧ 8 + (maxL + 11) + rm.locals ≤ R.locals) (hf : cells + rm.cells ≤ R.cells ∧ slots + rm.slots ≤ R.slots) (hc : cells + rm.cells ≤ mc) (hs : slots + rm.slots ≤ ms)
    (kx : ∀ E σ', px1 E σ' → px E σ') (kk : ∀ r σ', post1 r σ' → Gz p l e R s m args below meth c D ad ty nL (cells + rm.cells) (slots + rm.slots) (Ez below D ad ty enc post px args s mc ms) σ' (pc + 3) lv ((enc1 r).toList ++ rest)) :
    Gz p l e R s m args below meth c D ad ty nL cells slots (Ez below D ad ty enc post px args s mc ms) σ pc lv st := fun H locs ls hP hS hl => by
  subst hst
  exact gz_back K hex (vx_runS (As := As) (rest := rest) K.1 (hM H.size) (va_cwS n K.1.2.2.2.2 (zg_S hcf hlink) rfl rfl rfl hcf.2.2.2 hR) ⟨Pz_blind, Pz_at K hP hS _⟩ rfl hn hl.1 rfl (lv_room hW) hdg hf) hS hl hc hs kx kk
end ZMet
end
section
/-! more rows. Written by wip/whole/genall.py -/
section ZMore
theorem nB {v : Int32} (h : v = 0 ∨ v = 1) : narrow .boolean (.int v) = .int v := by rcases h with rfl | rfl <;> rfl
theorem fB {v : Int32} (h : v = 0 ∨ v = 1) : fits .boolean (.int v) = true := by rcases h with rfl | rfl <;> rfl
theorem vp_lt {i : Int32} {n : Nat} (h : vp_in i n) : i.toNatClampNeg < n := Nat.not_le.mp fun q => h (Or.inr q)
theorem vp_nB {v : Int32} (h : v = 0 ∨ v = 1) : vp_nar .boolean v = v := by rcases h with rfl | rfl <;> rfl
theorem vp_nC {v : Int32} (h : narrow .char (.int v) = .int v) : vp_nar .char v = v := by unfold vp_nar; rw [h]
variable {p : Program} {l : Launch} {e : Env} {R : Room} {s : State} {m : MethodId} {args : Array Value} {below : List Frame} {meth : Method} {c : Code} {D : va_G} {ad : Nat → Nat} {ty : Nat → ClassId} {cc : ByteArray} {nL cells slots : Nat} {own : String} {Q : State → Prop} {σ : Dz} {pc : Nat} {lv : List (Nat × Value)} {st : List Value}
theorem gz_norm {st' : List Value} {cells' slots' : Nat} (h1 : st = st') (h2 : cells = cells') (h3 : slots = slots') (kk : Gz p l e R s m args below meth c D ad ty nL cells' slots' Q σ pc lv st') : Gz p l e R s m args below meth c D ad ty nL cells slots Q σ pc lv st := by
  subst h1; subst h2; subst h3; exact kk
theorem gz_zastB (K : Kz p l s m args meth c D ad ty cc nL own) {k n : Nat} {i : Int32} {x : Int32} (hk : k < 68) (he : ∀ f g h q, cz ad ty f g h q k = .inl (ty 4, n, .inl f)) (hin : vp_in i n) (hB : x = 0 ∨ x = 1) (hdg : decode cc pc = .ok (.bastore, 1)) (kk : Gz p l e R s m args below meth c D ad ty nL cells slots Q (sz_i σ k i.toNatClampNeg x) (pc + 1) lv st) : Gz p l e R s m args below meth c D ad ty nL cells slots Q σ pc lv (.int x :: .int i :: .ref (ad k) :: st) :=
  gz_zast K hk he hin hdg (by rw [vp_nB hB]; exact kk)
theorem gz_castC (K : Kz p l s m args meth c D ad ty cc nL own) {k n : Nat} {i : Int32} {x : Int32} (hk : k < 68) (he : ∀ f g h q, cz ad ty f g h q k = .inl (ty 0, n, .inl f)) (hin : vp_in i n) (hC : narrow .char (.int x) = .int x) (hdg : decode cc pc = .ok (.castore, 1)) (kk : Gz p l e R s m args below meth c D ad ty nL cells slots Q (sz_i σ k i.toNatClampNeg x) (pc + 1) lv st) : Gz p l e R s m args below meth c D ad ty nL cells slots Q σ pc lv (.int x :: .int i :: .ref (ad k) :: st) :=
  gz_cast K hk he hin hdg (by rw [vp_nC hC]; exact kk)
end ZMore
end
section
/-! throwing: new X(text), X a child of RuntimeException whose own constructor names its parent's by the pool's place ix (7 for most, 13 for NoSuchElementException, which the kit's vx_throwS leaves out). The course is that of the library's Stand.ctorThrowS, said for any ix. -/
section ZThrow
abbrev zRT : String := "java/lang/RuntimeException"
abbrev zEX : String := "java/lang/Exception"
def zx_own (own : String) (ic : Nat) (X : String) : List Cond := [.methodLink own ic (Bundle.initS X), .instantiable X 6, .castable X X, .selects X Bundle.tFill0 Bundle.tFill0, .selects X Bundle.tFill Bundle.tFill, .lays X Bundle.tN "cause" "Ljava/lang/Throwable;", .lays X Bundle.tN "stackTrace" Bundle.steD, .lays X Bundle.tN "suppressedExceptions" Bundle.listD, .lays X Bundle.tN "detailMessage" "Ljava/lang/String;", .isRef (.static Bundle.tN "UNASSIGNED_STACK" Bundle.steD), .isRef (.static Bundle.tN "SUPPRESSED_SENTINEL" Bundle.listD), .fieldLink Bundle.tN 198 Bundle.tN "backtrace" "Ljava/lang/Object;", .lays Bundle.tN Bundle.tN "backtrace" "Ljava/lang/Object;", .lays X Bundle.tN "backtrace" "Ljava/lang/Object;"]
def zx_pass (X : String) (ix : Nat) (rx : ByteArray) : List Cond := Bundle.passSAtoms X zRT ix rx
def zx_up : List Cond := Bundle.chainSAtoms zRT [zEX]
def zx_all (own : String) (ic : Nat) (X : String) (ix : Nat) (rx : ByteArray) : List Cond := Bundle.throwableAtoms ++ (Bundle.throwableSAtoms ++ (zx_up ++ (zx_pass X ix rx ++ zx_own own ic X)))
variable {p : Program} {l : Launch} {e : Env} {R : Room} {s : State} {m : MethodId} {args : Array Value} {below : List Frame} {meth : Method} {c : Code} {locs : List Loc} {cells slots : Nat}
set_option maxHeartbeats 2000000 in
theorem zx_ctor {W0 : State} (X : Stand p l e R s m args below meth c W0 locs cells slots) (hexec : p.tables.exec = Jvm.exec) (htr : e.platform.stackTraces = false) {own cls : String} {ic ix : Nat} {rx : ByteArray}
    (x0 : decode rx 0 = .ok (.aload_n 0, 1)) (x1 : decode rx 1 = .ok (.aload_n 1, 1)) (x2 : decode rx 2 = .ok (.invokespecial ix, 3)) (x5 : decode rx 5 = .ok (.return_, 1))
    (hown : s.vm.findClass own = some m.cls) (hcls : Bundle.fit cls = true) (h : ∀ a ∈ zx_all own ic cls ix rx, a.before args s = true)
    (hlocs : ∀ x ∈ locs, ∀ cell, s.heap[x.base]? = some cell → cell.vm.isStatics = false)
    {a : Addr} {cX : ClassId} {kX : Class} (hfoundX : s.vm.findClass cls = some cX) (hkX : s.vm.classes[cX]? = some kX) (hcell : W0.heap[a]? = some (freshCell cX kX)) (hnew : s.heap.size ≤ a)
    {msg : Value} (hmsg : msg.isRef = true)
    {g : JFrame} (hg : g.method = m) (hsize : g.locals.size = c.maxLocals) (hlocked : g.locked = none) (hentered : g.entered = []) {rest : List Value} (hstack : g.stack = msg :: .ref a :: .ref a :: rest)
    (hd6 : decode c.code g.pc = .ok (.invokespecial ic, 3)) (hd9 : decode c.code (g.pc + 3) = .ok (.athrow, 1)) (hout : ∀ x ∈ c.exceptionTable.toList, covers x (g.pc + 3) = false)
    (hRframes : 5 < R.frames) (hRlocals : 2 * g.monitorRoom + ((Value.ref a :: rest).map fun v => v.category).sum + 81 ≤ R.locals) (hlocks : meth.locks = false) :
    ∃ U : State, Steps p.tables e below (W0.setTop g) U ∧ U.status = .running ∧ Ended U below (.threw a) ∧ s.WarmedH U.vm ∧ s.sameButNew ({ U with vm := s.vm } : State) locs cells slots ∧
      ∃ ce, U.heap[a]? = some ce ∧ ce.vm = .none ∧ s.vm.findClass cls = some ce.cls := by
  have hpl : e.platform.magicAccessors = ({} : Platform).magicAccessors := by rw [X.admits.platform]
  have k0 : ∀ x ∈ Bundle.throwableAtoms, x.before args s = true := fun x hx => h x (List.mem_append_left _ hx)
  have k1 : ∀ x ∈ Bundle.throwableSAtoms, x.before args s = true := fun x hx => h x (List.mem_append_right _ (List.mem_append_left _ hx))
  have k2 : ∀ x ∈ zx_up, x.before args s = true := fun x hx => h x (List.mem_append_right _ (List.mem_append_right _ (List.mem_append_left _ hx)))
  have k3 : ∀ x ∈ zx_pass cls ix rx, x.before args s = true := fun x hx => h x (List.mem_append_right _ (List.mem_append_right _ (List.mem_append_right _ (List.mem_append_left _ hx))))
  have k4 : ∀ x ∈ zx_own own ic cls, x.before args s = true := fun x hx => h x (List.mem_append_right _ (List.mem_append_right _ (List.mem_append_right _ (List.mem_append_right _ hx))))
  have a' : ∀ x, x ∈ zx_own own ic cls → x.holds args s none s [] = true := fun x hx => k4 x hx
  obtain ⟨T, Z0, L, -, Y⟩ := ThrowableC.of_atoms (args := args) (by rw [X.admits.platform]) (by rw [X.admits.platform]) hpl k0
  obtain ⟨Z, M, LZ, LM, hnZ⟩ := Init0T.ofS_atoms (args := args) hpl L Y k1
  obtain ⟨P2, Ps, hlen, L2, hL, hP2m, hsup2, hpass2⟩ := Bundle.chainS (args := args) hpl hnZ [zEX] zRT (by decide) (by decide) k2
  obtain ⟨P1, L1, hP1m, hP1s⟩ := PassC.ofS_atoms (args := args) (s := s) hpl (X := cls) (Y := zRT) (Bundle.fit_spec hcls).1 (by decide) x0 x1 x2 x5 k3
  have hlink1 : P1.sup = P2.m := Option.some.inj (hP1s.symm.trans hP2m)
  have hfound : s.vm.findClass cls = some P1.m.cls := findClass_of_methodNamed hP1m
  cases Option.some.inj (hfoundX.symm.trans hfound)
  obtain ⟨c1, kX', hc1, hk, hord, -, -, hn6⟩ := Cond.instantiable_spec (a' (.instantiable cls 6) (by simp [zx_own]))
  cases Option.some.inj (hc1.symm.trans hfound)
  cases Option.some.inj (hkX.symm.trans hk)
  have hsel : ∀ (y : MethodName) (my : MethodId), s.methodNamed? y = some my → y.cls ≠ "java/lang/invoke/MethodHandle" ∧ y.cls ≠ "java/lang/invoke/VarHandle" → Cond.selects cls y y ∈ zx_own own ic cls → selectMethod e.platform s.vm P1.m.cls my = .method my := fun y my hy hne hm => by
    obtain ⟨c2, r2, m2, q1, q2, q3, q4, -⟩ := Cond.selects_spec (a' (.selects cls y y) hm)
    cases Option.some.inj (q1.symm.trans hfound)
    cases Option.some.inj (q2.symm.trans (State.methodFound?_of_named hy hne))
    cases Option.some.inj (q3.symm.trans hy)
    rw [Launch.admits_selectMethod X.admits]; exact q4
  have hsel0 := hsel Bundle.tFill0 T.fill0 Y.fill0 (by decide) (by simp [zx_own])
  have hselF := hsel Bundle.tFill T.fill Y.fill (by decide) (by simp [zx_own])
  obtain ⟨cellS0, hcS0, hiss⟩ := Y.statics
  obtain ⟨u0, hu0⟩ := Cond.staticRefV Y.unassigned L.unassignedStatic L.statics hcS0 hiss (a' (.isRef (.static Bundle.tN "UNASSIGNED_STACK" Bundle.steD)) (by simp [zx_own]))
  obtain ⟨sen, hsen⟩ := Cond.staticRefV Y.sentinel L.sentinelStatic L.statics hcS0 hiss (a' (.isRef (.static Bundle.tN "SUPPRESSED_SENTINEL" Bundle.listD)) (by simp [zx_own]))
  obtain ⟨ci198, i198, fB, hk198, hg198, ha198, hsB, -, hnB, htB, hffB⟩ := Cond.ownField (t := .object "java/lang/Object") Y.found L.cls (by decide +kernel) (a' (.fieldLink Bundle.tN 198 Bundle.tN "backtrace" "Ljava/lang/Object;") (by simp [zx_own])) (a' (.lays Bundle.tN Bundle.tN "backtrace" "Ljava/lang/Object;") (by simp [zx_own])) e.platform hpl
  obtain ⟨cellS, hcS', heS, -, hkeep⟩ := X.same.2.2.2.2.2 T.aS cellS0 hcS0
  have hout' : ∀ i, (⟨T.aS, i⟩ : Loc) ∉ locs := fun i hmem => by
    have := hlocs _ hmem cellS0 hcS0
    rw [hiss] at this; cases this
  have hknownS : cellS.vm ≠ .unknown := by
    rw [heS]; intro hu
    rw [show cellS0.vm = .unknown from hu] at hiss
    cases hiss
  obtain ⟨iM, hffM⟩ := Y.msg
  obtain ⟨tyC, dC, hdC, hdnC⟩ := Cond.laysAt hfound hk Y.cause (a' (.lays cls Bundle.tN "cause" "Ljava/lang/Throwable;") (by simp [zx_own]))
  obtain ⟨tyS, dS, hdS, hdnS⟩ := Cond.laysAt hfound hk Y.stack (a' (.lays cls Bundle.tN "stackTrace" Bundle.steD) (by simp [zx_own]))
  obtain ⟨tyP, dP, hdP, hdnP⟩ := Cond.laysAt hfound hk Y.supp (a' (.lays cls Bundle.tN "suppressedExceptions" Bundle.listD) (by simp [zx_own]))
  obtain ⟨tyM, dM, hdM, hdnM⟩ := Cond.laysAt hfound hk hffM (a' (.lays cls Bundle.tN "detailMessage" "Ljava/lang/String;") (by simp [zx_own]))
  obtain ⟨tyB, dB, hdB, hdnB⟩ := Cond.laysAt hfound hk hffB (a' (.lays cls Bundle.tN "backtrace" "Ljava/lang/Object;") (by simp [zx_own]))
  have bC := Cond.laysApart hdB hdC hdnB hdnC (by rw [hnB, Y.causeName]; decide)
  have bS := Cond.laysApart hdB hdS hdnB hdnS (by rw [hnB, Y.stackName]; decide)
  have bP := Cond.laysApart hdB hdP hdnB hdnP (by rw [hnB, Y.suppName]; decide)
  have hskip : SkipFacts T e.platform s (fun u => u) u0 ((preparedCellV T.toThrowableT (freshCell P1.m.cls kX) a u0 sen).withEntry W0.cur) :=
    ⟨{ ci198 := ci198, i198 := i198, fBack := fB }, ⟨hk198, hg198, ha198, hsB⟩, by
      have := fresh_default (c := P1.m.cls) tyB
      rw [htB] at this
      simpa [preparedCellV, Cell.setSlot, Cell.withEntry, Array.getElem?_setIfInBounds, bC, bS, bP, bC.symm, bS.symm, bP.symm, defaultValue] using this, fun _ _ => rfl⟩
  obtain ⟨tm, methC, cdC, kC, vm₁, hnC, -, -, -, -, -, -, -, hW₁, st1⟩ := Steps.initColdS (tb := p.tables) (e := e) (below := below) (s := s) (U := W0) X.here hexec X.warmed hpl hown (t := Bundle.initS cls) rfl rfl (Bundle.fit_spec hcls).2
    (a' (.methodLink own ic (Bundle.initS cls)) (by simp [zx_own])) (k3 (.instanceMethod (Bundle.initS cls)) (by simp [zx_pass, Bundle.passSAtoms])) (bytes := rx) (maxL := 2) (k3 (.code (Bundle.initS cls) rx 2 none) (by simp [zx_pass, Bundle.passSAtoms]))
    (f := g) hg (a := a) (msg := msg) (rest := .ref a :: rest) hstack hd6
  cases Option.some.inj (hnC.symm.trans hP1m)
  obtain ⟨vm₂, X₂, st2⟩ := (X.noted hW₁).ctorMessageOffV hexec (g := { g with stack := .ref a :: rest }) hg hsize T L Z LZ M LM (P1 :: P2 :: Ps)
    (fun P hP => by
      rcases List.mem_cons.mp hP with rfl | hP
      · exact L1
      rcases List.mem_cons.mp hP with rfl | hP
      · exact L2
      · exact hL P hP) ⟨hlink1, hsup2, hpass2⟩ (u0 := u0) (sen := sen) (self := a) hmsg (cell := freshCell P1.m.cls kX) (cellS := cellS)
    hcell (fun _ => by simp) (by simp) rfl rfl hsel0 hselF hcS' (Nat.ne_of_lt (Nat.lt_of_lt_of_le (Array.getElem?_eq_some_iff.mp hcS0).1 hnew)) hknownS (by rw [hkeep _ (hout' _)]; exact hu0) (by rw [hkeep _ (hout' _)]; exact hsen)
    (Takes.of_laid hk hord tyC (by rw [Y.causeType]; rfl)) (Takes.of_laid hk hord tyS (by rw [Y.stackType]; exact fits_refV_array _ u0)) (Takes.of_laid hk hord tyP (by rw [Y.suppType]; exact fits_refV_object _ sen))
    (Takes.of_laid hk hord tyM (by rw [Y.msgType]; exact fits_refV_object _ ⟨msg, hmsg⟩)) Y.objLocals hskip htr [] hd6
    (by simp only [List.length_cons, hlen, List.length_nil]; omega) (by simp only [List.length_cons, hlen, List.length_nil]; exact hRlocals)
  obtain ⟨hwalk, hrun, hended, hWU, hsame⟩ := X₂.athrowLeaves hexec (g := { g with stack := .ref a :: rest, pc := g.pc + 3 }) hg hlocked hentered hout (a := a) (rest := rest) rfl hd9
  have hlt : a < ((W0.setVm vm₁).setVm vm₂).heap.size := (Array.getElem?_eq_some_iff.mp hcell).1
  have hU := heapAt_setCell_self (s := (W0.setVm vm₁).setVm vm₂) (plainBareV T.toThrowableT (freshCell P1.m.cls kX) a u0 sen msg) hlt
  refine ⟨_, st1 _ (fun acts => ?_), hrun, hended, hWU, hsame.weaken (fun y hy hlt' => ?_) (Nat.le_refl _) (Nat.le_refl _), _, hU, rfl, hfound⟩
  · rw [doInvoke_state]
    exact st2 _ hwalk
  · rcases List.mem_append.mp hy with h1 | h1
    · exact h1
    · exfalso
      have hb : y.base = a := by
        simp only [List.mem_cons, List.not_mem_nil, or_false] at h1
        rcases h1 with rfl | rfl | rfl | rfl | rfl <;> rfl
      rw [hb] at hlt'
      exact Nat.not_lt.mpr hnew hlt'
def zx_ok (w : Cond) : Prop := w ∈ zW ∨ (∃ x ∈ zDc, w = .declares x) ∨ ∃ q ∈ zCs, w = .castable q.1 q.2
theorem zx_ok_ot {w : Cond} (h : zx_ok w) : vx_ot w = true := by
  rcases h with h | ⟨x, -, rfl⟩ | ⟨q, -, rfl⟩
  · have := (List.mem_filter.mp h).2
    simp [vx_ot, this]
  · rfl
  · rfl
variable {D : va_G} {ad : Nat → Nat} {ty : Nat → ClassId} {cc : ByteArray} {nL : Nat} {own : String} {σ : Dz} {pc : Nat} {lv : List (Nat × Value)} {ρ : Type} {enc : ρ → Option Value} {post : ρ → Dz → Prop} {px : String → Dz → Prop} {mc ms : Nat}
theorem zx_ok_at (K : Kz p l s m args meth c D ad ty cc nL own) {w : Cond} (h : zx_ok w) : w.before args s = true := by
  rcases h with h | ⟨x, hx, rfl⟩ | ⟨q, hq, rfl⟩
  · exact K.1.2.2.2.2 w h
  · exact va_Nw.use rfl (K.2.2.2.2.1.2.2.2.2.1 x hx)
  · exact va_Nw.use rfl (K.2.2.2.2.1.2.2.2.2.2 q hq)
theorem zx_throw {H : Heap} {ls : Array Slot} (K : Kz p l s m args meth c D ad ty cc nL own) (hex : ∀ x ∈ c.exceptionTable.toList, False) {cls text : String} {ik is ic ix n : Nat} {rx : ByteArray} {sa : Nat} (wide : Bool) (hn : n = if wide = true then 3 else 2)
    (x0 : decode rx 0 = .ok (.aload_n 0, 1)) (x1 : decode rx 1 = .ok (.aload_n 1, 1)) (x2 : decode rx 2 = .ok (.invokespecial ix, 3)) (x5 : decode rx 5 = .ok (.return_, 1)) (hcls : Bundle.fit cls = true)
    (hk : Cond.classLink own ik cls ∈ zW) (hini : Cond.initialized cls ∈ zW) (hstr : vk_R own is text sa s) (hat : ∀ w ∈ zx_all own ic cls ix rx, vx_no w = true → zx_ok w)
    (d0 : decode cc pc = .ok (.new ik, 3)) (d3 : decode cc (pc + 3) = .ok (.dup, 1)) (d4 : decode cc (pc + 4) = .ok (if wide = true then .ldc_w is else .ldc is, n)) (d6 : decode cc (pc + 4 + n) = .ok (.invokespecial ic, 3)) (d9 : decode cc (pc + 4 + n + 3) = .ok (.athrow, 1))
    (hP : va_P D zCl (wz ad ty σ) H) (hS : va_S (Az ad s.heap.size) s.heap H locs) (hl : lv_has ls nL lv)
    (hRframes : 5 < R.frames) (hRlocals : 82 ≤ R.locals) (hRcells : cells + 1 ≤ R.cells) (hRslots : slots + 6 ≤ R.slots) (hp : px cls σ) (hc : cells + 1 ≤ mc) (hs : slots + 6 ≤ ms) :
    W p l e R s m args below meth c H locs cells slots (Ez below D ad ty enc post px args s mc ms) (F0 m pc ls []) := by
  intro T hT X
  have hexec := K.1.1
  have hb := K.1.2.1
  have htr : e.platform.stackTraces = false := (show e.platform.stackTraces = l.stackTraces by rw [X.admits.platform]).trans K.2.2.2.2.2
  have Y := vx_rebase X (R' := { frames := R.frames, locals := R.locals, cells := 1, slots := 6 }) (Nat.le_refl _) (Nat.le_refl _) hRcells hRslots
  obtain ⟨s', hA⟩ : ∃ z, z = (T.setVm s.vm).setFrames (.invoking m args :: below) := ⟨_, rfl⟩
  rw [← hA] at Y
  have hvm : s'.vm = s.vm := by rw [hA]; rfl
  have hhp : s'.heap = H := by rw [hA]; exact hT
  have hW0 : s.WarmedH s'.vm := by rw [hvm]; exact State.WarmedH.refl s
  have hmv : ∀ w, zx_ok w → w.before args s' = true := fun w hw => vx_ot_at hW0 hvm.symm (zx_ok_ot hw) (zx_ok_at K hw)
  have hU' : vx_Zq Bundle.tN "UNASSIGNED_STACK" Bundle.steD (Az ad s.heap.size) s' s'.heap := by rw [hhp]; exact vx_Zq.moved hW0.alike (K.2.2.2.2.1.1.kept hS.2.1)
  have hN' : vx_Zq Bundle.tN "SUPPRESSED_SENTINEL" Bundle.listD (Az ad s.heap.size) s' s'.heap := by rw [hhp]; exact vx_Zq.moved hW0.alike (K.2.2.2.2.1.2.1.kept hS.2.1)
  have h : ∀ w ∈ zx_all own ic cls ix rx, w.before args s' = true := vx_own (fun w hw => hmv w (hat w (List.mem_filter.mp hw).1 (List.mem_filter.mp hw).2)) (vx_isRefq hU'.1) (vx_isRefq hN'.1) hU'.2.word hN'.2.word
  have hown' : s'.vm.findClass own = some m.cls := by rw [hvm]; exact K.1.2.2.2.1
  have hins : (Cond.instantiable cls 6).before args s' = true := h _ (by simp [zx_all, zx_own])
  obtain ⟨vm₁, cX, kX, hfX, hkX, -, -, X₁, st1⟩ := Y.newCold hexec (own := own) (C := cls) (index := ik) (n := 6) hown' (hmv _ (Or.inl hk)) hins (hmv _ (Or.inl hini))
    (g := F0 m pc ls []) rfl (by rw [hb]; exact d0) (Nat.le_refl _) (Nat.le_refl _)
  generalize hT1 : (T.setVm vm₁).pushCell { cls := cX, slots := kX.instanceTypes.map defaultValue, vm := .none } = T1 at X₁ st1
  have hcat : (Value.ref T.heap.size).category = 1 := rfl
  have hcellA : T1.heap[T.heap.size]? = some (freshCell cX kX) := by rw [← hT1]; exact State.heap_pushCell_size _ _
  have d3' : decode c.code (pc + 3) = .ok (.dup, 1) := by rw [hb]; exact d3
  have hstr' : vk_R own is text sa s' := vk_R.warm hW0 hstr
  obtain ⟨U, hsteps, hrun, hend, hW, hsame, ce, hce, hcv, hcl'⟩ := zx_ctor X₁ hexec htr (own := own) (cls := cls) (ic := ic) x0 x1 x2 x5 hown' hcls h (fun x hx => nomatch hx) hfX hkX hcellA (by rw [hhp, hT]; exact Nat.le_refl _) (msg := .ref sa) rfl
    (g := { method := m, pc := pc + 4 + n, locals := ls, stack := [.ref sa, .ref T.heap.size, .ref T.heap.size], locked := none }) rfl (hl.1.trans K.1.2.2.1.symm) rfl rfl (rest := []) rfl
    (by rw [hb]; exact d6) (by rw [hb]; exact d9) (fun x hx => (hex x hx).elim) hRframes (by simp only [List.map_cons, List.map_nil, List.sum_cons, List.sum_nil, hcat]; exact hRlocals) K.2.2.2.1
  obtain ⟨f1, f2⟩ := vx_frame hsame
  rw [hhp] at f1 f2
  have f3 : ∀ q : Nat, q < H.size → U.heap[q]? = H[q]? := fun q hq => f2 q hq (fun z hz => nomatch hz)
  have hWs : s.WarmedH U.vm := State.WarmedH.trans hW0 hW
  have hcl : s.vm.findClass cls = some ce.cls := by rw [hvm] at hcl'; exact hcl'
  have hall : s.sameButNew ({ U with vm := s.vm } : State) locs mc ms := by
    subst hA
    obtain ⟨e1, e2⟩ := hsame
    rw [State.setFrames_setFrames] at e1
    have h2 : (T.setVm s.vm).sameButNew ({ U with vm := s.vm } : State) [] (0 + 1) (0 + 6) := ⟨e1, e2⟩
    have h3 := X.same.trans h2
    rw [List.append_nil] at h3
    exact h3.mono hc hs
  have hx : Xz D ad ty s.heap.size px cls s U := ⟨⟨σ, hp, hP.kept (fun k q hk => f3 _ (vx_lt hP hk))⟩, Nat.le_trans hS.1 f1, fun q h1 h2 => (f3 q (Nat.lt_of_lt_of_le h1 hS.1)).trans (hS.2.1 q h1 h2)⟩
  refine ⟨U, ?_, .threw T.heap.size, hrun, hend, Or.inr ⟨T.heap.size, rfl, cls, ce, locs, hx, hce, hcv, hcl, hWs, hall, hS.2.2⟩⟩
  refine st1 _ ?_
  show Steps p.tables e below (T1.setTop { method := m, pc := pc + 3, locals := ls, stack := [.ref T.heap.size], locked := none }) _
  jvm_step X₁.here [X₁.here.top, hexec, d3', Value.category]
  cases wide with
  | true =>
    have hn3 : n = 3 := hn
    subst hn3
    exact X₁.ldcStringW hexec (own := own) (text := text) (index := is) (a := sa) hown' hstr'.1 hstr'.2
      (g := { method := m, pc := pc + 4, locals := ls, stack := [.ref T.heap.size, .ref T.heap.size], locked := none }) rfl (by rw [hb]; exact d4) _ hsteps
  | false =>
    have hn2 : n = 2 := hn
    subst hn2
    exact X₁.ldcString hexec (own := own) (text := text) (index := is) (a := sa) hown' hstr'.1 hstr'.2
      (g := { method := m, pc := pc + 4, locals := ls, stack := [.ref T.heap.size, .ref T.heap.size], locked := none }) rfl (by rw [hb]; exact d4) _ hsteps
end ZThrow
end
section
theorem zz_look : True := trivial
end
