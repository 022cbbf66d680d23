section
-- ===== PART A: goes FIRST, ahead of the names: the tables' words, and 'selects' of the private methods out of them =====
/-- a private method of a class that the tables say can be made, by its rows of tables_1 -/
def lw_okq (q : MethodName × Nat) : Prop := (q.1.cls ≠ "java/lang/invoke/MethodHandle" ∧ q.1.cls ≠ "java/lang/invoke/VarHandle") ∧ Cond.instantiable q.1.cls q.2 ∈ tables_1 ∧ Cond.privateMethod q.1 ∈ tables_1 ∧ Cond.instanceMethod q.1 ∈ tables_1
theorem lw_p0 : lw_okq (⟨"NeighbourBoard$Whole", "clear", "()V"⟩, 3) := ⟨⟨by decide +kernel, by decide +kernel⟩, List.mem_of_getElem? (i := 142) (by decide +kernel), List.mem_of_getElem? (i := 280) (by decide +kernel), List.mem_of_getElem? (i := 281) (by decide +kernel)⟩
theorem lw_p1 : lw_okq (⟨"NeighbourBoard$Whole", "trim", "(II)V"⟩, 3) := ⟨⟨by decide +kernel, by decide +kernel⟩, List.mem_of_getElem? (i := 142) (by decide +kernel), List.mem_of_getElem? (i := 291) (by decide +kernel), List.mem_of_getElem? (i := 292) (by decide +kernel)⟩
theorem lw_p2 : lw_okq (⟨"NeighbourBoard", "readSights", "()Z"⟩, 15) := ⟨⟨by decide +kernel, by decide +kernel⟩, List.mem_of_getElem? (i := 17) (by decide +kernel), List.mem_of_getElem? (i := 428) (by decide +kernel), List.mem_of_getElem? (i := 429) (by decide +kernel)⟩
theorem lw_p3 : lw_okq (⟨"NeighbourBoard", "readSight", "()Z"⟩, 15) := ⟨⟨by decide +kernel, by decide +kernel⟩, List.mem_of_getElem? (i := 17) (by decide +kernel), List.mem_of_getElem? (i := 440) (by decide +kernel), List.mem_of_getElem? (i := 441) (by decide +kernel)⟩
theorem lw_p4 : lw_okq (⟨"NeighbourBoard", "addSloped", "(II)I"⟩, 15) := ⟨⟨by decide +kernel, by decide +kernel⟩, List.mem_of_getElem? (i := 17) (by decide +kernel), List.mem_of_getElem? (i := 493) (by decide +kernel), List.mem_of_getElem? (i := 494) (by decide +kernel)⟩
theorem lw_p5 : lw_okq (⟨"NeighbourBoard", "readTable", "()Z"⟩, 15) := ⟨⟨by decide +kernel, by decide +kernel⟩, List.mem_of_getElem? (i := 17) (by decide +kernel), List.mem_of_getElem? (i := 525) (by decide +kernel), List.mem_of_getElem? (i := 526) (by decide +kernel)⟩
theorem lw_p6 : lw_okq (⟨"NeighbourBoard", "canGuess", "()Z"⟩, 15) := ⟨⟨by decide +kernel, by decide +kernel⟩, List.mem_of_getElem? (i := 17) (by decide +kernel), List.mem_of_getElem? (i := 564) (by decide +kernel), List.mem_of_getElem? (i := 565) (by decide +kernel)⟩
theorem lw_p7 : lw_okq (⟨"NeighbourBoard", "guessForAsked", "()I"⟩, 15) := ⟨⟨by decide +kernel, by decide +kernel⟩, List.mem_of_getElem? (i := 17) (by decide +kernel), List.mem_of_getElem? (i := 569) (by decide +kernel), List.mem_of_getElem? (i := 570) (by decide +kernel)⟩
theorem lw_p8 : lw_okq (⟨"NeighbourBoard$Equations", "countNearer", "(II)I"⟩, 6) := ⟨⟨by decide +kernel, by decide +kernel⟩, List.mem_of_getElem? (i := 105) (by decide +kernel), List.mem_of_getElem? (i := 584) (by decide +kernel), List.mem_of_getElem? (i := 585) (by decide +kernel)⟩
theorem lw_p9 : lw_okq (⟨"NeighbourBoard$Equations", "reachOut", "(LNeighbourBoard$Places;LNeighbourBoard$Places;LNeighbourBoard$Laws;I)V"⟩, 6) := ⟨⟨by decide +kernel, by decide +kernel⟩, List.mem_of_getElem? (i := 105) (by decide +kernel), List.mem_of_getElem? (i := 602) (by decide +kernel), List.mem_of_getElem? (i := 603) (by decide +kernel)⟩
theorem lw_p10 : lw_okq (⟨"NeighbourBoard$Equations", "fillRight", "(LNeighbourBoard$Grid;)V"⟩, 6) := ⟨⟨by decide +kernel, by decide +kernel⟩, List.mem_of_getElem? (i := 105) (by decide +kernel), List.mem_of_getElem? (i := 619) (by decide +kernel), List.mem_of_getElem? (i := 620) (by decide +kernel)⟩
theorem lw_p11 : lw_okq (⟨"NeighbourBoard$Grid", "bringPivot", "(II)Z"⟩, 6) := ⟨⟨by decide +kernel, by decide +kernel⟩, List.mem_of_getElem? (i := 135) (by decide +kernel), List.mem_of_getElem? (i := 632) (by decide +kernel), List.mem_of_getElem? (i := 633) (by decide +kernel)⟩
theorem lw_p12 : lw_okq (⟨"NeighbourBoard$Grid", "clearColumn", "(IIII)V"⟩, 6) := ⟨⟨by decide +kernel, by decide +kernel⟩, List.mem_of_getElem? (i := 135) (by decide +kernel), List.mem_of_getElem? (i := 636) (by decide +kernel), List.mem_of_getElem? (i := 637) (by decide +kernel)⟩
theorem lw_p13 : lw_okq (⟨"NeighbourBoard$Whole", "complement", "(I)V"⟩, 3) := ⟨⟨by decide +kernel, by decide +kernel⟩, List.mem_of_getElem? (i := 142) (by decide +kernel), List.mem_of_getElem? (i := 654) (by decide +kernel), List.mem_of_getElem? (i := 655) (by decide +kernel)⟩
theorem lw_p14 : lw_okq (⟨"NeighbourBoard$Divider", "divideByPart", "(LNeighbourBoard$Whole;JLNeighbourBoard$Whole;)V"⟩, 4) := ⟨⟨by decide +kernel, by decide +kernel⟩, List.mem_of_getElem? (i := 168) (by decide +kernel), List.mem_of_getElem? (i := 662) (by decide +kernel), List.mem_of_getElem? (i := 663) (by decide +kernel)⟩
theorem lw_p15 : lw_okq (⟨"NeighbourBoard$Divider", "copyScaled", "(LNeighbourBoard$Whole;[II)V"⟩, 4) := ⟨⟨by decide +kernel, by decide +kernel⟩, List.mem_of_getElem? (i := 168) (by decide +kernel), List.mem_of_getElem? (i := 669) (by decide +kernel), List.mem_of_getElem? (i := 670) (by decide +kernel)⟩
def lw_privs_1 : List (MethodName × Nat) := [(⟨"NeighbourBoard$Whole", "clear", "()V"⟩, 3), (⟨"NeighbourBoard$Whole", "trim", "(II)V"⟩, 3), (⟨"NeighbourBoard", "readSights", "()Z"⟩, 15), (⟨"NeighbourBoard", "readSight", "()Z"⟩, 15), (⟨"NeighbourBoard", "addSloped", "(II)I"⟩, 15), (⟨"NeighbourBoard", "readTable", "()Z"⟩, 15), (⟨"NeighbourBoard", "canGuess", "()Z"⟩, 15), (⟨"NeighbourBoard", "guessForAsked", "()I"⟩, 15), (⟨"NeighbourBoard$Equations", "countNearer", "(II)I"⟩, 6), (⟨"NeighbourBoard$Equations", "reachOut", "(LNeighbourBoard$Places;LNeighbourBoard$Places;LNeighbourBoard$Laws;I)V"⟩, 6), (⟨"NeighbourBoard$Equations", "fillRight", "(LNeighbourBoard$Grid;)V"⟩, 6), (⟨"NeighbourBoard$Grid", "bringPivot", "(II)Z"⟩, 6), (⟨"NeighbourBoard$Grid", "clearColumn", "(IIII)V"⟩, 6), (⟨"NeighbourBoard$Whole", "complement", "(I)V"⟩, 3), (⟨"NeighbourBoard$Divider", "divideByPart", "(LNeighbourBoard$Whole;JLNeighbourBoard$Whole;)V"⟩, 4), (⟨"NeighbourBoard$Divider", "copyScaled", "(LNeighbourBoard$Whole;[II)V"⟩, 4)]
theorem lw_r1 : ∀ q ∈ lw_privs_1, lw_okq q := List.forall_mem_cons.mpr ⟨lw_p0, List.forall_mem_cons.mpr ⟨lw_p1, List.forall_mem_cons.mpr ⟨lw_p2, List.forall_mem_cons.mpr ⟨lw_p3, List.forall_mem_cons.mpr ⟨lw_p4, List.forall_mem_cons.mpr ⟨lw_p5, List.forall_mem_cons.mpr ⟨lw_p6, List.forall_mem_cons.mpr ⟨lw_p7, List.forall_mem_cons.mpr ⟨lw_p8, List.forall_mem_cons.mpr ⟨lw_p9, List.forall_mem_cons.mpr ⟨lw_p10, List.forall_mem_cons.mpr ⟨lw_p11, List.forall_mem_cons.mpr ⟨lw_p12, List.forall_mem_cons.mpr ⟨lw_p13, List.forall_mem_cons.mpr ⟨lw_p14, List.forall_mem_cons.mpr ⟨lw_p15, fun _ h => absurd h List.not_mem_nil⟩⟩⟩⟩⟩⟩⟩⟩⟩⟩⟩⟩⟩⟩⟩⟩
theorem lw_p16 : lw_okq (⟨"NeighbourBoard$Divider", "guessPart", "(I)J"⟩, 4) := ⟨⟨by decide +kernel, by decide +kernel⟩, List.mem_of_getElem? (i := 168) (by decide +kernel), List.mem_of_getElem? (i := 674) (by decide +kernel), List.mem_of_getElem? (i := 675) (by decide +kernel)⟩
theorem lw_p17 : lw_okq (⟨"NeighbourBoard$Divider", "takeAway", "(IJ)Z"⟩, 4) := ⟨⟨by decide +kernel, by decide +kernel⟩, List.mem_of_getElem? (i := 168) (by decide +kernel), List.mem_of_getElem? (i := 678) (by decide +kernel), List.mem_of_getElem? (i := 679) (by decide +kernel)⟩
theorem lw_p18 : lw_okq (⟨"NeighbourBoard$Divider", "giveBack", "(I)V"⟩, 4) := ⟨⟨by decide +kernel, by decide +kernel⟩, List.mem_of_getElem? (i := 168) (by decide +kernel), List.mem_of_getElem? (i := 682) (by decide +kernel), List.mem_of_getElem? (i := 683) (by decide +kernel)⟩
theorem lw_p19 : lw_okq (⟨"NeighbourBoard$Answer", "takeWeights", "(LNeighbourBoard$Equations;LNeighbourBoard$Grid;)V"⟩, 7) := ⟨⟨by decide +kernel, by decide +kernel⟩, List.mem_of_getElem? (i := 208) (by decide +kernel), List.mem_of_getElem? (i := 700) (by decide +kernel), List.mem_of_getElem? (i := 701) (by decide +kernel)⟩
theorem lw_p20 : lw_okq (⟨"NeighbourBoard", "readAsked", "()Z"⟩, 15) := ⟨⟨by decide +kernel, by decide +kernel⟩, List.mem_of_getElem? (i := 17) (by decide +kernel), List.mem_of_getElem? (i := 710) (by decide +kernel), List.mem_of_getElem? (i := 711) (by decide +kernel)⟩
theorem lw_p21 : lw_okq (⟨"NeighbourBoard", "setResult", "(LNeighbourBoard$Whole;LNeighbourBoard$Whole;)Z"⟩, 15) := ⟨⟨by decide +kernel, by decide +kernel⟩, List.mem_of_getElem? (i := 17) (by decide +kernel), List.mem_of_getElem? (i := 718) (by decide +kernel), List.mem_of_getElem? (i := 719) (by decide +kernel)⟩
theorem lw_p22 : lw_okq (⟨"NeighbourBoard$Workbench", "findShared", "(LNeighbourBoard$Fraction;)LNeighbourBoard$Whole;"⟩, 4) := ⟨⟨by decide +kernel, by decide +kernel⟩, List.mem_of_getElem? (i := 245) (by decide +kernel), List.mem_of_getElem? (i := 727) (by decide +kernel), List.mem_of_getElem? (i := 728) (by decide +kernel)⟩
theorem lw_p23 : lw_okq (⟨"NeighbourBoard", "leaveOut", "(II)Z"⟩, 15) := ⟨⟨by decide +kernel, by decide +kernel⟩, List.mem_of_getElem? (i := 17) (by decide +kernel), List.mem_of_getElem? (i := 742) (by decide +kernel), List.mem_of_getElem? (i := 743) (by decide +kernel)⟩
theorem lw_p24 : lw_okq (⟨"NeighbourBoard", "findWorst", "(I)I"⟩, 15) := ⟨⟨by decide +kernel, by decide +kernel⟩, List.mem_of_getElem? (i := 17) (by decide +kernel), List.mem_of_getElem? (i := 763) (by decide +kernel), List.mem_of_getElem? (i := 764) (by decide +kernel)⟩
theorem lw_p25 : lw_okq (⟨"NeighbourBoard$Grid", "isZeroBehind", "(II)Z"⟩, 6) := ⟨⟨by decide +kernel, by decide +kernel⟩, List.mem_of_getElem? (i := 135) (by decide +kernel), List.mem_of_getElem? (i := 795) (by decide +kernel), List.mem_of_getElem? (i := 796) (by decide +kernel)⟩
theorem lw_p26 : lw_okq (⟨"NeighbourBoardModel", "set", "(IJ)V"⟩, 30) := ⟨⟨by decide +kernel, by decide +kernel⟩, List.mem_of_getElem? (i := 832) (by decide +kernel), List.mem_of_getElem? (i := 838) (by decide +kernel), List.mem_of_getElem? (i := 839) (by decide +kernel)⟩
theorem lw_p27 : lw_okq (⟨"NeighbourBoardModel", "carry", "(I)V"⟩, 30) := ⟨⟨by decide +kernel, by decide +kernel⟩, List.mem_of_getElem? (i := 832) (by decide +kernel), List.mem_of_getElem? (i := 842) (by decide +kernel), List.mem_of_getElem? (i := 843) (by decide +kernel)⟩
theorem lw_p28 : lw_okq (⟨"NeighbourBoardModel", "isSeen", "(I)Z"⟩, 30) := ⟨⟨by decide +kernel, by decide +kernel⟩, List.mem_of_getElem? (i := 832) (by decide +kernel), List.mem_of_getElem? (i := 981) (by decide +kernel), List.mem_of_getElem? (i := 982) (by decide +kernel)⟩
theorem lw_p29 : lw_okq (⟨"NeighbourBoardModel", "isLaw", "(I)Z"⟩, 30) := ⟨⟨by decide +kernel, by decide +kernel⟩, List.mem_of_getElem? (i := 832) (by decide +kernel), List.mem_of_getElem? (i := 1003) (by decide +kernel), List.mem_of_getElem? (i := 1004) (by decide +kernel)⟩
theorem lw_p30 : lw_okq (⟨"NeighbourBoardModel", "isAnswered", "()Z"⟩, 30) := ⟨⟨by decide +kernel, by decide +kernel⟩, List.mem_of_getElem? (i := 832) (by decide +kernel), List.mem_of_getElem? (i := 1023) (by decide +kernel), List.mem_of_getElem? (i := 1024) (by decide +kernel)⟩
theorem lw_p31 : lw_okq (⟨"NeighbourBoardModel", "choose", "()V"⟩, 30) := ⟨⟨by decide +kernel, by decide +kernel⟩, List.mem_of_getElem? (i := 832) (by decide +kernel), List.mem_of_getElem? (i := 1027) (by decide +kernel), List.mem_of_getElem? (i := 1028) (by decide +kernel)⟩
def lw_privs_2 : List (MethodName × Nat) := [(⟨"NeighbourBoard$Divider", "guessPart", "(I)J"⟩, 4), (⟨"NeighbourBoard$Divider", "takeAway", "(IJ)Z"⟩, 4), (⟨"NeighbourBoard$Divider", "giveBack", "(I)V"⟩, 4), (⟨"NeighbourBoard$Answer", "takeWeights", "(LNeighbourBoard$Equations;LNeighbourBoard$Grid;)V"⟩, 7), (⟨"NeighbourBoard", "readAsked", "()Z"⟩, 15), (⟨"NeighbourBoard", "setResult", "(LNeighbourBoard$Whole;LNeighbourBoard$Whole;)Z"⟩, 15), (⟨"NeighbourBoard$Workbench", "findShared", "(LNeighbourBoard$Fraction;)LNeighbourBoard$Whole;"⟩, 4), (⟨"NeighbourBoard", "leaveOut", "(II)Z"⟩, 15), (⟨"NeighbourBoard", "findWorst", "(I)I"⟩, 15), (⟨"NeighbourBoard$Grid", "isZeroBehind", "(II)Z"⟩, 6), (⟨"NeighbourBoardModel", "set", "(IJ)V"⟩, 30), (⟨"NeighbourBoardModel", "carry", "(I)V"⟩, 30), (⟨"NeighbourBoardModel", "isSeen", "(I)Z"⟩, 30), (⟨"NeighbourBoardModel", "isLaw", "(I)Z"⟩, 30), (⟨"NeighbourBoardModel", "isAnswered", "()Z"⟩, 30), (⟨"NeighbourBoardModel", "choose", "()V"⟩, 30)]
theorem lw_r2 : ∀ q ∈ lw_privs_2, lw_okq q := List.forall_mem_cons.mpr ⟨lw_p16, List.forall_mem_cons.mpr ⟨lw_p17, List.forall_mem_cons.mpr ⟨lw_p18, List.forall_mem_cons.mpr ⟨lw_p19, List.forall_mem_cons.mpr ⟨lw_p20, List.forall_mem_cons.mpr ⟨lw_p21, List.forall_mem_cons.mpr ⟨lw_p22, List.forall_mem_cons.mpr ⟨lw_p23, List.forall_mem_cons.mpr ⟨lw_p24, List.forall_mem_cons.mpr ⟨lw_p25, List.forall_mem_cons.mpr ⟨lw_p26, List.forall_mem_cons.mpr ⟨lw_p27, List.forall_mem_cons.mpr ⟨lw_p28, List.forall_mem_cons.mpr ⟨lw_p29, List.forall_mem_cons.mpr ⟨lw_p30, List.forall_mem_cons.mpr ⟨lw_p31, fun _ h => absurd h List.not_mem_nil⟩⟩⟩⟩⟩⟩⟩⟩⟩⟩⟩⟩⟩⟩⟩⟩
theorem lw_p32 : lw_okq (⟨"NeighbourBoardModel", "ways", "(I)I"⟩, 30) := ⟨⟨by decide +kernel, by decide +kernel⟩, List.mem_of_getElem? (i := 832) (by decide +kernel), List.mem_of_getElem? (i := 1031) (by decide +kernel), List.mem_of_getElem? (i := 1032) (by decide +kernel)⟩
theorem lw_p33 : lw_okq (⟨"NeighbourBoardModel", "weigh", "(I)Z"⟩, 30) := ⟨⟨by decide +kernel, by decide +kernel⟩, List.mem_of_getElem? (i := 832) (by decide +kernel), List.mem_of_getElem? (i := 1041) (by decide +kernel), List.mem_of_getElem? (i := 1042) (by decide +kernel)⟩
theorem lw_p34 : lw_okq (⟨"NeighbourBoardModel", "cell", "(II)I"⟩, 30) := ⟨⟨by decide +kernel, by decide +kernel⟩, List.mem_of_getElem? (i := 832) (by decide +kernel), List.mem_of_getElem? (i := 1045) (by decide +kernel), List.mem_of_getElem? (i := 1046) (by decide +kernel)⟩
theorem lw_p35 : lw_okq (⟨"NeighbourBoardModel", "between", "(III)I"⟩, 30) := ⟨⟨by decide +kernel, by decide +kernel⟩, List.mem_of_getElem? (i := 832) (by decide +kernel), List.mem_of_getElem? (i := 1049) (by decide +kernel), List.mem_of_getElem? (i := 1050) (by decide +kernel)⟩
theorem lw_p36 : lw_okq (⟨"NeighbourBoardModel", "toPlaces", "(II)I"⟩, 30) := ⟨⟨by decide +kernel, by decide +kernel⟩, List.mem_of_getElem? (i := 832) (by decide +kernel), List.mem_of_getElem? (i := 1053) (by decide +kernel), List.mem_of_getElem? (i := 1054) (by decide +kernel)⟩
theorem lw_p37 : lw_okq (⟨"NeighbourBoardModel", "clear", "(I)V"⟩, 30) := ⟨⟨by decide +kernel, by decide +kernel⟩, List.mem_of_getElem? (i := 832) (by decide +kernel), List.mem_of_getElem? (i := 1057) (by decide +kernel), List.mem_of_getElem? (i := 1058) (by decide +kernel)⟩
theorem lw_p38 : lw_okq (⟨"NeighbourBoardModel", "isZero", "(I)Z"⟩, 30) := ⟨⟨by decide +kernel, by decide +kernel⟩, List.mem_of_getElem? (i := 832) (by decide +kernel), List.mem_of_getElem? (i := 1061) (by decide +kernel), List.mem_of_getElem? (i := 1062) (by decide +kernel)⟩
theorem lw_p39 : lw_okq (⟨"NeighbourBoardModel", "copy", "(II)V"⟩, 30) := ⟨⟨by decide +kernel, by decide +kernel⟩, List.mem_of_getElem? (i := 832) (by decide +kernel), List.mem_of_getElem? (i := 1065) (by decide +kernel), List.mem_of_getElem? (i := 1066) (by decide +kernel)⟩
theorem lw_p40 : lw_okq (⟨"NeighbourBoardModel", "clears", "(II)V"⟩, 30) := ⟨⟨by decide +kernel, by decide +kernel⟩, List.mem_of_getElem? (i := 832) (by decide +kernel), List.mem_of_getElem? (i := 1069) (by decide +kernel), List.mem_of_getElem? (i := 1070) (by decide +kernel)⟩
theorem lw_p41 : lw_okq (⟨"NeighbourBoardModel", "times", "(III)V"⟩, 30) := ⟨⟨by decide +kernel, by decide +kernel⟩, List.mem_of_getElem? (i := 832) (by decide +kernel), List.mem_of_getElem? (i := 1073) (by decide +kernel), List.mem_of_getElem? (i := 1074) (by decide +kernel)⟩
theorem lw_p42 : lw_okq (⟨"NeighbourBoardModel", "isBelow", "(I)Z"⟩, 30) := ⟨⟨by decide +kernel, by decide +kernel⟩, List.mem_of_getElem? (i := 832) (by decide +kernel), List.mem_of_getElem? (i := 1077) (by decide +kernel), List.mem_of_getElem? (i := 1078) (by decide +kernel)⟩
theorem lw_p43 : lw_okq (⟨"NeighbourBoardModel", "bare", "(I[J)V"⟩, 30) := ⟨⟨by decide +kernel, by decide +kernel⟩, List.mem_of_getElem? (i := 832) (by decide +kernel), List.mem_of_getElem? (i := 1081) (by decide +kernel), List.mem_of_getElem? (i := 1082) (by decide +kernel)⟩
theorem lw_p44 : lw_okq (⟨"NeighbourBoardModel", "turn", "(I)V"⟩, 30) := ⟨⟨by decide +kernel, by decide +kernel⟩, List.mem_of_getElem? (i := 832) (by decide +kernel), List.mem_of_getElem? (i := 1085) (by decide +kernel), List.mem_of_getElem? (i := 1086) (by decide +kernel)⟩
theorem lw_p45 : lw_okq (⟨"NeighbourBoardModel", "more", "(IIJ)V"⟩, 30) := ⟨⟨by decide +kernel, by decide +kernel⟩, List.mem_of_getElem? (i := 832) (by decide +kernel), List.mem_of_getElem? (i := 1093) (by decide +kernel), List.mem_of_getElem? (i := 1094) (by decide +kernel)⟩
theorem lw_p46 : lw_okq (⟨"NeighbourBoardModel", "parts", "(II)V"⟩, 30) := ⟨⟨by decide +kernel, by decide +kernel⟩, List.mem_of_getElem? (i := 832) (by decide +kernel), List.mem_of_getElem? (i := 1097) (by decide +kernel), List.mem_of_getElem? (i := 1098) (by decide +kernel)⟩
theorem lw_p47 : lw_okq (⟨"NeighbourBoardModel", "goesInto", "(JII)Z"⟩, 30) := ⟨⟨by decide +kernel, by decide +kernel⟩, List.mem_of_getElem? (i := 832) (by decide +kernel), List.mem_of_getElem? (i := 1103) (by decide +kernel), List.mem_of_getElem? (i := 1104) (by decide +kernel)⟩
def lw_privs_3 : List (MethodName × Nat) := [(⟨"NeighbourBoardModel", "ways", "(I)I"⟩, 30), (⟨"NeighbourBoardModel", "weigh", "(I)Z"⟩, 30), (⟨"NeighbourBoardModel", "cell", "(II)I"⟩, 30), (⟨"NeighbourBoardModel", "between", "(III)I"⟩, 30), (⟨"NeighbourBoardModel", "toPlaces", "(II)I"⟩, 30), (⟨"NeighbourBoardModel", "clear", "(I)V"⟩, 30), (⟨"NeighbourBoardModel", "isZero", "(I)Z"⟩, 30), (⟨"NeighbourBoardModel", "copy", "(II)V"⟩, 30), (⟨"NeighbourBoardModel", "clears", "(II)V"⟩, 30), (⟨"NeighbourBoardModel", "times", "(III)V"⟩, 30), (⟨"NeighbourBoardModel", "isBelow", "(I)Z"⟩, 30), (⟨"NeighbourBoardModel", "bare", "(I[J)V"⟩, 30), (⟨"NeighbourBoardModel", "turn", "(I)V"⟩, 30), (⟨"NeighbourBoardModel", "more", "(IIJ)V"⟩, 30), (⟨"NeighbourBoardModel", "parts", "(II)V"⟩, 30), (⟨"NeighbourBoardModel", "goesInto", "(JII)Z"⟩, 30)]
theorem lw_r3 : ∀ q ∈ lw_privs_3, lw_okq q := List.forall_mem_cons.mpr ⟨lw_p32, List.forall_mem_cons.mpr ⟨lw_p33, List.forall_mem_cons.mpr ⟨lw_p34, List.forall_mem_cons.mpr ⟨lw_p35, List.forall_mem_cons.mpr ⟨lw_p36, List.forall_mem_cons.mpr ⟨lw_p37, List.forall_mem_cons.mpr ⟨lw_p38, List.forall_mem_cons.mpr ⟨lw_p39, List.forall_mem_cons.mpr ⟨lw_p40, List.forall_mem_cons.mpr ⟨lw_p41, List.forall_mem_cons.mpr ⟨lw_p42, List.forall_mem_cons.mpr ⟨lw_p43, List.forall_mem_cons.mpr ⟨lw_p44, List.forall_mem_cons.mpr ⟨lw_p45, List.forall_mem_cons.mpr ⟨lw_p46, List.forall_mem_cons.mpr ⟨lw_p47, fun _ h => absurd h List.not_mem_nil⟩⟩⟩⟩⟩⟩⟩⟩⟩⟩⟩⟩⟩⟩⟩⟩
theorem lw_p48 : lw_okq (⟨"NeighbourBoardModel", "top", "(I)I"⟩, 30) := ⟨⟨by decide +kernel, by decide +kernel⟩, List.mem_of_getElem? (i := 832) (by decide +kernel), List.mem_of_getElem? (i := 1107) (by decide +kernel), List.mem_of_getElem? (i := 1108) (by decide +kernel)⟩
theorem lw_p49 : lw_okq (⟨"NeighbourBoardModel", "guess", "(I)V"⟩, 30) := ⟨⟨by decide +kernel, by decide +kernel⟩, List.mem_of_getElem? (i := 832) (by decide +kernel), List.mem_of_getElem? (i := 1111) (by decide +kernel), List.mem_of_getElem? (i := 1112) (by decide +kernel)⟩
theorem lw_p50 : lw_okq (⟨"NeighbourBoardModel", "told", "(I)I"⟩, 30) := ⟨⟨by decide +kernel, by decide +kernel⟩, List.mem_of_getElem? (i := 832) (by decide +kernel), List.mem_of_getElem? (i := 1115) (by decide +kernel), List.mem_of_getElem? (i := 1116) (by decide +kernel)⟩
theorem lw_p51 : lw_okq (⟨"NeighbourBoardModel", "bottom", "(I)I"⟩, 30) := ⟨⟨by decide +kernel, by decide +kernel⟩, List.mem_of_getElem? (i := 832) (by decide +kernel), List.mem_of_getElem? (i := 1119) (by decide +kernel), List.mem_of_getElem? (i := 1120) (by decide +kernel)⟩
theorem lw_p52 : lw_okq (⟨"NeighbourBoardModel", "result", "(II)V"⟩, 30) := ⟨⟨by decide +kernel, by decide +kernel⟩, List.mem_of_getElem? (i := 832) (by decide +kernel), List.mem_of_getElem? (i := 1132) (by decide +kernel), List.mem_of_getElem? (i := 1133) (by decide +kernel)⟩
theorem lw_p53 : lw_okq (⟨"NeighbourBoardModel", "isEven", "(I)Z"⟩, 30) := ⟨⟨by decide +kernel, by decide +kernel⟩, List.mem_of_getElem? (i := 832) (by decide +kernel), List.mem_of_getElem? (i := 1136) (by decide +kernel), List.mem_of_getElem? (i := 1137) (by decide +kernel)⟩
theorem lw_p54 : lw_okq (⟨"NeighbourBoardModel", "half", "(I)V"⟩, 30) := ⟨⟨by decide +kernel, by decide +kernel⟩, List.mem_of_getElem? (i := 832) (by decide +kernel), List.mem_of_getElem? (i := 1140) (by decide +kernel), List.mem_of_getElem? (i := 1141) (by decide +kernel)⟩
theorem lw_p55 : lw_okq (⟨"NeighbourBoardModel", "isLess", "(II)Z"⟩, 30) := ⟨⟨by decide +kernel, by decide +kernel⟩, List.mem_of_getElem? (i := 832) (by decide +kernel), List.mem_of_getElem? (i := 1144) (by decide +kernel), List.mem_of_getElem? (i := 1145) (by decide +kernel)⟩
theorem lw_p56 : lw_okq (⟨"NeighbourBoardModel", "isOff", "(II)Z"⟩, 30) := ⟨⟨by decide +kernel, by decide +kernel⟩, List.mem_of_getElem? (i := 832) (by decide +kernel), List.mem_of_getElem? (i := 1152) (by decide +kernel), List.mem_of_getElem? (i := 1153) (by decide +kernel)⟩
theorem lw_p57 : lw_okq (⟨"NeighbourBoardModel", "worst", "(I)I"⟩, 30) := ⟨⟨by decide +kernel, by decide +kernel⟩, List.mem_of_getElem? (i := 832) (by decide +kernel), List.mem_of_getElem? (i := 1160) (by decide +kernel), List.mem_of_getElem? (i := 1161) (by decide +kernel)⟩
theorem lw_p58 : lw_okq (⟨"NeighbourBoardModel", "bare", "(I)V"⟩, 30) := ⟨⟨by decide +kernel, by decide +kernel⟩, List.mem_of_getElem? (i := 832) (by decide +kernel), List.mem_of_getElem? (i := 1164) (by decide +kernel), List.mem_of_getElem? (i := 1165) (by decide +kernel)⟩
theorem lw_p59 : lw_okq (⟨"NeighbourBoardModel", "isAbove", "(IIII)Z"⟩, 30) := ⟨⟨by decide +kernel, by decide +kernel⟩, List.mem_of_getElem? (i := 832) (by decide +kernel), List.mem_of_getElem? (i := 1168) (by decide +kernel), List.mem_of_getElem? (i := 1169) (by decide +kernel)⟩
theorem lw_p60 : lw_okq (⟨"NeighbourBoardModel", "minor", "(II)I"⟩, 30) := ⟨⟨by decide +kernel, by decide +kernel⟩, List.mem_of_getElem? (i := 832) (by decide +kernel), List.mem_of_getElem? (i := 1180) (by decide +kernel), List.mem_of_getElem? (i := 1181) (by decide +kernel)⟩
theorem lw_p61 : lw_okq (⟨"NeighbourBoardModel", "sign", "(I)I"⟩, 30) := ⟨⟨by decide +kernel, by decide +kernel⟩, List.mem_of_getElem? (i := 832) (by decide +kernel), List.mem_of_getElem? (i := 1184) (by decide +kernel), List.mem_of_getElem? (i := 1185) (by decide +kernel)⟩
theorem lw_p62 : lw_okq (⟨"NeighbourBoardModel", "band0", "(II)I"⟩, 30) := ⟨⟨by decide +kernel, by decide +kernel⟩, List.mem_of_getElem? (i := 832) (by decide +kernel), List.mem_of_getElem? (i := 1192) (by decide +kernel), List.mem_of_getElem? (i := 1193) (by decide +kernel)⟩
theorem lw_p63 : lw_okq (⟨"NeighbourBoardModel", "manyParts", "([J)I"⟩, 30) := ⟨⟨by decide +kernel, by decide +kernel⟩, List.mem_of_getElem? (i := 832) (by decide +kernel), List.mem_of_getElem? (i := 1204) (by decide +kernel), List.mem_of_getElem? (i := 1205) (by decide +kernel)⟩
def lw_privs_4 : List (MethodName × Nat) := [(⟨"NeighbourBoardModel", "top", "(I)I"⟩, 30), (⟨"NeighbourBoardModel", "guess", "(I)V"⟩, 30), (⟨"NeighbourBoardModel", "told", "(I)I"⟩, 30), (⟨"NeighbourBoardModel", "bottom", "(I)I"⟩, 30), (⟨"NeighbourBoardModel", "result", "(II)V"⟩, 30), (⟨"NeighbourBoardModel", "isEven", "(I)Z"⟩, 30), (⟨"NeighbourBoardModel", "half", "(I)V"⟩, 30), (⟨"NeighbourBoardModel", "isLess", "(II)Z"⟩, 30), (⟨"NeighbourBoardModel", "isOff", "(II)Z"⟩, 30), (⟨"NeighbourBoardModel", "worst", "(I)I"⟩, 30), (⟨"NeighbourBoardModel", "bare", "(I)V"⟩, 30), (⟨"NeighbourBoardModel", "isAbove", "(IIII)Z"⟩, 30), (⟨"NeighbourBoardModel", "minor", "(II)I"⟩, 30), (⟨"NeighbourBoardModel", "sign", "(I)I"⟩, 30), (⟨"NeighbourBoardModel", "band0", "(II)I"⟩, 30), (⟨"NeighbourBoardModel", "manyParts", "([J)I"⟩, 30)]
theorem lw_r4 : ∀ q ∈ lw_privs_4, lw_okq q := List.forall_mem_cons.mpr ⟨lw_p48, List.forall_mem_cons.mpr ⟨lw_p49, List.forall_mem_cons.mpr ⟨lw_p50, List.forall_mem_cons.mpr ⟨lw_p51, List.forall_mem_cons.mpr ⟨lw_p52, List.forall_mem_cons.mpr ⟨lw_p53, List.forall_mem_cons.mpr ⟨lw_p54, List.forall_mem_cons.mpr ⟨lw_p55, List.forall_mem_cons.mpr ⟨lw_p56, List.forall_mem_cons.mpr ⟨lw_p57, List.forall_mem_cons.mpr ⟨lw_p58, List.forall_mem_cons.mpr ⟨lw_p59, List.forall_mem_cons.mpr ⟨lw_p60, List.forall_mem_cons.mpr ⟨lw_p61, List.forall_mem_cons.mpr ⟨lw_p62, List.forall_mem_cons.mpr ⟨lw_p63, fun _ h => absurd h List.not_mem_nil⟩⟩⟩⟩⟩⟩⟩⟩⟩⟩⟩⟩⟩⟩⟩⟩
def lw_privs : List (MethodName × Nat) := lw_privs_1 ++ (lw_privs_2 ++ (lw_privs_3 ++ (lw_privs_4)))
def lw_tbl : List Cond := k2_sels lw_privs ++ tables_1
theorem lw_privs_ok : ∀ q ∈ lw_privs, lw_okq q := by
  show ∀ q ∈ lw_privs_1 ++ (lw_privs_2 ++ (lw_privs_3 ++ (lw_privs_4))), lw_okq q
  exact List.forall_mem_append.mpr ⟨lw_r1, List.forall_mem_append.mpr ⟨lw_r2, List.forall_mem_append.mpr ⟨lw_r3, lw_r4⟩⟩⟩
end
section
/-! words: most are kept by every warming as they stand; the nest mates' links and 'an array over' go with the world -/
def z_bad : Cond → Bool
  | .fieldLinkNest .. => true
  | .methodLinkNest .. => true
  | .arrayOver (.object _) => true
  | _ => false
def z_chk (w : Cond) : Bool := goodWord w || z_bad w
def z_us : List Cond := lw_tbl.filter z_chk
theorem z_mem {w : Cond} (i : Nat) (h : lw_tbl[i]? = some w) (hc : z_chk w = true) : w ∈ z_us := List.mem_filter.mpr ⟨List.mem_of_getElem? h, hc⟩
def RX0 : String := "NeighbourBoard$Answer"
def TX0 : u_T := fun k => match k with
  | 0 => ("NeighbourBoard$Answer", "weights", "[LNeighbourBoard$Whole;", true)
  | 1 => ("NeighbourBoard$Answer", "guess", "LNeighbourBoard$Whole;", true)
  | 2 => ("NeighbourBoard$Answer", "price", "LNeighbourBoard$Whole;", true)
  | 3 => ("NeighbourBoard$Answer", "bottom", "LNeighbourBoard$Whole;", true)
  | 4 => ("NeighbourBoard$Answer", "spread", "LNeighbourBoard$Whole;", true)
  | 5 => ("NeighbourBoard$Answer", "spreadBottom", "LNeighbourBoard$Whole;", true)
  | _ => ("NeighbourBoard$Answer", "there", "Z", false)
def tyX0 : Nat → FieldType := fun k => match k with
  | 0 => .array (.object "NeighbourBoard$Whole")
  | 1 => .object "NeighbourBoard$Whole"
  | 2 => .object "NeighbourBoard$Whole"
  | 3 => .object "NeighbourBoard$Whole"
  | 4 => .object "NeighbourBoard$Whole"
  | 5 => .object "NeighbourBoard$Whole"
  | _ => .boolean
abbrev wsX00 : List Cond := u_ws RX0 TX0 7
theorem nmX0 : ∀ a, a < 7 → ∀ b, b < 7 → a ≠ b → (TX0 a).2.1 ≠ (TX0 b).2.1 := by decide +kernel
theorem tyX0_ok : ∀ k, k < 7 → parseFieldDescriptor (TX0 k).2.2.1 = some (tyX0 k) := by decide +kernel
abbrev cX0_init : ByteArray := prog_2_method_1_code
def yX0_init : MethodName := ⟨RX0, "<init>", "()V"⟩
abbrev cX0_take : ByteArray := prog_2_method_2_code
def yX0_take : MethodName := ⟨RX0, "take", "(LNeighbourBoard$Equations;LNeighbourBoard$Grid;LNeighbourBoard$Sights;I)V"⟩
abbrev cX0_takeWeights : ByteArray := prog_2_method_3_code
def yX0_takeWeights : MethodName := ⟨RX0, "takeWeights", "(LNeighbourBoard$Equations;LNeighbourBoard$Grid;)V"⟩
def RX1 : String := "NeighbourBoard$Divider"
def TX1 : u_T := fun k => match k with
  | 0 => ("NeighbourBoard$Divider", "rest", "[I", true)
  | 1 => ("NeighbourBoard$Divider", "by", "[I", true)
  | 2 => ("NeighbourBoard$Divider", "length", "I", false)
  | _ => ("NeighbourBoard$Divider", "scale", "J", false)
def tyX1 : Nat → FieldType := fun k => match k with
  | 0 => .array .int
  | 1 => .array .int
  | 2 => .int
  | _ => .long
abbrev wsX10 : List Cond := u_ws RX1 TX1 4
theorem nmX1 : ∀ a, a < 4 → ∀ b, b < 4 → a ≠ b → (TX1 a).2.1 ≠ (TX1 b).2.1 := by decide +kernel
theorem tyX1_ok : ∀ k, k < 4 → parseFieldDescriptor (TX1 k).2.2.1 = some (tyX1 k) := by decide +kernel
abbrev cX1_init : ByteArray := prog_3_method_1_code
def yX1_init : MethodName := ⟨RX1, "<init>", "()V"⟩
abbrev cX1_divide : ByteArray := prog_3_method_2_code
def yX1_divide : MethodName := ⟨RX1, "divide", "(LNeighbourBoard$Whole;LNeighbourBoard$Whole;LNeighbourBoard$Whole;)V"⟩
abbrev cX1_takeRest : ByteArray := prog_3_method_3_code
def yX1_takeRest : MethodName := ⟨RX1, "takeRest", "(LNeighbourBoard$Whole;)V"⟩
abbrev cX1_divideByPart : ByteArray := prog_3_method_4_code
def yX1_divideByPart : MethodName := ⟨RX1, "divideByPart", "(LNeighbourBoard$Whole;JLNeighbourBoard$Whole;)V"⟩
abbrev cX1_copyScaled : ByteArray := prog_3_method_5_code
def yX1_copyScaled : MethodName := ⟨RX1, "copyScaled", "(LNeighbourBoard$Whole;[II)V"⟩
abbrev cX1_guessPart : ByteArray := prog_3_method_6_code
def yX1_guessPart : MethodName := ⟨RX1, "guessPart", "(I)J"⟩
abbrev cX1_takeAway : ByteArray := prog_3_method_7_code
def yX1_takeAway : MethodName := ⟨RX1, "takeAway", "(IJ)Z"⟩
abbrev cX1_giveBack : ByteArray := prog_3_method_8_code
def yX1_giveBack : MethodName := ⟨RX1, "giveBack", "(I)V"⟩
def RX2 : String := "NeighbourBoard$Equations"
def TX2 : u_T := fun k => match k with
  | 0 => ("NeighbourBoard$Equations", "chosen", "[I", true)
  | 1 => ("NeighbourBoard$Equations", "apart", "[I", true)
  | 2 => ("NeighbourBoard$Equations", "reach", "[I", true)
  | 3 => ("NeighbourBoard$Equations", "sums", "[I", true)
  | 4 => ("NeighbourBoard$Equations", "size", "I", false)
  | _ => ("NeighbourBoard$Equations", "askedFor", "I", false)
def tyX2 : Nat → FieldType := fun k => match k with
  | 0 => .array .int
  | 1 => .array .int
  | 2 => .array .int
  | 3 => .array .int
  | 4 => .int
  | _ => .int
abbrev wsX20 : List Cond := u_ws RX2 TX2 6
theorem nmX2 : ∀ a, a < 6 → ∀ b, b < 6 → a ≠ b → (TX2 a).2.1 ≠ (TX2 b).2.1 := by decide +kernel
theorem tyX2_ok : ∀ k, k < 6 → parseFieldDescriptor (TX2 k).2.2.1 = some (tyX2 k) := by decide +kernel
abbrev cX2_init : ByteArray := prog_4_method_1_code
def yX2_init : MethodName := ⟨RX2, "<init>", "()V"⟩
abbrev cX2_unknowns : ByteArray := prog_4_method_2_code
def yX2_unknowns : MethodName := ⟨RX2, "unknowns", "()I"⟩
abbrev cX2_chooseAllBut : ByteArray := prog_4_method_3_code
def yX2_chooseAllBut : MethodName := ⟨RX2, "chooseAllBut", "(II)V"⟩
abbrev cX2_chooseNearest : ByteArray := prog_4_method_4_code
def yX2_chooseNearest : MethodName := ⟨RX2, "chooseNearest", "(LNeighbourBoard$Places;LNeighbourBoard$Places;I)V"⟩
abbrev cX2_countNearer : ByteArray := prog_4_method_5_code
def yX2_countNearer : MethodName := ⟨RX2, "countNearer", "(II)I"⟩
abbrev cX2_prepare : ByteArray := prog_4_method_6_code
def yX2_prepare : MethodName := ⟨RX2, "prepare", "(LNeighbourBoard$Sights;LNeighbourBoard$Places;LNeighbourBoard$Laws;ILNeighbourBoard$Grid;)V"⟩
abbrev cX2_measure : ByteArray := prog_4_method_7_code
def yX2_measure : MethodName := ⟨RX2, "measure", "(LNeighbourBoard$Sights;LNeighbourBoard$Laws;IZ)V"⟩
abbrev cX2_reachOut : ByteArray := prog_4_method_8_code
def yX2_reachOut : MethodName := ⟨RX2, "reachOut", "(LNeighbourBoard$Places;LNeighbourBoard$Places;LNeighbourBoard$Laws;I)V"⟩
abbrev cX2_unlikeWithin : ByteArray := prog_4_method_9_code
def yX2_unlikeWithin : MethodName := ⟨RX2, "unlikeWithin", "(LNeighbourBoard$Places;LNeighbourBoard$Laws;I)I"⟩
abbrev cX2_fillSquare : ByteArray := prog_4_method_10_code
def yX2_fillSquare : MethodName := ⟨RX2, "fillSquare", "(LNeighbourBoard$Grid;)V"⟩
abbrev cX2_fillRight : ByteArray := prog_4_method_11_code
def yX2_fillRight : MethodName := ⟨RX2, "fillRight", "(LNeighbourBoard$Grid;)V"⟩
abbrev cX2_tellOff : ByteArray := prog_4_method_12_code
def yX2_tellOff : MethodName := ⟨RX2, "tellOff", "(LNeighbourBoard$Grid;LNeighbourBoard$Sights;ILNeighbourBoard$Fraction;)V"⟩
def RX3 : String := "NeighbourBoard$Fraction"
def TX3 : u_T := fun k => match k with
  | 0 => ("NeighbourBoard$Fraction", "top", "LNeighbourBoard$Whole;", true)
  | _ => ("NeighbourBoard$Fraction", "bottom", "LNeighbourBoard$Whole;", true)
def tyX3 : Nat → FieldType := fun k => match k with
  | 0 => .object "NeighbourBoard$Whole"
  | _ => .object "NeighbourBoard$Whole"
abbrev wsX30 : List Cond := u_ws RX3 TX3 2
theorem nmX3 : ∀ a, a < 2 → ∀ b, b < 2 → a ≠ b → (TX3 a).2.1 ≠ (TX3 b).2.1 := by decide +kernel
theorem tyX3_ok : ∀ k, k < 2 → parseFieldDescriptor (TX3 k).2.2.1 = some (tyX3 k) := by decide +kernel
abbrev cX3_init : ByteArray := prog_5_method_1_code
def yX3_init : MethodName := ⟨RX3, "<init>", "()V"⟩
abbrev cX3_copyFrom : ByteArray := prog_5_method_2_code
def yX3_copyFrom : MethodName := ⟨RX3, "copyFrom", "(LNeighbourBoard$Fraction;)V"⟩
def RX4 : String := "NeighbourBoard$Grid"
def TX4 : u_T := fun k => match k with
  | 0 => ("NeighbourBoard$Grid", "cells", "[LNeighbourBoard$Whole;", true)
  | 1 => ("NeighbourBoard$Grid", "outside", "LNeighbourBoard$Whole;", true)
  | 2 => ("NeighbourBoard$Grid", "bottom", "LNeighbourBoard$Whole;", true)
  | 3 => ("NeighbourBoard$Grid", "product", "LNeighbourBoard$Whole;", true)
  | 4 => ("NeighbourBoard$Grid", "otherProduct", "LNeighbourBoard$Whole;", true)
  | _ => ("NeighbourBoard$Grid", "divider", "LNeighbourBoard$Divider;", true)
def tyX4 : Nat → FieldType := fun k => match k with
  | 0 => .array (.object "NeighbourBoard$Whole")
  | 1 => .object "NeighbourBoard$Whole"
  | 2 => .object "NeighbourBoard$Whole"
  | 3 => .object "NeighbourBoard$Whole"
  | 4 => .object "NeighbourBoard$Whole"
  | _ => .object "NeighbourBoard$Divider"
abbrev wsX40 : List Cond := u_ws RX4 TX4 6
theorem nmX4 : ∀ a, a < 6 → ∀ b, b < 6 → a ≠ b → (TX4 a).2.1 ≠ (TX4 b).2.1 := by decide +kernel
theorem tyX4_ok : ∀ k, k < 6 → parseFieldDescriptor (TX4 k).2.2.1 = some (tyX4 k) := by decide +kernel
abbrev cX4_init : ByteArray := prog_6_method_1_code
def yX4_init : MethodName := ⟨RX4, "<init>", "()V"⟩
abbrev cX4_cell : ByteArray := prog_6_method_2_code
def yX4_cell : MethodName := ⟨RX4, "cell", "(II)LNeighbourBoard$Whole;"⟩
abbrev cX4_put : ByteArray := prog_6_method_3_code
def yX4_put : MethodName := ⟨RX4, "put", "(IIJ)V"⟩
abbrev cX4_solve : ByteArray := prog_6_method_4_code
def yX4_solve : MethodName := ⟨RX4, "solve", "(I)Z"⟩
abbrev cX4_judge : ByteArray := prog_6_method_5_code
def yX4_judge : MethodName := ⟨RX4, "judge", "(I)I"⟩
abbrev cX4_isZeroBehind : ByteArray := prog_6_method_6_code
def yX4_isZeroBehind : MethodName := ⟨RX4, "isZeroBehind", "(II)Z"⟩
abbrev cX4_bringPivot : ByteArray := prog_6_method_7_code
def yX4_bringPivot : MethodName := ⟨RX4, "bringPivot", "(II)Z"⟩
abbrev cX4_clearColumn : ByteArray := prog_6_method_8_code
def yX4_clearColumn : MethodName := ⟨RX4, "clearColumn", "(IIII)V"⟩
def RX5 : String := "NeighbourBoard$Laws"
def TX5 : u_T := fun k => match k with
  | 0 => ("NeighbourBoard$Laws", "tells", "[I", true)
  | _ => ("NeighbourBoard$Laws", "size", "I", false)
def tyX5 : Nat → FieldType := fun k => match k with
  | 0 => .array .int
  | _ => .int
abbrev wsX50 : List Cond := u_ws RX5 TX5 2
theorem nmX5 : ∀ a, a < 2 → ∀ b, b < 2 → a ≠ b → (TX5 a).2.1 ≠ (TX5 b).2.1 := by decide +kernel
theorem tyX5_ok : ∀ k, k < 2 → parseFieldDescriptor (TX5 k).2.2.1 = some (tyX5 k) := by decide +kernel
abbrev cX5_init : ByteArray := prog_7_method_1_code
def yX5_init : MethodName := ⟨RX5, "<init>", "()V"⟩
abbrev cX5_has : ByteArray := prog_7_method_2_code
def yX5_has : MethodName := ⟨RX5, "has", "(I)Z"⟩
abbrev cX5_isFull : ByteArray := prog_7_method_3_code
def yX5_isFull : MethodName := ⟨RX5, "isFull", "()Z"⟩
abbrev cX5_tell : ByteArray := prog_7_method_4_code
def yX5_tell : MethodName := ⟨RX5, "tell", "(II)I"⟩
abbrev cX5_draft : ByteArray := prog_7_method_5_code
def yX5_draft : MethodName := ⟨RX5, "draft", "(II)V"⟩
abbrev cX5_draftSlope : ByteArray := prog_7_method_6_code
def yX5_draftSlope : MethodName := ⟨RX5, "draftSlope", "(II)V"⟩
abbrev cX5_draftBoth : ByteArray := prog_7_method_7_code
def yX5_draftBoth : MethodName := ⟨RX5, "draftBoth", "(II)Z"⟩
abbrev cX5_keepDraft : ByteArray := prog_7_method_8_code
def yX5_keepDraft : MethodName := ⟨RX5, "keepDraft", "()I"⟩
def RX6 : String := "NeighbourBoard$Places"
def TX6 : u_T := fun k => match k with
  | 0 => ("NeighbourBoard$Places", "xs", "[I", true)
  | 1 => ("NeighbourBoard$Places", "ys", "[I", true)
  | _ => ("NeighbourBoard$Places", "size", "I", false)
def tyX6 : Nat → FieldType := fun k => match k with
  | 0 => .array .int
  | 1 => .array .int
  | _ => .int
abbrev wsX60 : List Cond := u_ws RX6 TX6 3
theorem nmX6 : ∀ a, a < 3 → ∀ b, b < 3 → a ≠ b → (TX6 a).2.1 ≠ (TX6 b).2.1 := by decide +kernel
theorem tyX6_ok : ∀ k, k < 3 → parseFieldDescriptor (TX6 k).2.2.1 = some (tyX6 k) := by decide +kernel
abbrev cX6_init : ByteArray := prog_8_method_1_code
def yX6_init : MethodName := ⟨RX6, "<init>", "(I)V"⟩
abbrev cX6_clear : ByteArray := prog_8_method_2_code
def yX6_clear : MethodName := ⟨RX6, "clear", "()V"⟩
abbrev cX6_has : ByteArray := prog_8_method_3_code
def yX6_has : MethodName := ⟨RX6, "has", "(I)Z"⟩
abbrev cX6_holds : ByteArray := prog_8_method_4_code
def yX6_holds : MethodName := ⟨RX6, "holds", "(II)Z"⟩
abbrev cX6_add : ByteArray := prog_8_method_5_code
def yX6_add : MethodName := ⟨RX6, "add", "(II)V"⟩
abbrev cX6_remove : ByteArray := prog_8_method_6_code
def yX6_remove : MethodName := ⟨RX6, "remove", "(I)V"⟩
abbrev cX6_way : ByteArray := prog_8_method_7_code
def yX6_way : MethodName := ⟨RX6, "way", "(II)I"⟩
abbrev cX6_wayTo : ByteArray := prog_8_method_8_code
def yX6_wayTo : MethodName := ⟨RX6, "wayTo", "(III)I"⟩
def RX7 : String := "NeighbourBoard$Sights"
def TX7 : u_T := fun k => match k with
  | 0 => ("NeighbourBoard$Sights", "places", "LNeighbourBoard$Places;", true)
  | 1 => ("NeighbourBoard$Sights", "numbers", "[I", true)
  | _ => ("NeighbourBoard$Sights", "doubts", "[I", true)
def tyX7 : Nat → FieldType := fun k => match k with
  | 0 => .object "NeighbourBoard$Places"
  | 1 => .array .int
  | _ => .array .int
abbrev wsX70 : List Cond := u_ws RX7 TX7 3
theorem nmX7 : ∀ a, a < 3 → ∀ b, b < 3 → a ≠ b → (TX7 a).2.1 ≠ (TX7 b).2.1 := by decide +kernel
theorem tyX7_ok : ∀ k, k < 3 → parseFieldDescriptor (TX7 k).2.2.1 = some (tyX7 k) := by decide +kernel
abbrev cX7_init : ByteArray := prog_9_method_1_code
def yX7_init : MethodName := ⟨RX7, "<init>", "()V"⟩
abbrev cX7_add : ByteArray := prog_9_method_2_code
def yX7_add : MethodName := ⟨RX7, "add", "(IIII)V"⟩
abbrev cX7_remove : ByteArray := prog_9_method_3_code
def yX7_remove : MethodName := ⟨RX7, "remove", "(I)V"⟩
def RX8 : String := "NeighbourBoard$Slots"
def TX8 : u_T := fun k => match k with
  | 0 => ("NeighbourBoard$Slots", "numbers", "[J", true)
  | 1 => ("NeighbourBoard$Slots", "widths", "[I", true)
  | 2 => ("NeighbourBoard$Slots", "lengths", "[I", true)
  | 3 => ("NeighbourBoard$Slots", "reading", "I", false)
  | 4 => ("NeighbourBoard$Slots", "at", "I", false)
  | 5 => ("NeighbourBoard$Slots", "value", "I", false)
  | 6 => ("NeighbourBoard$Slots", "x", "I", false)
  | 7 => ("NeighbourBoard$Slots", "y", "I", false)
  | _ => ("NeighbourBoard$Slots", "refusal", "I", false)
def tyX8 : Nat → FieldType := fun k => match k with
  | 0 => .array .long
  | 1 => .array .int
  | 2 => .array .int
  | 3 => .int
  | 4 => .int
  | 5 => .int
  | 6 => .int
  | 7 => .int
  | _ => .int
abbrev wsX80 : List Cond := u_ws RX8 TX8 9
theorem nmX8 : ∀ a, a < 9 → ∀ b, b < 9 → a ≠ b → (TX8 a).2.1 ≠ (TX8 b).2.1 := by decide +kernel
theorem tyX8_ok : ∀ k, k < 9 → parseFieldDescriptor (TX8 k).2.2.1 = some (tyX8 k) := by decide +kernel
abbrev cX8_init : ByteArray := prog_10_method_1_code
def yX8_init : MethodName := ⟨RX8, "<init>", "()V"⟩
abbrev cX8_exists : ByteArray := prog_10_method_2_code
def yX8_exists : MethodName := ⟨RX8, "exists", "(I)Z"⟩
abbrev cX8_holds : ByteArray := prog_10_method_3_code
def yX8_holds : MethodName := ⟨RX8, "holds", "(I)Z"⟩
abbrev cX8_holdsNumber : ByteArray := prog_10_method_4_code
def yX8_holdsNumber : MethodName := ⟨RX8, "holdsNumber", "(II)Z"⟩
abbrev cX8_lay : ByteArray := prog_10_method_5_code
def yX8_lay : MethodName := ⟨RX8, "lay", "(III)V"⟩
abbrev cX8_empty : ByteArray := prog_10_method_6_code
def yX8_empty : MethodName := ⟨RX8, "empty", "(I)V"⟩
abbrev cX8_put : ByteArray := prog_10_method_7_code
def yX8_put : MethodName := ⟨RX8, "put", "(IIJ)Z"⟩
abbrev cX8_countHeld : ByteArray := prog_10_method_8_code
def yX8_countHeld : MethodName := ⟨RX8, "countHeld", "()I"⟩
abbrev cX8_startReading : ByteArray := prog_10_method_9_code
def yX8_startReading : MethodName := ⟨RX8, "startReading", "(I)V"⟩
abbrev cX8_readNext : ByteArray := prog_10_method_10_code
def yX8_readNext : MethodName := ⟨RX8, "readNext", "(II)Z"⟩
abbrev cX8_readPlace : ByteArray := prog_10_method_11_code
def yX8_readPlace : MethodName := ⟨RX8, "readPlace", "()Z"⟩
abbrev cX8_cut : ByteArray := prog_10_method_12_code
def yX8_cut : MethodName := ⟨RX8, "cut", "(JI)J"⟩
def RX9 : String := "NeighbourBoard$Whole"
def TX9 : u_T := fun k => match k with
  | 0 => ("NeighbourBoard$Whole", "parts", "[I", true)
  | 1 => ("NeighbourBoard$Whole", "size", "I", false)
  | _ => ("NeighbourBoard$Whole", "sign", "I", false)
def tyX9 : Nat → FieldType := fun k => match k with
  | 0 => .array .int
  | 1 => .int
  | _ => .int
abbrev wsX90 : List Cond := u_ws RX9 TX9 3
theorem nmX9 : ∀ a, a < 3 → ∀ b, b < 3 → a ≠ b → (TX9 a).2.1 ≠ (TX9 b).2.1 := by decide +kernel
theorem tyX9_ok : ∀ k, k < 3 → parseFieldDescriptor (TX9 k).2.2.1 = some (tyX9 k) := by decide +kernel
abbrev cX9_init : ByteArray := prog_11_method_1_code
def yX9_init : MethodName := ⟨RX9, "<init>", "()V"⟩
abbrev cX9_put : ByteArray := prog_11_method_2_code
def yX9_put : MethodName := ⟨RX9, "put", "(J)V"⟩
abbrev cX9_lowest : ByteArray := prog_11_method_3_code
def yX9_lowest : MethodName := ⟨RX9, "lowest", "()J"⟩
abbrev cX9_copyFrom : ByteArray := prog_11_method_4_code
def yX9_copyFrom : MethodName := ⟨RX9, "copyFrom", "(LNeighbourBoard$Whole;)V"⟩
abbrev cX9_compareSize : ByteArray := prog_11_method_5_code
def yX9_compareSize : MethodName := ⟨RX9, "compareSize", "(LNeighbourBoard$Whole;)I"⟩
abbrev cX9_multiply : ByteArray := prog_11_method_6_code
def yX9_multiply : MethodName := ⟨RX9, "multiply", "(LNeighbourBoard$Whole;LNeighbourBoard$Whole;)V"⟩
abbrev cX9_addTimes : ByteArray := prog_11_method_7_code
def yX9_addTimes : MethodName := ⟨RX9, "addTimes", "(LNeighbourBoard$Whole;I)V"⟩
abbrev cX9_complement : ByteArray := prog_11_method_8_code
def yX9_complement : MethodName := ⟨RX9, "complement", "(I)V"⟩
abbrev cX9_clear : ByteArray := prog_11_method_9_code
def yX9_clear : MethodName := ⟨RX9, "clear", "()V"⟩
abbrev cX9_trim : ByteArray := prog_11_method_10_code
def yX9_trim : MethodName := ⟨RX9, "trim", "(II)V"⟩
def RX10 : String := "NeighbourBoard$Workbench"
def TX10 : u_T := fun k => match k with
  | 0 => ("NeighbourBoard$Workbench", "divider", "LNeighbourBoard$Divider;", true)
  | 1 => ("NeighbourBoard$Workbench", "left", "LNeighbourBoard$Whole;", true)
  | 2 => ("NeighbourBoard$Workbench", "right", "LNeighbourBoard$Whole;", true)
  | _ => ("NeighbourBoard$Workbench", "quotient", "LNeighbourBoard$Whole;", true)
def tyX10 : Nat → FieldType := fun k => match k with
  | 0 => .object "NeighbourBoard$Divider"
  | 1 => .object "NeighbourBoard$Whole"
  | 2 => .object "NeighbourBoard$Whole"
  | _ => .object "NeighbourBoard$Whole"
abbrev wsX100 : List Cond := u_ws RX10 TX10 4
theorem nmX10 : ∀ a, a < 4 → ∀ b, b < 4 → a ≠ b → (TX10 a).2.1 ≠ (TX10 b).2.1 := by decide +kernel
theorem tyX10_ok : ∀ k, k < 4 → parseFieldDescriptor (TX10 k).2.2.1 = some (tyX10 k) := by decide +kernel
abbrev cX10_init : ByteArray := prog_12_method_1_code
def yX10_init : MethodName := ⟨RX10, "<init>", "()V"⟩
abbrev cX10_isLarger : ByteArray := prog_12_method_2_code
def yX10_isLarger : MethodName := ⟨RX10, "isLarger", "(LNeighbourBoard$Fraction;LNeighbourBoard$Fraction;)Z"⟩
abbrev cX10_reduce : ByteArray := prog_12_method_3_code
def yX10_reduce : MethodName := ⟨RX10, "reduce", "(LNeighbourBoard$Fraction;)V"⟩
abbrev cX10_findShared : ByteArray := prog_12_method_4_code
def yX10_findShared : MethodName := ⟨RX10, "findShared", "(LNeighbourBoard$Fraction;)LNeighbourBoard$Whole;"⟩
def RX11 : String := "NeighbourBoard"
def TX11 : u_T := fun k => match k with
  | 0 => ("NeighbourBoard", "slots", "LNeighbourBoard$Slots;", true)
  | 1 => ("NeighbourBoard", "laws", "LNeighbourBoard$Laws;", true)
  | 2 => ("NeighbourBoard", "asked", "LNeighbourBoard$Places;", true)
  | 3 => ("NeighbourBoard", "equations", "LNeighbourBoard$Equations;", true)
  | 4 => ("NeighbourBoard", "grid", "LNeighbourBoard$Grid;", true)
  | 5 => ("NeighbourBoard", "given", "LNeighbourBoard$Answer;", true)
  | 6 => ("NeighbourBoard", "workbench", "LNeighbourBoard$Workbench;", true)
  | 7 => ("NeighbourBoard", "result", "LNeighbourBoard$Fraction;", true)
  | 8 => ("NeighbourBoard", "off", "LNeighbourBoard$Fraction;", true)
  | 9 => ("NeighbourBoard", "greatestOff", "LNeighbourBoard$Fraction;", true)
  | 10 => ("NeighbourBoard", "leastOff", "LNeighbourBoard$Fraction;", true)
  | 11 => ("NeighbourBoard", "sights", "LNeighbourBoard$Sights;", false)
  | 12 => ("NeighbourBoard", "spareSights", "LNeighbourBoard$Sights;", false)
  | 13 => ("NeighbourBoard", "lawUsed", "I", false)
  | _ => ("NeighbourBoard", "mostUsed", "I", false)
def tyX11 : Nat → FieldType := fun k => match k with
  | 0 => .object "NeighbourBoard$Slots"
  | 1 => .object "NeighbourBoard$Laws"
  | 2 => .object "NeighbourBoard$Places"
  | 3 => .object "NeighbourBoard$Equations"
  | 4 => .object "NeighbourBoard$Grid"
  | 5 => .object "NeighbourBoard$Answer"
  | 6 => .object "NeighbourBoard$Workbench"
  | 7 => .object "NeighbourBoard$Fraction"
  | 8 => .object "NeighbourBoard$Fraction"
  | 9 => .object "NeighbourBoard$Fraction"
  | 10 => .object "NeighbourBoard$Fraction"
  | 11 => .object "NeighbourBoard$Sights"
  | 12 => .object "NeighbourBoard$Sights"
  | 13 => .int
  | _ => .int
abbrev wsX110 : List Cond := u_ws RX11 TX11 15
theorem nmX11 : ∀ a, a < 15 → ∀ b, b < 15 → a ≠ b → (TX11 a).2.1 ≠ (TX11 b).2.1 := by decide +kernel
theorem tyX11_ok : ∀ k, k < 15 → parseFieldDescriptor (TX11 k).2.2.1 = some (tyX11 k) := by decide +kernel
abbrev cX11_init : ByteArray := prog_1_method_1_code
def yX11_init : MethodName := ⟨RX11, "<init>", "()V"⟩
abbrev cX11_row : ByteArray := prog_1_method_2_code
def yX11_row : MethodName := ⟨RX11, "row", "(III)I"⟩
abbrev cX11_tear : ByteArray := prog_1_method_3_code
def yX11_tear : MethodName := ⟨RX11, "tear", "(I)Z"⟩
abbrev cX11_write : ByteArray := prog_1_method_4_code
def yX11_write : MethodName := ⟨RX11, "write", "(IIJ)I"⟩
abbrev cX11_seen : ByteArray := prog_1_method_5_code
def yX11_seen : MethodName := ⟨RX11, "seen", "(I)I"⟩
abbrev cX11_see : ByteArray := prog_1_method_6_code
def yX11_see : MethodName := ⟨RX11, "see", "(IIII)I"⟩
abbrev cX11_drop : ByteArray := prog_1_method_7_code
def yX11_drop : MethodName := ⟨RX11, "drop", "(I)I"⟩
abbrev cX11_straight : ByteArray := prog_1_method_8_code
def yX11_straight : MethodName := ⟨RX11, "straight", "(I)I"⟩
abbrev cX11_capped : ByteArray := prog_1_method_9_code
def yX11_capped : MethodName := ⟨RX11, "capped", "(II)I"⟩
abbrev cX11_table : ByteArray := prog_1_method_10_code
def yX11_table : MethodName := ⟨RX11, "table", "(I)I"⟩
abbrev cX11_sum : ByteArray := prog_1_method_11_code
def yX11_sum : MethodName := ⟨RX11, "sum", "(II)I"⟩
abbrev cX11_unlike : ByteArray := prog_1_method_12_code
def yX11_unlike : MethodName := ⟨RX11, "unlike", "(II)I"⟩
abbrev cX11_use : ByteArray := prog_1_method_13_code
def yX11_use : MethodName := ⟨RX11, "use", "(I)Z"⟩
abbrev cX11_nearest : ByteArray := prog_1_method_14_code
def yX11_nearest : MethodName := ⟨RX11, "nearest", "(I)Z"⟩
abbrev cX11_ask : ByteArray := prog_1_method_15_code
def yX11_ask : MethodName := ⟨RX11, "ask", "(II)I"⟩
abbrev cX11_mean : ByteArray := prog_1_method_16_code
def yX11_mean : MethodName := ⟨RX11, "mean", "(I)I"⟩
abbrev cX11_answer : ByteArray := prog_1_method_17_code
def yX11_answer : MethodName := ⟨RX11, "answer", "(I)Z"⟩
abbrev cX11_leftOut : ByteArray := prog_1_method_18_code
def yX11_leftOut : MethodName := ⟨RX11, "leftOut", "(I)Z"⟩
abbrev cX11_worst : ByteArray := prog_1_method_19_code
def yX11_worst : MethodName := ⟨RX11, "worst", "()I"⟩
abbrev cX11_best : ByteArray := prog_1_method_20_code
def yX11_best : MethodName := ⟨RX11, "best", "()I"⟩
abbrev cX11_allowed : ByteArray := prog_1_method_21_code
def yX11_allowed : MethodName := ⟨RX11, "allowed", "(I)I"⟩
abbrev cX11_pairs : ByteArray := prog_1_method_22_code
def yX11_pairs : MethodName := ⟨RX11, "pairs", "(II)I"⟩
abbrev cX11_band : ByteArray := prog_1_method_23_code
def yX11_band : MethodName := ⟨RX11, "band", "(II)Z"⟩
abbrev cX11_look : ByteArray := prog_1_method_24_code
def yX11_look : MethodName := ⟨RX11, "look", "(I)I"⟩
abbrev cX11_part : ByteArray := prog_1_method_25_code
def yX11_part : MethodName := ⟨RX11, "part", "(ZI)I"⟩
abbrev cX11_told : ByteArray := prog_1_method_26_code
def yX11_told : MethodName := ⟨RX11, "told", "(II)I"⟩
abbrev cX11_count : ByteArray := prog_1_method_27_code
def yX11_count : MethodName := ⟨RX11, "count", "(I)I"⟩
abbrev cX11_isWithin : ByteArray := prog_1_method_28_code
def yX11_isWithin : MethodName := ⟨RX11, "isWithin", "(III)Z"⟩
abbrev cX11_isPlace : ByteArray := prog_1_method_29_code
def yX11_isPlace : MethodName := ⟨RX11, "isPlace", "(II)Z"⟩
abbrev cX11_addSloped : ByteArray := prog_1_method_30_code
def yX11_addSloped : MethodName := ⟨RX11, "addSloped", "(II)I"⟩
abbrev cX11_readSights : ByteArray := prog_1_method_31_code
def yX11_readSights : MethodName := ⟨RX11, "readSights", "()Z"⟩
abbrev cX11_readSight : ByteArray := prog_1_method_32_code
def yX11_readSight : MethodName := ⟨RX11, "readSight", "()Z"⟩
abbrev cX11_readTable : ByteArray := prog_1_method_33_code
def yX11_readTable : MethodName := ⟨RX11, "readTable", "()Z"⟩
abbrev cX11_readAsked : ByteArray := prog_1_method_34_code
def yX11_readAsked : MethodName := ⟨RX11, "readAsked", "()Z"⟩
abbrev cX11_canGuess : ByteArray := prog_1_method_35_code
def yX11_canGuess : MethodName := ⟨RX11, "canGuess", "()Z"⟩
abbrev cX11_guessForAsked : ByteArray := prog_1_method_36_code
def yX11_guessForAsked : MethodName := ⟨RX11, "guessForAsked", "()I"⟩
abbrev cX11_leaveOut : ByteArray := prog_1_method_37_code
def yX11_leaveOut : MethodName := ⟨RX11, "leaveOut", "(II)Z"⟩
abbrev cX11_findWorst : ByteArray := prog_1_method_38_code
def yX11_findWorst : MethodName := ⟨RX11, "findWorst", "(I)I"⟩
abbrev cX11_setResult : ByteArray := prog_1_method_39_code
def yX11_setResult : MethodName := ⟨RX11, "setResult", "(LNeighbourBoard$Whole;LNeighbourBoard$Whole;)Z"⟩
def RX12 : String := "NeighbourBoardModel"
def TX12 : u_T := fun k => match k with
  | 0 => ("NeighbourBoardModel", "n", "[J", true)
  | 1 => ("NeighbourBoardModel", "ends", "[I", true)
  | 2 => ("NeighbourBoardModel", "widths", "[I", true)
  | 3 => ("NeighbourBoardModel", "numbers", "[J", true)
  | 4 => ("NeighbourBoardModel", "seen", "I", false)
  | 5 => ("NeighbourBoardModel", "x", "[I", true)
  | 6 => ("NeighbourBoardModel", "y", "[I", true)
  | 7 => ("NeighbourBoardModel", "number", "[I", true)
  | 8 => ("NeighbourBoardModel", "doubt", "[I", true)
  | 9 => ("NeighbourBoardModel", "laws", "I", false)
  | 10 => ("NeighbourBoardModel", "law", "[I", true)
  | 11 => ("NeighbourBoardModel", "used", "I", false)
  | 12 => ("NeighbourBoardModel", "nearest", "I", false)
  | 13 => ("NeighbourBoardModel", "hasAnswer", "Z", false)
  | 14 => ("NeighbourBoardModel", "left", "[J", true)
  | 15 => ("NeighbourBoardModel", "right", "[J", true)
  | 16 => ("NeighbourBoardModel", "both", "[J", true)
  | 17 => ("NeighbourBoardModel", "high", "I", false)
  | 18 => ("NeighbourBoardModel", "wide", "I", false)
  | 19 => ("NeighbourBoardModel", "rank", "I", false)
  | 20 => ("NeighbourBoardModel", "flips", "I", false)
  | 21 => ("NeighbourBoardModel", "rowOf", "[I", true)
  | 22 => ("NeighbourBoardModel", "row", "[I", true)
  | 23 => ("NeighbourBoardModel", "places", "I", false)
  | 24 => ("NeighbourBoardModel", "placeX", "[I", true)
  | 25 => ("NeighbourBoardModel", "placeY", "[I", true)
  | 26 => ("NeighbourBoardModel", "chosen", "I", false)
  | 27 => ("NeighbourBoardModel", "chosenOf", "[I", true)
  | 28 => ("NeighbourBoardModel", "taken", "[Z", true)
  | _ => ("NeighbourBoardModel", "squares", "J", false)
def tyX12 : Nat → FieldType := fun k => match k with
  | 0 => .array .long
  | 1 => .array .int
  | 2 => .array .int
  | 3 => .array .long
  | 4 => .int
  | 5 => .array .int
  | 6 => .array .int
  | 7 => .array .int
  | 8 => .array .int
  | 9 => .int
  | 10 => .array .int
  | 11 => .int
  | 12 => .int
  | 13 => .boolean
  | 14 => .array .long
  | 15 => .array .long
  | 16 => .array .long
  | 17 => .int
  | 18 => .int
  | 19 => .int
  | 20 => .int
  | 21 => .array .int
  | 22 => .array .int
  | 23 => .int
  | 24 => .array .int
  | 25 => .array .int
  | 26 => .int
  | 27 => .array .int
  | 28 => .array .boolean
  | _ => .long
abbrev wsX120 : List Cond := u_ws RX12 TX12 30
theorem nmX12 : ∀ a, a < 30 → ∀ b, b < 30 → a ≠ b → (TX12 a).2.1 ≠ (TX12 b).2.1 := by decide +kernel
theorem tyX12_ok : ∀ k, k < 30 → parseFieldDescriptor (TX12 k).2.2.1 = some (tyX12 k) := by decide +kernel
abbrev cX12_init : ByteArray := prog_14_method_1_code
def yX12_init : MethodName := ⟨RX12, "<init>", "()V"⟩
abbrev cX12_carry : ByteArray := prog_14_method_2_code
def yX12_carry : MethodName := ⟨RX12, "carry", "(I)V"⟩
abbrev cX12_set : ByteArray := prog_14_method_3_code
def yX12_set : MethodName := ⟨RX12, "set", "(IJ)V"⟩
abbrev cX12_copy : ByteArray := prog_14_method_4_code
def yX12_copy : MethodName := ⟨RX12, "copy", "(II)V"⟩
abbrev cX12_more : ByteArray := prog_14_method_5_code
def yX12_more : MethodName := ⟨RX12, "more", "(IIJ)V"⟩
abbrev cX12_isBelow : ByteArray := prog_14_method_6_code
def yX12_isBelow : MethodName := ⟨RX12, "isBelow", "(I)Z"⟩
abbrev cX12_isZero : ByteArray := prog_14_method_7_code
def yX12_isZero : MethodName := ⟨RX12, "isZero", "(I)Z"⟩
abbrev cX12_turn : ByteArray := prog_14_method_8_code
def yX12_turn : MethodName := ⟨RX12, "turn", "(I)V"⟩
abbrev cX12_sign : ByteArray := prog_14_method_9_code
def yX12_sign : MethodName := ⟨RX12, "sign", "(I)I"⟩
abbrev cX12_bare : ByteArray := prog_14_method_10_code
def yX12_bare : MethodName := ⟨RX12, "bare", "(I[J)V"⟩
abbrev cX12_length : ByteArray := prog_14_method_11_code
def yX12_length : MethodName := ⟨RX12, "length", "([J)I"⟩
abbrev cX12_times : ByteArray := prog_14_method_12_code
def yX12_times : MethodName := ⟨RX12, "times", "(III)V"⟩
abbrev cX12_parts : ByteArray := prog_14_method_13_code
def yX12_parts : MethodName := ⟨RX12, "parts", "(II)V"⟩
abbrev cX12_goesInto : ByteArray := prog_14_method_14_code
def yX12_goesInto : MethodName := ⟨RX12, "goesInto", "(JII)Z"⟩
abbrev cX12_isEven : ByteArray := prog_14_method_15_code
def yX12_isEven : MethodName := ⟨RX12, "isEven", "(I)Z"⟩
abbrev cX12_half : ByteArray := prog_14_method_16_code
def yX12_half : MethodName := ⟨RX12, "half", "(I)V"⟩
abbrev cX12_isLess : ByteArray := prog_14_method_17_code
def yX12_isLess : MethodName := ⟨RX12, "isLess", "(II)Z"⟩
abbrev cX12_result : ByteArray := prog_14_method_18_code
def yX12_result : MethodName := ⟨RX12, "result", "(II)V"⟩
abbrev cX12_isSlot : ByteArray := prog_14_method_19_code
def yX12_isSlot : MethodName := ⟨RX12, "isSlot", "(I)Z"⟩
abbrev cX12_row : ByteArray := prog_14_method_20_code
def yX12_row : MethodName := ⟨RX12, "row", "(III)I"⟩
abbrev cX12_tear : ByteArray := prog_14_method_21_code
def yX12_tear : MethodName := ⟨RX12, "tear", "(I)Z"⟩
abbrev cX12_write : ByteArray := prog_14_method_22_code
def yX12_write : MethodName := ⟨RX12, "write", "(IIJ)I"⟩
abbrev cX12_cell : ByteArray := prog_14_method_23_code
def yX12_cell : MethodName := ⟨RX12, "cell", "(II)I"⟩
abbrev cX12_clear : ByteArray := prog_14_method_24_code
def yX12_clear : MethodName := ⟨RX12, "clear", "(I)V"⟩
abbrev cX12_clears : ByteArray := prog_14_method_25_code
def yX12_clears : MethodName := ⟨RX12, "clears", "(II)V"⟩
abbrev cX12_isIn : ByteArray := prog_14_method_26_code
def yX12_isIn : MethodName := ⟨RX12, "isIn", "(JJJ)Z"⟩
abbrev cX12_isSeen : ByteArray := prog_14_method_27_code
def yX12_isSeen : MethodName := ⟨RX12, "isSeen", "(I)Z"⟩
abbrev cX12_seen : ByteArray := prog_14_method_28_code
def yX12_seen : MethodName := ⟨RX12, "seen", "(I)I"⟩
abbrev cX12_see : ByteArray := prog_14_method_29_code
def yX12_see : MethodName := ⟨RX12, "see", "(IIII)I"⟩
abbrev cX12_drop : ByteArray := prog_14_method_30_code
def yX12_drop : MethodName := ⟨RX12, "drop", "(I)I"⟩
abbrev cX12_isLaw : ByteArray := prog_14_method_31_code
def yX12_isLaw : MethodName := ⟨RX12, "isLaw", "(I)Z"⟩
abbrev cX12_straight : ByteArray := prog_14_method_32_code
def yX12_straight : MethodName := ⟨RX12, "straight", "(I)I"⟩
abbrev cX12_capped : ByteArray := prog_14_method_33_code
def yX12_capped : MethodName := ⟨RX12, "capped", "(II)I"⟩
abbrev cX12_table : ByteArray := prog_14_method_34_code
def yX12_table : MethodName := ⟨RX12, "table", "(I)I"⟩
abbrev cX12_sum : ByteArray := prog_14_method_35_code
def yX12_sum : MethodName := ⟨RX12, "sum", "(II)I"⟩
abbrev cX12_unlike : ByteArray := prog_14_method_36_code
def yX12_unlike : MethodName := ⟨RX12, "unlike", "(II)I"⟩
abbrev cX12_use : ByteArray := prog_14_method_37_code
def yX12_use : MethodName := ⟨RX12, "use", "(I)Z"⟩
abbrev cX12_nearest : ByteArray := prog_14_method_38_code
def yX12_nearest : MethodName := ⟨RX12, "nearest", "(I)Z"⟩
abbrev cX12_size : ByteArray := prog_14_method_39_code
def yX12_size : MethodName := ⟨RX12, "size", "(I)I"⟩
abbrev cX12_way : ByteArray := prog_14_method_40_code
def yX12_way : MethodName := ⟨RX12, "way", "(IIII)I"⟩
abbrev cX12_between : ByteArray := prog_14_method_41_code
def yX12_between : MethodName := ⟨RX12, "between", "(III)I"⟩
abbrev cX12_ways : ByteArray := prog_14_method_42_code
def yX12_ways : MethodName := ⟨RX12, "ways", "(I)I"⟩
abbrev cX12_choose : ByteArray := prog_14_method_43_code
def yX12_choose : MethodName := ⟨RX12, "choose", "()V"⟩
abbrev cX12_toPlaces : ByteArray := prog_14_method_44_code
def yX12_toPlaces : MethodName := ⟨RX12, "toPlaces", "(II)I"⟩
abbrev cX12_weigh : ByteArray := prog_14_method_45_code
def yX12_weigh : MethodName := ⟨RX12, "weigh", "(I)Z"⟩
abbrev cX12_told : ByteArray := prog_14_method_46_code
def yX12_told : MethodName := ⟨RX12, "told", "(I)I"⟩
abbrev cX12_guess : ByteArray := prog_14_method_47_code
def yX12_guess : MethodName := ⟨RX12, "guess", "(I)V"⟩
abbrev cX12_top : ByteArray := prog_14_method_48_code
def yX12_top : MethodName := ⟨RX12, "top", "(I)I"⟩
abbrev cX12_bottom : ByteArray := prog_14_method_49_code
def yX12_bottom : MethodName := ⟨RX12, "bottom", "(I)I"⟩
abbrev cX12_isAnswered : ByteArray := prog_14_method_50_code
def yX12_isAnswered : MethodName := ⟨RX12, "isAnswered", "()Z"⟩
abbrev cX12_ask : ByteArray := prog_14_method_51_code
def yX12_ask : MethodName := ⟨RX12, "ask", "(II)I"⟩
abbrev cX12_mean : ByteArray := prog_14_method_52_code
def yX12_mean : MethodName := ⟨RX12, "mean", "(I)I"⟩
abbrev cX12_answer : ByteArray := prog_14_method_53_code
def yX12_answer : MethodName := ⟨RX12, "answer", "(I)Z"⟩
abbrev cX12_isOff : ByteArray := prog_14_method_54_code
def yX12_isOff : MethodName := ⟨RX12, "isOff", "(II)Z"⟩
abbrev cX12_leftOut : ByteArray := prog_14_method_55_code
def yX12_leftOut : MethodName := ⟨RX12, "leftOut", "(I)Z"⟩
abbrev cX12_bare_ : ByteArray := prog_14_method_56_code
def yX12_bare_ : MethodName := ⟨RX12, "bare", "(I)V"⟩
abbrev cX12_isAbove : ByteArray := prog_14_method_57_code
def yX12_isAbove : MethodName := ⟨RX12, "isAbove", "(IIII)Z"⟩
abbrev cX12_worst : ByteArray := prog_14_method_58_code
def yX12_worst : MethodName := ⟨RX12, "worst", "(I)I"⟩
abbrev cX12_worst_ : ByteArray := prog_14_method_59_code
def yX12_worst_ : MethodName := ⟨RX12, "worst", "()I"⟩
abbrev cX12_best : ByteArray := prog_14_method_60_code
def yX12_best : MethodName := ⟨RX12, "best", "()I"⟩
abbrev cX12_minor : ByteArray := prog_14_method_61_code
def yX12_minor : MethodName := ⟨RX12, "minor", "(II)I"⟩
abbrev cX12_allowed : ByteArray := prog_14_method_62_code
def yX12_allowed : MethodName := ⟨RX12, "allowed", "(I)I"⟩
abbrev cX12_band0 : ByteArray := prog_14_method_63_code
def yX12_band0 : MethodName := ⟨RX12, "band0", "(II)I"⟩
abbrev cX12_pairs : ByteArray := prog_14_method_64_code
def yX12_pairs : MethodName := ⟨RX12, "pairs", "(II)I"⟩
abbrev cX12_band : ByteArray := prog_14_method_65_code
def yX12_band : MethodName := ⟨RX12, "band", "(II)Z"⟩
abbrev cX12_manyParts : ByteArray := prog_14_method_66_code
def yX12_manyParts : MethodName := ⟨RX12, "manyParts", "([J)I"⟩
abbrev cX12_look : ByteArray := prog_14_method_67_code
def yX12_look : MethodName := ⟨RX12, "look", "(I)I"⟩
abbrev cX12_part : ByteArray := prog_14_method_68_code
def yX12_part : MethodName := ⟨RX12, "part", "(ZI)I"⟩
abbrev cX12_told_ : ByteArray := prog_14_method_69_code
def yX12_told_ : MethodName := ⟨RX12, "told", "(II)I"⟩
abbrev cX12_count : ByteArray := prog_14_method_70_code
def yX12_count : MethodName := ⟨RX12, "count", "(I)I"⟩
def RJ13 : String := "java/lang/Long"
def TJ13 : u_T := fun k => match k with
  | _ => ("", "", "", false)
def tyJ13 : Nat → FieldType := fun k => match k with
  | _ => .int
theorem nmJ13 : ∀ a, a < 0 → ∀ b, b < 0 → a ≠ b → (TJ13 a).2.1 ≠ (TJ13 b).2.1 := by decide +kernel
theorem tyJ13_ok : ∀ k, k < 0 → parseFieldDescriptor (TJ13 k).2.2.1 = some (tyJ13 k) := by decide +kernel
abbrev cJ13_signum_95d88 : ByteArray := prog_15_method_57_code
def yJ13_signum_95d88 : MethodName := ⟨RJ13, "signum", "(J)I"⟩
def RJ9 : String := "java/lang/Math"
def TJ9 : u_T := fun k => match k with
  | _ => ("", "", "", false)
def tyJ9 : Nat → FieldType := fun k => match k with
  | _ => .int
theorem nmJ9 : ∀ a, a < 0 → ∀ b, b < 0 → a ≠ b → (TJ9 a).2.1 ≠ (TJ9 b).2.1 := by decide +kernel
theorem tyJ9_ok : ∀ k, k < 0 → parseFieldDescriptor (TJ9 k).2.2.1 = some (tyJ9 k) := by decide +kernel
abbrev cJ9_floorDiv_f86c9 : ByteArray := prog_16_method_49_code
def yJ9_floorDiv_f86c9 : MethodName := ⟨RJ9, "floorDiv", "(JJ)J"⟩
abbrev cJ9_floorMod_f86c9 : ByteArray := prog_16_method_52_code
def yJ9_floorMod_f86c9 : MethodName := ⟨RJ9, "floorMod", "(JJ)J"⟩
abbrev cJ9_abs_0f7a4 : ByteArray := prog_16_method_59_code
def yJ9_abs_0f7a4 : MethodName := ⟨RJ9, "abs", "(I)I"⟩
abbrev cJ9_abs_067f4 : ByteArray := prog_16_method_61_code
def yJ9_abs_067f4 : MethodName := ⟨RJ9, "abs", "(J)J"⟩
abbrev cJ9_max_7cf53 : ByteArray := prog_16_method_65_code
def yJ9_max_7cf53 : MethodName := ⟨RJ9, "max", "(II)I"⟩
abbrev cJ9_min_7cf53 : ByteArray := prog_16_method_69_code
def yJ9_min_7cf53 : MethodName := ⟨RJ9, "min", "(II)I"⟩
def RL : String := "NeighbourBoardLaw"
abbrev cL_law : ByteArray := code
def yL_law : MethodName := ⟨RL, "law", "([I)Z"⟩
abbrev vwCl : List vw_C := [(RX0, TX0, 7), (RX1, TX1, 4), (RX2, TX2, 6), (RX3, TX3, 2), (RX4, TX4, 6), (RX5, TX5, 2), (RX6, TX6, 3), (RX7, TX7, 3), (RX8, TX8, 9), (RX9, TX9, 3), (RX10, TX10, 4), (RX11, TX11, 15), (RX12, TX12, 30)]
theorem inX0 : ∀ w ∈ wsX00, w ∈ z_us := by
  intro w hw
  obtain ⟨k, hk, rfl⟩ := List.mem_map.mp hw
  have hk := List.mem_range.mp hk
  match k, hk with
  | 0, _ => exact z_mem 293 (by decide +kernel) rfl
  | 1, _ => exact z_mem 295 (by decide +kernel) rfl
  | 2, _ => exact z_mem 297 (by decide +kernel) rfl
  | 3, _ => exact z_mem 299 (by decide +kernel) rfl
  | 4, _ => exact z_mem 301 (by decide +kernel) rfl
  | 5, _ => exact z_mem 303 (by decide +kernel) rfl
  | 6, _ => exact z_mem 305 (by decide +kernel) rfl
  | k + 7, h => exact absurd h (by omega)
theorem inX1 : ∀ w ∈ wsX10, w ∈ z_us := by
  intro w hw
  obtain ⟨k, hk, rfl⟩ := List.mem_map.mp hw
  have hk := List.mem_range.mp hk
  match k, hk with
  | 0, _ => exact z_mem 241 (by decide +kernel) rfl
  | 1, _ => exact z_mem 243 (by decide +kernel) rfl
  | 2, _ => exact z_mem 245 (by decide +kernel) rfl
  | 3, _ => exact z_mem 247 (by decide +kernel) rfl
  | k + 4, h => exact absurd h (by omega)
theorem inX2 : ∀ w ∈ wsX20, w ∈ z_us := by
  intro w hw
  obtain ⟨k, hk, rfl⟩ := List.mem_map.mp hw
  have hk := List.mem_range.mp hk
  match k, hk with
  | 0, _ => exact z_mem 185 (by decide +kernel) rfl
  | 1, _ => exact z_mem 187 (by decide +kernel) rfl
  | 2, _ => exact z_mem 189 (by decide +kernel) rfl
  | 3, _ => exact z_mem 191 (by decide +kernel) rfl
  | 4, _ => exact z_mem 193 (by decide +kernel) rfl
  | 5, _ => exact z_mem 195 (by decide +kernel) rfl
  | k + 6, h => exact absurd h (by omega)
theorem inX3 : ∀ w ∈ wsX30, w ∈ z_us := by
  intro w hw
  obtain ⟨k, hk, rfl⟩ := List.mem_map.mp hw
  have hk := List.mem_range.mp hk
  match k, hk with
  | 0, _ => exact z_mem 366 (by decide +kernel) rfl
  | 1, _ => exact z_mem 368 (by decide +kernel) rfl
  | k + 2, h => exact absurd h (by omega)
theorem inX4 : ∀ w ∈ wsX40, w ∈ z_us := by
  intro w hw
  obtain ⟨k, hk, rfl⟩ := List.mem_map.mp hw
  have hk := List.mem_range.mp hk
  match k, hk with
  | 0, _ => exact z_mem 258 (by decide +kernel) rfl
  | 1, _ => exact z_mem 260 (by decide +kernel) rfl
  | 2, _ => exact z_mem 262 (by decide +kernel) rfl
  | 3, _ => exact z_mem 264 (by decide +kernel) rfl
  | 4, _ => exact z_mem 266 (by decide +kernel) rfl
  | 5, _ => exact z_mem 268 (by decide +kernel) rfl
  | k + 6, h => exact absurd h (by omega)
theorem inX5 : ∀ w ∈ wsX50, w ∈ z_us := by
  intro w hw
  obtain ⟨k, hk, rfl⟩ := List.mem_map.mp hw
  have hk := List.mem_range.mp hk
  match k, hk with
  | 0, _ => exact z_mem 137 (by decide +kernel) rfl
  | 1, _ => exact z_mem 139 (by decide +kernel) rfl
  | k + 2, h => exact absurd h (by omega)
theorem inX6 : ∀ w ∈ wsX60, w ∈ z_us := by
  intro w hw
  obtain ⟨k, hk, rfl⟩ := List.mem_map.mp hw
  have hk := List.mem_range.mp hk
  match k, hk with
  | 0, _ => exact z_mem 161 (by decide +kernel) rfl
  | 1, _ => exact z_mem 163 (by decide +kernel) rfl
  | 2, _ => exact z_mem 165 (by decide +kernel) rfl
  | k + 3, h => exact absurd h (by omega)
theorem inX7 : ∀ w ∈ wsX70, w ∈ z_us := by
  intro w hw
  obtain ⟨k, hk, rfl⟩ := List.mem_map.mp hw
  have hk := List.mem_range.mp hk
  match k, hk with
  | 0, _ => exact z_mem 389 (by decide +kernel) rfl
  | 1, _ => exact z_mem 391 (by decide +kernel) rfl
  | 2, _ => exact z_mem 393 (by decide +kernel) rfl
  | k + 3, h => exact absurd h (by omega)
theorem inX8 : ∀ w ∈ wsX80, w ∈ z_us := by
  intro w hw
  obtain ⟨k, hk, rfl⟩ := List.mem_map.mp hw
  have hk := List.mem_range.mp hk
  match k, hk with
  | 0, _ => exact z_mem 107 (by decide +kernel) rfl
  | 1, _ => exact z_mem 109 (by decide +kernel) rfl
  | 2, _ => exact z_mem 111 (by decide +kernel) rfl
  | 3, _ => exact z_mem 113 (by decide +kernel) rfl
  | 4, _ => exact z_mem 115 (by decide +kernel) rfl
  | 5, _ => exact z_mem 117 (by decide +kernel) rfl
  | 6, _ => exact z_mem 119 (by decide +kernel) rfl
  | 7, _ => exact z_mem 121 (by decide +kernel) rfl
  | 8, _ => exact z_mem 123 (by decide +kernel) rfl
  | k + 9, h => exact absurd h (by omega)
theorem inX9 : ∀ w ∈ wsX90, w ∈ z_us := by
  intro w hw
  obtain ⟨k, hk, rfl⟩ := List.mem_map.mp hw
  have hk := List.mem_range.mp hk
  match k, hk with
  | 0, _ => exact z_mem 224 (by decide +kernel) rfl
  | 1, _ => exact z_mem 226 (by decide +kernel) rfl
  | 2, _ => exact z_mem 228 (by decide +kernel) rfl
  | k + 3, h => exact absurd h (by omega)
theorem inX10 : ∀ w ∈ wsX100, w ∈ z_us := by
  intro w hw
  obtain ⟨k, hk, rfl⟩ := List.mem_map.mp hw
  have hk := List.mem_range.mp hk
  match k, hk with
  | 0, _ => exact z_mem 322 (by decide +kernel) rfl
  | 1, _ => exact z_mem 324 (by decide +kernel) rfl
  | 2, _ => exact z_mem 326 (by decide +kernel) rfl
  | 3, _ => exact z_mem 328 (by decide +kernel) rfl
  | k + 4, h => exact absurd h (by omega)
theorem inX11 : ∀ w ∈ wsX110, w ∈ z_us := by
  intro w hw
  obtain ⟨k, hk, rfl⟩ := List.mem_map.mp hw
  have hk := List.mem_range.mp hk
  match k, hk with
  | 0, _ => exact z_mem 411 (by decide +kernel) rfl
  | 1, _ => exact z_mem 413 (by decide +kernel) rfl
  | 2, _ => exact z_mem 415 (by decide +kernel) rfl
  | 3, _ => exact z_mem 417 (by decide +kernel) rfl
  | 4, _ => exact z_mem 419 (by decide +kernel) rfl
  | 5, _ => exact z_mem 421 (by decide +kernel) rfl
  | 6, _ => exact z_mem 423 (by decide +kernel) rfl
  | 7, _ => exact z_mem 425 (by decide +kernel) rfl
  | 8, _ => exact z_mem 427 (by decide +kernel) rfl
  | 9, _ => exact z_mem 429 (by decide +kernel) rfl
  | 10, _ => exact z_mem 431 (by decide +kernel) rfl
  | 11, _ => exact z_mem 433 (by decide +kernel) rfl
  | 12, _ => exact z_mem 435 (by decide +kernel) rfl
  | 13, _ => exact z_mem 437 (by decide +kernel) rfl
  | 14, _ => exact z_mem 439 (by decide +kernel) rfl
  | k + 15, h => exact absurd h (by omega)
theorem inX12 : ∀ w ∈ wsX120, w ∈ z_us := by
  intro w hw
  obtain ⟨k, hk, rfl⟩ := List.mem_map.mp hw
  have hk := List.mem_range.mp hk
  match k, hk with
  | 0, _ => exact z_mem 946 (by decide +kernel) rfl
  | 1, _ => exact z_mem 948 (by decide +kernel) rfl
  | 2, _ => exact z_mem 950 (by decide +kernel) rfl
  | 3, _ => exact z_mem 952 (by decide +kernel) rfl
  | 4, _ => exact z_mem 954 (by decide +kernel) rfl
  | 5, _ => exact z_mem 956 (by decide +kernel) rfl
  | 6, _ => exact z_mem 958 (by decide +kernel) rfl
  | 7, _ => exact z_mem 960 (by decide +kernel) rfl
  | 8, _ => exact z_mem 962 (by decide +kernel) rfl
  | 9, _ => exact z_mem 964 (by decide +kernel) rfl
  | 10, _ => exact z_mem 966 (by decide +kernel) rfl
  | 11, _ => exact z_mem 968 (by decide +kernel) rfl
  | 12, _ => exact z_mem 970 (by decide +kernel) rfl
  | 13, _ => exact z_mem 972 (by decide +kernel) rfl
  | 14, _ => exact z_mem 974 (by decide +kernel) rfl
  | 15, _ => exact z_mem 976 (by decide +kernel) rfl
  | 16, _ => exact z_mem 978 (by decide +kernel) rfl
  | 17, _ => exact z_mem 980 (by decide +kernel) rfl
  | 18, _ => exact z_mem 982 (by decide +kernel) rfl
  | 19, _ => exact z_mem 984 (by decide +kernel) rfl
  | 20, _ => exact z_mem 986 (by decide +kernel) rfl
  | 21, _ => exact z_mem 988 (by decide +kernel) rfl
  | 22, _ => exact z_mem 990 (by decide +kernel) rfl
  | 23, _ => exact z_mem 992 (by decide +kernel) rfl
  | 24, _ => exact z_mem 994 (by decide +kernel) rfl
  | 25, _ => exact z_mem 996 (by decide +kernel) rfl
  | 26, _ => exact z_mem 998 (by decide +kernel) rfl
  | 27, _ => exact z_mem 1000 (by decide +kernel) rfl
  | 28, _ => exact z_mem 1002 (by decide +kernel) rfl
  | 29, _ => exact z_mem 1004 (by decide +kernel) rfl
  | k + 30, h => exact absurd h (by omega)
def z_lay : List (Nat × Nat) := [(99, 0), (11, 15), (8, 9), (21, 480), (20, 8), (20, 8), (5, 2), (20, 486), (6, 3), (20, 6), (20, 6), (2, 6), (20, 8), (20, 64), (20, 8), (20, 8), (4, 6), (23, 56), (9, 3), (20, 12), (9, 3), (20, 12), (9, 3), (20, 12), (9, 3), (20, 12), (1, 4), (20, 13), (20, 13), (9, 3), (20, 12), (9, 3), (20, 12), (9, 3), (20, 12), (9, 3), (20, 12), (9, 3), (20, 12), (9, 3), (20, 12), (9, 3), (20, 12), (9, 3), (20, 12), (9, 3), (20, 12), (9, 3), (20, 12), (9, 3), (20, 12), (9, 3), (20, 12), (9, 3), (20, 12), (9, 3), (20, 12), (9, 3), (20, 12), (9, 3), (20, 12), (9, 3), (20, 12), (9, 3), (20, 12), (9, 3), (20, 12), (9, 3), (20, 12), (9, 3), (20, 12), (9, 3), (20, 12), (9, 3), (20, 12), (9, 3), (20, 12), (9, 3), (20, 12), (9, 3), (20, 12), (9, 3), (20, 12), (9, 3), (20, 12), (9, 3), (20, 12), (9, 3), (20, 12), (9, 3), (20, 12), (9, 3), (20, 12), (9, 3), (20, 12), (9, 3), (20, 12), (9, 3), (20, 12), (9, 3), (20, 12), (9, 3), (20, 12), (9, 3), (20, 12), (9, 3), (20, 12), (9, 3), (20, 12), (9, 3), (20, 12), (9, 3), (20, 12), (9, 3), (20, 12), (9, 3), (20, 12), (9, 3), (20, 12), (9, 3), (20, 12), (9, 3), (20, 12), (9, 3), (20, 12), (9, 3), (20, 12), (9, 3), (20, 12), (9, 3), (20, 12), (9, 3), (20, 12), (9, 3), (20, 12), (9, 3), (20, 12), (9, 3), (20, 12), (9, 3), (20, 12), (0, 7), (23, 8), (9, 3), (20, 12), (9, 3), (20, 12), (9, 3), (20, 12), (9, 3), (20, 12), (9, 3), (20, 12), (9, 3), (20, 12), (9, 3), (20, 12), (9, 3), (20, 12), (9, 3), (20, 12), (9, 3), (20, 12), (9, 3), (20, 12), (9, 3), (20, 12), (9, 3), (20, 12), (10, 4), (1, 4), (20, 13), (20, 13), (9, 3), (20, 12), (9, 3), (20, 12), (9, 3), (20, 12), (3, 2), (9, 3), (20, 12), (9, 3), (20, 12), (3, 2), (9, 3), (20, 12), (9, 3), (20, 12), (3, 2), (9, 3), (20, 12), (9, 3), (20, 12), (3, 2), (9, 3), (20, 12), (9, 3), (20, 12), (7, 3), (6, 3), (20, 8), (20, 8), (20, 8), (20, 8), (7, 3), (6, 3), (20, 8), (20, 8), (20, 8), (20, 8), (12, 30), (21, 2112), (20, 8), (20, 8), (21, 480), (20, 8), (20, 8), (20, 8), (20, 8), (20, 486), (21, 16), (21, 16), (21, 16), (20, 10), (20, 60), (20, 6), (20, 6), (20, 8), (22, 8)]
def z_ftl : List (List Nat) := [[2, 2, 2, 2, 2, 2, 0], [2, 2, 0, 1], [2, 2, 2, 2, 0, 0], [2, 2], [2, 2, 2, 2, 2, 2], [2, 0], [2, 2, 0], [2, 2, 2], [2, 2, 2, 0, 0, 0, 0, 0, 0], [2, 0, 0], [2, 2, 2, 2], [2, 2, 2, 2, 2, 2, 2, 2, 2, 2, 2, 2, 2, 0, 0], [2, 2, 2, 2, 0, 2, 2, 2, 2, 0, 2, 0, 0, 0, 2, 2, 2, 0, 0, 0, 0, 2, 2, 0, 2, 2, 0, 2, 2, 1]]
def z_ft (ci k : Nat) : Nat := (z_ftl.getD ci []).getD k 0
def z_ty (ci k : Nat) : FieldType := match ci with
  | 0 => tyX0 k
  | 1 => tyX1 k
  | 2 => tyX2 k
  | 3 => tyX3 k
  | 4 => tyX4 k
  | 5 => tyX5 k
  | 6 => tyX6 k
  | 7 => tyX7 k
  | 8 => tyX8 k
  | 9 => tyX9 k
  | 10 => tyX10 k
  | 11 => tyX11 k
  | 12 => tyX12 k
  | _ => .int
end
section
/-! own machine: values are a tag and a whole number (0 int, 1 long, 2 reference with 0 for null, 3 the script, 9 nothing); memory is whole numbers by cell and place -/
abbrev ZV : Type := Nat × Int
abbrev ZM : Type := Int → Int → Int
abbrev ZT : Type := MethodName × ByteArray × Nat × Option FieldType
abbrev ZR : Type := Nat × Nat × Nat
abbrev ZS : Type := Nat × (Nat → Int32)
def iz (x : Int) : Int32 := Int32.ofInt x
def lz (x : Int) : Int64 := Int64.ofInt x
def z_ref (B : Nat) (x : Int) : Option Nat := if x = 0 then none else some (B + x.toNat)
def z_rv (B b : Nat) (v : ZV) : Value := match v.1 with
  | 0 => .int (iz v.2)
  | 1 => .long (lz v.2)
  | 2 => va_rf (z_ref B v.2)
  | _ => .ref b
theorem z_rv0 (B b : Nat) (x : Int) : z_rv B b (0, x) = .int (iz x) := rfl
theorem z_rv1 (B b : Nat) (x : Int) : z_rv B b (1, x) = .long (lz x) := rfl
theorem z_rv2 (B b : Nat) (x : Int) : z_rv B b (2, x) = va_rf (z_ref B x) := rfl
theorem z_rv3 (B b : Nat) (x : Int) : z_rv B b (3, x) = .ref b := rfl
theorem z_ref_pos {B : Nat} {a : Nat} (h : 0 < a) : z_ref B (a : Int) = some (B + a) := by
  unfold z_ref
  rw [if_neg (by omega)]
  simp
def z_l (a : Int) : Nat × Nat := z_lay.getD a.toNat (99, 0)
def z_ss (n : Nat) : Nat := ((z_lay.take (n + 1)).map (fun q => q.2)).sum
def z_cell (B : Nat) (cA : Nat → ClassId) (σ : ZM) (a : Nat) : va_E :=
  match (z_l a).1 with
  | 20 => .inl (cA 0, (z_l a).2, .inl (fun j => iz (σ a j)))
  | 21 => .inl (cA 1, (z_l a).2, .inr (.inl (fun j => lz (σ a j))))
  | 22 => .inl (cA 2, (z_l a).2, .inl (fun j => iz (σ a j)))
  | 23 => .inl (cA 3, (z_l a).2, .inr (.inr (.inr (.inr (fun j => z_ref B (σ a j))))))
  | k => .inr (k, (List.range (z_l a).2).map (fun i => z_rv B 0 (z_ft k i, σ a i)))
def z_ws (B : Nat) (cA : Nat → ClassId) (σ : ZM) (n : Nat) : va_W := (List.range n).map (fun k => (B + (k + 1), z_cell B cA σ (k + 1)))
def z_tys (cA : Nat → ClassId) : List (ClassId × FieldType) := [(cA 0, .int), (cA 1, .long), (cA 2, .boolean), (cA 3, .object RX9)]
def z_A (B : Nat) : Nat → Prop := fun q => B < q
/-- what stays the same through a method's run -/
def z_fix (X : ZS) (ρ : ZR) (M : ZT) (p : Program) (R : Room) (s : State) (m : MethodId) (args : Array Value) (meth : Method) (c : Code) (B b : Nat) (D : va_G) (cA : Nat → ClassId) : Prop :=
  p.tables.exec = Jvm.exec ∧ c.code = M.2.1 ∧ meth.sig.returnType = M.2.2.2 ∧ meth.locks = false ∧ c.maxLocals = M.2.2.1 ∧ s.vm.findClass M.1.cls = some m.cls ∧ meth.name = M.1.name ∧ (∀ w ∈ z_us, w.before args s = true) ∧ va_K D vwCl (z_tys cA) s ∧ B < s.heap.size ∧ va_X b X.1 X.2 s s.heap ∧ b ≤ B ∧ ρ.1 ≤ R.frames ∧ ρ.2.1 ≤ R.locals
/-- what moves: the heap with its n cells, and the room that is left -/
def z_dyn (ρ : ZR) (n : Nat) (σ : ZM) (D : va_G) (B : Nat) (cA : Nat → ClassId) (R : Room) (s : State) (H : Heap) (locs : List Loc) (cells slots : Nat) : Prop :=
  va_P D vwCl (z_ws B cA σ n) H ∧ cells + s.heap.size = B + n + 1 ∧ va_S (z_A B) s.heap H locs ∧ n ≤ ρ.2.2 ∧ cells + (ρ.2.2 - n) ≤ R.cells ∧ slots + (z_ss ρ.2.2 - z_ss n) ≤ R.slots
def z_loc (B b nL : Nat) (L : List ZV) (ls : Array Slot) : Prop := ls.size = nL ∧ lv_wf ls ∧ ∀ (i : Nat) (v : ZV), L[i]? = some v → v.1 ≠ 9 → ls[i]? = some (.val (z_rv B b v))
def z_ret (M : ZT) (pc : Nat) (r : ZV) : Prop :=
  (r.1 = 0 ∧ decode M.2.1 pc = .ok (.ireturn, 1) ∧ (M.2.2.2 = some .int ∨ (M.2.2.2 = some .boolean ∧ (r.2 = 0 ∨ r.2 = 1)))) ∨ (r.1 = 1 ∧ decode M.2.1 pc = .ok (.lreturn, 1) ∧ M.2.2.2 = some .long) ∨
  (r.1 = 2 ∧ decode M.2.1 pc = .ok (.areturn, 1) ∧ ∃ C, M.2.2.2 = some (.object C)) ∨ (r.1 = 9 ∧ decode M.2.1 pc = .ok (.return_, 1) ∧ M.2.2.2 = none)
def z_rst (B b : Nat) (r : ZV) : List Value := if r.1 = 9 then [] else [z_rv B b r]
def z_end (ρ : ZR) (M : ZT) (Q : ZV → ZM → Prop) (p : Program) (l : Launch) (e : Env) (R : Room) (s : State) (m : MethodId) (args : Array Value) (below : List Frame) (meth : Method) (c : Code) (B b : Nat) (D : va_G) (cA : Nat → ClassId) (Qf : State → Prop) : Prop :=
  ∀ (r : ZV) (σ : ZM) (H : Heap) (locs : List Loc) (cells slots : Nat) (ls : Array Slot) (pc : Nat), Q r σ → z_dyn ρ ρ.2.2 σ D B cA R s H locs cells slots → z_ret M pc r → W p l e R s m args below meth c H locs cells slots Qf (F0 m pc ls (z_rst B b r))
/-- method M at pc, with locals L, stack st, n cells and memory σ, comes to a return with Q -/
def Z (X : ZS) (ρ : ZR) (M : ZT) (pc : Nat) (L st : List ZV) (n : Nat) (σ : ZM) (Q : ZV → ZM → Prop) : Prop :=
  ∀ (p : Program) (l : Launch) (e : Env) (R : Room) (s : State) (m : MethodId) (args : Array Value) (below : List Frame) (meth : Method) (c : Code) (B b : Nat) (D : va_G) (cA : Nat → ClassId) (Qf : State → Prop),
    z_fix X ρ M p R s m args meth c B b D cA → z_end ρ M Q p l e R s m args below meth c B b D cA Qf →
    ∀ (H : Heap) (locs : List Loc) (cells slots : Nat) (ls : Array Slot), z_dyn ρ n σ D B cA R s H locs cells slots → z_loc B b M.2.2.1 L ls →
    W p l e R s m args below meth c H locs cells slots Qf (F0 m pc ls (st.map (z_rv B b)))
theorem Z_mono {X : ZS} {ρ : ZR} {M : ZT} {pc : Nat} {L st : List ZV} {n : Nat} {σ : ZM} {Q Q' : ZV → ZM → Prop} (h : Z X ρ M pc L st n σ Q) (hq : ∀ r σ', Q r σ' → Q' r σ') : Z X ρ M pc L st n σ Q' := by
  intro p l e R s m args below meth c B b D cA Qf hF hE H locs cells slots ls hD hL
  exact h p l e R s m args below meth c B b D cA Qf hF (fun r σ H locs cells slots ls pc hr => hE r σ H locs cells slots ls pc (hq r σ hr)) H locs cells slots ls hD hL
/-- an instruction that touches neither heap nor room -/
theorem Z_pure {X : ZS} {ρ : ZR} {M : ZT} {pc pc' : Nat} {L L' st st' : List ZV} {n : Nat} {σ : ZM} {Q : ZV → ZM → Prop}
    (h : ∀ (p : Program) (l : Launch) (e : Env) (R : Room) (s : State) (m : MethodId) (args : Array Value) (below : List Frame) (meth : Method) (c : Code) (B b : Nat) (D : va_G) (cA : Nat → ClassId) (Qf : State → Prop) (H : Heap) (locs : List Loc) (cells slots : Nat) (ls : Array Slot), z_fix X ρ M p R s m args meth c B b D cA → z_dyn ρ n σ D B cA R s H locs cells slots → z_loc B b M.2.2.1 L ls →
      (∀ ls', z_loc B b M.2.2.1 L' ls' → W p l e R s m args below meth c H locs cells slots Qf (F0 m pc' ls' (st'.map (z_rv B b)))) → W p l e R s m args below meth c H locs cells slots Qf (F0 m pc ls (st.map (z_rv B b))))
    (k : Z X ρ M pc' L' st' n σ Q) : Z X ρ M pc L st n σ Q := by
  intro p l e R s m args below meth c B b D cA Qf hF hE H locs cells slots ls hD hL
  exact h p l e R s m args below meth c B b D cA Qf H locs cells slots ls hF hD hL (fun ls' hL' => k p l e R s m args below meth c B b D cA Qf hF hE H locs cells slots ls' hD hL')
/-- the same with two ways on -/
theorem Z_pure2 {X : ZS} {ρ : ZR} {M : ZT} {pc pc1 pc2 : Nat} {L st st1 st2 : List ZV} {n : Nat} {σ : ZM} {Q : ZV → ZM → Prop} {c1 c2 : Prop}
    (h : ∀ (p : Program) (l : Launch) (e : Env) (R : Room) (s : State) (m : MethodId) (args : Array Value) (below : List Frame) (meth : Method) (c : Code) (B b : Nat) (Qf : State → Prop) (H : Heap) (locs : List Loc) (cells slots : Nat) (ls : Array Slot), p.tables.exec = Jvm.exec → c.code = M.2.1 →
      (c1 → W p l e R s m args below meth c H locs cells slots Qf (F0 m pc1 ls (st1.map (z_rv B b)))) → (c2 → W p l e R s m args below meth c H locs cells slots Qf (F0 m pc2 ls (st2.map (z_rv B b)))) → W p l e R s m args below meth c H locs cells slots Qf (F0 m pc ls (st.map (z_rv B b))))
    (k1 : c1 → Z X ρ M pc1 L st1 n σ Q) (k2 : c2 → Z X ρ M pc2 L st2 n σ Q) : Z X ρ M pc L st n σ Q := by
  intro p l e R s m args below meth c B b D cA Qf hF hE H locs cells slots ls hD hL
  exact h p l e R s m args below meth c B b Qf H locs cells slots ls hF.1 hF.2.1 (fun h1 => k1 h1 p l e R s m args below meth c B b D cA Qf hF hE H locs cells slots ls hD hL) (fun h2 => k2 h2 p l e R s m args below meth c B b D cA Qf hF hE H locs cells slots ls hD hL)
end
section
abbrev r32 (x : Int) : Prop := -2147483648 ≤ x ∧ x < 2147483648
abbrev r64 (x : Int) : Prop := -9223372036854775808 ≤ x ∧ x < 9223372036854775808
theorem iz_toInt {x : Int} (h : r32 x) : (iz x).toInt = x := Int32.toInt_ofInt_of_le (by have := h.1; omega) (by have := h.2; omega)
theorem lz_toInt {x : Int} (h : r64 x) : (lz x).toInt = x := Int64.toInt_ofInt_of_le (by have := h.1; omega) (by have := h.2; omega)
theorem iz_bmod (x : Int) : (iz x).toInt = x.bmod 4294967296 := Int32.toInt_ofInt
theorem lz_bmod (x : Int) : (lz x).toInt = x.bmod 18446744073709551616 := Int64.toInt_ofInt
theorem iz_of (y : Int32) : iz y.toInt = y := Int32.ofInt_toInt y
theorem lz_of (y : Int64) : lz y.toInt = y := Int64.ofInt_toInt y
theorem iz_rng (y : Int32) : r32 y.toInt := ⟨Int32.le_toInt y, Int32.toInt_lt y⟩
theorem lz_rng (y : Int64) : r64 y.toInt := ⟨Int64.le_toInt y, Int64.toInt_lt y⟩
theorem iz_add (x y : Int) : iz x + iz y = iz (x + y) := (Int32.ofInt_add x y).symm
theorem iz_sub (x y : Int) : iz x - iz y = iz (x - y) := (Int32.ofInt_sub x y).symm
theorem iz_mul (x y : Int) : iz x * iz y = iz (x * y) := (Int32.ofInt_mul x y).symm
theorem iz_neg (x : Int) : -iz x = iz (-x) := (Int32.ofInt_neg x).symm
theorem lz_add (x y : Int) : lz x + lz y = lz (x + y) := (Int64.ofInt_add x y).symm
theorem lz_sub (x y : Int) : lz x - lz y = lz (x - y) := (Int64.ofInt_sub x y).symm
theorem lz_mul (x y : Int) : lz x * lz y = lz (x * y) := (Int64.ofInt_mul x y).symm
theorem lz_neg (x : Int) : -lz x = lz (-x) := (Int64.ofInt_neg x).symm
theorem iz_lt {x y : Int} (hx : r32 x) (hy : r32 y) : iz x < iz y ↔ x < y := by rw [Int32.lt_iff_toInt_lt, iz_toInt hx, iz_toInt hy]
theorem iz_le {x y : Int} (hx : r32 x) (hy : r32 y) : iz x ≤ iz y ↔ x ≤ y := by rw [Int32.le_iff_toInt_le, iz_toInt hx, iz_toInt hy]
theorem iz_eq {x y : Int} (hx : r32 x) (hy : r32 y) : iz x = iz y ↔ x = y := by rw [← Int32.toInt_inj, iz_toInt hx, iz_toInt hy]
theorem lz_lt {x y : Int} (hx : r64 x) (hy : r64 y) : lz x < lz y ↔ x < y := by rw [Int64.lt_iff_toInt_lt, lz_toInt hx, lz_toInt hy]
theorem lz_eq {x y : Int} (hx : r64 x) (hy : r64 y) : lz x = lz y ↔ x = y := by rw [← Int64.toInt_inj, lz_toInt hx, lz_toInt hy]
theorem iz_0 : iz 0 = 0 := rfl
theorem lz_0 : lz 0 = 0 := rfl
theorem r32_0 : r32 0 := ⟨by decide, by decide⟩
theorem iz_i2l {x : Int} (hx : r32 x) : (iz x).toInt64 = lz x := by
  rw [← Int64.toInt_inj, Int32.toInt_toInt64, iz_toInt hx, lz_toInt ⟨by have := hx.1; omega, by have := hx.2; omega⟩]
theorem lz_l2i (x : Int) : (lz x).toInt32 = iz x := by
  rw [← Int32.toInt_inj, Int64.toInt_toInt32, lz_bmod, iz_bmod]
  exact Int.bmod_bmod_of_dvd (by decide)
theorem iz_in {x : Int} {n : Nat} (h0 : 0 ≤ x) (h1 : x < n) (hx : r32 x) : vp_in (iz x) n := by rw [vp_in_iff, iz_toInt hx]; exact ⟨h0, h1⟩
theorem iz_clamp {x : Int} (hx : r32 x) : (iz x).toNatClampNeg = x.toNat := by rw [Int32.toNatClampNeg, iz_toInt hx]
theorem z_tdiv_b {x y : Int} : (x.tdiv y).natAbs ≤ x.natAbs := by
  rw [Int.natAbs_tdiv]
  exact Nat.div_le_self _ _
theorem lz_div {x y : Int} (hx : r64 x) (hy : r64 y) : lz x / lz y = lz (x.tdiv y) := by
  rw [← Int64.toInt_inj, Int64.toInt_div, lz_toInt hx, lz_toInt hy, lz_bmod]
theorem iz_div {x y : Int} (hx : r32 x) (hy : r32 y) : iz x / iz y = iz (x.tdiv y) := by
  rw [← Int32.toInt_inj, Int32.toInt_div, iz_toInt hx, iz_toInt hy, iz_bmod]
theorem lz_rem {x y : Int} (hx : r64 x) (hy : r64 y) : lz x - lz x / lz y * lz y = lz (x.tmod y) := by
  rw [lz_div hx hy, lz_mul, lz_sub]
  congr 1
  have := Int.tmod_def x y
  rw [this, Int.mul_comm]
theorem iz_rem {x y : Int} (hx : r32 x) (hy : r32 y) : iz x - iz x / iz y * iz y = iz (x.tmod y) := by
  rw [iz_div hx hy, iz_mul, iz_sub]
  congr 1
  have := Int.tmod_def x y
  rw [this, Int.mul_comm]
theorem lz_cmp {x y : Int} (hx : r64 x) (hy : r64 y) : lg_cmp (lz x) (lz y) = iz (if y < x then 1 else if x = y then 0 else -1) := by
  unfold lg_cmp
  simp only [gt_iff_lt, lz_lt hy hx, lz_eq hx hy]
  repeat' split
  all_goals rfl
theorem z_2p (k : Nat) : (0 : Int) < 2 ^ k := Int.pow_pos (by decide)
theorem z_emm (a b m : Int) : (a % m) * b % m = a * b % m := by
  rw [Int.mul_emod, Int.emod_emod_of_dvd a (Int.dvd_refl m), ← Int.mul_emod]
theorem z_bv (x : Int) : (iz x).toBitVec = BitVec.ofInt 32 x := rfl
theorem z_bvl (x : Int) : (lz x).toBitVec = BitVec.ofInt 64 x := rfl
theorem iz_mask {x : Int} {k : Nat} (hk : k ≤ 30) {m : Int} (hm : m = 2 ^ k - 1) : iz x &&& iz m = iz (x % 2 ^ k) := by
  subst hm
  apply Int32.toBitVec_inj.mp
  rw [Int32.toBitVec_and, z_bv, z_bv, z_bv]
  have e : (2 : Int) ^ k - 1 = ((2 ^ k - 1 : Nat) : Int) := by
    have h1 : 1 ≤ 2 ^ k := Nat.one_le_two_pow
    rw [Int.ofNat_sub h1]; simp
  have hp : (2 : Nat) ^ k ∣ 2 ^ 32 := Nat.pow_dvd_pow 2 (by omega)
  apply BitVec.eq_of_toNat_eq
  rw [BitVec.toNat_and, BitVec.toNat_ofInt, BitVec.toNat_ofInt, BitVec.toNat_ofInt, e]
  have h2 : ((2 ^ k - 1 : Nat) : Int) % (2 ^ 32 : Nat) = ((2 ^ k - 1 : Nat) : Int) := by
    apply Int.emod_eq_of_lt (by omega)
    have : 2 ^ k ≤ 2 ^ 30 := Nat.pow_le_pow_right (by decide) hk
    omega
  rw [h2, Int.toNat_natCast, Nat.and_two_pow_sub_one_eq_mod]
  have h3 : (0 : Int) ≤ x % (2 ^ 32 : Nat) := Int.emod_nonneg _ (by decide)
  have h4 : x % (2 : Int) ^ k % ((2 ^ 32 : Nat) : Int) = x % 2 ^ k := by
    apply Int.emod_eq_of_lt (Int.emod_nonneg _ (by have := z_2p k; omega))
    have h5 := Int.emod_lt_of_pos x (z_2p k)
    have : (2 : Int) ^ k ≤ 2 ^ 30 := by
      have h := Nat.pow_le_pow_right (n := 2) (by decide) hk
      have e1 : ((2 ^ k : Nat) : Int) = 2 ^ k := by simp
      have e2 : ((2 ^ 30 : Nat) : Int) = 2 ^ 30 := by simp
      rw [← e1, ← e2]; exact Int.ofNat_le.mpr h
    have e6 : ((2 ^ 32 : Nat) : Int) = 4294967296 := by decide
    rw [e6]; omega
  rw [h4]
  apply Int.ofNat_inj.mp
  have e7 : ((2 ^ k : Nat) : Int) = 2 ^ k := by simp
  rw [Int.natCast_emod, Int.toNat_of_nonneg h3, Int.toNat_of_nonneg (Int.emod_nonneg _ (by have := z_2p k; omega)), e7]
  apply Int.emod_emod_of_dvd
  have := Int.ofNat_dvd.mpr hp
  rwa [e7] at this
theorem iz_shl {x y : Int} {k : Nat} (hk : k < 32) (hy : y = k) : iz x <<< (iz y &&& 31) = iz (x * 2 ^ k) := by
  subst hy
  apply Int32.toBitVec_inj.mp
  have e : ((iz k &&& 31).toBitVec.smod 32).toNat = k := by
    have : ∀ j : Fin 32, ((iz (j.val : Int) &&& 31).toBitVec.smod 32).toNat = j.val := by decide +kernel
    exact this ⟨k, hk⟩
  apply BitVec.eq_of_toNat_eq
  rw [pk_shl _ _ k e, z_bv, z_bv, BitVec.toNat_ofInt, BitVec.toNat_ofInt]
  have h3 : (0 : Int) ≤ x % ((2 ^ 32 : Nat) : Int) := Int.emod_nonneg _ (by decide)
  have h4 : (0 : Int) ≤ (x * 2 ^ k) % ((2 ^ 32 : Nat) : Int) := Int.emod_nonneg _ (by decide)
  apply Int.ofNat_inj.mp
  rw [Int.toNat_of_nonneg h4, Int.natCast_emod, Int.natCast_mul, Int.toNat_of_nonneg h3, Int.natCast_pow]
  exact z_emm _ _ _
theorem iz_shr {x y : Int} {k : Nat} (hk : k < 32) (hy : y = k) (hx : r32 x) : iz x >>> (iz y &&& 31) = iz (x / 2 ^ k) := by
  subst hy
  have e : ((iz k &&& 31).toBitVec.smod 32).toNat = k := by
    have : ∀ j : Fin 32, ((iz (j.val : Int) &&& 31).toBitVec.smod 32).toNat = j.val := by decide +kernel
    exact this ⟨k, hk⟩
  rw [← Int32.toInt_inj, pk_shr _ _ k e, iz_toInt hx, Int.shiftRight_eq_div_pow, iz_toInt]
  · simp
  · have h1 := z_2p k
    have a1 := hx.1
    have a2 := hx.2
    have h2 : (1 : Int) ≤ 2 ^ k := h1
    constructor
    · apply Int.le_ediv_of_mul_le h1
      have : 2147483648 * (1 : Int) ≤ 2147483648 * 2 ^ k := Int.mul_le_mul_of_nonneg_left h2 (by decide)
      omega
    · apply Int.ediv_lt_of_lt_mul h1
      have : 2147483648 * (1 : Int) ≤ 2147483648 * 2 ^ k := Int.mul_le_mul_of_nonneg_left h2 (by decide)
      omega
theorem iz_i2b (x : Int) : (iz x).toInt8.toInt32 = iz (x.bmod 256) := by
  rw [← Int32.toInt_inj, Int8.toInt_toInt32, Int32.toInt_toInt8, iz_bmod, iz_toInt]
  · exact Int.bmod_bmod_of_dvd (by decide)
  · have h1 := Int.le_bmod (x := x) (m := 256) (by decide)
    have h2 := Int.bmod_lt (x := x) (m := 256) (by decide)
    omega
theorem iz_i2s (x : Int) : (iz x).toInt16.toInt32 = iz (x.bmod 65536) := by
  rw [← Int32.toInt_inj, Int16.toInt_toInt32, Int32.toInt_toInt16, iz_bmod, iz_toInt]
  · exact Int.bmod_bmod_of_dvd (by decide)
  · have h1 := Int.le_bmod (x := x) (m := 65536) (by decide)
    have h2 := Int.bmod_lt (x := x) (m := 65536) (by decide)
    omega
theorem lz_shl32 (x : Int) : lz x <<< ((iz 32).toInt64 &&& 63) = lz (x * 4294967296) := by
  apply Int64.toBitVec_inj.mp
  rw [Int64.toBitVec_shiftLeft]
  have e : ((iz 32).toInt64 &&& 63).toBitVec.smod 64 = 32#64 := by decide +kernel
  rw [e, z_bvl, z_bvl]
  apply BitVec.eq_of_toNat_eq
  rw [BitVec.shiftLeft_eq', BitVec.toNat_shiftLeft, BitVec.toNat_ofInt, BitVec.toNat_ofInt]
  have h3 : (0 : Int) ≤ x % ((2 ^ 64 : Nat) : Int) := Int.emod_nonneg _ (by decide)
  have h4 : (0 : Int) ≤ (x * 4294967296) % ((2 ^ 64 : Nat) : Int) := Int.emod_nonneg _ (by decide)
  apply Int.ofNat_inj.mp
  rw [Int.toNat_of_nonneg h4, Nat.shiftLeft_eq, Int.natCast_emod, Int.natCast_mul, Int.toNat_of_nonneg h3]
  exact z_emm _ _ _
theorem lz_mask32 (x : Int) : lz x &&& lz 4294967295 = lz (x % 4294967296) := by
  apply Int64.toBitVec_inj.mp
  rw [Int64.toBitVec_and, z_bvl, z_bvl, z_bvl]
  apply BitVec.eq_of_toNat_eq
  rw [BitVec.toNat_and, BitVec.toNat_ofInt, BitVec.toNat_ofInt, BitVec.toNat_ofInt]
  have e : ((4294967295 : Int) % ((2 ^ 64 : Nat) : Int)).toNat = 2 ^ 32 - 1 := by decide
  rw [e, Nat.and_two_pow_sub_one_eq_mod]
  have h3 : (0 : Int) ≤ x % ((2 ^ 64 : Nat) : Int) := Int.emod_nonneg _ (by decide)
  have h4 : (0 : Int) ≤ x % 4294967296 % ((2 ^ 64 : Nat) : Int) := Int.emod_nonneg _ (by decide)
  apply Int.ofNat_inj.mp
  rw [Int.toNat_of_nonneg h4, Int.natCast_emod, Int.toNat_of_nonneg h3]
  have e2 : ((2 ^ 64 : Nat) : Int) = 18446744073709551616 := by decide
  have e3 : ((2 ^ 32 : Nat) : Int) = 4294967296 := by decide
  rw [e2, e3]
  omega
theorem lz_or32 {x y : Int} (h0 : 0 ≤ y) (h1 : y < 4294967296) : lz (x * 4294967296) ||| lz y = lz (x * 4294967296 + y) := by
  apply Int64.toBitVec_inj.mp
  rw [Int64.toBitVec_or, z_bvl, z_bvl, z_bvl]
  have e0 : BitVec.ofInt 64 (x * 4294967296 + y) = BitVec.ofInt 64 (x * 4294967296) + BitVec.ofInt 64 y := BitVec.ofInt_add _ _
  rw [e0]
  symm
  apply BitVec.add_eq_or_of_and_eq_zero
  apply BitVec.eq_of_toNat_eq
  have e2 : ((2 ^ 64 : Nat) : Int) = 18446744073709551616 := by decide
  obtain ⟨q, hq⟩ : ∃ q : Nat, (BitVec.ofInt 64 (x * 4294967296)).toNat = 2 ^ 32 * q := by
    refine ⟨(x % 4294967296).toNat, ?_⟩
    rw [BitVec.toNat_ofInt, e2]
    omega
  have hy : (BitVec.ofInt 64 y).toNat = y.toNat := by
    rw [BitVec.toNat_ofInt, e2]
    omega
  rw [BitVec.toNat_and, hq, hy, Nat.and_comm]
  show y.toNat &&& 2 ^ 32 * q = 0
  apply Nat.eq_of_testBit_eq
  intro i
  rw [Nat.testBit_and, Nat.testBit_two_pow_mul, Nat.zero_testBit]
  by_cases hi : 32 ≤ i
  · rw [Nat.testBit_lt_two_pow (show y.toNat < 2 ^ i from Nat.lt_of_lt_of_le (by omega : y.toNat < 2 ^ 32) (Nat.pow_le_pow_right (by decide) hi))]
    rfl
  · simp [hi]
theorem lz_xor {x y : Int} (hx : r64 x) (hy : r64 y) : ∃ z : Int, r64 z ∧ (z < 0 ↔ ¬ (x < 0 ↔ y < 0)) ∧ lz x ^^^ lz y = lz z := by
  refine ⟨(lz x ^^^ lz y).toInt, lz_rng _, ?_, (lz_of _).symm⟩
  have key : ∀ w : Int64, w.toInt < 0 ↔ w.toBitVec.msb = true := fun w => by
    rw [BitVec.msb_eq_toInt, decide_eq_true_iff]
    rfl
  have hx1 := key (lz x)
  have hy1 := key (lz y)
  rw [lz_toInt hx] at hx1
  rw [lz_toInt hy] at hy1
  rw [key, Int64.toBitVec_xor, BitVec.msb_xor, hx1, hy1]
  cases (lz x).toBitVec.msb <;> cases (lz y).toBitVec.msb <;> simp
theorem lz_shr63 {x : Int} (hx : r64 x) : lz x >>> ((iz 63).toInt64 &&& 63) = lz (if x < 0 then -1 else 0) := by
  have e : ((iz 63).toInt64 &&& 63).toBitVec.smod 64 = 63#64 := by decide +kernel
  rw [← Int64.toInt_inj]
  have h1 : (lz x >>> ((iz 63).toInt64 &&& 63)).toInt = x / 9223372036854775808 := by
    show (lz x >>> ((iz 63).toInt64 &&& 63)).toBitVec.toInt = _
    rw [Int64.toBitVec_shiftRight, e]
    show ((lz x).toBitVec.sshiftRight 63).toInt = _
    rw [BitVec.toInt_sshiftRight, Int.shiftRight_eq_div_pow]
    show (lz x).toInt / _ = _
    rw [lz_toInt hx]
    rfl
  rw [h1]
  have := hx.1
  have := hx.2
  by_cases h : x < 0
  · rw [if_pos h, show (lz (-1)).toInt = -1 from by decide]
    omega
  · rw [if_neg h, show (lz 0).toInt = 0 from by decide]
    omega
theorem lz_ushr63 {x : Int} (hx : r64 x) : ((lz x).toUInt64 >>> ((iz 63).toInt64.toUInt64 &&& Int64.toUInt64 63)).toInt64 = lz (if x < 0 then 1 else 0) := by
  have e : ((iz 63).toInt64.toUInt64 &&& Int64.toUInt64 63).toBitVec % 64 = 63#64 := by decide +kernel
  apply Int64.toBitVec_inj.mp
  show ((lz x).toUInt64 >>> ((iz 63).toInt64.toUInt64 &&& Int64.toUInt64 63)).toBitVec = _
  rw [UInt64.toBitVec_shiftRight, e]
  apply BitVec.eq_of_toNat_eq
  show ((lz x).toBitVec >>> 63#64).toNat = _
  rw [BitVec.ushiftRight_eq', BitVec.toNat_ushiftRight, Nat.shiftRight_eq_div_pow, z_bvl, BitVec.toNat_ofInt]
  have e2 : ((2 ^ 64 : Nat) : Int) = 18446744073709551616 := by decide
  have := hx.1
  have := hx.2
  by_cases h : x < 0
  · rw [if_pos h, show (lz 1).toBitVec.toNat = 1 from by decide]
    rw [e2, show (63#64).toNat = 63 from by decide]
    omega
  · rw [if_neg h, show (lz 0).toBitVec.toNat = 0 from by decide]
    rw [e2, show (63#64).toNat = 63 from by decide]
    omega
theorem lz_or0 (y : Int) : lz 0 ||| lz y = lz y := by
  apply Int64.toBitVec_inj.mp
  rw [Int64.toBitVec_or, show (lz 0).toBitVec = 0#64 from by decide, BitVec.zero_or]
theorem lz_orm (y : Int) : lz (-1) ||| lz y = lz (-1) := by
  apply Int64.toBitVec_inj.mp
  rw [Int64.toBitVec_or, show (lz (-1)).toBitVec = BitVec.allOnes 64 from by decide, BitVec.allOnes_or]
end
section
section ZRules
variable {X : ZS} {ρ : ZR} {M : ZT} {pc : Nat} {L st : List ZV} {n : Nat} {σ : ZM} {Q : ZV → ZM → Prop}
theorem Z_iconst {x : Int} (hd : decode M.2.1 pc = .ok (.iconst x, 1)) (k : Z X ρ M (pc + 1) L ((0, x) :: st) n σ Q) : Z X ρ M pc L st n σ Q :=
  Z_pure (fun p l e R s m args below meth c B b D cA Qf H locs cells slots ls hF hD hL kk => lv_iconst hF.1 hF.2.1 hd rfl (kk ls hL)) k
theorem Z_bipush {x : Int} (hd : decode M.2.1 pc = .ok (.bipush x, 2)) (hv : (Int8.ofInt x).toInt32 = iz x) (k : Z X ρ M (pc + 2) L ((0, x) :: st) n σ Q) : Z X ρ M pc L st n σ Q :=
  Z_pure (fun p l e R s m args below meth c B b D cA Qf H locs cells slots ls hF hD hL kk => lv_bipush hF.1 hF.2.1 hd hv (kk ls hL)) k
theorem Z_sipush {x : Int} (hd : decode M.2.1 pc = .ok (.sipush x, 3)) (hv : (Int16.ofInt x).toInt32 = iz x) (k : Z X ρ M (pc + 3) L ((0, x) :: st) n σ Q) : Z X ρ M pc L st n σ Q :=
  Z_pure (fun p l e R s m args below meth c B b D cA Qf H locs cells slots ls hF hD hL kk => lv_sipush hF.1 hF.2.1 hd hv (kk ls hL)) k
theorem Z_lconst {i : Fin 2} {x : Int} (hd : decode M.2.1 pc = .ok (.lconst i, 1)) (hv : Int64.ofNat (i : Nat) = lz x) (k : Z X ρ M (pc + 1) L ((1, x) :: st) n σ Q) : Z X ρ M pc L st n σ Q :=
  Z_pure (fun p l e R s m args below meth c B b D cA Qf H locs cells slots ls hF hD hL kk => lv_lconst hF.1 hF.2.1 hd hv (kk ls hL)) k
theorem Z_ldc {i : Nat} {x : Int} {v : Int32} (hd : decode M.2.1 pc = .ok (.ldc i, 2)) (hw : Cond.constant M.1.cls i v ∈ z_us) (hv : v = iz x) (k : Z X ρ M (pc + 2) L ((0, x) :: st) n σ Q) : Z X ρ M pc L st n σ Q :=
  Z_pure (fun p l e R s m args below meth c B b D cA Qf H locs cells slots ls hF hD hL kk => by
    subst hv
    exact lv_ldc hF.1 hF.2.1 hF.2.2.2.2.2.1 (hF.2.2.2.2.2.2.2.1 _ hw) hd (kk ls hL)) k
theorem Z_ldc2 {i : Nat} {x : Int} {v : Int64} (hd : decode M.2.1 pc = .ok (.ldc2_w i, 3)) (hw : Cond.constantLong M.1.cls i v ∈ z_us) (hv : v = lz x) (k : Z X ρ M (pc + 3) L ((1, x) :: st) n σ Q) : Z X ρ M pc L st n σ Q :=
  Z_pure (fun p l e R s m args below meth c B b D cA Qf H locs cells slots ls hF hD hL kk => by
    subst hv
    exact lv_ldc2 hF.1 hF.2.1 hF.2.2.2.2.2.1 (hF.2.2.2.2.2.2.2.1 _ hw) hd (kk ls hL)) k
theorem Z_iload_n {j : Fin 4} {x : Int} (i : Nat) (hd : decode M.2.1 pc = .ok (.iload_n j, 1)) (hi : (j : Nat) = i) (hl : L[i]? = some (0, x)) (k : Z X ρ M (pc + 1) L ((0, x) :: st) n σ Q) : Z X ρ M pc L st n σ Q :=
  Z_pure (fun p l e R s m args below meth c B b D cA Qf H locs cells slots ls hF hD hL kk => lv_iload_n hF.1 hF.2.1 hd hi (hL.2.2 i _ hl (by simp)) (kk ls hL)) k
theorem Z_iload {x : Int} {i : Nat} (hd : decode M.2.1 pc = .ok (.iload i, 2)) (hl : L[i]? = some (0, x)) (k : Z X ρ M (pc + 2) L ((0, x) :: st) n σ Q) : Z X ρ M pc L st n σ Q :=
  Z_pure (fun p l e R s m args below meth c B b D cA Qf H locs cells slots ls hF hD hL kk => lv_iload hF.1 hF.2.1 hd (hL.2.2 i _ hl (by simp)) (kk ls hL)) k
theorem Z_lload_n {j : Fin 4} {x : Int} (i : Nat) (hd : decode M.2.1 pc = .ok (.lload_n j, 1)) (hi : (j : Nat) = i) (hl : L[i]? = some (1, x)) (k : Z X ρ M (pc + 1) L ((1, x) :: st) n σ Q) : Z X ρ M pc L st n σ Q :=
  Z_pure (fun p l e R s m args below meth c B b D cA Qf H locs cells slots ls hF hD hL kk => lv_lload_n hF.1 hF.2.1 hd hi (hL.2.2 i _ hl (by simp)) (kk ls hL)) k
theorem Z_lload {x : Int} {i : Nat} (hd : decode M.2.1 pc = .ok (.lload i, 2)) (hl : L[i]? = some (1, x)) (k : Z X ρ M (pc + 2) L ((1, x) :: st) n σ Q) : Z X ρ M pc L st n σ Q :=
  Z_pure (fun p l e R s m args below meth c B b D cA Qf H locs cells slots ls hF hD hL kk => lv_lload hF.1 hF.2.1 hd (hL.2.2 i _ hl (by simp)) (kk ls hL)) k
theorem Z_aload_n {j : Fin 4} {x : Int} (i : Nat) (hd : decode M.2.1 pc = .ok (.aload_n j, 1)) (hi : (j : Nat) = i) (hl : L[i]? = some (2, x)) (k : Z X ρ M (pc + 1) L ((2, x) :: st) n σ Q) : Z X ρ M pc L st n σ Q :=
  Z_pure (fun p l e R s m args below meth c B b D cA Qf H locs cells slots ls hF hD hL kk => by
    have h := hL.2.2 i _ hl (by simp)
    have k2 := kk ls hL
    simp only [List.map_cons, z_rv2] at h k2
    cases hr : z_ref B x with
    | none => rw [hr] at h k2; exact lv_aload_nN hF.1 hF.2.1 hd hi h k2
    | some a => rw [hr] at h k2; exact lv_aload_n hF.1 hF.2.1 hd hi h k2) k
theorem Z_aload {x : Int} {i : Nat} (hd : decode M.2.1 pc = .ok (.aload i, 2)) (hl : L[i]? = some (2, x)) (k : Z X ρ M (pc + 2) L ((2, x) :: st) n σ Q) : Z X ρ M pc L st n σ Q :=
  Z_pure (fun p l e R s m args below meth c B b D cA Qf H locs cells slots ls hF hD hL kk => by
    have h := hL.2.2 i _ hl (by simp)
    have k2 := kk ls hL
    simp only [List.map_cons, z_rv2] at h k2
    cases hr : z_ref B x with
    | none => rw [hr] at h k2; exact lv_aloadN hF.1 hF.2.1 hd h k2
    | some a => rw [hr] at h k2; exact lv_aload hF.1 hF.2.1 hd h k2) k
theorem Z_xload_n {j : Fin 4} {x : Int} (i : Nat) (hd : decode M.2.1 pc = .ok (.aload_n j, 1)) (hi : (j : Nat) = i) (hl : L[i]? = some (3, x)) (k : Z X ρ M (pc + 1) L ((3, x) :: st) n σ Q) : Z X ρ M pc L st n σ Q :=
  Z_pure (fun p l e R s m args below meth c B b D cA Qf H locs cells slots ls hF hD hL kk => lv_aload_n hF.1 hF.2.1 hd hi (hL.2.2 i _ hl (by simp)) (kk ls hL)) k
/-! stores -/
def z_al (B b : Nat) (L : List ZV) : List (Nat × Value) := (List.range L.length).filterMap (fun i => match L[i]? with
  | some v => if v.1 = 9 then none else some (i, z_rv B b v)
  | none => none)
theorem z_al_mem {B b : Nat} {L : List ZV} {i : Nat} {w : Value} : (i, w) ∈ z_al B b L ↔ ∃ v, L[i]? = some v ∧ v.1 ≠ 9 ∧ w = z_rv B b v := by
  unfold z_al
  rw [List.mem_filterMap]
  constructor
  · rintro ⟨j, hj, h⟩
    cases hv : L[j]? with
    | none => rw [hv] at h; cases h
    | some v =>
      rw [hv] at h
      by_cases h9 : v.1 = 9
      · simp [h9] at h
      · simp only [h9, if_false, Option.some.injEq, Prod.mk.injEq] at h
        obtain ⟨rfl, rfl⟩ := h
        exact ⟨v, hv, h9, rfl⟩
  · rintro ⟨v, hv, h9, rfl⟩
    refine ⟨i, List.mem_range.mpr (List.getElem?_eq_some_iff.mp hv).1, ?_⟩
    rw [hv]
    simp [h9]
theorem z_loc_has {B b nL : Nat} {L : List ZV} {ls : Array Slot} : z_loc B b nL L ls ↔ lv_has ls nL (z_al B b L) := by
  constructor
  · rintro ⟨h1, h2, h3⟩
    refine ⟨h1, h2, fun q hq => ?_⟩
    obtain ⟨i, w⟩ := q
    obtain ⟨v, hv, h9, rfl⟩ := z_al_mem.mp hq
    exact h3 i v hv h9
  · rintro ⟨h1, h2, h3⟩
    exact ⟨h1, h2, fun i v hv h9 => h3 (i, z_rv B b v) (z_al_mem.mpr ⟨v, hv, h9, rfl⟩)⟩
/-- locals behind a store: a long whose second half is overwritten is gone -/
def z_set (L : List ZV) (i : Nat) (v : ZV) : List ZV := (match i with
  | 0 => L
  | j + 1 => if (L.getD j (9, 0)).1 = 1 then L.set j (9, 0) else L).set i v
theorem z_set_get {L : List ZV} {i j : Nat} {v w : ZV} (h : (z_set L i v)[j]? = some w) (h9 : w.1 ≠ 9) : (j = i ∧ w = v) ∨ (j ≠ i ∧ L[j]? = some w ∧ ¬ (j + 1 = i ∧ w.1 = 1)) := by
  unfold z_set at h
  by_cases hj : j = i
  · subst hj
    refine Or.inl ⟨rfl, ?_⟩
    rw [List.getElem?_set_self'] at h
    cases hg : (match j with | 0 => L | j + 1 => if (L.getD j (9, 0)).1 = 1 then L.set j (9, 0) else L)[j]? with
    | none => rw [hg] at h; cases h
    | some z => rw [hg] at h; simpa using h.symm
  · refine Or.inr ⟨hj, ?_⟩
    rw [List.getElem?_set_ne (fun q => hj q.symm)] at h
    cases i with
    | zero => exact ⟨h, fun q => absurd q.1 (by omega)⟩
    | succ i =>
      dsimp only at h
      by_cases hc : (L.getD i (9, 0)).1 = 1
      · rw [if_pos hc] at h
        by_cases hji : j = i
        · subst hji
          rw [List.getElem?_set_self'] at h
          cases hg : L[j]? with
          | none => rw [hg] at h; cases h
          | some z => rw [hg] at h; simp at h; rw [← h] at h9; exact absurd rfl h9
        · rw [List.getElem?_set_ne (fun q => hji q.symm)] at h
          exact ⟨h, fun q => hji (by omega)⟩
      · rw [if_neg hc] at h
        refine ⟨h, fun q => hc ?_⟩
        have : j = i := by omega
        subst this
        rw [List.getD_eq_getElem?_getD, h]
        exact q.2
theorem z_cat {B b : Nat} {v : ZV} (h : (z_rv B b v).category = 2) : v.1 = 1 := by
  obtain ⟨t, x⟩ := v
  match t, h with
  | 0, h => cases h
  | 1, h => rfl
  | 2, h =>
    rw [z_rv2] at h
    cases hr : z_ref B x <;> rw [hr] at h <;> cases h
  | t + 3, h => cases h
theorem z_store1 {B b nL : Nat} {L : List ZV} {ls' : Array Slot} {i : Nat} {v : ZV} (h : lv_has ls' nL ((i, z_rv B b v) :: (z_al B b L).filter (fun q => !(q.1 == i) && !(q.1 + 1 == i && q.2.category == 2)))) : z_loc B b nL (z_set L i v) ls' := by
  refine ⟨h.1, h.2.1, fun j w hw h9 => ?_⟩
  rcases z_set_get hw h9 with ⟨rfl, rfl⟩ | ⟨h1, h2, h3⟩
  · exact h.2.2 (j, z_rv B b w) List.mem_cons_self
  · refine h.2.2 (j, z_rv B b w) (List.mem_cons_of_mem _ (List.mem_filter.mpr ⟨z_al_mem.mpr ⟨w, h2, h9, rfl⟩, ?_⟩))
    by_cases hq : j + 1 = i
    · have hn : ¬ (z_rv B b w).category = 2 := fun q => h3 ⟨hq, z_cat q⟩
      simp [h1, hn]
    · simp [h1, hq]
theorem z_store2 {B b nL : Nat} {L : List ZV} {ls' : Array Slot} {i : Nat} {x : Int} (h : lv_has ls' nL ((i, z_rv B b (1, x)) :: (z_al B b L).filter (fun q => !(q.1 == i) && (!(q.1 == i + 1) && !(q.1 + 1 == i && q.2.category == 2))))) : z_loc B b nL ((z_set L i (1, x)).set (i + 1) (9, 0)) ls' := by
  refine ⟨h.1, h.2.1, fun j w hw h9 => ?_⟩
  have hji : j ≠ i + 1 := by
    intro q
    subst q
    rw [List.getElem?_set_self'] at hw
    cases hg : (z_set L i (1, x))[i + 1]? with
    | none => rw [hg] at hw; cases hw
    | some z => rw [hg] at hw; simp at hw; rw [← hw] at h9; exact absurd rfl h9
  rw [List.getElem?_set_ne (fun q => hji q.symm)] at hw
  rcases z_set_get hw h9 with ⟨rfl, rfl⟩ | ⟨h1, h2, h3⟩
  · exact h.2.2 (j, z_rv B b (1, x)) List.mem_cons_self
  · refine h.2.2 (j, z_rv B b w) (List.mem_cons_of_mem _ (List.mem_filter.mpr ⟨z_al_mem.mpr ⟨w, h2, h9, rfl⟩, ?_⟩))
    by_cases hq : j + 1 = i
    · have hn : ¬ (z_rv B b w).category = 2 := fun q => h3 ⟨hq, z_cat q⟩
      simp [h1, hn, hji]
    · simp [h1, hq, hji]
theorem Z_istore_n {j : Fin 4} {x : Int} {L' : List ZV} (i : Nat) (hd : decode M.2.1 pc = .ok (.istore_n j, 1)) (hi : (j : Nat) = i) (hn : i < M.2.2.1) (hL' : z_set L i (0, x) = L') (k : Z X ρ M (pc + 1) L' st n σ Q) : Z X ρ M pc L ((0, x) :: st) n σ Q :=
  Z_pure (fun p l e R s m args below meth c B b D cA Qf H locs cells slots ls hF hD hL kk => by
    subst hL'
    exact lv_istore_n hF.1 hF.2.1 hd hi (z_loc_has.mp hL) hn rfl (fun ls' h => kk ls' (z_store1 h))) k
theorem Z_istore {x : Int} {L' : List ZV} {i : Nat} (hd : decode M.2.1 pc = .ok (.istore i, 2)) (hn : i < M.2.2.1) (hL' : z_set L i (0, x) = L') (k : Z X ρ M (pc + 2) L' st n σ Q) : Z X ρ M pc L ((0, x) :: st) n σ Q :=
  Z_pure (fun p l e R s m args below meth c B b D cA Qf H locs cells slots ls hF hD hL kk => by
    subst hL'
    exact lv_istore hF.1 hF.2.1 hd (z_loc_has.mp hL) hn rfl (fun ls' h => kk ls' (z_store1 h))) k
theorem Z_lstore_n {j : Fin 4} {x : Int} {L' : List ZV} (i : Nat) (hd : decode M.2.1 pc = .ok (.lstore_n j, 1)) (hi : (j : Nat) = i) (hn : i + 1 < M.2.2.1) (hL' : (z_set L i (1, x)).set (i + 1) (9, 0) = L') (k : Z X ρ M (pc + 1) L' st n σ Q) : Z X ρ M pc L ((1, x) :: st) n σ Q :=
  Z_pure (fun p l e R s m args below meth c B b D cA Qf H locs cells slots ls hF hD hL kk => by
    subst hL'
    exact lv_lstore_n hF.1 hF.2.1 hd hi (z_loc_has.mp hL) hn rfl (fun ls' h => kk ls' (z_store2 h))) k
theorem Z_lstore {x : Int} {L' : List ZV} {i : Nat} (hd : decode M.2.1 pc = .ok (.lstore i, 2)) (hn : i + 1 < M.2.2.1) (hL' : (z_set L i (1, x)).set (i + 1) (9, 0) = L') (k : Z X ρ M (pc + 2) L' st n σ Q) : Z X ρ M pc L ((1, x) :: st) n σ Q :=
  Z_pure (fun p l e R s m args below meth c B b D cA Qf H locs cells slots ls hF hD hL kk => by
    subst hL'
    exact lv_lstore hF.1 hF.2.1 hd (z_loc_has.mp hL) hn rfl (fun ls' h => kk ls' (z_store2 h))) k
theorem Z_astore_n {j : Fin 4} {x : Int} {L' : List ZV} (i : Nat) (hd : decode M.2.1 pc = .ok (.astore_n j, 1)) (hi : (j : Nat) = i) (hn : i < M.2.2.1) (hL' : z_set L i (2, x) = L') (k : Z X ρ M (pc + 1) L' st n σ Q) : Z X ρ M pc L ((2, x) :: st) n σ Q :=
  Z_pure (fun p l e R s m args below meth c B b D cA Qf H locs cells slots ls hF hD hL kk => by
    subst hL'
    have k2 := fun ls' h => kk ls' (z_store1 (B := B) (b := b) (v := (2, x)) h)
    rw [List.map_cons, z_rv2]
    rw [z_rv2] at k2
    cases hr : z_ref B x with
    | none => rw [hr] at k2; exact lv_astore_nN hF.1 hF.2.1 hd hi (z_loc_has.mp hL) hn rfl k2
    | some a => rw [hr] at k2; exact lv_astore_n hF.1 hF.2.1 hd hi (z_loc_has.mp hL) hn rfl k2) k
theorem Z_astore {x : Int} {L' : List ZV} {i : Nat} (hd : decode M.2.1 pc = .ok (.astore i, 2)) (hn : i < M.2.2.1) (hL' : z_set L i (2, x) = L') (k : Z X ρ M (pc + 2) L' st n σ Q) : Z X ρ M pc L ((2, x) :: st) n σ Q :=
  Z_pure (fun p l e R s m args below meth c B b D cA Qf H locs cells slots ls hF hD hL kk => by
    subst hL'
    have k2 := fun ls' h => kk ls' (z_store1 (B := B) (b := b) (v := (2, x)) h)
    rw [List.map_cons, z_rv2]
    rw [z_rv2] at k2
    cases hr : z_ref B x with
    | none => rw [hr] at k2; exact lv_astoreN hF.1 hF.2.1 hd (z_loc_has.mp hL) hn rfl k2
    | some a => rw [hr] at k2; exact lv_astore hF.1 hF.2.1 hd (z_loc_has.mp hL) hn rfl k2) k
theorem Z_iinc {x d : Int} {L' : List ZV} {i : Nat} (hd : decode M.2.1 pc = .ok (.iinc i d, 3)) (hl : L[i]? = some (0, x)) (hn : i < M.2.2.1) (hL' : z_set L i (0, x + d) = L') (k : Z X ρ M (pc + 3) L' st n σ Q) : Z X ρ M pc L st n σ Q :=
  Z_pure (fun p l e R s m args below meth c B b D cA Qf H locs cells slots ls hF hD hL kk => by
    subst hL'
    obtain ⟨j, hj⟩ := List.getElem?_of_mem (z_al_mem.mpr ⟨_, hl, by simp, rfl⟩ : (i, z_rv B b (0, x)) ∈ z_al B b L)
    exact lv_iinc hF.1 hF.2.1 hd (z_loc_has.mp hL) hj (iz_add x d) hn rfl (fun ls' h => kk ls' (z_store1 (v := (0, x + d)) h))) k
end ZRules
end
section
section ZArith
variable {X : ZS} {ρ : ZR} {M : ZT} {pc : Nat} {L st : List ZV} {n : Nat} {σ : ZM} {Q : ZV → ZM → Prop}
theorem Z_iadd {x y : Int} (hd : decode M.2.1 pc = .ok (.iadd, 1))  (k : Z X ρ M (pc + 1) L ((0, x + y) :: st) n σ Q) : Z X ρ M pc L ((0, y) :: (0, x) :: st) n σ Q :=
  Z_pure (fun p l e R s m args below meth c B b D cA Qf H locs cells slots ls hF hD hL kk => by
    have k2 := kk ls hL
    simp only [List.map_cons, z_rv0] at k2 ⊢
    refine lv_iadd hF.1 hF.2.1 hd  ?_
    rw [iz_add]
    exact k2) k
theorem Z_isub {x y : Int} (hd : decode M.2.1 pc = .ok (.isub, 1))  (k : Z X ρ M (pc + 1) L ((0, x - y) :: st) n σ Q) : Z X ρ M pc L ((0, y) :: (0, x) :: st) n σ Q :=
  Z_pure (fun p l e R s m args below meth c B b D cA Qf H locs cells slots ls hF hD hL kk => by
    have k2 := kk ls hL
    simp only [List.map_cons, z_rv0] at k2 ⊢
    refine lv_isub hF.1 hF.2.1 hd  ?_
    rw [iz_sub]
    exact k2) k
theorem Z_imul {x y : Int} (hd : decode M.2.1 pc = .ok (.imul, 1))  (k : Z X ρ M (pc + 1) L ((0, x * y) :: st) n σ Q) : Z X ρ M pc L ((0, y) :: (0, x) :: st) n σ Q :=
  Z_pure (fun p l e R s m args below meth c B b D cA Qf H locs cells slots ls hF hD hL kk => by
    have k2 := kk ls hL
    simp only [List.map_cons, z_rv0] at k2 ⊢
    refine lv_imul hF.1 hF.2.1 hd  ?_
    rw [iz_mul]
    exact k2) k
theorem Z_ladd {x y : Int} (hd : decode M.2.1 pc = .ok (.ladd, 1))  (k : Z X ρ M (pc + 1) L ((1, x + y) :: st) n σ Q) : Z X ρ M pc L ((1, y) :: (1, x) :: st) n σ Q :=
  Z_pure (fun p l e R s m args below meth c B b D cA Qf H locs cells slots ls hF hD hL kk => by
    have k2 := kk ls hL
    simp only [List.map_cons, z_rv1] at k2 ⊢
    refine lv_ladd hF.1 hF.2.1 hd  ?_
    rw [lz_add]
    exact k2) k
theorem Z_lsub {x y : Int} (hd : decode M.2.1 pc = .ok (.lsub, 1))  (k : Z X ρ M (pc + 1) L ((1, x - y) :: st) n σ Q) : Z X ρ M pc L ((1, y) :: (1, x) :: st) n σ Q :=
  Z_pure (fun p l e R s m args below meth c B b D cA Qf H locs cells slots ls hF hD hL kk => by
    have k2 := kk ls hL
    simp only [List.map_cons, z_rv1] at k2 ⊢
    refine lv_lsub hF.1 hF.2.1 hd  ?_
    rw [lz_sub]
    exact k2) k
theorem Z_lmul {x y : Int} (hd : decode M.2.1 pc = .ok (.lmul, 1))  (k : Z X ρ M (pc + 1) L ((1, x * y) :: st) n σ Q) : Z X ρ M pc L ((1, y) :: (1, x) :: st) n σ Q :=
  Z_pure (fun p l e R s m args below meth c B b D cA Qf H locs cells slots ls hF hD hL kk => by
    have k2 := kk ls hL
    simp only [List.map_cons, z_rv1] at k2 ⊢
    refine lv_lmul hF.1 hF.2.1 hd  ?_
    rw [lz_mul]
    exact k2) k
theorem Z_irem {x y : Int} (hd : decode M.2.1 pc = .ok (.irem, 1)) (hx : r32 x) (hy : r32 y) (h0 : y ≠ 0) (k : Z X ρ M (pc + 1) L ((0, x.tmod y) :: st) n σ Q) : Z X ρ M pc L ((0, y) :: (0, x) :: st) n σ Q :=
  Z_pure (fun p l e R s m args below meth c B b D cA Qf H locs cells slots ls hF hD hL kk => by
    have k2 := kk ls hL
    simp only [List.map_cons, z_rv0] at k2 ⊢
    refine lv_irem hF.1 hF.2.1 hd (fun q => h0 ((iz_eq hy r32_0).mp q)) ?_
    rw [iz_rem hx hy]
    exact k2) k
theorem Z_ldiv {x y : Int} (hd : decode M.2.1 pc = .ok (.ldiv, 1)) (hx : r64 x) (hy : r64 y) (h0 : y ≠ 0) (k : Z X ρ M (pc + 1) L ((1, x.tdiv y) :: st) n σ Q) : Z X ρ M pc L ((1, y) :: (1, x) :: st) n σ Q :=
  Z_pure (fun p l e R s m args below meth c B b D cA Qf H locs cells slots ls hF hD hL kk => by
    have k2 := kk ls hL
    simp only [List.map_cons, z_rv1] at k2 ⊢
    refine lv_ldiv hF.1 hF.2.1 hd (fun q => h0 ((lz_eq hy ⟨by decide, by decide⟩).mp q)) ?_
    rw [lz_div hx hy]
    exact k2) k
theorem Z_lrem {x y : Int} (hd : decode M.2.1 pc = .ok (.lrem, 1)) (hx : r64 x) (hy : r64 y) (h0 : y ≠ 0) (k : Z X ρ M (pc + 1) L ((1, x.tmod y) :: st) n σ Q) : Z X ρ M pc L ((1, y) :: (1, x) :: st) n σ Q :=
  Z_pure (fun p l e R s m args below meth c B b D cA Qf H locs cells slots ls hF hD hL kk => by
    have k2 := kk ls hL
    simp only [List.map_cons, z_rv1] at k2 ⊢
    refine lv_lrem hF.1 hF.2.1 hd (fun q => h0 ((lz_eq hy ⟨by decide, by decide⟩).mp q)) ?_
    rw [lz_rem hx hy]
    exact k2) k
theorem Z_ineg {x : Int} (hd : decode M.2.1 pc = .ok (.ineg, 1)) (k : Z X ρ M (pc + 1) L ((0, -x) :: st) n σ Q) : Z X ρ M pc L ((0, x) :: st) n σ Q :=
  Z_pure (fun p l e R s m args below meth c B b D cA Qf H locs cells slots ls hF hD hL kk => by
    have k2 := kk ls hL
    simp only [List.map_cons, z_rv0] at k2 ⊢
    refine lv_ineg hF.1 hF.2.1 hd ?_
    rw [iz_neg]
    exact k2) k
theorem Z_lneg {x : Int} (hd : decode M.2.1 pc = .ok (.lneg, 1)) (k : Z X ρ M (pc + 1) L ((1, -x) :: st) n σ Q) : Z X ρ M pc L ((1, x) :: st) n σ Q :=
  Z_pure (fun p l e R s m args below meth c B b D cA Qf H locs cells slots ls hF hD hL kk => by
    have k2 := kk ls hL
    simp only [List.map_cons, z_rv1] at k2 ⊢
    refine lv_lneg hF.1 hF.2.1 hd ?_
    rw [lz_neg]
    exact k2) k
theorem Z_iand {x m : Int} (j : Nat) (hd : decode M.2.1 pc = .ok (.iand, 1)) (hj : j ≤ 30) (hm : m = 2 ^ j - 1) (k : Z X ρ M (pc + 1) L ((0, x % 2 ^ j) :: st) n σ Q) : Z X ρ M pc L ((0, m) :: (0, x) :: st) n σ Q :=
  Z_pure (fun p l e R s m args below meth c B b D cA Qf H locs cells slots ls hF hD hL kk => by
    have k2 := kk ls hL
    simp only [List.map_cons, z_rv0] at k2 ⊢
    refine lv_iand hF.1 hF.2.1 hd ?_
    rw [iz_mask hj hm]
    exact k2) k
theorem Z_ishl {x y : Int} (hd : decode M.2.1 pc = .ok (.ishl, 1)) (h0 : 0 ≤ y) (h1 : y < 32) (k : Z X ρ M (pc + 1) L ((0, x * 2 ^ y.toNat) :: st) n σ Q) : Z X ρ M pc L ((0, y) :: (0, x) :: st) n σ Q :=
  Z_pure (fun p l e R s m args below meth c B b D cA Qf H locs cells slots ls hF hD hL kk => by
    have k2 := kk ls hL
    simp only [List.map_cons, z_rv0] at k2 ⊢
    refine lv_ishl hF.1 hF.2.1 hd ?_
    rw [iz_shl (k := y.toNat) (by omega) (by omega)]
    exact k2) k
theorem Z_ishr {x y : Int} (hd : decode M.2.1 pc = .ok (.ishr, 1)) (h0 : 0 ≤ y) (h1 : y < 32) (hx : r32 x) (k : Z X ρ M (pc + 1) L ((0, x / 2 ^ y.toNat) :: st) n σ Q) : Z X ρ M pc L ((0, y) :: (0, x) :: st) n σ Q :=
  Z_pure (fun p l e R s m args below meth c B b D cA Qf H locs cells slots ls hF hD hL kk => by
    have k2 := kk ls hL
    simp only [List.map_cons, z_rv0] at k2 ⊢
    refine lv_ishr hF.1 hF.2.1 hd ?_
    rw [iz_shr (k := y.toNat) (by omega) (by omega) hx]
    exact k2) k
theorem Z_land {x : Int} (hd : decode M.2.1 pc = .ok (.land, 1)) (k : Z X ρ M (pc + 1) L ((1, x % 4294967296) :: st) n σ Q) : Z X ρ M pc L ((1, 4294967295) :: (1, x) :: st) n σ Q :=
  Z_pure (fun p l e R s m args below meth c B b D cA Qf H locs cells slots ls hF hD hL kk => by
    have k2 := kk ls hL
    simp only [List.map_cons, z_rv1] at k2 ⊢
    refine lv_land hF.1 hF.2.1 hd ?_
    rw [lz_mask32]
    exact k2) k
theorem Z_lor {x y : Int} (hd : decode M.2.1 pc = .ok (.lor, 1)) (h0 : 0 ≤ y) (h1 : y < 4294967296) (k : Z X ρ M (pc + 1) L ((1, x * 4294967296 + y) :: st) n σ Q) : Z X ρ M pc L ((1, y) :: (1, x * 4294967296) :: st) n σ Q :=
  Z_pure (fun p l e R s m args below meth c B b D cA Qf H locs cells slots ls hF hD hL kk => by
    have k2 := kk ls hL
    simp only [List.map_cons, z_rv1] at k2 ⊢
    refine lv_lor hF.1 hF.2.1 hd ?_
    rw [lz_or32 h0 h1]
    exact k2) k
theorem Z_lors {x y : Int} (hd : decode M.2.1 pc = .ok (.lor, 1)) (h : x = 0 ∨ x = -1) (k : Z X ρ M (pc + 1) L ((1, if x = 0 then y else -1) :: st) n σ Q) : Z X ρ M pc L ((1, y) :: (1, x) :: st) n σ Q :=
  Z_pure (fun p l e R s m args below meth c B b D cA Qf H locs cells slots ls hF hD hL kk => by
    have k2 := kk ls hL
    simp only [List.map_cons, z_rv1] at k2 ⊢
    refine lv_lor hF.1 hF.2.1 hd ?_
    rcases h with rfl | rfl
    · rw [lz_or0]; exact k2
    · rw [lz_orm]; exact k2) k
theorem Z_lxor {x y : Int} (hd : decode M.2.1 pc = .ok (.lxor, 1)) (hx : r64 x) (hy : r64 y) (k : ∀ z : Int, r64 z → (z < 0 ↔ ¬ (x < 0 ↔ y < 0)) → Z X ρ M (pc + 1) L ((1, z) :: st) n σ Q) : Z X ρ M pc L ((1, y) :: (1, x) :: st) n σ Q := by
  obtain ⟨z, h1, h2, h3⟩ := lz_xor hx hy
  exact Z_pure (fun p l e R s m args below meth c B b D cA Qf H locs cells slots ls hF hD hL kk => by
    have k2 := kk ls hL
    simp only [List.map_cons, z_rv1] at k2 ⊢
    refine lv_lxor hF.1 hF.2.1 hd ?_
    rw [h3]
    exact k2) (k z h1 h2)
theorem Z_lshl {x : Int} (hd : decode M.2.1 pc = .ok (.lshl, 1)) (k : Z X ρ M (pc + 1) L ((1, x * 4294967296) :: st) n σ Q) : Z X ρ M pc L ((0, 32) :: (1, x) :: st) n σ Q :=
  Z_pure (fun p l e R s m args below meth c B b D cA Qf H locs cells slots ls hF hD hL kk => lv_lshl hF.1 hF.2.1 hd (lz_shl32 x) (kk ls hL)) k
theorem Z_lshr {x : Int} (hd : decode M.2.1 pc = .ok (.lshr, 1)) (hx : r64 x) (k : Z X ρ M (pc + 1) L ((1, if x < 0 then -1 else 0) :: st) n σ Q) : Z X ρ M pc L ((0, 63) :: (1, x) :: st) n σ Q :=
  Z_pure (fun p l e R s m args below meth c B b D cA Qf H locs cells slots ls hF hD hL kk => lv_lshr hF.1 hF.2.1 hd (lz_shr63 hx) (kk ls hL)) k
theorem Z_lushr {x : Int} (hd : decode M.2.1 pc = .ok (.lushr, 1)) (hx : r64 x) (k : Z X ρ M (pc + 1) L ((1, if x < 0 then 1 else 0) :: st) n σ Q) : Z X ρ M pc L ((0, 63) :: (1, x) :: st) n σ Q :=
  Z_pure (fun p l e R s m args below meth c B b D cA Qf H locs cells slots ls hF hD hL kk => lv_lushr hF.1 hF.2.1 hd (lz_ushr63 hx) (kk ls hL)) k
theorem Z_i2l {x : Int} (hd : decode M.2.1 pc = .ok (.i2l, 1)) (hx : r32 x) (k : Z X ρ M (pc + 1) L ((1, x) :: st) n σ Q) : Z X ρ M pc L ((0, x) :: st) n σ Q :=
  Z_pure (fun p l e R s m args below meth c B b D cA Qf H locs cells slots ls hF hD hL kk => lv_i2l hF.1 hF.2.1 hd (iz_i2l hx) (kk ls hL)) k
theorem Z_l2i {x : Int} (hd : decode M.2.1 pc = .ok (.l2i, 1)) (k : Z X ρ M (pc + 1) L ((0, x) :: st) n σ Q) : Z X ρ M pc L ((1, x) :: st) n σ Q :=
  Z_pure (fun p l e R s m args below meth c B b D cA Qf H locs cells slots ls hF hD hL kk => lv_l2i hF.1 hF.2.1 hd (lz_l2i x) (kk ls hL)) k
theorem Z_i2b {x : Int} (hd : decode M.2.1 pc = .ok (.i2b, 1)) (k : Z X ρ M (pc + 1) L ((0, x.bmod 256) :: st) n σ Q) : Z X ρ M pc L ((0, x) :: st) n σ Q :=
  Z_pure (fun p l e R s m args below meth c B b D cA Qf H locs cells slots ls hF hD hL kk => lv_i2b hF.1 hF.2.1 hd (iz_i2b x) (kk ls hL)) k
theorem Z_i2s {x : Int} (hd : decode M.2.1 pc = .ok (.i2s, 1)) (k : Z X ρ M (pc + 1) L ((0, x.bmod 65536) :: st) n σ Q) : Z X ρ M pc L ((0, x) :: st) n σ Q :=
  Z_pure (fun p l e R s m args below meth c B b D cA Qf H locs cells slots ls hF hD hL kk => lv_i2s hF.1 hF.2.1 hd (iz_i2s x) (kk ls hL)) k
theorem Z_lcmp {x y : Int} (hd : decode M.2.1 pc = .ok (.lcmp, 1)) (hx : r64 x) (hy : r64 y) (k : Z X ρ M (pc + 1) L ((0, if y < x then 1 else if x = y then 0 else -1) :: st) n σ Q) : Z X ρ M pc L ((1, y) :: (1, x) :: st) n σ Q :=
  Z_pure (fun p l e R s m args below meth c B b D cA Qf H locs cells slots ls hF hD hL kk => by
    have k2 := kk ls hL
    simp only [List.map_cons, z_rv1, z_rv0] at k2 ⊢
    refine W.lcmp hF.1 hF.2.1 hd ?_
    rw [lz_cmp hx hy]
    exact k2) k
theorem z_cat1 (B b : Nat) {v : ZV} (h : v.1 ≠ 1) : (z_rv B b v).category = 1 := by
  rcases lv_cat (z_rv B b v) with q | q
  · exact q
  · exact absurd (z_cat q) h
theorem Z_dup {v : ZV} (hd : decode M.2.1 pc = .ok (.dup, 1)) (hv : v.1 ≠ 1) (k : Z X ρ M (pc + 1) L (v :: v :: st) n σ Q) : Z X ρ M pc L (v :: st) n σ Q :=
  Z_pure (fun p l e R s m args below meth c B b D cA Qf H locs cells slots ls hF hD hL kk => lv_dup hF.1 hF.2.1 hd (z_cat1 B b hv) (kk ls hL)) k
theorem Z_dup2 {v w : ZV} (hd : decode M.2.1 pc = .ok (.dup2, 1)) (hv : v.1 ≠ 1) (hw : w.1 ≠ 1) (k : Z X ρ M (pc + 1) L (v :: w :: v :: w :: st) n σ Q) : Z X ρ M pc L (v :: w :: st) n σ Q :=
  Z_pure (fun p l e R s m args below meth c B b D cA Qf H locs cells slots ls hF hD hL kk => lv_dup2_11 hF.1 hF.2.1 hd (z_cat1 B b hv) (z_cat1 B b hw) (kk ls hL)) k
theorem Z_goto {off : Int} {tgt : Nat} (hd : decode M.2.1 pc = .ok (.goto off, 3)) (ht : (pc : Int) + off = (tgt : Int)) (k : Z X ρ M tgt L st n σ Q) : Z X ρ M pc L st n σ Q :=
  Z_pure (fun p l e R s m args below meth c B b D cA Qf H locs cells slots ls hF hD hL kk => lv_goto hF.1 hF.2.1 hd ht (kk ls hL)) k
theorem Z_icmp_eq {x y off : Int} {tgt : Nat} (hd : decode M.2.1 pc = .ok (.if_icmp .eq off, 3)) (ht : (pc : Int) + off = (tgt : Int)) (hx : r32 x) (hy : r32 y) (k1 : x = y → Z X ρ M tgt L st n σ Q) (k2 : ¬ (x = y) → Z X ρ M (pc + 3) L st n σ Q) : Z X ρ M pc L ((0, y) :: (0, x) :: st) n σ Q :=
  Z_pure2 (fun p l e R s m args below meth c B b Qf H locs cells slots ls hx0 hb0 a1 a2 => lv_icmp_eq hx0 hb0 hd ht (fun h => a1 ((iz_eq hx hy).mp h)) (fun h => a2 (fun q => h ((iz_eq hx hy).mpr q)))) k1 k2
theorem Z_if_eq {x off : Int} {tgt : Nat} (hd : decode M.2.1 pc = .ok (.ifCond .eq off, 3)) (ht : (pc : Int) + off = (tgt : Int)) (hx : r32 x) (k1 : x = 0 → Z X ρ M tgt L st n σ Q) (k2 : ¬ (x = 0) → Z X ρ M (pc + 3) L st n σ Q) : Z X ρ M pc L ((0, x) :: st) n σ Q :=
  Z_pure2 (fun p l e R s m args below meth c B b Qf H locs cells slots ls hx0 hb0 a1 a2 => lv_if_eq hx0 hb0 hd ht (fun h => a1 ((iz_eq hx r32_0).mp h)) (fun h => a2 (fun q => h ((iz_eq hx r32_0).mpr q)))) k1 k2
theorem Z_icmp_ne {x y off : Int} {tgt : Nat} (hd : decode M.2.1 pc = .ok (.if_icmp .ne off, 3)) (ht : (pc : Int) + off = (tgt : Int)) (hx : r32 x) (hy : r32 y) (k1 : ¬ x = y → Z X ρ M tgt L st n σ Q) (k2 : x = y → Z X ρ M (pc + 3) L st n σ Q) : Z X ρ M pc L ((0, y) :: (0, x) :: st) n σ Q :=
  Z_pure2 (fun p l e R s m args below meth c B b Qf H locs cells slots ls hx0 hb0 a1 a2 => lv_icmp_ne hx0 hb0 hd ht (fun h => a1 (fun q => h ((iz_eq hx hy).mpr q))) (fun h => a2 ((iz_eq hx hy).mp h))) k1 k2
theorem Z_if_ne {x off : Int} {tgt : Nat} (hd : decode M.2.1 pc = .ok (.ifCond .ne off, 3)) (ht : (pc : Int) + off = (tgt : Int)) (hx : r32 x) (k1 : ¬ x = 0 → Z X ρ M tgt L st n σ Q) (k2 : x = 0 → Z X ρ M (pc + 3) L st n σ Q) : Z X ρ M pc L ((0, x) :: st) n σ Q :=
  Z_pure2 (fun p l e R s m args below meth c B b Qf H locs cells slots ls hx0 hb0 a1 a2 => lv_if_ne hx0 hb0 hd ht (fun h => a1 (fun q => h ((iz_eq hx r32_0).mpr q))) (fun h => a2 ((iz_eq hx r32_0).mp h))) k1 k2
theorem Z_icmp_lt {x y off : Int} {tgt : Nat} (hd : decode M.2.1 pc = .ok (.if_icmp .lt off, 3)) (ht : (pc : Int) + off = (tgt : Int)) (hx : r32 x) (hy : r32 y) (k1 : x < y → Z X ρ M tgt L st n σ Q) (k2 : ¬ (x < y) → Z X ρ M (pc + 3) L st n σ Q) : Z X ρ M pc L ((0, y) :: (0, x) :: st) n σ Q :=
  Z_pure2 (fun p l e R s m args below meth c B b Qf H locs cells slots ls hx0 hb0 a1 a2 => lv_icmp_lt hx0 hb0 hd ht (fun h => a1 ((iz_lt hx hy).mp h)) (fun h => a2 (fun q => h ((iz_lt hx hy).mpr q)))) k1 k2
theorem Z_if_lt {x off : Int} {tgt : Nat} (hd : decode M.2.1 pc = .ok (.ifCond .lt off, 3)) (ht : (pc : Int) + off = (tgt : Int)) (hx : r32 x) (k1 : x < 0 → Z X ρ M tgt L st n σ Q) (k2 : ¬ (x < 0) → Z X ρ M (pc + 3) L st n σ Q) : Z X ρ M pc L ((0, x) :: st) n σ Q :=
  Z_pure2 (fun p l e R s m args below meth c B b Qf H locs cells slots ls hx0 hb0 a1 a2 => lv_if_lt hx0 hb0 hd ht (fun h => a1 ((iz_lt hx r32_0).mp h)) (fun h => a2 (fun q => h ((iz_lt hx r32_0).mpr q)))) k1 k2
theorem Z_icmp_ge {x y off : Int} {tgt : Nat} (hd : decode M.2.1 pc = .ok (.if_icmp .ge off, 3)) (ht : (pc : Int) + off = (tgt : Int)) (hx : r32 x) (hy : r32 y) (k1 : y ≤ x → Z X ρ M tgt L st n σ Q) (k2 : ¬ (y ≤ x) → Z X ρ M (pc + 3) L st n σ Q) : Z X ρ M pc L ((0, y) :: (0, x) :: st) n σ Q :=
  Z_pure2 (fun p l e R s m args below meth c B b Qf H locs cells slots ls hx0 hb0 a1 a2 => lv_icmp_ge hx0 hb0 hd ht (fun h => a1 ((iz_le hy hx).mp h)) (fun h => a2 (fun q => h ((iz_le hy hx).mpr q)))) k1 k2
theorem Z_if_ge {x off : Int} {tgt : Nat} (hd : decode M.2.1 pc = .ok (.ifCond .ge off, 3)) (ht : (pc : Int) + off = (tgt : Int)) (hx : r32 x) (k1 : 0 ≤ x → Z X ρ M tgt L st n σ Q) (k2 : ¬ (0 ≤ x) → Z X ρ M (pc + 3) L st n σ Q) : Z X ρ M pc L ((0, x) :: st) n σ Q :=
  Z_pure2 (fun p l e R s m args below meth c B b Qf H locs cells slots ls hx0 hb0 a1 a2 => lv_if_ge hx0 hb0 hd ht (fun h => a1 ((iz_le r32_0 hx).mp h)) (fun h => a2 (fun q => h ((iz_le r32_0 hx).mpr q)))) k1 k2
theorem Z_icmp_gt {x y off : Int} {tgt : Nat} (hd : decode M.2.1 pc = .ok (.if_icmp .gt off, 3)) (ht : (pc : Int) + off = (tgt : Int)) (hx : r32 x) (hy : r32 y) (k1 : y < x → Z X ρ M tgt L st n σ Q) (k2 : ¬ (y < x) → Z X ρ M (pc + 3) L st n σ Q) : Z X ρ M pc L ((0, y) :: (0, x) :: st) n σ Q :=
  Z_pure2 (fun p l e R s m args below meth c B b Qf H locs cells slots ls hx0 hb0 a1 a2 => lv_icmp_gt hx0 hb0 hd ht (fun h => a1 ((iz_lt hy hx).mp h)) (fun h => a2 (fun q => h ((iz_lt hy hx).mpr q)))) k1 k2
theorem Z_if_gt {x off : Int} {tgt : Nat} (hd : decode M.2.1 pc = .ok (.ifCond .gt off, 3)) (ht : (pc : Int) + off = (tgt : Int)) (hx : r32 x) (k1 : 0 < x → Z X ρ M tgt L st n σ Q) (k2 : ¬ (0 < x) → Z X ρ M (pc + 3) L st n σ Q) : Z X ρ M pc L ((0, x) :: st) n σ Q :=
  Z_pure2 (fun p l e R s m args below meth c B b Qf H locs cells slots ls hx0 hb0 a1 a2 => lv_if_gt hx0 hb0 hd ht (fun h => a1 ((iz_lt r32_0 hx).mp h)) (fun h => a2 (fun q => h ((iz_lt r32_0 hx).mpr q)))) k1 k2
theorem Z_icmp_le {x y off : Int} {tgt : Nat} (hd : decode M.2.1 pc = .ok (.if_icmp .le off, 3)) (ht : (pc : Int) + off = (tgt : Int)) (hx : r32 x) (hy : r32 y) (k1 : x ≤ y → Z X ρ M tgt L st n σ Q) (k2 : ¬ (x ≤ y) → Z X ρ M (pc + 3) L st n σ Q) : Z X ρ M pc L ((0, y) :: (0, x) :: st) n σ Q :=
  Z_pure2 (fun p l e R s m args below meth c B b Qf H locs cells slots ls hx0 hb0 a1 a2 => lv_icmp_le hx0 hb0 hd ht (fun h => a1 ((iz_le hx hy).mp h)) (fun h => a2 (fun q => h ((iz_le hx hy).mpr q)))) k1 k2
theorem Z_if_le {x off : Int} {tgt : Nat} (hd : decode M.2.1 pc = .ok (.ifCond .le off, 3)) (ht : (pc : Int) + off = (tgt : Int)) (hx : r32 x) (k1 : x ≤ 0 → Z X ρ M tgt L st n σ Q) (k2 : ¬ (x ≤ 0) → Z X ρ M (pc + 3) L st n σ Q) : Z X ρ M pc L ((0, x) :: st) n σ Q :=
  Z_pure2 (fun p l e R s m args below meth c B b Qf H locs cells slots ls hx0 hb0 a1 a2 => lv_if_le hx0 hb0 hd ht (fun h => a1 ((iz_le hx r32_0).mp h)) (fun h => a2 (fun q => h ((iz_le hx r32_0).mpr q)))) k1 k2
theorem Z_tabIn {x dflt lo hi off : Int} {offs : Array Int} {len tgt : Nat} (hd : decode M.2.1 pc = .ok (.tableswitch dflt lo hi offs, len)) (hx : r32 x) (v : Int) (hv : x = v) (h1 : lo ≤ v) (h2 : v ≤ hi) (ho : offs[(v - lo).toNat]? = some off) (ht : (pc : Int) + off = (tgt : Int)) (k : Z X ρ M tgt L st n σ Q) : Z X ρ M pc L ((0, x) :: st) n σ Q :=
  Z_pure (fun p l e R s m args below meth c B b D cA Qf H locs cells slots ls hF hD hL kk => by
    subst hv
    exact lv_tableIn hF.1 hF.2.1 hd (by rw [iz_toInt hx]; omega) (by rw [iz_toInt hx]; omega) (by rw [iz_toInt hx]; exact ho) ht (kk ls hL)) k
theorem Z_tabOut {x dflt lo hi : Int} {offs : Array Int} {len tgt : Nat} (hd : decode M.2.1 pc = .ok (.tableswitch dflt lo hi offs, len)) (hx : r32 x) (h : x < lo ∨ hi < x) (ht : (pc : Int) + dflt = (tgt : Int)) (k : Z X ρ M tgt L st n σ Q) : Z X ρ M pc L ((0, x) :: st) n σ Q :=
  Z_pure (fun p l e R s m args below meth c B b D cA Qf H locs cells slots ls hF hD hL kk => lv_tableOut hF.1 hF.2.1 hd (by rw [iz_toInt hx]; exact h) ht (kk ls hL)) k
end ZArith
end
section
/-! memory -/
def z_up (σ : ZM) (a i x : Int) : ZM := fun a' i' => if a' = a ∧ i' = i then x else σ a' i'
def z_new (σ : ZM) (a : Int) : ZM := fun a' i' => if a' = a then 0 else σ a' i'
theorem z_up_same (σ : ZM) (a i x : Int) : z_up σ a i x a i = x := by simp [z_up]
theorem z_up_ne (σ : ZM) {a i x a' i' : Int} (h : a' ≠ a ∨ i' ≠ i) : z_up σ a i x a' i' = σ a' i' := by
  unfold z_up
  rw [if_neg]
  rintro ⟨h1, h2⟩
  rcases h with h | h
  · exact h h1
  · exact h h2
theorem z_l_len (a : Int) : (z_l a).2 ≤ 4096 := by
  unfold z_l
  have h : ∀ q ∈ z_lay, q.2 ≤ 4096 := by decide +kernel
  rw [List.getD_eq_getElem?_getD]
  cases hq : z_lay[a.toNat]? with
  | none => simp
  | some q => exact h q (List.mem_of_getElem? hq)
theorem z_l_pos {a : Int} (h : (z_l a).1 ≠ 99) : 0 < a ∧ a.toNat < z_lay.length := by
  unfold z_l at h
  rw [List.getD_eq_getElem?_getD] at h
  have h1 : a.toNat ≠ 0 := by
    intro q
    rw [q] at h
    exact h (by decide +kernel)
  refine ⟨by omega, ?_⟩
  cases hq : z_lay[a.toNat]? with
  | none => rw [hq] at h; exact absurd rfl h
  | some q => exact (List.getElem?_eq_some_iff.mp hq).1
theorem z_ws_get {B : Nat} {cA : Nat → ClassId} {σ : ZM} {n k : Nat} (h : k < n) : (z_ws B cA σ n)[k]? = some (B + (k + 1), z_cell B cA σ (k + 1)) := by
  unfold z_ws
  rw [List.getElem?_map, List.getElem?_range h]
  rfl
theorem z_ws_at {B : Nat} {cA : Nat → ClassId} {σ : ZM} {n : Nat} {a : Int} (h0 : 0 < a) (h : a.toNat ≤ n) : (z_ws B cA σ n)[a.toNat - 1]? = some (B + a.toNat, z_cell B cA σ a.toNat) := by
  rw [z_ws_get (by omega), show a.toNat - 1 + 1 = a.toNat by omega]
theorem z_ws_len {B : Nat} {cA : Nat → ClassId} {σ : ZM} {n : Nat} : (z_ws B cA σ n).length = n := by simp [z_ws]
theorem z_ws_D (B : Nat) (cA : Nat → ClassId) (σ : ZM) (n : Nat) : va_D (z_A B) (z_ws B cA σ n) := by
  have key : ∀ (k : Nat) (q : Nat × va_E), (z_ws B cA σ n)[k]? = some q → q.1 = B + (k + 1) := by
    intro k q hk
    have hl : k < n := by have := (List.getElem?_eq_some_iff.mp hk).1; rwa [z_ws_len] at this
    rw [z_ws_get hl] at hk
    cases hk
    rfl
  refine ⟨fun i j p q hp hq h => ?_, fun k q hk => ?_⟩
  · have := key i p hp
    have := key j q hq
    omega
  · show B < q.1
    have := key k q hk
    omega
theorem z_cell_far {B : Nat} {cA : Nat → ClassId} {σ τ : ZM} {a : Nat} (h : ∀ i : Int, σ a i = τ a i) : z_cell B cA σ a = z_cell B cA τ a := by
  unfold z_cell
  simp only [h]
theorem z_ws_set {B : Nat} {cA : Nat → ClassId} {σ : ZM} {n : Nat} {a i x : Int} {e : va_E} (h0 : 0 < a) (h : a.toNat ≤ n) (he : z_cell B cA (z_up σ a i x) a.toNat = e) : (z_ws B cA σ n).set (a.toNat - 1) (B + a.toNat, e) = z_ws B cA (z_up σ a i x) n := by
  apply List.ext_getElem?
  intro j
  by_cases hj : j = a.toNat - 1
  · subst hj
    rw [List.getElem?_set_self (by rw [z_ws_len]; omega), z_ws_at h0 h, he]
  · rw [List.getElem?_set_ne (fun q => hj q.symm)]
    by_cases hn : j < n
    · rw [z_ws_get hn, z_ws_get hn]
      congr 2
      apply z_cell_far
      intro k
      rw [z_up_ne]
      exact Or.inl (by omega)
    · rw [List.getElem?_eq_none (by rw [z_ws_len]; omega), List.getElem?_eq_none (by rw [z_ws_len]; omega)]
theorem z_cell_obj {B : Nat} {cA : Nat → ClassId} {σ : ZM} {a : Nat} {ci N : Nat} (h : z_l a = (ci, N)) (hc : ci < 20) : z_cell B cA σ a = .inr (ci, (List.range N).map (fun i => z_rv B 0 (z_ft ci i, σ a i))) := by
  unfold z_cell
  rw [h]
  dsimp only
  split <;> first | omega | rfl
theorem z_cell_i {B : Nat} {cA : Nat → ClassId} {σ : ZM} {a N : Nat} (h : z_l a = (20, N)) : z_cell B cA σ a = .inl (cA 0, N, .inl (fun j => iz (σ a j))) := by
  unfold z_cell
  rw [h]
  rfl
theorem z_cell_l {B : Nat} {cA : Nat → ClassId} {σ : ZM} {a N : Nat} (h : z_l a = (21, N)) : z_cell B cA σ a = .inl (cA 1, N, .inr (.inl (fun j => lz (σ a j)))) := by
  unfold z_cell
  rw [h]
  rfl
theorem z_cell_z {B : Nat} {cA : Nat → ClassId} {σ : ZM} {a N : Nat} (h : z_l a = (22, N)) : z_cell B cA σ a = .inl (cA 2, N, .inl (fun j => iz (σ a j))) := by
  unfold z_cell
  rw [h]
  rfl
theorem z_cell_r {B : Nat} {cA : Nat → ClassId} {σ : ZM} {a N : Nat} (h : z_l a = (23, N)) : z_cell B cA σ a = .inl (cA 3, N, .inr (.inr (.inr (.inr (fun j => z_ref B (σ a j)))))) := by
  unfold z_cell
  rw [h]
  rfl
theorem z_toNat {a : Int} (h : 0 < a) : ((a.toNat : Nat) : Int) = a := by omega
theorem z_refp {B : Nat} {a : Int} (h : 0 < a) : z_ref B a = some (B + a.toNat) := by
  unfold z_ref
  rw [if_neg (by omega)]
theorem z_ft_lt (ci k : Nat) : z_ft ci k < 3 := by
  unfold z_ft
  have hall : ∀ l ∈ z_ftl, ∀ x ∈ l, x < 3 := by decide +kernel
  rw [List.getD_eq_getElem?_getD, List.getD_eq_getElem?_getD]
  cases hl : z_ftl[ci]? with
  | none => simp
  | some l =>
    simp only [Option.getD_some]
    cases hx : l[k]? with
    | none => simp
    | some x => exact hall l (List.mem_of_getElem? hl) x (List.mem_of_getElem? hx)
theorem z_rv_b {B b b' t : Nat} {x : Int} (h : t < 3) : z_rv B b (t, x) = z_rv B b' (t, x) := by
  match t, h with
  | 0, _ => rfl
  | 1, _ => rfl
  | 2, _ => rfl
section ZHeap
variable {X : ZS} {ρ : ZR} {M : ZT} {pc : Nat} {L st : List ZV} {n : Nat} {σ : ZM} {Q : ZV → ZM → Prop}
/-- the link of a field: the class's own, or a nest mate's -/
def z_fl (M : ZT) (idx : Nat) (T : u_T) (k : Nat) : Prop := Cond.fieldLink M.1.cls idx (T k).1 (T k).2.1 (T k).2.2.1 ∈ z_us ∨ ∃ host, Cond.fieldLinkNest M.1.cls idx (T k).1 (T k).2.1 (T k).2.2.1 host ∈ z_us
theorem Z_get {C : String} {T : u_T} {N ci idx t : Nat} {a : Int} (k : Nat) (hd : decode M.2.1 pc = .ok (.getfield idx, 3)) (hl : z_l a = (ci, N)) (han : a.toNat ≤ n) (hc : vwCl[ci]? = some (C, T, N)) (hci : ci < 20) (hin : ∀ w ∈ u_ws C T N, w ∈ z_us) (hk : k < N) (hw : z_fl M idx T k) (ht : z_ft ci k = t) (kk : Z X ρ M (pc + 3) L ((t, σ a k) :: st) n σ Q) : Z X ρ M pc L ((2, a) :: st) n σ Q := by
  subst ht
  have hp : 0 < a := (z_l_pos (by rw [hl]; show ci ≠ 99; omega)).1
  refine Z_pure (fun p l e R s m args below meth c B b D cA Qf H locs cells slots ls hF hD hL kk => ?_) kk
  have k2 := kk ls hL
  simp only [List.map_cons, z_rv2, z_refp hp] at k2 ⊢
  have he := z_ws_at (B := B) (cA := cA) (σ := σ) hp han
  rw [z_cell_obj (ci := ci) (N := N) (by rw [z_toNat hp]; exact hl) hci] at he
  have hv : ((List.range N).map (fun i => z_rv B 0 (z_ft ci i, σ (a.toNat : Int) (i : Int))))[k]? = some (z_rv B 0 (z_ft ci k, σ a k)) := by
    rw [List.getElem?_map, List.getElem?_range hk, z_toNat hp]
    rfl
  have hb : z_rv B b (z_ft ci k, σ a k) = z_rv B 0 (z_ft ci k, σ a k) := z_rv_b (z_ft_lt ci k)
  rw [hb] at k2
  rcases hw with hw | ⟨host, hw⟩
  · exact va_get hF.1 hF.2.1 hF.2.2.2.2.2.2.2.1 hin hF.2.2.2.2.2.1 hF.2.2.2.2.2.2.2.2.1 hD.1 _ he hc k hk (hF.2.2.2.2.2.2.2.1 _ hw) (fun _ h => h) hv hd k2
  · exact va_getN hF.1 hF.2.1 hF.2.2.2.2.2.2.2.1 hin hF.2.2.2.2.2.1 hF.2.2.2.2.2.2.2.2.1 hD.1 _ he hc k hk (hF.2.2.2.2.2.2.2.1 _ hw) (fun _ h => h) hv hd k2
/-- what a put needs of the value: it is what a field of that type keeps -/
def z_nf (ty : FieldType) (v : ZV) : Prop := ∀ B b : Nat, narrow ty (z_rv B b v) = z_rv B b v ∧ fits ty (z_rv B b v) = true
theorem z_nf_i (x : Int) : z_nf .int (0, x) := fun B b => ⟨rfl, rfl⟩
theorem z_nf_l (x : Int) : z_nf .long (1, x) := fun B b => ⟨rfl, rfl⟩
theorem z_nf_z {x : Int} (h : x = 0 ∨ x = 1) : z_nf .boolean (0, x) := fun B b => by
  rcases h with rfl | rfl <;> exact ⟨rfl, rfl⟩
theorem z_nf_o (C : String) (x : Int) : z_nf (.object C) (2, x) := fun B b => by
  rw [z_rv2]
  cases z_ref B x <;> exact ⟨rfl, rfl⟩
theorem z_nf_a (t : FieldType) (x : Int) : z_nf (.array t) (2, x) := fun B b => by
  rw [z_rv2]
  cases z_ref B x <;> exact ⟨rfl, rfl⟩
def z_pl (M : ZT) (idx : Nat) (T : u_T) (k : Nat) : Prop := ((T k).2.2.2 = false ∧ z_fl M idx T k) ∨ ((T k).2.2.2 = true ∧ Cond.fieldLink M.1.cls idx (T k).1 (T k).2.1 (T k).2.2.1 ∈ z_us ∧ M.1.name = "<init>" ∧ (T k).1 = M.1.cls)
theorem z_dyn_set {ρ : ZR} {σ : ZM} {D : va_G} {B : Nat} {cA : Nat → ClassId} {R : Room} {s : State} {H H1 : Heap} {locs locs1 : List Loc} {cells slots : Nat} {a i x : Int} {e : va_E} (h : z_dyn ρ n σ D B cA R s H locs cells slots) (h0 : 0 < a) (han : a.toNat ≤ n) (he : z_cell B cA (z_up σ a i x) a.toNat = e) (hP : va_P D vwCl ((z_ws B cA σ n).set (a.toNat - 1) (B + a.toNat, e)) H1) (hS : va_S (z_A B) s.heap H1 locs1) : z_dyn ρ n (z_up σ a i x) D B cA R s H1 locs1 cells slots := by
  rw [z_ws_set h0 han he] at hP
  exact ⟨hP, h.2.1, hS, h.2.2.2⟩
theorem Z_put {C : String} {T : u_T} {N ci idx t : Nat} {a x : Int} {ty : FieldType} (ty0 : Nat → FieldType) (k : Nat) (hd : decode M.2.1 pc = .ok (.putfield idx, 3)) (hl : z_l a = (ci, N)) (han : a.toNat ≤ n) (hc : vwCl[ci]? = some (C, T, N)) (hci : ci < 20) (hin : ∀ w ∈ u_ws C T N, w ∈ z_us) (hk : k < N) (hw : z_pl M idx T k) (ht : z_ft ci k = t) (hty : ∀ k, k < N → parseFieldDescriptor (T k).2.2.1 = some (ty0 k)) (hnm : ∀ a, a < N → ∀ b, b < N → a ≠ b → (T a).2.1 ≠ (T b).2.1) (hty1 : ty0 k = ty) (hnf : z_nf ty (t, x)) (kk : Z X ρ M (pc + 3) L st n (z_up σ a k x) Q) : Z X ρ M pc L ((t, x) :: (2, a) :: st) n σ Q := by
  subst ht
  subst hty1
  have hp : 0 < a := (z_l_pos (by rw [hl]; show ci ≠ 99; omega)).1
  intro p l e R s m args below meth c B b D cA Qf hF hE H locs cells slots ls hD hL
  simp only [List.map_cons, z_rv2, z_refp hp]
  have he := z_ws_at (B := B) (cA := cA) (σ := σ) hp han
  rw [z_cell_obj (ci := ci) (N := N) (by rw [z_toNat hp]; exact hl) hci] at he
  have hb : z_rv B b (z_ft ci k, x) = z_rv B 0 (z_ft ci k, x) := z_rv_b (z_ft_lt ci k)
  have hfin : ∀ (H1 : Heap) (locs1 : List Loc), va_P D vwCl ((z_ws B cA σ n).set (a.toNat - 1) (B + a.toNat, .inr (ci, ((List.range N).map (fun i => z_rv B 0 (z_ft ci i, σ (a.toNat : Int) (i : Int)))).set k (z_rv B b (z_ft ci k, x))))) H1 → va_S (z_A B) s.heap H1 locs1 → W p l e R s m args below meth c H1 locs1 cells slots Qf (F0 m (pc + 3) ls (st.map (z_rv B b))) := by
    intro H1 locs1 hP1 hS1
    refine kk p l e R s m args below meth c B b D cA Qf hF hE H1 locs1 cells slots ls (z_dyn_set hD hp han ?_ hP1 hS1) hL
    rw [z_cell_obj (ci := ci) (N := N) (by rw [z_toNat hp]; exact hl) hci]
    congr 2
    apply List.ext_getElem?
    intro j
    rw [hb]
    by_cases hj : j = k
    · subst hj
      rw [List.getElem?_set_self (by simpa using hk), List.getElem?_map, List.getElem?_range hk, z_toNat hp]
      simp [z_up_same]
    · rw [List.getElem?_set_ne (fun q => hj q.symm), List.getElem?_map, List.getElem?_map, z_toNat hp]
      by_cases hjn : j < N
      · rw [List.getElem?_range hjn]
        simp only [Option.map_some]
        rw [z_up_ne]
        exact Or.inr (by omega)
      · rw [List.getElem?_eq_none (by simpa using hjn)]
        rfl
  have hlen : k < ((List.range N).map (fun i => z_rv B 0 (z_ft ci i, σ (a.toNat : Int) (i : Int)))).length := by simpa using hk
  rcases hw with ⟨hf, hw | ⟨host, hw⟩⟩ | ⟨hf, hw, hi, ho⟩
  · exact va_put hF.1 hF.2.1 hF.2.2.2.2.2.2.2.1 hin ty0 hty hnm hF.2.2.2.2.2.1 hF.2.2.2.2.2.2.2.2.1 hD.1 (z_ws_D B cA σ n) hD.2.2.1 _ he hc k hk (hF.2.2.2.2.2.2.2.1 _ hw) (fun _ h => h) hf (hty k hk) (hnf B b).1 (hnf B b).2 hlen hd (fun H1 locs1 hP1 _ hS1 => hfin H1 locs1 hP1 hS1)
  · exact va_putN hF.1 hF.2.1 hF.2.2.2.2.2.2.2.1 hin ty0 hty hnm hF.2.2.2.2.2.1 hF.2.2.2.2.2.2.2.2.1 hD.1 (z_ws_D B cA σ n) hD.2.2.1 _ he hc k hk (hF.2.2.2.2.2.2.2.1 _ hw) (fun _ h => h) hf (hty k hk) (hnf B b).1 (hnf B b).2 hlen hd (fun H1 locs1 hP1 _ hS1 => hfin H1 locs1 hP1 hS1)
  · exact va_putF hF.1 hF.2.1 hF.2.2.2.2.2.2.2.1 hin ty0 hty hnm hF.2.2.2.2.2.1 hF.2.2.2.2.2.2.2.2.1 hD.1 (z_ws_D B cA σ n) hD.2.2.1 _ he hc k hk (hF.2.2.2.2.2.2.2.1 _ hw) (fun _ h => h) hf (hF.2.2.2.2.2.2.1.trans hi) ho (hty k hk) (hnf B b).1 (hnf B b).2 hlen hd (fun H1 locs1 hP1 _ hS1 => hfin H1 locs1 hP1 hS1)
theorem z_idx {i : Int} {a : Int} {k N : Nat} (hl : z_l a = (k, N)) (h0 : 0 ≤ i) (h1 : i < N) : r32 i := by
  have := z_l_len a
  rw [hl] at this
  dsimp only at this
  constructor <;> omega
theorem Z_iald {a i : Int} {N : Nat} (hd : decode M.2.1 pc = .ok (.iaload, 1)) (hl : z_l a = (20, N)) (han : a.toNat ≤ n) (h0 : 0 ≤ i) (h1 : i < N) (kk : Z X ρ M (pc + 1) L ((0, σ a i) :: st) n σ Q) : Z X ρ M pc L ((0, i) :: (2, a) :: st) n σ Q := by
  have hp : 0 < a := (z_l_pos (by rw [hl]; simp)).1
  have hr := z_idx hl h0 h1
  refine Z_pure (fun p l e R s m args below meth c B b D cA Qf H locs cells slots ls hF hD hL kk => ?_) kk
  have k2 := kk ls hL
  simp only [List.map_cons, z_rv2, z_rv0, z_refp hp] at k2 ⊢
  have he := z_ws_at (B := B) (cA := cA) (σ := σ) hp han
  rw [z_cell_i (by rw [z_toNat hp]; exact hl)] at he
  refine va_iald hF.1 hF.2.1 hF.2.2.2.2.2.2.2.2.1 hD.1 _ 0 he rfl (iz_in h0 h1 hr) hd ?_
  rw [iz_clamp hr, z_toNat hp, Int.toNat_of_nonneg h0]
  exact k2
theorem Z_lald {a i : Int} {N : Nat} (hd : decode M.2.1 pc = .ok (.laload, 1)) (hl : z_l a = (21, N)) (han : a.toNat ≤ n) (h0 : 0 ≤ i) (h1 : i < N) (kk : Z X ρ M (pc + 1) L ((1, σ a i) :: st) n σ Q) : Z X ρ M pc L ((0, i) :: (2, a) :: st) n σ Q := by
  have hp : 0 < a := (z_l_pos (by rw [hl]; simp)).1
  have hr := z_idx hl h0 h1
  refine Z_pure (fun p l e R s m args below meth c B b D cA Qf H locs cells slots ls hF hD hL kk => ?_) kk
  have k2 := kk ls hL
  simp only [List.map_cons, z_rv2, z_rv1, z_rv0, z_refp hp] at k2 ⊢
  have he := z_ws_at (B := B) (cA := cA) (σ := σ) hp han
  rw [z_cell_l (by rw [z_toNat hp]; exact hl)] at he
  refine va_lald hF.1 hF.2.1 hF.2.2.2.2.2.2.2.2.1 hD.1 _ 1 he rfl (iz_in h0 h1 hr) hd ?_
  rw [iz_clamp hr, z_toNat hp, Int.toNat_of_nonneg h0]
  exact k2
theorem Z_zald {a i : Int} {N : Nat} (hd : decode M.2.1 pc = .ok (.baload, 1)) (hl : z_l a = (22, N)) (han : a.toNat ≤ n) (h0 : 0 ≤ i) (h1 : i < N) (kk : Z X ρ M (pc + 1) L ((0, σ a i) :: st) n σ Q) : Z X ρ M pc L ((0, i) :: (2, a) :: st) n σ Q := by
  have hp : 0 < a := (z_l_pos (by rw [hl]; simp)).1
  have hr := z_idx hl h0 h1
  refine Z_pure (fun p l e R s m args below meth c B b D cA Qf H locs cells slots ls hF hD hL kk => ?_) kk
  have k2 := kk ls hL
  simp only [List.map_cons, z_rv2, z_rv0, z_refp hp] at k2 ⊢
  have he := z_ws_at (B := B) (cA := cA) (σ := σ) hp han
  rw [z_cell_z (by rw [z_toNat hp]; exact hl)] at he
  refine va_zald hF.1 hF.2.1 hF.2.2.2.2.2.2.2.2.1 hD.1 _ 2 he rfl (iz_in h0 h1 hr) hd ?_
  rw [iz_clamp hr, z_toNat hp, Int.toNat_of_nonneg h0]
  exact k2
theorem Z_aald {a i : Int} {N : Nat} (hd : decode M.2.1 pc = .ok (.aaload, 1)) (hl : z_l a = (23, N)) (han : a.toNat ≤ n) (h0 : 0 ≤ i) (h1 : i < N) (kk : Z X ρ M (pc + 1) L ((2, σ a i) :: st) n σ Q) : Z X ρ M pc L ((0, i) :: (2, a) :: st) n σ Q := by
  have hp : 0 < a := (z_l_pos (by rw [hl]; simp)).1
  have hr := z_idx hl h0 h1
  refine Z_pure (fun p l e R s m args below meth c B b D cA Qf H locs cells slots ls hF hD hL kk => ?_) kk
  have k2 := kk ls hL
  simp only [List.map_cons, z_rv2, z_rv0, z_refp hp] at k2 ⊢
  have he := z_ws_at (B := B) (cA := cA) (σ := σ) hp han
  rw [z_cell_r (by rw [z_toNat hp]; exact hl)] at he
  refine va_aldq hF.1 hF.2.1 hF.2.2.2.2.2.2.2.2.1 hD.1 _ 3 he rfl (iz_in h0 h1 hr) hd ?_
  rw [iz_clamp hr, z_toNat hp, Int.toNat_of_nonneg h0]
  exact k2
theorem Z_alen {a : Int} {k N : Nat} (hd : decode M.2.1 pc = .ok (.arraylength, 1)) (hl : z_l a = (k, N)) (hk : k = 20 ∨ k = 23) (han : a.toNat ≤ n) (kk : Z X ρ M (pc + 1) L ((0, (N : Int)) :: st) n σ Q) : Z X ρ M pc L ((2, a) :: st) n σ Q := by
  have hp : 0 < a := (z_l_pos (by rw [hl]; rcases hk with rfl | rfl <;> simp)).1
  refine Z_pure (fun p l e R s m args below meth c B b D cA Qf H locs cells slots ls hF hD hL kk => ?_) kk
  have k2 := kk ls hL
  simp only [List.map_cons, z_rv2, z_rv0, z_refp hp] at k2 ⊢
  have he := z_ws_at (B := B) (cA := cA) (σ := σ) hp han
  rcases hk with rfl | rfl
  · rw [z_cell_i (by rw [z_toNat hp]; exact hl)] at he
    exact va_alen hF.1 hF.2.1 hF.2.2.2.2.2.2.2.2.1 hD.1 _ 0 he rfl rfl hd k2
  · rw [z_cell_r (by rw [z_toNat hp]; exact hl)] at he
    exact va_alen hF.1 hF.2.1 hF.2.2.2.2.2.2.2.2.1 hD.1 _ 3 he rfl rfl hd k2
theorem Z_iast {a i x : Int} {N : Nat} (hd : decode M.2.1 pc = .ok (.iastore, 1)) (hl : z_l a = (20, N)) (han : a.toNat ≤ n) (h0 : 0 ≤ i) (h1 : i < N) (kk : Z X ρ M (pc + 1) L st n (z_up σ a i x) Q) : Z X ρ M pc L ((0, x) :: (0, i) :: (2, a) :: st) n σ Q := by
  have hp : 0 < a := (z_l_pos (by rw [hl]; simp)).1
  have hr := z_idx hl h0 h1
  intro p l e R s m args below meth c B b D cA Qf hF hE H locs cells slots ls hD hL
  simp only [List.map_cons, z_rv2, z_rv0, z_refp hp]
  have he := z_ws_at (B := B) (cA := cA) (σ := σ) hp han
  rw [z_cell_i (by rw [z_toNat hp]; exact hl)] at he
  refine va_iast hF.1 hF.2.1 hF.2.2.2.2.2.2.2.2.1 hD.1 (z_ws_D B cA σ n) hD.2.2.1 _ 0 he rfl (iz_in h0 h1 hr) hd (fun H1 locs1 hP1 _ hS1 => ?_)
  refine kk p l e R s m args below meth c B b D cA Qf hF hE H1 locs1 cells slots ls (z_dyn_set hD hp han ?_ hP1 hS1) hL
  rw [z_cell_i (by rw [z_toNat hp]; exact hl), iz_clamp hr, z_toNat hp]
  congr 4
  funext j
  unfold upd z_up
  by_cases hj : j = i.toNat
  · rw [if_pos hj, if_pos ⟨rfl, by omega⟩]
  · rw [if_neg hj, if_neg (fun q => hj (by omega))]
theorem Z_last {a i x : Int} {N : Nat} (hd : decode M.2.1 pc = .ok (.lastore, 1)) (hl : z_l a = (21, N)) (han : a.toNat ≤ n) (h0 : 0 ≤ i) (h1 : i < N) (kk : Z X ρ M (pc + 1) L st n (z_up σ a i x) Q) : Z X ρ M pc L ((1, x) :: (0, i) :: (2, a) :: st) n σ Q := by
  have hp : 0 < a := (z_l_pos (by rw [hl]; simp)).1
  have hr := z_idx hl h0 h1
  intro p l e R s m args below meth c B b D cA Qf hF hE H locs cells slots ls hD hL
  simp only [List.map_cons, z_rv2, z_rv0, z_rv1, z_refp hp]
  have he := z_ws_at (B := B) (cA := cA) (σ := σ) hp han
  rw [z_cell_l (by rw [z_toNat hp]; exact hl)] at he
  refine va_last hF.1 hF.2.1 hF.2.2.2.2.2.2.2.2.1 hD.1 (z_ws_D B cA σ n) hD.2.2.1 _ 1 he rfl (iz_in h0 h1 hr) hd (fun H1 locs1 hP1 _ hS1 => ?_)
  refine kk p l e R s m args below meth c B b D cA Qf hF hE H1 locs1 cells slots ls (z_dyn_set hD hp han ?_ hP1 hS1) hL
  rw [z_cell_l (by rw [z_toNat hp]; exact hl), iz_clamp hr, z_toNat hp]
  congr 5
  funext j
  unfold vp_updL z_up
  by_cases hj : j = i.toNat
  · rw [if_pos hj, if_pos ⟨rfl, by omega⟩]
  · rw [if_neg hj, if_neg (fun q => hj (by omega))]
theorem Z_zast {a i x : Int} {N : Nat} (hd : decode M.2.1 pc = .ok (.bastore, 1)) (hl : z_l a = (22, N)) (han : a.toNat ≤ n) (h0 : 0 ≤ i) (h1 : i < N) (hx : x = 0 ∨ x = 1) (kk : Z X ρ M (pc + 1) L st n (z_up σ a i x) Q) : Z X ρ M pc L ((0, x) :: (0, i) :: (2, a) :: st) n σ Q := by
  have hp : 0 < a := (z_l_pos (by rw [hl]; simp)).1
  have hr := z_idx hl h0 h1
  have hnar : vp_nar .boolean (iz x) = iz x := by rcases hx with rfl | rfl <;> rfl
  intro p l e R s m args below meth c B b D cA Qf hF hE H locs cells slots ls hD hL
  simp only [List.map_cons, z_rv2, z_rv0, z_refp hp]
  have he := z_ws_at (B := B) (cA := cA) (σ := σ) hp han
  rw [z_cell_z (by rw [z_toNat hp]; exact hl)] at he
  refine va_zast hF.1 hF.2.1 hF.2.2.2.2.2.2.2.2.1 hD.1 (z_ws_D B cA σ n) hD.2.2.1 _ 2 he rfl (iz_in h0 h1 hr) hd (fun H1 locs1 hP1 _ hS1 => ?_)
  rw [hnar] at hP1
  refine kk p l e R s m args below meth c B b D cA Qf hF hE H1 locs1 cells slots ls (z_dyn_set hD hp han ?_ hP1 hS1) hL
  rw [z_cell_z (by rw [z_toNat hp]; exact hl), iz_clamp hr, z_toNat hp]
  congr 4
  funext j
  unfold upd z_up
  by_cases hj : j = i.toNat
  · rw [if_pos hj, if_pos ⟨rfl, by omega⟩]
  · rw [if_neg hj, if_neg (fun q => hj (by omega))]
theorem Z_aast {a i v : Int} {N : Nat} (hd : decode M.2.1 pc = .ok (.aastore, 1)) (hl : z_l a = (23, N)) (han : a.toNat ≤ n) (h0 : 0 ≤ i) (h1 : i < N) (hv : z_l v = (9, 3)) (hvn : v.toNat ≤ n) (kk : Z X ρ M (pc + 1) L st n (z_up σ a i v) Q) : Z X ρ M pc L ((2, v) :: (0, i) :: (2, a) :: st) n σ Q := by
  have hp : 0 < a := (z_l_pos (by rw [hl]; simp)).1
  have hpv : 0 < v := (z_l_pos (by rw [hv]; simp)).1
  have hr := z_idx hl h0 h1
  intro p l e R s m args below meth c B b D cA Qf hF hE H locs cells slots ls hD hL
  simp only [List.map_cons, z_rv2, z_rv0, z_refp hp, z_refp hpv]
  have he := z_ws_at (B := B) (cA := cA) (σ := σ) hp han
  rw [z_cell_r (by rw [z_toNat hp]; exact hl)] at he
  have hev := z_ws_at (B := B) (cA := cA) (σ := σ) hpv hvn
  rw [z_cell_obj (ci := 9) (N := 3) (by rw [z_toNat hpv]; exact hv) (by decide)] at hev
  refine va_astq hF.1 hF.2.1 hF.2.2.2.2.2.2.2.2.1 hD.1 (z_ws_D B cA σ n) hD.2.2.1 _ 3 _ 9 (r := (RX9, TX9, 3)) he rfl hev rfl (iz_in h0 h1 hr) hd (fun H1 locs1 hP1 _ hS1 => ?_)
  refine kk p l e R s m args below meth c B b D cA Qf hF hE H1 locs1 cells slots ls (z_dyn_set hD hp han ?_ hP1 hS1) hL
  rw [z_cell_r (by rw [z_toNat hp]; exact hl), iz_clamp hr, z_toNat hp]
  congr 8
  funext j
  unfold va_up z_up
  by_cases hj : j = i.toNat
  · rw [if_pos hj, if_pos ⟨rfl, by omega⟩, z_refp hpv]
  · rw [if_neg hj, if_neg (fun q => hj (by omega))]
/-- the script -/
theorem Z_sld {x i : Int} (hd : decode M.2.1 pc = .ok (.iaload, 1)) (h0 : 0 ≤ i) (h1 : i < X.1) (hr : r32 i) (kk : Z X ρ M (pc + 1) L ((0, (X.2 i.toNat).toInt) :: st) n σ Q) : Z X ρ M pc L ((0, i) :: (3, x) :: st) n σ Q := by
  refine Z_pure (fun p l e R s m args below meth c B b D cA Qf H locs cells slots ls hF hD hL kk => ?_) kk
  have k2 := kk ls hL
  simp only [List.map_cons, z_rv3, z_rv0] at k2 ⊢
  have hb := hF.2.2.2.2.2.2.2.2.2.2.2.1
  have hB := hF.2.2.2.2.2.2.2.2.2.1
  refine va_sld hF.1 hF.2.1 hF.2.2.2.2.2.2.2.2.2.2.1 (Nat.lt_of_le_of_lt hb hB) (A := z_A B) (Nat.not_lt.mpr hb) hD.2.2.1 (iz_in h0 h1 hr) hd ?_
  rw [iz_clamp hr]
  rw [iz_of] at k2
  exact k2
theorem Z_slen {x : Int} (hd : decode M.2.1 pc = .ok (.arraylength, 1)) (kk : Z X ρ M (pc + 1) L ((0, (X.1 : Int)) :: st) n σ Q) : Z X ρ M pc L ((3, x) :: st) n σ Q := by
  refine Z_pure (fun p l e R s m args below meth c B b D cA Qf H locs cells slots ls hF hD hL kk => ?_) kk
  have k2 := kk ls hL
  simp only [List.map_cons, z_rv3, z_rv0] at k2 ⊢
  have hb := hF.2.2.2.2.2.2.2.2.2.2.2.1
  have hB := hF.2.2.2.2.2.2.2.2.2.1
  exact va_slen hF.1 hF.2.1 hF.2.2.2.2.2.2.2.2.2.2.1 (Nat.lt_of_le_of_lt hb hB) (A := z_A B) (Nat.not_lt.mpr hb) hD.2.2.1 hd k2
end ZHeap
end
section
theorem z_ss_succ (n : Nat) : z_ss (n + 1) = z_ss n + (z_l ((n + 1 : Nat) : Int)).2 := by
  unfold z_ss z_l
  rw [Int.toNat_natCast, List.getD_eq_getElem?_getD, List.take_add_one (i := n + 1), List.map_append, List.sum_append]
  congr 1
  cases z_lay[n + 1]? with
  | none => rfl
  | some q => simp
theorem z_ss_mono {m n : Nat} (h : m ≤ n) : z_ss m ≤ z_ss n := by
  induction n with
  | zero => rw [show m = 0 by omega]; exact Nat.le_refl _
  | succ n ih =>
    rcases Nat.lt_or_ge n m with q | q
    · rw [show m = n + 1 by omega]; exact Nat.le_refl _
    · rw [z_ss_succ]; exact Nat.le_trans (ih q) (Nat.le_add_right _ _)
theorem z_ws_succ (B : Nat) (cA : Nat → ClassId) (σ : ZM) (n : Nat) : z_ws B cA (z_new σ ((n + 1 : Nat) : Int)) (n + 1) = z_ws B cA σ n ++ [(B + (n + 1), z_cell B cA (z_new σ ((n + 1 : Nat) : Int)) (n + 1))] := by
  apply List.ext_getElem?
  intro j
  rcases Nat.lt_trichotomy j n with h | h | h
  · rw [z_ws_get (by omega), List.getElem?_append_left (by rw [z_ws_len]; exact h), z_ws_get h]
    congr 2
    apply z_cell_far
    intro i
    unfold z_new
    rw [if_neg (by omega)]
  · subst h
    rw [z_ws_get (by omega), List.getElem?_append_right (by rw [z_ws_len]; exact Nat.le_refl _), z_ws_len, Nat.sub_self]
    rfl
  · rw [List.getElem?_eq_none (by rw [z_ws_len]; omega), List.getElem?_eq_none (by rw [List.length_append, z_ws_len]; simp; omega)]
section ZAlloc
variable {X : ZS} {ρ : ZR} {M : ZT} {pc : Nat} {L st : List ZV} {n : Nat} {σ : ZM} {Q : ZV → ZM → Prop}
theorem z_size {p : Program} {l : Launch} {e : Env} {R : Room} {s : State} {m : MethodId} {args : Array Value} {below : List Frame} {meth : Method} {c : Code} {B b : Nat} {D : va_G} {cA : Nat → ClassId} {H : Heap} {locs : List Loc} {cells slots : Nat} {T : State} (hF : z_fix X ρ M p R s m args meth c B b D cA) (hD : z_dyn ρ n σ D B cA R s H locs cells slots) (hT : T.heap = H) (hX : Stand p l e R s m args below meth c T locs cells slots) : H.size = B + n + 1 := by
  have h1 : T.heap.size ≤ s.heap.size + cells := hX.same.2.2.1
  rw [hT] at h1
  have h2 := hD.2.1
  have h3 : B < s.heap.size := hF.2.2.2.2.2.2.2.2.2.1
  have h4 := hD.2.2.1.1
  rcases Nat.eq_zero_or_pos n with h | h
  · omega
  · have h5 := (hD.1 (n - 1) _ (z_ws_get (by omega))).lt
    dsimp only at h5
    omega
theorem z_sized {p : Program} {l : Launch} {e : Env} {R : Room} {s : State} {m : MethodId} {args : Array Value} {below : List Frame} {meth : Method} {c : Code} {B b : Nat} {D : va_G} {cA : Nat → ClassId} {H : Heap} {locs : List Loc} {cells slots : Nat} {Qf : State → Prop} {g : JFrame} (hF : z_fix X ρ M p R s m args meth c B b D cA) (hD : z_dyn ρ n σ D B cA R s H locs cells slots) (k : H.size = B + n + 1 → W p l e R s m args below meth c H locs cells slots Qf g) : W p l e R s m args below meth c H locs cells slots Qf g :=
  fun T hT hX => k (z_size hF hD hT hX) T hT hX
theorem z_push {R : Room} {s : State} {B : Nat} {D : va_G} {cA : Nat → ClassId} {H H1 : Heap} {locs : List Loc} {cells slots N : Nat} (hB : B < s.heap.size) (hD : z_dyn ρ n σ D B cA R s H locs cells slots) (hz : H.size = B + n + 1) (hz1 : H1.size = H.size + 1) (ho : ∀ q : Nat, q < H.size → H1[q]? = H[q]?) (hN : (z_l ((n + 1 : Nat) : Int)).2 = N) (hn : n + 1 ≤ ρ.2.2) (he : va_at D vwCl (B + (n + 1), z_cell B cA (z_new σ ((n + 1 : Nat) : Int)) (n + 1)) H1) : z_dyn ρ (n + 1) (z_new σ ((n + 1 : Nat) : Int)) D B cA R s H1 locs (cells + 1) (slots + N) := by
  obtain ⟨hP, hc, hS, hn1, hR1, hR2⟩ := hD
  refine ⟨?_, by omega, ⟨Nat.le_trans hS.1 (by omega), fun x h1 h2 => (ho x (Nat.lt_of_lt_of_le h1 hS.1)).trans (hS.2.1 x h1 h2), hS.2.2⟩, hn, by omega, ?_⟩
  · rw [z_ws_succ]
    refine (hP.kept (fun k x hx => ho x.1 ((hP k x hx).lt))).app (fun k x hx => ?_)
    have hk : k < 1 := (List.getElem?_eq_some_iff.mp hx).1
    rw [show k = 0 by omega] at hx
    cases hx
    exact he
  · have h1 := z_ss_succ n
    have h2 := z_ss_mono hn
    rw [hN] at h1
    omega
theorem z_new_0 (σ : ZM) (a i : Int) : z_new σ a a i = 0 := by simp [z_new]
theorem z_slots {R : Room} {s : State} {B : Nat} {D : va_G} {cA : Nat → ClassId} {H : Heap} {locs : List Loc} {cells slots N : Nat} (hD : z_dyn ρ n σ D B cA R s H locs cells slots) (hn : n + 1 ≤ ρ.2.2) (hN : (z_l ((n + 1 : Nat) : Int)).2 = N) : cells + 1 ≤ R.cells ∧ slots + N ≤ R.slots := by
  obtain ⟨-, -, -, -, hR1, hR2⟩ := hD
  have h1 := z_ss_succ n
  have h2 := z_ss_mono hn
  rw [hN] at h1
  omega
set_option maxHeartbeats 100000 in
theorem Z_newI {x : Int} {N : Nat} (hd : decode M.2.1 pc = .ok (.newarray .int, 2)) (hw : Cond.arrayClass .int ∈ z_us) (hl : z_l ((n + 1 : Nat) : Int) = (20, N)) (hx : x = N) (hn : n + 1 ≤ ρ.2.2) (k : Z X ρ M (pc + 2) L ((2, ((n + 1 : Nat) : Int)) :: st) (n + 1) (z_new σ ((n + 1 : Nat) : Int)) Q) : Z X ρ M pc L ((0, x) :: st) n σ Q := by
  subst hx
  have hN := z_l_len ((n + 1 : Nat) : Int)
  rw [hl] at hN
  dsimp only at hN
  intro p l e R s m args below meth c B b D cA Qf hF hE H locs cells slots ls hD hL
  refine z_sized hF hD (fun hz => ?_)
  have hr : r32 (N : Int) := by constructor <;> omega
  have hneg : ¬ iz (N : Int) < 0 := by
    rw [show (0 : Int32) = iz 0 from rfl, iz_lt hr r32_0]
    omega
  have hS := z_slots hD hn (N := N) (by rw [hl])
  refine va_newaK (atype := .int) hF.1 hF.2.1 (hF.2.2.2.2.2.2.2.1 _ hw) rfl hd rfl hneg (by rw [iz_clamp hr]; exact Int.toNat_natCast N) (by show N * 4 ≤ 536870912; omega) hS.1 hS.2 hz (fun H1 cI e1 e2 e3 e4 e5 => ?_)
  have hcI : cI = cA 0 := Option.some.inj (e5.symm.trans (hF.2.2.2.2.2.2.2.2.1.2 0 (cA 0, .int) rfl).2)
  subst hcI
  have k2 := k p l e R s m args below meth c B b D cA Qf hF hE H1 locs (cells + 1) (slots + N) ls (z_push hF.2.2.2.2.2.2.2.2.2.1 hD hz (by omega) (fun q hq => e3 q (by omega)) (by rw [hl]) hn ?_) hL
  · rw [List.map_cons, z_rv2, z_refp (by omega), Int.toNat_natCast] at k2
    exact k2
  · rw [z_cell_i hl]
    show H1[B + (n + 1)]? = some (vp_cell _ _)
    rw [vp_cell_i]
    simp only [z_new_0]
    exact e1
set_option maxHeartbeats 100000 in
theorem Z_newJ {x : Int} {N : Nat} (hd : decode M.2.1 pc = .ok (.newarray .long, 2)) (hw : Cond.arrayClass .long ∈ z_us) (hl : z_l ((n + 1 : Nat) : Int) = (21, N)) (hx : x = N) (hn : n + 1 ≤ ρ.2.2) (k : Z X ρ M (pc + 2) L ((2, ((n + 1 : Nat) : Int)) :: st) (n + 1) (z_new σ ((n + 1 : Nat) : Int)) Q) : Z X ρ M pc L ((0, x) :: st) n σ Q := by
  subst hx
  have hN := z_l_len ((n + 1 : Nat) : Int)
  rw [hl] at hN
  dsimp only at hN
  intro p l e R s m args below meth c B b D cA Qf hF hE H locs cells slots ls hD hL
  refine z_sized hF hD (fun hz => ?_)
  have hr : r32 (N : Int) := by constructor <;> omega
  have hneg : ¬ iz (N : Int) < 0 := by
    rw [show (0 : Int32) = iz 0 from rfl, iz_lt hr r32_0]
    omega
  have hS := z_slots hD hn (N := N) (by rw [hl])
  refine va_newaK (atype := .long) hF.1 hF.2.1 (hF.2.2.2.2.2.2.2.1 _ hw) rfl hd rfl hneg (by rw [iz_clamp hr]; exact Int.toNat_natCast N) (by show N * 8 ≤ 536870912; omega) hS.1 hS.2 hz (fun H1 cI e1 e2 e3 e4 e5 => ?_)
  have hcI : cI = cA 1 := Option.some.inj (e5.symm.trans (hF.2.2.2.2.2.2.2.2.1.2 1 (cA 1, .long) rfl).2)
  subst hcI
  have k2 := k p l e R s m args below meth c B b D cA Qf hF hE H1 locs (cells + 1) (slots + N) ls (z_push hF.2.2.2.2.2.2.2.2.2.1 hD hz (by omega) (fun q hq => e3 q (by omega)) (by rw [hl]) hn ?_) hL
  · rw [List.map_cons, z_rv2, z_refp (by omega), Int.toNat_natCast] at k2
    exact k2
  · rw [z_cell_l hl]
    show H1[B + (n + 1)]? = some (vp_cell _ _)
    rw [vp_cell_l]
    simp only [z_new_0]
    exact e1
set_option maxHeartbeats 100000 in
theorem Z_newZ {x : Int} {N : Nat} (hd : decode M.2.1 pc = .ok (.newarray .boolean, 2)) (hw : Cond.arrayClass .boolean ∈ z_us) (hl : z_l ((n + 1 : Nat) : Int) = (22, N)) (hx : x = N) (hn : n + 1 ≤ ρ.2.2) (k : Z X ρ M (pc + 2) L ((2, ((n + 1 : Nat) : Int)) :: st) (n + 1) (z_new σ ((n + 1 : Nat) : Int)) Q) : Z X ρ M pc L ((0, x) :: st) n σ Q := by
  subst hx
  have hN := z_l_len ((n + 1 : Nat) : Int)
  rw [hl] at hN
  dsimp only at hN
  intro p l e R s m args below meth c B b D cA Qf hF hE H locs cells slots ls hD hL
  refine z_sized hF hD (fun hz => ?_)
  have hr : r32 (N : Int) := by constructor <;> omega
  have hneg : ¬ iz (N : Int) < 0 := by
    rw [show (0 : Int32) = iz 0 from rfl, iz_lt hr r32_0]
    omega
  have hS := z_slots hD hn (N := N) (by rw [hl])
  refine va_newaK (atype := .boolean) hF.1 hF.2.1 (hF.2.2.2.2.2.2.2.1 _ hw) rfl hd rfl hneg (by rw [iz_clamp hr]; exact Int.toNat_natCast N) (by show N * 1 ≤ 536870912; omega) hS.1 hS.2 hz (fun H1 cI e1 e2 e3 e4 e5 => ?_)
  have hcI : cI = cA 2 := Option.some.inj (e5.symm.trans (hF.2.2.2.2.2.2.2.2.1.2 2 (cA 2, .boolean) rfl).2)
  subst hcI
  have k2 := k p l e R s m args below meth c B b D cA Qf hF hE H1 locs (cells + 1) (slots + N) ls (z_push hF.2.2.2.2.2.2.2.2.2.1 hD hz (by omega) (fun q hq => e3 q (by omega)) (by rw [hl]) hn ?_) hL
  · rw [List.map_cons, z_rv2, z_refp (by omega), Int.toNat_natCast] at k2
    exact k2
  · rw [z_cell_z hl]
    show H1[B + (n + 1)]? = some (vp_cell _ _)
    rw [vp_cell_i]
    simp only [z_new_0]
    exact e1
set_option maxHeartbeats 100000 in
theorem Z_newR {x : Int} {N idx : Nat} (hd : decode M.2.1 pc = .ok (.anewarray idx, 3)) (hw : Cond.arrayOver (.object RX9) ∈ z_us) (hw2 : Cond.classLink M.1.cls idx RX9 ∈ z_us) (hl : z_l ((n + 1 : Nat) : Int) = (23, N)) (hx : x = N) (hn : n + 1 ≤ ρ.2.2) (k : Z X ρ M (pc + 3) L ((2, ((n + 1 : Nat) : Int)) :: st) (n + 1) (z_new σ ((n + 1 : Nat) : Int)) Q) : Z X ρ M pc L ((0, x) :: st) n σ Q := by
  subst hx
  have hN := z_l_len ((n + 1 : Nat) : Int)
  rw [hl] at hN
  dsimp only at hN
  intro p l e R s m args below meth c B b D cA Qf hF hE H locs cells slots ls hD hL
  refine z_sized hF hD (fun hz => ?_)
  have hr : r32 (N : Int) := by constructor <;> omega
  have hneg : ¬ iz (N : Int) < 0 := by
    rw [show (0 : Int32) = iz 0 from rfl, iz_lt hr r32_0]
    omega
  have hS := z_slots hD hn (N := N) (by rw [hl])
  have hcl : (iz (N : Int)).toNatClampNeg = N := by rw [iz_clamp hr]; exact Int.toNat_natCast N
  refine W.anew hF.1 hF.2.1 hF.2.2.2.2.2.1 (hF.2.2.2.2.2.2.2.1 _ hw2) (hF.2.2.2.2.2.2.2.1 _ hw) rfl hd rfl hneg (by rw [hcl]; omega) hS.1 (by rw [hcl]; exact hS.2) (fun cI kA comp f1 f2 f3 f4 => ?_)
  rw [hcl]
  have hcI : cI = cA 3 := by
    obtain ⟨-, kB, comp', g1, g2, g3, g4⟩ := hF.2.2.2.2.2.2.2.2.1.2 3 (cA 3, .object RX9) rfl
    exact Option.some.inj (f1.symm.trans g4)
  subst hcI
  generalize hH1 : H.push ({ cls := cA 3, slots := Array.replicate N .null, vm := .none } : Cell) = H1
  have z1 : H1.size = H.size + 1 := by rw [← hH1, Array.size_push]
  have e1 : H1[H.size]? = some (arrV (cA 3) N (fun _ => .null)) := by rw [← hH1, Array.getElem?_push_size, ← arrV_new]
  have o1 : ∀ q : Nat, q < H.size → H1[q]? = H[q]? := fun q hq => by rw [← hH1, Array.getElem?_push, if_neg (Nat.ne_of_lt hq)]
  have k2 := k p l e R s m args below meth c B b D cA Qf hF hE H1 locs (cells + 1) (slots + N) ls (z_push hF.2.2.2.2.2.2.2.2.2.1 hD hz z1 o1 (by rw [hl]) hn ?_) hL
  · rw [List.map_cons, z_rv2, z_refp (by omega), Int.toNat_natCast] at k2
    rw [hz]
    exact k2
  · rw [z_cell_r hl]
    show H1[B + (n + 1)]? = some (vp_cell _ _)
    rw [vp_cell_q, show B + (n + 1) = H.size by omega, e1]
    simp only [z_new_0]
    rfl
set_option maxHeartbeats 100000 in
theorem Z_newO {C : String} {T : u_T} {N ci idx : Nat} (ty : Nat → FieldType) (hd : decode M.2.1 pc = .ok (.new idx, 3)) (hc : vwCl[ci]? = some (C, T, N)) (hci : ci < 20) (hin : ∀ w ∈ u_ws C T N, w ∈ z_us) (hty : ∀ k, k < N → parseFieldDescriptor (T k).2.2.1 = some (ty k)) (hdef : ∀ i, i < N → ∀ B : Nat, defaultValue (ty i) = z_rv B 0 (z_ft ci i, 0)) (hw1 : Cond.classLink M.1.cls idx C ∈ z_us) (hw2 : Cond.instantiable C N ∈ z_us) (hw3 : Cond.initialized C ∈ z_us) (hl : z_l ((n + 1 : Nat) : Int) = (ci, N)) (hn : n + 1 ≤ ρ.2.2) (k : Z X ρ M (pc + 3) L ((2, ((n + 1 : Nat) : Int)) :: st) (n + 1) (z_new σ ((n + 1 : Nat) : Int)) Q) : Z X ρ M pc L st n σ Q := by
  intro p l e R s m args below meth c B b D cA Qf hF hE H locs cells slots ls hD hL
  refine z_sized hF hD (fun hz => ?_)
  have hS := z_slots hD hn (N := N) (by rw [hl])
  have hKn := hF.2.2.2.2.2.2.2.2.1.1 ci _ hc
  have hts := hF.2.2.2.2.2.2.2.1
  refine W.newcK hF.1 hF.2.1 hF.2.2.2.2.2.1 (hts _ hw1) (hts _ hw2) (hts _ hw3) rfl hd hS.1 hS.2 hKn.2.1 hz (fun H1 kC hkC e1 z1 o1 => ?_)
  have k2 := k p l e R s m args below meth c B b D cA Qf hF hE H1 locs (cells + 1) (slots + N) ls (z_push hF.2.2.2.2.2.2.2.2.2.1 hD hz (by omega) (fun q hq => o1 q (by omega)) (by rw [hl]) hn ?_) hL
  · rw [List.map_cons, z_rv2, z_refp (by omega), Int.toNat_natCast] at k2
    exact k2
  · rw [z_cell_obj hl hci]
    refine ⟨_, hc, (u_born ty hts hin hKn hkC e1 hty).to (fun j hj => ?_)⟩
    rw [hdef j hj B]
    simp [vp_V, hj, z_new_0]
theorem z_cats (B b : Nat) (st : List ZV) : ((st.map (z_rv B b)).map fun v => v.category) = st.map (fun v => if v.1 = 1 then 2 else 1) := by
  rw [List.map_map]
  apply List.map_congr_left
  intro v _
  show (z_rv B b v).category = _
  by_cases h : v.1 = 1
  · rw [if_pos h]
    obtain ⟨t, x⟩ := v
    dsimp only at h
    subst h
    rfl
  · rw [if_neg h]; exact z_cat1 B b h
set_option maxHeartbeats 100000 in
theorem Z_objInit {idx : Nat} {a : Int} (hd : decode M.2.1 pc = .ok (.invokespecial idx, 3)) (ha : 0 < a) (hw : Cond.methodLink M.1.cls idx objectInit ∈ z_us) (hw2 : Cond.instanceMethod objectInit ∈ z_us) (hw3 : Cond.code objectInit ⟨#[0xb1]⟩ 1 none ∈ z_us) (hf : 1 ≤ ρ.1) (hs : (st.map (fun v => if v.1 = 1 then 2 else 1)).sum ≤ 8) (hr : 20 ≤ ρ.2.1) (k : Z X ρ M (pc + 3) L st n σ Q) : Z X ρ M pc L ((2, a) :: st) n σ Q := by
  refine Z_pure (fun p l e R s m args below meth c B b D cA Qf H locs cells slots ls hF hD hL kk => ?_) k
  have k2 := kk ls hL
  rw [List.map_cons, z_rv2, z_refp ha]
  have hts := hF.2.2.2.2.2.2.2.1
  have h8 : 2 * (F0 m pc ls (va_rf (some (B + a.toNat)) :: st.map (z_rv B b))).monitorRoom + ((st.map (z_rv B b)).map fun v => v.category).sum ≤ 8 := lv_room (by rw [z_cats]; exact hs)
  have hl2 := hF.2.2.2.2.2.2.2.2.2.2.2.2.2
  exact W.objInit hF.1 hF.2.1 hF.2.2.2.2.2.1 (hts _ hw) (hts _ hw2) (hts _ hw3) rfl (by rw [hF.2.2.2.2.1]; exact hL.1) rfl hd (Nat.le_trans hf hF.2.2.2.2.2.2.2.2.2.2.2.2.1) (by omega) k2
end ZAlloc
end
section
section ZRet
variable {X : ZS} {ρ : ZR} {M : ZT} {pc : Nat} {L st : List ZV} {n : Nat} {σ : ZM} {Q : ZV → ZM → Prop}
theorem Z_end1 {r : ZV} (h9 : r.1 ≠ 9) (hr : z_ret M pc r) (hn : n = ρ.2.2) (hq : Q r σ) : Z X ρ M pc L [r] n σ Q := by
  subst hn
  intro p l e R s m args below meth c B b D cA Qf hF hE H locs cells slots ls hD hL
  have k := hE r σ H locs cells slots ls pc hq hD hr
  unfold z_rst at k
  rw [if_neg h9] at k
  exact k
theorem Z_ireturn {x : Int} (hd : decode M.2.1 pc = .ok (.ireturn, 1)) (hr : M.2.2.2 = some .int) (hn : n = ρ.2.2) (hq : Q (0, x) σ) : Z X ρ M pc L [(0, x)] n σ Q :=
  Z_end1 (by simp) (Or.inl ⟨rfl, hd, Or.inl hr⟩) hn hq
theorem Z_zreturn {x : Int} (hd : decode M.2.1 pc = .ok (.ireturn, 1)) (hr : M.2.2.2 = some .boolean) (hx : x = 0 ∨ x = 1) (hn : n = ρ.2.2) (hq : Q (0, x) σ) : Z X ρ M pc L [(0, x)] n σ Q :=
  Z_end1 (by simp) (Or.inl ⟨rfl, hd, Or.inr ⟨hr, hx⟩⟩) hn hq
theorem Z_lreturn {x : Int} (hd : decode M.2.1 pc = .ok (.lreturn, 1)) (hr : M.2.2.2 = some .long) (hn : n = ρ.2.2) (hq : Q (1, x) σ) : Z X ρ M pc L [(1, x)] n σ Q :=
  Z_end1 (by simp) (Or.inr (Or.inl ⟨rfl, hd, hr⟩)) hn hq
theorem Z_areturn {C : String} {x : Int} (hd : decode M.2.1 pc = .ok (.areturn, 1)) (hr : M.2.2.2 = some (.object C)) (hn : n = ρ.2.2) (hq : Q (2, x) σ) : Z X ρ M pc L [(2, x)] n σ Q :=
  Z_end1 (by simp) (Or.inr (Or.inr (Or.inl ⟨rfl, hd, C, hr⟩))) hn hq
theorem Z_return (hd : decode M.2.1 pc = .ok (.return_, 1)) (hr : M.2.2.2 = none) (hn : n = ρ.2.2) (hq : Q (9, 0) σ) : Z X ρ M pc L [] n σ Q := by
  subst hn
  intro p l e R s m args below meth c B b D cA Qf hF hE H locs cells slots ls hD hL
  exact hE (9, 0) σ H locs cells slots ls pc hq hD (Or.inr (Or.inr (Or.inr ⟨rfl, hd, hr⟩)))
end ZRet
/-! calls -/
def z_sl (As : List ZV) : List ZV := As.flatMap (fun v => if v.1 = 1 then [v, (9, 0)] else [v])
def z_ent (nL : Nat) (As : List ZV) : List ZV := z_sl As ++ List.replicate (nL - (z_sl As).length) (9, 0)
theorem z_sl_len (B b : Nat) (As : List ZV) : (lg_sl (As.map (z_rv B b))).length = (z_sl As).length := by
  induction As with
  | nil => rfl
  | cons v t ih =>
    have e1 : lg_sl ((v :: t).map (z_rv B b)) = (if (z_rv B b v).category = 2 then [Slot.val (z_rv B b v), .second] else [.val (z_rv B b v)]) ++ lg_sl (t.map (z_rv B b)) := rfl
    have e2 : z_sl (v :: t) = (if v.1 = 1 then [v, (9, 0)] else [v]) ++ z_sl t := rfl
    rw [e1, e2, List.length_append, List.length_append, ih]
    congr 1
    by_cases h : v.1 = 1
    · obtain ⟨tg, x⟩ := v
      dsimp only at h
      subst h
      rfl
    · rw [if_neg h, if_neg (by rw [z_cat1 B b h]; decide)]
      rfl
theorem z_args_mem {B b : Nat} {As : List ZV} : ∀ {k i : Nat} {v : ZV}, (z_sl As)[i]? = some v → v.1 ≠ 9 → (k + i, z_rv B b v) ∈ lv_args k (As.map (z_rv B b)) := by
  induction As with
  | nil => intro k i v h; simp [z_sl] at h
  | cons w t ih =>
    intro k i v h h9
    have e2 : z_sl (w :: t) = (if w.1 = 1 then [w, (9, 0)] else [w]) ++ z_sl t := rfl
    have e1 : lv_args k ((w :: t).map (z_rv B b)) = (k, z_rv B b w) :: lv_args (if (z_rv B b w).category = 2 then k + 2 else k + 1) (t.map (z_rv B b)) := rfl
    rw [e2] at h
    rw [e1]
    by_cases hw : w.1 = 1
    · have hc : (z_rv B b w).category = 2 := by
        obtain ⟨tg, x⟩ := w
        dsimp only at hw
        subst hw
        rfl
      rw [if_pos hw] at h
      rw [if_pos hc]
      match i, h with
      | 0, h =>
        simp only [List.cons_append, List.getElem?_cons_zero, Option.some.injEq] at h
        subst h
        exact List.mem_cons_self
      | 1, h =>
        simp only [List.cons_append, List.getElem?_cons_succ, List.getElem?_cons_zero, Option.some.injEq] at h
        rw [← h] at h9
        exact absurd rfl h9
      | i + 2, h =>
        simp only [List.cons_append, List.getElem?_cons_succ, List.nil_append] at h
        have := ih (k := k + 2) h h9
        rw [show k + (i + 2) = k + 2 + i by omega]
        exact List.mem_cons_of_mem _ this
    · have hc : ¬ (z_rv B b w).category = 2 := by rw [z_cat1 B b hw]; decide
      rw [if_neg hw] at h
      rw [if_neg hc]
      match i, h with
      | 0, h =>
        simp only [List.cons_append, List.getElem?_cons_zero, Option.some.injEq] at h
        subst h
        exact List.mem_cons_self
      | i + 1, h =>
        simp only [List.cons_append, List.getElem?_cons_succ, List.nil_append] at h
        have := ih (k := k + 1) h h9
        rw [show k + (i + 1) = k + 1 + i by omega]
        exact List.mem_cons_of_mem _ this
theorem z_ent_loc {B b nL : Nat} {As : List ZV} (h : (z_sl As).length ≤ nL) : z_loc B b nL (z_ent nL As) ((lg_sl (As.map (z_rv B b)) ++ List.replicate (nL - (lg_sl (As.map (z_rv B b))).length) Slot.unset).toArray) := by
  have hl := lv_entry (As.map (z_rv B b)) (n := nL) (by rw [z_sl_len]; exact h)
  refine ⟨hl.1, hl.2.1, fun i v hv h9 => ?_⟩
  have hi : (z_sl As)[i]? = some v := by
    unfold z_ent at hv
    by_cases hlt : i < (z_sl As).length
    · rwa [List.getElem?_append_left hlt] at hv
    · rw [List.getElem?_append_right (by omega)] at hv
      have := List.mem_of_getElem? hv
      rw [(List.mem_replicate.mp this).2] at h9
      exact absurd rfl h9
  have := hl.2.2 (0 + i, z_rv B b v) (z_args_mem hi h9)
  rwa [Nat.zero_add] at this
/-! words: most are kept by every warming as they stand; the nest mates' links and 'an array over' go with the world -/
def z_tb : List Cond := z_us.filter goodWord
theorem z_bad_of {w : Cond} (h : z_bad w = true) {A : Array Value} {U : State} (hz : w.before A U = true) : va_Nw w U := by
  cases w with
  | fieldLinkNest a i b n d h => exact va_Nw.of rfl hz
  | methodLinkNest a i x h => exact va_Nw.of rfl hz
  | arrayOver t =>
    cases t with
    | object C => exact va_AO.of hz
    | _ => cases h
  | _ => cases h
theorem z_bad_use {w : Cond} (h : z_bad w = true) {A : Array Value} {U : State} (hz : va_Nw w U) : w.before A U = true := by
  cases w with
  | fieldLinkNest a i b n d h => exact va_Nw.use rfl hz
  | methodLinkNest a i x h => exact va_Nw.use rfl hz
  | arrayOver t =>
    cases t with
    | object C => exact va_AO.use hz
    | _ => cases h
  | _ => cases h
theorem z_bad_warm {w : Cond} (h : z_bad w = true) {s U : State} (hW : s.WarmedH U.vm) (hz : va_Nw w s) : va_Nw w U := by
  cases w with
  | fieldLinkNest a i b n d h => exact va_Nw.warmF hW hz
  | methodLinkNest a i x h => exact va_Nw.warmM hW hz
  | arrayOver t =>
    cases t with
    | object C => exact va_AO.moved hW.alike hz
    | _ => cases h
  | _ => cases h
theorem z_bad_same {w : Cond} (h : z_bad w = true) {s U : State} (hW : s.vm = U.vm) (hz : va_Nw w s) : va_Nw w U := by
  cases w with
  | fieldLinkNest a i b n d h => exact va_Nw.same rfl hW hz
  | methodLinkNest a i x h => exact va_Nw.same rfl hW hz
  | arrayOver t =>
    cases t with
    | object C => exact va_AO.moved (hW ▸ Vm.Alike.refl s.vm) hz
    | _ => cases h
  | _ => cases h
def z_nw (U : State) : Prop := ∀ w ∈ z_us, z_bad w = true → va_Nw w U
theorem z_words {A : Array Value} {U : State} (h1 : ∀ w ∈ z_tb, w.before A U = true) (h2 : z_nw U) : ∀ w ∈ z_us, w.before A U = true := by
  intro w hw
  have h : z_chk w = true := (List.mem_filter.mp hw).2
  unfold z_chk at h
  rw [Bool.or_eq_true] at h
  rcases h with h | h
  · exact h1 w (List.mem_filter.mpr ⟨hw, h⟩)
  · exact z_bad_use h (h2 w hw h)
theorem z_tb_sub {w : Cond} (h : w ∈ z_tb) : w ∈ z_us := (List.mem_filter.mp h).1
theorem z_good : GoodIn z_us z_tb := fun w hw => ⟨z_tb_sub hw, good_of_word (List.mem_filter.mp hw).2⟩
theorem z_goodc {y : MethodName} {bs : ByteArray} {nL : Nat} {ret : Option FieldType} (h : Cond.code y bs nL ret ∈ z_us) : GoodIn z_us (.code y bs nL ret :: z_tb) := fun w hw => by
  rcases List.mem_cons.mp hw with rfl | hw
  · exact ⟨h, Or.inl rfl⟩
  · exact z_good _ hw
def z_ro (B b : Nat) (r : ZV) : Option Value := if r.1 = 9 then none else some (z_rv B b r)
def z_pc (X : ZS) (n : Nat) (σ : ZM) (B b : Nat) (D : va_G) (cA : Nat → ClassId) (As : List ZV) : Array Value → State → Prop := va_Pc (As.map (z_rv B b)) (fun U => va_K D vwCl (z_tys cA) U ∧ va_P D vwCl (z_ws B cA σ n) U.heap ∧ U.heap.size = B + n + 1 ∧ va_X b X.1 X.2 U U.heap ∧ b ≤ B ∧ z_nw U)
def z_qc (n1 : Nat) (P : ZV → ZM → Prop) (B b : Nat) (D : va_G) (cA : Nat → ClassId) : Array Value → State → Outcome → State → Prop := fun _ st oc t => (∃ (r : ZV) (σ : ZM), oc = .returned (z_ro B b r) ∧ P r σ ∧ va_P D vwCl (z_ws B cA σ n1) t.heap) ∧ va_F (z_A B) st t
/-- a contract out of a walk, for any method that no native row stands for -/
theorem z_ofW {l : Launch} {y : MethodName} {ws ws' : List Cond} {rm : Room} {Pc : Array Value → State → Prop} {Qc : Array Value → State → Outcome → State → Prop} {mc ms : Nat} {free : Addr → Prop} {cc : ByteArray} {maxL : Nat} {ret : Option FieldType}
    (hy : plainFor y = true) (hw : ws = Cond.code y cc maxL ret :: ws')
    (body : ∀ p e s m args below meth c s₁, BodyLoose p l y (headSpec ws rm) cc maxL ret e s m args below meth c s₁ → c.maxLocals = maxL → Pc args s →
      W p l e (headSpec ws rm).room s m args below meth c s.heap [] 0 0 (MQ below Qc args s mc ms free) (entryFrame m args maxL)) : Met l y ws rm Pc Qc mc ms free := by
  refine MetFree.of_bodySF (code := cc) (maxLocals := maxL) (ret := ret) hy (fun args s m h hn => ?_) (fun p e s m args below meth c s₁ hB hml hP _ => ?_)
  · have hc := atoms_spec (ws := ws) h (Cond.code y cc maxL ret) (by rw [hw]; exact List.mem_cons_self)
    obtain ⟨meth, c, h1, h2, h3, h4, h5, h6, -⟩ := Cond.code_spec hn hc
    exact ⟨meth, c, h1, h2, h3, h4, h5, h6⟩
  · have hh : s₁.heap = s.heap := by rw [hB.state]; rfl
    obtain ⟨t, g1, o, g2, g3, g4, g5⟩ := body p e s m args below meth c s₁ hB hml hP s₁ hh (Stand.of_body hB)
    exact ⟨t, o, g1, g2, g3, g4, g5⟩
theorem z_met {X : ZS} {ρ : ZR} {M : ZT} {As : List ZV} {n : Nat} {σ : ZM} {P : ZV → ZM → Prop} (h : Z X ρ M 0 (z_ent M.2.2.1 As) [] n σ P) (hy : plainFor M.1 = true) (hlen : (z_sl As).length ≤ M.2.2.1) (hn : n ≤ ρ.2.2) (l : Launch) (B b : Nat) (D : va_G) (cA : Nat → ClassId) :
    Met l M.1 (.code M.1 M.2.1 M.2.2.1 M.2.2.2 :: z_tb) { frames := ρ.1, cells := ρ.2.2 - n, slots := z_ss ρ.2.2 - z_ss n, locals := ρ.2.1 } (z_pc X n σ B b D cA As) (z_qc ρ.2.2 P B b D cA) (ρ.2.2 - n) (z_ss ρ.2.2 - z_ss n) (z_A B) := by
  refine z_ofW (cc := M.2.1) (maxL := M.2.2.1) (ret := M.2.2.2) hy rfl ?_
  intro p e s m args below meth c s₁ Bd hml hv
  obtain ⟨rfl, hK, hP, hsz, hX, hbB, hnw⟩ := hv
  have hts := atoms_spec (ws := .code M.1 M.2.1 M.2.2.1 M.2.2.2 :: z_tb) Bd.pre
  have hF : z_fix X ρ M p (headSpec (.code M.1 M.2.1 M.2.2.1 M.2.2.2 :: z_tb) { frames := ρ.1, cells := ρ.2.2 - n, slots := z_ss ρ.2.2 - z_ss n, locals := ρ.2.1 }).room s m (As.map (z_rv B b)).toArray meth c B b D cA :=
    ⟨Bd.exec, Bd.bytes, Bd.returns, Bd.notSynchronized, hml, findClass_of_methodNamed Bd.named, (name_of_methodNamed Bd.named Bd.method).1, z_words (fun w hw => hts w (List.mem_cons_of_mem _ hw)) hnw, hK, by omega, hX, hbB, Nat.le_refl _, Nat.le_refl _⟩
  rw [lg_entry_eq]
  refine h p l e _ s m _ below meth c B b D cA _ hF ?_ s.heap [] 0 0 _ ⟨hP, by omega, va_S.rf, hn, by show 0 + _ ≤ ρ.2.2 - n; omega, by show 0 + _ ≤ z_ss ρ.2.2 - z_ss n; omega⟩ (z_ent_loc hlen)
  intro r σ' H locs cells slots ls pc hq hD hr
  have hc : cells = ρ.2.2 - n := by have := hD.2.1; omega
  have hs : slots ≤ z_ss ρ.2.2 - z_ss n := by
    have h1 := hD.2.2.2.2.2
    have h2 : (headSpec (.code M.1 M.2.1 M.2.2.1 M.2.2.2 :: z_tb) { frames := ρ.1, cells := ρ.2.2 - n, slots := z_ss ρ.2.2 - z_ss n, locals := ρ.2.1 }).room.slots = z_ss ρ.2.2 - z_ss n := rfl
    rw [h2] at h1
    omega
  have hlocks := Bd.notSynchronized
  subst hc
  refine W.widen (k := ρ.2.2 - n) (n := z_ss ρ.2.2 - z_ss n) (Nat.le_refl _) hs ?_
  have post : ∀ t : State, t.heap = H → z_qc ρ.2.2 P B b D cA (As.map (z_rv B b)).toArray s (.returned (z_ro B b r)) t := fun t ht => ⟨⟨r, σ', rfl, hq, by rw [ht]; exact hD.1⟩, hD.2.2.1.F ht⟩
  have hfr := hD.2.2.1.2.2
  obtain ⟨tg, x⟩ := r
  rcases hr with ⟨h0, h1, h2⟩ | ⟨h0, h1, h2⟩ | ⟨h0, h1, C, h2⟩ | ⟨h0, h1, h2⟩
  · dsimp only at h0
    subst h0
    rcases h2 with h2 | ⟨h2, h3⟩
    · exact W.iret (v := iz x) Bd.exec Bd.bytes (Bd.returns.trans h2) (fun t ht _ => post t ht) hfr h1
    · refine W.zret (v := iz x) Bd.exec Bd.bytes (Bd.returns.trans h2) ?_ (fun t ht _ => post t ht) hfr h1
      dsimp only at h3
      rcases h3 with rfl | rfl <;> rfl
  · dsimp only at h0
    subst h0
    exact W.lret (v := lz x) Bd.exec Bd.bytes (Bd.returns.trans h2) (fun t ht _ => post t ht) hfr h1
  · dsimp only at h0
    subst h0
    refine W.aret (v := va_rf (z_ref B x)) Bd.exec Bd.bytes (Bd.returns.trans h2) (Or.inl ⟨C, rfl⟩) ?_ (fun t ht _ => post t ht) hfr h1
    cases z_ref B x with
    | none => exact Or.inl rfl
    | some a => exact Or.inr ⟨a, rfl⟩
  · dsimp only at h0
    subst h0
    exact W.vret Bd.exec Bd.bytes (Bd.returns.trans h2) (fun t ht _ => post t ht) hfr h1
end
section
def z_psh (r : ZV) (st : List ZV) : List ZV := if r.1 = 9 then st else r :: st
def zb (b : Bool) : Int := if b then 1 else 0
/-- ends: an int, a truth value, a long, a reference, nothing -/
def zQi (T : Int → ZM → Prop) : ZV → ZM → Prop := fun r σ => r.1 = 0 ∧ T r.2 σ
def zQz (T : Bool → ZM → Prop) : ZV → ZM → Prop := fun r σ => r.1 = 0 ∧ ∃ b, r.2 = zb b ∧ T b σ
def zQl (T : Int → ZM → Prop) : ZV → ZM → Prop := fun r σ => r.1 = 1 ∧ T r.2 σ
def zQa (T : Int → ZM → Prop) : ZV → ZM → Prop := fun r σ => r.1 = 2 ∧ T r.2 σ
def zQv (T : ZM → Prop) : ZV → ZM → Prop := fun r σ => r.1 = 9 ∧ T σ
/-- a call of M with arguments As -/
def ZC (X : ZS) (ρ : ZR) (M : ZT) (As : List ZV) (n : Nat) (σ : ZM) (Q : ZV → ZM → Prop) : Prop := Z X ρ M 0 (z_ent M.2.2.1 As) [] n σ Q
section ZInv
variable {X : ZS} {ρ ρ' : ZR} {M M' : ZT} {pc : Nat} {L stk st : List ZV} {n : Nat} {σ : ZM} {Q P : ZV → ZM → Prop}
theorem z_ki {T : Int → ZM → Prop} (k : ∀ x σ', T x σ' → Z X ρ M pc L ((0, x) :: st) n σ' Q) (r : ZV) (σ' : ZM) (h : zQi T r σ') : Z X ρ M pc L (z_psh r st) n σ' Q := by
  obtain ⟨t, x⟩ := r
  obtain ⟨h0, h⟩ := h
  dsimp only at h0
  subst h0
  exact k x σ' h
theorem z_kz {T : Bool → ZM → Prop} (k : ∀ b σ', T b σ' → Z X ρ M pc L ((0, zb b) :: st) n σ' Q) (r : ZV) (σ' : ZM) (h : zQz T r σ') : Z X ρ M pc L (z_psh r st) n σ' Q := by
  obtain ⟨t, x⟩ := r
  obtain ⟨h0, b, hb, h⟩ := h
  dsimp only at h0 hb
  subst h0
  subst hb
  exact k b σ' h
theorem z_kl {T : Int → ZM → Prop} (k : ∀ x σ', T x σ' → Z X ρ M pc L ((1, x) :: st) n σ' Q) (r : ZV) (σ' : ZM) (h : zQl T r σ') : Z X ρ M pc L (z_psh r st) n σ' Q := by
  obtain ⟨t, x⟩ := r
  obtain ⟨h0, h⟩ := h
  dsimp only at h0
  subst h0
  exact k x σ' h
theorem z_ka {T : Int → ZM → Prop} (k : ∀ x σ', T x σ' → Z X ρ M pc L ((2, x) :: st) n σ' Q) (r : ZV) (σ' : ZM) (h : zQa T r σ') : Z X ρ M pc L (z_psh r st) n σ' Q := by
  obtain ⟨t, x⟩ := r
  obtain ⟨h0, h⟩ := h
  dsimp only at h0
  subst h0
  exact k x σ' h
theorem z_kv {T : ZM → Prop} (k : ∀ σ', T σ' → Z X ρ M pc L st n σ' Q) (r : ZV) (σ' : ZM) (h : zQv T r σ') : Z X ρ M pc L (z_psh r st) n σ' Q := by
  unfold z_psh
  rw [if_pos h.1]
  exact k σ' h.2
theorem z_rest (B b : Nat) (r : ZV) (st : List ZV) : (z_ro B b r).toList ++ st.map (z_rv B b) = (z_psh r st).map (z_rv B b) := by
  unfold z_ro z_psh
  by_cases h : r.1 = 9
  · rw [if_pos h, if_pos h]; rfl
  · rw [if_neg h, if_neg h]; rfl
theorem z_cont {p : Program} {l : Launch} {e : Env} {R : Room} {s : State} {m : MethodId} {args : Array Value} {below : List Frame} {meth : Method} {c : Code} {B b : Nat} {D : va_G} {cA : Nat → ClassId} {Qf : State → Prop} {H : Heap} {locs : List Loc} {cells slots : Nat} {ls : Array Slot} {stv : List Value} {av : Array Value}
    (hF : z_fix X ρ M p R s m args meth c B b D cA) (hE : z_end ρ M Q p l e R s m args below meth c B b D cA Qf) (hD : z_dyn ρ n σ D B cA R s H locs cells slots) (hL : z_loc B b M.2.2.1 L ls) (hz : H.size = B + n + 1)
    (hr : va_Run p l e R s m args below meth c H locs cells slots (ρ'.2.2 - n) (z_ss ρ'.2.2 - z_ss n) (F0 m pc ls stv) (st.map (z_rv B b)) (z_qc ρ'.2.2 P B b D cA av) (z_A B)) (hn : n ≤ ρ'.2.2) (hn1 : ρ'.2.2 ≤ ρ.2.2)
    (k : ∀ r σ', P r σ' → Z X ρ M (pc + 3) L (z_psh r st) ρ'.2.2 σ' Q) : W p l e R s m args below meth c H locs cells slots Qf (F0 m pc ls stv) := by
  intro T hT hX
  obtain ⟨v, st₀, t, T', Lc, h0, X', hLc, e1, e2, ⟨⟨r, σ', hv, hp, hP⟩, hz1, hk⟩, hst⟩ := hr T hT hX
  have hv : v = z_ro B b r := by injection hv
  subst hv
  rw [h0] at hz1 hk
  have hS := hD.2.2.1
  have h1 := hD.2.2.2.2.1
  have h2 := hD.2.2.2.2.2
  have hm1 := z_ss_mono hn
  have hm2 := z_ss_mono hn1
  have hd : z_dyn ρ ρ'.2.2 σ' D B cA R s T'.heap (locs ++ Lc) (cells + (ρ'.2.2 - n)) (slots + (z_ss ρ'.2.2 - z_ss n)) := by
    refine ⟨by rw [e1]; exact hP, by have := hD.2.1; omega, ⟨Nat.le_trans hS.1 (by rw [e1]; exact hz1), fun q g1 g2 => ?_, fun q hq => ?_⟩, hn1, by omega, by omega⟩
    · rw [e1, hk q (Nat.lt_of_lt_of_le g1 hS.1) g2]
      exact hS.2.1 q g1 g2
    · rcases List.mem_append.mp hq with g | g
      · exact hS.2.2 q g
      · exact hLc q g
  have kk := k r σ' hp p l e R s m args below meth c B b D cA Qf hF hE T'.heap (locs ++ Lc) _ _ ls hd hL
  rw [← z_rest] at kk
  obtain ⟨t2, a1, b1⟩ := kk T' rfl X'
  exact ⟨t2, hst t2 a1, b1⟩
theorem z_blind {B b : Nat} {D : va_G} {cA : Nat → ClassId} {As : List ZV} : FrameBlind (z_pc X n σ B b D cA As) := by
  intro a U g mk h
  obtain ⟨h0, hK, hP, hsz, hX, hb, hnw⟩ := h
  exact ⟨h0, va_K.moved (u := U) (U := U.calling g mk a) (Vm.Alike.refl U.vm) hK, hP, hsz, va_X.moved (u := U) (U := U.calling g mk a) (Vm.Alike.refl U.vm) hX, hb, fun w hw hz => z_bad_same (s := U) (U := U.calling g mk a) hz rfl (hnw w hw hz)⟩
theorem z_pre {p : Program} {R : Room} {s : State} {m : MethodId} {args : Array Value} {meth : Method} {c : Code} {B b : Nat} {D : va_G} {cA : Nat → ClassId} {H : Heap} {locs : List Loc} {cells slots : Nat} (As : List ZV)
    (hF : z_fix X ρ M p R s m args meth c B b D cA) (hD : z_dyn ρ n σ D B cA R s H locs cells slots) (hz : H.size = B + n + 1) : ∀ U : State, U.heap = H → s.WarmedH U.vm → z_pc X n σ B b D cA As (As.map (z_rv B b)).toArray U := by
  intro U hU hW
  have hb := hF.2.2.2.2.2.2.2.2.2.2.2.1
  have hB := hF.2.2.2.2.2.2.2.2.2.1
  refine ⟨rfl, va_K.moved hW.alike hF.2.2.2.2.2.2.2.2.1, by rw [hU]; exact hD.1, by rw [hU]; exact hz, ?_, hb, fun w hw hz => z_bad_warm hz hW (z_bad_of hz (hF.2.2.2.2.2.2.2.1 w hw))⟩
  rw [hU]
  refine (hF.2.2.2.2.2.2.2.2.2.2.1.kept ?_).moved hW.alike
  exact hD.2.2.1.2.1 b (Nat.lt_of_le_of_lt hb hB) (Nat.not_lt.mpr hb)
theorem z_callB {p : Program} {R : Room} {s : State} {m : MethodId} {args : Array Value} {meth : Method} {c : Code} {B b : Nat} {D : va_G} {cA : Nat → ClassId} {idx k : Nat}
    (hF : z_fix X ρ M p R s m args meth c B b D cA) (hcode : Cond.code M'.1 M'.2.1 M'.2.2.1 M'.2.2.2 ∈ z_us) (hini : Cond.initialized M'.1.cls ∈ z_us) (hlink : Cond.methodLink M.1.cls idx M'.1 ∈ z_us) (hy : M'.1.cls ≠ "java/lang/invoke/MethodHandle" ∧ M'.1.cls ≠ "java/lang/invoke/VarHandle" ∧ (parseMethodDescriptor M'.1.desc).map (fun d => d.parameters.length) = some k) (hR1 : ρ'.1 + 1 ≤ ρ.1) (hR2 : 8 + (M'.2.2.1 + 11) + ρ'.2.1 ≤ ρ.2.1) :
    CallB R s args M.1.cls idx M'.1 M'.2.1 M'.2.2.1 M'.2.2.2 (.code M'.1 M'.2.1 M'.2.2.1 M'.2.2.2 :: z_tb) { frames := ρ'.1, cells := ρ'.2.2 - n, slots := z_ss ρ'.2.2 - z_ss n, locals := ρ'.2.1 } (ρ'.2.2 - n) (z_ss ρ'.2.2 - z_ss n) k := by
  have hts := hF.2.2.2.2.2.2.2.1
  have g1 := hF.2.2.2.2.2.2.2.2.2.2.2.2.1
  have g2 := hF.2.2.2.2.2.2.2.2.2.2.2.2.2
  exact callB_of k hts (z_goodc hcode) rfl rfl rfl (hts _ hini) (hts _ hlink) hy ⟨Nat.le_trans hR1 g1, Nat.le_trans hR2 g2⟩
theorem z_callN {p : Program} {R : Room} {s : State} {m : MethodId} {args : Array Value} {meth : Method} {c : Code} {B b : Nat} {D : va_G} {cA : Nat → ClassId} {idx k : Nat} {host : String}
    (hF : z_fix X ρ M p R s m args meth c B b D cA) (hcode : Cond.code M'.1 M'.2.1 M'.2.2.1 M'.2.2.2 ∈ z_us) (hini : Cond.initialized M'.1.cls ∈ z_us) (hlink : Cond.methodLinkNest M.1.cls idx M'.1 host ∈ z_us) (hy : M'.1.cls ≠ "java/lang/invoke/MethodHandle" ∧ M'.1.cls ≠ "java/lang/invoke/VarHandle" ∧ (parseMethodDescriptor M'.1.desc).map (fun d => d.parameters.length) = some k) (hR1 : ρ'.1 + 1 ≤ ρ.1) (hR2 : 8 + (M'.2.2.1 + 11) + ρ'.2.1 ≤ ρ.2.1) :
    va_CN R s args M.1.cls idx M'.1 host M'.2.1 M'.2.2.1 M'.2.2.2 (.code M'.1 M'.2.1 M'.2.2.1 M'.2.2.2 :: z_tb) { frames := ρ'.1, cells := ρ'.2.2 - n, slots := z_ss ρ'.2.2 - z_ss n, locals := ρ'.2.1 } (ρ'.2.2 - n) (z_ss ρ'.2.2 - z_ss n) k := by
  have hts := hF.2.2.2.2.2.2.2.1
  have g1 := hF.2.2.2.2.2.2.2.2.2.2.2.2.1
  have g2 := hF.2.2.2.2.2.2.2.2.2.2.2.2.2
  exact va_cnB k hts (z_goodc hcode) rfl rfl rfl (z_bad_of rfl (hts _ hlink)) (hts _ hini) hy ⟨Nat.le_trans hR1 g1, Nat.le_trans hR2 g2⟩
/-- what a call needs of the callee, decided from its tables -/
def z_cl (ρ ρ' : ZR) (M' : ZT) (As st : List ZV) (n k : Nat) : Prop := plainFor M'.1 = true ∧ (z_sl As).length ≤ M'.2.2.1 ∧ n ≤ ρ'.2.2 ∧ ρ'.2.2 ≤ ρ.2.2 ∧ Cond.code M'.1 M'.2.1 M'.2.2.1 M'.2.2.2 ∈ z_us ∧ Cond.initialized M'.1.cls ∈ z_us ∧ (M'.1.cls ≠ "java/lang/invoke/MethodHandle" ∧ M'.1.cls ≠ "java/lang/invoke/VarHandle" ∧ (parseMethodDescriptor M'.1.desc).map (fun d => d.parameters.length) = some k) ∧ ρ'.1 + 1 ≤ ρ.1 ∧ 8 + (M'.2.2.1 + 11) + ρ'.2.1 ≤ ρ.2.1 ∧ (st.map (fun v => if v.1 = 1 then 2 else 1)).sum ≤ 8
theorem z_fits {R : Room} {s : State} {B : Nat} {D : va_G} {cA : Nat → ClassId} {H : Heap} {locs : List Loc} {cells slots : Nat} (hD : z_dyn ρ n σ D B cA R s H locs cells slots) (hn : n ≤ ρ'.2.2) (hn1 : ρ'.2.2 ≤ ρ.2.2) : cells + (ρ'.2.2 - n) ≤ R.cells ∧ slots + (z_ss ρ'.2.2 - z_ss n) ≤ R.slots := by
  have h1 := hD.2.2.2.2.1
  have h2 := hD.2.2.2.2.2
  have hm1 := z_ss_mono hn
  have hm2 := z_ss_mono hn1
  omega
theorem Z_invV {C : String} {T : u_T} {N ci idx k : Nat} {a : Int} (As : List ZV) (hd : decode M.2.1 pc = .ok (.invokevirtual idx, 3)) (hs : stk = As.reverse ++ (2, a) :: st) (hk : As.length = k) (hl : z_l a = (ci, N)) (han : a.toNat ≤ n) (hci : ci < 20) (hc : vwCl[ci]? = some (C, T, N)) (hC : M'.1.cls = C) (hcl : z_cl ρ ρ' M' ((2, a) :: As) st n k) (hw : Cond.methodLink M.1.cls idx M'.1 ∈ z_us ∨ ∃ host, Cond.methodLinkNest M.1.cls idx M'.1 host ∈ z_us) (hw2 : Cond.instanceMethod M'.1 ∈ z_us) (hw3 : Cond.selects C M'.1 M'.1 ∈ z_us)
    (hM : Z X ρ' M' 0 (z_ent M'.2.2.1 ((2, a) :: As)) [] n σ P) (kk : ∀ r σ', P r σ' → Z X ρ M (pc + 3) L (z_psh r st) ρ'.2.2 σ' Q) : Z X ρ M pc L stk n σ Q := by
  have hp : 0 < a := (z_l_pos (by rw [hl]; show ci ≠ 99; omega)).1
  obtain ⟨hpl, hlen, hn, hn1, hcode, hini, hy, hR1, hR2, h8⟩ := hcl
  subst hs
  subst hC
  intro p l e R s m args below meth c B b D cA Qf hF hE H locs cells slots ls hD hL
  refine z_sized hF hD (fun hz => ?_)
  have hmet := z_met hM hpl hlen hn l B b D cA
  have hts := hF.2.2.2.2.2.2.2.1
  have he := z_ws_at (B := B) (cA := cA) (σ := σ) hp han
  rw [z_cell_obj (ci := ci) (N := N) (by rw [z_toNat hp]; exact hl) hci] at he
  have hrec := va_recv hF.2.2.2.2.2.2.2.2.1 hD.1 hc he
  have hpre := z_pre ((2, a) :: As) hF hD hz
  rw [List.map_cons, z_rv2, z_refp hp] at hpre
  have hstk : (As.reverse ++ (2, a) :: st).map (z_rv B b) = (As.map (z_rv B b)).reverse ++ Value.ref (B + a.toNat) :: st.map (z_rv B b) := by
    rw [List.map_append, List.map_cons, List.map_reverse, z_rv2, z_refp hp]
    rfl
  rw [hstk]
  rcases hw with hw | ⟨host, hw⟩
  · exact z_cont hF hE hD hL hz (va_runV ⟨hF.1, hF.2.1, hF.2.2.2.2.1, hF.2.2.2.2.2.1, hts⟩ hmet ⟨z_callB hF hcode hini hw hy hR1 hR2, hts _ hw2, hts _ hw3⟩ ⟨z_blind, hrec, hpre⟩ rfl (by rw [List.length_map]; exact hk) hL.1 rfl (lv_room (by rw [z_cats]; exact h8)) hd (z_fits hD hn hn1)) hn hn1 kk
  · exact z_cont hF hE hD hL hz (va_runVN ⟨hF.1, hF.2.1, hF.2.2.2.2.1, hF.2.2.2.2.2.1, hts⟩ hmet ⟨z_callN hF hcode hini hw hy hR1 hR2, hts _ hw2, hts _ hw3⟩ ⟨z_blind, hrec, hpre⟩ rfl (by rw [List.length_map]; exact hk) hL.1 rfl (lv_room (by rw [z_cats]; exact h8)) hd (z_fits hD hn hn1)) hn hn1 kk
theorem Z_invS {idx k : Nat} (As : List ZV) (hd : decode M.2.1 pc = .ok (.invokestatic idx, 3)) (hs : stk = As.reverse ++ st) (hk : As.length = k) (hcl : z_cl ρ ρ' M' As st n k) (hw : Cond.methodLink M.1.cls idx M'.1 ∈ z_us ∨ ∃ host, Cond.methodLinkNest M.1.cls idx M'.1 host ∈ z_us) (hw2 : Cond.static M'.1 ∈ z_us)
    (hM : Z X ρ' M' 0 (z_ent M'.2.2.1 As) [] n σ P) (kk : ∀ r σ', P r σ' → Z X ρ M (pc + 3) L (z_psh r st) ρ'.2.2 σ' Q) : Z X ρ M pc L stk n σ Q := by
  obtain ⟨hpl, hlen, hn, hn1, hcode, hini, hy, hR1, hR2, h8⟩ := hcl
  subst hs
  intro p l e R s m args below meth c B b D cA Qf hF hE H locs cells slots ls hD hL
  refine z_sized hF hD (fun hz => ?_)
  have hmet := z_met hM hpl hlen hn l B b D cA
  have hts := hF.2.2.2.2.2.2.2.1
  have hpre := z_pre As hF hD hz
  have hstk : (As.reverse ++ st).map (z_rv B b) = (As.map (z_rv B b)).reverse ++ st.map (z_rv B b) := by
    rw [List.map_append, List.map_reverse]
  rw [hstk]
  rcases hw with hw | ⟨host, hw⟩
  · exact z_cont hF hE hD hL hz (va_runS ⟨hF.1, hF.2.1, hF.2.2.2.2.1, hF.2.2.2.2.2.1, hts⟩ hmet ⟨z_callB hF hcode hini hw hy hR1 hR2, hts _ hw2⟩ ⟨z_blind, hpre⟩ rfl (by rw [List.length_map]; exact hk) hL.1 rfl (lv_room (by rw [z_cats]; exact h8)) hd (z_fits hD hn hn1)) hn hn1 kk
  · exact z_cont hF hE hD hL hz (va_runSN ⟨hF.1, hF.2.1, hF.2.2.2.2.1, hF.2.2.2.2.2.1, hts⟩ hmet ⟨z_callN hF hcode hini hw hy hR1 hR2, hts _ hw2, trivial⟩ ⟨z_blind, hpre⟩ rfl (by rw [List.length_map]; exact hk) hL.1 rfl (lv_room (by rw [z_cats]; exact h8)) hd (z_fits hD hn hn1)) hn hn1 kk
theorem Z_invI {idx k : Nat} {a : Int} (As : List ZV) (hd : decode M.2.1 pc = .ok (.invokespecial idx, 3)) (hs : stk = As.reverse ++ (2, a) :: st) (ha : 0 < a) (hk : As.length = k) (hret : M'.2.2.2 = none) (hname : M'.1.name = "<init>") (hcl : z_cl ρ ρ' M' ((2, a) :: As) st n k) (hw : Cond.methodLink M.1.cls idx M'.1 ∈ z_us ∨ ∃ host, Cond.methodLinkNest M.1.cls idx M'.1 host ∈ z_us) (hw2 : Cond.instanceMethod M'.1 ∈ z_us)
    (hM : Z X ρ' M' 0 (z_ent M'.2.2.1 ((2, a) :: As)) [] n σ P) (kk : ∀ r σ', P r σ' → Z X ρ M (pc + 3) L (z_psh r st) ρ'.2.2 σ' Q) : Z X ρ M pc L stk n σ Q := by
  obtain ⟨hpl, hlen, hn, hn1, hcode, hini, hy, hR1, hR2, h8⟩ := hcl
  subst hs
  intro p l e R s m args below meth c B b D cA Qf hF hE H locs cells slots ls hD hL
  refine z_sized hF hD (fun hz => ?_)
  have hmet := z_met hM hpl hlen hn l B b D cA
  rw [hret] at hmet
  have hts := hF.2.2.2.2.2.2.2.1
  have hpre := z_pre ((2, a) :: As) hF hD hz
  rw [List.map_cons, z_rv2, z_refp ha] at hpre
  have hstk : (As.reverse ++ (2, a) :: st).map (z_rv B b) = (As.map (z_rv B b)).reverse ++ Value.ref (B + a.toNat) :: st.map (z_rv B b) := by
    rw [List.map_append, List.map_cons, List.map_reverse, z_rv2, z_refp ha]
    rfl
  rw [hstk]
  rcases hw with hw | ⟨host, hw⟩
  · have hB := z_callB (n := n) hF hcode hini hw hy hR1 hR2
    rw [hret] at hB
    exact z_cont hF hE hD hL hz (va_runI ⟨hF.1, hF.2.1, hF.2.2.2.2.1, hF.2.2.2.2.2.1, hts⟩ hmet ⟨hB, hname, hts _ hw2⟩ ⟨z_blind, hpre⟩ rfl (by rw [List.length_map]; exact hk) hL.1 rfl (lv_room (by rw [z_cats]; exact h8)) hd (z_fits hD hn hn1)) hn hn1 kk
  · have hB := z_callN (n := n) hF hcode hini hw hy hR1 hR2
    rw [hret] at hB
    exact z_cont hF hE hD hL hz (va_runIN ⟨hF.1, hF.2.1, hF.2.2.2.2.1, hF.2.2.2.2.2.1, hts⟩ hmet ⟨hB, hname, hts _ hw2⟩ ⟨z_blind, hpre⟩ rfl (by rw [List.length_map]; exact hk) hL.1 rfl (lv_room (by rw [z_cats]; exact h8)) hd (z_fits hD hn hn1)) hn hn1 kk
/-! what a program knows of a method -/
def z_k (M : ZT) (k : Nat) : Prop := plainFor M.1 = true ∧ Cond.code M.1 M.2.1 M.2.2.1 M.2.2.2 ∈ z_us ∧ Cond.initialized M.1.cls ∈ z_us ∧ (M.1.cls ≠ "java/lang/invoke/MethodHandle" ∧ M.1.cls ≠ "java/lang/invoke/VarHandle" ∧ (parseMethodDescriptor M.1.desc).map (fun d => d.parameters.length) = some k)
theorem z_k.cl {As st : List ZV} {k : Nat} (h : z_k M' k) (h1 : (z_sl As).length ≤ M'.2.2.1) (h2 : n ≤ ρ'.2.2) (h3 : ρ'.2.2 ≤ ρ.2.2) (h4 : ρ'.1 + 1 ≤ ρ.1) (h5 : 8 + (M'.2.2.1 + 11) + ρ'.2.1 ≤ ρ.2.1) (h6 : (st.map (fun v => if v.1 = 1 then 2 else 1)).sum ≤ 8) : z_cl ρ ρ' M' As st n k := ⟨h.1, h1, h2, h3, h.2.1, h.2.2.1, h.2.2.2, h4, h5, h6⟩
/-- truth values on the stack -/
theorem zb_r (b : Bool) : r32 (zb b) := by cases b <;> decide
theorem zb_0 (b : Bool) : zb b = 0 ↔ b = false := by cases b <;> decide
theorem Z_zif_eq {b : Bool} {off : Int} {tgt : Nat} (hd : decode M.2.1 pc = .ok (.ifCond .eq off, 3)) (ht : (pc : Int) + off = (tgt : Int)) (k1 : b = false → Z X ρ M tgt L st n σ Q) (k2 : b = true → Z X ρ M (pc + 3) L st n σ Q) : Z X ρ M pc L ((0, zb b) :: st) n σ Q :=
  Z_if_eq hd ht (zb_r b) (fun h => k1 ((zb_0 b).mp h)) (fun h => k2 (by cases b; exact absurd rfl h; rfl))
theorem Z_zif_ne {b : Bool} {off : Int} {tgt : Nat} (hd : decode M.2.1 pc = .ok (.ifCond .ne off, 3)) (ht : (pc : Int) + off = (tgt : Int)) (k1 : b = true → Z X ρ M tgt L st n σ Q) (k2 : b = false → Z X ρ M (pc + 3) L st n σ Q) : Z X ρ M pc L ((0, zb b) :: st) n σ Q :=
  Z_if_ne hd ht (zb_r b) (fun h => k1 (by cases b; exact absurd rfl h; rfl)) (fun h => k2 ((zb_0 b).mp h))
theorem Z_lc_lt {x y off : Int} {tgt : Nat} (hd0 : decode M.2.1 pc = .ok (.lcmp, 1)) (hd : decode M.2.1 (pc + 1) = .ok (.ifCond .lt off, 3)) (ht : ((pc + 1 : Nat) : Int) + off = (tgt : Int)) (hx : r64 x) (hy : r64 y) (k1 : x < y → Z X ρ M tgt L st n σ Q) (k2 : ¬ x < y → Z X ρ M (pc + 1 + 3) L st n σ Q) : Z X ρ M pc L ((1, y) :: (1, x) :: st) n σ Q :=
  Z_lcmp hd0 hx hy (Z_if_lt hd ht (by split; decide; split <;> decide) (fun h => k1 (by split at h; omega; split at h <;> omega)) (fun h => k2 (by split at h; omega; split at h <;> omega)))
theorem Z_lc_ge {x y off : Int} {tgt : Nat} (hd0 : decode M.2.1 pc = .ok (.lcmp, 1)) (hd : decode M.2.1 (pc + 1) = .ok (.ifCond .ge off, 3)) (ht : ((pc + 1 : Nat) : Int) + off = (tgt : Int)) (hx : r64 x) (hy : r64 y) (k1 : y ≤ x → Z X ρ M tgt L st n σ Q) (k2 : ¬ y ≤ x → Z X ρ M (pc + 1 + 3) L st n σ Q) : Z X ρ M pc L ((1, y) :: (1, x) :: st) n σ Q :=
  Z_lcmp hd0 hx hy (Z_if_ge hd ht (by split; decide; split <;> decide) (fun h => k1 (by split at h; omega; split at h <;> omega)) (fun h => k2 (by split at h; omega; split at h <;> omega)))
theorem Z_lc_gt {x y off : Int} {tgt : Nat} (hd0 : decode M.2.1 pc = .ok (.lcmp, 1)) (hd : decode M.2.1 (pc + 1) = .ok (.ifCond .gt off, 3)) (ht : ((pc + 1 : Nat) : Int) + off = (tgt : Int)) (hx : r64 x) (hy : r64 y) (k1 : y < x → Z X ρ M tgt L st n σ Q) (k2 : ¬ y < x → Z X ρ M (pc + 1 + 3) L st n σ Q) : Z X ρ M pc L ((1, y) :: (1, x) :: st) n σ Q :=
  Z_lcmp hd0 hx hy (Z_if_gt hd ht (by split; decide; split <;> decide) (fun h => k1 (by split at h; omega; split at h <;> omega)) (fun h => k2 (by split at h; omega; split at h <;> omega)))
theorem Z_lc_le {x y off : Int} {tgt : Nat} (hd0 : decode M.2.1 pc = .ok (.lcmp, 1)) (hd : decode M.2.1 (pc + 1) = .ok (.ifCond .le off, 3)) (ht : ((pc + 1 : Nat) : Int) + off = (tgt : Int)) (hx : r64 x) (hy : r64 y) (k1 : x ≤ y → Z X ρ M tgt L st n σ Q) (k2 : ¬ x ≤ y → Z X ρ M (pc + 1 + 3) L st n σ Q) : Z X ρ M pc L ((1, y) :: (1, x) :: st) n σ Q :=
  Z_lcmp hd0 hx hy (Z_if_le hd ht (by split; decide; split <;> decide) (fun h => k1 (by split at h; omega; split at h <;> omega)) (fun h => k2 (by split at h; omega; split at h <;> omega)))
theorem Z_lc_eq {x y off : Int} {tgt : Nat} (hd0 : decode M.2.1 pc = .ok (.lcmp, 1)) (hd : decode M.2.1 (pc + 1) = .ok (.ifCond .eq off, 3)) (ht : ((pc + 1 : Nat) : Int) + off = (tgt : Int)) (hx : r64 x) (hy : r64 y) (k1 : x = y → Z X ρ M tgt L st n σ Q) (k2 : ¬ x = y → Z X ρ M (pc + 1 + 3) L st n σ Q) : Z X ρ M pc L ((1, y) :: (1, x) :: st) n σ Q :=
  Z_lcmp hd0 hx hy (Z_if_eq hd ht (by split; decide; split <;> decide) (fun h => k1 (by split at h; omega; split at h <;> omega)) (fun h => k2 (by split at h; omega; split at h <;> omega)))
theorem Z_lc_ne {x y off : Int} {tgt : Nat} (hd0 : decode M.2.1 pc = .ok (.lcmp, 1)) (hd : decode M.2.1 (pc + 1) = .ok (.ifCond .ne off, 3)) (ht : ((pc + 1 : Nat) : Int) + off = (tgt : Int)) (hx : r64 x) (hy : r64 y) (k1 : ¬ x = y → Z X ρ M tgt L st n σ Q) (k2 : x = y → Z X ρ M (pc + 1 + 3) L st n σ Q) : Z X ρ M pc L ((1, y) :: (1, x) :: st) n σ Q :=
  Z_lcmp hd0 hx hy (Z_if_ne hd ht (by split; decide; split <;> decide) (fun h => k1 (by split at h; omega; split at h <;> omega)) (fun h => k2 (by split at h; omega; split at h <;> omega)))
theorem Z_few {L' : List ZV} (h : ∀ (i : Nat) (v : ZV), L'[i]? = some v → v.1 ≠ 9 → L[i]? = some v) (k : Z X ρ M pc L' st n σ Q) : Z X ρ M pc L st n σ Q := by
  refine Z_pure (L' := L') (fun p l e R s m args below meth c B b D cA Qf H locs cells slots ls hF hD hL kk => ?_) k
  exact kk ls ⟨hL.1, hL.2.1, fun i v hv h9 => hL.2.2 i v (h i v hv h9) h9⟩
theorem z_few_0 : ∀ (i : Nat) (v : ZV), ([] : List ZV)[i]? = some v → v.1 ≠ 9 → ([] : List ZV)[i]? = some v := fun i v h => by simp at h
theorem z_few_k {w : ZV} {t t' : List ZV} (h : ∀ (i : Nat) (v : ZV), t'[i]? = some v → v.1 ≠ 9 → t[i]? = some v) : ∀ (i : Nat) (v : ZV), (w :: t')[i]? = some v → v.1 ≠ 9 → (w :: t)[i]? = some v := fun i v hv h9 => by
  cases i with
  | zero => exact hv
  | succ i => exact h i v hv h9
theorem z_few_d {w : ZV} {x : Int} {t t' : List ZV} (h : ∀ (i : Nat) (v : ZV), t'[i]? = some v → v.1 ≠ 9 → t[i]? = some v) : ∀ (i : Nat) (v : ZV), ((9, x) :: t')[i]? = some v → v.1 ≠ 9 → (w :: t)[i]? = some v := fun i v hv h9 => by
  cases i with
  | zero => simp at hv; rw [← hv] at h9; exact absurd rfl h9
  | succ i => exact h i v hv h9
/-- a value known otherwise -/
theorem Z_top {t : Nat} {x y : Int} (h : x = y) (k : Z X ρ M pc L ((t, y) :: st) n σ Q) : Z X ρ M pc L ((t, x) :: st) n σ Q := h ▸ k
end ZInv
end
section
theorem z_memp {w : Cond} (i : Nat) (h : (k2_sels lw_privs)[i]? = some w) (hc : z_chk w = true) : w ∈ z_us := List.mem_filter.mpr ⟨List.mem_append_left _ (List.mem_of_getElem? h), hc⟩
theorem z_mem1 {w : Cond} (i : Nat) (h : tables_1_1[i]? = some w) (hc : z_chk w = true) : w ∈ z_us := List.mem_filter.mpr ⟨List.mem_append_right _ (List.mem_append_left _ (List.mem_of_getElem? h)), hc⟩
theorem z_mem2 {w : Cond} (i : Nat) (h : tables_1_2[i]? = some w) (hc : z_chk w = true) : w ∈ z_us := List.mem_filter.mpr ⟨List.mem_append_right _ (List.mem_append_right _ (List.mem_append_left _ (List.mem_of_getElem? h))), hc⟩
theorem z_mem3 {w : Cond} (i : Nat) (h : tables_1_3[i]? = some w) (hc : z_chk w = true) : w ∈ z_us := List.mem_filter.mpr ⟨List.mem_append_right _ (List.mem_append_right _ (List.mem_append_right _ (List.mem_append_left _ (List.mem_of_getElem? h)))), hc⟩
theorem z_mem4 {w : Cond} (i : Nat) (h : tables_1_4[i]? = some w) (hc : z_chk w = true) : w ∈ z_us := List.mem_filter.mpr ⟨List.mem_append_right _ (List.mem_append_right _ (List.mem_append_right _ (List.mem_append_right _ (List.mem_append_left _ (List.mem_of_getElem? h))))), hc⟩
theorem z_mem5 {w : Cond} (i : Nat) (h : tables_1_5[i]? = some w) (hc : z_chk w = true) : w ∈ z_us := List.mem_filter.mpr ⟨List.mem_append_right _ (List.mem_append_right _ (List.mem_append_right _ (List.mem_append_right _ (List.mem_append_right _ (List.mem_append_left _ (List.mem_of_getElem? h)))))), hc⟩
theorem z_mem6 {w : Cond} (i : Nat) (h : tables_1_6[i]? = some w) (hc : z_chk w = true) : w ∈ z_us := List.mem_filter.mpr ⟨List.mem_append_right _ (List.mem_append_right _ (List.mem_append_right _ (List.mem_append_right _ (List.mem_append_right _ (List.mem_append_right _ (List.mem_of_getElem? h)))))), hc⟩
def z_offl : List (List (Option Nat)) := [[some 1, some 2, some 4, some 6, some 8, some 10, none], [some 1, some 2, none, none], [some 1, some 2, some 3, some 4, none, none], [some 1, some 3], [some 1, some 2, some 4, some 6, some 8, some 10], [some 1, none], [some 1, some 2, none], [some 1, some 4, some 5], [some 1, some 2, some 3, none, none, none, none, none, none], [some 1, none, none], [some 1, some 4, some 6, some 8], [some 1, some 5, some 7, some 10, some 15, some 140, some 168, some 178, some 183, some 188, some 193, none, none, none, none], [some 1, some 2, some 3, some 4, none, some 5, some 6, some 7, some 8, none, some 9, none, none, none, some 10, some 11, some 12, none, none, none, none, some 13, some 14, none, some 15, some 16, none, some 17, some 18, none]]
def z_off (ci k : Nat) : Option Nat := (z_offl.getD ci []).getD k none
/-- references that never change are where the constructors put them -/
def Fix (σ : ZM) : Prop := ∀ (a : Int) (k d : Nat), z_off (z_l a).1 k = some d → σ a k = a + d
abbrev zN : Nat := 229
theorem z_leN {a : Int} {k m : Nat} (h : z_l a = (k, m)) (hk : k ≠ 99) : a.toNat ≤ zN := by
  have h1 := (z_l_pos (a := a) (by rw [h]; exact hk)).2
  have h2 : z_lay.length = zN + 1 := by decide +kernel
  omega
theorem z_step (d : Nat) (p q : Nat × Nat) (hc : ∀ i, i < z_lay.length → z_lay.getD i (99, 0) = p → z_lay.getD (i + d) (99, 0) = q) (hp : p.1 ≠ 99) {a : Int} (h : z_l a = p) : z_l (a + d) = q := by
  have h1 := z_l_pos (a := a) (by rw [h]; exact hp)
  have h2 : (a + d).toNat = a.toNat + d := by omega
  unfold z_l at h ⊢
  rw [h2]
  exact hc _ h1.2 h
theorem Fix.get {σ : ZM} (h : Fix σ) {a : Int} {ci m : Nat} (hl : z_l a = (ci, m)) (k d : Nat) (ho : z_off ci k = some d) : σ a k = a + d := h a k d (by rw [hl]; exact ho)
theorem Fix.up {σ : ZM} (h : Fix σ) {a i x : Int} (ho : ∀ k : Nat, i = k → z_off (z_l a).1 k = none) : Fix (z_up σ a i x) := by
  intro a' k d hd
  rw [z_up_ne]
  · exact h a' k d hd
  · by_cases ha : a' = a
    · subst ha
      refine Or.inr (fun q => ?_)
      rw [ho k q.symm] at hd
      cases hd
    · exact Or.inl ha
theorem z_off_arr {c k : Nat} (h : 20 ≤ c) : z_off c k = none := by
  unfold z_off
  rw [List.getD_eq_getElem?_getD (l := z_offl), List.getElem?_eq_none (show z_offl.length ≤ c from Nat.le_trans (by decide) h)]
  rfl
theorem Fix.upA {σ : ZM} (h : Fix σ) {a i x : Int} {c m : Nat} (hl : z_l a = (c, m)) (hc : 20 ≤ c) : Fix (z_up σ a i x) := h.up (fun k _ => by rw [hl]; exact z_off_arr hc)
theorem Fix.upF {σ : ZM} (h : Fix σ) {a x : Int} {c m : Nat} (hl : z_l a = (c, m)) (k : Nat) (hc : z_off c k = none) : Fix (z_up σ a k x) := h.up (fun j hj => by
  rw [hl]
  have : j = k := by omega
  rw [this]; exact hc)
theorem zo_0_0 {a : Int} (h : z_l a = (0, 7)) : z_l (a + 1) = (23, 8) := z_step 1 _ _ (by decide +kernel) (by decide) h
theorem zo_0_1 {a : Int} (h : z_l a = (0, 7)) : z_l (a + 2) = (9, 3) := z_step 2 _ _ (by decide +kernel) (by decide) h
theorem zo_0_2 {a : Int} (h : z_l a = (0, 7)) : z_l (a + 4) = (9, 3) := z_step 4 _ _ (by decide +kernel) (by decide) h
theorem zo_0_3 {a : Int} (h : z_l a = (0, 7)) : z_l (a + 6) = (9, 3) := z_step 6 _ _ (by decide +kernel) (by decide) h
theorem zo_0_4 {a : Int} (h : z_l a = (0, 7)) : z_l (a + 8) = (9, 3) := z_step 8 _ _ (by decide +kernel) (by decide) h
theorem zo_0_5 {a : Int} (h : z_l a = (0, 7)) : z_l (a + 10) = (9, 3) := z_step 10 _ _ (by decide +kernel) (by decide) h
theorem zo_1_0 {a : Int} (h : z_l a = (1, 4)) : z_l (a + 1) = (20, 13) := z_step 1 _ _ (by decide +kernel) (by decide) h
theorem zo_1_1 {a : Int} (h : z_l a = (1, 4)) : z_l (a + 2) = (20, 13) := z_step 2 _ _ (by decide +kernel) (by decide) h
theorem zo_2_0 {a : Int} (h : z_l a = (2, 6)) : z_l (a + 1) = (20, 8) := z_step 1 _ _ (by decide +kernel) (by decide) h
theorem zo_2_1 {a : Int} (h : z_l a = (2, 6)) : z_l (a + 2) = (20, 64) := z_step 2 _ _ (by decide +kernel) (by decide) h
theorem zo_2_2 {a : Int} (h : z_l a = (2, 6)) : z_l (a + 3) = (20, 8) := z_step 3 _ _ (by decide +kernel) (by decide) h
theorem zo_2_3 {a : Int} (h : z_l a = (2, 6)) : z_l (a + 4) = (20, 8) := z_step 4 _ _ (by decide +kernel) (by decide) h
theorem zo_3_0 {a : Int} (h : z_l a = (3, 2)) : z_l (a + 1) = (9, 3) := z_step 1 _ _ (by decide +kernel) (by decide) h
theorem zo_3_1 {a : Int} (h : z_l a = (3, 2)) : z_l (a + 3) = (9, 3) := z_step 3 _ _ (by decide +kernel) (by decide) h
theorem zo_4_0 {a : Int} (h : z_l a = (4, 6)) : z_l (a + 1) = (23, 56) := z_step 1 _ _ (by decide +kernel) (by decide) h
theorem zo_4_1 {a : Int} (h : z_l a = (4, 6)) : z_l (a + 2) = (9, 3) := z_step 2 _ _ (by decide +kernel) (by decide) h
theorem zo_4_2 {a : Int} (h : z_l a = (4, 6)) : z_l (a + 4) = (9, 3) := z_step 4 _ _ (by decide +kernel) (by decide) h
theorem zo_4_3 {a : Int} (h : z_l a = (4, 6)) : z_l (a + 6) = (9, 3) := z_step 6 _ _ (by decide +kernel) (by decide) h
theorem zo_4_4 {a : Int} (h : z_l a = (4, 6)) : z_l (a + 8) = (9, 3) := z_step 8 _ _ (by decide +kernel) (by decide) h
theorem zo_4_5 {a : Int} (h : z_l a = (4, 6)) : z_l (a + 10) = (1, 4) := z_step 10 _ _ (by decide +kernel) (by decide) h
theorem zo_5_0 {a : Int} (h : z_l a = (5, 2)) : z_l (a + 1) = (20, 486) := z_step 1 _ _ (by decide +kernel) (by decide) h
theorem zo_6_0 {a : Int} (h : z_l a = (6, 3)) : z_l (a + 1) = (20, (z_l (a + 1)).2) := by
  have h1 : (z_l (a + (1 : Nat))).1 = 20 := by
    have h2 := z_l_pos (a := a) (by rw [h]; decide)
    have h3 : (a + (1 : Nat)).toNat = a.toNat + 1 := by omega
    have hc : ∀ i, i < z_lay.length → z_lay.getD i (99, 0) = (6, 3) → (z_lay.getD (i + 1) (99, 0)).1 = 20 := by decide +kernel
    unfold z_l at h ⊢
    rw [h3]
    exact hc _ h2.2 h
  exact Prod.ext h1 rfl
theorem zo_6_1 {a : Int} (h : z_l a = (6, 3)) : z_l (a + 2) = (20, (z_l (a + 2)).2) := by
  have h1 : (z_l (a + (2 : Nat))).1 = 20 := by
    have h2 := z_l_pos (a := a) (by rw [h]; decide)
    have h3 : (a + (2 : Nat)).toNat = a.toNat + 2 := by omega
    have hc : ∀ i, i < z_lay.length → z_lay.getD i (99, 0) = (6, 3) → (z_lay.getD (i + 2) (99, 0)).1 = 20 := by decide +kernel
    unfold z_l at h ⊢
    rw [h3]
    exact hc _ h2.2 h
  exact Prod.ext h1 rfl
theorem zo_7_0 {a : Int} (h : z_l a = (7, 3)) : z_l (a + 1) = (6, 3) := z_step 1 _ _ (by decide +kernel) (by decide) h
theorem zo_7_1 {a : Int} (h : z_l a = (7, 3)) : z_l (a + 4) = (20, 8) := z_step 4 _ _ (by decide +kernel) (by decide) h
theorem zo_7_2 {a : Int} (h : z_l a = (7, 3)) : z_l (a + 5) = (20, 8) := z_step 5 _ _ (by decide +kernel) (by decide) h
theorem zo_8_0 {a : Int} (h : z_l a = (8, 9)) : z_l (a + 1) = (21, 480) := z_step 1 _ _ (by decide +kernel) (by decide) h
theorem zo_8_1 {a : Int} (h : z_l a = (8, 9)) : z_l (a + 2) = (20, 8) := z_step 2 _ _ (by decide +kernel) (by decide) h
theorem zo_8_2 {a : Int} (h : z_l a = (8, 9)) : z_l (a + 3) = (20, 8) := z_step 3 _ _ (by decide +kernel) (by decide) h
theorem zo_9_0 {a : Int} (h : z_l a = (9, 3)) : z_l (a + 1) = (20, 12) := z_step 1 _ _ (by decide +kernel) (by decide) h
theorem zo_10_0 {a : Int} (h : z_l a = (10, 4)) : z_l (a + 1) = (1, 4) := z_step 1 _ _ (by decide +kernel) (by decide) h
theorem zo_10_1 {a : Int} (h : z_l a = (10, 4)) : z_l (a + 4) = (9, 3) := z_step 4 _ _ (by decide +kernel) (by decide) h
theorem zo_10_2 {a : Int} (h : z_l a = (10, 4)) : z_l (a + 6) = (9, 3) := z_step 6 _ _ (by decide +kernel) (by decide) h
theorem zo_10_3 {a : Int} (h : z_l a = (10, 4)) : z_l (a + 8) = (9, 3) := z_step 8 _ _ (by decide +kernel) (by decide) h
theorem zo_11_0 {a : Int} (h : z_l a = (11, 15)) : z_l (a + 1) = (8, 9) := z_step 1 _ _ (by decide +kernel) (by decide) h
theorem zo_11_1 {a : Int} (h : z_l a = (11, 15)) : z_l (a + 5) = (5, 2) := z_step 5 _ _ (by decide +kernel) (by decide) h
theorem zo_11_2 {a : Int} (h : z_l a = (11, 15)) : z_l (a + 7) = (6, 3) := z_step 7 _ _ (by decide +kernel) (by decide) h
theorem zo_11_3 {a : Int} (h : z_l a = (11, 15)) : z_l (a + 10) = (2, 6) := z_step 10 _ _ (by decide +kernel) (by decide) h
theorem zo_11_4 {a : Int} (h : z_l a = (11, 15)) : z_l (a + 15) = (4, 6) := z_step 15 _ _ (by decide +kernel) (by decide) h
theorem zo_11_5 {a : Int} (h : z_l a = (11, 15)) : z_l (a + 140) = (0, 7) := z_step 140 _ _ (by decide +kernel) (by decide) h
theorem zo_11_6 {a : Int} (h : z_l a = (11, 15)) : z_l (a + 168) = (10, 4) := z_step 168 _ _ (by decide +kernel) (by decide) h
theorem zo_11_7 {a : Int} (h : z_l a = (11, 15)) : z_l (a + 178) = (3, 2) := z_step 178 _ _ (by decide +kernel) (by decide) h
theorem zo_11_8 {a : Int} (h : z_l a = (11, 15)) : z_l (a + 183) = (3, 2) := z_step 183 _ _ (by decide +kernel) (by decide) h
theorem zo_11_9 {a : Int} (h : z_l a = (11, 15)) : z_l (a + 188) = (3, 2) := z_step 188 _ _ (by decide +kernel) (by decide) h
theorem zo_11_10 {a : Int} (h : z_l a = (11, 15)) : z_l (a + 193) = (3, 2) := z_step 193 _ _ (by decide +kernel) (by decide) h
theorem zo_12_0 {a : Int} (h : z_l a = (12, 30)) : z_l (a + 1) = (21, 2112) := z_step 1 _ _ (by decide +kernel) (by decide) h
theorem zo_12_1 {a : Int} (h : z_l a = (12, 30)) : z_l (a + 2) = (20, 8) := z_step 2 _ _ (by decide +kernel) (by decide) h
theorem zo_12_2 {a : Int} (h : z_l a = (12, 30)) : z_l (a + 3) = (20, 8) := z_step 3 _ _ (by decide +kernel) (by decide) h
theorem zo_12_3 {a : Int} (h : z_l a = (12, 30)) : z_l (a + 4) = (21, 480) := z_step 4 _ _ (by decide +kernel) (by decide) h
theorem zo_12_5 {a : Int} (h : z_l a = (12, 30)) : z_l (a + 5) = (20, 8) := z_step 5 _ _ (by decide +kernel) (by decide) h
theorem zo_12_6 {a : Int} (h : z_l a = (12, 30)) : z_l (a + 6) = (20, 8) := z_step 6 _ _ (by decide +kernel) (by decide) h
theorem zo_12_7 {a : Int} (h : z_l a = (12, 30)) : z_l (a + 7) = (20, 8) := z_step 7 _ _ (by decide +kernel) (by decide) h
theorem zo_12_8 {a : Int} (h : z_l a = (12, 30)) : z_l (a + 8) = (20, 8) := z_step 8 _ _ (by decide +kernel) (by decide) h
theorem zo_12_10 {a : Int} (h : z_l a = (12, 30)) : z_l (a + 9) = (20, 486) := z_step 9 _ _ (by decide +kernel) (by decide) h
theorem zo_12_14 {a : Int} (h : z_l a = (12, 30)) : z_l (a + 10) = (21, 16) := z_step 10 _ _ (by decide +kernel) (by decide) h
theorem zo_12_15 {a : Int} (h : z_l a = (12, 30)) : z_l (a + 11) = (21, 16) := z_step 11 _ _ (by decide +kernel) (by decide) h
theorem zo_12_16 {a : Int} (h : z_l a = (12, 30)) : z_l (a + 12) = (21, 16) := z_step 12 _ _ (by decide +kernel) (by decide) h
theorem zo_12_21 {a : Int} (h : z_l a = (12, 30)) : z_l (a + 13) = (20, 10) := z_step 13 _ _ (by decide +kernel) (by decide) h
theorem zo_12_22 {a : Int} (h : z_l a = (12, 30)) : z_l (a + 14) = (20, 60) := z_step 14 _ _ (by decide +kernel) (by decide) h
theorem zo_12_24 {a : Int} (h : z_l a = (12, 30)) : z_l (a + 15) = (20, 6) := z_step 15 _ _ (by decide +kernel) (by decide) h
theorem zo_12_25 {a : Int} (h : z_l a = (12, 30)) : z_l (a + 16) = (20, 6) := z_step 16 _ _ (by decide +kernel) (by decide) h
theorem zo_12_27 {a : Int} (h : z_l a = (12, 30)) : z_l (a + 17) = (20, 8) := z_step 17 _ _ (by decide +kernel) (by decide) h
theorem zo_12_28 {a : Int} (h : z_l a = (12, 30)) : z_l (a + 18) = (22, 8) := z_step 18 _ _ (by decide +kernel) (by decide) h
abbrev mX0_init : ZT := (yX0_init, cX0_init, 2, none)
abbrev rX0_init (n1 : Nat) : ZR := (2, 40, n1)
theorem kX0_init : z_k mX0_init 0 := ⟨by decide +kernel, z_mem1 211 rfl rfl, z_mem1 10 rfl rfl, by decide +kernel, by decide +kernel, by decide +kernel⟩
theorem iX0_init : Cond.instanceMethod yX0_init ∈ z_us := z_mem1 210 rfl rfl
abbrev mX0_take : ZT := (yX0_take, cX0_take, 7, none)
abbrev rX0_take (n1 : Nat) : ZR := (3, 83, n1)
theorem kX0_take : z_k mX0_take 4 := ⟨by decide +kernel, z_mem3 216 rfl rfl, z_mem1 10 rfl rfl, by decide +kernel, by decide +kernel, by decide +kernel⟩
theorem iX0_take : Cond.instanceMethod yX0_take ∈ z_us := z_mem3 214 rfl rfl
theorem sX0_take : Cond.selects RX0 yX0_take yX0_take ∈ z_us := z_mem3 215 rfl rfl
abbrev mX0_takeWeights : ZT := (yX0_takeWeights, cX0_takeWeights, 6, none)
abbrev rX0_takeWeights (n1 : Nat) : ZR := (2, 58, n1)
theorem kX0_takeWeights : z_k mX0_takeWeights 2 := ⟨by decide +kernel, z_mem3 222 rfl rfl, z_mem1 10 rfl rfl, by decide +kernel, by decide +kernel, by decide +kernel⟩
theorem iX0_takeWeights : Cond.instanceMethod yX0_takeWeights ∈ z_us := z_mem3 221 rfl rfl
theorem sX0_takeWeights : Cond.selects RX0 yX0_takeWeights yX0_takeWeights ∈ z_us := z_memp 19 rfl rfl
abbrev mX1_init : ZT := (yX1_init, cX1_init, 1, none)
abbrev rX1_init (n1 : Nat) : ZR := (1, 20, n1)
theorem kX1_init : z_k mX1_init 0 := ⟨by decide +kernel, z_mem1 171 rfl rfl, z_mem1 9 rfl rfl, by decide +kernel, by decide +kernel, by decide +kernel⟩
theorem iX1_init : Cond.instanceMethod yX1_init ∈ z_us := z_mem1 170 rfl rfl
abbrev mX1_divide : ZT := (yX1_divide, cX1_divide, 9, none)
abbrev rX1_divide (n1 : Nat) : ZR := (2, 52, n1)
theorem kX1_divide : z_k mX1_divide 3 := ⟨by decide +kernel, z_mem3 180 rfl rfl, z_mem1 9 rfl rfl, by decide +kernel, by decide +kernel, by decide +kernel⟩
theorem iX1_divide : Cond.instanceMethod yX1_divide ∈ z_us := z_mem3 178 rfl rfl
theorem sX1_divide : Cond.selects RX1 yX1_divide yX1_divide ∈ z_us := z_mem3 179 rfl rfl
abbrev mX1_takeRest : ZT := (yX1_takeRest, cX1_takeRest, 9, none)
abbrev rX1_takeRest (n1 : Nat) : ZR := (1, 22, n1)
theorem kX1_takeRest : z_k mX1_takeRest 1 := ⟨by decide +kernel, z_mem4 16 rfl rfl, z_mem1 9 rfl rfl, by decide +kernel, by decide +kernel, by decide +kernel⟩
theorem iX1_takeRest : Cond.instanceMethod yX1_takeRest ∈ z_us := z_mem4 14 rfl rfl
theorem sX1_takeRest : Cond.selects RX1 yX1_takeRest yX1_takeRest ∈ z_us := z_mem4 15 rfl rfl
abbrev mX1_divideByPart : ZT := (yX1_divideByPart, cX1_divideByPart, 12, none)
abbrev rX1_divideByPart (n1 : Nat) : ZR := (1, 21, n1)
theorem kX1_divideByPart : z_k mX1_divideByPart 3 := ⟨by decide +kernel, z_mem3 184 rfl rfl, z_mem1 9 rfl rfl, by decide +kernel, by decide +kernel, by decide +kernel⟩
theorem iX1_divideByPart : Cond.instanceMethod yX1_divideByPart ∈ z_us := z_mem3 183 rfl rfl
theorem sX1_divideByPart : Cond.selects RX1 yX1_divideByPart yX1_divideByPart ∈ z_us := z_memp 14 rfl rfl
abbrev mX1_copyScaled : ZT := (yX1_copyScaled, cX1_copyScaled, 9, none)
abbrev rX1_copyScaled (n1 : Nat) : ZR := (0, 0, n1)
theorem kX1_copyScaled : z_k mX1_copyScaled 3 := ⟨by decide +kernel, z_mem3 191 rfl rfl, z_mem1 9 rfl rfl, by decide +kernel, by decide +kernel, by decide +kernel⟩
theorem iX1_copyScaled : Cond.instanceMethod yX1_copyScaled ∈ z_us := z_mem3 190 rfl rfl
theorem sX1_copyScaled : Cond.selects RX1 yX1_copyScaled yX1_copyScaled ∈ z_us := z_memp 15 rfl rfl
abbrev mX1_guessPart : ZT := (yX1_guessPart, cX1_guessPart, 12, (some .long))
abbrev rX1_guessPart (n1 : Nat) : ZR := (0, 0, n1)
theorem kX1_guessPart : z_k mX1_guessPart 1 := ⟨by decide +kernel, z_mem3 196 rfl rfl, z_mem1 9 rfl rfl, by decide +kernel, by decide +kernel, by decide +kernel⟩
theorem iX1_guessPart : Cond.instanceMethod yX1_guessPart ∈ z_us := z_mem3 195 rfl rfl
theorem sX1_guessPart : Cond.selects RX1 yX1_guessPart yX1_guessPart ∈ z_us := z_memp 16 rfl rfl
abbrev mX1_takeAway : ZT := (yX1_takeAway, cX1_takeAway, 11, (some .boolean))
abbrev rX1_takeAway (n1 : Nat) : ZR := (0, 0, n1)
theorem kX1_takeAway : z_k mX1_takeAway 2 := ⟨by decide +kernel, z_mem3 200 rfl rfl, z_mem1 9 rfl rfl, by decide +kernel, by decide +kernel, by decide +kernel⟩
theorem iX1_takeAway : Cond.instanceMethod yX1_takeAway ∈ z_us := z_mem3 199 rfl rfl
theorem sX1_takeAway : Cond.selects RX1 yX1_takeAway yX1_takeAway ∈ z_us := z_memp 17 rfl rfl
abbrev mX1_giveBack : ZT := (yX1_giveBack, cX1_giveBack, 7, none)
abbrev rX1_giveBack (n1 : Nat) : ZR := (0, 0, n1)
theorem kX1_giveBack : z_k mX1_giveBack 1 := ⟨by decide +kernel, z_mem3 204 rfl rfl, z_mem1 9 rfl rfl, by decide +kernel, by decide +kernel, by decide +kernel⟩
theorem iX1_giveBack : Cond.instanceMethod yX1_giveBack ∈ z_us := z_mem3 203 rfl rfl
theorem sX1_giveBack : Cond.selects RX1 yX1_giveBack yX1_giveBack ∈ z_us := z_memp 18 rfl rfl
abbrev mX2_init : ZT := (yX2_init, cX2_init, 1, none)
abbrev rX2_init (n1 : Nat) : ZR := (1, 20, n1)
theorem kX2_init : z_k mX2_init 0 := ⟨by decide +kernel, z_mem1 108 rfl rfl, z_mem1 6 rfl rfl, by decide +kernel, by decide +kernel, by decide +kernel⟩
theorem iX2_init : Cond.instanceMethod yX2_init ∈ z_us := z_mem1 107 rfl rfl
abbrev mX2_unknowns : ZT := (yX2_unknowns, cX2_unknowns, 1, (some .int))
abbrev rX2_unknowns (n1 : Nat) : ZR := (1, 21, n1)
theorem kX2_unknowns : z_k mX2_unknowns 0 := ⟨by decide +kernel, z_mem3 145 rfl rfl, z_mem1 6 rfl rfl, by decide +kernel, by decide +kernel, by decide +kernel⟩
theorem iX2_unknowns : Cond.instanceMethod yX2_unknowns ∈ z_us := z_mem3 143 rfl rfl
theorem sX2_unknowns : Cond.selects RX2 yX2_unknowns yX2_unknowns ∈ z_us := z_mem3 144 rfl rfl
abbrev mX2_chooseAllBut : ZT := (yX2_chooseAllBut, cX2_chooseAllBut, 4, none)
abbrev rX2_chooseAllBut (n1 : Nat) : ZR := (0, 0, n1)
theorem kX2_chooseAllBut : z_k mX2_chooseAllBut 2 := ⟨by decide +kernel, z_mem4 28 rfl rfl, z_mem1 6 rfl rfl, by decide +kernel, by decide +kernel, by decide +kernel⟩
theorem iX2_chooseAllBut : Cond.instanceMethod yX2_chooseAllBut ∈ z_us := z_mem4 26 rfl rfl
theorem sX2_chooseAllBut : Cond.selects RX2 yX2_chooseAllBut yX2_chooseAllBut ∈ z_us := z_mem4 27 rfl rfl
abbrev mX2_chooseNearest : ZT := (yX2_chooseNearest, cX2_chooseNearest, 6, none)
abbrev rX2_chooseNearest (n1 : Nat) : ZR := (2, 44, n1)
theorem kX2_chooseNearest : z_k mX2_chooseNearest 3 := ⟨by decide +kernel, z_mem3 95 rfl rfl, z_mem1 6 rfl rfl, by decide +kernel, by decide +kernel, by decide +kernel⟩
theorem iX2_chooseNearest : Cond.instanceMethod yX2_chooseNearest ∈ z_us := z_mem3 93 rfl rfl
theorem sX2_chooseNearest : Cond.selects RX2 yX2_chooseNearest yX2_chooseNearest ∈ z_us := z_mem3 94 rfl rfl
abbrev mX2_countNearer : ZT := (yX2_countNearer, cX2_countNearer, 5, (some .int))
abbrev rX2_countNearer (n1 : Nat) : ZR := (0, 0, n1)
theorem kX2_countNearer : z_k mX2_countNearer 2 := ⟨by decide +kernel, z_mem3 106 rfl rfl, z_mem1 6 rfl rfl, by decide +kernel, by decide +kernel, by decide +kernel⟩
theorem iX2_countNearer : Cond.instanceMethod yX2_countNearer ∈ z_us := z_mem3 105 rfl rfl
theorem sX2_countNearer : Cond.selects RX2 yX2_countNearer yX2_countNearer ∈ z_us := z_memp 8 rfl rfl
abbrev mX2_prepare : ZT := (yX2_prepare, cX2_prepare, 6, none)
abbrev rX2_prepare (n1 : Nat) : ZR := (4, 95, n1)
theorem kX2_prepare : z_k mX2_prepare 5 := ⟨by decide +kernel, z_mem3 110 rfl rfl, z_mem1 6 rfl rfl, by decide +kernel, by decide +kernel, by decide +kernel⟩
theorem iX2_prepare : Cond.instanceMethod yX2_prepare ∈ z_us := z_mem3 108 rfl rfl
theorem sX2_prepare : Cond.selects RX2 yX2_prepare yX2_prepare ∈ z_us := z_mem3 109 rfl rfl
abbrev mX2_measure : ZT := (yX2_measure, cX2_measure, 8, none)
abbrev rX2_measure (n1 : Nat) : ZR := (3, 66, n1)
theorem kX2_measure : z_k mX2_measure 4 := ⟨by decide +kernel, z_mem3 114 rfl rfl, z_mem1 6 rfl rfl, by decide +kernel, by decide +kernel, by decide +kernel⟩
theorem iX2_measure : Cond.instanceMethod yX2_measure ∈ z_us := z_mem3 112 rfl rfl
theorem sX2_measure : Cond.selects RX2 yX2_measure yX2_measure ∈ z_us := z_mem3 113 rfl rfl
abbrev mX2_reachOut : ZT := (yX2_reachOut, cX2_reachOut, 8, none)
abbrev rX2_reachOut (n1 : Nat) : ZR := (2, 44, n1)
theorem kX2_reachOut : z_k mX2_reachOut 4 := ⟨by decide +kernel, z_mem3 124 rfl rfl, z_mem1 6 rfl rfl, by decide +kernel, by decide +kernel, by decide +kernel⟩
theorem iX2_reachOut : Cond.instanceMethod yX2_reachOut ∈ z_us := z_mem3 123 rfl rfl
theorem sX2_reachOut : Cond.selects RX2 yX2_reachOut yX2_reachOut ∈ z_us := z_memp 9 rfl rfl
abbrev mX2_unlikeWithin : ZT := (yX2_unlikeWithin, cX2_unlikeWithin, 7, (some .int))
abbrev rX2_unlikeWithin (n1 : Nat) : ZR := (3, 66, n1)
theorem kX2_unlikeWithin : z_k mX2_unlikeWithin 3 := ⟨by decide +kernel, z_mem3 212 rfl rfl, z_mem1 6 rfl rfl, by decide +kernel, by decide +kernel, by decide +kernel⟩
theorem iX2_unlikeWithin : Cond.instanceMethod yX2_unlikeWithin ∈ z_us := z_mem3 210 rfl rfl
theorem sX2_unlikeWithin : Cond.selects RX2 yX2_unlikeWithin yX2_unlikeWithin ∈ z_us := z_mem3 211 rfl rfl
abbrev mX2_fillSquare : ZT := (yX2_fillSquare, cX2_fillSquare, 5, none)
abbrev rX2_fillSquare (n1 : Nat) : ZR := (3, 71, n1)
theorem kX2_fillSquare : z_k mX2_fillSquare 1 := ⟨by decide +kernel, z_mem3 128 rfl rfl, z_mem1 6 rfl rfl, by decide +kernel, by decide +kernel, by decide +kernel⟩
theorem iX2_fillSquare : Cond.instanceMethod yX2_fillSquare ∈ z_us := z_mem3 126 rfl rfl
theorem sX2_fillSquare : Cond.selects RX2 yX2_fillSquare yX2_fillSquare ∈ z_us := z_mem3 127 rfl rfl
abbrev mX2_fillRight : ZT := (yX2_fillRight, cX2_fillRight, 4, none)
abbrev rX2_fillRight (n1 : Nat) : ZR := (3, 71, n1)
theorem kX2_fillRight : z_k mX2_fillRight 1 := ⟨by decide +kernel, z_mem3 141 rfl rfl, z_mem1 6 rfl rfl, by decide +kernel, by decide +kernel, by decide +kernel⟩
theorem iX2_fillRight : Cond.instanceMethod yX2_fillRight ∈ z_us := z_mem3 140 rfl rfl
theorem sX2_fillRight : Cond.selects RX2 yX2_fillRight yX2_fillRight ∈ z_us := z_memp 10 rfl rfl
abbrev mX2_tellOff : ZT := (yX2_tellOff, cX2_tellOff, 8, none)
abbrev rX2_tellOff (n1 : Nat) : ZR := (2, 58, n1)
theorem kX2_tellOff : z_k mX2_tellOff 4 := ⟨by decide +kernel, z_mem4 32 rfl rfl, z_mem1 6 rfl rfl, by decide +kernel, by decide +kernel, by decide +kernel⟩
theorem iX2_tellOff : Cond.instanceMethod yX2_tellOff ∈ z_us := z_mem4 30 rfl rfl
theorem sX2_tellOff : Cond.selects RX2 yX2_tellOff yX2_tellOff ∈ z_us := z_mem4 31 rfl rfl
abbrev mX3_init : ZT := (yX3_init, cX3_init, 1, none)
abbrev rX3_init (n1 : Nat) : ZR := (2, 47, n1)
theorem kX3_init : z_k mX3_init 0 := ⟨by decide +kernel, z_mem2 31 rfl rfl, z_mem1 12 rfl rfl, by decide +kernel, by decide +kernel, by decide +kernel⟩
theorem iX3_init : Cond.instanceMethod yX3_init ∈ z_us := z_mem2 30 rfl rfl
abbrev mX3_copyFrom : ZT := (yX3_copyFrom, cX3_copyFrom, 2, none)
abbrev rX3_copyFrom (n1 : Nat) : ZR := (2, 44, n1)
theorem kX3_copyFrom : z_k mX3_copyFrom 1 := ⟨by decide +kernel, z_mem4 58 rfl rfl, z_mem1 12 rfl rfl, by decide +kernel, by decide +kernel, by decide +kernel⟩
theorem iX3_copyFrom : Cond.instanceMethod yX3_copyFrom ∈ z_us := z_mem4 56 rfl rfl
theorem sX3_copyFrom : Cond.selects RX3 yX3_copyFrom yX3_copyFrom ∈ z_us := z_mem4 57 rfl rfl
abbrev mX4_init : ZT := (yX4_init, cX4_init, 2, none)
abbrev rX4_init (n1 : Nat) : ZR := (2, 40, n1)
theorem kX4_init : z_k mX4_init 0 := ⟨by decide +kernel, z_mem1 138 rfl rfl, z_mem1 7 rfl rfl, by decide +kernel, by decide +kernel, by decide +kernel⟩
theorem iX4_init : Cond.instanceMethod yX4_init ∈ z_us := z_mem1 137 rfl rfl
abbrev mX4_cell : ZT := (yX4_cell, cX4_cell, 4, (some (.object "NeighbourBoard$Whole")))
abbrev rX4_cell (n1 : Nat) : ZR := (0, 0, n1)
theorem kX4_cell : z_k mX4_cell 2 := ⟨by decide +kernel, z_mem3 136 rfl rfl, z_mem1 7 rfl rfl, by decide +kernel, by decide +kernel, by decide +kernel⟩
theorem iX4_cell : Cond.instanceMethod yX4_cell ∈ z_us := z_mem3 134 rfl rfl
theorem sX4_cell : Cond.selects RX4 yX4_cell yX4_cell ∈ z_us := z_mem3 135 rfl rfl
abbrev mX4_put : ZT := (yX4_put, cX4_put, 5, none)
abbrev rX4_put (n1 : Nat) : ZR := (2, 47, n1)
theorem kX4_put : z_k mX4_put 3 := ⟨by decide +kernel, z_mem3 132 rfl rfl, z_mem1 7 rfl rfl, by decide +kernel, by decide +kernel, by decide +kernel⟩
theorem iX4_put : Cond.instanceMethod yX4_put ∈ z_us := z_mem3 130 rfl rfl
theorem sX4_put : Cond.selects RX4 yX4_put yX4_put ∈ z_us := z_mem3 131 rfl rfl
abbrev mX4_solve : ZT := (yX4_solve, cX4_solve, 3, (some .boolean))
abbrev rX4_solve (n1 : Nat) : ZR := (4, 115, n1)
theorem kX4_solve : z_k mX4_solve 1 := ⟨by decide +kernel, z_mem3 150 rfl rfl, z_mem1 7 rfl rfl, by decide +kernel, by decide +kernel, by decide +kernel⟩
theorem iX4_solve : Cond.instanceMethod yX4_solve ∈ z_us := z_mem3 148 rfl rfl
theorem sX4_solve : Cond.selects RX4 yX4_solve yX4_solve ∈ z_us := z_mem3 149 rfl rfl
abbrev mX4_judge : ZT := (yX4_judge, cX4_judge, 5, (some .int))
abbrev rX4_judge (n1 : Nat) : ZR := (4, 115, n1)
theorem kX4_judge : z_k mX4_judge 1 := ⟨by decide +kernel, z_mem4 73 rfl rfl, z_mem1 7 rfl rfl, by decide +kernel, by decide +kernel, by decide +kernel⟩
theorem iX4_judge : Cond.instanceMethod yX4_judge ∈ z_us := z_mem4 71 rfl rfl
theorem sX4_judge : Cond.selects RX4 yX4_judge yX4_judge ∈ z_us := z_mem4 72 rfl rfl
abbrev mX4_isZeroBehind : ZT := (yX4_isZeroBehind, cX4_isZeroBehind, 4, (some .boolean))
abbrev rX4_isZeroBehind (n1 : Nat) : ZR := (1, 23, n1)
theorem kX4_isZeroBehind : z_k mX4_isZeroBehind 2 := ⟨by decide +kernel, z_mem4 77 rfl rfl, z_mem1 7 rfl rfl, by decide +kernel, by decide +kernel, by decide +kernel⟩
theorem iX4_isZeroBehind : Cond.instanceMethod yX4_isZeroBehind ∈ z_us := z_mem4 76 rfl rfl
theorem sX4_isZeroBehind : Cond.selects RX4 yX4_isZeroBehind yX4_isZeroBehind ∈ z_us := z_memp 25 rfl rfl
abbrev mX4_bringPivot : ZT := (yX4_bringPivot, cX4_bringPivot, 6, (some .boolean))
abbrev rX4_bringPivot (n1 : Nat) : ZR := (1, 23, n1)
theorem kX4_bringPivot : z_k mX4_bringPivot 2 := ⟨by decide +kernel, z_mem3 154 rfl rfl, z_mem1 7 rfl rfl, by decide +kernel, by decide +kernel, by decide +kernel⟩
theorem iX4_bringPivot : Cond.instanceMethod yX4_bringPivot ∈ z_us := z_mem3 153 rfl rfl
theorem sX4_bringPivot : Cond.selects RX4 yX4_bringPivot yX4_bringPivot ∈ z_us := z_memp 11 rfl rfl
abbrev mX4_clearColumn : ZT := (yX4_clearColumn, cX4_clearColumn, 16, none)
abbrev rX4_clearColumn (n1 : Nat) : ZR := (3, 80, n1)
theorem kX4_clearColumn : z_k mX4_clearColumn 4 := ⟨by decide +kernel, z_mem3 158 rfl rfl, z_mem1 7 rfl rfl, by decide +kernel, by decide +kernel, by decide +kernel⟩
theorem iX4_clearColumn : Cond.instanceMethod yX4_clearColumn ∈ z_us := z_mem3 157 rfl rfl
theorem sX4_clearColumn : Cond.selects RX4 yX4_clearColumn yX4_clearColumn ∈ z_us := z_memp 12 rfl rfl
abbrev mX5_init : ZT := (yX5_init, cX5_init, 1, none)
abbrev rX5_init (n1 : Nat) : ZR := (1, 20, n1)
theorem kX5_init : z_k mX5_init 0 := ⟨by decide +kernel, z_mem1 68 rfl rfl, z_mem1 3 rfl rfl, by decide +kernel, by decide +kernel, by decide +kernel⟩
theorem iX5_init : Cond.instanceMethod yX5_init ∈ z_us := z_mem1 67 rfl rfl
abbrev mX5_has : ZT := (yX5_has, cX5_has, 2, (some .boolean))
abbrev rX5_has (n1 : Nat) : ZR := (0, 0, n1)
theorem kX5_has : z_k mX5_has 1 := ⟨by decide +kernel, z_mem3 56 rfl rfl, z_mem1 3 rfl rfl, by decide +kernel, by decide +kernel, by decide +kernel⟩
theorem iX5_has : Cond.instanceMethod yX5_has ∈ z_us := z_mem3 54 rfl rfl
theorem sX5_has : Cond.selects RX5 yX5_has yX5_has ∈ z_us := z_mem3 55 rfl rfl
abbrev mX5_isFull : ZT := (yX5_isFull, cX5_isFull, 1, (some .boolean))
abbrev rX5_isFull (n1 : Nat) : ZR := (0, 0, n1)
theorem kX5_isFull : z_k mX5_isFull 0 := ⟨by decide +kernel, z_mem3 19 rfl rfl, z_mem1 3 rfl rfl, by decide +kernel, by decide +kernel, by decide +kernel⟩
theorem iX5_isFull : Cond.instanceMethod yX5_isFull ∈ z_us := z_mem3 17 rfl rfl
theorem sX5_isFull : Cond.selects RX5 yX5_isFull yX5_isFull ∈ z_us := z_mem3 18 rfl rfl
abbrev mX5_tell : ZT := (yX5_tell, cX5_tell, 3, (some .int))
abbrev rX5_tell (n1 : Nat) : ZR := (1, 21, n1)
theorem kX5_tell : z_k mX5_tell 2 := ⟨by decide +kernel, z_mem3 64 rfl rfl, z_mem1 3 rfl rfl, by decide +kernel, by decide +kernel, by decide +kernel⟩
theorem iX5_tell : Cond.instanceMethod yX5_tell ∈ z_us := z_mem3 62 rfl rfl
theorem sX5_tell : Cond.selects RX5 yX5_tell yX5_tell ∈ z_us := z_mem3 63 rfl rfl
abbrev mX5_draft : ZT := (yX5_draft, cX5_draft, 3, none)
abbrev rX5_draft (n1 : Nat) : ZR := (1, 20, n1)
theorem kX5_draft : z_k mX5_draft 2 := ⟨by decide +kernel, z_mem3 30 rfl rfl, z_mem1 3 rfl rfl, by decide +kernel, by decide +kernel, by decide +kernel⟩
theorem iX5_draft : Cond.instanceMethod yX5_draft ∈ z_us := z_mem3 28 rfl rfl
theorem sX5_draft : Cond.selects RX5 yX5_draft yX5_draft ∈ z_us := z_mem3 29 rfl rfl
abbrev mX5_draftSlope : ZT := (yX5_draftSlope, cX5_draftSlope, 4, none)
abbrev rX5_draftSlope (n1 : Nat) : ZR := (2, 42, n1)
theorem kX5_draftSlope : z_k mX5_draftSlope 2 := ⟨by decide +kernel, z_mem3 23 rfl rfl, z_mem1 3 rfl rfl, by decide +kernel, by decide +kernel, by decide +kernel⟩
theorem iX5_draftSlope : Cond.instanceMethod yX5_draftSlope ∈ z_us := z_mem3 21 rfl rfl
theorem sX5_draftSlope : Cond.selects RX5 yX5_draftSlope yX5_draftSlope ∈ z_us := z_mem3 22 rfl rfl
abbrev mX5_draftBoth : ZT := (yX5_draftBoth, cX5_draftBoth, 5, (some .boolean))
abbrev rX5_draftBoth (n1 : Nat) : ZR := (2, 43, n1)
theorem kX5_draftBoth : z_k mX5_draftBoth 2 := ⟨by decide +kernel, z_mem3 60 rfl rfl, z_mem1 3 rfl rfl, by decide +kernel, by decide +kernel, by decide +kernel⟩
theorem iX5_draftBoth : Cond.instanceMethod yX5_draftBoth ∈ z_us := z_mem3 58 rfl rfl
theorem sX5_draftBoth : Cond.selects RX5 yX5_draftBoth yX5_draftBoth ∈ z_us := z_mem3 59 rfl rfl
abbrev mX5_keepDraft : ZT := (yX5_keepDraft, cX5_keepDraft, 1, (some .int))
abbrev rX5_keepDraft (n1 : Nat) : ZR := (1, 20, n1)
theorem kX5_keepDraft : z_k mX5_keepDraft 0 := ⟨by decide +kernel, z_mem3 35 rfl rfl, z_mem1 3 rfl rfl, by decide +kernel, by decide +kernel, by decide +kernel⟩
theorem iX5_keepDraft : Cond.instanceMethod yX5_keepDraft ∈ z_us := z_mem3 33 rfl rfl
theorem sX5_keepDraft : Cond.selects RX5 yX5_keepDraft yX5_keepDraft ∈ z_us := z_mem3 34 rfl rfl
abbrev mX6_init : ZT := (yX6_init, cX6_init, 3, none)
abbrev rX6_init (n1 : Nat) : ZR := (1, 21, n1)
theorem kX6_init : z_k mX6_init 1 := ⟨by decide +kernel, z_mem1 82 rfl rfl, z_mem1 4 rfl rfl, by decide +kernel, by decide +kernel, by decide +kernel⟩
theorem iX6_init : Cond.instanceMethod yX6_init ∈ z_us := z_mem1 81 rfl rfl
abbrev mX6_clear : ZT := (yX6_clear, cX6_clear, 1, none)
abbrev rX6_clear (n1 : Nat) : ZR := (0, 0, n1)
theorem kX6_clear : z_k mX6_clear 0 := ⟨by decide +kernel, z_mem2 194 rfl rfl, z_mem1 4 rfl rfl, by decide +kernel, by decide +kernel, by decide +kernel⟩
theorem iX6_clear : Cond.instanceMethod yX6_clear ∈ z_us := z_mem2 192 rfl rfl
theorem sX6_clear : Cond.selects RX6 yX6_clear yX6_clear ∈ z_us := z_mem2 193 rfl rfl
abbrev mX6_has : ZT := (yX6_has, cX6_has, 2, (some .boolean))
abbrev rX6_has (n1 : Nat) : ZR := (0, 0, n1)
theorem kX6_has : z_k mX6_has 1 := ⟨by decide +kernel, z_mem2 237 rfl rfl, z_mem1 4 rfl rfl, by decide +kernel, by decide +kernel, by decide +kernel⟩
theorem iX6_has : Cond.instanceMethod yX6_has ∈ z_us := z_mem2 235 rfl rfl
theorem sX6_has : Cond.selects RX6 yX6_has yX6_has ∈ z_us := z_mem2 236 rfl rfl
abbrev mX6_holds : ZT := (yX6_holds, cX6_holds, 4, (some .boolean))
abbrev rX6_holds (n1 : Nat) : ZR := (0, 0, n1)
theorem kX6_holds : z_k mX6_holds 2 := ⟨by decide +kernel, z_mem2 211 rfl rfl, z_mem1 4 rfl rfl, by decide +kernel, by decide +kernel, by decide +kernel⟩
theorem iX6_holds : Cond.instanceMethod yX6_holds ∈ z_us := z_mem2 209 rfl rfl
theorem sX6_holds : Cond.selects RX6 yX6_holds yX6_holds ∈ z_us := z_mem2 210 rfl rfl
abbrev mX6_add : ZT := (yX6_add, cX6_add, 3, none)
abbrev rX6_add (n1 : Nat) : ZR := (0, 0, n1)
theorem kX6_add : z_k mX6_add 2 := ⟨by decide +kernel, z_mem2 219 rfl rfl, z_mem1 4 rfl rfl, by decide +kernel, by decide +kernel, by decide +kernel⟩
theorem iX6_add : Cond.instanceMethod yX6_add ∈ z_us := z_mem2 217 rfl rfl
theorem sX6_add : Cond.selects RX6 yX6_add yX6_add ∈ z_us := z_mem2 218 rfl rfl
abbrev mX6_remove : ZT := (yX6_remove, cX6_remove, 3, none)
abbrev rX6_remove (n1 : Nat) : ZR := (1, 21, n1)
theorem kX6_remove : z_k mX6_remove 1 := ⟨by decide +kernel, z_mem3 6 rfl rfl, z_mem1 4 rfl rfl, by decide +kernel, by decide +kernel, by decide +kernel⟩
theorem iX6_remove : Cond.instanceMethod yX6_remove ∈ z_us := z_mem3 4 rfl rfl
theorem sX6_remove : Cond.selects RX6 yX6_remove yX6_remove ∈ z_us := z_mem3 5 rfl rfl
abbrev mX6_way : ZT := (yX6_way, cX6_way, 3, (some .int))
abbrev rX6_way (n1 : Nat) : ZR := (2, 44, n1)
theorem kX6_way : z_k mX6_way 2 := ⟨by decide +kernel, z_mem3 118 rfl rfl, z_mem1 4 rfl rfl, by decide +kernel, by decide +kernel, by decide +kernel⟩
theorem iX6_way : Cond.instanceMethod yX6_way ∈ z_us := z_mem3 116 rfl rfl
theorem sX6_way : Cond.selects RX6 yX6_way yX6_way ∈ z_us := z_mem3 117 rfl rfl
abbrev mX6_wayTo : ZT := (yX6_wayTo, cX6_wayTo, 4, (some .int))
abbrev rX6_wayTo (n1 : Nat) : ZR := (1, 21, n1)
theorem kX6_wayTo : z_k mX6_wayTo 3 := ⟨by decide +kernel, z_mem3 99 rfl rfl, z_mem1 4 rfl rfl, by decide +kernel, by decide +kernel, by decide +kernel⟩
theorem iX6_wayTo : Cond.instanceMethod yX6_wayTo ∈ z_us := z_mem3 97 rfl rfl
theorem sX6_wayTo : Cond.selects RX6 yX6_wayTo yX6_wayTo ∈ z_us := z_mem3 98 rfl rfl
abbrev mX7_init : ZT := (yX7_init, cX7_init, 1, none)
abbrev rX7_init (n1 : Nat) : ZR := (2, 43, n1)
theorem kX7_init : z_k mX7_init 0 := ⟨by decide +kernel, z_mem2 71 rfl rfl, z_mem1 14 rfl rfl, by decide +kernel, by decide +kernel, by decide +kernel⟩
theorem iX7_init : Cond.instanceMethod yX7_init ∈ z_us := z_mem2 70 rfl rfl
abbrev mX7_add : ZT := (yX7_add, cX7_add, 6, none)
abbrev rX7_add (n1 : Nat) : ZR := (1, 22, n1)
theorem kX7_add : z_k mX7_add 4 := ⟨by decide +kernel, z_mem2 215 rfl rfl, z_mem1 14 rfl rfl, by decide +kernel, by decide +kernel, by decide +kernel⟩
theorem iX7_add : Cond.instanceMethod yX7_add ∈ z_us := z_mem2 213 rfl rfl
theorem sX7_add : Cond.selects RX7 yX7_add yX7_add ∈ z_us := z_mem2 214 rfl rfl
abbrev mX7_remove : ZT := (yX7_remove, cX7_remove, 3, none)
abbrev rX7_remove (n1 : Nat) : ZR := (2, 43, n1)
theorem kX7_remove : z_k mX7_remove 1 := ⟨by decide +kernel, z_mem3 1 rfl rfl, z_mem1 14 rfl rfl, by decide +kernel, by decide +kernel, by decide +kernel⟩
theorem iX7_remove : Cond.instanceMethod yX7_remove ∈ z_us := z_mem2 239 rfl rfl
theorem sX7_remove : Cond.selects RX7 yX7_remove yX7_remove ∈ z_us := z_mem3 0 rfl rfl
abbrev mX8_init : ZT := (yX8_init, cX8_init, 2, none)
abbrev rX8_init (n1 : Nat) : ZR := (1, 20, n1)
theorem kX8_init : z_k mX8_init 0 := ⟨by decide +kernel, z_mem1 28 rfl rfl, z_mem1 2 rfl rfl, by decide +kernel, by decide +kernel, by decide +kernel⟩
theorem iX8_init : Cond.instanceMethod yX8_init ∈ z_us := z_mem1 27 rfl rfl
abbrev mX8_exists : ZT := (yX8_exists, cX8_exists, 2, (some .boolean))
abbrev rX8_exists (n1 : Nat) : ZR := (0, 0, n1)
theorem kX8_exists : z_k mX8_exists 1 := ⟨by decide +kernel, z_mem2 145 rfl rfl, z_mem1 2 rfl rfl, by decide +kernel, by decide +kernel, by decide +kernel⟩
theorem iX8_exists : Cond.instanceMethod yX8_exists ∈ z_us := z_mem2 143 rfl rfl
theorem sX8_exists : Cond.selects RX8 yX8_exists yX8_exists ∈ z_us := z_mem2 144 rfl rfl
abbrev mX8_holds : ZT := (yX8_holds, cX8_holds, 2, (some .boolean))
abbrev rX8_holds (n1 : Nat) : ZR := (1, 21, n1)
theorem kX8_holds : z_k mX8_holds 1 := ⟨by decide +kernel, z_mem2 158 rfl rfl, z_mem1 2 rfl rfl, by decide +kernel, by decide +kernel, by decide +kernel⟩
theorem iX8_holds : Cond.instanceMethod yX8_holds ∈ z_us := z_mem2 156 rfl rfl
theorem sX8_holds : Cond.selects RX8 yX8_holds yX8_holds ∈ z_us := z_mem2 157 rfl rfl
abbrev mX8_holdsNumber : ZT := (yX8_holdsNumber, cX8_holdsNumber, 3, (some .boolean))
abbrev rX8_holdsNumber (n1 : Nat) : ZR := (2, 42, n1)
theorem kX8_holdsNumber : z_k mX8_holdsNumber 2 := ⟨by decide +kernel, z_mem2 174 rfl rfl, z_mem1 2 rfl rfl, by decide +kernel, by decide +kernel, by decide +kernel⟩
theorem iX8_holdsNumber : Cond.instanceMethod yX8_holdsNumber ∈ z_us := z_mem2 172 rfl rfl
theorem sX8_holdsNumber : Cond.selects RX8 yX8_holdsNumber yX8_holdsNumber ∈ z_us := z_mem2 173 rfl rfl
abbrev mX8_lay : ZT := (yX8_lay, cX8_lay, 5, none)
abbrev rX8_lay (n1 : Nat) : ZR := (1, 21, n1)
theorem kX8_lay : z_k mX8_lay 3 := ⟨by decide +kernel, z_mem2 149 rfl rfl, z_mem1 2 rfl rfl, by decide +kernel, by decide +kernel, by decide +kernel⟩
theorem iX8_lay : Cond.instanceMethod yX8_lay ∈ z_us := z_mem2 147 rfl rfl
theorem sX8_lay : Cond.selects RX8 yX8_lay yX8_lay ∈ z_us := z_mem2 148 rfl rfl
abbrev mX8_empty : ZT := (yX8_empty, cX8_empty, 2, none)
abbrev rX8_empty (n1 : Nat) : ZR := (1, 21, n1)
theorem kX8_empty : z_k mX8_empty 1 := ⟨by decide +kernel, z_mem2 162 rfl rfl, z_mem1 2 rfl rfl, by decide +kernel, by decide +kernel, by decide +kernel⟩
theorem iX8_empty : Cond.instanceMethod yX8_empty ∈ z_us := z_mem2 160 rfl rfl
theorem sX8_empty : Cond.selects RX8 yX8_empty yX8_empty ∈ z_us := z_mem2 161 rfl rfl
abbrev mX8_put : ZT := (yX8_put, cX8_put, 5, (some .boolean))
abbrev rX8_put (n1 : Nat) : ZR := (3, 64, n1)
theorem kX8_put : z_k mX8_put 3 := ⟨by decide +kernel, z_mem2 170 rfl rfl, z_mem1 2 rfl rfl, by decide +kernel, by decide +kernel, by decide +kernel⟩
theorem iX8_put : Cond.instanceMethod yX8_put ∈ z_us := z_mem2 168 rfl rfl
theorem sX8_put : Cond.selects RX8 yX8_put yX8_put ∈ z_us := z_mem2 169 rfl rfl
abbrev mX8_countHeld : ZT := (yX8_countHeld, cX8_countHeld, 3, (some .int))
abbrev rX8_countHeld (n1 : Nat) : ZR := (2, 42, n1)
theorem kX8_countHeld : z_k mX8_countHeld 0 := ⟨by decide +kernel, z_mem4 110 rfl rfl, z_mem1 2 rfl rfl, by decide +kernel, by decide +kernel, by decide +kernel⟩
theorem iX8_countHeld : Cond.instanceMethod yX8_countHeld ∈ z_us := z_mem4 108 rfl rfl
theorem sX8_countHeld : Cond.selects RX8 yX8_countHeld yX8_countHeld ∈ z_us := z_mem4 109 rfl rfl
abbrev mX8_startReading : ZT := (yX8_startReading, cX8_startReading, 2, none)
abbrev rX8_startReading (n1 : Nat) : ZR := (0, 0, n1)
theorem kX8_startReading : z_k mX8_startReading 1 := ⟨by decide +kernel, z_mem2 186 rfl rfl, z_mem1 2 rfl rfl, by decide +kernel, by decide +kernel, by decide +kernel⟩
theorem iX8_startReading : Cond.instanceMethod yX8_startReading ∈ z_us := z_mem2 184 rfl rfl
theorem sX8_startReading : Cond.selects RX8 yX8_startReading yX8_startReading ∈ z_us := z_mem2 185 rfl rfl
abbrev mX8_readNext : ZT := (yX8_readNext, cX8_readNext, 5, (some .boolean))
abbrev rX8_readNext (n1 : Nat) : ZR := (3, 64, n1)
theorem kX8_readNext : z_k mX8_readNext 2 := ⟨by decide +kernel, z_mem2 198 rfl rfl, z_mem1 2 rfl rfl, by decide +kernel, by decide +kernel, by decide +kernel⟩
theorem iX8_readNext : Cond.instanceMethod yX8_readNext ∈ z_us := z_mem2 196 rfl rfl
theorem sX8_readNext : Cond.selects RX8 yX8_readNext yX8_readNext ∈ z_us := z_mem2 197 rfl rfl
abbrev mX8_readPlace : ZT := (yX8_readPlace, cX8_readPlace, 1, (some .boolean))
abbrev rX8_readPlace (n1 : Nat) : ZR := (4, 88, n1)
theorem kX8_readPlace : z_k mX8_readPlace 0 := ⟨by decide +kernel, z_mem2 206 rfl rfl, z_mem1 2 rfl rfl, by decide +kernel, by decide +kernel, by decide +kernel⟩
theorem iX8_readPlace : Cond.instanceMethod yX8_readPlace ∈ z_us := z_mem2 204 rfl rfl
theorem sX8_readPlace : Cond.selects RX8 yX8_readPlace yX8_readPlace ∈ z_us := z_mem2 205 rfl rfl
abbrev mX8_cut : ZT := (yX8_cut, cX8_cut, 3, (some .long))
abbrev rX8_cut (n1 : Nat) : ZR := (0, 0, n1)
theorem kX8_cut : z_k mX8_cut 2 := ⟨by decide +kernel, z_mem2 178 rfl rfl, z_mem1 2 rfl rfl, by decide +kernel, by decide +kernel, by decide +kernel⟩
theorem sX8_cut : Cond.static yX8_cut ∈ z_us := z_mem2 177 rfl rfl
abbrev mX9_init : ZT := (yX9_init, cX9_init, 1, none)
abbrev rX9_init (n1 : Nat) : ZR := (1, 20, n1)
theorem kX9_init : z_k mX9_init 0 := ⟨by decide +kernel, z_mem1 145 rfl rfl, z_mem1 8 rfl rfl, by decide +kernel, by decide +kernel, by decide +kernel⟩
theorem iX9_init : Cond.instanceMethod yX9_init ∈ z_us := z_mem1 144 rfl rfl
abbrev mX9_put : ZT := (yX9_put, cX9_put, 6, none)
abbrev rX9_put (n1 : Nat) : ZR := (1, 22, n1)
theorem kX9_put : z_k mX9_put 1 := ⟨by decide +kernel, z_mem2 38 rfl rfl, z_mem1 8 rfl rfl, by decide +kernel, by decide +kernel, by decide +kernel⟩
theorem iX9_put : Cond.instanceMethod yX9_put ∈ z_us := z_mem2 36 rfl rfl
theorem sX9_put : Cond.selects RX9 yX9_put yX9_put ∈ z_us := z_mem2 37 rfl rfl
abbrev mX9_lowest : ZT := (yX9_lowest, cX9_lowest, 1, (some .long))
abbrev rX9_lowest (n1 : Nat) : ZR := (0, 0, n1)
theorem kX9_lowest : z_k mX9_lowest 0 := ⟨by decide +kernel, z_mem3 162 rfl rfl, z_mem1 8 rfl rfl, by decide +kernel, by decide +kernel, by decide +kernel⟩
theorem iX9_lowest : Cond.instanceMethod yX9_lowest ∈ z_us := z_mem3 160 rfl rfl
theorem sX9_lowest : Cond.selects RX9 yX9_lowest yX9_lowest ∈ z_us := z_mem3 161 rfl rfl
abbrev mX9_copyFrom : ZT := (yX9_copyFrom, cX9_copyFrom, 4, none)
abbrev rX9_copyFrom (n1 : Nat) : ZR := (1, 21, n1)
theorem kX9_copyFrom : z_k mX9_copyFrom 1 := ⟨by decide +kernel, z_mem3 208 rfl rfl, z_mem1 8 rfl rfl, by decide +kernel, by decide +kernel, by decide +kernel⟩
theorem iX9_copyFrom : Cond.instanceMethod yX9_copyFrom ∈ z_us := z_mem3 206 rfl rfl
theorem sX9_copyFrom : Cond.selects RX9 yX9_copyFrom yX9_copyFrom ∈ z_us := z_mem3 207 rfl rfl
abbrev mX9_compareSize : ZT := (yX9_compareSize, cX9_compareSize, 3, (some .int))
abbrev rX9_compareSize (n1 : Nat) : ZR := (0, 0, n1)
theorem kX9_compareSize : z_k mX9_compareSize 1 := ⟨by decide +kernel, z_mem4 54 rfl rfl, z_mem1 8 rfl rfl, by decide +kernel, by decide +kernel, by decide +kernel⟩
theorem iX9_compareSize : Cond.instanceMethod yX9_compareSize ∈ z_us := z_mem4 52 rfl rfl
theorem sX9_compareSize : Cond.selects RX9 yX9_compareSize yX9_compareSize ∈ z_us := z_mem4 53 rfl rfl
abbrev mX9_multiply : ZT := (yX9_multiply, cX9_multiply, 11, none)
abbrev rX9_multiply (n1 : Nat) : ZR := (1, 22, n1)
theorem kX9_multiply : z_k mX9_multiply 2 := ⟨by decide +kernel, z_mem3 166 rfl rfl, z_mem1 8 rfl rfl, by decide +kernel, by decide +kernel, by decide +kernel⟩
theorem iX9_multiply : Cond.instanceMethod yX9_multiply ∈ z_us := z_mem3 164 rfl rfl
theorem sX9_multiply : Cond.selects RX9 yX9_multiply yX9_multiply ∈ z_us := z_mem3 165 rfl rfl
abbrev mX9_addTimes : ZT := (yX9_addTimes, cX9_addTimes, 13, none)
abbrev rX9_addTimes (n1 : Nat) : ZR := (1, 26, n1)
theorem kX9_addTimes : z_k mX9_addTimes 2 := ⟨by decide +kernel, z_mem3 170 rfl rfl, z_mem1 8 rfl rfl, by decide +kernel, by decide +kernel, by decide +kernel⟩
theorem iX9_addTimes : Cond.instanceMethod yX9_addTimes ∈ z_us := z_mem3 168 rfl rfl
theorem sX9_addTimes : Cond.selects RX9 yX9_addTimes yX9_addTimes ∈ z_us := z_mem3 169 rfl rfl
abbrev mX9_complement : ZT := (yX9_complement, cX9_complement, 7, none)
abbrev rX9_complement (n1 : Nat) : ZR := (0, 0, n1)
theorem kX9_complement : z_k mX9_complement 1 := ⟨by decide +kernel, z_mem3 176 rfl rfl, z_mem1 8 rfl rfl, by decide +kernel, by decide +kernel, by decide +kernel⟩
theorem iX9_complement : Cond.instanceMethod yX9_complement ∈ z_us := z_mem3 175 rfl rfl
theorem sX9_complement : Cond.selects RX9 yX9_complement yX9_complement ∈ z_us := z_memp 13 rfl rfl
abbrev mX9_clear : ZT := (yX9_clear, cX9_clear, 2, none)
abbrev rX9_clear (n1 : Nat) : ZR := (0, 0, n1)
theorem kX9_clear : z_k mX9_clear 0 := ⟨by decide +kernel, z_mem2 42 rfl rfl, z_mem1 8 rfl rfl, by decide +kernel, by decide +kernel, by decide +kernel⟩
theorem iX9_clear : Cond.instanceMethod yX9_clear ∈ z_us := z_mem2 41 rfl rfl
theorem sX9_clear : Cond.selects RX9 yX9_clear yX9_clear ∈ z_us := z_memp 0 rfl rfl
abbrev mX9_trim : ZT := (yX9_trim, cX9_trim, 3, none)
abbrev rX9_trim (n1 : Nat) : ZR := (0, 0, n1)
theorem kX9_trim : z_k mX9_trim 2 := ⟨by decide +kernel, z_mem2 53 rfl rfl, z_mem1 8 rfl rfl, by decide +kernel, by decide +kernel, by decide +kernel⟩
theorem iX9_trim : Cond.instanceMethod yX9_trim ∈ z_us := z_mem2 52 rfl rfl
theorem sX9_trim : Cond.selects RX9 yX9_trim yX9_trim ∈ z_us := z_memp 1 rfl rfl
abbrev mX10_init : ZT := (yX10_init, cX10_init, 1, none)
abbrev rX10_init (n1 : Nat) : ZR := (2, 40, n1)
theorem kX10_init : z_k mX10_init 0 := ⟨by decide +kernel, z_mem2 8 rfl rfl, z_mem1 11 rfl rfl, by decide +kernel, by decide +kernel, by decide +kernel⟩
theorem iX10_init : Cond.instanceMethod yX10_init ∈ z_us := z_mem2 7 rfl rfl
abbrev mX10_isLarger : ZT := (yX10_isLarger, cX10_isLarger, 3, (some .boolean))
abbrev rX10_isLarger (n1 : Nat) : ZR := (2, 52, n1)
theorem kX10_isLarger : z_k mX10_isLarger 2 := ⟨by decide +kernel, z_mem4 49 rfl rfl, z_mem1 11 rfl rfl, by decide +kernel, by decide +kernel, by decide +kernel⟩
theorem iX10_isLarger : Cond.instanceMethod yX10_isLarger ∈ z_us := z_mem4 47 rfl rfl
theorem sX10_isLarger : Cond.selects RX10 yX10_isLarger yX10_isLarger ∈ z_us := z_mem4 48 rfl rfl
abbrev mX10_reduce : ZT := (yX10_reduce, cX10_reduce, 3, none)
abbrev rX10_reduce (n1 : Nat) : ZR := (4, 105, n1)
theorem kX10_reduce : z_k mX10_reduce 1 := ⟨by decide +kernel, z_mem4 5 rfl rfl, z_mem1 11 rfl rfl, by decide +kernel, by decide +kernel, by decide +kernel⟩
theorem iX10_reduce : Cond.instanceMethod yX10_reduce ∈ z_us := z_mem4 3 rfl rfl
theorem sX10_reduce : Cond.selects RX10 yX10_reduce yX10_reduce ∈ z_us := z_mem4 4 rfl rfl
abbrev mX10_findShared : ZT := (yX10_findShared, cX10_findShared, 6, (some (.object "NeighbourBoard$Whole")))
abbrev rX10_findShared (n1 : Nat) : ZR := (3, 80, n1)
theorem kX10_findShared : z_k mX10_findShared 1 := ⟨by decide +kernel, z_mem4 9 rfl rfl, z_mem1 11 rfl rfl, by decide +kernel, by decide +kernel, by decide +kernel⟩
theorem iX10_findShared : Cond.instanceMethod yX10_findShared ∈ z_us := z_mem4 8 rfl rfl
theorem sX10_findShared : Cond.selects RX10 yX10_findShared yX10_findShared ∈ z_us := z_memp 22 rfl rfl
abbrev mX11_init : ZT := (yX11_init, cX11_init, 1, none)
abbrev rX11_init (n1 : Nat) : ZR := (3, 67, n1)
theorem kX11_init : z_k mX11_init 0 := ⟨by decide +kernel, z_mem1 20 rfl rfl, z_mem1 1 rfl rfl, by decide +kernel, by decide +kernel, by decide +kernel⟩
theorem iX11_init : Cond.instanceMethod yX11_init ∈ z_us := z_mem1 19 rfl rfl
abbrev mX11_row : ZT := (yX11_row, cX11_row, 4, (some .int))
abbrev rX11_row (n1 : Nat) : ZR := (2, 45, n1)
theorem kX11_row : z_k mX11_row 3 := ⟨by decide +kernel, z_mem2 141 rfl rfl, z_mem1 1 rfl rfl, by decide +kernel, by decide +kernel, by decide +kernel⟩
theorem iX11_row : Cond.instanceMethod yX11_row ∈ z_us := z_mem2 139 rfl rfl
theorem sX11_row : Cond.selects RX11 yX11_row yX11_row ∈ z_us := z_mem2 140 rfl rfl
abbrev mX11_tear : ZT := (yX11_tear, cX11_tear, 2, (some .boolean))
abbrev rX11_tear (n1 : Nat) : ZR := (2, 42, n1)
theorem kX11_tear : z_k mX11_tear 1 := ⟨by decide +kernel, z_mem2 154 rfl rfl, z_mem1 1 rfl rfl, by decide +kernel, by decide +kernel, by decide +kernel⟩
theorem iX11_tear : Cond.instanceMethod yX11_tear ∈ z_us := z_mem2 152 rfl rfl
theorem sX11_tear : Cond.selects RX11 yX11_tear yX11_tear ∈ z_us := z_mem2 153 rfl rfl
abbrev mX11_write : ZT := (yX11_write, cX11_write, 5, (some .int))
abbrev rX11_write (n1 : Nat) : ZR := (4, 88, n1)
theorem kX11_write : z_k mX11_write 3 := ⟨by decide +kernel, z_mem2 166 rfl rfl, z_mem1 1 rfl rfl, by decide +kernel, by decide +kernel, by decide +kernel⟩
theorem iX11_write : Cond.instanceMethod yX11_write ∈ z_us := z_mem2 164 rfl rfl
theorem sX11_write : Cond.selects RX11 yX11_write yX11_write ∈ z_us := z_mem2 165 rfl rfl
abbrev mX11_seen : ZT := (yX11_seen, cX11_seen, 3, (some .int))
abbrev rX11_seen (n1 : Nat) : ZR := (7, 151, n1)
theorem kX11_seen : z_k mX11_seen 1 := ⟨by decide +kernel, z_mem2 182 rfl rfl, z_mem1 1 rfl rfl, by decide +kernel, by decide +kernel, by decide +kernel⟩
theorem iX11_seen : Cond.instanceMethod yX11_seen ∈ z_us := z_mem2 180 rfl rfl
theorem sX11_seen : Cond.selects RX11 yX11_seen yX11_seen ∈ z_us := z_mem2 181 rfl rfl
abbrev mX11_see : ZT := (yX11_see, cX11_see, 5, (some .int))
abbrev rX11_see (n1 : Nat) : ZR := (2, 47, n1)
theorem kX11_see : z_k mX11_see 4 := ⟨by decide +kernel, z_mem2 223 rfl rfl, z_mem1 1 rfl rfl, by decide +kernel, by decide +kernel, by decide +kernel⟩
theorem iX11_see : Cond.instanceMethod yX11_see ∈ z_us := z_mem2 221 rfl rfl
theorem sX11_see : Cond.selects RX11 yX11_see yX11_see ∈ z_us := z_mem2 222 rfl rfl
abbrev mX11_drop : ZT := (yX11_drop, cX11_drop, 2, (some .int))
abbrev rX11_drop (n1 : Nat) : ZR := (3, 65, n1)
theorem kX11_drop : z_k mX11_drop 1 := ⟨by decide +kernel, z_mem2 233 rfl rfl, z_mem1 1 rfl rfl, by decide +kernel, by decide +kernel, by decide +kernel⟩
theorem iX11_drop : Cond.instanceMethod yX11_drop ∈ z_us := z_mem2 231 rfl rfl
theorem sX11_drop : Cond.selects RX11 yX11_drop yX11_drop ∈ z_us := z_mem2 232 rfl rfl
abbrev mX11_straight : ZT := (yX11_straight, cX11_straight, 2, (some .int))
abbrev rX11_straight (n1 : Nat) : ZR := (4, 87, n1)
theorem kX11_straight : z_k mX11_straight 1 := ⟨by decide +kernel, z_mem3 11 rfl rfl, z_mem1 1 rfl rfl, by decide +kernel, by decide +kernel, by decide +kernel⟩
theorem iX11_straight : Cond.instanceMethod yX11_straight ∈ z_us := z_mem3 9 rfl rfl
theorem sX11_straight : Cond.selects RX11 yX11_straight yX11_straight ∈ z_us := z_mem3 10 rfl rfl
abbrev mX11_capped : ZT := (yX11_capped, cX11_capped, 3, (some .int))
abbrev rX11_capped (n1 : Nat) : ZR := (4, 87, n1)
theorem kX11_capped : z_k mX11_capped 2 := ⟨by decide +kernel, z_mem3 39 rfl rfl, z_mem1 1 rfl rfl, by decide +kernel, by decide +kernel, by decide +kernel⟩
theorem iX11_capped : Cond.instanceMethod yX11_capped ∈ z_us := z_mem3 37 rfl rfl
theorem sX11_capped : Cond.selects RX11 yX11_capped yX11_capped ∈ z_us := z_mem3 38 rfl rfl
abbrev mX11_table : ZT := (yX11_table, cX11_table, 2, (some .int))
abbrev rX11_table (n1 : Nat) : ZR := (5, 110, n1)
theorem kX11_table : z_k mX11_table 1 := ⟨by decide +kernel, z_mem3 43 rfl rfl, z_mem1 1 rfl rfl, by decide +kernel, by decide +kernel, by decide +kernel⟩
theorem iX11_table : Cond.instanceMethod yX11_table ∈ z_us := z_mem3 41 rfl rfl
theorem sX11_table : Cond.selects RX11 yX11_table yX11_table ∈ z_us := z_mem3 42 rfl rfl
abbrev mX11_sum : ZT := (yX11_sum, cX11_sum, 3, (some .int))
abbrev rX11_sum (n1 : Nat) : ZR := (3, 67, n1)
theorem kX11_sum : z_k mX11_sum 2 := ⟨by decide +kernel, z_mem3 52 rfl rfl, z_mem1 1 rfl rfl, by decide +kernel, by decide +kernel, by decide +kernel⟩
theorem iX11_sum : Cond.instanceMethod yX11_sum ∈ z_us := z_mem3 50 rfl rfl
theorem sX11_sum : Cond.selects RX11 yX11_sum yX11_sum ∈ z_us := z_mem3 51 rfl rfl
abbrev mX11_unlike : ZT := (yX11_unlike, cX11_unlike, 3, (some .int))
abbrev rX11_unlike (n1 : Nat) : ZR := (2, 43, n1)
theorem kX11_unlike : z_k mX11_unlike 2 := ⟨by decide +kernel, z_mem3 69 rfl rfl, z_mem1 1 rfl rfl, by decide +kernel, by decide +kernel, by decide +kernel⟩
theorem iX11_unlike : Cond.instanceMethod yX11_unlike ∈ z_us := z_mem3 67 rfl rfl
theorem sX11_unlike : Cond.selects RX11 yX11_unlike yX11_unlike ∈ z_us := z_mem3 68 rfl rfl
abbrev mX11_use : ZT := (yX11_use, cX11_use, 2, (some .boolean))
abbrev rX11_use (n1 : Nat) : ZR := (1, 21, n1)
theorem kX11_use : z_k mX11_use 1 := ⟨by decide +kernel, z_mem3 74 rfl rfl, z_mem1 1 rfl rfl, by decide +kernel, by decide +kernel, by decide +kernel⟩
theorem iX11_use : Cond.instanceMethod yX11_use ∈ z_us := z_mem3 72 rfl rfl
theorem sX11_use : Cond.selects RX11 yX11_use yX11_use ∈ z_us := z_mem3 73 rfl rfl
abbrev mX11_nearest : ZT := (yX11_nearest, cX11_nearest, 2, (some .boolean))
abbrev rX11_nearest (n1 : Nat) : ZR := (1, 22, n1)
theorem kX11_nearest : z_k mX11_nearest 1 := ⟨by decide +kernel, z_mem3 78 rfl rfl, z_mem1 1 rfl rfl, by decide +kernel, by decide +kernel, by decide +kernel⟩
theorem iX11_nearest : Cond.instanceMethod yX11_nearest ∈ z_us := z_mem3 76 rfl rfl
theorem sX11_nearest : Cond.selects RX11 yX11_nearest yX11_nearest ∈ z_us := z_mem3 77 rfl rfl
abbrev mX11_ask : ZT := (yX11_ask, cX11_ask, 3, (some .int))
abbrev rX11_ask (n1 : Nat) : ZR := (6, 157, n1)
theorem kX11_ask : z_k mX11_ask 2 := ⟨by decide +kernel, z_mem3 82 rfl rfl, z_mem1 1 rfl rfl, by decide +kernel, by decide +kernel, by decide +kernel⟩
theorem iX11_ask : Cond.instanceMethod yX11_ask ∈ z_us := z_mem3 80 rfl rfl
theorem sX11_ask : Cond.selects RX11 yX11_ask yX11_ask ∈ z_us := z_mem3 81 rfl rfl
abbrev mX11_mean : ZT := (yX11_mean, cX11_mean, 2, (some .int))
abbrev rX11_mean (n1 : Nat) : ZR := (6, 157, n1)
theorem kX11_mean : z_k mX11_mean 1 := ⟨by decide +kernel, z_mem3 228 rfl rfl, z_mem1 1 rfl rfl, by decide +kernel, by decide +kernel, by decide +kernel⟩
theorem iX11_mean : Cond.instanceMethod yX11_mean ∈ z_us := z_mem3 226 rfl rfl
theorem sX11_mean : Cond.selects RX11 yX11_mean yX11_mean ∈ z_us := z_mem3 227 rfl rfl
abbrev mX11_answer : ZT := (yX11_answer, cX11_answer, 2, (some .boolean))
abbrev rX11_answer (n1 : Nat) : ZR := (6, 149, n1)
theorem kX11_answer : z_k mX11_answer 1 := ⟨by decide +kernel, z_mem3 236 rfl rfl, z_mem1 1 rfl rfl, by decide +kernel, by decide +kernel, by decide +kernel⟩
theorem iX11_answer : Cond.instanceMethod yX11_answer ∈ z_us := z_mem3 234 rfl rfl
theorem sX11_answer : Cond.selects RX11 yX11_answer yX11_answer ∈ z_us := z_mem3 235 rfl rfl
abbrev mX11_leftOut : ZT := (yX11_leftOut, cX11_leftOut, 2, (some .boolean))
abbrev rX11_leftOut (n1 : Nat) : ZR := (6, 160, n1)
theorem kX11_leftOut : z_k mX11_leftOut 1 := ⟨by decide +kernel, z_mem4 20 rfl rfl, z_mem1 1 rfl rfl, by decide +kernel, by decide +kernel, by decide +kernel⟩
theorem iX11_leftOut : Cond.instanceMethod yX11_leftOut ∈ z_us := z_mem4 18 rfl rfl
theorem sX11_leftOut : Cond.selects RX11 yX11_leftOut yX11_leftOut ∈ z_us := z_mem4 19 rfl rfl
abbrev mX11_worst : ZT := (yX11_worst, cX11_worst, 1, (some .int))
abbrev rX11_worst (n1 : Nat) : ZR := (7, 183, n1)
theorem kX11_worst : z_k mX11_worst 0 := ⟨by decide +kernel, z_mem4 41 rfl rfl, z_mem1 1 rfl rfl, by decide +kernel, by decide +kernel, by decide +kernel⟩
theorem iX11_worst : Cond.instanceMethod yX11_worst ∈ z_us := z_mem4 39 rfl rfl
theorem sX11_worst : Cond.selects RX11 yX11_worst yX11_worst ∈ z_us := z_mem4 40 rfl rfl
abbrev mX11_best : ZT := (yX11_best, cX11_best, 3, (some .int))
abbrev rX11_best (n1 : Nat) : ZR := (7, 183, n1)
theorem kX11_best : z_k mX11_best 0 := ⟨by decide +kernel, z_mem4 63 rfl rfl, z_mem1 1 rfl rfl, by decide +kernel, by decide +kernel, by decide +kernel⟩
theorem iX11_best : Cond.instanceMethod yX11_best ∈ z_us := z_mem4 61 rfl rfl
theorem sX11_best : Cond.selects RX11 yX11_best yX11_best ∈ z_us := z_mem4 62 rfl rfl
abbrev mX11_allowed : ZT := (yX11_allowed, cX11_allowed, 2, (some .int))
abbrev rX11_allowed (n1 : Nat) : ZR := (5, 139, n1)
theorem kX11_allowed : z_k mX11_allowed 1 := ⟨by decide +kernel, z_mem4 67 rfl rfl, z_mem1 1 rfl rfl, by decide +kernel, by decide +kernel, by decide +kernel⟩
theorem iX11_allowed : Cond.instanceMethod yX11_allowed ∈ z_us := z_mem4 65 rfl rfl
theorem sX11_allowed : Cond.selects RX11 yX11_allowed yX11_allowed ∈ z_us := z_mem4 66 rfl rfl
abbrev mX11_pairs : ZT := (yX11_pairs, cX11_pairs, 6, (some .int))
abbrev rX11_pairs (n1 : Nat) : ZR := (3, 66, n1)
theorem kX11_pairs : z_k mX11_pairs 2 := ⟨by decide +kernel, z_mem4 81 rfl rfl, z_mem1 1 rfl rfl, by decide +kernel, by decide +kernel, by decide +kernel⟩
theorem iX11_pairs : Cond.instanceMethod yX11_pairs ∈ z_us := z_mem4 79 rfl rfl
theorem sX11_pairs : Cond.selects RX11 yX11_pairs yX11_pairs ∈ z_us := z_mem4 80 rfl rfl
abbrev mX11_band : ZT := (yX11_band, cX11_band, 10, (some .boolean))
abbrev rX11_band (n1 : Nat) : ZR := (6, 149, n1)
theorem kX11_band : z_k mX11_band 2 := ⟨by decide +kernel, z_mem4 86 rfl rfl, z_mem1 1 rfl rfl, by decide +kernel, by decide +kernel, by decide +kernel⟩
theorem iX11_band : Cond.instanceMethod yX11_band ∈ z_us := z_mem4 84 rfl rfl
theorem sX11_band : Cond.selects RX11 yX11_band yX11_band ∈ z_us := z_mem4 85 rfl rfl
abbrev mX11_look : ZT := (yX11_look, cX11_look, 2, (some .int))
abbrev rX11_look (n1 : Nat) : ZR := (1, 21, n1)
theorem kX11_look : z_k mX11_look 1 := ⟨by decide +kernel, z_mem4 93 rfl rfl, z_mem1 1 rfl rfl, by decide +kernel, by decide +kernel, by decide +kernel⟩
theorem iX11_look : Cond.instanceMethod yX11_look ∈ z_us := z_mem4 91 rfl rfl
theorem sX11_look : Cond.selects RX11 yX11_look yX11_look ∈ z_us := z_mem4 92 rfl rfl
abbrev mX11_part : ZT := (yX11_part, cX11_part, 4, (some .int))
abbrev rX11_part (n1 : Nat) : ZR := (0, 0, n1)
theorem kX11_part : z_k mX11_part 2 := ⟨by decide +kernel, z_mem4 98 rfl rfl, z_mem1 1 rfl rfl, by decide +kernel, by decide +kernel, by decide +kernel⟩
theorem iX11_part : Cond.instanceMethod yX11_part ∈ z_us := z_mem4 96 rfl rfl
theorem sX11_part : Cond.selects RX11 yX11_part yX11_part ∈ z_us := z_mem4 97 rfl rfl
abbrev mX11_told : ZT := (yX11_told, cX11_told, 3, (some .int))
abbrev rX11_told (n1 : Nat) : ZR := (1, 21, n1)
theorem kX11_told : z_k mX11_told 2 := ⟨by decide +kernel, z_mem4 102 rfl rfl, z_mem1 1 rfl rfl, by decide +kernel, by decide +kernel, by decide +kernel⟩
theorem iX11_told : Cond.instanceMethod yX11_told ∈ z_us := z_mem4 100 rfl rfl
theorem sX11_told : Cond.selects RX11 yX11_told yX11_told ∈ z_us := z_mem4 101 rfl rfl
abbrev mX11_count : ZT := (yX11_count, cX11_count, 2, (some .int))
abbrev rX11_count (n1 : Nat) : ZR := (3, 64, n1)
theorem kX11_count : z_k mX11_count 1 := ⟨by decide +kernel, z_mem4 106 rfl rfl, z_mem1 1 rfl rfl, by decide +kernel, by decide +kernel, by decide +kernel⟩
theorem iX11_count : Cond.instanceMethod yX11_count ∈ z_us := z_mem4 104 rfl rfl
theorem sX11_count : Cond.selects RX11 yX11_count yX11_count ∈ z_us := z_mem4 105 rfl rfl
abbrev mX11_isWithin : ZT := (yX11_isWithin, cX11_isWithin, 3, (some .boolean))
abbrev rX11_isWithin (n1 : Nat) : ZR := (0, 0, n1)
theorem kX11_isWithin : z_k mX11_isWithin 3 := ⟨by decide +kernel, z_mem2 229 rfl rfl, z_mem1 1 rfl rfl, by decide +kernel, by decide +kernel, by decide +kernel⟩
theorem sX11_isWithin : Cond.static yX11_isWithin ∈ z_us := z_mem2 228 rfl rfl
abbrev mX11_isPlace : ZT := (yX11_isPlace, cX11_isPlace, 2, (some .boolean))
abbrev rX11_isPlace (n1 : Nat) : ZR := (1, 22, n1)
theorem kX11_isPlace : z_k mX11_isPlace 2 := ⟨by decide +kernel, z_mem2 226 rfl rfl, z_mem1 1 rfl rfl, by decide +kernel, by decide +kernel, by decide +kernel⟩
theorem sX11_isPlace : Cond.static yX11_isPlace ∈ z_us := z_mem2 225 rfl rfl
abbrev mX11_addSloped : ZT := (yX11_addSloped, cX11_addSloped, 3, (some .int))
abbrev rX11_addSloped (n1 : Nat) : ZR := (3, 65, n1)
theorem kX11_addSloped : z_k mX11_addSloped 2 := ⟨by decide +kernel, z_mem3 15 rfl rfl, z_mem1 1 rfl rfl, by decide +kernel, by decide +kernel, by decide +kernel⟩
theorem iX11_addSloped : Cond.instanceMethod yX11_addSloped ∈ z_us := z_mem3 14 rfl rfl
theorem sX11_addSloped : Cond.selects RX11 yX11_addSloped yX11_addSloped ∈ z_us := z_memp 4 rfl rfl
abbrev mX11_readSights : ZT := (yX11_readSights, cX11_readSights, 3, (some .boolean))
abbrev rX11_readSights (n1 : Nat) : ZR := (6, 129, n1)
theorem kX11_readSights : z_k mX11_readSights 0 := ⟨by decide +kernel, z_mem2 190 rfl rfl, z_mem1 1 rfl rfl, by decide +kernel, by decide +kernel, by decide +kernel⟩
theorem iX11_readSights : Cond.instanceMethod yX11_readSights ∈ z_us := z_mem2 189 rfl rfl
theorem sX11_readSights : Cond.selects RX11 yX11_readSights yX11_readSights ∈ z_us := z_memp 2 rfl rfl
abbrev mX11_readSight : ZT := (yX11_readSight, cX11_readSight, 2, (some .boolean))
abbrev rX11_readSight (n1 : Nat) : ZR := (5, 108, n1)
theorem kX11_readSight : z_k mX11_readSight 0 := ⟨by decide +kernel, z_mem2 202 rfl rfl, z_mem1 1 rfl rfl, by decide +kernel, by decide +kernel, by decide +kernel⟩
theorem iX11_readSight : Cond.instanceMethod yX11_readSight ∈ z_us := z_mem2 201 rfl rfl
theorem sX11_readSight : Cond.selects RX11 yX11_readSight yX11_readSight ∈ z_us := z_memp 3 rfl rfl
abbrev mX11_readTable : ZT := (yX11_readTable, cX11_readTable, 3, (some .boolean))
abbrev rX11_readTable (n1 : Nat) : ZR := (4, 88, n1)
theorem kX11_readTable : z_k mX11_readTable 0 := ⟨by decide +kernel, z_mem3 47 rfl rfl, z_mem1 1 rfl rfl, by decide +kernel, by decide +kernel, by decide +kernel⟩
theorem iX11_readTable : Cond.instanceMethod yX11_readTable ∈ z_us := z_mem3 46 rfl rfl
theorem sX11_readTable : Cond.selects RX11 yX11_readTable yX11_readTable ∈ z_us := z_memp 5 rfl rfl
abbrev mX11_readAsked : ZT := (yX11_readAsked, cX11_readAsked, 3, (some .boolean))
abbrev rX11_readAsked (n1 : Nat) : ZR := (5, 108, n1)
theorem kX11_readAsked : z_k mX11_readAsked 0 := ⟨by decide +kernel, z_mem3 232 rfl rfl, z_mem1 1 rfl rfl, by decide +kernel, by decide +kernel, by decide +kernel⟩
theorem iX11_readAsked : Cond.instanceMethod yX11_readAsked ∈ z_us := z_mem3 231 rfl rfl
theorem sX11_readAsked : Cond.selects RX11 yX11_readAsked yX11_readAsked ∈ z_us := z_memp 20 rfl rfl
abbrev mX11_canGuess : ZT := (yX11_canGuess, cX11_canGuess, 1, (some .boolean))
abbrev rX11_canGuess (n1 : Nat) : ZR := (0, 0, n1)
theorem kX11_canGuess : z_k mX11_canGuess 0 := ⟨by decide +kernel, z_mem3 86 rfl rfl, z_mem1 1 rfl rfl, by decide +kernel, by decide +kernel, by decide +kernel⟩
theorem iX11_canGuess : Cond.instanceMethod yX11_canGuess ∈ z_us := z_mem3 85 rfl rfl
theorem sX11_canGuess : Cond.selects RX11 yX11_canGuess yX11_canGuess ∈ z_us := z_memp 6 rfl rfl
abbrev mX11_guessForAsked : ZT := (yX11_guessForAsked, cX11_guessForAsked, 1, (some .int))
abbrev rX11_guessForAsked (n1 : Nat) : ZR := (5, 137, n1)
theorem kX11_guessForAsked : z_k mX11_guessForAsked 0 := ⟨by decide +kernel, z_mem3 91 rfl rfl, z_mem1 1 rfl rfl, by decide +kernel, by decide +kernel, by decide +kernel⟩
theorem iX11_guessForAsked : Cond.instanceMethod yX11_guessForAsked ∈ z_us := z_mem3 90 rfl rfl
theorem sX11_guessForAsked : Cond.selects RX11 yX11_guessForAsked yX11_guessForAsked ∈ z_us := z_memp 7 rfl rfl
abbrev mX11_leaveOut : ZT := (yX11_leaveOut, cX11_leaveOut, 4, (some .boolean))
abbrev rX11_leaveOut (n1 : Nat) : ZR := (5, 137, n1)
theorem kX11_leaveOut : z_k mX11_leaveOut 2 := ⟨by decide +kernel, z_mem4 24 rfl rfl, z_mem1 1 rfl rfl, by decide +kernel, by decide +kernel, by decide +kernel⟩
theorem iX11_leaveOut : Cond.instanceMethod yX11_leaveOut ∈ z_us := z_mem4 23 rfl rfl
theorem sX11_leaveOut : Cond.selects RX11 yX11_leaveOut yX11_leaveOut ∈ z_us := z_memp 23 rfl rfl
abbrev mX11_findWorst : ZT := (yX11_findWorst, cX11_findWorst, 4, (some .int))
abbrev rX11_findWorst (n1 : Nat) : ZR := (6, 160, n1)
theorem kX11_findWorst : z_k mX11_findWorst 1 := ⟨by decide +kernel, z_mem4 45 rfl rfl, z_mem1 1 rfl rfl, by decide +kernel, by decide +kernel, by decide +kernel⟩
theorem iX11_findWorst : Cond.instanceMethod yX11_findWorst ∈ z_us := z_mem4 44 rfl rfl
theorem sX11_findWorst : Cond.selects RX11 yX11_findWorst yX11_findWorst ∈ z_us := z_memp 24 rfl rfl
abbrev mX11_setResult : ZT := (yX11_setResult, cX11_setResult, 3, (some .boolean))
abbrev rX11_setResult (n1 : Nat) : ZR := (5, 127, n1)
theorem kX11_setResult : z_k mX11_setResult 2 := ⟨by decide +kernel, z_mem4 0 rfl rfl, z_mem1 1 rfl rfl, by decide +kernel, by decide +kernel, by decide +kernel⟩
theorem iX11_setResult : Cond.instanceMethod yX11_setResult ∈ z_us := z_mem3 239 rfl rfl
theorem sX11_setResult : Cond.selects RX11 yX11_setResult yX11_setResult ∈ z_us := z_memp 21 rfl rfl
abbrev mX12_init : ZT := (yX12_init, cX12_init, 1, none)
abbrev rX12_init (n1 : Nat) : ZR := (3, 73, n1)
theorem kX12_init : z_k mX12_init 0 := ⟨by decide +kernel, z_mem4 115 rfl rfl, z_mem1 15 rfl rfl, by decide +kernel, by decide +kernel, by decide +kernel⟩
theorem iX12_init : Cond.instanceMethod yX12_init ∈ z_us := z_mem4 114 rfl rfl
abbrev mX12_carry : ZT := (yX12_carry, cX12_carry, 5, none)
abbrev rX12_carry (n1 : Nat) : ZR := (1, 25, n1)
theorem kX12_carry : z_k mX12_carry 1 := ⟨by decide +kernel, z_mem4 124 rfl rfl, z_mem1 15 rfl rfl, by decide +kernel, by decide +kernel, by decide +kernel⟩
theorem iX12_carry : Cond.instanceMethod yX12_carry ∈ z_us := z_mem4 123 rfl rfl
theorem sX12_carry : Cond.selects RX12 yX12_carry yX12_carry ∈ z_us := z_memp 27 rfl rfl
abbrev mX12_set : ZT := (yX12_set, cX12_set, 5, none)
abbrev rX12_set (n1 : Nat) : ZR := (2, 49, n1)
theorem kX12_set : z_k mX12_set 2 := ⟨by decide +kernel, z_mem4 120 rfl rfl, z_mem1 15 rfl rfl, by decide +kernel, by decide +kernel, by decide +kernel⟩
theorem iX12_set : Cond.instanceMethod yX12_set ∈ z_us := z_mem4 119 rfl rfl
theorem sX12_set : Cond.selects RX12 yX12_set yX12_set ∈ z_us := z_memp 26 rfl rfl
abbrev mX12_copy : ZT := (yX12_copy, cX12_copy, 4, none)
abbrev rX12_copy (n1 : Nat) : ZR := (0, 0, n1)
theorem kX12_copy : z_k mX12_copy 2 := ⟨by decide +kernel, z_mem5 107 rfl rfl, z_mem1 15 rfl rfl, by decide +kernel, by decide +kernel, by decide +kernel⟩
theorem iX12_copy : Cond.instanceMethod yX12_copy ∈ z_us := z_mem5 106 rfl rfl
theorem sX12_copy : Cond.selects RX12 yX12_copy yX12_copy ∈ z_us := z_memp 39 rfl rfl
abbrev mX12_more : ZT := (yX12_more, cX12_more, 6, none)
abbrev rX12_more (n1 : Nat) : ZR := (2, 49, n1)
theorem kX12_more : z_k mX12_more 3 := ⟨by decide +kernel, z_mem5 135 rfl rfl, z_mem1 15 rfl rfl, by decide +kernel, by decide +kernel, by decide +kernel⟩
theorem iX12_more : Cond.instanceMethod yX12_more ∈ z_us := z_mem5 134 rfl rfl
theorem sX12_more : Cond.selects RX12 yX12_more yX12_more ∈ z_us := z_memp 45 rfl rfl
abbrev mX12_isBelow : ZT := (yX12_isBelow, cX12_isBelow, 2, (some .boolean))
abbrev rX12_isBelow (n1 : Nat) : ZR := (0, 0, n1)
theorem kX12_isBelow : z_k mX12_isBelow 1 := ⟨by decide +kernel, z_mem5 119 rfl rfl, z_mem1 15 rfl rfl, by decide +kernel, by decide +kernel, by decide +kernel⟩
theorem iX12_isBelow : Cond.instanceMethod yX12_isBelow ∈ z_us := z_mem5 118 rfl rfl
theorem sX12_isBelow : Cond.selects RX12 yX12_isBelow yX12_isBelow ∈ z_us := z_memp 42 rfl rfl
abbrev mX12_isZero : ZT := (yX12_isZero, cX12_isZero, 3, (some .boolean))
abbrev rX12_isZero (n1 : Nat) : ZR := (0, 0, n1)
theorem kX12_isZero : z_k mX12_isZero 1 := ⟨by decide +kernel, z_mem5 103 rfl rfl, z_mem1 15 rfl rfl, by decide +kernel, by decide +kernel, by decide +kernel⟩
theorem iX12_isZero : Cond.instanceMethod yX12_isZero ∈ z_us := z_mem5 102 rfl rfl
theorem sX12_isZero : Cond.selects RX12 yX12_isZero yX12_isZero ∈ z_us := z_memp 38 rfl rfl
abbrev mX12_turn : ZT := (yX12_turn, cX12_turn, 3, none)
abbrev rX12_turn (n1 : Nat) : ZR := (2, 49, n1)
theorem kX12_turn : z_k mX12_turn 1 := ⟨by decide +kernel, z_mem5 127 rfl rfl, z_mem1 15 rfl rfl, by decide +kernel, by decide +kernel, by decide +kernel⟩
theorem iX12_turn : Cond.instanceMethod yX12_turn ∈ z_us := z_mem5 126 rfl rfl
theorem sX12_turn : Cond.selects RX12 yX12_turn yX12_turn ∈ z_us := z_memp 44 rfl rfl
abbrev mX12_sign : ZT := (yX12_sign, cX12_sign, 2, (some .int))
abbrev rX12_sign (n1 : Nat) : ZR := (1, 22, n1)
theorem kX12_sign : z_k mX12_sign 1 := ⟨by decide +kernel, z_mem5 226 rfl rfl, z_mem1 15 rfl rfl, by decide +kernel, by decide +kernel, by decide +kernel⟩
theorem iX12_sign : Cond.instanceMethod yX12_sign ∈ z_us := z_mem5 225 rfl rfl
theorem sX12_sign : Cond.selects RX12 yX12_sign yX12_sign ∈ z_us := z_memp 61 rfl rfl
abbrev mX12_bare : ZT := (yX12_bare, cX12_bare, 5, none)
abbrev rX12_bare (n1 : Nat) : ZR := (3, 71, n1)
theorem kX12_bare : z_k mX12_bare 2 := ⟨by decide +kernel, z_mem5 123 rfl rfl, z_mem1 15 rfl rfl, by decide +kernel, by decide +kernel, by decide +kernel⟩
theorem iX12_bare : Cond.instanceMethod yX12_bare ∈ z_us := z_mem5 122 rfl rfl
theorem sX12_bare : Cond.selects RX12 yX12_bare yX12_bare ∈ z_us := z_memp 43 rfl rfl
abbrev mX12_length : ZT := (yX12_length, cX12_length, 2, (some .int))
abbrev rX12_length (n1 : Nat) : ZR := (0, 0, n1)
theorem kX12_length : z_k mX12_length 1 := ⟨by decide +kernel, z_mem5 130 rfl rfl, z_mem1 15 rfl rfl, by decide +kernel, by decide +kernel, by decide +kernel⟩
theorem sX12_length : Cond.static yX12_length ∈ z_us := z_mem5 129 rfl rfl
abbrev mX12_times : ZT := (yX12_times, cX12_times, 13, none)
abbrev rX12_times (n1 : Nat) : ZR := (4, 95, n1)
theorem kX12_times : z_k mX12_times 3 := ⟨by decide +kernel, z_mem5 115 rfl rfl, z_mem1 15 rfl rfl, by decide +kernel, by decide +kernel, by decide +kernel⟩
theorem iX12_times : Cond.instanceMethod yX12_times ∈ z_us := z_mem5 114 rfl rfl
theorem sX12_times : Cond.selects RX12 yX12_times yX12_times ∈ z_us := z_memp 41 rfl rfl
abbrev mX12_parts : ZT := (yX12_parts, cX12_parts, 16, none)
abbrev rX12_parts (n1 : Nat) : ZR := (4, 95, n1)
theorem kX12_parts : z_k mX12_parts 2 := ⟨by decide +kernel, z_mem5 139 rfl rfl, z_mem1 15 rfl rfl, by decide +kernel, by decide +kernel, by decide +kernel⟩
theorem iX12_parts : Cond.instanceMethod yX12_parts ∈ z_us := z_mem5 138 rfl rfl
theorem sX12_parts : Cond.selects RX12 yX12_parts yX12_parts ∈ z_us := z_memp 46 rfl rfl
abbrev mX12_goesInto : ZT := (yX12_goesInto, cX12_goesInto, 10, (some .boolean))
abbrev rX12_goesInto (n1 : Nat) : ZR := (1, 25, n1)
theorem kX12_goesInto : z_k mX12_goesInto 3 := ⟨by decide +kernel, z_mem5 145 rfl rfl, z_mem1 15 rfl rfl, by decide +kernel, by decide +kernel, by decide +kernel⟩
theorem iX12_goesInto : Cond.instanceMethod yX12_goesInto ∈ z_us := z_mem5 144 rfl rfl
theorem sX12_goesInto : Cond.selects RX12 yX12_goesInto yX12_goesInto ∈ z_us := z_memp 47 rfl rfl
abbrev mX12_isEven : ZT := (yX12_isEven, cX12_isEven, 2, (some .boolean))
abbrev rX12_isEven (n1 : Nat) : ZR := (0, 0, n1)
theorem kX12_isEven : z_k mX12_isEven 1 := ⟨by decide +kernel, z_mem5 178 rfl rfl, z_mem1 15 rfl rfl, by decide +kernel, by decide +kernel, by decide +kernel⟩
theorem iX12_isEven : Cond.instanceMethod yX12_isEven ∈ z_us := z_mem5 177 rfl rfl
theorem sX12_isEven : Cond.selects RX12 yX12_isEven yX12_isEven ∈ z_us := z_memp 53 rfl rfl
abbrev mX12_half : ZT := (yX12_half, cX12_half, 7, none)
abbrev rX12_half (n1 : Nat) : ZR := (0, 0, n1)
theorem kX12_half : z_k mX12_half 1 := ⟨by decide +kernel, z_mem5 182 rfl rfl, z_mem1 15 rfl rfl, by decide +kernel, by decide +kernel, by decide +kernel⟩
theorem iX12_half : Cond.instanceMethod yX12_half ∈ z_us := z_mem5 181 rfl rfl
theorem sX12_half : Cond.selects RX12 yX12_half yX12_half ∈ z_us := z_memp 54 rfl rfl
abbrev mX12_isLess : ZT := (yX12_isLess, cX12_isLess, 8, (some .boolean))
abbrev rX12_isLess (n1 : Nat) : ZR := (0, 0, n1)
theorem kX12_isLess : z_k mX12_isLess 2 := ⟨by decide +kernel, z_mem5 186 rfl rfl, z_mem1 15 rfl rfl, by decide +kernel, by decide +kernel, by decide +kernel⟩
theorem iX12_isLess : Cond.instanceMethod yX12_isLess ∈ z_us := z_mem5 185 rfl rfl
theorem sX12_isLess : Cond.selects RX12 yX12_isLess yX12_isLess ∈ z_us := z_memp 55 rfl rfl
abbrev mX12_result : ZT := (yX12_result, cX12_result, 6, none)
abbrev rX12_result (n1 : Nat) : ZR := (5, 130, n1)
theorem kX12_result : z_k mX12_result 2 := ⟨by decide +kernel, z_mem5 174 rfl rfl, z_mem1 15 rfl rfl, by decide +kernel, by decide +kernel, by decide +kernel⟩
theorem iX12_result : Cond.instanceMethod yX12_result ∈ z_us := z_mem5 173 rfl rfl
theorem sX12_result : Cond.selects RX12 yX12_result yX12_result ∈ z_us := z_memp 52 rfl rfl
abbrev mX12_isSlot : ZT := (yX12_isSlot, cX12_isSlot, 1, (some .boolean))
abbrev rX12_isSlot (n1 : Nat) : ZR := (0, 0, n1)
theorem kX12_isSlot : z_k mX12_isSlot 1 := ⟨by decide +kernel, z_mem4 230 rfl rfl, z_mem1 15 rfl rfl, by decide +kernel, by decide +kernel, by decide +kernel⟩
theorem sX12_isSlot : Cond.static yX12_isSlot ∈ z_us := z_mem4 229 rfl rfl
abbrev mX12_row : ZT := (yX12_row, cX12_row, 5, (some .int))
abbrev rX12_row (n1 : Nat) : ZR := (1, 20, n1)
theorem kX12_row : z_k mX12_row 3 := ⟨by decide +kernel, z_mem4 227 rfl rfl, z_mem1 15 rfl rfl, by decide +kernel, by decide +kernel, by decide +kernel⟩
theorem iX12_row : Cond.instanceMethod yX12_row ∈ z_us := z_mem4 225 rfl rfl
theorem sX12_row : Cond.selects RX12 yX12_row yX12_row ∈ z_us := z_mem4 226 rfl rfl
abbrev mX12_tear : ZT := (yX12_tear, cX12_tear, 2, (some .boolean))
abbrev rX12_tear (n1 : Nat) : ZR := (1, 20, n1)
theorem kX12_tear : z_k mX12_tear 1 := ⟨by decide +kernel, z_mem4 234 rfl rfl, z_mem1 15 rfl rfl, by decide +kernel, by decide +kernel, by decide +kernel⟩
theorem iX12_tear : Cond.instanceMethod yX12_tear ∈ z_us := z_mem4 232 rfl rfl
theorem sX12_tear : Cond.selects RX12 yX12_tear yX12_tear ∈ z_us := z_mem4 233 rfl rfl
abbrev mX12_write : ZT := (yX12_write, cX12_write, 6, (some .int))
abbrev rX12_write (n1 : Nat) : ZR := (1, 20, n1)
theorem kX12_write : z_k mX12_write 3 := ⟨by decide +kernel, z_mem4 238 rfl rfl, z_mem1 15 rfl rfl, by decide +kernel, by decide +kernel, by decide +kernel⟩
theorem iX12_write : Cond.instanceMethod yX12_write ∈ z_us := z_mem4 236 rfl rfl
theorem sX12_write : Cond.selects RX12 yX12_write yX12_write ∈ z_us := z_mem4 237 rfl rfl
abbrev mX12_cell : ZT := (yX12_cell, cX12_cell, 3, (some .int))
abbrev rX12_cell (n1 : Nat) : ZR := (0, 0, n1)
theorem kX12_cell : z_k mX12_cell 2 := ⟨by decide +kernel, z_mem5 87 rfl rfl, z_mem1 15 rfl rfl, by decide +kernel, by decide +kernel, by decide +kernel⟩
theorem iX12_cell : Cond.instanceMethod yX12_cell ∈ z_us := z_mem5 86 rfl rfl
theorem sX12_cell : Cond.selects RX12 yX12_cell yX12_cell ∈ z_us := z_memp 34 rfl rfl
abbrev mX12_clear : ZT := (yX12_clear, cX12_clear, 5, none)
abbrev rX12_clear (n1 : Nat) : ZR := (6, 153, n1)
theorem kX12_clear : z_k mX12_clear 1 := ⟨by decide +kernel, z_mem5 99 rfl rfl, z_mem1 15 rfl rfl, by decide +kernel, by decide +kernel, by decide +kernel⟩
theorem iX12_clear : Cond.instanceMethod yX12_clear ∈ z_us := z_mem5 98 rfl rfl
theorem sX12_clear : Cond.selects RX12 yX12_clear yX12_clear ∈ z_us := z_memp 37 rfl rfl
abbrev mX12_clears : ZT := (yX12_clears, cX12_clears, 4, none)
abbrev rX12_clears (n1 : Nat) : ZR := (5, 130, n1)
theorem kX12_clears : z_k mX12_clears 2 := ⟨by decide +kernel, z_mem5 111 rfl rfl, z_mem1 15 rfl rfl, by decide +kernel, by decide +kernel, by decide +kernel⟩
theorem iX12_clears : Cond.instanceMethod yX12_clears ∈ z_us := z_mem5 110 rfl rfl
theorem sX12_clears : Cond.selects RX12 yX12_clears yX12_clears ∈ z_us := z_memp 40 rfl rfl
abbrev mX12_isIn : ZT := (yX12_isIn, cX12_isIn, 6, (some .boolean))
abbrev rX12_isIn (n1 : Nat) : ZR := (0, 0, n1)
theorem kX12_isIn : z_k mX12_isIn 3 := ⟨by decide +kernel, z_mem5 6 rfl rfl, z_mem1 15 rfl rfl, by decide +kernel, by decide +kernel, by decide +kernel⟩
theorem sX12_isIn : Cond.static yX12_isIn ∈ z_us := z_mem5 5 rfl rfl
abbrev mX12_isSeen : ZT := (yX12_isSeen, cX12_isSeen, 2, (some .boolean))
abbrev rX12_isSeen (n1 : Nat) : ZR := (0, 0, n1)
theorem kX12_isSeen : z_k mX12_isSeen 1 := ⟨by decide +kernel, z_mem5 23 rfl rfl, z_mem1 15 rfl rfl, by decide +kernel, by decide +kernel, by decide +kernel⟩
theorem iX12_isSeen : Cond.instanceMethod yX12_isSeen ∈ z_us := z_mem5 22 rfl rfl
theorem sX12_isSeen : Cond.selects RX12 yX12_isSeen yX12_isSeen ∈ z_us := z_memp 28 rfl rfl
abbrev mX12_seen : ZT := (yX12_seen, cX12_seen, 10, (some .int))
abbrev rX12_seen (n1 : Nat) : ZR := (1, 25, n1)
theorem kX12_seen : z_k mX12_seen 1 := ⟨by decide +kernel, z_mem5 2 rfl rfl, z_mem1 15 rfl rfl, by decide +kernel, by decide +kernel, by decide +kernel⟩
theorem iX12_seen : Cond.instanceMethod yX12_seen ∈ z_us := z_mem5 0 rfl rfl
theorem sX12_seen : Cond.selects RX12 yX12_seen yX12_seen ∈ z_us := z_mem5 1 rfl rfl
abbrev mX12_see : ZT := (yX12_see, cX12_see, 6, (some .int))
abbrev rX12_see (n1 : Nat) : ZR := (1, 25, n1)
theorem kX12_see : z_k mX12_see 4 := ⟨by decide +kernel, z_mem5 15 rfl rfl, z_mem1 15 rfl rfl, by decide +kernel, by decide +kernel, by decide +kernel⟩
theorem iX12_see : Cond.instanceMethod yX12_see ∈ z_us := z_mem5 13 rfl rfl
theorem sX12_see : Cond.selects RX12 yX12_see yX12_see ∈ z_us := z_mem5 14 rfl rfl
abbrev mX12_drop : ZT := (yX12_drop, cX12_drop, 3, (some .int))
abbrev rX12_drop (n1 : Nat) : ZR := (1, 21, n1)
theorem kX12_drop : z_k mX12_drop 1 := ⟨by decide +kernel, z_mem5 19 rfl rfl, z_mem1 15 rfl rfl, by decide +kernel, by decide +kernel, by decide +kernel⟩
theorem iX12_drop : Cond.instanceMethod yX12_drop ∈ z_us := z_mem5 17 rfl rfl
theorem sX12_drop : Cond.selects RX12 yX12_drop yX12_drop ∈ z_us := z_mem5 18 rfl rfl
abbrev mX12_isLaw : ZT := (yX12_isLaw, cX12_isLaw, 2, (some .boolean))
abbrev rX12_isLaw (n1 : Nat) : ZR := (0, 0, n1)
theorem kX12_isLaw : z_k mX12_isLaw 1 := ⟨by decide +kernel, z_mem5 45 rfl rfl, z_mem1 15 rfl rfl, by decide +kernel, by decide +kernel, by decide +kernel⟩
theorem iX12_isLaw : Cond.instanceMethod yX12_isLaw ∈ z_us := z_mem5 44 rfl rfl
theorem sX12_isLaw : Cond.selects RX12 yX12_isLaw yX12_isLaw ∈ z_us := z_memp 29 rfl rfl
abbrev mX12_straight : ZT := (yX12_straight, cX12_straight, 3, (some .int))
abbrev rX12_straight (n1 : Nat) : ZR := (0, 0, n1)
theorem kX12_straight : z_k mX12_straight 1 := ⟨by decide +kernel, z_mem5 27 rfl rfl, z_mem1 15 rfl rfl, by decide +kernel, by decide +kernel, by decide +kernel⟩
theorem iX12_straight : Cond.instanceMethod yX12_straight ∈ z_us := z_mem5 25 rfl rfl
theorem sX12_straight : Cond.selects RX12 yX12_straight yX12_straight ∈ z_us := z_mem5 26 rfl rfl
abbrev mX12_capped : ZT := (yX12_capped, cX12_capped, 4, (some .int))
abbrev rX12_capped (n1 : Nat) : ZR := (0, 0, n1)
theorem kX12_capped : z_k mX12_capped 2 := ⟨by decide +kernel, z_mem5 31 rfl rfl, z_mem1 15 rfl rfl, by decide +kernel, by decide +kernel, by decide +kernel⟩
theorem iX12_capped : Cond.instanceMethod yX12_capped ∈ z_us := z_mem5 29 rfl rfl
theorem sX12_capped : Cond.selects RX12 yX12_capped yX12_capped ∈ z_us := z_mem5 30 rfl rfl
abbrev mX12_table : ZT := (yX12_table, cX12_table, 7, (some .int))
abbrev rX12_table (n1 : Nat) : ZR := (1, 25, n1)
theorem kX12_table : z_k mX12_table 1 := ⟨by decide +kernel, z_mem5 35 rfl rfl, z_mem1 15 rfl rfl, by decide +kernel, by decide +kernel, by decide +kernel⟩
theorem iX12_table : Cond.instanceMethod yX12_table ∈ z_us := z_mem5 33 rfl rfl
theorem sX12_table : Cond.selects RX12 yX12_table yX12_table ∈ z_us := z_mem5 34 rfl rfl
abbrev mX12_sum : ZT := (yX12_sum, cX12_sum, 4, (some .int))
abbrev rX12_sum (n1 : Nat) : ZR := (1, 21, n1)
theorem kX12_sum : z_k mX12_sum 2 := ⟨by decide +kernel, z_mem5 41 rfl rfl, z_mem1 15 rfl rfl, by decide +kernel, by decide +kernel, by decide +kernel⟩
theorem iX12_sum : Cond.instanceMethod yX12_sum ∈ z_us := z_mem5 39 rfl rfl
theorem sX12_sum : Cond.selects RX12 yX12_sum yX12_sum ∈ z_us := z_mem5 40 rfl rfl
abbrev mX12_unlike : ZT := (yX12_unlike, cX12_unlike, 3, (some .int))
abbrev rX12_unlike (n1 : Nat) : ZR := (1, 21, n1)
theorem kX12_unlike : z_k mX12_unlike 2 := ⟨by decide +kernel, z_mem5 49 rfl rfl, z_mem1 15 rfl rfl, by decide +kernel, by decide +kernel, by decide +kernel⟩
theorem iX12_unlike : Cond.instanceMethod yX12_unlike ∈ z_us := z_mem5 47 rfl rfl
theorem sX12_unlike : Cond.selects RX12 yX12_unlike yX12_unlike ∈ z_us := z_mem5 48 rfl rfl
abbrev mX12_use : ZT := (yX12_use, cX12_use, 2, (some .boolean))
abbrev rX12_use (n1 : Nat) : ZR := (1, 21, n1)
theorem kX12_use : z_k mX12_use 1 := ⟨by decide +kernel, z_mem5 53 rfl rfl, z_mem1 15 rfl rfl, by decide +kernel, by decide +kernel, by decide +kernel⟩
theorem iX12_use : Cond.instanceMethod yX12_use ∈ z_us := z_mem5 51 rfl rfl
theorem sX12_use : Cond.selects RX12 yX12_use yX12_use ∈ z_us := z_mem5 52 rfl rfl
abbrev mX12_nearest : ZT := (yX12_nearest, cX12_nearest, 2, (some .boolean))
abbrev rX12_nearest (n1 : Nat) : ZR := (0, 0, n1)
theorem kX12_nearest : z_k mX12_nearest 1 := ⟨by decide +kernel, z_mem5 57 rfl rfl, z_mem1 15 rfl rfl, by decide +kernel, by decide +kernel, by decide +kernel⟩
theorem iX12_nearest : Cond.instanceMethod yX12_nearest ∈ z_us := z_mem5 55 rfl rfl
theorem sX12_nearest : Cond.selects RX12 yX12_nearest yX12_nearest ∈ z_us := z_mem5 56 rfl rfl
abbrev mX12_size : ZT := (yX12_size, cX12_size, 1, (some .int))
abbrev rX12_size (n1 : Nat) : ZR := (0, 0, n1)
theorem kX12_size : z_k mX12_size 1 := ⟨by decide +kernel, z_mem5 79 rfl rfl, z_mem1 15 rfl rfl, by decide +kernel, by decide +kernel, by decide +kernel⟩
theorem sX12_size : Cond.static yX12_size ∈ z_us := z_mem5 78 rfl rfl
abbrev mX12_way : ZT := (yX12_way, cX12_way, 4, (some .int))
abbrev rX12_way (n1 : Nat) : ZR := (1, 20, n1)
theorem kX12_way : z_k mX12_way 4 := ⟨by decide +kernel, z_mem5 76 rfl rfl, z_mem1 15 rfl rfl, by decide +kernel, by decide +kernel, by decide +kernel⟩
theorem sX12_way : Cond.static yX12_way ∈ z_us := z_mem5 75 rfl rfl
abbrev mX12_between : ZT := (yX12_between, cX12_between, 4, (some .int))
abbrev rX12_between (n1 : Nat) : ZR := (2, 43, n1)
theorem kX12_between : z_k mX12_between 3 := ⟨by decide +kernel, z_mem5 91 rfl rfl, z_mem1 15 rfl rfl, by decide +kernel, by decide +kernel, by decide +kernel⟩
theorem iX12_between : Cond.instanceMethod yX12_between ∈ z_us := z_mem5 90 rfl rfl
theorem sX12_between : Cond.selects RX12 yX12_between yX12_between ∈ z_us := z_memp 35 rfl rfl
abbrev mX12_ways : ZT := (yX12_ways, cX12_ways, 4, (some .int))
abbrev rX12_ways (n1 : Nat) : ZR := (2, 43, n1)
theorem kX12_ways : z_k mX12_ways 1 := ⟨by decide +kernel, z_mem5 73 rfl rfl, z_mem1 15 rfl rfl, by decide +kernel, by decide +kernel, by decide +kernel⟩
theorem iX12_ways : Cond.instanceMethod yX12_ways ∈ z_us := z_mem5 72 rfl rfl
theorem sX12_ways : Cond.selects RX12 yX12_ways yX12_ways ∈ z_us := z_memp 32 rfl rfl
abbrev mX12_choose : ZT := (yX12_choose, cX12_choose, 4, none)
abbrev rX12_choose (n1 : Nat) : ZR := (3, 66, n1)
theorem kX12_choose : z_k mX12_choose 0 := ⟨by decide +kernel, z_mem5 69 rfl rfl, z_mem1 15 rfl rfl, by decide +kernel, by decide +kernel, by decide +kernel⟩
theorem iX12_choose : Cond.instanceMethod yX12_choose ∈ z_us := z_mem5 68 rfl rfl
theorem sX12_choose : Cond.selects RX12 yX12_choose yX12_choose ∈ z_us := z_memp 31 rfl rfl
abbrev mX12_toPlaces : ZT := (yX12_toPlaces, cX12_toPlaces, 5, (some .int))
abbrev rX12_toPlaces (n1 : Nat) : ZR := (2, 43, n1)
theorem kX12_toPlaces : z_k mX12_toPlaces 2 := ⟨by decide +kernel, z_mem5 95 rfl rfl, z_mem1 15 rfl rfl, by decide +kernel, by decide +kernel, by decide +kernel⟩
theorem iX12_toPlaces : Cond.instanceMethod yX12_toPlaces ∈ z_us := z_mem5 94 rfl rfl
theorem sX12_toPlaces : Cond.selects RX12 yX12_toPlaces yX12_toPlaces ∈ z_us := z_memp 36 rfl rfl
abbrev mX12_weigh : ZT := (yX12_weigh, cX12_weigh, 4, (some .boolean))
abbrev rX12_weigh (n1 : Nat) : ZR := (7, 177, n1)
theorem kX12_weigh : z_k mX12_weigh 1 := ⟨by decide +kernel, z_mem5 83 rfl rfl, z_mem1 15 rfl rfl, by decide +kernel, by decide +kernel, by decide +kernel⟩
theorem iX12_weigh : Cond.instanceMethod yX12_weigh ∈ z_us := z_mem5 82 rfl rfl
theorem sX12_weigh : Cond.selects RX12 yX12_weigh yX12_weigh ∈ z_us := z_memp 33 rfl rfl
abbrev mX12_told : ZT := (yX12_told, cX12_told, 2, (some .int))
abbrev rX12_told (n1 : Nat) : ZR := (1, 22, n1)
theorem kX12_told : z_k mX12_told 1 := ⟨by decide +kernel, z_mem5 157 rfl rfl, z_mem1 15 rfl rfl, by decide +kernel, by decide +kernel, by decide +kernel⟩
theorem iX12_told : Cond.instanceMethod yX12_told ∈ z_us := z_mem5 156 rfl rfl
theorem sX12_told : Cond.selects RX12 yX12_told yX12_told ∈ z_us := z_memp 50 rfl rfl
abbrev mX12_guess : ZT := (yX12_guess, cX12_guess, 3, none)
abbrev rX12_guess (n1 : Nat) : ZR := (3, 74, n1)
theorem kX12_guess : z_k mX12_guess 1 := ⟨by decide +kernel, z_mem5 153 rfl rfl, z_mem1 15 rfl rfl, by decide +kernel, by decide +kernel, by decide +kernel⟩
theorem iX12_guess : Cond.instanceMethod yX12_guess ∈ z_us := z_mem5 152 rfl rfl
theorem sX12_guess : Cond.selects RX12 yX12_guess yX12_guess ∈ z_us := z_memp 49 rfl rfl
abbrev mX12_top : ZT := (yX12_top, cX12_top, 2, (some .int))
abbrev rX12_top (n1 : Nat) : ZR := (0, 0, n1)
theorem kX12_top : z_k mX12_top 1 := ⟨by decide +kernel, z_mem5 149 rfl rfl, z_mem1 15 rfl rfl, by decide +kernel, by decide +kernel, by decide +kernel⟩
theorem iX12_top : Cond.instanceMethod yX12_top ∈ z_us := z_mem5 148 rfl rfl
theorem sX12_top : Cond.selects RX12 yX12_top yX12_top ∈ z_us := z_memp 48 rfl rfl
abbrev mX12_bottom : ZT := (yX12_bottom, cX12_bottom, 2, (some .int))
abbrev rX12_bottom (n1 : Nat) : ZR := (0, 0, n1)
theorem kX12_bottom : z_k mX12_bottom 1 := ⟨by decide +kernel, z_mem5 161 rfl rfl, z_mem1 15 rfl rfl, by decide +kernel, by decide +kernel, by decide +kernel⟩
theorem iX12_bottom : Cond.instanceMethod yX12_bottom ∈ z_us := z_mem5 160 rfl rfl
theorem sX12_bottom : Cond.selects RX12 yX12_bottom yX12_bottom ∈ z_us := z_memp 51 rfl rfl
abbrev mX12_isAnswered : ZT := (yX12_isAnswered, cX12_isAnswered, 5, (some .boolean))
abbrev rX12_isAnswered (n1 : Nat) : ZR := (8, 200, n1)
theorem kX12_isAnswered : z_k mX12_isAnswered 0 := ⟨by decide +kernel, z_mem5 65 rfl rfl, z_mem1 15 rfl rfl, by decide +kernel, by decide +kernel, by decide +kernel⟩
theorem iX12_isAnswered : Cond.instanceMethod yX12_isAnswered ∈ z_us := z_mem5 64 rfl rfl
theorem sX12_isAnswered : Cond.selects RX12 yX12_isAnswered yX12_isAnswered ∈ z_us := z_memp 30 rfl rfl
abbrev mX12_ask : ZT := (yX12_ask, cX12_ask, 3, (some .int))
abbrev rX12_ask (n1 : Nat) : ZR := (9, 224, n1)
theorem kX12_ask : z_k mX12_ask 2 := ⟨by decide +kernel, z_mem5 61 rfl rfl, z_mem1 15 rfl rfl, by decide +kernel, by decide +kernel, by decide +kernel⟩
theorem iX12_ask : Cond.instanceMethod yX12_ask ∈ z_us := z_mem5 59 rfl rfl
theorem sX12_ask : Cond.selects RX12 yX12_ask yX12_ask ∈ z_us := z_mem5 60 rfl rfl
abbrev mX12_mean : ZT := (yX12_mean, cX12_mean, 7, (some .int))
abbrev rX12_mean (n1 : Nat) : ZR := (9, 224, n1)
theorem kX12_mean : z_k mX12_mean 1 := ⟨by decide +kernel, z_mem5 165 rfl rfl, z_mem1 15 rfl rfl, by decide +kernel, by decide +kernel, by decide +kernel⟩
theorem iX12_mean : Cond.instanceMethod yX12_mean ∈ z_us := z_mem5 163 rfl rfl
theorem sX12_mean : Cond.selects RX12 yX12_mean yX12_mean ∈ z_us := z_mem5 164 rfl rfl
abbrev mX12_answer : ZT := (yX12_answer, cX12_answer, 4, (some .boolean))
abbrev rX12_answer (n1 : Nat) : ZR := (6, 155, n1)
theorem kX12_answer : z_k mX12_answer 1 := ⟨by decide +kernel, z_mem5 170 rfl rfl, z_mem1 15 rfl rfl, by decide +kernel, by decide +kernel, by decide +kernel⟩
theorem iX12_answer : Cond.instanceMethod yX12_answer ∈ z_us := z_mem5 168 rfl rfl
theorem sX12_answer : Cond.selects RX12 yX12_answer yX12_answer ∈ z_us := z_mem5 169 rfl rfl
abbrev mX12_isOff : ZT := (yX12_isOff, cX12_isOff, 4, (some .boolean))
abbrev rX12_isOff (n1 : Nat) : ZR := (8, 200, n1)
theorem kX12_isOff : z_k mX12_isOff 2 := ⟨by decide +kernel, z_mem5 194 rfl rfl, z_mem1 15 rfl rfl, by decide +kernel, by decide +kernel, by decide +kernel⟩
theorem iX12_isOff : Cond.instanceMethod yX12_isOff ∈ z_us := z_mem5 193 rfl rfl
theorem sX12_isOff : Cond.selects RX12 yX12_isOff yX12_isOff ∈ z_us := z_memp 56 rfl rfl
abbrev mX12_leftOut : ZT := (yX12_leftOut, cX12_leftOut, 2, (some .boolean))
abbrev rX12_leftOut (n1 : Nat) : ZR := (9, 223, n1)
theorem kX12_leftOut : z_k mX12_leftOut 1 := ⟨by decide +kernel, z_mem5 190 rfl rfl, z_mem1 15 rfl rfl, by decide +kernel, by decide +kernel, by decide +kernel⟩
theorem iX12_leftOut : Cond.instanceMethod yX12_leftOut ∈ z_us := z_mem5 188 rfl rfl
theorem sX12_leftOut : Cond.selects RX12 yX12_leftOut yX12_leftOut ∈ z_us := z_mem5 189 rfl rfl
abbrev mX12_bare_ : ZT := (yX12_bare_, cX12_bare_, 2, none)
abbrev rX12_bare_ (n1 : Nat) : ZR := (3, 71, n1)
theorem kX12_bare_ : z_k mX12_bare_ 1 := ⟨by decide +kernel, z_mem5 206 rfl rfl, z_mem1 15 rfl rfl, by decide +kernel, by decide +kernel, by decide +kernel⟩
theorem iX12_bare_ : Cond.instanceMethod yX12_bare_ ∈ z_us := z_mem5 205 rfl rfl
theorem sX12_bare_ : Cond.selects RX12 yX12_bare_ yX12_bare_ ∈ z_us := z_memp 58 rfl rfl
abbrev mX12_isAbove : ZT := (yX12_isAbove, cX12_isAbove, 5, (some .boolean))
abbrev rX12_isAbove (n1 : Nat) : ZR := (5, 127, n1)
theorem kX12_isAbove : z_k mX12_isAbove 4 := ⟨by decide +kernel, z_mem5 210 rfl rfl, z_mem1 15 rfl rfl, by decide +kernel, by decide +kernel, by decide +kernel⟩
theorem iX12_isAbove : Cond.instanceMethod yX12_isAbove ∈ z_us := z_mem5 209 rfl rfl
theorem sX12_isAbove : Cond.selects RX12 yX12_isAbove yX12_isAbove ∈ z_us := z_memp 59 rfl rfl
abbrev mX12_worst : ZT := (yX12_worst, cX12_worst, 4, (some .int))
abbrev rX12_worst (n1 : Nat) : ZR := (9, 223, n1)
theorem kX12_worst : z_k mX12_worst 1 := ⟨by decide +kernel, z_mem5 202 rfl rfl, z_mem1 15 rfl rfl, by decide +kernel, by decide +kernel, by decide +kernel⟩
theorem iX12_worst : Cond.instanceMethod yX12_worst ∈ z_us := z_mem5 201 rfl rfl
theorem sX12_worst : Cond.selects RX12 yX12_worst yX12_worst ∈ z_us := z_memp 57 rfl rfl
abbrev mX12_worst_ : ZT := (yX12_worst_, cX12_worst_, 1, (some .int))
abbrev rX12_worst_ (n1 : Nat) : ZR := (10, 246, n1)
theorem kX12_worst_ : z_k mX12_worst_ 0 := ⟨by decide +kernel, z_mem5 198 rfl rfl, z_mem1 15 rfl rfl, by decide +kernel, by decide +kernel, by decide +kernel⟩
theorem iX12_worst_ : Cond.instanceMethod yX12_worst_ ∈ z_us := z_mem5 196 rfl rfl
theorem sX12_worst_ : Cond.selects RX12 yX12_worst_ yX12_worst_ ∈ z_us := z_mem5 197 rfl rfl
abbrev mX12_best : ZT := (yX12_best, cX12_best, 3, (some .int))
abbrev rX12_best (n1 : Nat) : ZR := (10, 246, n1)
theorem kX12_best : z_k mX12_best 0 := ⟨by decide +kernel, z_mem5 214 rfl rfl, z_mem1 15 rfl rfl, by decide +kernel, by decide +kernel, by decide +kernel⟩
theorem iX12_best : Cond.instanceMethod yX12_best ∈ z_us := z_mem5 212 rfl rfl
theorem sX12_best : Cond.selects RX12 yX12_best yX12_best ∈ z_us := z_mem5 213 rfl rfl
abbrev mX12_minor : ZT := (yX12_minor, cX12_minor, 7, (some .int))
abbrev rX12_minor (n1 : Nat) : ZR := (7, 177, n1)
theorem kX12_minor : z_k mX12_minor 2 := ⟨by decide +kernel, z_mem5 222 rfl rfl, z_mem1 15 rfl rfl, by decide +kernel, by decide +kernel, by decide +kernel⟩
theorem iX12_minor : Cond.instanceMethod yX12_minor ∈ z_us := z_mem5 221 rfl rfl
theorem sX12_minor : Cond.selects RX12 yX12_minor yX12_minor ∈ z_us := z_memp 60 rfl rfl
abbrev mX12_allowed : ZT := (yX12_allowed, cX12_allowed, 5, (some .int))
abbrev rX12_allowed (n1 : Nat) : ZR := (8, 203, n1)
theorem kX12_allowed : z_k mX12_allowed 1 := ⟨by decide +kernel, z_mem5 218 rfl rfl, z_mem1 15 rfl rfl, by decide +kernel, by decide +kernel, by decide +kernel⟩
theorem iX12_allowed : Cond.instanceMethod yX12_allowed ∈ z_us := z_mem5 216 rfl rfl
theorem sX12_allowed : Cond.selects RX12 yX12_allowed yX12_allowed ∈ z_us := z_mem5 217 rfl rfl
abbrev mX12_band0 : ZT := (yX12_band0, cX12_band0, 7, (some .int))
abbrev rX12_band0 (n1 : Nat) : ZR := (2, 43, n1)
theorem kX12_band0 : z_k mX12_band0 2 := ⟨by decide +kernel, z_mem5 234 rfl rfl, z_mem1 15 rfl rfl, by decide +kernel, by decide +kernel, by decide +kernel⟩
theorem iX12_band0 : Cond.instanceMethod yX12_band0 ∈ z_us := z_mem5 233 rfl rfl
theorem sX12_band0 : Cond.selects RX12 yX12_band0 yX12_band0 ∈ z_us := z_memp 62 rfl rfl
abbrev mX12_pairs : ZT := (yX12_pairs, cX12_pairs, 3, (some .int))
abbrev rX12_pairs (n1 : Nat) : ZR := (3, 69, n1)
theorem kX12_pairs : z_k mX12_pairs 2 := ⟨by decide +kernel, z_mem5 230 rfl rfl, z_mem1 15 rfl rfl, by decide +kernel, by decide +kernel, by decide +kernel⟩
theorem iX12_pairs : Cond.instanceMethod yX12_pairs ∈ z_us := z_mem5 228 rfl rfl
theorem sX12_pairs : Cond.selects RX12 yX12_pairs yX12_pairs ∈ z_us := z_mem5 229 rfl rfl
abbrev mX12_band : ZT := (yX12_band, cX12_band, 4, (some .boolean))
abbrev rX12_band (n1 : Nat) : ZR := (6, 155, n1)
theorem kX12_band : z_k mX12_band 2 := ⟨by decide +kernel, z_mem5 238 rfl rfl, z_mem1 15 rfl rfl, by decide +kernel, by decide +kernel, by decide +kernel⟩
theorem iX12_band : Cond.instanceMethod yX12_band ∈ z_us := z_mem5 236 rfl rfl
theorem sX12_band : Cond.selects RX12 yX12_band yX12_band ∈ z_us := z_mem5 237 rfl rfl
abbrev mX12_manyParts : ZT := (yX12_manyParts, cX12_manyParts, 3, (some .int))
abbrev rX12_manyParts (n1 : Nat) : ZR := (1, 21, n1)
theorem kX12_manyParts : z_k mX12_manyParts 1 := ⟨by decide +kernel, z_mem6 6 rfl rfl, z_mem1 15 rfl rfl, by decide +kernel, by decide +kernel, by decide +kernel⟩
theorem iX12_manyParts : Cond.instanceMethod yX12_manyParts ∈ z_us := z_mem6 5 rfl rfl
theorem sX12_manyParts : Cond.selects RX12 yX12_manyParts yX12_manyParts ∈ z_us := z_memp 63 rfl rfl
abbrev mX12_look : ZT := (yX12_look, cX12_look, 2, (some .int))
abbrev rX12_look (n1 : Nat) : ZR := (4, 95, n1)
theorem kX12_look : z_k mX12_look 1 := ⟨by decide +kernel, z_mem6 2 rfl rfl, z_mem1 15 rfl rfl, by decide +kernel, by decide +kernel, by decide +kernel⟩
theorem iX12_look : Cond.instanceMethod yX12_look ∈ z_us := z_mem6 0 rfl rfl
theorem sX12_look : Cond.selects RX12 yX12_look yX12_look ∈ z_us := z_mem6 1 rfl rfl
abbrev mX12_part : ZT := (yX12_part, cX12_part, 3, (some .int))
abbrev rX12_part (n1 : Nat) : ZR := (4, 95, n1)
theorem kX12_part : z_k mX12_part 2 := ⟨by decide +kernel, z_mem6 10 rfl rfl, z_mem1 15 rfl rfl, by decide +kernel, by decide +kernel, by decide +kernel⟩
theorem iX12_part : Cond.instanceMethod yX12_part ∈ z_us := z_mem6 8 rfl rfl
theorem sX12_part : Cond.selects RX12 yX12_part yX12_part ∈ z_us := z_mem6 9 rfl rfl
abbrev mX12_told_ : ZT := (yX12_told_, cX12_told_, 3, (some .int))
abbrev rX12_told_ (n1 : Nat) : ZR := (1, 21, n1)
theorem kX12_told_ : z_k mX12_told_ 2 := ⟨by decide +kernel, z_mem6 14 rfl rfl, z_mem1 15 rfl rfl, by decide +kernel, by decide +kernel, by decide +kernel⟩
theorem iX12_told_ : Cond.instanceMethod yX12_told_ ∈ z_us := z_mem6 12 rfl rfl
theorem sX12_told_ : Cond.selects RX12 yX12_told_ yX12_told_ ∈ z_us := z_mem6 13 rfl rfl
abbrev mX12_count : ZT := (yX12_count, cX12_count, 4, (some .int))
abbrev rX12_count (n1 : Nat) : ZR := (0, 0, n1)
theorem kX12_count : z_k mX12_count 1 := ⟨by decide +kernel, z_mem6 18 rfl rfl, z_mem1 15 rfl rfl, by decide +kernel, by decide +kernel, by decide +kernel⟩
theorem iX12_count : Cond.instanceMethod yX12_count ∈ z_us := z_mem6 16 rfl rfl
theorem sX12_count : Cond.selects RX12 yX12_count yX12_count ∈ z_us := z_mem6 17 rfl rfl
abbrev mJ13_signum_95d88 : ZT := (yJ13_signum_95d88, cJ13_signum_95d88, 2, (some .int))
abbrev rJ13_signum_95d88 (n1 : Nat) : ZR := (0, 0, n1)
theorem kJ13_signum_95d88 : z_k mJ13_signum_95d88 1 := ⟨by decide +kernel, z_mem2 49 rfl rfl, z_mem1 13 rfl rfl, by decide +kernel, by decide +kernel, by decide +kernel⟩
theorem sJ13_signum_95d88 : Cond.static yJ13_signum_95d88 ∈ z_us := z_mem2 48 rfl rfl
abbrev mJ9_floorDiv_f86c9 : ZT := (yJ9_floorDiv_f86c9, cJ9_floorDiv_f86c9, 6, (some .long))
abbrev rJ9_floorDiv_f86c9 (n1 : Nat) : ZR := (0, 0, n1)
theorem kJ9_floorDiv_f86c9 : z_k mJ9_floorDiv_f86c9 2 := ⟨by decide +kernel, z_mem4 131 rfl rfl, z_mem1 5 rfl rfl, by decide +kernel, by decide +kernel, by decide +kernel⟩
theorem sJ9_floorDiv_f86c9 : Cond.static yJ9_floorDiv_f86c9 ∈ z_us := z_mem4 130 rfl rfl
abbrev mJ9_floorMod_f86c9 : ZT := (yJ9_floorMod_f86c9, cJ9_floorMod_f86c9, 6, (some .long))
abbrev rJ9_floorMod_f86c9 (n1 : Nat) : ZR := (0, 0, n1)
theorem kJ9_floorMod_f86c9 : z_k mJ9_floorMod_f86c9 2 := ⟨by decide +kernel, z_mem4 128 rfl rfl, z_mem1 5 rfl rfl, by decide +kernel, by decide +kernel, by decide +kernel⟩
theorem sJ9_floorMod_f86c9 : Cond.static yJ9_floorMod_f86c9 ∈ z_us := z_mem4 127 rfl rfl
abbrev mJ9_abs_0f7a4 : ZT := (yJ9_abs_0f7a4, cJ9_abs_0f7a4, 1, (some .int))
abbrev rJ9_abs_0f7a4 (n1 : Nat) : ZR := (0, 0, n1)
theorem kJ9_abs_0f7a4 : z_k mJ9_abs_0f7a4 1 := ⟨by decide +kernel, z_mem3 102 rfl rfl, z_mem1 5 rfl rfl, by decide +kernel, by decide +kernel, by decide +kernel⟩
theorem sJ9_abs_0f7a4 : Cond.static yJ9_abs_0f7a4 ∈ z_us := z_mem3 101 rfl rfl
abbrev mJ9_abs_067f4 : ZT := (yJ9_abs_067f4, cJ9_abs_067f4, 2, (some .long))
abbrev rJ9_abs_067f4 (n1 : Nat) : ZR := (0, 0, n1)
theorem kJ9_abs_067f4 : z_k mJ9_abs_067f4 1 := ⟨by decide +kernel, z_mem2 46 rfl rfl, z_mem1 5 rfl rfl, by decide +kernel, by decide +kernel, by decide +kernel⟩
theorem sJ9_abs_067f4 : Cond.static yJ9_abs_067f4 ∈ z_us := z_mem2 45 rfl rfl
abbrev mJ9_max_7cf53 : ZT := (yJ9_max_7cf53, cJ9_max_7cf53, 2, (some .int))
abbrev rJ9_max_7cf53 (n1 : Nat) : ZR := (0, 0, n1)
theorem kJ9_max_7cf53 : z_k mJ9_max_7cf53 2 := ⟨by decide +kernel, z_mem1 86 rfl rfl, z_mem1 5 rfl rfl, by decide +kernel, by decide +kernel, by decide +kernel⟩
theorem sJ9_max_7cf53 : Cond.static yJ9_max_7cf53 ∈ z_us := z_mem1 85 rfl rfl
abbrev mJ9_min_7cf53 : ZT := (yJ9_min_7cf53, cJ9_min_7cf53, 2, (some .int))
abbrev rJ9_min_7cf53 (n1 : Nat) : ZR := (0, 0, n1)
theorem kJ9_min_7cf53 : z_k mJ9_min_7cf53 2 := ⟨by decide +kernel, z_mem3 26 rfl rfl, z_mem1 5 rfl rfl, by decide +kernel, by decide +kernel, by decide +kernel⟩
theorem sJ9_min_7cf53 : Cond.static yJ9_min_7cf53 ∈ z_us := z_mem3 25 rfl rfl
abbrev mL_law : ZT := (yL_law, cL_law, 4, (some .boolean))
abbrev rL_law (n1 : Nat) : ZR := (11, 268, n1)
theorem clL_7 : Cond.classLink RL 7 RX11 ∈ z_us := z_mem1 16 rfl rfl
theorem in_X11 : Cond.instantiable RX11 15 ∈ z_us := z_mem1 17 rfl rfl
theorem iz_X11 : Cond.initialized RX11 ∈ z_us := z_mem1 1 rfl rfl
theorem mlL_9 {M : ZT} (h : M.1.cls = RL) : Cond.methodLink M.1.cls 9 yX11_init ∈ z_us ∨ ∃ host, Cond.methodLinkNest M.1.cls 9 yX11_init host ∈ z_us := by
  rw [h]
  exact Or.inl (z_mem1 18 rfl rfl)
theorem mlX11_3 : Cond.methodLink RX11 3 objectInit ∈ z_us := z_mem1 21 rfl rfl
theorem clX11_9 : Cond.classLink RX11 9 RX8 ∈ z_us := z_mem1 24 rfl rfl
theorem in_X8 : Cond.instantiable RX8 9 ∈ z_us := z_mem1 25 rfl rfl
theorem iz_X8 : Cond.initialized RX8 ∈ z_us := z_mem1 2 rfl rfl
theorem mlX11_11 {M : ZT} (h : M.1.cls = RX11) : Cond.methodLink M.1.cls 11 yX8_init ∈ z_us ∨ ∃ host, Cond.methodLinkNest M.1.cls 11 yX8_init host ∈ z_us := by
  rw [h]
  exact Or.inl (z_mem1 26 rfl rfl)
theorem mlX8_3 : Cond.methodLink RX8 3 objectInit ∈ z_us := z_mem1 29 rfl rfl
theorem flX8_11 {M : ZT} (h : M.1.cls = RX8) : z_fl M 11 TX8 0 := by
  unfold z_fl
  rw [h]
  exact Or.inl (z_mem1 30 rfl rfl)
theorem plX8_11 {M : ZT} (h : M.1.cls = RX8) (hi : M.1.name = "<init>") : z_pl M 11 TX8 0 := Or.inr ⟨rfl, by rw [h]; exact (z_mem1 30 rfl rfl), hi, by rw [h]; rfl⟩
theorem flX8_15 {M : ZT} (h : M.1.cls = RX8) : z_fl M 15 TX8 1 := by
  unfold z_fl
  rw [h]
  exact Or.inl (z_mem1 31 rfl rfl)
theorem plX8_15 {M : ZT} (h : M.1.cls = RX8) (hi : M.1.name = "<init>") : z_pl M 15 TX8 1 := Or.inr ⟨rfl, by rw [h]; exact (z_mem1 31 rfl rfl), hi, by rw [h]; rfl⟩
theorem flX8_19 {M : ZT} (h : M.1.cls = RX8) : z_fl M 19 TX8 2 := by
  unfold z_fl
  rw [h]
  exact Or.inl (z_mem1 32 rfl rfl)
theorem plX8_19 {M : ZT} (h : M.1.cls = RX8) (hi : M.1.name = "<init>") : z_pl M 19 TX8 2 := Or.inr ⟨rfl, by rw [h]; exact (z_mem1 32 rfl rfl), hi, by rw [h]; rfl⟩
theorem flX8_37 {M : ZT} (h : M.1.cls = RX8) : z_fl M 37 TX8 3 := by
  unfold z_fl
  rw [h]
  exact Or.inl (z_mem1 33 rfl rfl)
theorem plX8_37 {M : ZT} (h : M.1.cls = RX8) : z_pl M 37 TX8 3 := Or.inl ⟨rfl, flX8_37 h⟩
theorem flX8_41 {M : ZT} (h : M.1.cls = RX8) : z_fl M 41 TX8 4 := by
  unfold z_fl
  rw [h]
  exact Or.inl (z_mem1 34 rfl rfl)
theorem plX8_41 {M : ZT} (h : M.1.cls = RX8) : z_pl M 41 TX8 4 := Or.inl ⟨rfl, flX8_41 h⟩
theorem flX8_47 {M : ZT} (h : M.1.cls = RX8) : z_fl M 47 TX8 5 := by
  unfold z_fl
  rw [h]
  exact Or.inl (z_mem1 35 rfl rfl)
theorem plX8_47 {M : ZT} (h : M.1.cls = RX8) : z_pl M 47 TX8 5 := Or.inl ⟨rfl, flX8_47 h⟩
theorem flX11_295 {M : ZT} (h : M.1.cls = RX11) : z_fl M 295 TX8 5 := by
  unfold z_fl
  rw [h]
  exact Or.inr ⟨"NeighbourBoard", (z_mem1 36 rfl rfl)⟩
theorem plX11_295 {M : ZT} (h : M.1.cls = RX11) : z_pl M 295 TX8 5 := Or.inl ⟨rfl, flX11_295 h⟩
theorem flX8_53 {M : ZT} (h : M.1.cls = RX8) : z_fl M 53 TX8 6 := by
  unfold z_fl
  rw [h]
  exact Or.inl (z_mem1 37 rfl rfl)
theorem plX8_53 {M : ZT} (h : M.1.cls = RX8) : z_pl M 53 TX8 6 := Or.inl ⟨rfl, flX8_53 h⟩
theorem flX11_304 {M : ZT} (h : M.1.cls = RX11) : z_fl M 304 TX8 6 := by
  unfold z_fl
  rw [h]
  exact Or.inr ⟨"NeighbourBoard", (z_mem1 38 rfl rfl)⟩
theorem plX11_304 {M : ZT} (h : M.1.cls = RX11) : z_pl M 304 TX8 6 := Or.inl ⟨rfl, flX11_304 h⟩
theorem flX8_56 {M : ZT} (h : M.1.cls = RX8) : z_fl M 56 TX8 7 := by
  unfold z_fl
  rw [h]
  exact Or.inl (z_mem1 39 rfl rfl)
theorem plX8_56 {M : ZT} (h : M.1.cls = RX8) : z_pl M 56 TX8 7 := Or.inl ⟨rfl, flX8_56 h⟩
theorem flX11_307 {M : ZT} (h : M.1.cls = RX11) : z_fl M 307 TX8 7 := by
  unfold z_fl
  rw [h]
  exact Or.inr ⟨"NeighbourBoard", (z_mem1 40 rfl rfl)⟩
theorem plX11_307 {M : ZT} (h : M.1.cls = RX11) : z_pl M 307 TX8 7 := Or.inl ⟨rfl, flX11_307 h⟩
theorem flX11_118 {M : ZT} (h : M.1.cls = RX11) : z_fl M 118 TX8 8 := by
  unfold z_fl
  rw [h]
  exact Or.inr ⟨"NeighbourBoard", (z_mem1 41 rfl rfl)⟩
theorem plX11_118 {M : ZT} (h : M.1.cls = RX11) : z_pl M 118 TX8 8 := Or.inl ⟨rfl, flX11_118 h⟩
theorem flX8_44 {M : ZT} (h : M.1.cls = RX8) : z_fl M 44 TX8 8 := by
  unfold z_fl
  rw [h]
  exact Or.inl (z_mem1 42 rfl rfl)
theorem plX8_44 {M : ZT} (h : M.1.cls = RX8) : z_pl M 44 TX8 8 := Or.inl ⟨rfl, flX8_44 h⟩
theorem ac_long : Cond.arrayClass .long ∈ z_us := z_mem1 62 rfl rfl
theorem ac_int : Cond.arrayClass .int ∈ z_us := z_mem1 63 rfl rfl
theorem clX11_16 : Cond.classLink RX11 16 RX5 ∈ z_us := z_mem1 64 rfl rfl
theorem in_X5 : Cond.instantiable RX5 2 ∈ z_us := z_mem1 65 rfl rfl
theorem iz_X5 : Cond.initialized RX5 ∈ z_us := z_mem1 3 rfl rfl
theorem mlX11_18 {M : ZT} (h : M.1.cls = RX11) : Cond.methodLink M.1.cls 18 yX5_init ∈ z_us ∨ ∃ host, Cond.methodLinkNest M.1.cls 18 yX5_init host ∈ z_us := by
  rw [h]
  exact Or.inr ⟨"NeighbourBoard", (z_mem1 66 rfl rfl)⟩
theorem mlX5_3 : Cond.methodLink RX5 3 objectInit ∈ z_us := z_mem1 69 rfl rfl
theorem flX5_11 {M : ZT} (h : M.1.cls = RX5) : z_fl M 11 TX5 0 := by
  unfold z_fl
  rw [h]
  exact Or.inl (z_mem1 70 rfl rfl)
theorem plX5_11 {M : ZT} (h : M.1.cls = RX5) (hi : M.1.name = "<init>") : z_pl M 11 TX5 0 := Or.inr ⟨rfl, by rw [h]; exact (z_mem1 70 rfl rfl), hi, by rw [h]; rfl⟩
theorem flX5_15 {M : ZT} (h : M.1.cls = RX5) : z_fl M 15 TX5 1 := by
  unfold z_fl
  rw [h]
  exact Or.inl (z_mem1 71 rfl rfl)
theorem plX5_15 {M : ZT} (h : M.1.cls = RX5) : z_pl M 15 TX5 1 := Or.inl ⟨rfl, flX5_15 h⟩
theorem flX11_222 {M : ZT} (h : M.1.cls = RX11) : z_fl M 222 TX5 1 := by
  unfold z_fl
  rw [h]
  exact Or.inr ⟨"NeighbourBoard", (z_mem1 72 rfl rfl)⟩
theorem plX11_222 {M : ZT} (h : M.1.cls = RX11) : z_pl M 222 TX5 1 := Or.inl ⟨rfl, flX11_222 h⟩
theorem clX11_23 : Cond.classLink RX11 23 RX6 ∈ z_us := z_mem1 78 rfl rfl
theorem in_X6 : Cond.instantiable RX6 3 ∈ z_us := z_mem1 79 rfl rfl
theorem iz_X6 : Cond.initialized RX6 ∈ z_us := z_mem1 4 rfl rfl
theorem mlX11_25 {M : ZT} (h : M.1.cls = RX11) : Cond.methodLink M.1.cls 25 yX6_init ∈ z_us ∨ ∃ host, Cond.methodLinkNest M.1.cls 25 yX6_init host ∈ z_us := by
  rw [h]
  exact Or.inl (z_mem1 80 rfl rfl)
theorem mlX6_1 : Cond.methodLink RX6 1 objectInit ∈ z_us := z_mem1 83 rfl rfl
theorem mlX6_7 {M : ZT} (h : M.1.cls = RX6) : Cond.methodLink M.1.cls 7 yJ9_max_7cf53 ∈ z_us ∨ ∃ host, Cond.methodLinkNest M.1.cls 7 yJ9_max_7cf53 host ∈ z_us := by
  rw [h]
  exact Or.inl (z_mem1 84 rfl rfl)
theorem flX6_13 {M : ZT} (h : M.1.cls = RX6) : z_fl M 13 TX6 0 := by
  unfold z_fl
  rw [h]
  exact Or.inl (z_mem1 87 rfl rfl)
theorem plX6_13 {M : ZT} (h : M.1.cls = RX6) (hi : M.1.name = "<init>") : z_pl M 13 TX6 0 := Or.inr ⟨rfl, by rw [h]; exact (z_mem1 87 rfl rfl), hi, by rw [h]; rfl⟩
theorem flX2_37 {M : ZT} (h : M.1.cls = RX2) : z_fl M 37 TX6 0 := by
  unfold z_fl
  rw [h]
  exact Or.inr ⟨"NeighbourBoard", (z_mem1 88 rfl rfl)⟩
theorem flX11_277 {M : ZT} (h : M.1.cls = RX11) : z_fl M 277 TX6 0 := by
  unfold z_fl
  rw [h]
  exact Or.inr ⟨"NeighbourBoard", (z_mem1 89 rfl rfl)⟩
theorem flX6_19 {M : ZT} (h : M.1.cls = RX6) : z_fl M 19 TX6 1 := by
  unfold z_fl
  rw [h]
  exact Or.inl (z_mem1 90 rfl rfl)
theorem plX6_19 {M : ZT} (h : M.1.cls = RX6) (hi : M.1.name = "<init>") : z_pl M 19 TX6 1 := Or.inr ⟨rfl, by rw [h]; exact (z_mem1 90 rfl rfl), hi, by rw [h]; rfl⟩
theorem flX2_40 {M : ZT} (h : M.1.cls = RX2) : z_fl M 40 TX6 1 := by
  unfold z_fl
  rw [h]
  exact Or.inr ⟨"NeighbourBoard", (z_mem1 91 rfl rfl)⟩
theorem flX11_280 {M : ZT} (h : M.1.cls = RX11) : z_fl M 280 TX6 1 := by
  unfold z_fl
  rw [h]
  exact Or.inr ⟨"NeighbourBoard", (z_mem1 92 rfl rfl)⟩
theorem flX6_22 {M : ZT} (h : M.1.cls = RX6) : z_fl M 22 TX6 2 := by
  unfold z_fl
  rw [h]
  exact Or.inl (z_mem1 93 rfl rfl)
theorem plX6_22 {M : ZT} (h : M.1.cls = RX6) : z_pl M 22 TX6 2 := Or.inl ⟨rfl, flX6_22 h⟩
theorem flX7_27 {M : ZT} (h : M.1.cls = RX7) : z_fl M 27 TX6 2 := by
  unfold z_fl
  rw [h]
  exact Or.inr ⟨"NeighbourBoard", (z_mem1 94 rfl rfl)⟩
theorem plX7_27 {M : ZT} (h : M.1.cls = RX7) : z_pl M 27 TX6 2 := Or.inl ⟨rfl, flX7_27 h⟩
theorem flX2_34 {M : ZT} (h : M.1.cls = RX2) : z_fl M 34 TX6 2 := by
  unfold z_fl
  rw [h]
  exact Or.inr ⟨"NeighbourBoard", (z_mem1 95 rfl rfl)⟩
theorem plX2_34 {M : ZT} (h : M.1.cls = RX2) : z_pl M 34 TX6 2 := Or.inl ⟨rfl, flX2_34 h⟩
theorem flX11_128 {M : ZT} (h : M.1.cls = RX11) : z_fl M 128 TX6 2 := by
  unfold z_fl
  rw [h]
  exact Or.inr ⟨"NeighbourBoard", (z_mem1 96 rfl rfl)⟩
theorem plX11_128 {M : ZT} (h : M.1.cls = RX11) : z_pl M 128 TX6 2 := Or.inl ⟨rfl, flX11_128 h⟩
theorem clX11_32 : Cond.classLink RX11 32 RX2 ∈ z_us := z_mem1 104 rfl rfl
theorem in_X2 : Cond.instantiable RX2 6 ∈ z_us := z_mem1 105 rfl rfl
theorem iz_X2 : Cond.initialized RX2 ∈ z_us := z_mem1 6 rfl rfl
theorem mlX11_34 {M : ZT} (h : M.1.cls = RX11) : Cond.methodLink M.1.cls 34 yX2_init ∈ z_us ∨ ∃ host, Cond.methodLinkNest M.1.cls 34 yX2_init host ∈ z_us := by
  rw [h]
  exact Or.inr ⟨"NeighbourBoard", (z_mem1 106 rfl rfl)⟩
theorem mlX2_3 : Cond.methodLink RX2 3 objectInit ∈ z_us := z_mem1 109 rfl rfl
theorem flX2_9 {M : ZT} (h : M.1.cls = RX2) : z_fl M 9 TX2 0 := by
  unfold z_fl
  rw [h]
  exact Or.inl (z_mem1 110 rfl rfl)
theorem plX2_9 {M : ZT} (h : M.1.cls = RX2) (hi : M.1.name = "<init>") : z_pl M 9 TX2 0 := Or.inr ⟨rfl, by rw [h]; exact (z_mem1 110 rfl rfl), hi, by rw [h]; rfl⟩
theorem flX0_66 {M : ZT} (h : M.1.cls = RX0) : z_fl M 66 TX2 0 := by
  unfold z_fl
  rw [h]
  exact Or.inr ⟨"NeighbourBoard", (z_mem1 111 rfl rfl)⟩
theorem flX2_15 {M : ZT} (h : M.1.cls = RX2) : z_fl M 15 TX2 1 := by
  unfold z_fl
  rw [h]
  exact Or.inl (z_mem1 112 rfl rfl)
theorem plX2_15 {M : ZT} (h : M.1.cls = RX2) (hi : M.1.name = "<init>") : z_pl M 15 TX2 1 := Or.inr ⟨rfl, by rw [h]; exact (z_mem1 112 rfl rfl), hi, by rw [h]; rfl⟩
theorem flX0_74 {M : ZT} (h : M.1.cls = RX0) : z_fl M 74 TX2 1 := by
  unfold z_fl
  rw [h]
  exact Or.inr ⟨"NeighbourBoard", (z_mem1 113 rfl rfl)⟩
theorem flX2_18 {M : ZT} (h : M.1.cls = RX2) : z_fl M 18 TX2 2 := by
  unfold z_fl
  rw [h]
  exact Or.inl (z_mem1 114 rfl rfl)
theorem plX2_18 {M : ZT} (h : M.1.cls = RX2) (hi : M.1.name = "<init>") : z_pl M 18 TX2 2 := Or.inr ⟨rfl, by rw [h]; exact (z_mem1 114 rfl rfl), hi, by rw [h]; rfl⟩
theorem flX0_59 {M : ZT} (h : M.1.cls = RX0) : z_fl M 59 TX2 2 := by
  unfold z_fl
  rw [h]
  exact Or.inr ⟨"NeighbourBoard", (z_mem1 115 rfl rfl)⟩
theorem flX2_21 {M : ZT} (h : M.1.cls = RX2) : z_fl M 21 TX2 3 := by
  unfold z_fl
  rw [h]
  exact Or.inl (z_mem1 116 rfl rfl)
theorem plX2_21 {M : ZT} (h : M.1.cls = RX2) (hi : M.1.name = "<init>") : z_pl M 21 TX2 3 := Or.inr ⟨rfl, by rw [h]; exact (z_mem1 116 rfl rfl), hi, by rw [h]; rfl⟩
theorem flX2_24 {M : ZT} (h : M.1.cls = RX2) : z_fl M 24 TX2 4 := by
  unfold z_fl
  rw [h]
  exact Or.inl (z_mem1 117 rfl rfl)
theorem plX2_24 {M : ZT} (h : M.1.cls = RX2) : z_pl M 24 TX2 4 := Or.inl ⟨rfl, flX2_24 h⟩
theorem flX0_63 {M : ZT} (h : M.1.cls = RX0) : z_fl M 63 TX2 4 := by
  unfold z_fl
  rw [h]
  exact Or.inr ⟨"NeighbourBoard", (z_mem1 118 rfl rfl)⟩
theorem plX0_63 {M : ZT} (h : M.1.cls = RX0) : z_pl M 63 TX2 4 := Or.inl ⟨rfl, flX0_63 h⟩
theorem flX0_45 {M : ZT} (h : M.1.cls = RX0) : z_fl M 45 TX2 5 := by
  unfold z_fl
  rw [h]
  exact Or.inr ⟨"NeighbourBoard", (z_mem1 119 rfl rfl)⟩
theorem plX0_45 {M : ZT} (h : M.1.cls = RX0) : z_pl M 45 TX2 5 := Or.inl ⟨rfl, flX0_45 h⟩
theorem flX2_82 {M : ZT} (h : M.1.cls = RX2) : z_fl M 82 TX2 5 := by
  unfold z_fl
  rw [h]
  exact Or.inl (z_mem1 120 rfl rfl)
theorem plX2_82 {M : ZT} (h : M.1.cls = RX2) : z_pl M 82 TX2 5 := Or.inl ⟨rfl, flX2_82 h⟩
theorem clX11_39 : Cond.classLink RX11 39 RX4 ∈ z_us := z_mem1 134 rfl rfl
theorem in_X4 : Cond.instantiable RX4 6 ∈ z_us := z_mem1 135 rfl rfl
theorem iz_X4 : Cond.initialized RX4 ∈ z_us := z_mem1 7 rfl rfl
theorem mlX11_41 {M : ZT} (h : M.1.cls = RX11) : Cond.methodLink M.1.cls 41 yX4_init ∈ z_us ∨ ∃ host, Cond.methodLinkNest M.1.cls 41 yX4_init host ∈ z_us := by
  rw [h]
  exact Or.inl (z_mem1 136 rfl rfl)
theorem mlX4_3 : Cond.methodLink RX4 3 objectInit ∈ z_us := z_mem1 139 rfl rfl
theorem clX4_11 : Cond.classLink RX4 11 RX9 ∈ z_us := z_mem1 140 rfl rfl
theorem ao_W : Cond.arrayOver (.object RX9) ∈ z_us := z_mem1 141 rfl rfl
theorem in_X9 : Cond.instantiable RX9 3 ∈ z_us := z_mem1 142 rfl rfl
theorem iz_X9 : Cond.initialized RX9 ∈ z_us := z_mem1 8 rfl rfl
theorem mlX4_17 {M : ZT} (h : M.1.cls = RX4) : Cond.methodLink M.1.cls 17 yX9_init ∈ z_us ∨ ∃ host, Cond.methodLinkNest M.1.cls 17 yX9_init host ∈ z_us := by
  rw [h]
  exact Or.inr ⟨"NeighbourBoard", (z_mem1 143 rfl rfl)⟩
theorem mlX9_1 : Cond.methodLink RX9 1 objectInit ∈ z_us := z_mem1 146 rfl rfl
theorem flX9_9 {M : ZT} (h : M.1.cls = RX9) : z_fl M 9 TX9 0 := by
  unfold z_fl
  rw [h]
  exact Or.inl (z_mem1 147 rfl rfl)
theorem plX9_9 {M : ZT} (h : M.1.cls = RX9) (hi : M.1.name = "<init>") : z_pl M 9 TX9 0 := Or.inr ⟨rfl, by rw [h]; exact (z_mem1 147 rfl rfl), hi, by rw [h]; rfl⟩
theorem flX1_28 {M : ZT} (h : M.1.cls = RX1) : z_fl M 28 TX9 0 := by
  unfold z_fl
  rw [h]
  exact Or.inr ⟨"NeighbourBoard", (z_mem1 148 rfl rfl)⟩
theorem flX11_274 {M : ZT} (h : M.1.cls = RX11) : z_fl M 274 TX9 0 := by
  unfold z_fl
  rw [h]
  exact Or.inr ⟨"NeighbourBoard", (z_mem1 149 rfl rfl)⟩
theorem flX1_18 {M : ZT} (h : M.1.cls = RX1) : z_fl M 18 TX9 1 := by
  unfold z_fl
  rw [h]
  exact Or.inr ⟨"NeighbourBoard", (z_mem1 150 rfl rfl)⟩
theorem plX1_18 {M : ZT} (h : M.1.cls = RX1) : z_pl M 18 TX9 1 := Or.inl ⟨rfl, flX1_18 h⟩
theorem flX10_49 {M : ZT} (h : M.1.cls = RX10) : z_fl M 49 TX9 1 := by
  unfold z_fl
  rw [h]
  exact Or.inr ⟨"NeighbourBoard", (z_mem1 151 rfl rfl)⟩
theorem plX10_49 {M : ZT} (h : M.1.cls = RX10) : z_pl M 49 TX9 1 := Or.inl ⟨rfl, flX10_49 h⟩
theorem flX9_38 {M : ZT} (h : M.1.cls = RX9) : z_fl M 38 TX9 1 := by
  unfold z_fl
  rw [h]
  exact Or.inl (z_mem1 152 rfl rfl)
theorem plX9_38 {M : ZT} (h : M.1.cls = RX9) : z_pl M 38 TX9 1 := Or.inl ⟨rfl, flX9_38 h⟩
theorem flX4_69 {M : ZT} (h : M.1.cls = RX4) : z_fl M 69 TX9 1 := by
  unfold z_fl
  rw [h]
  exact Or.inr ⟨"NeighbourBoard", (z_mem1 153 rfl rfl)⟩
theorem plX4_69 {M : ZT} (h : M.1.cls = RX4) : z_pl M 69 TX9 1 := Or.inl ⟨rfl, flX4_69 h⟩
theorem flX11_268 {M : ZT} (h : M.1.cls = RX11) : z_fl M 268 TX9 1 := by
  unfold z_fl
  rw [h]
  exact Or.inr ⟨"NeighbourBoard", (z_mem1 154 rfl rfl)⟩
theorem plX11_268 {M : ZT} (h : M.1.cls = RX11) : z_pl M 268 TX9 1 := Or.inl ⟨rfl, flX11_268 h⟩
theorem flX1_22 {M : ZT} (h : M.1.cls = RX1) : z_fl M 22 TX9 2 := by
  unfold z_fl
  rw [h]
  exact Or.inr ⟨"NeighbourBoard", (z_mem1 155 rfl rfl)⟩
theorem plX1_22 {M : ZT} (h : M.1.cls = RX1) : z_pl M 22 TX9 2 := Or.inl ⟨rfl, flX1_22 h⟩
theorem flX9_34 {M : ZT} (h : M.1.cls = RX9) : z_fl M 34 TX9 2 := by
  unfold z_fl
  rw [h]
  exact Or.inl (z_mem1 156 rfl rfl)
theorem plX9_34 {M : ZT} (h : M.1.cls = RX9) : z_pl M 34 TX9 2 := Or.inl ⟨rfl, flX9_34 h⟩
theorem flX10_53 {M : ZT} (h : M.1.cls = RX10) : z_fl M 53 TX9 2 := by
  unfold z_fl
  rw [h]
  exact Or.inr ⟨"NeighbourBoard", (z_mem1 157 rfl rfl)⟩
theorem plX10_53 {M : ZT} (h : M.1.cls = RX10) : z_pl M 53 TX9 2 := Or.inl ⟨rfl, flX10_53 h⟩
theorem flX4_58 {M : ZT} (h : M.1.cls = RX4) : z_fl M 58 TX9 2 := by
  unfold z_fl
  rw [h]
  exact Or.inr ⟨"NeighbourBoard", (z_mem1 158 rfl rfl)⟩
theorem plX4_58 {M : ZT} (h : M.1.cls = RX4) : z_pl M 58 TX9 2 := Or.inl ⟨rfl, flX4_58 h⟩
theorem flX11_265 {M : ZT} (h : M.1.cls = RX11) : z_fl M 265 TX9 2 := by
  unfold z_fl
  rw [h]
  exact Or.inr ⟨"NeighbourBoard", (z_mem1 159 rfl rfl)⟩
theorem plX11_265 {M : ZT} (h : M.1.cls = RX11) : z_pl M 265 TX9 2 := Or.inl ⟨rfl, flX11_265 h⟩
theorem clX4_31 : Cond.classLink RX4 31 RX1 ∈ z_us := z_mem1 167 rfl rfl
theorem in_X1 : Cond.instantiable RX1 4 ∈ z_us := z_mem1 168 rfl rfl
theorem iz_X1 : Cond.initialized RX1 ∈ z_us := z_mem1 9 rfl rfl
theorem mlX4_33 {M : ZT} (h : M.1.cls = RX4) : Cond.methodLink M.1.cls 33 yX1_init ∈ z_us ∨ ∃ host, Cond.methodLinkNest M.1.cls 33 yX1_init host ∈ z_us := by
  rw [h]
  exact Or.inr ⟨"NeighbourBoard", (z_mem1 169 rfl rfl)⟩
theorem mlX1_1 : Cond.methodLink RX1 1 objectInit ∈ z_us := z_mem1 172 rfl rfl
theorem flX1_9 {M : ZT} (h : M.1.cls = RX1) : z_fl M 9 TX1 0 := by
  unfold z_fl
  rw [h]
  exact Or.inl (z_mem1 173 rfl rfl)
theorem plX1_9 {M : ZT} (h : M.1.cls = RX1) (hi : M.1.name = "<init>") : z_pl M 9 TX1 0 := Or.inr ⟨rfl, by rw [h]; exact (z_mem1 173 rfl rfl), hi, by rw [h]; rfl⟩
theorem flX1_15 {M : ZT} (h : M.1.cls = RX1) : z_fl M 15 TX1 1 := by
  unfold z_fl
  rw [h]
  exact Or.inl (z_mem1 174 rfl rfl)
theorem plX1_15 {M : ZT} (h : M.1.cls = RX1) (hi : M.1.name = "<init>") : z_pl M 15 TX1 1 := Or.inr ⟨rfl, by rw [h]; exact (z_mem1 174 rfl rfl), hi, by rw [h]; rfl⟩
theorem flX1_25 {M : ZT} (h : M.1.cls = RX1) : z_fl M 25 TX1 2 := by
  unfold z_fl
  rw [h]
  exact Or.inl (z_mem1 175 rfl rfl)
theorem plX1_25 {M : ZT} (h : M.1.cls = RX1) : z_pl M 25 TX1 2 := Or.inl ⟨rfl, flX1_25 h⟩
theorem flX1_41 {M : ZT} (h : M.1.cls = RX1) : z_fl M 41 TX1 3 := by
  unfold z_fl
  rw [h]
  exact Or.inl (z_mem1 176 rfl rfl)
theorem plX1_41 {M : ZT} (h : M.1.cls = RX1) : z_pl M 41 TX1 3 := Or.inl ⟨rfl, flX1_41 h⟩
theorem flX4_13 {M : ZT} (h : M.1.cls = RX4) : z_fl M 13 TX4 0 := by
  unfold z_fl
  rw [h]
  exact Or.inl (z_mem1 186 rfl rfl)
theorem plX4_13 {M : ZT} (h : M.1.cls = RX4) (hi : M.1.name = "<init>") : z_pl M 13 TX4 0 := Or.inr ⟨rfl, by rw [h]; exact (z_mem1 186 rfl rfl), hi, by rw [h]; rfl⟩
theorem flX4_18 {M : ZT} (h : M.1.cls = RX4) : z_fl M 18 TX4 1 := by
  unfold z_fl
  rw [h]
  exact Or.inl (z_mem1 187 rfl rfl)
theorem plX4_18 {M : ZT} (h : M.1.cls = RX4) (hi : M.1.name = "<init>") : z_pl M 18 TX4 1 := Or.inr ⟨rfl, by rw [h]; exact (z_mem1 187 rfl rfl), hi, by rw [h]; rfl⟩
theorem flX4_22 {M : ZT} (h : M.1.cls = RX4) : z_fl M 22 TX4 2 := by
  unfold z_fl
  rw [h]
  exact Or.inl (z_mem1 188 rfl rfl)
theorem plX4_22 {M : ZT} (h : M.1.cls = RX4) (hi : M.1.name = "<init>") : z_pl M 22 TX4 2 := Or.inr ⟨rfl, by rw [h]; exact (z_mem1 188 rfl rfl), hi, by rw [h]; rfl⟩
theorem flX0_42 {M : ZT} (h : M.1.cls = RX0) : z_fl M 42 TX4 2 := by
  unfold z_fl
  rw [h]
  exact Or.inr ⟨"NeighbourBoard", (z_mem1 189 rfl rfl)⟩
theorem flX2_104 {M : ZT} (h : M.1.cls = RX2) : z_fl M 104 TX4 2 := by
  unfold z_fl
  rw [h]
  exact Or.inr ⟨"NeighbourBoard", (z_mem1 190 rfl rfl)⟩
theorem flX4_25 {M : ZT} (h : M.1.cls = RX4) : z_fl M 25 TX4 3 := by
  unfold z_fl
  rw [h]
  exact Or.inl (z_mem1 191 rfl rfl)
theorem plX4_25 {M : ZT} (h : M.1.cls = RX4) (hi : M.1.name = "<init>") : z_pl M 25 TX4 3 := Or.inr ⟨rfl, by rw [h]; exact (z_mem1 191 rfl rfl), hi, by rw [h]; rfl⟩
theorem flX4_28 {M : ZT} (h : M.1.cls = RX4) : z_fl M 28 TX4 4 := by
  unfold z_fl
  rw [h]
  exact Or.inl (z_mem1 192 rfl rfl)
theorem plX4_28 {M : ZT} (h : M.1.cls = RX4) (hi : M.1.name = "<init>") : z_pl M 28 TX4 4 := Or.inr ⟨rfl, by rw [h]; exact (z_mem1 192 rfl rfl), hi, by rw [h]; rfl⟩
theorem flX4_34 {M : ZT} (h : M.1.cls = RX4) : z_fl M 34 TX4 5 := by
  unfold z_fl
  rw [h]
  exact Or.inl (z_mem1 193 rfl rfl)
theorem plX4_34 {M : ZT} (h : M.1.cls = RX4) (hi : M.1.name = "<init>") : z_pl M 34 TX4 5 := Or.inr ⟨rfl, by rw [h]; exact (z_mem1 193 rfl rfl), hi, by rw [h]; rfl⟩
theorem clX11_46 : Cond.classLink RX11 46 RX0 ∈ z_us := z_mem1 207 rfl rfl
theorem in_X0 : Cond.instantiable RX0 7 ∈ z_us := z_mem1 208 rfl rfl
theorem iz_X0 : Cond.initialized RX0 ∈ z_us := z_mem1 10 rfl rfl
theorem mlX11_48 {M : ZT} (h : M.1.cls = RX11) : Cond.methodLink M.1.cls 48 yX0_init ∈ z_us ∨ ∃ host, Cond.methodLinkNest M.1.cls 48 yX0_init host ∈ z_us := by
  rw [h]
  exact Or.inl (z_mem1 209 rfl rfl)
theorem mlX0_3 : Cond.methodLink RX0 3 objectInit ∈ z_us := z_mem1 212 rfl rfl
theorem clX0_9 : Cond.classLink RX0 9 RX9 ∈ z_us := z_mem1 213 rfl rfl
theorem mlX0_17 {M : ZT} (h : M.1.cls = RX0) : Cond.methodLink M.1.cls 17 yX9_init ∈ z_us ∨ ∃ host, Cond.methodLinkNest M.1.cls 17 yX9_init host ∈ z_us := by
  rw [h]
  exact Or.inr ⟨"NeighbourBoard", (z_mem1 214 rfl rfl)⟩
theorem flX0_11 {M : ZT} (h : M.1.cls = RX0) : z_fl M 11 TX0 0 := by
  unfold z_fl
  rw [h]
  exact Or.inl (z_mem1 215 rfl rfl)
theorem plX0_11 {M : ZT} (h : M.1.cls = RX0) (hi : M.1.name = "<init>") : z_pl M 11 TX0 0 := Or.inr ⟨rfl, by rw [h]; exact (z_mem1 215 rfl rfl), hi, by rw [h]; rfl⟩
theorem flX11_207 {M : ZT} (h : M.1.cls = RX11) : z_fl M 207 TX0 0 := by
  unfold z_fl
  rw [h]
  exact Or.inr ⟨"NeighbourBoard", (z_mem1 216 rfl rfl)⟩
theorem flX0_18 {M : ZT} (h : M.1.cls = RX0) : z_fl M 18 TX0 1 := by
  unfold z_fl
  rw [h]
  exact Or.inl (z_mem1 217 rfl rfl)
theorem plX0_18 {M : ZT} (h : M.1.cls = RX0) (hi : M.1.name = "<init>") : z_pl M 18 TX0 1 := Or.inr ⟨rfl, by rw [h]; exact (z_mem1 217 rfl rfl), hi, by rw [h]; rfl⟩
theorem flX11_187 {M : ZT} (h : M.1.cls = RX11) : z_fl M 187 TX0 1 := by
  unfold z_fl
  rw [h]
  exact Or.inr ⟨"NeighbourBoard", (z_mem1 218 rfl rfl)⟩
theorem flX0_22 {M : ZT} (h : M.1.cls = RX0) : z_fl M 22 TX0 2 := by
  unfold z_fl
  rw [h]
  exact Or.inl (z_mem1 219 rfl rfl)
theorem plX0_22 {M : ZT} (h : M.1.cls = RX0) (hi : M.1.name = "<init>") : z_pl M 22 TX0 2 := Or.inr ⟨rfl, by rw [h]; exact (z_mem1 219 rfl rfl), hi, by rw [h]; rfl⟩
theorem flX11_204 {M : ZT} (h : M.1.cls = RX11) : z_fl M 204 TX0 2 := by
  unfold z_fl
  rw [h]
  exact Or.inr ⟨"NeighbourBoard", (z_mem1 220 rfl rfl)⟩
theorem flX0_25 {M : ZT} (h : M.1.cls = RX0) : z_fl M 25 TX0 3 := by
  unfold z_fl
  rw [h]
  exact Or.inl (z_mem1 221 rfl rfl)
theorem plX0_25 {M : ZT} (h : M.1.cls = RX0) (hi : M.1.name = "<init>") : z_pl M 25 TX0 3 := Or.inr ⟨rfl, by rw [h]; exact (z_mem1 221 rfl rfl), hi, by rw [h]; rfl⟩
theorem flX11_191 {M : ZT} (h : M.1.cls = RX11) : z_fl M 191 TX0 3 := by
  unfold z_fl
  rw [h]
  exact Or.inr ⟨"NeighbourBoard", (z_mem1 222 rfl rfl)⟩
theorem flX0_28 {M : ZT} (h : M.1.cls = RX0) : z_fl M 28 TX0 4 := by
  unfold z_fl
  rw [h]
  exact Or.inl (z_mem1 223 rfl rfl)
theorem plX0_28 {M : ZT} (h : M.1.cls = RX0) (hi : M.1.name = "<init>") : z_pl M 28 TX0 4 := Or.inr ⟨rfl, by rw [h]; exact (z_mem1 223 rfl rfl), hi, by rw [h]; rfl⟩
theorem flX11_198 {M : ZT} (h : M.1.cls = RX11) : z_fl M 198 TX0 4 := by
  unfold z_fl
  rw [h]
  exact Or.inr ⟨"NeighbourBoard", (z_mem1 224 rfl rfl)⟩
theorem flX0_31 {M : ZT} (h : M.1.cls = RX0) : z_fl M 31 TX0 5 := by
  unfold z_fl
  rw [h]
  exact Or.inl (z_mem1 225 rfl rfl)
theorem plX0_31 {M : ZT} (h : M.1.cls = RX0) (hi : M.1.name = "<init>") : z_pl M 31 TX0 5 := Or.inr ⟨rfl, by rw [h]; exact (z_mem1 225 rfl rfl), hi, by rw [h]; rfl⟩
theorem flX11_201 {M : ZT} (h : M.1.cls = RX11) : z_fl M 201 TX0 5 := by
  unfold z_fl
  rw [h]
  exact Or.inr ⟨"NeighbourBoard", (z_mem1 226 rfl rfl)⟩
theorem flX0_34 {M : ZT} (h : M.1.cls = RX0) : z_fl M 34 TX0 6 := by
  unfold z_fl
  rw [h]
  exact Or.inl (z_mem1 227 rfl rfl)
theorem plX0_34 {M : ZT} (h : M.1.cls = RX0) : z_pl M 34 TX0 6 := Or.inl ⟨rfl, flX0_34 h⟩
theorem flX11_121 {M : ZT} (h : M.1.cls = RX11) : z_fl M 121 TX0 6 := by
  unfold z_fl
  rw [h]
  exact Or.inr ⟨"NeighbourBoard", (z_mem1 228 rfl rfl)⟩
theorem plX11_121 {M : ZT} (h : M.1.cls = RX11) : z_pl M 121 TX0 6 := Or.inl ⟨rfl, flX11_121 h⟩
theorem clX11_53 : Cond.classLink RX11 53 RX10 ∈ z_us := z_mem2 4 rfl rfl
theorem in_X10 : Cond.instantiable RX10 4 ∈ z_us := z_mem2 5 rfl rfl
theorem iz_X10 : Cond.initialized RX10 ∈ z_us := z_mem1 11 rfl rfl
theorem mlX11_55 {M : ZT} (h : M.1.cls = RX11) : Cond.methodLink M.1.cls 55 yX10_init ∈ z_us ∨ ∃ host, Cond.methodLinkNest M.1.cls 55 yX10_init host ∈ z_us := by
  rw [h]
  exact Or.inr ⟨"NeighbourBoard", (z_mem2 6 rfl rfl)⟩
theorem mlX10_1 : Cond.methodLink RX10 1 objectInit ∈ z_us := z_mem2 9 rfl rfl
theorem clX10_7 : Cond.classLink RX10 7 RX1 ∈ z_us := z_mem2 10 rfl rfl
theorem mlX10_9 {M : ZT} (h : M.1.cls = RX10) : Cond.methodLink M.1.cls 9 yX1_init ∈ z_us ∨ ∃ host, Cond.methodLinkNest M.1.cls 9 yX1_init host ∈ z_us := by
  rw [h]
  exact Or.inr ⟨"NeighbourBoard", (z_mem2 11 rfl rfl)⟩
theorem clX10_16 : Cond.classLink RX10 16 RX9 ∈ z_us := z_mem2 12 rfl rfl
theorem mlX10_18 {M : ZT} (h : M.1.cls = RX10) : Cond.methodLink M.1.cls 18 yX9_init ∈ z_us ∨ ∃ host, Cond.methodLinkNest M.1.cls 18 yX9_init host ∈ z_us := by
  rw [h]
  exact Or.inr ⟨"NeighbourBoard", (z_mem2 13 rfl rfl)⟩
theorem flX10_10 {M : ZT} (h : M.1.cls = RX10) : z_fl M 10 TX10 0 := by
  unfold z_fl
  rw [h]
  exact Or.inl (z_mem2 14 rfl rfl)
theorem plX10_10 {M : ZT} (h : M.1.cls = RX10) (hi : M.1.name = "<init>") : z_pl M 10 TX10 0 := Or.inr ⟨rfl, by rw [h]; exact (z_mem2 14 rfl rfl), hi, by rw [h]; rfl⟩
theorem flX10_19 {M : ZT} (h : M.1.cls = RX10) : z_fl M 19 TX10 1 := by
  unfold z_fl
  rw [h]
  exact Or.inl (z_mem2 15 rfl rfl)
theorem plX10_19 {M : ZT} (h : M.1.cls = RX10) (hi : M.1.name = "<init>") : z_pl M 19 TX10 1 := Or.inr ⟨rfl, by rw [h]; exact (z_mem2 15 rfl rfl), hi, by rw [h]; rfl⟩
theorem flX10_23 {M : ZT} (h : M.1.cls = RX10) : z_fl M 23 TX10 2 := by
  unfold z_fl
  rw [h]
  exact Or.inl (z_mem2 16 rfl rfl)
theorem plX10_23 {M : ZT} (h : M.1.cls = RX10) (hi : M.1.name = "<init>") : z_pl M 23 TX10 2 := Or.inr ⟨rfl, by rw [h]; exact (z_mem2 16 rfl rfl), hi, by rw [h]; rfl⟩
theorem flX10_26 {M : ZT} (h : M.1.cls = RX10) : z_fl M 26 TX10 3 := by
  unfold z_fl
  rw [h]
  exact Or.inl (z_mem2 17 rfl rfl)
theorem plX10_26 {M : ZT} (h : M.1.cls = RX10) (hi : M.1.name = "<init>") : z_pl M 26 TX10 3 := Or.inr ⟨rfl, by rw [h]; exact (z_mem2 17 rfl rfl), hi, by rw [h]; rfl⟩
theorem clX11_60 : Cond.classLink RX11 60 RX3 ∈ z_us := z_mem2 27 rfl rfl
theorem in_X3 : Cond.instantiable RX3 2 ∈ z_us := z_mem2 28 rfl rfl
theorem iz_X3 : Cond.initialized RX3 ∈ z_us := z_mem1 12 rfl rfl
theorem mlX11_62 {M : ZT} (h : M.1.cls = RX11) : Cond.methodLink M.1.cls 62 yX3_init ∈ z_us ∨ ∃ host, Cond.methodLinkNest M.1.cls 62 yX3_init host ∈ z_us := by
  rw [h]
  exact Or.inl (z_mem2 29 rfl rfl)
theorem mlX3_1 : Cond.methodLink RX3 1 objectInit ∈ z_us := z_mem2 32 rfl rfl
theorem clX3_7 : Cond.classLink RX3 7 RX9 ∈ z_us := z_mem2 33 rfl rfl
theorem mlX3_9 {M : ZT} (h : M.1.cls = RX3) : Cond.methodLink M.1.cls 9 yX9_init ∈ z_us ∨ ∃ host, Cond.methodLinkNest M.1.cls 9 yX9_init host ∈ z_us := by
  rw [h]
  exact Or.inr ⟨"NeighbourBoard", (z_mem2 34 rfl rfl)⟩
theorem mlX3_19 {M : ZT} (h : M.1.cls = RX3) : Cond.methodLink M.1.cls 19 yX9_put ∈ z_us ∨ ∃ host, Cond.methodLinkNest M.1.cls 19 yX9_put host ∈ z_us := by
  rw [h]
  exact Or.inl (z_mem2 35 rfl rfl)
theorem mlX9_13 {M : ZT} (h : M.1.cls = RX9) : Cond.methodLink M.1.cls 13 yX9_clear ∈ z_us ∨ ∃ host, Cond.methodLinkNest M.1.cls 13 yX9_clear host ∈ z_us := by
  rw [h]
  exact Or.inl (z_mem2 39 rfl rfl)
theorem ctX9_16 : Cond.constantLong RX9 16 (1000000000) ∈ z_us := z_mem2 43 rfl rfl
theorem mlX9_18 {M : ZT} (h : M.1.cls = RX9) : Cond.methodLink M.1.cls 18 yJ9_abs_067f4 ∈ z_us ∨ ∃ host, Cond.methodLinkNest M.1.cls 18 yJ9_abs_067f4 host ∈ z_us := by
  rw [h]
  exact Or.inl (z_mem2 44 rfl rfl)
theorem mlX9_24 {M : ZT} (h : M.1.cls = RX9) : Cond.methodLink M.1.cls 24 yJ13_signum_95d88 ∈ z_us ∨ ∃ host, Cond.methodLinkNest M.1.cls 24 yJ13_signum_95d88 host ∈ z_us := by
  rw [h]
  exact Or.inl (z_mem2 47 rfl rfl)
theorem mlX9_30 {M : ZT} (h : M.1.cls = RX9) : Cond.methodLink M.1.cls 30 yX9_trim ∈ z_us ∨ ∃ host, Cond.methodLinkNest M.1.cls 30 yX9_trim host ∈ z_us := by
  rw [h]
  exact Or.inl (z_mem2 50 rfl rfl)
theorem flX3_10 {M : ZT} (h : M.1.cls = RX3) : z_fl M 10 TX3 0 := by
  unfold z_fl
  rw [h]
  exact Or.inl (z_mem2 54 rfl rfl)
theorem plX3_10 {M : ZT} (h : M.1.cls = RX3) (hi : M.1.name = "<init>") : z_pl M 10 TX3 0 := Or.inr ⟨rfl, by rw [h]; exact (z_mem2 54 rfl rfl), hi, by rw [h]; rfl⟩
theorem flX10_29 {M : ZT} (h : M.1.cls = RX10) : z_fl M 29 TX3 0 := by
  unfold z_fl
  rw [h]
  exact Or.inr ⟨"NeighbourBoard", (z_mem2 55 rfl rfl)⟩
theorem flX2_111 {M : ZT} (h : M.1.cls = RX2) : z_fl M 111 TX3 0 := by
  unfold z_fl
  rw [h]
  exact Or.inr ⟨"NeighbourBoard", (z_mem2 56 rfl rfl)⟩
theorem flX11_214 {M : ZT} (h : M.1.cls = RX11) : z_fl M 214 TX3 0 := by
  unfold z_fl
  rw [h]
  exact Or.inr ⟨"NeighbourBoard", (z_mem2 57 rfl rfl)⟩
theorem flX3_16 {M : ZT} (h : M.1.cls = RX3) : z_fl M 16 TX3 1 := by
  unfold z_fl
  rw [h]
  exact Or.inl (z_mem2 58 rfl rfl)
theorem plX3_16 {M : ZT} (h : M.1.cls = RX3) (hi : M.1.name = "<init>") : z_pl M 16 TX3 1 := Or.inr ⟨rfl, by rw [h]; exact (z_mem2 58 rfl rfl), hi, by rw [h]; rfl⟩
theorem flX10_34 {M : ZT} (h : M.1.cls = RX10) : z_fl M 34 TX3 1 := by
  unfold z_fl
  rw [h]
  exact Or.inr ⟨"NeighbourBoard", (z_mem2 59 rfl rfl)⟩
theorem flX2_98 {M : ZT} (h : M.1.cls = RX2) : z_fl M 98 TX3 1 := by
  unfold z_fl
  rw [h]
  exact Or.inr ⟨"NeighbourBoard", (z_mem2 60 rfl rfl)⟩
theorem flX11_217 {M : ZT} (h : M.1.cls = RX11) : z_fl M 217 TX3 1 := by
  unfold z_fl
  rw [h]
  exact Or.inr ⟨"NeighbourBoard", (z_mem2 61 rfl rfl)⟩
theorem clX11_76 : Cond.classLink RX11 76 RX7 ∈ z_us := z_mem2 67 rfl rfl
theorem in_X7 : Cond.instantiable RX7 3 ∈ z_us := z_mem2 68 rfl rfl
theorem iz_X7 : Cond.initialized RX7 ∈ z_us := z_mem1 14 rfl rfl
theorem mlX11_78 {M : ZT} (h : M.1.cls = RX11) : Cond.methodLink M.1.cls 78 yX7_init ∈ z_us ∨ ∃ host, Cond.methodLinkNest M.1.cls 78 yX7_init host ∈ z_us := by
  rw [h]
  exact Or.inr ⟨"NeighbourBoard", (z_mem2 69 rfl rfl)⟩
theorem mlX7_3 : Cond.methodLink RX7 3 objectInit ∈ z_us := z_mem2 72 rfl rfl
theorem clX7_9 : Cond.classLink RX7 9 RX6 ∈ z_us := z_mem2 73 rfl rfl
theorem mlX7_11 {M : ZT} (h : M.1.cls = RX7) : Cond.methodLink M.1.cls 11 yX6_init ∈ z_us ∨ ∃ host, Cond.methodLinkNest M.1.cls 11 yX6_init host ∈ z_us := by
  rw [h]
  exact Or.inl (z_mem2 74 rfl rfl)
theorem flX7_14 {M : ZT} (h : M.1.cls = RX7) : z_fl M 14 TX7 0 := by
  unfold z_fl
  rw [h]
  exact Or.inl (z_mem2 75 rfl rfl)
theorem plX7_14 {M : ZT} (h : M.1.cls = RX7) (hi : M.1.name = "<init>") : z_pl M 14 TX7 0 := Or.inr ⟨rfl, by rw [h]; exact (z_mem2 75 rfl rfl), hi, by rw [h]; rfl⟩
theorem flX11_125 {M : ZT} (h : M.1.cls = RX11) : z_fl M 125 TX7 0 := by
  unfold z_fl
  rw [h]
  exact Or.inr ⟨"NeighbourBoard", (z_mem2 76 rfl rfl)⟩
theorem flX2_54 {M : ZT} (h : M.1.cls = RX2) : z_fl M 54 TX7 0 := by
  unfold z_fl
  rw [h]
  exact Or.inr ⟨"NeighbourBoard", (z_mem2 77 rfl rfl)⟩
theorem flX7_20 {M : ZT} (h : M.1.cls = RX7) : z_fl M 20 TX7 1 := by
  unfold z_fl
  rw [h]
  exact Or.inl (z_mem2 78 rfl rfl)
theorem plX7_20 {M : ZT} (h : M.1.cls = RX7) (hi : M.1.name = "<init>") : z_pl M 20 TX7 1 := Or.inr ⟨rfl, by rw [h]; exact (z_mem2 78 rfl rfl), hi, by rw [h]; rfl⟩
theorem flX0_69 {M : ZT} (h : M.1.cls = RX0) : z_fl M 69 TX7 1 := by
  unfold z_fl
  rw [h]
  exact Or.inr ⟨"NeighbourBoard", (z_mem2 79 rfl rfl)⟩
theorem flX2_91 {M : ZT} (h : M.1.cls = RX2) : z_fl M 91 TX7 1 := by
  unfold z_fl
  rw [h]
  exact Or.inr ⟨"NeighbourBoard", (z_mem2 80 rfl rfl)⟩
theorem flX11_254 {M : ZT} (h : M.1.cls = RX11) : z_fl M 254 TX7 1 := by
  unfold z_fl
  rw [h]
  exact Or.inr ⟨"NeighbourBoard", (z_mem2 81 rfl rfl)⟩
theorem flX7_24 {M : ZT} (h : M.1.cls = RX7) : z_fl M 24 TX7 2 := by
  unfold z_fl
  rw [h]
  exact Or.inl (z_mem2 82 rfl rfl)
theorem plX7_24 {M : ZT} (h : M.1.cls = RX7) (hi : M.1.name = "<init>") : z_pl M 24 TX7 2 := Or.inr ⟨rfl, by rw [h]; exact (z_mem2 82 rfl rfl), hi, by rw [h]; rfl⟩
theorem flX2_79 {M : ZT} (h : M.1.cls = RX2) : z_fl M 79 TX7 2 := by
  unfold z_fl
  rw [h]
  exact Or.inr ⟨"NeighbourBoard", (z_mem2 83 rfl rfl)⟩
theorem flX11_283 {M : ZT} (h : M.1.cls = RX11) : z_fl M 283 TX7 2 := by
  unfold z_fl
  rw [h]
  exact Or.inr ⟨"NeighbourBoard", (z_mem2 84 rfl rfl)⟩
theorem flX11_12 {M : ZT} (h : M.1.cls = RX11) : z_fl M 12 TX11 0 := by
  unfold z_fl
  rw [h]
  exact Or.inl (z_mem2 92 rfl rfl)
theorem plX11_12 {M : ZT} (h : M.1.cls = RX11) (hi : M.1.name = "<init>") : z_pl M 12 TX11 0 := Or.inr ⟨rfl, by rw [h]; exact (z_mem2 92 rfl rfl), hi, by rw [h]; rfl⟩
theorem flX11_19 {M : ZT} (h : M.1.cls = RX11) : z_fl M 19 TX11 1 := by
  unfold z_fl
  rw [h]
  exact Or.inl (z_mem2 93 rfl rfl)
theorem plX11_19 {M : ZT} (h : M.1.cls = RX11) (hi : M.1.name = "<init>") : z_pl M 19 TX11 1 := Or.inr ⟨rfl, by rw [h]; exact (z_mem2 93 rfl rfl), hi, by rw [h]; rfl⟩
theorem flX11_28 {M : ZT} (h : M.1.cls = RX11) : z_fl M 28 TX11 2 := by
  unfold z_fl
  rw [h]
  exact Or.inl (z_mem2 94 rfl rfl)
theorem plX11_28 {M : ZT} (h : M.1.cls = RX11) (hi : M.1.name = "<init>") : z_pl M 28 TX11 2 := Or.inr ⟨rfl, by rw [h]; exact (z_mem2 94 rfl rfl), hi, by rw [h]; rfl⟩
theorem flX11_35 {M : ZT} (h : M.1.cls = RX11) : z_fl M 35 TX11 3 := by
  unfold z_fl
  rw [h]
  exact Or.inl (z_mem2 95 rfl rfl)
theorem plX11_35 {M : ZT} (h : M.1.cls = RX11) (hi : M.1.name = "<init>") : z_pl M 35 TX11 3 := Or.inr ⟨rfl, by rw [h]; exact (z_mem2 95 rfl rfl), hi, by rw [h]; rfl⟩
theorem flX11_42 {M : ZT} (h : M.1.cls = RX11) : z_fl M 42 TX11 4 := by
  unfold z_fl
  rw [h]
  exact Or.inl (z_mem2 96 rfl rfl)
theorem plX11_42 {M : ZT} (h : M.1.cls = RX11) (hi : M.1.name = "<init>") : z_pl M 42 TX11 4 := Or.inr ⟨rfl, by rw [h]; exact (z_mem2 96 rfl rfl), hi, by rw [h]; rfl⟩
theorem flX11_49 {M : ZT} (h : M.1.cls = RX11) : z_fl M 49 TX11 5 := by
  unfold z_fl
  rw [h]
  exact Or.inl (z_mem2 97 rfl rfl)
theorem plX11_49 {M : ZT} (h : M.1.cls = RX11) (hi : M.1.name = "<init>") : z_pl M 49 TX11 5 := Or.inr ⟨rfl, by rw [h]; exact (z_mem2 97 rfl rfl), hi, by rw [h]; rfl⟩
theorem flX11_56 {M : ZT} (h : M.1.cls = RX11) : z_fl M 56 TX11 6 := by
  unfold z_fl
  rw [h]
  exact Or.inl (z_mem2 98 rfl rfl)
theorem plX11_56 {M : ZT} (h : M.1.cls = RX11) (hi : M.1.name = "<init>") : z_pl M 56 TX11 6 := Or.inr ⟨rfl, by rw [h]; exact (z_mem2 98 rfl rfl), hi, by rw [h]; rfl⟩
theorem flX11_63 {M : ZT} (h : M.1.cls = RX11) : z_fl M 63 TX11 7 := by
  unfold z_fl
  rw [h]
  exact Or.inl (z_mem2 99 rfl rfl)
theorem plX11_63 {M : ZT} (h : M.1.cls = RX11) (hi : M.1.name = "<init>") : z_pl M 63 TX11 7 := Or.inr ⟨rfl, by rw [h]; exact (z_mem2 99 rfl rfl), hi, by rw [h]; rfl⟩
theorem flX11_67 {M : ZT} (h : M.1.cls = RX11) : z_fl M 67 TX11 8 := by
  unfold z_fl
  rw [h]
  exact Or.inl (z_mem2 100 rfl rfl)
theorem plX11_67 {M : ZT} (h : M.1.cls = RX11) (hi : M.1.name = "<init>") : z_pl M 67 TX11 8 := Or.inr ⟨rfl, by rw [h]; exact (z_mem2 100 rfl rfl), hi, by rw [h]; rfl⟩
theorem flX11_70 {M : ZT} (h : M.1.cls = RX11) : z_fl M 70 TX11 9 := by
  unfold z_fl
  rw [h]
  exact Or.inl (z_mem2 101 rfl rfl)
theorem plX11_70 {M : ZT} (h : M.1.cls = RX11) (hi : M.1.name = "<init>") : z_pl M 70 TX11 9 := Or.inr ⟨rfl, by rw [h]; exact (z_mem2 101 rfl rfl), hi, by rw [h]; rfl⟩
theorem flX11_73 {M : ZT} (h : M.1.cls = RX11) : z_fl M 73 TX11 10 := by
  unfold z_fl
  rw [h]
  exact Or.inl (z_mem2 102 rfl rfl)
theorem plX11_73 {M : ZT} (h : M.1.cls = RX11) (hi : M.1.name = "<init>") : z_pl M 73 TX11 10 := Or.inr ⟨rfl, by rw [h]; exact (z_mem2 102 rfl rfl), hi, by rw [h]; rfl⟩
theorem flX11_79 {M : ZT} (h : M.1.cls = RX11) : z_fl M 79 TX11 11 := by
  unfold z_fl
  rw [h]
  exact Or.inl (z_mem2 103 rfl rfl)
theorem plX11_79 {M : ZT} (h : M.1.cls = RX11) : z_pl M 79 TX11 11 := Or.inl ⟨rfl, flX11_79 h⟩
theorem flX11_83 {M : ZT} (h : M.1.cls = RX11) : z_fl M 83 TX11 12 := by
  unfold z_fl
  rw [h]
  exact Or.inl (z_mem2 104 rfl rfl)
theorem plX11_83 {M : ZT} (h : M.1.cls = RX11) : z_pl M 83 TX11 12 := Or.inl ⟨rfl, flX11_83 h⟩
theorem flX11_86 {M : ZT} (h : M.1.cls = RX11) : z_fl M 86 TX11 13 := by
  unfold z_fl
  rw [h]
  exact Or.inl (z_mem2 105 rfl rfl)
theorem plX11_86 {M : ZT} (h : M.1.cls = RX11) : z_pl M 86 TX11 13 := Or.inl ⟨rfl, flX11_86 h⟩
theorem flX11_90 {M : ZT} (h : M.1.cls = RX11) : z_fl M 90 TX11 14 := by
  unfold z_fl
  rw [h]
  exact Or.inl (z_mem2 106 rfl rfl)
theorem plX11_90 {M : ZT} (h : M.1.cls = RX11) : z_pl M 90 TX11 14 := Or.inl ⟨rfl, flX11_90 h⟩
theorem mlL_13 {M : ZT} (h : M.1.cls = RL) : Cond.methodLink M.1.cls 13 yX11_row ∈ z_us ∨ ∃ host, Cond.methodLinkNest M.1.cls 13 yX11_row host ∈ z_us := by
  rw [h]
  exact Or.inl (z_mem2 138 rfl rfl)
theorem mlX11_93 {M : ZT} (h : M.1.cls = RX11) : Cond.methodLink M.1.cls 93 yX8_exists ∈ z_us ∨ ∃ host, Cond.methodLinkNest M.1.cls 93 yX8_exists host ∈ z_us := by
  rw [h]
  exact Or.inl (z_mem2 142 rfl rfl)
theorem mlX11_97 {M : ZT} (h : M.1.cls = RX11) : Cond.methodLink M.1.cls 97 yX8_lay ∈ z_us ∨ ∃ host, Cond.methodLinkNest M.1.cls 97 yX8_lay host ∈ z_us := by
  rw [h]
  exact Or.inl (z_mem2 146 rfl rfl)
theorem mlX8_22 {M : ZT} (h : M.1.cls = RX8) : Cond.methodLink M.1.cls 22 yX8_exists ∈ z_us ∨ ∃ host, Cond.methodLinkNest M.1.cls 22 yX8_exists host ∈ z_us := by
  rw [h]
  exact Or.inl (z_mem2 150 rfl rfl)
theorem mlL_18 {M : ZT} (h : M.1.cls = RL) : Cond.methodLink M.1.cls 18 yX11_tear ∈ z_us ∨ ∃ host, Cond.methodLinkNest M.1.cls 18 yX11_tear host ∈ z_us := by
  rw [h]
  exact Or.inl (z_mem2 151 rfl rfl)
theorem mlX11_101 {M : ZT} (h : M.1.cls = RX11) : Cond.methodLink M.1.cls 101 yX8_holds ∈ z_us ∨ ∃ host, Cond.methodLinkNest M.1.cls 101 yX8_holds host ∈ z_us := by
  rw [h]
  exact Or.inl (z_mem2 155 rfl rfl)
theorem mlX11_104 {M : ZT} (h : M.1.cls = RX11) : Cond.methodLink M.1.cls 104 yX8_empty ∈ z_us ∨ ∃ host, Cond.methodLinkNest M.1.cls 104 yX8_empty host ∈ z_us := by
  rw [h]
  exact Or.inl (z_mem2 159 rfl rfl)
theorem mlL_25 {M : ZT} (h : M.1.cls = RL) : Cond.methodLink M.1.cls 25 yX11_write ∈ z_us ∨ ∃ host, Cond.methodLinkNest M.1.cls 25 yX11_write host ∈ z_us := by
  rw [h]
  exact Or.inl (z_mem2 163 rfl rfl)
theorem mlX11_107 {M : ZT} (h : M.1.cls = RX11) : Cond.methodLink M.1.cls 107 yX8_put ∈ z_us ∨ ∃ host, Cond.methodLinkNest M.1.cls 107 yX8_put host ∈ z_us := by
  rw [h]
  exact Or.inl (z_mem2 167 rfl rfl)
theorem mlX8_29 {M : ZT} (h : M.1.cls = RX8) : Cond.methodLink M.1.cls 29 yX8_holdsNumber ∈ z_us ∨ ∃ host, Cond.methodLinkNest M.1.cls 29 yX8_holdsNumber host ∈ z_us := by
  rw [h]
  exact Or.inl (z_mem2 171 rfl rfl)
theorem mlX8_26 {M : ZT} (h : M.1.cls = RX8) : Cond.methodLink M.1.cls 26 yX8_holds ∈ z_us ∨ ∃ host, Cond.methodLinkNest M.1.cls 26 yX8_holds host ∈ z_us := by
  rw [h]
  exact Or.inl (z_mem2 175 rfl rfl)
theorem mlX8_33 {M : ZT} (h : M.1.cls = RX8) : Cond.methodLink M.1.cls 33 yX8_cut ∈ z_us ∨ ∃ host, Cond.methodLinkNest M.1.cls 33 yX8_cut host ∈ z_us := by
  rw [h]
  exact Or.inl (z_mem2 176 rfl rfl)
theorem mlL_30 {M : ZT} (h : M.1.cls = RL) : Cond.methodLink M.1.cls 30 yX11_seen ∈ z_us ∨ ∃ host, Cond.methodLinkNest M.1.cls 30 yX11_seen host ∈ z_us := by
  rw [h]
  exact Or.inl (z_mem2 179 rfl rfl)
theorem mlX11_111 {M : ZT} (h : M.1.cls = RX11) : Cond.methodLink M.1.cls 111 yX8_startReading ∈ z_us ∨ ∃ host, Cond.methodLinkNest M.1.cls 111 yX8_startReading host ∈ z_us := by
  rw [h]
  exact Or.inl (z_mem2 183 rfl rfl)
theorem mlX11_114 {M : ZT} (h : M.1.cls = RX11) : Cond.methodLink M.1.cls 114 yX11_readSights ∈ z_us ∨ ∃ host, Cond.methodLinkNest M.1.cls 114 yX11_readSights host ∈ z_us := by
  rw [h]
  exact Or.inl (z_mem2 187 rfl rfl)
theorem mlX11_175 {M : ZT} (h : M.1.cls = RX11) : Cond.methodLink M.1.cls 175 yX6_clear ∈ z_us ∨ ∃ host, Cond.methodLinkNest M.1.cls 175 yX6_clear host ∈ z_us := by
  rw [h]
  exact Or.inl (z_mem2 191 rfl rfl)
theorem mlX11_292 {M : ZT} (h : M.1.cls = RX11) : Cond.methodLink M.1.cls 292 yX8_readNext ∈ z_us ∨ ∃ host, Cond.methodLinkNest M.1.cls 292 yX8_readNext host ∈ z_us := by
  rw [h]
  exact Or.inl (z_mem2 195 rfl rfl)
theorem mlX11_298 {M : ZT} (h : M.1.cls = RX11) : Cond.methodLink M.1.cls 298 yX11_readSight ∈ z_us ∨ ∃ host, Cond.methodLinkNest M.1.cls 298 yX11_readSight host ∈ z_us := by
  rw [h]
  exact Or.inl (z_mem2 199 rfl rfl)
theorem mlX11_301 {M : ZT} (h : M.1.cls = RX11) : Cond.methodLink M.1.cls 301 yX8_readPlace ∈ z_us ∨ ∃ host, Cond.methodLinkNest M.1.cls 301 yX8_readPlace host ∈ z_us := by
  rw [h]
  exact Or.inl (z_mem2 203 rfl rfl)
theorem mlX8_50 {M : ZT} (h : M.1.cls = RX8) : Cond.methodLink M.1.cls 50 yX8_readNext ∈ z_us ∨ ∃ host, Cond.methodLinkNest M.1.cls 50 yX8_readNext host ∈ z_us := by
  rw [h]
  exact Or.inl (z_mem2 207 rfl rfl)
theorem mlX11_139 {M : ZT} (h : M.1.cls = RX11) : Cond.methodLink M.1.cls 139 yX6_holds ∈ z_us ∨ ∃ host, Cond.methodLinkNest M.1.cls 139 yX6_holds host ∈ z_us := by
  rw [h]
  exact Or.inl (z_mem2 208 rfl rfl)
theorem mlX11_141 {M : ZT} (h : M.1.cls = RX11) : Cond.methodLink M.1.cls 141 yX7_add ∈ z_us ∨ ∃ host, Cond.methodLinkNest M.1.cls 141 yX7_add host ∈ z_us := by
  rw [h]
  exact Or.inl (z_mem2 212 rfl rfl)
theorem mlX7_31 {M : ZT} (h : M.1.cls = RX7) : Cond.methodLink M.1.cls 31 yX6_add ∈ z_us ∨ ∃ host, Cond.methodLinkNest M.1.cls 31 yX6_add host ∈ z_us := by
  rw [h]
  exact Or.inl (z_mem2 216 rfl rfl)
theorem mlL_35 {M : ZT} (h : M.1.cls = RL) : Cond.methodLink M.1.cls 35 yX11_see ∈ z_us ∨ ∃ host, Cond.methodLinkNest M.1.cls 35 yX11_see host ∈ z_us := by
  rw [h]
  exact Or.inl (z_mem2 220 rfl rfl)
theorem mlX11_131 {M : ZT} (h : M.1.cls = RX11) : Cond.methodLink M.1.cls 131 yX11_isPlace ∈ z_us ∨ ∃ host, Cond.methodLinkNest M.1.cls 131 yX11_isPlace host ∈ z_us := by
  rw [h]
  exact Or.inl (z_mem2 224 rfl rfl)
theorem mlX11_135 {M : ZT} (h : M.1.cls = RX11) : Cond.methodLink M.1.cls 135 yX11_isWithin ∈ z_us ∨ ∃ host, Cond.methodLinkNest M.1.cls 135 yX11_isWithin host ∈ z_us := by
  rw [h]
  exact Or.inl (z_mem2 227 rfl rfl)
theorem mlL_40 {M : ZT} (h : M.1.cls = RL) : Cond.methodLink M.1.cls 40 yX11_drop ∈ z_us ∨ ∃ host, Cond.methodLinkNest M.1.cls 40 yX11_drop host ∈ z_us := by
  rw [h]
  exact Or.inl (z_mem2 230 rfl rfl)
theorem mlX11_145 {M : ZT} (h : M.1.cls = RX11) : Cond.methodLink M.1.cls 145 yX6_has ∈ z_us ∨ ∃ host, Cond.methodLinkNest M.1.cls 145 yX6_has host ∈ z_us := by
  rw [h]
  exact Or.inl (z_mem2 234 rfl rfl)
theorem mlX11_148 {M : ZT} (h : M.1.cls = RX11) : Cond.methodLink M.1.cls 148 yX7_remove ∈ z_us ∨ ∃ host, Cond.methodLinkNest M.1.cls 148 yX7_remove host ∈ z_us := by
  rw [h]
  exact Or.inl (z_mem2 238 rfl rfl)
theorem mlX7_35 {M : ZT} (h : M.1.cls = RX7) : Cond.methodLink M.1.cls 35 yX6_has ∈ z_us ∨ ∃ host, Cond.methodLinkNest M.1.cls 35 yX6_has host ∈ z_us := by
  rw [h]
  exact Or.inl (z_mem3 2 rfl rfl)
theorem mlX7_39 {M : ZT} (h : M.1.cls = RX7) : Cond.methodLink M.1.cls 39 yX6_remove ∈ z_us ∨ ∃ host, Cond.methodLinkNest M.1.cls 39 yX6_remove host ∈ z_us := by
  rw [h]
  exact Or.inl (z_mem3 3 rfl rfl)
theorem mlX6_26 {M : ZT} (h : M.1.cls = RX6) : Cond.methodLink M.1.cls 26 yX6_has ∈ z_us ∨ ∃ host, Cond.methodLinkNest M.1.cls 26 yX6_has host ∈ z_us := by
  rw [h]
  exact Or.inl (z_mem3 7 rfl rfl)
theorem mlL_44 {M : ZT} (h : M.1.cls = RL) : Cond.methodLink M.1.cls 44 yX11_straight ∈ z_us ∨ ∃ host, Cond.methodLinkNest M.1.cls 44 yX11_straight host ∈ z_us := by
  rw [h]
  exact Or.inl (z_mem3 8 rfl rfl)
theorem mlX11_151 {M : ZT} (h : M.1.cls = RX11) : Cond.methodLink M.1.cls 151 yX11_addSloped ∈ z_us ∨ ∃ host, Cond.methodLinkNest M.1.cls 151 yX11_addSloped host ∈ z_us := by
  rw [h]
  exact Or.inl (z_mem3 12 rfl rfl)
theorem mlX11_155 {M : ZT} (h : M.1.cls = RX11) : Cond.methodLink M.1.cls 155 yX5_isFull ∈ z_us ∨ ∃ host, Cond.methodLinkNest M.1.cls 155 yX5_isFull host ∈ z_us := by
  rw [h]
  exact Or.inl (z_mem3 16 rfl rfl)
theorem mlX11_289 {M : ZT} (h : M.1.cls = RX11) : Cond.methodLink M.1.cls 289 yX5_draftSlope ∈ z_us ∨ ∃ host, Cond.methodLinkNest M.1.cls 289 yX5_draftSlope host ∈ z_us := by
  rw [h]
  exact Or.inl (z_mem3 20 rfl rfl)
theorem mlX5_27 {M : ZT} (h : M.1.cls = RX5) : Cond.methodLink M.1.cls 27 yJ9_min_7cf53 ∈ z_us ∨ ∃ host, Cond.methodLinkNest M.1.cls 27 yJ9_min_7cf53 host ∈ z_us := by
  rw [h]
  exact Or.inl (z_mem3 24 rfl rfl)
theorem mlX5_33 {M : ZT} (h : M.1.cls = RX5) : Cond.methodLink M.1.cls 33 yX5_draft ∈ z_us ∨ ∃ host, Cond.methodLinkNest M.1.cls 33 yX5_draft host ∈ z_us := by
  rw [h]
  exact Or.inl (z_mem3 27 rfl rfl)
theorem mlX5_23 {M : ZT} (h : M.1.cls = RX5) : Cond.methodLink M.1.cls 23 yX5_isFull ∈ z_us ∨ ∃ host, Cond.methodLinkNest M.1.cls 23 yX5_isFull host ∈ z_us := by
  rw [h]
  exact Or.inl (z_mem3 31 rfl rfl)
theorem mlX11_161 {M : ZT} (h : M.1.cls = RX11) : Cond.methodLink M.1.cls 161 yX5_keepDraft ∈ z_us ∨ ∃ host, Cond.methodLinkNest M.1.cls 161 yX5_keepDraft host ∈ z_us := by
  rw [h]
  exact Or.inl (z_mem3 32 rfl rfl)
theorem mlL_48 {M : ZT} (h : M.1.cls = RL) : Cond.methodLink M.1.cls 48 yX11_capped ∈ z_us ∨ ∃ host, Cond.methodLinkNest M.1.cls 48 yX11_capped host ∈ z_us := by
  rw [h]
  exact Or.inl (z_mem3 36 rfl rfl)
theorem mlL_53 {M : ZT} (h : M.1.cls = RL) : Cond.methodLink M.1.cls 53 yX11_table ∈ z_us ∨ ∃ host, Cond.methodLinkNest M.1.cls 53 yX11_table host ∈ z_us := by
  rw [h]
  exact Or.inl (z_mem3 40 rfl rfl)
theorem mlX11_158 {M : ZT} (h : M.1.cls = RX11) : Cond.methodLink M.1.cls 158 yX11_readTable ∈ z_us ∨ ∃ host, Cond.methodLinkNest M.1.cls 158 yX11_readTable host ∈ z_us := by
  rw [h]
  exact Or.inl (z_mem3 44 rfl rfl)
theorem mlX11_310 {M : ZT} (h : M.1.cls = RX11) : Cond.methodLink M.1.cls 310 yX5_draft ∈ z_us ∨ ∃ host, Cond.methodLinkNest M.1.cls 310 yX5_draft host ∈ z_us := by
  rw [h]
  exact Or.inl (z_mem3 48 rfl rfl)
theorem mlL_57 {M : ZT} (h : M.1.cls = RL) : Cond.methodLink M.1.cls 57 yX11_sum ∈ z_us ∨ ∃ host, Cond.methodLinkNest M.1.cls 57 yX11_sum host ∈ z_us := by
  rw [h]
  exact Or.inl (z_mem3 49 rfl rfl)
theorem mlX11_165 {M : ZT} (h : M.1.cls = RX11) : Cond.methodLink M.1.cls 165 yX5_has ∈ z_us ∨ ∃ host, Cond.methodLinkNest M.1.cls 165 yX5_has host ∈ z_us := by
  rw [h]
  exact Or.inl (z_mem3 53 rfl rfl)
theorem mlX11_166 {M : ZT} (h : M.1.cls = RX11) : Cond.methodLink M.1.cls 166 yX5_draftBoth ∈ z_us ∨ ∃ host, Cond.methodLinkNest M.1.cls 166 yX5_draftBoth host ∈ z_us := by
  rw [h]
  exact Or.inl (z_mem3 57 rfl rfl)
theorem mlX5_37 {M : ZT} (h : M.1.cls = RX5) : Cond.methodLink M.1.cls 37 yX5_tell ∈ z_us ∨ ∃ host, Cond.methodLinkNest M.1.cls 37 yX5_tell host ∈ z_us := by
  rw [h]
  exact Or.inl (z_mem3 61 rfl rfl)
theorem mlX5_19 {M : ZT} (h : M.1.cls = RX5) : Cond.methodLink M.1.cls 19 yX5_has ∈ z_us ∨ ∃ host, Cond.methodLinkNest M.1.cls 19 yX5_has host ∈ z_us := by
  rw [h]
  exact Or.inl (z_mem3 65 rfl rfl)
theorem mlL_61 {M : ZT} (h : M.1.cls = RL) : Cond.methodLink M.1.cls 61 yX11_unlike ∈ z_us ∨ ∃ host, Cond.methodLinkNest M.1.cls 61 yX11_unlike host ∈ z_us := by
  rw [h]
  exact Or.inl (z_mem3 66 rfl rfl)
theorem mlX11_169 {M : ZT} (h : M.1.cls = RX11) : Cond.methodLink M.1.cls 169 yX5_tell ∈ z_us ∨ ∃ host, Cond.methodLinkNest M.1.cls 169 yX5_tell host ∈ z_us := by
  rw [h]
  exact Or.inl (z_mem3 70 rfl rfl)
theorem mlL_65 {M : ZT} (h : M.1.cls = RL) : Cond.methodLink M.1.cls 65 yX11_use ∈ z_us ∨ ∃ host, Cond.methodLinkNest M.1.cls 65 yX11_use host ∈ z_us := by
  rw [h]
  exact Or.inl (z_mem3 71 rfl rfl)
theorem mlL_69 {M : ZT} (h : M.1.cls = RL) : Cond.methodLink M.1.cls 69 yX11_nearest ∈ z_us ∨ ∃ host, Cond.methodLinkNest M.1.cls 69 yX11_nearest host ∈ z_us := by
  rw [h]
  exact Or.inl (z_mem3 75 rfl rfl)
theorem mlL_73 {M : ZT} (h : M.1.cls = RL) : Cond.methodLink M.1.cls 73 yX11_ask ∈ z_us ∨ ∃ host, Cond.methodLinkNest M.1.cls 73 yX11_ask host ∈ z_us := by
  rw [h]
  exact Or.inl (z_mem3 79 rfl rfl)
theorem mlX11_172 {M : ZT} (h : M.1.cls = RX11) : Cond.methodLink M.1.cls 172 yX11_canGuess ∈ z_us ∨ ∃ host, Cond.methodLinkNest M.1.cls 172 yX11_canGuess host ∈ z_us := by
  rw [h]
  exact Or.inl (z_mem3 83 rfl rfl)
theorem mlX11_178 {M : ZT} (h : M.1.cls = RX11) : Cond.methodLink M.1.cls 178 yX6_add ∈ z_us ∨ ∃ host, Cond.methodLinkNest M.1.cls 178 yX6_add host ∈ z_us := by
  rw [h]
  exact Or.inl (z_mem3 87 rfl rfl)
theorem mlX11_181 {M : ZT} (h : M.1.cls = RX11) : Cond.methodLink M.1.cls 181 yX11_guessForAsked ∈ z_us ∨ ∃ host, Cond.methodLinkNest M.1.cls 181 yX11_guessForAsked host ∈ z_us := by
  rw [h]
  exact Or.inl (z_mem3 88 rfl rfl)
theorem mlX11_313 {M : ZT} (h : M.1.cls = RX11) : Cond.methodLink M.1.cls 313 yX2_chooseNearest ∈ z_us ∨ ∃ host, Cond.methodLinkNest M.1.cls 313 yX2_chooseNearest host ∈ z_us := by
  rw [h]
  exact Or.inl (z_mem3 92 rfl rfl)
theorem mlX2_43 {M : ZT} (h : M.1.cls = RX2) : Cond.methodLink M.1.cls 43 yX6_wayTo ∈ z_us ∨ ∃ host, Cond.methodLinkNest M.1.cls 43 yX6_wayTo host ∈ z_us := by
  rw [h]
  exact Or.inl (z_mem3 96 rfl rfl)
theorem mlX6_34 {M : ZT} (h : M.1.cls = RX6) : Cond.methodLink M.1.cls 34 yJ9_abs_0f7a4 ∈ z_us ∨ ∃ host, Cond.methodLinkNest M.1.cls 34 yJ9_abs_0f7a4 host ∈ z_us := by
  rw [h]
  exact Or.inl (z_mem3 100 rfl rfl)
theorem mlX2_47 {M : ZT} (h : M.1.cls = RX2) : Cond.methodLink M.1.cls 47 yX2_countNearer ∈ z_us ∨ ∃ host, Cond.methodLinkNest M.1.cls 47 yX2_countNearer host ∈ z_us := by
  rw [h]
  exact Or.inl (z_mem3 103 rfl rfl)
theorem mlX11_317 {M : ZT} (h : M.1.cls = RX11) : Cond.methodLink M.1.cls 317 yX2_prepare ∈ z_us ∨ ∃ host, Cond.methodLinkNest M.1.cls 317 yX2_prepare host ∈ z_us := by
  rw [h]
  exact Or.inl (z_mem3 107 rfl rfl)
theorem mlX2_50 {M : ZT} (h : M.1.cls = RX2) : Cond.methodLink M.1.cls 50 yX2_measure ∈ z_us ∨ ∃ host, Cond.methodLinkNest M.1.cls 50 yX2_measure host ∈ z_us := by
  rw [h]
  exact Or.inl (z_mem3 111 rfl rfl)
theorem mlX2_71 {M : ZT} (h : M.1.cls = RX2) : Cond.methodLink M.1.cls 71 yX6_way ∈ z_us ∨ ∃ host, Cond.methodLinkNest M.1.cls 71 yX6_way host ∈ z_us := by
  rw [h]
  exact Or.inl (z_mem3 115 rfl rfl)
theorem mlX6_30 {M : ZT} (h : M.1.cls = RX6) : Cond.methodLink M.1.cls 30 yX6_wayTo ∈ z_us ∨ ∃ host, Cond.methodLinkNest M.1.cls 30 yX6_wayTo host ∈ z_us := by
  rw [h]
  exact Or.inl (z_mem3 119 rfl rfl)
theorem mlX2_74 {M : ZT} (h : M.1.cls = RX2) : Cond.methodLink M.1.cls 74 yX5_tell ∈ z_us ∨ ∃ host, Cond.methodLinkNest M.1.cls 74 yX5_tell host ∈ z_us := by
  rw [h]
  exact Or.inl (z_mem3 120 rfl rfl)
theorem mlX2_60 {M : ZT} (h : M.1.cls = RX2) : Cond.methodLink M.1.cls 60 yX2_reachOut ∈ z_us ∨ ∃ host, Cond.methodLinkNest M.1.cls 60 yX2_reachOut host ∈ z_us := by
  rw [h]
  exact Or.inl (z_mem3 121 rfl rfl)
theorem mlX2_64 {M : ZT} (h : M.1.cls = RX2) : Cond.methodLink M.1.cls 64 yX2_fillSquare ∈ z_us ∨ ∃ host, Cond.methodLinkNest M.1.cls 64 yX2_fillSquare host ∈ z_us := by
  rw [h]
  exact Or.inl (z_mem3 125 rfl rfl)
theorem mlX2_85 {M : ZT} (h : M.1.cls = RX2) : Cond.methodLink M.1.cls 85 yX4_put ∈ z_us ∨ ∃ host, Cond.methodLinkNest M.1.cls 85 yX4_put host ∈ z_us := by
  rw [h]
  exact Or.inl (z_mem3 129 rfl rfl)
theorem mlX4_38 {M : ZT} (h : M.1.cls = RX4) : Cond.methodLink M.1.cls 38 yX4_cell ∈ z_us ∨ ∃ host, Cond.methodLinkNest M.1.cls 38 yX4_cell host ∈ z_us := by
  rw [h]
  exact Or.inl (z_mem3 133 rfl rfl)
theorem mlX4_42 {M : ZT} (h : M.1.cls = RX4) : Cond.methodLink M.1.cls 42 yX9_put ∈ z_us ∨ ∃ host, Cond.methodLinkNest M.1.cls 42 yX9_put host ∈ z_us := by
  rw [h]
  exact Or.inl (z_mem3 137 rfl rfl)
theorem mlX2_68 {M : ZT} (h : M.1.cls = RX2) : Cond.methodLink M.1.cls 68 yX2_fillRight ∈ z_us ∨ ∃ host, Cond.methodLinkNest M.1.cls 68 yX2_fillRight host ∈ z_us := by
  rw [h]
  exact Or.inl (z_mem3 138 rfl rfl)
theorem mlX11_242 {M : ZT} (h : M.1.cls = RX11) : Cond.methodLink M.1.cls 242 yX2_unknowns ∈ z_us ∨ ∃ host, Cond.methodLinkNest M.1.cls 242 yX2_unknowns host ∈ z_us := by
  rw [h]
  exact Or.inl (z_mem3 142 rfl rfl)
theorem mlX2_28 {M : ZT} (h : M.1.cls = RX2) : Cond.methodLink M.1.cls 28 yJ9_max_7cf53 ∈ z_us ∨ ∃ host, Cond.methodLinkNest M.1.cls 28 yJ9_max_7cf53 host ∈ z_us := by
  rw [h]
  exact Or.inl (z_mem3 146 rfl rfl)
theorem mlX11_321 {M : ZT} (h : M.1.cls = RX11) : Cond.methodLink M.1.cls 321 yX4_solve ∈ z_us ∨ ∃ host, Cond.methodLinkNest M.1.cls 321 yX4_solve host ∈ z_us := by
  rw [h]
  exact Or.inl (z_mem3 147 rfl rfl)
theorem mlX4_46 {M : ZT} (h : M.1.cls = RX4) : Cond.methodLink M.1.cls 46 yX4_bringPivot ∈ z_us ∨ ∃ host, Cond.methodLinkNest M.1.cls 46 yX4_bringPivot host ∈ z_us := by
  rw [h]
  exact Or.inl (z_mem3 151 rfl rfl)
theorem mlX4_50 {M : ZT} (h : M.1.cls = RX4) : Cond.methodLink M.1.cls 50 yX4_clearColumn ∈ z_us ∨ ∃ host, Cond.methodLinkNest M.1.cls 50 yX4_clearColumn host ∈ z_us := by
  rw [h]
  exact Or.inl (z_mem3 155 rfl rfl)
theorem mlX4_65 {M : ZT} (h : M.1.cls = RX4) : Cond.methodLink M.1.cls 65 yX9_lowest ∈ z_us ∨ ∃ host, Cond.methodLinkNest M.1.cls 65 yX9_lowest host ∈ z_us := by
  rw [h]
  exact Or.inl (z_mem3 159 rfl rfl)
theorem mlX4_72 {M : ZT} (h : M.1.cls = RX4) : Cond.methodLink M.1.cls 72 yX9_multiply ∈ z_us ∨ ∃ host, Cond.methodLinkNest M.1.cls 72 yX9_multiply host ∈ z_us := by
  rw [h]
  exact Or.inl (z_mem3 163 rfl rfl)
theorem mlX4_76 {M : ZT} (h : M.1.cls = RX4) : Cond.methodLink M.1.cls 76 yX9_addTimes ∈ z_us ∨ ∃ host, Cond.methodLinkNest M.1.cls 76 yX9_addTimes host ∈ z_us := by
  rw [h]
  exact Or.inl (z_mem3 167 rfl rfl)
theorem mlX9_41 {M : ZT} (h : M.1.cls = RX9) : Cond.methodLink M.1.cls 41 yJ9_max_7cf53 ∈ z_us ∨ ∃ host, Cond.methodLinkNest M.1.cls 41 yJ9_max_7cf53 host ∈ z_us := by
  rw [h]
  exact Or.inl (z_mem3 171 rfl rfl)
theorem mlX9_45 {M : ZT} (h : M.1.cls = RX9) : Cond.methodLink M.1.cls 45 yJ9_min_7cf53 ∈ z_us ∨ ∃ host, Cond.methodLinkNest M.1.cls 45 yJ9_min_7cf53 host ∈ z_us := by
  rw [h]
  exact Or.inl (z_mem3 172 rfl rfl)
theorem mlX9_48 {M : ZT} (h : M.1.cls = RX9) : Cond.methodLink M.1.cls 48 yX9_complement ∈ z_us ∨ ∃ host, Cond.methodLinkNest M.1.cls 48 yX9_complement host ∈ z_us := by
  rw [h]
  exact Or.inl (z_mem3 173 rfl rfl)
theorem mlX4_80 {M : ZT} (h : M.1.cls = RX4) : Cond.methodLink M.1.cls 80 yX1_divide ∈ z_us ∨ ∃ host, Cond.methodLinkNest M.1.cls 80 yX1_divide host ∈ z_us := by
  rw [h]
  exact Or.inl (z_mem3 177 rfl rfl)
theorem mlX1_31 {M : ZT} (h : M.1.cls = RX1) : Cond.methodLink M.1.cls 31 yX1_divideByPart ∈ z_us ∨ ∃ host, Cond.methodLinkNest M.1.cls 31 yX1_divideByPart host ∈ z_us := by
  rw [h]
  exact Or.inl (z_mem3 181 rfl rfl)
theorem mlX1_45 {M : ZT} (h : M.1.cls = RX1) : Cond.methodLink M.1.cls 45 yJ9_max_7cf53 ∈ z_us ∨ ∃ host, Cond.methodLinkNest M.1.cls 45 yJ9_max_7cf53 host ∈ z_us := by
  rw [h]
  exact Or.inl (z_mem3 185 rfl rfl)
theorem ctX1_39 : Cond.constantLong RX1 39 (1000000000) ∈ z_us := z_mem3 186 rfl rfl
theorem mlX1_35 {M : ZT} (h : M.1.cls = RX1) : Cond.methodLink M.1.cls 35 yX9_trim ∈ z_us ∨ ∃ host, Cond.methodLinkNest M.1.cls 35 yX9_trim host ∈ z_us := by
  rw [h]
  exact Or.inr ⟨"NeighbourBoard", (z_mem3 187 rfl rfl)⟩
theorem mlX1_51 {M : ZT} (h : M.1.cls = RX1) : Cond.methodLink M.1.cls 51 yX1_copyScaled ∈ z_us ∨ ∃ host, Cond.methodLinkNest M.1.cls 51 yX1_copyScaled host ∈ z_us := by
  rw [h]
  exact Or.inl (z_mem3 188 rfl rfl)
theorem mlX1_55 {M : ZT} (h : M.1.cls = RX1) : Cond.methodLink M.1.cls 55 yX9_clear ∈ z_us ∨ ∃ host, Cond.methodLinkNest M.1.cls 55 yX9_clear host ∈ z_us := by
  rw [h]
  exact Or.inr ⟨"NeighbourBoard", (z_mem3 192 rfl rfl)⟩
theorem mlX1_58 {M : ZT} (h : M.1.cls = RX1) : Cond.methodLink M.1.cls 58 yX1_guessPart ∈ z_us ∨ ∃ host, Cond.methodLinkNest M.1.cls 58 yX1_guessPart host ∈ z_us := by
  rw [h]
  exact Or.inl (z_mem3 193 rfl rfl)
theorem mlX1_62 {M : ZT} (h : M.1.cls = RX1) : Cond.methodLink M.1.cls 62 yX1_takeAway ∈ z_us ∨ ∃ host, Cond.methodLinkNest M.1.cls 62 yX1_takeAway host ∈ z_us := by
  rw [h]
  exact Or.inl (z_mem3 197 rfl rfl)
theorem mlX1_66 {M : ZT} (h : M.1.cls = RX1) : Cond.methodLink M.1.cls 66 yX1_giveBack ∈ z_us ∨ ∃ host, Cond.methodLinkNest M.1.cls 66 yX1_giveBack host ∈ z_us := by
  rw [h]
  exact Or.inl (z_mem3 201 rfl rfl)
theorem mlX4_54 {M : ZT} (h : M.1.cls = RX4) : Cond.methodLink M.1.cls 54 yX9_copyFrom ∈ z_us ∨ ∃ host, Cond.methodLinkNest M.1.cls 54 yX9_copyFrom host ∈ z_us := by
  rw [h]
  exact Or.inl (z_mem3 205 rfl rfl)
theorem mlX11_324 {M : ZT} (h : M.1.cls = RX11) : Cond.methodLink M.1.cls 324 yX2_unlikeWithin ∈ z_us ∨ ∃ host, Cond.methodLinkNest M.1.cls 324 yX2_unlikeWithin host ∈ z_us := by
  rw [h]
  exact Or.inl (z_mem3 209 rfl rfl)
theorem mlX11_328 {M : ZT} (h : M.1.cls = RX11) : Cond.methodLink M.1.cls 328 yX0_take ∈ z_us ∨ ∃ host, Cond.methodLinkNest M.1.cls 328 yX0_take host ∈ z_us := by
  rw [h]
  exact Or.inl (z_mem3 213 rfl rfl)
theorem mlX0_38 {M : ZT} (h : M.1.cls = RX0) : Cond.methodLink M.1.cls 38 yX9_put ∈ z_us ∨ ∃ host, Cond.methodLinkNest M.1.cls 38 yX9_put host ∈ z_us := by
  rw [h]
  exact Or.inl (z_mem3 217 rfl rfl)
theorem mlX0_51 {M : ZT} (h : M.1.cls = RX0) : Cond.methodLink M.1.cls 51 yX9_addTimes ∈ z_us ∨ ∃ host, Cond.methodLinkNest M.1.cls 51 yX9_addTimes host ∈ z_us := by
  rw [h]
  exact Or.inl (z_mem3 218 rfl rfl)
theorem mlX0_55 {M : ZT} (h : M.1.cls = RX0) : Cond.methodLink M.1.cls 55 yX0_takeWeights ∈ z_us ∨ ∃ host, Cond.methodLinkNest M.1.cls 55 yX0_takeWeights host ∈ z_us := by
  rw [h]
  exact Or.inl (z_mem3 219 rfl rfl)
theorem mlX0_77 {M : ZT} (h : M.1.cls = RX0) : Cond.methodLink M.1.cls 77 yX9_copyFrom ∈ z_us ∨ ∃ host, Cond.methodLinkNest M.1.cls 77 yX9_copyFrom host ∈ z_us := by
  rw [h]
  exact Or.inl (z_mem3 223 rfl rfl)
theorem mlX0_81 {M : ZT} (h : M.1.cls = RX0) : Cond.methodLink M.1.cls 81 yX4_cell ∈ z_us ∨ ∃ host, Cond.methodLinkNest M.1.cls 81 yX4_cell host ∈ z_us := by
  rw [h]
  exact Or.inl (z_mem3 224 rfl rfl)
theorem mlL_77 {M : ZT} (h : M.1.cls = RL) : Cond.methodLink M.1.cls 77 yX11_mean ∈ z_us ∨ ∃ host, Cond.methodLinkNest M.1.cls 77 yX11_mean host ∈ z_us := by
  rw [h]
  exact Or.inl (z_mem3 225 rfl rfl)
theorem mlX11_184 {M : ZT} (h : M.1.cls = RX11) : Cond.methodLink M.1.cls 184 yX11_readAsked ∈ z_us ∨ ∃ host, Cond.methodLinkNest M.1.cls 184 yX11_readAsked host ∈ z_us := by
  rw [h]
  exact Or.inl (z_mem3 229 rfl rfl)
theorem mlL_81 {M : ZT} (h : M.1.cls = RL) : Cond.methodLink M.1.cls 81 yX11_answer ∈ z_us ∨ ∃ host, Cond.methodLinkNest M.1.cls 81 yX11_answer host ∈ z_us := by
  rw [h]
  exact Or.inl (z_mem3 233 rfl rfl)
theorem mlX11_194 {M : ZT} (h : M.1.cls = RX11) : Cond.methodLink M.1.cls 194 yX11_setResult ∈ z_us ∨ ∃ host, Cond.methodLinkNest M.1.cls 194 yX11_setResult host ∈ z_us := by
  rw [h]
  exact Or.inl (z_mem3 237 rfl rfl)
theorem mlX11_336 {M : ZT} (h : M.1.cls = RX11) : Cond.methodLink M.1.cls 336 yX9_copyFrom ∈ z_us ∨ ∃ host, Cond.methodLinkNest M.1.cls 336 yX9_copyFrom host ∈ z_us := by
  rw [h]
  exact Or.inl (z_mem4 1 rfl rfl)
theorem mlX11_339 {M : ZT} (h : M.1.cls = RX11) : Cond.methodLink M.1.cls 339 yX10_reduce ∈ z_us ∨ ∃ host, Cond.methodLinkNest M.1.cls 339 yX10_reduce host ∈ z_us := by
  rw [h]
  exact Or.inl (z_mem4 2 rfl rfl)
theorem mlX10_45 {M : ZT} (h : M.1.cls = RX10) : Cond.methodLink M.1.cls 45 yX10_findShared ∈ z_us ∨ ∃ host, Cond.methodLinkNest M.1.cls 45 yX10_findShared host ∈ z_us := by
  rw [h]
  exact Or.inl (z_mem4 6 rfl rfl)
theorem mlX10_60 {M : ZT} (h : M.1.cls = RX10) : Cond.methodLink M.1.cls 60 yX9_copyFrom ∈ z_us ∨ ∃ host, Cond.methodLinkNest M.1.cls 60 yX9_copyFrom host ∈ z_us := by
  rw [h]
  exact Or.inl (z_mem4 10 rfl rfl)
theorem ctX10_64 : Cond.constant RX10 64 (1000000) ∈ z_us := z_mem4 11 rfl rfl
theorem mlX10_56 {M : ZT} (h : M.1.cls = RX10) : Cond.methodLink M.1.cls 56 yX1_divide ∈ z_us ∨ ∃ host, Cond.methodLinkNest M.1.cls 56 yX1_divide host ∈ z_us := by
  rw [h]
  exact Or.inl (z_mem4 12 rfl rfl)
theorem mlX10_65 {M : ZT} (h : M.1.cls = RX10) : Cond.methodLink M.1.cls 65 yX1_takeRest ∈ z_us ∨ ∃ host, Cond.methodLinkNest M.1.cls 65 yX1_takeRest host ∈ z_us := by
  rw [h]
  exact Or.inl (z_mem4 13 rfl rfl)
theorem mlL_85 {M : ZT} (h : M.1.cls = RL) : Cond.methodLink M.1.cls 85 yX11_leftOut ∈ z_us ∨ ∃ host, Cond.methodLinkNest M.1.cls 85 yX11_leftOut host ∈ z_us := by
  rw [h]
  exact Or.inl (z_mem4 17 rfl rfl)
theorem mlX11_211 {M : ZT} (h : M.1.cls = RX11) : Cond.methodLink M.1.cls 211 yX11_leaveOut ∈ z_us ∨ ∃ host, Cond.methodLinkNest M.1.cls 211 yX11_leaveOut host ∈ z_us := by
  rw [h]
  exact Or.inl (z_mem4 21 rfl rfl)
theorem mlX11_231 {M : ZT} (h : M.1.cls = RX11) : Cond.methodLink M.1.cls 231 yX2_chooseAllBut ∈ z_us ∨ ∃ host, Cond.methodLinkNest M.1.cls 231 yX2_chooseAllBut host ∈ z_us := by
  rw [h]
  exact Or.inl (z_mem4 25 rfl rfl)
theorem mlX11_332 {M : ZT} (h : M.1.cls = RX11) : Cond.methodLink M.1.cls 332 yX2_tellOff ∈ z_us ∨ ∃ host, Cond.methodLinkNest M.1.cls 332 yX2_tellOff host ∈ z_us := by
  rw [h]
  exact Or.inl (z_mem4 29 rfl rfl)
theorem mlX2_94 {M : ZT} (h : M.1.cls = RX2) : Cond.methodLink M.1.cls 94 yX6_has ∈ z_us ∨ ∃ host, Cond.methodLinkNest M.1.cls 94 yX6_has host ∈ z_us := by
  rw [h]
  exact Or.inl (z_mem4 33 rfl rfl)
theorem mlX2_105 {M : ZT} (h : M.1.cls = RX2) : Cond.methodLink M.1.cls 105 yX9_copyFrom ∈ z_us ∨ ∃ host, Cond.methodLinkNest M.1.cls 105 yX9_copyFrom host ∈ z_us := by
  rw [h]
  exact Or.inl (z_mem4 34 rfl rfl)
theorem mlX2_114 {M : ZT} (h : M.1.cls = RX2) : Cond.methodLink M.1.cls 114 yX9_put ∈ z_us ∨ ∃ host, Cond.methodLinkNest M.1.cls 114 yX9_put host ∈ z_us := by
  rw [h]
  exact Or.inl (z_mem4 35 rfl rfl)
theorem mlX2_117 {M : ZT} (h : M.1.cls = RX2) : Cond.methodLink M.1.cls 117 yX9_addTimes ∈ z_us ∨ ∃ host, Cond.methodLinkNest M.1.cls 117 yX9_addTimes host ∈ z_us := by
  rw [h]
  exact Or.inl (z_mem4 36 rfl rfl)
theorem mlX2_121 {M : ZT} (h : M.1.cls = RX2) : Cond.methodLink M.1.cls 121 yX4_cell ∈ z_us ∨ ∃ host, Cond.methodLinkNest M.1.cls 121 yX4_cell host ∈ z_us := by
  rw [h]
  exact Or.inl (z_mem4 37 rfl rfl)
theorem mlL_89 {M : ZT} (h : M.1.cls = RL) : Cond.methodLink M.1.cls 89 yX11_worst ∈ z_us ∨ ∃ host, Cond.methodLinkNest M.1.cls 89 yX11_worst host ∈ z_us := by
  rw [h]
  exact Or.inl (z_mem4 38 rfl rfl)
theorem mlX11_218 {M : ZT} (h : M.1.cls = RX11) : Cond.methodLink M.1.cls 218 yX11_findWorst ∈ z_us ∨ ∃ host, Cond.methodLinkNest M.1.cls 218 yX11_findWorst host ∈ z_us := by
  rw [h]
  exact Or.inl (z_mem4 42 rfl rfl)
theorem mlX11_223 {M : ZT} (h : M.1.cls = RX11) : Cond.methodLink M.1.cls 223 yX10_isLarger ∈ z_us ∨ ∃ host, Cond.methodLinkNest M.1.cls 223 yX10_isLarger host ∈ z_us := by
  rw [h]
  exact Or.inl (z_mem4 46 rfl rfl)
theorem mlX10_37 {M : ZT} (h : M.1.cls = RX10) : Cond.methodLink M.1.cls 37 yX9_multiply ∈ z_us ∨ ∃ host, Cond.methodLinkNest M.1.cls 37 yX9_multiply host ∈ z_us := by
  rw [h]
  exact Or.inl (z_mem4 50 rfl rfl)
theorem mlX10_41 {M : ZT} (h : M.1.cls = RX10) : Cond.methodLink M.1.cls 41 yX9_compareSize ∈ z_us ∨ ∃ host, Cond.methodLinkNest M.1.cls 41 yX9_compareSize host ∈ z_us := by
  rw [h]
  exact Or.inl (z_mem4 51 rfl rfl)
theorem mlX11_227 {M : ZT} (h : M.1.cls = RX11) : Cond.methodLink M.1.cls 227 yX3_copyFrom ∈ z_us ∨ ∃ host, Cond.methodLinkNest M.1.cls 227 yX3_copyFrom host ∈ z_us := by
  rw [h]
  exact Or.inl (z_mem4 55 rfl rfl)
theorem mlX3_23 {M : ZT} (h : M.1.cls = RX3) : Cond.methodLink M.1.cls 23 yX9_copyFrom ∈ z_us ∨ ∃ host, Cond.methodLinkNest M.1.cls 23 yX9_copyFrom host ∈ z_us := by
  rw [h]
  exact Or.inl (z_mem4 59 rfl rfl)
theorem mlL_94 {M : ZT} (h : M.1.cls = RL) : Cond.methodLink M.1.cls 94 yX11_best ∈ z_us ∨ ∃ host, Cond.methodLinkNest M.1.cls 94 yX11_best host ∈ z_us := by
  rw [h]
  exact Or.inl (z_mem4 60 rfl rfl)
theorem mlL_98 {M : ZT} (h : M.1.cls = RL) : Cond.methodLink M.1.cls 98 yX11_allowed ∈ z_us ∨ ∃ host, Cond.methodLinkNest M.1.cls 98 yX11_allowed host ∈ z_us := by
  rw [h]
  exact Or.inl (z_mem4 64 rfl rfl)
theorem mlX11_234 {M : ZT} (h : M.1.cls = RX11) : Cond.methodLink M.1.cls 234 yX2_measure ∈ z_us ∨ ∃ host, Cond.methodLinkNest M.1.cls 234 yX2_measure host ∈ z_us := by
  rw [h]
  exact Or.inl (z_mem4 68 rfl rfl)
theorem mlX11_238 {M : ZT} (h : M.1.cls = RX11) : Cond.methodLink M.1.cls 238 yX2_fillSquare ∈ z_us ∨ ∃ host, Cond.methodLinkNest M.1.cls 238 yX2_fillSquare host ∈ z_us := by
  rw [h]
  exact Or.inl (z_mem4 69 rfl rfl)
theorem mlX11_245 {M : ZT} (h : M.1.cls = RX11) : Cond.methodLink M.1.cls 245 yX4_judge ∈ z_us ∨ ∃ host, Cond.methodLinkNest M.1.cls 245 yX4_judge host ∈ z_us := by
  rw [h]
  exact Or.inl (z_mem4 70 rfl rfl)
theorem mlX4_62 {M : ZT} (h : M.1.cls = RX4) : Cond.methodLink M.1.cls 62 yX4_isZeroBehind ∈ z_us ∨ ∃ host, Cond.methodLinkNest M.1.cls 62 yX4_isZeroBehind host ∈ z_us := by
  rw [h]
  exact Or.inl (z_mem4 74 rfl rfl)
theorem mlL_102 {M : ZT} (h : M.1.cls = RL) : Cond.methodLink M.1.cls 102 yX11_pairs ∈ z_us ∨ ∃ host, Cond.methodLinkNest M.1.cls 102 yX11_pairs host ∈ z_us := by
  rw [h]
  exact Or.inl (z_mem4 78 rfl rfl)
theorem mlX11_248 {M : ZT} (h : M.1.cls = RX11) : Cond.methodLink M.1.cls 248 yX6_way ∈ z_us ∨ ∃ host, Cond.methodLinkNest M.1.cls 248 yX6_way host ∈ z_us := by
  rw [h]
  exact Or.inl (z_mem4 82 rfl rfl)
theorem mlL_106 {M : ZT} (h : M.1.cls = RL) : Cond.methodLink M.1.cls 106 yX11_band ∈ z_us ∨ ∃ host, Cond.methodLinkNest M.1.cls 106 yX11_band host ∈ z_us := by
  rw [h]
  exact Or.inl (z_mem4 83 rfl rfl)
theorem mlX11_251 {M : ZT} (h : M.1.cls = RX11) : Cond.methodLink M.1.cls 251 yX11_pairs ∈ z_us ∨ ∃ host, Cond.methodLinkNest M.1.cls 251 yX11_pairs host ∈ z_us := by
  rw [h]
  exact Or.inl (z_mem4 87 rfl rfl)
theorem mlX11_258 {M : ZT} (h : M.1.cls = RX11) : Cond.methodLink M.1.cls 258 yX9_put ∈ z_us ∨ ∃ host, Cond.methodLinkNest M.1.cls 258 yX9_put host ∈ z_us := by
  rw [h]
  exact Or.inl (z_mem4 88 rfl rfl)
theorem ctX11_263 : Cond.constantLong RX11 263 (2) ∈ z_us := z_mem4 89 rfl rfl
theorem mlL_111 {M : ZT} (h : M.1.cls = RL) : Cond.methodLink M.1.cls 111 yX11_look ∈ z_us ∨ ∃ host, Cond.methodLinkNest M.1.cls 111 yX11_look host ∈ z_us := by
  rw [h]
  exact Or.inl (z_mem4 90 rfl rfl)
theorem mlX11_269 {M : ZT} (h : M.1.cls = RX11) : Cond.methodLink M.1.cls 269 yJ9_max_7cf53 ∈ z_us ∨ ∃ host, Cond.methodLinkNest M.1.cls 269 yJ9_max_7cf53 host ∈ z_us := by
  rw [h]
  exact Or.inl (z_mem4 94 rfl rfl)
theorem mlL_115 {M : ZT} (h : M.1.cls = RL) : Cond.methodLink M.1.cls 115 yX11_part ∈ z_us ∨ ∃ host, Cond.methodLinkNest M.1.cls 115 yX11_part host ∈ z_us := by
  rw [h]
  exact Or.inl (z_mem4 95 rfl rfl)
theorem mlL_120 {M : ZT} (h : M.1.cls = RL) : Cond.methodLink M.1.cls 120 yX11_told ∈ z_us ∨ ∃ host, Cond.methodLinkNest M.1.cls 120 yX11_told host ∈ z_us := by
  rw [h]
  exact Or.inl (z_mem4 99 rfl rfl)
theorem mlL_124 {M : ZT} (h : M.1.cls = RL) : Cond.methodLink M.1.cls 124 yX11_count ∈ z_us ∨ ∃ host, Cond.methodLinkNest M.1.cls 124 yX11_count host ∈ z_us := by
  rw [h]
  exact Or.inl (z_mem4 103 rfl rfl)
theorem mlX11_286 {M : ZT} (h : M.1.cls = RX11) : Cond.methodLink M.1.cls 286 yX8_countHeld ∈ z_us ∨ ∃ host, Cond.methodLinkNest M.1.cls 286 yX8_countHeld host ∈ z_us := by
  rw [h]
  exact Or.inl (z_mem4 107 rfl rfl)
theorem clL_10 : Cond.classLink RL 10 RX12 ∈ z_us := z_mem4 111 rfl rfl
theorem in_X12 : Cond.instantiable RX12 30 ∈ z_us := z_mem4 112 rfl rfl
theorem iz_X12 : Cond.initialized RX12 ∈ z_us := z_mem1 15 rfl rfl
theorem mlL_12 {M : ZT} (h : M.1.cls = RL) : Cond.methodLink M.1.cls 12 yX12_init ∈ z_us ∨ ∃ host, Cond.methodLinkNest M.1.cls 12 yX12_init host ∈ z_us := by
  rw [h]
  exact Or.inl (z_mem4 113 rfl rfl)
theorem mlX12_3 : Cond.methodLink RX12 3 objectInit ∈ z_us := z_mem4 116 rfl rfl
theorem mlX12_73 {M : ZT} (h : M.1.cls = RX12) : Cond.methodLink M.1.cls 73 yX12_set ∈ z_us ∨ ∃ host, Cond.methodLinkNest M.1.cls 73 yX12_set host ∈ z_us := by
  rw [h]
  exact Or.inl (z_mem4 117 rfl rfl)
theorem mlX12_88 {M : ZT} (h : M.1.cls = RX12) : Cond.methodLink M.1.cls 88 yX12_carry ∈ z_us ∨ ∃ host, Cond.methodLinkNest M.1.cls 88 yX12_carry host ∈ z_us := by
  rw [h]
  exact Or.inl (z_mem4 121 rfl rfl)
theorem ctX12_77 : Cond.constantLong RX12 77 (1000000000) ∈ z_us := z_mem4 125 rfl rfl
theorem mlX12_79 {M : ZT} (h : M.1.cls = RX12) : Cond.methodLink M.1.cls 79 yJ9_floorMod_f86c9 ∈ z_us ∨ ∃ host, Cond.methodLinkNest M.1.cls 79 yJ9_floorMod_f86c9 host ∈ z_us := by
  rw [h]
  exact Or.inl (z_mem4 126 rfl rfl)
theorem mlX12_85 {M : ZT} (h : M.1.cls = RX12) : Cond.methodLink M.1.cls 85 yJ9_floorDiv_f86c9 ∈ z_us ∨ ∃ host, Cond.methodLinkNest M.1.cls 85 yJ9_floorDiv_f86c9 host ∈ z_us := by
  rw [h]
  exact Or.inl (z_mem4 129 rfl rfl)
theorem flX12_9 {M : ZT} (h : M.1.cls = RX12) : z_fl M 9 TX12 0 := by
  unfold z_fl
  rw [h]
  exact Or.inl (z_mem4 132 rfl rfl)
theorem plX12_9 {M : ZT} (h : M.1.cls = RX12) (hi : M.1.name = "<init>") : z_pl M 9 TX12 0 := Or.inr ⟨rfl, by rw [h]; exact (z_mem4 132 rfl rfl), hi, by rw [h]; rfl⟩
theorem flX12_13 {M : ZT} (h : M.1.cls = RX12) : z_fl M 13 TX12 1 := by
  unfold z_fl
  rw [h]
  exact Or.inl (z_mem4 133 rfl rfl)
theorem plX12_13 {M : ZT} (h : M.1.cls = RX12) (hi : M.1.name = "<init>") : z_pl M 13 TX12 1 := Or.inr ⟨rfl, by rw [h]; exact (z_mem4 133 rfl rfl), hi, by rw [h]; rfl⟩
theorem flX12_17 {M : ZT} (h : M.1.cls = RX12) : z_fl M 17 TX12 2 := by
  unfold z_fl
  rw [h]
  exact Or.inl (z_mem4 134 rfl rfl)
theorem plX12_17 {M : ZT} (h : M.1.cls = RX12) (hi : M.1.name = "<init>") : z_pl M 17 TX12 2 := Or.inr ⟨rfl, by rw [h]; exact (z_mem4 134 rfl rfl), hi, by rw [h]; rfl⟩
theorem flX12_20 {M : ZT} (h : M.1.cls = RX12) : z_fl M 20 TX12 3 := by
  unfold z_fl
  rw [h]
  exact Or.inl (z_mem4 135 rfl rfl)
theorem plX12_20 {M : ZT} (h : M.1.cls = RX12) (hi : M.1.name = "<init>") : z_pl M 20 TX12 3 := Or.inr ⟨rfl, by rw [h]; exact (z_mem4 135 rfl rfl), hi, by rw [h]; rfl⟩
theorem flX12_167 {M : ZT} (h : M.1.cls = RX12) : z_fl M 167 TX12 4 := by
  unfold z_fl
  rw [h]
  exact Or.inl (z_mem4 136 rfl rfl)
theorem plX12_167 {M : ZT} (h : M.1.cls = RX12) : z_pl M 167 TX12 4 := Or.inl ⟨rfl, flX12_167 h⟩
theorem flX12_23 {M : ZT} (h : M.1.cls = RX12) : z_fl M 23 TX12 5 := by
  unfold z_fl
  rw [h]
  exact Or.inl (z_mem4 137 rfl rfl)
theorem plX12_23 {M : ZT} (h : M.1.cls = RX12) (hi : M.1.name = "<init>") : z_pl M 23 TX12 5 := Or.inr ⟨rfl, by rw [h]; exact (z_mem4 137 rfl rfl), hi, by rw [h]; rfl⟩
theorem flX12_26 {M : ZT} (h : M.1.cls = RX12) : z_fl M 26 TX12 6 := by
  unfold z_fl
  rw [h]
  exact Or.inl (z_mem4 138 rfl rfl)
theorem plX12_26 {M : ZT} (h : M.1.cls = RX12) (hi : M.1.name = "<init>") : z_pl M 26 TX12 6 := Or.inr ⟨rfl, by rw [h]; exact (z_mem4 138 rfl rfl), hi, by rw [h]; rfl⟩
theorem flX12_29 {M : ZT} (h : M.1.cls = RX12) : z_fl M 29 TX12 7 := by
  unfold z_fl
  rw [h]
  exact Or.inl (z_mem4 139 rfl rfl)
theorem plX12_29 {M : ZT} (h : M.1.cls = RX12) (hi : M.1.name = "<init>") : z_pl M 29 TX12 7 := Or.inr ⟨rfl, by rw [h]; exact (z_mem4 139 rfl rfl), hi, by rw [h]; rfl⟩
theorem flX12_32 {M : ZT} (h : M.1.cls = RX12) : z_fl M 32 TX12 8 := by
  unfold z_fl
  rw [h]
  exact Or.inl (z_mem4 140 rfl rfl)
theorem plX12_32 {M : ZT} (h : M.1.cls = RX12) (hi : M.1.name = "<init>") : z_pl M 32 TX12 8 := Or.inr ⟨rfl, by rw [h]; exact (z_mem4 140 rfl rfl), hi, by rw [h]; rfl⟩
theorem flX12_193 {M : ZT} (h : M.1.cls = RX12) : z_fl M 193 TX12 9 := by
  unfold z_fl
  rw [h]
  exact Or.inl (z_mem4 141 rfl rfl)
theorem plX12_193 {M : ZT} (h : M.1.cls = RX12) : z_pl M 193 TX12 9 := Or.inl ⟨rfl, flX12_193 h⟩
theorem flX12_35 {M : ZT} (h : M.1.cls = RX12) : z_fl M 35 TX12 10 := by
  unfold z_fl
  rw [h]
  exact Or.inl (z_mem4 142 rfl rfl)
theorem plX12_35 {M : ZT} (h : M.1.cls = RX12) (hi : M.1.name = "<init>") : z_pl M 35 TX12 10 := Or.inr ⟨rfl, by rw [h]; exact (z_mem4 142 rfl rfl), hi, by rw [h]; rfl⟩
theorem flX12_38 {M : ZT} (h : M.1.cls = RX12) : z_fl M 38 TX12 11 := by
  unfold z_fl
  rw [h]
  exact Or.inl (z_mem4 143 rfl rfl)
theorem plX12_38 {M : ZT} (h : M.1.cls = RX12) : z_pl M 38 TX12 11 := Or.inl ⟨rfl, flX12_38 h⟩
theorem flX12_42 {M : ZT} (h : M.1.cls = RX12) : z_fl M 42 TX12 12 := by
  unfold z_fl
  rw [h]
  exact Or.inl (z_mem4 144 rfl rfl)
theorem plX12_42 {M : ZT} (h : M.1.cls = RX12) : z_pl M 42 TX12 12 := Or.inl ⟨rfl, flX12_42 h⟩
theorem flX12_186 {M : ZT} (h : M.1.cls = RX12) : z_fl M 186 TX12 13 := by
  unfold z_fl
  rw [h]
  exact Or.inl (z_mem4 145 rfl rfl)
theorem plX12_186 {M : ZT} (h : M.1.cls = RX12) : z_pl M 186 TX12 13 := Or.inl ⟨rfl, flX12_186 h⟩
theorem flX12_45 {M : ZT} (h : M.1.cls = RX12) : z_fl M 45 TX12 14 := by
  unfold z_fl
  rw [h]
  exact Or.inl (z_mem4 146 rfl rfl)
theorem plX12_45 {M : ZT} (h : M.1.cls = RX12) (hi : M.1.name = "<init>") : z_pl M 45 TX12 14 := Or.inr ⟨rfl, by rw [h]; exact (z_mem4 146 rfl rfl), hi, by rw [h]; rfl⟩
theorem flX12_48 {M : ZT} (h : M.1.cls = RX12) : z_fl M 48 TX12 15 := by
  unfold z_fl
  rw [h]
  exact Or.inl (z_mem4 147 rfl rfl)
theorem plX12_48 {M : ZT} (h : M.1.cls = RX12) (hi : M.1.name = "<init>") : z_pl M 48 TX12 15 := Or.inr ⟨rfl, by rw [h]; exact (z_mem4 147 rfl rfl), hi, by rw [h]; rfl⟩
theorem flX12_51 {M : ZT} (h : M.1.cls = RX12) : z_fl M 51 TX12 16 := by
  unfold z_fl
  rw [h]
  exact Or.inl (z_mem4 148 rfl rfl)
theorem plX12_51 {M : ZT} (h : M.1.cls = RX12) (hi : M.1.name = "<init>") : z_pl M 51 TX12 16 := Or.inr ⟨rfl, by rw [h]; exact (z_mem4 148 rfl rfl), hi, by rw [h]; rfl⟩
theorem flX12_150 {M : ZT} (h : M.1.cls = RX12) : z_fl M 150 TX12 17 := by
  unfold z_fl
  rw [h]
  exact Or.inl (z_mem4 149 rfl rfl)
theorem plX12_150 {M : ZT} (h : M.1.cls = RX12) : z_pl M 150 TX12 17 := Or.inl ⟨rfl, flX12_150 h⟩
theorem flX12_157 {M : ZT} (h : M.1.cls = RX12) : z_fl M 157 TX12 18 := by
  unfold z_fl
  rw [h]
  exact Or.inl (z_mem4 150 rfl rfl)
theorem plX12_157 {M : ZT} (h : M.1.cls = RX12) : z_pl M 157 TX12 18 := Or.inl ⟨rfl, flX12_157 h⟩
theorem flX12_144 {M : ZT} (h : M.1.cls = RX12) : z_fl M 144 TX12 19 := by
  unfold z_fl
  rw [h]
  exact Or.inl (z_mem4 151 rfl rfl)
theorem plX12_144 {M : ZT} (h : M.1.cls = RX12) : z_pl M 144 TX12 19 := Or.inl ⟨rfl, flX12_144 h⟩
theorem flX12_147 {M : ZT} (h : M.1.cls = RX12) : z_fl M 147 TX12 20 := by
  unfold z_fl
  rw [h]
  exact Or.inl (z_mem4 152 rfl rfl)
theorem plX12_147 {M : ZT} (h : M.1.cls = RX12) : z_pl M 147 TX12 20 := Or.inl ⟨rfl, flX12_147 h⟩
theorem flX12_54 {M : ZT} (h : M.1.cls = RX12) : z_fl M 54 TX12 21 := by
  unfold z_fl
  rw [h]
  exact Or.inl (z_mem4 153 rfl rfl)
theorem plX12_54 {M : ZT} (h : M.1.cls = RX12) (hi : M.1.name = "<init>") : z_pl M 54 TX12 21 := Or.inr ⟨rfl, by rw [h]; exact (z_mem4 153 rfl rfl), hi, by rw [h]; rfl⟩
theorem flX12_57 {M : ZT} (h : M.1.cls = RX12) : z_fl M 57 TX12 22 := by
  unfold z_fl
  rw [h]
  exact Or.inl (z_mem4 154 rfl rfl)
theorem plX12_57 {M : ZT} (h : M.1.cls = RX12) (hi : M.1.name = "<init>") : z_pl M 57 TX12 22 := Or.inr ⟨rfl, by rw [h]; exact (z_mem4 154 rfl rfl), hi, by rw [h]; rfl⟩
theorem flX12_211 {M : ZT} (h : M.1.cls = RX12) : z_fl M 211 TX12 23 := by
  unfold z_fl
  rw [h]
  exact Or.inl (z_mem4 155 rfl rfl)
theorem plX12_211 {M : ZT} (h : M.1.cls = RX12) : z_pl M 211 TX12 23 := Or.inl ⟨rfl, flX12_211 h⟩
theorem flX12_60 {M : ZT} (h : M.1.cls = RX12) : z_fl M 60 TX12 24 := by
  unfold z_fl
  rw [h]
  exact Or.inl (z_mem4 156 rfl rfl)
theorem plX12_60 {M : ZT} (h : M.1.cls = RX12) (hi : M.1.name = "<init>") : z_pl M 60 TX12 24 := Or.inr ⟨rfl, by rw [h]; exact (z_mem4 156 rfl rfl), hi, by rw [h]; rfl⟩
theorem flX12_63 {M : ZT} (h : M.1.cls = RX12) : z_fl M 63 TX12 25 := by
  unfold z_fl
  rw [h]
  exact Or.inl (z_mem4 157 rfl rfl)
theorem plX12_63 {M : ZT} (h : M.1.cls = RX12) (hi : M.1.name = "<init>") : z_pl M 63 TX12 25 := Or.inr ⟨rfl, by rw [h]; exact (z_mem4 157 rfl rfl), hi, by rw [h]; rfl⟩
theorem flX12_214 {M : ZT} (h : M.1.cls = RX12) : z_fl M 214 TX12 26 := by
  unfold z_fl
  rw [h]
  exact Or.inl (z_mem4 158 rfl rfl)
theorem plX12_214 {M : ZT} (h : M.1.cls = RX12) : z_pl M 214 TX12 26 := Or.inl ⟨rfl, flX12_214 h⟩
theorem flX12_66 {M : ZT} (h : M.1.cls = RX12) : z_fl M 66 TX12 27 := by
  unfold z_fl
  rw [h]
  exact Or.inl (z_mem4 159 rfl rfl)
theorem plX12_66 {M : ZT} (h : M.1.cls = RX12) (hi : M.1.name = "<init>") : z_pl M 66 TX12 27 := Or.inr ⟨rfl, by rw [h]; exact (z_mem4 159 rfl rfl), hi, by rw [h]; rfl⟩
theorem flX12_69 {M : ZT} (h : M.1.cls = RX12) : z_fl M 69 TX12 28 := by
  unfold z_fl
  rw [h]
  exact Or.inl (z_mem4 160 rfl rfl)
theorem plX12_69 {M : ZT} (h : M.1.cls = RX12) (hi : M.1.name = "<init>") : z_pl M 69 TX12 28 := Or.inr ⟨rfl, by rw [h]; exact (z_mem4 160 rfl rfl), hi, by rw [h]; rfl⟩
theorem flX12_275 {M : ZT} (h : M.1.cls = RX12) : z_fl M 275 TX12 29 := by
  unfold z_fl
  rw [h]
  exact Or.inl (z_mem4 161 rfl rfl)
theorem plX12_275 {M : ZT} (h : M.1.cls = RX12) : z_pl M 275 TX12 29 := Or.inl ⟨rfl, flX12_275 h⟩
theorem ac_boolean : Cond.arrayClass .boolean ∈ z_us := z_mem4 223 rfl rfl
theorem mlL_17 {M : ZT} (h : M.1.cls = RL) : Cond.methodLink M.1.cls 17 yX12_row ∈ z_us ∨ ∃ host, Cond.methodLinkNest M.1.cls 17 yX12_row host ∈ z_us := by
  rw [h]
  exact Or.inl (z_mem4 224 rfl rfl)
theorem mlX12_141 {M : ZT} (h : M.1.cls = RX12) : Cond.methodLink M.1.cls 141 yX12_isSlot ∈ z_us ∨ ∃ host, Cond.methodLinkNest M.1.cls 141 yX12_isSlot host ∈ z_us := by
  rw [h]
  exact Or.inl (z_mem4 228 rfl rfl)
theorem mlL_22 {M : ZT} (h : M.1.cls = RL) : Cond.methodLink M.1.cls 22 yX12_tear ∈ z_us ∨ ∃ host, Cond.methodLinkNest M.1.cls 22 yX12_tear host ∈ z_us := by
  rw [h]
  exact Or.inl (z_mem4 231 rfl rfl)
theorem mlL_29 {M : ZT} (h : M.1.cls = RL) : Cond.methodLink M.1.cls 29 yX12_write ∈ z_us ∨ ∃ host, Cond.methodLinkNest M.1.cls 29 yX12_write host ∈ z_us := by
  rw [h]
  exact Or.inl (z_mem4 235 rfl rfl)
theorem mlL_34 {M : ZT} (h : M.1.cls = RL) : Cond.methodLink M.1.cls 34 yX12_seen ∈ z_us ∨ ∃ host, Cond.methodLinkNest M.1.cls 34 yX12_seen host ∈ z_us := by
  rw [h]
  exact Or.inl (z_mem4 239 rfl rfl)
theorem ctX12_170 : Cond.constantLong RX12 170 (8) ∈ z_us := z_mem5 3 rfl rfl
theorem mlX12_172 {M : ZT} (h : M.1.cls = RX12) : Cond.methodLink M.1.cls 172 yX12_isIn ∈ z_us ∨ ∃ host, Cond.methodLinkNest M.1.cls 172 yX12_isIn host ∈ z_us := by
  rw [h]
  exact Or.inl (z_mem5 4 rfl rfl)
theorem ctX12_176 : Cond.constantLong RX12 176 (-20) ∈ z_us := z_mem5 7 rfl rfl
theorem ctX12_178 : Cond.constantLong RX12 178 (20) ∈ z_us := z_mem5 8 rfl rfl
theorem ctX12_180 : Cond.constantLong RX12 180 (-1000) ∈ z_us := z_mem5 9 rfl rfl
theorem ctX12_182 : Cond.constantLong RX12 182 (1000) ∈ z_us := z_mem5 10 rfl rfl
theorem ctX12_184 : Cond.constantLong RX12 184 (100) ∈ z_us := z_mem5 11 rfl rfl
theorem mlL_39 {M : ZT} (h : M.1.cls = RL) : Cond.methodLink M.1.cls 39 yX12_see ∈ z_us ∨ ∃ host, Cond.methodLinkNest M.1.cls 39 yX12_see host ∈ z_us := by
  rw [h]
  exact Or.inl (z_mem5 12 rfl rfl)
theorem mlL_43 {M : ZT} (h : M.1.cls = RL) : Cond.methodLink M.1.cls 43 yX12_drop ∈ z_us ∨ ∃ host, Cond.methodLinkNest M.1.cls 43 yX12_drop host ∈ z_us := by
  rw [h]
  exact Or.inl (z_mem5 16 rfl rfl)
theorem mlX12_190 {M : ZT} (h : M.1.cls = RX12) : Cond.methodLink M.1.cls 190 yX12_isSeen ∈ z_us ∨ ∃ host, Cond.methodLinkNest M.1.cls 190 yX12_isSeen host ∈ z_us := by
  rw [h]
  exact Or.inl (z_mem5 20 rfl rfl)
theorem mlL_47 {M : ZT} (h : M.1.cls = RL) : Cond.methodLink M.1.cls 47 yX12_straight ∈ z_us ∨ ∃ host, Cond.methodLinkNest M.1.cls 47 yX12_straight host ∈ z_us := by
  rw [h]
  exact Or.inl (z_mem5 24 rfl rfl)
theorem mlL_52 {M : ZT} (h : M.1.cls = RL) : Cond.methodLink M.1.cls 52 yX12_capped ∈ z_us ∨ ∃ host, Cond.methodLinkNest M.1.cls 52 yX12_capped host ∈ z_us := by
  rw [h]
  exact Or.inl (z_mem5 28 rfl rfl)
theorem mlL_56 {M : ZT} (h : M.1.cls = RL) : Cond.methodLink M.1.cls 56 yX12_table ∈ z_us ∨ ∃ host, Cond.methodLinkNest M.1.cls 56 yX12_table host ∈ z_us := by
  rw [h]
  exact Or.inl (z_mem5 32 rfl rfl)
theorem ctX12_196 : Cond.constantLong RX12 196 (40) ∈ z_us := z_mem5 36 rfl rfl
theorem ctX12_198 : Cond.constantLong RX12 198 (8000) ∈ z_us := z_mem5 37 rfl rfl
theorem mlL_60 {M : ZT} (h : M.1.cls = RL) : Cond.methodLink M.1.cls 60 yX12_sum ∈ z_us ∨ ∃ host, Cond.methodLinkNest M.1.cls 60 yX12_sum host ∈ z_us := by
  rw [h]
  exact Or.inl (z_mem5 38 rfl rfl)
theorem mlX12_200 {M : ZT} (h : M.1.cls = RX12) : Cond.methodLink M.1.cls 200 yX12_isLaw ∈ z_us ∨ ∃ host, Cond.methodLinkNest M.1.cls 200 yX12_isLaw host ∈ z_us := by
  rw [h]
  exact Or.inl (z_mem5 42 rfl rfl)
theorem mlL_64 {M : ZT} (h : M.1.cls = RL) : Cond.methodLink M.1.cls 64 yX12_unlike ∈ z_us ∨ ∃ host, Cond.methodLinkNest M.1.cls 64 yX12_unlike host ∈ z_us := by
  rw [h]
  exact Or.inl (z_mem5 46 rfl rfl)
theorem mlL_68 {M : ZT} (h : M.1.cls = RL) : Cond.methodLink M.1.cls 68 yX12_use ∈ z_us ∨ ∃ host, Cond.methodLinkNest M.1.cls 68 yX12_use host ∈ z_us := by
  rw [h]
  exact Or.inl (z_mem5 50 rfl rfl)
theorem mlL_72 {M : ZT} (h : M.1.cls = RL) : Cond.methodLink M.1.cls 72 yX12_nearest ∈ z_us ∨ ∃ host, Cond.methodLinkNest M.1.cls 72 yX12_nearest host ∈ z_us := by
  rw [h]
  exact Or.inl (z_mem5 54 rfl rfl)
theorem mlL_76 {M : ZT} (h : M.1.cls = RL) : Cond.methodLink M.1.cls 76 yX12_ask ∈ z_us ∨ ∃ host, Cond.methodLinkNest M.1.cls 76 yX12_ask host ∈ z_us := by
  rw [h]
  exact Or.inl (z_mem5 58 rfl rfl)
theorem mlX12_248 {M : ZT} (h : M.1.cls = RX12) : Cond.methodLink M.1.cls 248 yX12_isAnswered ∈ z_us ∨ ∃ host, Cond.methodLinkNest M.1.cls 248 yX12_isAnswered host ∈ z_us := by
  rw [h]
  exact Or.inl (z_mem5 62 rfl rfl)
theorem mlX12_233 {M : ZT} (h : M.1.cls = RX12) : Cond.methodLink M.1.cls 233 yX12_choose ∈ z_us ∨ ∃ host, Cond.methodLinkNest M.1.cls 233 yX12_choose host ∈ z_us := by
  rw [h]
  exact Or.inl (z_mem5 66 rfl rfl)
theorem mlX12_217 {M : ZT} (h : M.1.cls = RX12) : Cond.methodLink M.1.cls 217 yX12_ways ∈ z_us ∨ ∃ host, Cond.methodLinkNest M.1.cls 217 yX12_ways host ∈ z_us := by
  rw [h]
  exact Or.inl (z_mem5 70 rfl rfl)
theorem mlX12_207 {M : ZT} (h : M.1.cls = RX12) : Cond.methodLink M.1.cls 207 yX12_way ∈ z_us ∨ ∃ host, Cond.methodLinkNest M.1.cls 207 yX12_way host ∈ z_us := by
  rw [h]
  exact Or.inl (z_mem5 74 rfl rfl)
theorem mlX12_203 {M : ZT} (h : M.1.cls = RX12) : Cond.methodLink M.1.cls 203 yX12_size ∈ z_us ∨ ∃ host, Cond.methodLinkNest M.1.cls 203 yX12_size host ∈ z_us := by
  rw [h]
  exact Or.inl (z_mem5 77 rfl rfl)
theorem mlX12_236 {M : ZT} (h : M.1.cls = RX12) : Cond.methodLink M.1.cls 236 yX12_weigh ∈ z_us ∨ ∃ host, Cond.methodLinkNest M.1.cls 236 yX12_weigh host ∈ z_us := by
  rw [h]
  exact Or.inl (z_mem5 80 rfl rfl)
theorem mlX12_153 {M : ZT} (h : M.1.cls = RX12) : Cond.methodLink M.1.cls 153 yX12_cell ∈ z_us ∨ ∃ host, Cond.methodLinkNest M.1.cls 153 yX12_cell host ∈ z_us := by
  rw [h]
  exact Or.inl (z_mem5 84 rfl rfl)
theorem mlX12_220 {M : ZT} (h : M.1.cls = RX12) : Cond.methodLink M.1.cls 220 yX12_between ∈ z_us ∨ ∃ host, Cond.methodLinkNest M.1.cls 220 yX12_between host ∈ z_us := by
  rw [h]
  exact Or.inl (z_mem5 88 rfl rfl)
theorem mlX12_224 {M : ZT} (h : M.1.cls = RX12) : Cond.methodLink M.1.cls 224 yX12_toPlaces ∈ z_us ∨ ∃ host, Cond.methodLinkNest M.1.cls 224 yX12_toPlaces host ∈ z_us := by
  rw [h]
  exact Or.inl (z_mem5 92 rfl rfl)
theorem mlX12_227 {M : ZT} (h : M.1.cls = RX12) : Cond.methodLink M.1.cls 227 yX12_clear ∈ z_us ∨ ∃ host, Cond.methodLinkNest M.1.cls 227 yX12_clear host ∈ z_us := by
  rw [h]
  exact Or.inl (z_mem5 96 rfl rfl)
theorem mlX12_92 {M : ZT} (h : M.1.cls = RX12) : Cond.methodLink M.1.cls 92 yX12_isZero ∈ z_us ∨ ∃ host, Cond.methodLinkNest M.1.cls 92 yX12_isZero host ∈ z_us := by
  rw [h]
  exact Or.inl (z_mem5 100 rfl rfl)
theorem mlX12_118 {M : ZT} (h : M.1.cls = RX12) : Cond.methodLink M.1.cls 118 yX12_copy ∈ z_us ∨ ∃ host, Cond.methodLinkNest M.1.cls 118 yX12_copy host ∈ z_us := by
  rw [h]
  exact Or.inl (z_mem5 104 rfl rfl)
theorem mlX12_160 {M : ZT} (h : M.1.cls = RX12) : Cond.methodLink M.1.cls 160 yX12_clears ∈ z_us ∨ ∃ host, Cond.methodLinkNest M.1.cls 160 yX12_clears host ∈ z_us := by
  rw [h]
  exact Or.inl (z_mem5 108 rfl rfl)
theorem mlX12_163 {M : ZT} (h : M.1.cls = RX12) : Cond.methodLink M.1.cls 163 yX12_times ∈ z_us ∨ ∃ host, Cond.methodLinkNest M.1.cls 163 yX12_times host ∈ z_us := by
  rw [h]
  exact Or.inl (z_mem5 112 rfl rfl)
theorem mlX12_96 {M : ZT} (h : M.1.cls = RX12) : Cond.methodLink M.1.cls 96 yX12_isBelow ∈ z_us ∨ ∃ host, Cond.methodLinkNest M.1.cls 96 yX12_isBelow host ∈ z_us := by
  rw [h]
  exact Or.inl (z_mem5 116 rfl rfl)
theorem mlX12_102 {M : ZT} (h : M.1.cls = RX12) : Cond.methodLink M.1.cls 102 yX12_bare ∈ z_us ∨ ∃ host, Cond.methodLinkNest M.1.cls 102 yX12_bare host ∈ z_us := by
  rw [h]
  exact Or.inl (z_mem5 120 rfl rfl)
theorem mlX12_99 {M : ZT} (h : M.1.cls = RX12) : Cond.methodLink M.1.cls 99 yX12_turn ∈ z_us ∨ ∃ host, Cond.methodLinkNest M.1.cls 99 yX12_turn host ∈ z_us := by
  rw [h]
  exact Or.inl (z_mem5 124 rfl rfl)
theorem mlX12_106 {M : ZT} (h : M.1.cls = RX12) : Cond.methodLink M.1.cls 106 yX12_length ∈ z_us ∨ ∃ host, Cond.methodLinkNest M.1.cls 106 yX12_length host ∈ z_us := by
  rw [h]
  exact Or.inl (z_mem5 128 rfl rfl)
theorem ctX12_132 : Cond.constantLong RX12 132 (-1) ∈ z_us := z_mem5 131 rfl rfl
theorem mlX12_134 {M : ZT} (h : M.1.cls = RX12) : Cond.methodLink M.1.cls 134 yX12_more ∈ z_us ∨ ∃ host, Cond.methodLinkNest M.1.cls 134 yX12_more host ∈ z_us := by
  rw [h]
  exact Or.inl (z_mem5 132 rfl rfl)
theorem mlX12_138 {M : ZT} (h : M.1.cls = RX12) : Cond.methodLink M.1.cls 138 yX12_parts ∈ z_us ∨ ∃ host, Cond.methodLinkNest M.1.cls 138 yX12_parts host ∈ z_us := by
  rw [h]
  exact Or.inl (z_mem5 136 rfl rfl)
theorem ctX12_110 : Cond.constantLong RX12 110 (999999999) ∈ z_us := z_mem5 140 rfl rfl
theorem ctX12_112 : Cond.constantLong RX12 112 (2) ∈ z_us := z_mem5 141 rfl rfl
theorem mlX12_114 {M : ZT} (h : M.1.cls = RX12) : Cond.methodLink M.1.cls 114 yX12_goesInto ∈ z_us ∨ ∃ host, Cond.methodLinkNest M.1.cls 114 yX12_goesInto host ∈ z_us := by
  rw [h]
  exact Or.inl (z_mem5 142 rfl rfl)
theorem mlX12_239 {M : ZT} (h : M.1.cls = RX12) : Cond.methodLink M.1.cls 239 yX12_top ∈ z_us ∨ ∃ host, Cond.methodLinkNest M.1.cls 239 yX12_top host ∈ z_us := by
  rw [h]
  exact Or.inl (z_mem5 146 rfl rfl)
theorem mlX12_242 {M : ZT} (h : M.1.cls = RX12) : Cond.methodLink M.1.cls 242 yX12_guess ∈ z_us ∨ ∃ host, Cond.methodLinkNest M.1.cls 242 yX12_guess host ∈ z_us := by
  rw [h]
  exact Or.inl (z_mem5 150 rfl rfl)
theorem mlX12_230 {M : ZT} (h : M.1.cls = RX12) : Cond.methodLink M.1.cls 230 yX12_told ∈ z_us ∨ ∃ host, Cond.methodLinkNest M.1.cls 230 yX12_told host ∈ z_us := by
  rw [h]
  exact Or.inl (z_mem5 154 rfl rfl)
theorem mlX12_245 {M : ZT} (h : M.1.cls = RX12) : Cond.methodLink M.1.cls 245 yX12_bottom ∈ z_us ∨ ∃ host, Cond.methodLinkNest M.1.cls 245 yX12_bottom host ∈ z_us := by
  rw [h]
  exact Or.inl (z_mem5 158 rfl rfl)
theorem mlL_80 {M : ZT} (h : M.1.cls = RL) : Cond.methodLink M.1.cls 80 yX12_mean ∈ z_us ∨ ∃ host, Cond.methodLinkNest M.1.cls 80 yX12_mean host ∈ z_us := by
  rw [h]
  exact Or.inl (z_mem5 162 rfl rfl)
theorem ctX12_252 : Cond.constantLong RX12 252 (6) ∈ z_us := z_mem5 166 rfl rfl
theorem mlL_84 {M : ZT} (h : M.1.cls = RL) : Cond.methodLink M.1.cls 84 yX12_answer ∈ z_us ∨ ∃ host, Cond.methodLinkNest M.1.cls 84 yX12_answer host ∈ z_us := by
  rw [h]
  exact Or.inl (z_mem5 167 rfl rfl)
theorem mlX12_254 {M : ZT} (h : M.1.cls = RX12) : Cond.methodLink M.1.cls 254 yX12_result ∈ z_us ∨ ∃ host, Cond.methodLinkNest M.1.cls 254 yX12_result host ∈ z_us := by
  rw [h]
  exact Or.inl (z_mem5 171 rfl rfl)
theorem mlX12_122 {M : ZT} (h : M.1.cls = RX12) : Cond.methodLink M.1.cls 122 yX12_isEven ∈ z_us ∨ ∃ host, Cond.methodLinkNest M.1.cls 122 yX12_isEven host ∈ z_us := by
  rw [h]
  exact Or.inl (z_mem5 175 rfl rfl)
theorem mlX12_125 {M : ZT} (h : M.1.cls = RX12) : Cond.methodLink M.1.cls 125 yX12_half ∈ z_us ∨ ∃ host, Cond.methodLinkNest M.1.cls 125 yX12_half host ∈ z_us := by
  rw [h]
  exact Or.inl (z_mem5 179 rfl rfl)
theorem mlX12_128 {M : ZT} (h : M.1.cls = RX12) : Cond.methodLink M.1.cls 128 yX12_isLess ∈ z_us ∨ ∃ host, Cond.methodLinkNest M.1.cls 128 yX12_isLess host ∈ z_us := by
  rw [h]
  exact Or.inl (z_mem5 183 rfl rfl)
theorem mlL_88 {M : ZT} (h : M.1.cls = RL) : Cond.methodLink M.1.cls 88 yX12_leftOut ∈ z_us ∨ ∃ host, Cond.methodLinkNest M.1.cls 88 yX12_leftOut host ∈ z_us := by
  rw [h]
  exact Or.inl (z_mem5 187 rfl rfl)
theorem mlX12_257 {M : ZT} (h : M.1.cls = RX12) : Cond.methodLink M.1.cls 257 yX12_isOff ∈ z_us ∨ ∃ host, Cond.methodLinkNest M.1.cls 257 yX12_isOff host ∈ z_us := by
  rw [h]
  exact Or.inl (z_mem5 191 rfl rfl)
theorem mlL_93 {M : ZT} (h : M.1.cls = RL) : Cond.methodLink M.1.cls 93 yX12_worst_ ∈ z_us ∨ ∃ host, Cond.methodLinkNest M.1.cls 93 yX12_worst_ host ∈ z_us := by
  rw [h]
  exact Or.inl (z_mem5 195 rfl rfl)
theorem mlX12_266 {M : ZT} (h : M.1.cls = RX12) : Cond.methodLink M.1.cls 266 yX12_worst ∈ z_us ∨ ∃ host, Cond.methodLinkNest M.1.cls 266 yX12_worst host ∈ z_us := by
  rw [h]
  exact Or.inl (z_mem5 199 rfl rfl)
theorem mlX12_260 {M : ZT} (h : M.1.cls = RX12) : Cond.methodLink M.1.cls 260 yX12_bare_ ∈ z_us ∨ ∃ host, Cond.methodLinkNest M.1.cls 260 yX12_bare_ host ∈ z_us := by
  rw [h]
  exact Or.inl (z_mem5 203 rfl rfl)
theorem mlX12_262 {M : ZT} (h : M.1.cls = RX12) : Cond.methodLink M.1.cls 262 yX12_isAbove ∈ z_us ∨ ∃ host, Cond.methodLinkNest M.1.cls 262 yX12_isAbove host ∈ z_us := by
  rw [h]
  exact Or.inl (z_mem5 207 rfl rfl)
theorem mlL_97 {M : ZT} (h : M.1.cls = RL) : Cond.methodLink M.1.cls 97 yX12_best ∈ z_us ∨ ∃ host, Cond.methodLinkNest M.1.cls 97 yX12_best host ∈ z_us := by
  rw [h]
  exact Or.inl (z_mem5 211 rfl rfl)
theorem mlL_101 {M : ZT} (h : M.1.cls = RL) : Cond.methodLink M.1.cls 101 yX12_allowed ∈ z_us ∨ ∃ host, Cond.methodLinkNest M.1.cls 101 yX12_allowed host ∈ z_us := by
  rw [h]
  exact Or.inl (z_mem5 215 rfl rfl)
theorem mlX12_272 {M : ZT} (h : M.1.cls = RX12) : Cond.methodLink M.1.cls 272 yX12_minor ∈ z_us ∨ ∃ host, Cond.methodLinkNest M.1.cls 272 yX12_minor host ∈ z_us := by
  rw [h]
  exact Or.inl (z_mem5 219 rfl rfl)
theorem mlX12_269 {M : ZT} (h : M.1.cls = RX12) : Cond.methodLink M.1.cls 269 yX12_sign ∈ z_us ∨ ∃ host, Cond.methodLinkNest M.1.cls 269 yX12_sign host ∈ z_us := by
  rw [h]
  exact Or.inl (z_mem5 223 rfl rfl)
theorem mlL_105 {M : ZT} (h : M.1.cls = RL) : Cond.methodLink M.1.cls 105 yX12_pairs ∈ z_us ∨ ∃ host, Cond.methodLinkNest M.1.cls 105 yX12_pairs host ∈ z_us := by
  rw [h]
  exact Or.inl (z_mem5 227 rfl rfl)
theorem mlX12_279 {M : ZT} (h : M.1.cls = RX12) : Cond.methodLink M.1.cls 279 yX12_band0 ∈ z_us ∨ ∃ host, Cond.methodLinkNest M.1.cls 279 yX12_band0 host ∈ z_us := by
  rw [h]
  exact Or.inl (z_mem5 231 rfl rfl)
theorem mlL_110 {M : ZT} (h : M.1.cls = RL) : Cond.methodLink M.1.cls 110 yX12_band ∈ z_us ∨ ∃ host, Cond.methodLinkNest M.1.cls 110 yX12_band host ∈ z_us := by
  rw [h]
  exact Or.inl (z_mem5 235 rfl rfl)
theorem mlL_114 {M : ZT} (h : M.1.cls = RL) : Cond.methodLink M.1.cls 114 yX12_look ∈ z_us ∨ ∃ host, Cond.methodLinkNest M.1.cls 114 yX12_look host ∈ z_us := by
  rw [h]
  exact Or.inl (z_mem5 239 rfl rfl)
theorem mlX12_282 {M : ZT} (h : M.1.cls = RX12) : Cond.methodLink M.1.cls 282 yX12_manyParts ∈ z_us ∨ ∃ host, Cond.methodLinkNest M.1.cls 282 yX12_manyParts host ∈ z_us := by
  rw [h]
  exact Or.inl (z_mem6 3 rfl rfl)
theorem mlL_119 {M : ZT} (h : M.1.cls = RL) : Cond.methodLink M.1.cls 119 yX12_part ∈ z_us ∨ ∃ host, Cond.methodLinkNest M.1.cls 119 yX12_part host ∈ z_us := by
  rw [h]
  exact Or.inl (z_mem6 7 rfl rfl)
theorem mlL_123 {M : ZT} (h : M.1.cls = RL) : Cond.methodLink M.1.cls 123 yX12_told_ ∈ z_us ∨ ∃ host, Cond.methodLinkNest M.1.cls 123 yX12_told_ host ∈ z_us := by
  rw [h]
  exact Or.inl (z_mem6 11 rfl rfl)
theorem mlL_127 {M : ZT} (h : M.1.cls = RL) : Cond.methodLink M.1.cls 127 yX12_count ∈ z_us ∨ ∃ host, Cond.methodLinkNest M.1.cls 127 yX12_count host ∈ z_us := by
  rw [h]
  exact Or.inl (z_mem6 15 rfl rfl)
theorem ctL_23 : Cond.constantLong RL 23 (4294967295) ∈ z_us := z_mem6 19 rfl rfl
theorem ob_i : Cond.instanceMethod objectInit ∈ z_us := z_mem1 22 rfl rfl
theorem ob_c : Cond.code objectInit ⟨#[0xb1]⟩ 1 none ∈ z_us := z_mem1 23 rfl rfl
theorem df_0 : ∀ i, i < 7 → ∀ B : Nat, defaultValue (tyX0 i) = z_rv B 0 (z_ft 0 i, 0) := fun i hi B => match i, hi with
  | 0, _ => rfl
  | 1, _ => rfl
  | 2, _ => rfl
  | 3, _ => rfl
  | 4, _ => rfl
  | 5, _ => rfl
  | 6, _ => rfl
  | k + 7, h => absurd h (by omega)
theorem df_1 : ∀ i, i < 4 → ∀ B : Nat, defaultValue (tyX1 i) = z_rv B 0 (z_ft 1 i, 0) := fun i hi B => match i, hi with
  | 0, _ => rfl
  | 1, _ => rfl
  | 2, _ => rfl
  | 3, _ => rfl
  | k + 4, h => absurd h (by omega)
theorem df_2 : ∀ i, i < 6 → ∀ B : Nat, defaultValue (tyX2 i) = z_rv B 0 (z_ft 2 i, 0) := fun i hi B => match i, hi with
  | 0, _ => rfl
  | 1, _ => rfl
  | 2, _ => rfl
  | 3, _ => rfl
  | 4, _ => rfl
  | 5, _ => rfl
  | k + 6, h => absurd h (by omega)
theorem df_3 : ∀ i, i < 2 → ∀ B : Nat, defaultValue (tyX3 i) = z_rv B 0 (z_ft 3 i, 0) := fun i hi B => match i, hi with
  | 0, _ => rfl
  | 1, _ => rfl
  | k + 2, h => absurd h (by omega)
theorem df_4 : ∀ i, i < 6 → ∀ B : Nat, defaultValue (tyX4 i) = z_rv B 0 (z_ft 4 i, 0) := fun i hi B => match i, hi with
  | 0, _ => rfl
  | 1, _ => rfl
  | 2, _ => rfl
  | 3, _ => rfl
  | 4, _ => rfl
  | 5, _ => rfl
  | k + 6, h => absurd h (by omega)
theorem df_5 : ∀ i, i < 2 → ∀ B : Nat, defaultValue (tyX5 i) = z_rv B 0 (z_ft 5 i, 0) := fun i hi B => match i, hi with
  | 0, _ => rfl
  | 1, _ => rfl
  | k + 2, h => absurd h (by omega)
theorem df_6 : ∀ i, i < 3 → ∀ B : Nat, defaultValue (tyX6 i) = z_rv B 0 (z_ft 6 i, 0) := fun i hi B => match i, hi with
  | 0, _ => rfl
  | 1, _ => rfl
  | 2, _ => rfl
  | k + 3, h => absurd h (by omega)
theorem df_7 : ∀ i, i < 3 → ∀ B : Nat, defaultValue (tyX7 i) = z_rv B 0 (z_ft 7 i, 0) := fun i hi B => match i, hi with
  | 0, _ => rfl
  | 1, _ => rfl
  | 2, _ => rfl
  | k + 3, h => absurd h (by omega)
theorem df_8 : ∀ i, i < 9 → ∀ B : Nat, defaultValue (tyX8 i) = z_rv B 0 (z_ft 8 i, 0) := fun i hi B => match i, hi with
  | 0, _ => rfl
  | 1, _ => rfl
  | 2, _ => rfl
  | 3, _ => rfl
  | 4, _ => rfl
  | 5, _ => rfl
  | 6, _ => rfl
  | 7, _ => rfl
  | 8, _ => rfl
  | k + 9, h => absurd h (by omega)
theorem df_9 : ∀ i, i < 3 → ∀ B : Nat, defaultValue (tyX9 i) = z_rv B 0 (z_ft 9 i, 0) := fun i hi B => match i, hi with
  | 0, _ => rfl
  | 1, _ => rfl
  | 2, _ => rfl
  | k + 3, h => absurd h (by omega)
theorem df_10 : ∀ i, i < 4 → ∀ B : Nat, defaultValue (tyX10 i) = z_rv B 0 (z_ft 10 i, 0) := fun i hi B => match i, hi with
  | 0, _ => rfl
  | 1, _ => rfl
  | 2, _ => rfl
  | 3, _ => rfl
  | k + 4, h => absurd h (by omega)
theorem df_11 : ∀ i, i < 15 → ∀ B : Nat, defaultValue (tyX11 i) = z_rv B 0 (z_ft 11 i, 0) := fun i hi B => match i, hi with
  | 0, _ => rfl
  | 1, _ => rfl
  | 2, _ => rfl
  | 3, _ => rfl
  | 4, _ => rfl
  | 5, _ => rfl
  | 6, _ => rfl
  | 7, _ => rfl
  | 8, _ => rfl
  | 9, _ => rfl
  | 10, _ => rfl
  | 11, _ => rfl
  | 12, _ => rfl
  | 13, _ => rfl
  | 14, _ => rfl
  | k + 15, h => absurd h (by omega)
theorem df_12 : ∀ i, i < 30 → ∀ B : Nat, defaultValue (tyX12 i) = z_rv B 0 (z_ft 12 i, 0) := fun i hi B => match i, hi with
  | 0, _ => rfl
  | 1, _ => rfl
  | 2, _ => rfl
  | 3, _ => rfl
  | 4, _ => rfl
  | 5, _ => rfl
  | 6, _ => rfl
  | 7, _ => rfl
  | 8, _ => rfl
  | 9, _ => rfl
  | 10, _ => rfl
  | 11, _ => rfl
  | 12, _ => rfl
  | 13, _ => rfl
  | 14, _ => rfl
  | 15, _ => rfl
  | 16, _ => rfl
  | 17, _ => rfl
  | 18, _ => rfl
  | 19, _ => rfl
  | 20, _ => rfl
  | 21, _ => rfl
  | 22, _ => rfl
  | 23, _ => rfl
  | 24, _ => rfl
  | 25, _ => rfl
  | 26, _ => rfl
  | 27, _ => rfl
  | 28, _ => rfl
  | 29, _ => rfl
  | k + 30, h => absurd h (by omega)
end
