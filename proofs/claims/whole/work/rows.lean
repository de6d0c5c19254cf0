section
-- ===== PART A: goes FIRST, ahead of the names: the tables' words, and 'selects' of the private methods out of them =====
/-- a private method of a class that the tables say can be made, by its rows of tables_1 -/
def lw_okq (q : MethodName × Nat) : Prop := (q.1.cls ≠ "java/lang/invoke/MethodHandle" ∧ q.1.cls ≠ "java/lang/invoke/VarHandle") ∧ Cond.instantiable q.1.cls q.2 ∈ tables_1 ∧ Cond.privateMethod q.1 ∈ tables_1 ∧ Cond.instanceMethod q.1 ∈ tables_1
theorem lw_p0 : lw_okq (⟨"SaidForNothing", "shelfAt", "(I)LSaidForNothing$Shelf;"⟩, 11) := ⟨⟨by decide +kernel, by decide +kernel⟩, List.mem_of_getElem? (i := 20) (by decide +kernel), List.mem_of_getElem? (i := 366) (by decide +kernel), List.mem_of_getElem? (i := 367) (by decide +kernel)⟩
theorem lw_p1 : lw_okq (⟨"SaidForNothing", "refuse", "(I)I"⟩, 11) := ⟨⟨by decide +kernel, by decide +kernel⟩, List.mem_of_getElem? (i := 20) (by decide +kernel), List.mem_of_getElem? (i := 370) (by decide +kernel), List.mem_of_getElem? (i := 371) (by decide +kernel)⟩
theorem lw_p2 : lw_okq (⟨"SaidForNothing", "rowFlaw", "(I)I"⟩, 11) := ⟨⟨by decide +kernel, by decide +kernel⟩, List.mem_of_getElem? (i := 20) (by decide +kernel), List.mem_of_getElem? (i := 394) (by decide +kernel), List.mem_of_getElem? (i := 395) (by decide +kernel)⟩
theorem lw_p3 : lw_okq (⟨"SaidForNothing$Shelf", "cut", "(J)J"⟩, 5) := ⟨⟨by decide +kernel, by decide +kernel⟩, List.mem_of_getElem? (i := 301) (by decide +kernel), List.mem_of_getElem? (i := 415) (by decide +kernel), List.mem_of_getElem? (i := 416) (by decide +kernel)⟩
theorem lw_p4 : lw_okq (⟨"SaidForNothing", "usedBits", "(LSaidForNothing$Meaning;)I"⟩, 11) := ⟨⟨by decide +kernel, by decide +kernel⟩, List.mem_of_getElem? (i := 20) (by decide +kernel), List.mem_of_getElem? (i := 470) (by decide +kernel), List.mem_of_getElem? (i := 471) (by decide +kernel)⟩
theorem lw_p5 : lw_okq (⟨"SaidForNothing$Letters", "begin", "(LSaidForNothing$Shelf;)V"⟩, 5) := ⟨⟨by decide +kernel, by decide +kernel⟩, List.mem_of_getElem? (i := 170) (by decide +kernel), List.mem_of_getElem? (i := 492) (by decide +kernel), List.mem_of_getElem? (i := 493) (by decide +kernel)⟩
theorem lw_p6 : lw_okq (⟨"SaidForNothing$Letters", "expectAll", "(Ljava/lang/String;)Z"⟩, 5) := ⟨⟨by decide +kernel, by decide +kernel⟩, List.mem_of_getElem? (i := 170) (by decide +kernel), List.mem_of_getElem? (i := 511) (by decide +kernel), List.mem_of_getElem? (i := 512) (by decide +kernel)⟩
theorem lw_p7 : lw_okq (⟨"SaidForNothing$Letters", "expect", "(C)Z"⟩, 5) := ⟨⟨by decide +kernel, by decide +kernel⟩, List.mem_of_getElem? (i := 170) (by decide +kernel), List.mem_of_getElem? (i := 563) (by decide +kernel), List.mem_of_getElem? (i := 564) (by decide +kernel)⟩
theorem lw_p8 : lw_okq (⟨"SaidForNothing$Letters", "at", "(C)Z"⟩, 5) := ⟨⟨by decide +kernel, by decide +kernel⟩, List.mem_of_getElem? (i := 170) (by decide +kernel), List.mem_of_getElem? (i := 567) (by decide +kernel), List.mem_of_getElem? (i := 568) (by decide +kernel)⟩
theorem lw_p9 : lw_okq (⟨"SaidForNothing$Letters", "fail", "(I)Z"⟩, 5) := ⟨⟨by decide +kernel, by decide +kernel⟩, List.mem_of_getElem? (i := 170) (by decide +kernel), List.mem_of_getElem? (i := 572) (by decide +kernel), List.mem_of_getElem? (i := 573) (by decide +kernel)⟩
theorem lw_p10 : lw_okq (⟨"SaidForNothing$Letters", "items", "(LSaidForNothing$Talk;)Z"⟩, 5) := ⟨⟨by decide +kernel, by decide +kernel⟩, List.mem_of_getElem? (i := 170) (by decide +kernel), List.mem_of_getElem? (i := 576) (by decide +kernel), List.mem_of_getElem? (i := 577) (by decide +kernel)⟩
theorem lw_p11 : lw_okq (⟨"SaidForNothing$Letters", "item", "(LSaidForNothing$Talk;)Z"⟩, 5) := ⟨⟨by decide +kernel, by decide +kernel⟩, List.mem_of_getElem? (i := 170) (by decide +kernel), List.mem_of_getElem? (i := 580) (by decide +kernel), List.mem_of_getElem? (i := 581) (by decide +kernel)⟩
theorem lw_p12 : lw_okq (⟨"SaidForNothing$Letters", "readNumber", "(II)Z"⟩, 5) := ⟨⟨by decide +kernel, by decide +kernel⟩, List.mem_of_getElem? (i := 170) (by decide +kernel), List.mem_of_getElem? (i := 584) (by decide +kernel), List.mem_of_getElem? (i := 585) (by decide +kernel)⟩
theorem lw_p13 : lw_okq (⟨"SaidForNothing$Letters", "part", "(LSaidForNothing$Talk;)Z"⟩, 5) := ⟨⟨by decide +kernel, by decide +kernel⟩, List.mem_of_getElem? (i := 170) (by decide +kernel), List.mem_of_getElem? (i := 593) (by decide +kernel), List.mem_of_getElem? (i := 594) (by decide +kernel)⟩
theorem lw_p14 : lw_okq (⟨"SaidForNothing$Letters", "partName", "()Ljava/lang/String;"⟩, 5) := ⟨⟨by decide +kernel, by decide +kernel⟩, List.mem_of_getElem? (i := 170) (by decide +kernel), List.mem_of_getElem? (i := 597) (by decide +kernel), List.mem_of_getElem? (i := 598) (by decide +kernel)⟩
theorem lw_p15 : lw_okq (⟨"SaidForNothing$Letters", "wordsPart", "(LSaidForNothing$Talk;)Z"⟩, 5) := ⟨⟨by decide +kernel, by decide +kernel⟩, List.mem_of_getElem? (i := 170) (by decide +kernel), List.mem_of_getElem? (i := 614) (by decide +kernel), List.mem_of_getElem? (i := 615) (by decide +kernel)⟩
def lw_privs_1 : List (MethodName × Nat) := [(⟨"SaidForNothing", "shelfAt", "(I)LSaidForNothing$Shelf;"⟩, 11), (⟨"SaidForNothing", "refuse", "(I)I"⟩, 11), (⟨"SaidForNothing", "rowFlaw", "(I)I"⟩, 11), (⟨"SaidForNothing$Shelf", "cut", "(J)J"⟩, 5), (⟨"SaidForNothing", "usedBits", "(LSaidForNothing$Meaning;)I"⟩, 11), (⟨"SaidForNothing$Letters", "begin", "(LSaidForNothing$Shelf;)V"⟩, 5), (⟨"SaidForNothing$Letters", "expectAll", "(Ljava/lang/String;)Z"⟩, 5), (⟨"SaidForNothing$Letters", "expect", "(C)Z"⟩, 5), (⟨"SaidForNothing$Letters", "at", "(C)Z"⟩, 5), (⟨"SaidForNothing$Letters", "fail", "(I)Z"⟩, 5), (⟨"SaidForNothing$Letters", "items", "(LSaidForNothing$Talk;)Z"⟩, 5), (⟨"SaidForNothing$Letters", "item", "(LSaidForNothing$Talk;)Z"⟩, 5), (⟨"SaidForNothing$Letters", "readNumber", "(II)Z"⟩, 5), (⟨"SaidForNothing$Letters", "part", "(LSaidForNothing$Talk;)Z"⟩, 5), (⟨"SaidForNothing$Letters", "partName", "()Ljava/lang/String;"⟩, 5), (⟨"SaidForNothing$Letters", "wordsPart", "(LSaidForNothing$Talk;)Z"⟩, 5)]
theorem lw_r1 : ∀ q ∈ lw_privs_1, lw_okq q := List.forall_mem_cons.mpr ⟨lw_p0, List.forall_mem_cons.mpr ⟨lw_p1, List.forall_mem_cons.mpr ⟨lw_p2, List.forall_mem_cons.mpr ⟨lw_p3, List.forall_mem_cons.mpr ⟨lw_p4, List.forall_mem_cons.mpr ⟨lw_p5, List.forall_mem_cons.mpr ⟨lw_p6, List.forall_mem_cons.mpr ⟨lw_p7, List.forall_mem_cons.mpr ⟨lw_p8, List.forall_mem_cons.mpr ⟨lw_p9, List.forall_mem_cons.mpr ⟨lw_p10, List.forall_mem_cons.mpr ⟨lw_p11, List.forall_mem_cons.mpr ⟨lw_p12, List.forall_mem_cons.mpr ⟨lw_p13, List.forall_mem_cons.mpr ⟨lw_p14, List.forall_mem_cons.mpr ⟨lw_p15, fun _ h => absurd h List.not_mem_nil⟩⟩⟩⟩⟩⟩⟩⟩⟩⟩⟩⟩⟩⟩⟩⟩
theorem lw_p16 : lw_okq (⟨"SaidForNothing$Letters", "lossPart", "(LSaidForNothing$Talk;)Z"⟩, 5) := ⟨⟨by decide +kernel, by decide +kernel⟩, List.mem_of_getElem? (i := 170) (by decide +kernel), List.mem_of_getElem? (i := 618) (by decide +kernel), List.mem_of_getElem? (i := 619) (by decide +kernel)⟩
theorem lw_p17 : lw_okq (⟨"SaidForNothing$Letters", "readSigned", "()Z"⟩, 5) := ⟨⟨by decide +kernel, by decide +kernel⟩, List.mem_of_getElem? (i := 170) (by decide +kernel), List.mem_of_getElem? (i := 622) (by decide +kernel), List.mem_of_getElem? (i := 623) (by decide +kernel)⟩
theorem lw_p18 : lw_okq (⟨"SaidForNothing$Letters", "secondPart", "(LSaidForNothing$Talk;I)Z"⟩, 5) := ⟨⟨by decide +kernel, by decide +kernel⟩, List.mem_of_getElem? (i := 170) (by decide +kernel), List.mem_of_getElem? (i := 626) (by decide +kernel), List.mem_of_getElem? (i := 627) (by decide +kernel)⟩
theorem lw_p19 : lw_okq (⟨"SaidForNothing", "refuseFar", "(I)I"⟩, 11) := ⟨⟨by decide +kernel, by decide +kernel⟩, List.mem_of_getElem? (i := 20) (by decide +kernel), List.mem_of_getElem? (i := 652) (by decide +kernel), List.mem_of_getElem? (i := 653) (by decide +kernel)⟩
theorem lw_p20 : lw_okq (⟨"SaidForNothing$Reading", "silence", "()V"⟩, 15) := ⟨⟨by decide +kernel, by decide +kernel⟩, List.mem_of_getElem? (i := 194) (by decide +kernel), List.mem_of_getElem? (i := 673) (by decide +kernel), List.mem_of_getElem? (i := 674) (by decide +kernel)⟩
theorem lw_p21 : lw_okq (⟨"SaidForNothing$Reading", "gather", "()V"⟩, 15) := ⟨⟨by decide +kernel, by decide +kernel⟩, List.mem_of_getElem? (i := 194) (by decide +kernel), List.mem_of_getElem? (i := 690) (by decide +kernel), List.mem_of_getElem? (i := 691) (by decide +kernel)⟩
theorem lw_p22 : lw_okq (⟨"SaidForNothing$Reading", "blend", "(II)J"⟩, 15) := ⟨⟨by decide +kernel, by decide +kernel⟩, List.mem_of_getElem? (i := 194) (by decide +kernel), List.mem_of_getElem? (i := 700) (by decide +kernel), List.mem_of_getElem? (i := 701) (by decide +kernel)⟩
theorem lw_p23 : lw_okq (⟨"SaidForNothing$Reading", "medianAct", "(IJ)I"⟩, 15) := ⟨⟨by decide +kernel, by decide +kernel⟩, List.mem_of_getElem? (i := 194) (by decide +kernel), List.mem_of_getElem? (i := 715) (by decide +kernel), List.mem_of_getElem? (i := 716) (by decide +kernel)⟩
theorem lw_p24 : lw_okq (⟨"SaidForNothing", "wordsFlaw", "(LSaidForNothing$Talk;I)I"⟩, 11) := ⟨⟨by decide +kernel, by decide +kernel⟩, List.mem_of_getElem? (i := 20) (by decide +kernel), List.mem_of_getElem? (i := 742) (by decide +kernel), List.mem_of_getElem? (i := 743) (by decide +kernel)⟩
theorem lw_p25 : lw_okq (⟨"SaidForNothing", "cutsFlaw", "(LSaidForNothing$Talk;I)I"⟩, 11) := ⟨⟨by decide +kernel, by decide +kernel⟩, List.mem_of_getElem? (i := 20) (by decide +kernel), List.mem_of_getElem? (i := 747) (by decide +kernel), List.mem_of_getElem? (i := 748) (by decide +kernel)⟩
theorem lw_p26 : lw_okq (⟨"SaidForNothing$Reading", "lossAt", "(III)J"⟩, 15) := ⟨⟨by decide +kernel, by decide +kernel⟩, List.mem_of_getElem? (i := 194) (by decide +kernel), List.mem_of_getElem? (i := 843) (by decide +kernel), List.mem_of_getElem? (i := 844) (by decide +kernel)⟩
theorem lw_p27 : lw_okq (⟨"SaidForNothing$Reading", "heardLoss", "(II)J"⟩, 15) := ⟨⟨by decide +kernel, by decide +kernel⟩, List.mem_of_getElem? (i := 194) (by decide +kernel), List.mem_of_getElem? (i := 851) (by decide +kernel), List.mem_of_getElem? (i := 852) (by decide +kernel)⟩
theorem lw_p28 : lw_okq (⟨"SaidForNothing$Reading", "spreadLoss", "(III)J"⟩, 15) := ⟨⟨by decide +kernel, by decide +kernel⟩, List.mem_of_getElem? (i := 194) (by decide +kernel), List.mem_of_getElem? (i := 863) (by decide +kernel), List.mem_of_getElem? (i := 864) (by decide +kernel)⟩
theorem lw_p29 : lw_okq (⟨"SaidForNothing$Search", "stands", "(I)Z"⟩, 5) := ⟨⟨by decide +kernel, by decide +kernel⟩, List.mem_of_getElem? (i := 250) (by decide +kernel), List.mem_of_getElem? (i := 897) (by decide +kernel), List.mem_of_getElem? (i := 898) (by decide +kernel)⟩
theorem lw_p30 : lw_okq (⟨"SaidForNothing$Reading", "countUsed", "()V"⟩, 15) := ⟨⟨by decide +kernel, by decide +kernel⟩, List.mem_of_getElem? (i := 194) (by decide +kernel), List.mem_of_getElem? (i := 946) (by decide +kernel), List.mem_of_getElem? (i := 947) (by decide +kernel)⟩
theorem lw_p31 : lw_okq (⟨"SaidForNothing", "refuseTen", "(I)I"⟩, 11) := ⟨⟨by decide +kernel, by decide +kernel⟩, List.mem_of_getElem? (i := 20) (by decide +kernel), List.mem_of_getElem? (i := 954) (by decide +kernel), List.mem_of_getElem? (i := 955) (by decide +kernel)⟩
def lw_privs_2 : List (MethodName × Nat) := [(⟨"SaidForNothing$Letters", "lossPart", "(LSaidForNothing$Talk;)Z"⟩, 5), (⟨"SaidForNothing$Letters", "readSigned", "()Z"⟩, 5), (⟨"SaidForNothing$Letters", "secondPart", "(LSaidForNothing$Talk;I)Z"⟩, 5), (⟨"SaidForNothing", "refuseFar", "(I)I"⟩, 11), (⟨"SaidForNothing$Reading", "silence", "()V"⟩, 15), (⟨"SaidForNothing$Reading", "gather", "()V"⟩, 15), (⟨"SaidForNothing$Reading", "blend", "(II)J"⟩, 15), (⟨"SaidForNothing$Reading", "medianAct", "(IJ)I"⟩, 15), (⟨"SaidForNothing", "wordsFlaw", "(LSaidForNothing$Talk;I)I"⟩, 11), (⟨"SaidForNothing", "cutsFlaw", "(LSaidForNothing$Talk;I)I"⟩, 11), (⟨"SaidForNothing$Reading", "lossAt", "(III)J"⟩, 15), (⟨"SaidForNothing$Reading", "heardLoss", "(II)J"⟩, 15), (⟨"SaidForNothing$Reading", "spreadLoss", "(III)J"⟩, 15), (⟨"SaidForNothing$Search", "stands", "(I)Z"⟩, 5), (⟨"SaidForNothing$Reading", "countUsed", "()V"⟩, 15), (⟨"SaidForNothing", "refuseTen", "(I)I"⟩, 11)]
theorem lw_r2 : ∀ q ∈ lw_privs_2, lw_okq q := List.forall_mem_cons.mpr ⟨lw_p16, List.forall_mem_cons.mpr ⟨lw_p17, List.forall_mem_cons.mpr ⟨lw_p18, List.forall_mem_cons.mpr ⟨lw_p19, List.forall_mem_cons.mpr ⟨lw_p20, List.forall_mem_cons.mpr ⟨lw_p21, List.forall_mem_cons.mpr ⟨lw_p22, List.forall_mem_cons.mpr ⟨lw_p23, List.forall_mem_cons.mpr ⟨lw_p24, List.forall_mem_cons.mpr ⟨lw_p25, List.forall_mem_cons.mpr ⟨lw_p26, List.forall_mem_cons.mpr ⟨lw_p27, List.forall_mem_cons.mpr ⟨lw_p28, List.forall_mem_cons.mpr ⟨lw_p29, List.forall_mem_cons.mpr ⟨lw_p30, List.forall_mem_cons.mpr ⟨lw_p31, fun _ h => absurd h List.not_mem_nil⟩⟩⟩⟩⟩⟩⟩⟩⟩⟩⟩⟩⟩⟩⟩⟩
theorem lw_p32 : lw_okq (⟨"SaidForNothing$Search", "standsForBoth", "(II)Z"⟩, 5) := ⟨⟨by decide +kernel, by decide +kernel⟩, List.mem_of_getElem? (i := 250) (by decide +kernel), List.mem_of_getElem? (i := 987) (by decide +kernel), List.mem_of_getElem? (i := 988) (by decide +kernel)⟩
theorem lw_p33 : lw_okq (⟨"SaidForNothing$Talk", "end", "(I)I"⟩, 10) := ⟨⟨by decide +kernel, by decide +kernel⟩, List.mem_of_getElem? (i := 39) (by decide +kernel), List.mem_of_getElem? (i := 1027) (by decide +kernel), List.mem_of_getElem? (i := 1028) (by decide +kernel)⟩
theorem lw_p34 : lw_okq (⟨"SaidForNothing$Talk", "canPunish", "(III)Z"⟩, 10) := ⟨⟨by decide +kernel, by decide +kernel⟩, List.mem_of_getElem? (i := 39) (by decide +kernel), List.mem_of_getElem? (i := 1044) (by decide +kernel), List.mem_of_getElem? (i := 1045) (by decide +kernel)⟩
theorem lw_p35 : lw_okq (⟨"SaidForNothing", "holdingBits", "()I"⟩, 11) := ⟨⟨by decide +kernel, by decide +kernel⟩, List.mem_of_getElem? (i := 20) (by decide +kernel), List.mem_of_getElem? (i := 1056) (by decide +kernel), List.mem_of_getElem? (i := 1057) (by decide +kernel)⟩
theorem lw_p36 : lw_okq (⟨"SaidForNothing$Reading", "drawBelow", "(I)I"⟩, 15) := ⟨⟨by decide +kernel, by decide +kernel⟩, List.mem_of_getElem? (i := 194) (by decide +kernel), List.mem_of_getElem? (i := 1073) (by decide +kernel), List.mem_of_getElem? (i := 1074) (by decide +kernel)⟩
theorem lw_p37 : lw_okq (⟨"SaidForNothing$Reading", "drawnTruth", "(I)I"⟩, 15) := ⟨⟨by decide +kernel, by decide +kernel⟩, List.mem_of_getElem? (i := 194) (by decide +kernel), List.mem_of_getElem? (i := 1078) (by decide +kernel), List.mem_of_getElem? (i := 1079) (by decide +kernel)⟩
theorem lw_p38 : lw_okq (⟨"SaidForNothing$Reading", "heardWord", "(I)I"⟩, 15) := ⟨⟨by decide +kernel, by decide +kernel⟩, List.mem_of_getElem? (i := 194) (by decide +kernel), List.mem_of_getElem? (i := 1082) (by decide +kernel), List.mem_of_getElem? (i := 1083) (by decide +kernel)⟩
theorem lw_p39 : lw_okq (⟨"SaidForNothing$Bodies", "note", "(I)V"⟩, 5) := ⟨⟨by decide +kernel, by decide +kernel⟩, List.mem_of_getElem? (i := 277) (by decide +kernel), List.mem_of_getElem? (i := 1104) (by decide +kernel), List.mem_of_getElem? (i := 1105) (by decide +kernel)⟩
theorem lw_p40 : lw_okq (⟨"SaidForNothingModel", "isShelf", "(I)Z"⟩, 57) := ⟨⟨by decide +kernel, by decide +kernel⟩, List.mem_of_getElem? (i := 1150) (by decide +kernel), List.mem_of_getElem? (i := 1332) (by decide +kernel), List.mem_of_getElem? (i := 1333) (by decide +kernel)⟩
theorem lw_p41 : lw_okq (⟨"SaidForNothingModel", "no", "(I)I"⟩, 57) := ⟨⟨by decide +kernel, by decide +kernel⟩, List.mem_of_getElem? (i := 1150) (by decide +kernel), List.mem_of_getElem? (i := 1336) (by decide +kernel), List.mem_of_getElem? (i := 1337) (by decide +kernel)⟩
theorem lw_p42 : lw_okq (⟨"SaidForNothingModel", "isMeaning", "(I)Z"⟩, 57) := ⟨⟨by decide +kernel, by decide +kernel⟩, List.mem_of_getElem? (i := 1150) (by decide +kernel), List.mem_of_getElem? (i := 1356) (by decide +kernel), List.mem_of_getElem? (i := 1357) (by decide +kernel)⟩
theorem lw_p43 : lw_okq (⟨"SaidForNothingModel", "isUnder", "(II)Z"⟩, 57) := ⟨⟨by decide +kernel, by decide +kernel⟩, List.mem_of_getElem? (i := 1150) (by decide +kernel), List.mem_of_getElem? (i := 1368) (by decide +kernel), List.mem_of_getElem? (i := 1369) (by decide +kernel)⟩
theorem lw_p44 : lw_okq (⟨"SaidForNothingModel", "usedBy", "(I)I"⟩, 57) := ⟨⟨by decide +kernel, by decide +kernel⟩, List.mem_of_getElem? (i := 1150) (by decide +kernel), List.mem_of_getElem? (i := 1372) (by decide +kernel), List.mem_of_getElem? (i := 1373) (by decide +kernel)⟩
theorem lw_p45 : lw_okq (⟨"SaidForNothingModel", "usedSet", "(I)I"⟩, 57) := ⟨⟨by decide +kernel, by decide +kernel⟩, List.mem_of_getElem? (i := 1150) (by decide +kernel), List.mem_of_getElem? (i := 1376) (by decide +kernel), List.mem_of_getElem? (i := 1377) (by decide +kernel)⟩
theorem lw_p46 : lw_okq (⟨"SaidForNothingModel", "cutsOf", "(I)I"⟩, 57) := ⟨⟨by decide +kernel, by decide +kernel⟩, List.mem_of_getElem? (i := 1150) (by decide +kernel), List.mem_of_getElem? (i := 1380) (by decide +kernel), List.mem_of_getElem? (i := 1381) (by decide +kernel)⟩
theorem lw_p47 : lw_okq (⟨"SaidForNothingModel", "wants", "(I)I"⟩, 57) := ⟨⟨by decide +kernel, by decide +kernel⟩, List.mem_of_getElem? (i := 1150) (by decide +kernel), List.mem_of_getElem? (i := 1388) (by decide +kernel), List.mem_of_getElem? (i := 1389) (by decide +kernel)⟩
def lw_privs_3 : List (MethodName × Nat) := [(⟨"SaidForNothing$Search", "standsForBoth", "(II)Z"⟩, 5), (⟨"SaidForNothing$Talk", "end", "(I)I"⟩, 10), (⟨"SaidForNothing$Talk", "canPunish", "(III)Z"⟩, 10), (⟨"SaidForNothing", "holdingBits", "()I"⟩, 11), (⟨"SaidForNothing$Reading", "drawBelow", "(I)I"⟩, 15), (⟨"SaidForNothing$Reading", "drawnTruth", "(I)I"⟩, 15), (⟨"SaidForNothing$Reading", "heardWord", "(I)I"⟩, 15), (⟨"SaidForNothing$Bodies", "note", "(I)V"⟩, 5), (⟨"SaidForNothingModel", "isShelf", "(I)Z"⟩, 57), (⟨"SaidForNothingModel", "no", "(I)I"⟩, 57), (⟨"SaidForNothingModel", "isMeaning", "(I)Z"⟩, 57), (⟨"SaidForNothingModel", "isUnder", "(II)Z"⟩, 57), (⟨"SaidForNothingModel", "usedBy", "(I)I"⟩, 57), (⟨"SaidForNothingModel", "usedSet", "(I)I"⟩, 57), (⟨"SaidForNothingModel", "cutsOf", "(I)I"⟩, 57), (⟨"SaidForNothingModel", "wants", "(I)I"⟩, 57)]
theorem lw_r3 : ∀ q ∈ lw_privs_3, lw_okq q := List.forall_mem_cons.mpr ⟨lw_p32, List.forall_mem_cons.mpr ⟨lw_p33, List.forall_mem_cons.mpr ⟨lw_p34, List.forall_mem_cons.mpr ⟨lw_p35, List.forall_mem_cons.mpr ⟨lw_p36, List.forall_mem_cons.mpr ⟨lw_p37, List.forall_mem_cons.mpr ⟨lw_p38, List.forall_mem_cons.mpr ⟨lw_p39, List.forall_mem_cons.mpr ⟨lw_p40, List.forall_mem_cons.mpr ⟨lw_p41, List.forall_mem_cons.mpr ⟨lw_p42, List.forall_mem_cons.mpr ⟨lw_p43, List.forall_mem_cons.mpr ⟨lw_p44, List.forall_mem_cons.mpr ⟨lw_p45, List.forall_mem_cons.mpr ⟨lw_p46, List.forall_mem_cons.mpr ⟨lw_p47, fun _ h => absurd h List.not_mem_nil⟩⟩⟩⟩⟩⟩⟩⟩⟩⟩⟩⟩⟩⟩⟩⟩
theorem lw_p48 : lw_okq (⟨"SaidForNothingModel", "reads", "()Z"⟩, 57) := ⟨⟨by decide +kernel, by decide +kernel⟩, List.mem_of_getElem? (i := 1150) (by decide +kernel), List.mem_of_getElem? (i := 1392) (by decide +kernel), List.mem_of_getElem? (i := 1393) (by decide +kernel)⟩
theorem lw_p49 : lw_okq (⟨"SaidForNothingModel", "takes", "(I)Z"⟩, 57) := ⟨⟨by decide +kernel, by decide +kernel⟩, List.mem_of_getElem? (i := 1150) (by decide +kernel), List.mem_of_getElem? (i := 1396) (by decide +kernel), List.mem_of_getElem? (i := 1397) (by decide +kernel)⟩
theorem lw_p50 : lw_okq (⟨"SaidForNothingModel", "letter", "()I"⟩, 57) := ⟨⟨by decide +kernel, by decide +kernel⟩, List.mem_of_getElem? (i := 1150) (by decide +kernel), List.mem_of_getElem? (i := 1400) (by decide +kernel), List.mem_of_getElem? (i := 1401) (by decide +kernel)⟩
theorem lw_p51 : lw_okq (⟨"SaidForNothingModel", "item", "()Z"⟩, 57) := ⟨⟨by decide +kernel, by decide +kernel⟩, List.mem_of_getElem? (i := 1150) (by decide +kernel), List.mem_of_getElem? (i := 1404) (by decide +kernel), List.mem_of_getElem? (i := 1405) (by decide +kernel)⟩
theorem lw_p52 : lw_okq (⟨"SaidForNothingModel", "number", "()Z"⟩, 57) := ⟨⟨by decide +kernel, by decide +kernel⟩, List.mem_of_getElem? (i := 1150) (by decide +kernel), List.mem_of_getElem? (i := 1408) (by decide +kernel), List.mem_of_getElem? (i := 1409) (by decide +kernel)⟩
theorem lw_p53 : lw_okq (⟨"SaidForNothingModel", "isDigit", "()Z"⟩, 57) := ⟨⟨by decide +kernel, by decide +kernel⟩, List.mem_of_getElem? (i := 1150) (by decide +kernel), List.mem_of_getElem? (i := 1412) (by decide +kernel), List.mem_of_getElem? (i := 1413) (by decide +kernel)⟩
theorem lw_p54 : lw_okq (⟨"SaidForNothingModel", "number", "(II)Z"⟩, 57) := ⟨⟨by decide +kernel, by decide +kernel⟩, List.mem_of_getElem? (i := 1150) (by decide +kernel), List.mem_of_getElem? (i := 1416) (by decide +kernel), List.mem_of_getElem? (i := 1417) (by decide +kernel)⟩
theorem lw_p55 : lw_okq (⟨"SaidForNothingModel", "part", "()Z"⟩, 57) := ⟨⟨by decide +kernel, by decide +kernel⟩, List.mem_of_getElem? (i := 1150) (by decide +kernel), List.mem_of_getElem? (i := 1420) (by decide +kernel), List.mem_of_getElem? (i := 1421) (by decide +kernel)⟩
theorem lw_p56 : lw_okq (⟨"SaidForNothingModel", "twoPart", "()Z"⟩, 57) := ⟨⟨by decide +kernel, by decide +kernel⟩, List.mem_of_getElem? (i := 1150) (by decide +kernel), List.mem_of_getElem? (i := 1424) (by decide +kernel), List.mem_of_getElem? (i := 1425) (by decide +kernel)⟩
theorem lw_p57 : lw_okq (⟨"SaidForNothingModel", "signed", "()Z"⟩, 57) := ⟨⟨by decide +kernel, by decide +kernel⟩, List.mem_of_getElem? (i := 1150) (by decide +kernel), List.mem_of_getElem? (i := 1428) (by decide +kernel), List.mem_of_getElem? (i := 1429) (by decide +kernel)⟩
theorem lw_p58 : lw_okq (⟨"SaidForNothingModel", "wishPart", "()Z"⟩, 57) := ⟨⟨by decide +kernel, by decide +kernel⟩, List.mem_of_getElem? (i := 1150) (by decide +kernel), List.mem_of_getElem? (i := 1432) (by decide +kernel), List.mem_of_getElem? (i := 1433) (by decide +kernel)⟩
theorem lw_p59 : lw_okq (⟨"SaidForNothingModel", "wordsPart", "()Z"⟩, 57) := ⟨⟨by decide +kernel, by decide +kernel⟩, List.mem_of_getElem? (i := 1150) (by decide +kernel), List.mem_of_getElem? (i := 1436) (by decide +kernel), List.mem_of_getElem? (i := 1437) (by decide +kernel)⟩
theorem lw_p60 : lw_okq (⟨"SaidForNothingModel", "leanPart", "()Z"⟩, 57) := ⟨⟨by decide +kernel, by decide +kernel⟩, List.mem_of_getElem? (i := 1150) (by decide +kernel), List.mem_of_getElem? (i := 1440) (by decide +kernel), List.mem_of_getElem? (i := 1441) (by decide +kernel)⟩
theorem lw_p61 : lw_okq (⟨"SaidForNothingModel", "lossPart", "()Z"⟩, 57) := ⟨⟨by decide +kernel, by decide +kernel⟩, List.mem_of_getElem? (i := 1150) (by decide +kernel), List.mem_of_getElem? (i := 1444) (by decide +kernel), List.mem_of_getElem? (i := 1445) (by decide +kernel)⟩
theorem lw_p62 : lw_okq (⟨"SaidForNothingModel", "isTalk", "(I)Z"⟩, 57) := ⟨⟨by decide +kernel, by decide +kernel⟩, List.mem_of_getElem? (i := 1150) (by decide +kernel), List.mem_of_getElem? (i := 1456) (by decide +kernel), List.mem_of_getElem? (i := 1457) (by decide +kernel)⟩
theorem lw_p63 : lw_okq (⟨"SaidForNothingModel", "noLow", "(I)I"⟩, 57) := ⟨⟨by decide +kernel, by decide +kernel⟩, List.mem_of_getElem? (i := 1150) (by decide +kernel), List.mem_of_getElem? (i := 1460) (by decide +kernel), List.mem_of_getElem? (i := 1461) (by decide +kernel)⟩
def lw_privs_4 : List (MethodName × Nat) := [(⟨"SaidForNothingModel", "reads", "()Z"⟩, 57), (⟨"SaidForNothingModel", "takes", "(I)Z"⟩, 57), (⟨"SaidForNothingModel", "letter", "()I"⟩, 57), (⟨"SaidForNothingModel", "item", "()Z"⟩, 57), (⟨"SaidForNothingModel", "number", "()Z"⟩, 57), (⟨"SaidForNothingModel", "isDigit", "()Z"⟩, 57), (⟨"SaidForNothingModel", "number", "(II)Z"⟩, 57), (⟨"SaidForNothingModel", "part", "()Z"⟩, 57), (⟨"SaidForNothingModel", "twoPart", "()Z"⟩, 57), (⟨"SaidForNothingModel", "signed", "()Z"⟩, 57), (⟨"SaidForNothingModel", "wishPart", "()Z"⟩, 57), (⟨"SaidForNothingModel", "wordsPart", "()Z"⟩, 57), (⟨"SaidForNothingModel", "leanPart", "()Z"⟩, 57), (⟨"SaidForNothingModel", "lossPart", "()Z"⟩, 57), (⟨"SaidForNothingModel", "isTalk", "(I)Z"⟩, 57), (⟨"SaidForNothingModel", "noLow", "(I)I"⟩, 57)]
theorem lw_r4 : ∀ q ∈ lw_privs_4, lw_okq q := List.forall_mem_cons.mpr ⟨lw_p48, List.forall_mem_cons.mpr ⟨lw_p49, List.forall_mem_cons.mpr ⟨lw_p50, List.forall_mem_cons.mpr ⟨lw_p51, List.forall_mem_cons.mpr ⟨lw_p52, List.forall_mem_cons.mpr ⟨lw_p53, List.forall_mem_cons.mpr ⟨lw_p54, List.forall_mem_cons.mpr ⟨lw_p55, List.forall_mem_cons.mpr ⟨lw_p56, List.forall_mem_cons.mpr ⟨lw_p57, List.forall_mem_cons.mpr ⟨lw_p58, List.forall_mem_cons.mpr ⟨lw_p59, List.forall_mem_cons.mpr ⟨lw_p60, List.forall_mem_cons.mpr ⟨lw_p61, List.forall_mem_cons.mpr ⟨lw_p62, List.forall_mem_cons.mpr ⟨lw_p63, fun _ h => absurd h List.not_mem_nil⟩⟩⟩⟩⟩⟩⟩⟩⟩⟩⟩⟩⟩⟩⟩⟩
theorem lw_p64 : lw_okq (⟨"SaidForNothingModel", "isTruth", "(II)Z"⟩, 57) := ⟨⟨by decide +kernel, by decide +kernel⟩, List.mem_of_getElem? (i := 1150) (by decide +kernel), List.mem_of_getElem? (i := 1469) (by decide +kernel), List.mem_of_getElem? (i := 1470) (by decide +kernel)⟩
theorem lw_p65 : lw_okq (⟨"SaidForNothingModel", "doneAt", "(III)I"⟩, 57) := ⟨⟨by decide +kernel, by decide +kernel⟩, List.mem_of_getElem? (i := 1150) (by decide +kernel), List.mem_of_getElem? (i := 1477) (by decide +kernel), List.mem_of_getElem? (i := 1478) (by decide +kernel)⟩
theorem lw_p66 : lw_okq (⟨"SaidForNothingModel", "least", "(II)I"⟩, 57) := ⟨⟨by decide +kernel, by decide +kernel⟩, List.mem_of_getElem? (i := 1150) (by decide +kernel), List.mem_of_getElem? (i := 1481) (by decide +kernel), List.mem_of_getElem? (i := 1482) (by decide +kernel)⟩
theorem lw_p67 : lw_okq (⟨"SaidForNothingModel", "isUsed", "(II)Z"⟩, 57) := ⟨⟨by decide +kernel, by decide +kernel⟩, List.mem_of_getElem? (i := 1150) (by decide +kernel), List.mem_of_getElem? (i := 1515) (by decide +kernel), List.mem_of_getElem? (i := 1516) (by decide +kernel)⟩
theorem lw_p68 : lw_okq (⟨"SaidForNothingModel", "actOf", "(II)I"⟩, 57) := ⟨⟨by decide +kernel, by decide +kernel⟩, List.mem_of_getElem? (i := 1150) (by decide +kernel), List.mem_of_getElem? (i := 1523) (by decide +kernel), List.mem_of_getElem? (i := 1524) (by decide +kernel)⟩
theorem lw_p69 : lw_okq (⟨"SaidForNothingModel", "weighs", "(II)V"⟩, 57) := ⟨⟨by decide +kernel, by decide +kernel⟩, List.mem_of_getElem? (i := 1150) (by decide +kernel), List.mem_of_getElem? (i := 1527) (by decide +kernel), List.mem_of_getElem? (i := 1528) (by decide +kernel)⟩
theorem lw_p70 : lw_okq (⟨"SaidForNothingModel", "failsAt", "(I)I"⟩, 57) := ⟨⟨by decide +kernel, by decide +kernel⟩, List.mem_of_getElem? (i := 1150) (by decide +kernel), List.mem_of_getElem? (i := 1535) (by decide +kernel), List.mem_of_getElem? (i := 1536) (by decide +kernel)⟩
theorem lw_p71 : lw_okq (⟨"SaidForNothingModel", "acts", "(I)V"⟩, 57) := ⟨⟨by decide +kernel, by decide +kernel⟩, List.mem_of_getElem? (i := 1150) (by decide +kernel), List.mem_of_getElem? (i := 1539) (by decide +kernel), List.mem_of_getElem? (i := 1540) (by decide +kernel)⟩
theorem lw_p72 : lw_okq (⟨"SaidForNothingModel", "losesBy", "(IIII)J"⟩, 57) := ⟨⟨by decide +kernel, by decide +kernel⟩, List.mem_of_getElem? (i := 1150) (by decide +kernel), List.mem_of_getElem? (i := 1543) (by decide +kernel), List.mem_of_getElem? (i := 1544) (by decide +kernel)⟩
theorem lw_p73 : lw_okq (⟨"SaidForNothingModel", "loses", "(IJ)J"⟩, 57) := ⟨⟨by decide +kernel, by decide +kernel⟩, List.mem_of_getElem? (i := 1150) (by decide +kernel), List.mem_of_getElem? (i := 1547) (by decide +kernel), List.mem_of_getElem? (i := 1548) (by decide +kernel)⟩
theorem lw_p74 : lw_okq (⟨"SaidForNothingModel", "isWorse", "(II)Z"⟩, 57) := ⟨⟨by decide +kernel, by decide +kernel⟩, List.mem_of_getElem? (i := 1150) (by decide +kernel), List.mem_of_getElem? (i := 1551) (by decide +kernel), List.mem_of_getElem? (i := 1552) (by decide +kernel)⟩
theorem lw_p75 : lw_okq (⟨"SaidForNothingModel", "worthOf", "(II)J"⟩, 57) := ⟨⟨by decide +kernel, by decide +kernel⟩, List.mem_of_getElem? (i := 1150) (by decide +kernel), List.mem_of_getElem? (i := 1563) (by decide +kernel), List.mem_of_getElem? (i := 1564) (by decide +kernel)⟩
theorem lw_p76 : lw_okq (⟨"SaidForNothingModel", "parts", "(II)V"⟩, 57) := ⟨⟨by decide +kernel, by decide +kernel⟩, List.mem_of_getElem? (i := 1150) (by decide +kernel), List.mem_of_getElem? (i := 1571) (by decide +kernel), List.mem_of_getElem? (i := 1572) (by decide +kernel)⟩
theorem lw_p77 : lw_okq (⟨"SaidForNothingModel", "hears", "(I)V"⟩, 57) := ⟨⟨by decide +kernel, by decide +kernel⟩, List.mem_of_getElem? (i := 1150) (by decide +kernel), List.mem_of_getElem? (i := 1575) (by decide +kernel), List.mem_of_getElem? (i := 1576) (by decide +kernel)⟩
theorem lw_p78 : lw_okq (⟨"SaidForNothingModel", "runWorth", "(II)J"⟩, 57) := ⟨⟨by decide +kernel, by decide +kernel⟩, List.mem_of_getElem? (i := 1150) (by decide +kernel), List.mem_of_getElem? (i := 1579) (by decide +kernel), List.mem_of_getElem? (i := 1580) (by decide +kernel)⟩
theorem lw_p79 : lw_okq (⟨"SaidForNothingModel", "cutsN", "(I)I"⟩, 57) := ⟨⟨by decide +kernel, by decide +kernel⟩, List.mem_of_getElem? (i := 1150) (by decide +kernel), List.mem_of_getElem? (i := 1583) (by decide +kernel), List.mem_of_getElem? (i := 1584) (by decide +kernel)⟩
def lw_privs_5 : List (MethodName × Nat) := [(⟨"SaidForNothingModel", "isTruth", "(II)Z"⟩, 57), (⟨"SaidForNothingModel", "doneAt", "(III)I"⟩, 57), (⟨"SaidForNothingModel", "least", "(II)I"⟩, 57), (⟨"SaidForNothingModel", "isUsed", "(II)Z"⟩, 57), (⟨"SaidForNothingModel", "actOf", "(II)I"⟩, 57), (⟨"SaidForNothingModel", "weighs", "(II)V"⟩, 57), (⟨"SaidForNothingModel", "failsAt", "(I)I"⟩, 57), (⟨"SaidForNothingModel", "acts", "(I)V"⟩, 57), (⟨"SaidForNothingModel", "losesBy", "(IIII)J"⟩, 57), (⟨"SaidForNothingModel", "loses", "(IJ)J"⟩, 57), (⟨"SaidForNothingModel", "isWorse", "(II)Z"⟩, 57), (⟨"SaidForNothingModel", "worthOf", "(II)J"⟩, 57), (⟨"SaidForNothingModel", "parts", "(II)V"⟩, 57), (⟨"SaidForNothingModel", "hears", "(I)V"⟩, 57), (⟨"SaidForNothingModel", "runWorth", "(II)J"⟩, 57), (⟨"SaidForNothingModel", "cutsN", "(I)I"⟩, 57)]
theorem lw_r5 : ∀ q ∈ lw_privs_5, lw_okq q := List.forall_mem_cons.mpr ⟨lw_p64, List.forall_mem_cons.mpr ⟨lw_p65, List.forall_mem_cons.mpr ⟨lw_p66, List.forall_mem_cons.mpr ⟨lw_p67, List.forall_mem_cons.mpr ⟨lw_p68, List.forall_mem_cons.mpr ⟨lw_p69, List.forall_mem_cons.mpr ⟨lw_p70, List.forall_mem_cons.mpr ⟨lw_p71, List.forall_mem_cons.mpr ⟨lw_p72, List.forall_mem_cons.mpr ⟨lw_p73, List.forall_mem_cons.mpr ⟨lw_p74, List.forall_mem_cons.mpr ⟨lw_p75, List.forall_mem_cons.mpr ⟨lw_p76, List.forall_mem_cons.mpr ⟨lw_p77, List.forall_mem_cons.mpr ⟨lw_p78, List.forall_mem_cons.mpr ⟨lw_p79, fun _ h => absurd h List.not_mem_nil⟩⟩⟩⟩⟩⟩⟩⟩⟩⟩⟩⟩⟩⟩⟩⟩
theorem lw_p80 : lw_okq (⟨"SaidForNothingModel", "isRun", "(II)Z"⟩, 57) := ⟨⟨by decide +kernel, by decide +kernel⟩, List.mem_of_getElem? (i := 1150) (by decide +kernel), List.mem_of_getElem? (i := 1591) (by decide +kernel), List.mem_of_getElem? (i := 1592) (by decide +kernel)⟩
theorem lw_p81 : lw_okq (⟨"SaidForNothingModel", "holds", "(IIII)Z"⟩, 57) := ⟨⟨by decide +kernel, by decide +kernel⟩, List.mem_of_getElem? (i := 1150) (by decide +kernel), List.mem_of_getElem? (i := 1595) (by decide +kernel), List.mem_of_getElem? (i := 1596) (by decide +kernel)⟩
theorem lw_p82 : lw_okq (⟨"SaidForNothingModel", "stands", "(III)Z"⟩, 57) := ⟨⟨by decide +kernel, by decide +kernel⟩, List.mem_of_getElem? (i := 1150) (by decide +kernel), List.mem_of_getElem? (i := 1599) (by decide +kernel), List.mem_of_getElem? (i := 1600) (by decide +kernel)⟩
theorem lw_p83 : lw_okq (⟨"SaidForNothingModel", "says", "(IIIII)J"⟩, 57) := ⟨⟨by decide +kernel, by decide +kernel⟩, List.mem_of_getElem? (i := 1150) (by decide +kernel), List.mem_of_getElem? (i := 1603) (by decide +kernel), List.mem_of_getElem? (i := 1604) (by decide +kernel)⟩
theorem lw_p84 : lw_okq (⟨"SaidForNothingModel", "finestCuts", "(II)I"⟩, 57) := ⟨⟨by decide +kernel, by decide +kernel⟩, List.mem_of_getElem? (i := 1150) (by decide +kernel), List.mem_of_getElem? (i := 1611) (by decide +kernel), List.mem_of_getElem? (i := 1612) (by decide +kernel)⟩
theorem lw_p85 : lw_okq (⟨"SaidForNothingModel", "bestCuts", "(II)I"⟩, 57) := ⟨⟨by decide +kernel, by decide +kernel⟩, List.mem_of_getElem? (i := 1150) (by decide +kernel), List.mem_of_getElem? (i := 1623) (by decide +kernel), List.mem_of_getElem? (i := 1624) (by decide +kernel)⟩
theorem lw_p86 : lw_okq (⟨"SaidForNothingModel", "noTen", "(I)I"⟩, 57) := ⟨⟨by decide +kernel, by decide +kernel⟩, List.mem_of_getElem? (i := 1150) (by decide +kernel), List.mem_of_getElem? (i := 1635) (by decide +kernel), List.mem_of_getElem? (i := 1636) (by decide +kernel)⟩
theorem lw_p87 : lw_okq (⟨"SaidForNothingModel", "blurs", "(II)V"⟩, 57) := ⟨⟨by decide +kernel, by decide +kernel⟩, List.mem_of_getElem? (i := 1150) (by decide +kernel), List.mem_of_getElem? (i := 1651) (by decide +kernel), List.mem_of_getElem? (i := 1652) (by decide +kernel)⟩
theorem lw_p88 : lw_okq (⟨"SaidForNothingModel", "blurStands", "(II)Z"⟩, 57) := ⟨⟨by decide +kernel, by decide +kernel⟩, List.mem_of_getElem? (i := 1150) (by decide +kernel), List.mem_of_getElem? (i := 1656) (by decide +kernel), List.mem_of_getElem? (i := 1657) (by decide +kernel)⟩
theorem lw_p89 : lw_okq (⟨"SaidForNothingModel", "arounds", "(II)V"⟩, 57) := ⟨⟨by decide +kernel, by decide +kernel⟩, List.mem_of_getElem? (i := 1150) (by decide +kernel), List.mem_of_getElem? (i := 1660) (by decide +kernel), List.mem_of_getElem? (i := 1661) (by decide +kernel)⟩
theorem lw_p90 : lw_okq (⟨"SaidForNothingModel", "blurred", "(IIIII)J"⟩, 57) := ⟨⟨by decide +kernel, by decide +kernel⟩, List.mem_of_getElem? (i := 1150) (by decide +kernel), List.mem_of_getElem? (i := 1664) (by decide +kernel), List.mem_of_getElem? (i := 1665) (by decide +kernel)⟩
theorem lw_p91 : lw_okq (⟨"SaidForNothingModel", "blurWorth", "(II)J"⟩, 57) := ⟨⟨by decide +kernel, by decide +kernel⟩, List.mem_of_getElem? (i := 1150) (by decide +kernel), List.mem_of_getElem? (i := 1668) (by decide +kernel), List.mem_of_getElem? (i := 1669) (by decide +kernel)⟩
theorem lw_p92 : lw_okq (⟨"SaidForNothingModel", "endsLoss", "(III)J"⟩, 57) := ⟨⟨by decide +kernel, by decide +kernel⟩, List.mem_of_getElem? (i := 1150) (by decide +kernel), List.mem_of_getElem? (i := 1676) (by decide +kernel), List.mem_of_getElem? (i := 1677) (by decide +kernel)⟩
theorem lw_p93 : lw_okq (⟨"SaidForNothingModel", "bestTwo", "(I)I"⟩, 57) := ⟨⟨by decide +kernel, by decide +kernel⟩, List.mem_of_getElem? (i := 1150) (by decide +kernel), List.mem_of_getElem? (i := 1684) (by decide +kernel), List.mem_of_getElem? (i := 1685) (by decide +kernel)⟩
theorem lw_p94 : lw_okq (⟨"SaidForNothingModel", "liked", "(II)I"⟩, 57) := ⟨⟨by decide +kernel, by decide +kernel⟩, List.mem_of_getElem? (i := 1150) (by decide +kernel), List.mem_of_getElem? (i := 1688) (by decide +kernel), List.mem_of_getElem? (i := 1689) (by decide +kernel)⟩
theorem lw_p95 : lw_okq (⟨"SaidForNothingModel", "within", "(I)I"⟩, 57) := ⟨⟨by decide +kernel, by decide +kernel⟩, List.mem_of_getElem? (i := 1150) (by decide +kernel), List.mem_of_getElem? (i := 1692) (by decide +kernel), List.mem_of_getElem? (i := 1693) (by decide +kernel)⟩
def lw_privs_6 : List (MethodName × Nat) := [(⟨"SaidForNothingModel", "isRun", "(II)Z"⟩, 57), (⟨"SaidForNothingModel", "holds", "(IIII)Z"⟩, 57), (⟨"SaidForNothingModel", "stands", "(III)Z"⟩, 57), (⟨"SaidForNothingModel", "says", "(IIIII)J"⟩, 57), (⟨"SaidForNothingModel", "finestCuts", "(II)I"⟩, 57), (⟨"SaidForNothingModel", "bestCuts", "(II)I"⟩, 57), (⟨"SaidForNothingModel", "noTen", "(I)I"⟩, 57), (⟨"SaidForNothingModel", "blurs", "(II)V"⟩, 57), (⟨"SaidForNothingModel", "blurStands", "(II)Z"⟩, 57), (⟨"SaidForNothingModel", "arounds", "(II)V"⟩, 57), (⟨"SaidForNothingModel", "blurred", "(IIIII)J"⟩, 57), (⟨"SaidForNothingModel", "blurWorth", "(II)J"⟩, 57), (⟨"SaidForNothingModel", "endsLoss", "(III)J"⟩, 57), (⟨"SaidForNothingModel", "bestTwo", "(I)I"⟩, 57), (⟨"SaidForNothingModel", "liked", "(II)I"⟩, 57), (⟨"SaidForNothingModel", "within", "(I)I"⟩, 57)]
theorem lw_r6 : ∀ q ∈ lw_privs_6, lw_okq q := List.forall_mem_cons.mpr ⟨lw_p80, List.forall_mem_cons.mpr ⟨lw_p81, List.forall_mem_cons.mpr ⟨lw_p82, List.forall_mem_cons.mpr ⟨lw_p83, List.forall_mem_cons.mpr ⟨lw_p84, List.forall_mem_cons.mpr ⟨lw_p85, List.forall_mem_cons.mpr ⟨lw_p86, List.forall_mem_cons.mpr ⟨lw_p87, List.forall_mem_cons.mpr ⟨lw_p88, List.forall_mem_cons.mpr ⟨lw_p89, List.forall_mem_cons.mpr ⟨lw_p90, List.forall_mem_cons.mpr ⟨lw_p91, List.forall_mem_cons.mpr ⟨lw_p92, List.forall_mem_cons.mpr ⟨lw_p93, List.forall_mem_cons.mpr ⟨lw_p94, List.forall_mem_cons.mpr ⟨lw_p95, fun _ h => absurd h List.not_mem_nil⟩⟩⟩⟩⟩⟩⟩⟩⟩⟩⟩⟩⟩⟩⟩⟩
theorem lw_p96 : lw_okq (⟨"SaidForNothingModel", "agrees", "(IIII)Z"⟩, 57) := ⟨⟨by decide +kernel, by decide +kernel⟩, List.mem_of_getElem? (i := 1150) (by decide +kernel), List.mem_of_getElem? (i := 1704) (by decide +kernel), List.mem_of_getElem? (i := 1705) (by decide +kernel)⟩
theorem lw_p97 : lw_okq (⟨"SaidForNothingModel", "drawn", "(I)I"⟩, 57) := ⟨⟨by decide +kernel, by decide +kernel⟩, List.mem_of_getElem? (i := 1150) (by decide +kernel), List.mem_of_getElem? (i := 1717) (by decide +kernel), List.mem_of_getElem? (i := 1718) (by decide +kernel)⟩
theorem lw_p98 : lw_okq (⟨"SaidForNothingModel", "thinks", "(II)I"⟩, 57) := ⟨⟨by decide +kernel, by decide +kernel⟩, List.mem_of_getElem? (i := 1150) (by decide +kernel), List.mem_of_getElem? (i := 1727) (by decide +kernel), List.mem_of_getElem? (i := 1728) (by decide +kernel)⟩
theorem lw_p99 : lw_okq (⟨"SaidForNothingModel", "body", "(I)V"⟩, 57) := ⟨⟨by decide +kernel, by decide +kernel⟩, List.mem_of_getElem? (i := 1150) (by decide +kernel), List.mem_of_getElem? (i := 1731) (by decide +kernel), List.mem_of_getElem? (i := 1732) (by decide +kernel)⟩
theorem lw_p100 : lw_okq (⟨"SaidForNothingModel", "spoken", "(II)I"⟩, 57) := ⟨⟨by decide +kernel, by decide +kernel⟩, List.mem_of_getElem? (i := 1150) (by decide +kernel), List.mem_of_getElem? (i := 1735) (by decide +kernel), List.mem_of_getElem? (i := 1736) (by decide +kernel)⟩
theorem lw_p101 : lw_okq (⟨"SaidForNothingModel", "doing", "(II)I"⟩, 57) := ⟨⟨by decide +kernel, by decide +kernel⟩, List.mem_of_getElem? (i := 1150) (by decide +kernel), List.mem_of_getElem? (i := 1739) (by decide +kernel), List.mem_of_getElem? (i := 1740) (by decide +kernel)⟩
theorem lw_p102 : lw_okq (⟨"SaidForNothingModel", "all", "(Z)V"⟩, 57) := ⟨⟨by decide +kernel, by decide +kernel⟩, List.mem_of_getElem? (i := 1150) (by decide +kernel), List.mem_of_getElem? (i := 1751) (by decide +kernel), List.mem_of_getElem? (i := 1752) (by decide +kernel)⟩
theorem lw_p103 : lw_okq (⟨"SaidForNothingModel", "keeps", "([IIIZ)I"⟩, 57) := ⟨⟨by decide +kernel, by decide +kernel⟩, List.mem_of_getElem? (i := 1150) (by decide +kernel), List.mem_of_getElem? (i := 1755) (by decide +kernel), List.mem_of_getElem? (i := 1756) (by decide +kernel)⟩
def lw_privs_7 : List (MethodName × Nat) := [(⟨"SaidForNothingModel", "agrees", "(IIII)Z"⟩, 57), (⟨"SaidForNothingModel", "drawn", "(I)I"⟩, 57), (⟨"SaidForNothingModel", "thinks", "(II)I"⟩, 57), (⟨"SaidForNothingModel", "body", "(I)V"⟩, 57), (⟨"SaidForNothingModel", "spoken", "(II)I"⟩, 57), (⟨"SaidForNothingModel", "doing", "(II)I"⟩, 57), (⟨"SaidForNothingModel", "all", "(Z)V"⟩, 57), (⟨"SaidForNothingModel", "keeps", "([IIIZ)I"⟩, 57)]
theorem lw_r7 : ∀ q ∈ lw_privs_7, lw_okq q := List.forall_mem_cons.mpr ⟨lw_p96, List.forall_mem_cons.mpr ⟨lw_p97, List.forall_mem_cons.mpr ⟨lw_p98, List.forall_mem_cons.mpr ⟨lw_p99, List.forall_mem_cons.mpr ⟨lw_p100, List.forall_mem_cons.mpr ⟨lw_p101, List.forall_mem_cons.mpr ⟨lw_p102, List.forall_mem_cons.mpr ⟨lw_p103, fun _ h => absurd h List.not_mem_nil⟩⟩⟩⟩⟩⟩⟩⟩
def lw_privs : List (MethodName × Nat) := lw_privs_1 ++ (lw_privs_2 ++ (lw_privs_3 ++ (lw_privs_4 ++ (lw_privs_5 ++ (lw_privs_6 ++ (lw_privs_7))))))
def lw_tbl : List Cond := k2_sels lw_privs ++ tables_1
theorem lw_privs_ok : ∀ q ∈ lw_privs, lw_okq q := by
  show ∀ q ∈ lw_privs_1 ++ (lw_privs_2 ++ (lw_privs_3 ++ (lw_privs_4 ++ (lw_privs_5 ++ (lw_privs_6 ++ (lw_privs_7)))))), lw_okq q
  exact List.forall_mem_append.mpr ⟨lw_r1, List.forall_mem_append.mpr ⟨lw_r2, List.forall_mem_append.mpr ⟨lw_r3, List.forall_mem_append.mpr ⟨lw_r4, List.forall_mem_append.mpr ⟨lw_r5, List.forall_mem_append.mpr ⟨lw_r6, lw_r7⟩⟩⟩⟩⟩⟩
-- ===== end of PART A; then your names; then what follows =====
end
section
def RX0 : String := "SaidForNothing$Bodies"
def TX0 : u_T := fun k => match k with
  | 0 => ("SaidForNothing$Bodies", "numbers", "LSaidForNothing$Ints;", true)
  | 1 => ("SaidForNothing$Bodies", "kind", "I", false)
  | 2 => ("SaidForNothing$Bodies", "meaning", "I", false)
  | 3 => ("SaidForNothing$Bodies", "talk", "I", false)
  | _ => ("SaidForNothing$Bodies", "ran", "I", false)
def tyX0 : Nat → FieldType := fun k => match k with
  | 0 => .object "SaidForNothing$Ints"
  | 1 => .int
  | 2 => .int
  | 3 => .int
  | _ => .int
theorem nmX0 : ∀ a, a < 5 → ∀ b, b < 5 → a ≠ b → (TX0 a).2.1 ≠ (TX0 b).2.1 := by decide +kernel
theorem tyX0_ok : ∀ k, k < 5 → parseFieldDescriptor (TX0 k).2.2.1 = some (tyX0 k) := by decide +kernel
abbrev cX0_init : ByteArray := prog_2_method_1_code
def yX0_init : MethodName := ⟨RX0, "<init>", "()V"⟩
abbrev cX0_forget : ByteArray := prog_2_method_2_code
def yX0_forget : MethodName := ⟨RX0, "forget", "()V"⟩
abbrev cX0_begin : ByteArray := prog_2_method_3_code
def yX0_begin : MethodName := ⟨RX0, "begin", "(III)V"⟩
abbrev cX0_note : ByteArray := prog_2_method_4_code
def yX0_note : MethodName := ⟨RX0, "note", "(I)V"⟩
abbrev cX0_kept : ByteArray := prog_2_method_5_code
def yX0_kept : MethodName := ⟨RX0, "kept", "(I)I"⟩
abbrev cX0_thinking : ByteArray := prog_2_method_6_code
def yX0_thinking : MethodName := ⟨RX0, "thinking", "(I)I"⟩
abbrev cX0_saying : ByteArray := prog_2_method_7_code
def yX0_saying : MethodName := ⟨RX0, "saying", "(I)I"⟩
abbrev cX0_doing : ByteArray := prog_2_method_8_code
def yX0_doing : MethodName := ⟨RX0, "doing", "(I)I"⟩
def RX1 : String := "SaidForNothing$Ints"
def TX1 : u_T := fun k => match k with
  | _ => ("SaidForNothing$Ints", "cells", "[I", true)
def tyX1 : Nat → FieldType := fun k => match k with
  | _ => .array .int
theorem nmX1 : ∀ a, a < 1 → ∀ b, b < 1 → a ≠ b → (TX1 a).2.1 ≠ (TX1 b).2.1 := by decide +kernel
theorem tyX1_ok : ∀ k, k < 1 → parseFieldDescriptor (TX1 k).2.2.1 = some (tyX1 k) := by decide +kernel
abbrev cX1_init : ByteArray := prog_3_method_1_code
def yX1_init : MethodName := ⟨RX1, "<init>", "(I)V"⟩
abbrev cX1_get : ByteArray := prog_3_method_2_code
def yX1_get : MethodName := ⟨RX1, "get", "(I)I"⟩
abbrev cX1_put : ByteArray := prog_3_method_3_code
def yX1_put : MethodName := ⟨RX1, "put", "(II)V"⟩
abbrev cX1_clear : ByteArray := prog_3_method_4_code
def yX1_clear : MethodName := ⟨RX1, "clear", "()V"⟩
abbrev cX1_copyFrom : ByteArray := prog_3_method_5_code
def yX1_copyFrom : MethodName := ⟨RX1, "copyFrom", "(LSaidForNothing$Ints;)V"⟩
def RX2 : String := "SaidForNothing$Letters"
def TX2 : u_T := fun k => match k with
  | 0 => ("SaidForNothing$Letters", "signs", "LSaidForNothing$Ints;", true)
  | 1 => ("SaidForNothing$Letters", "size", "I", false)
  | 2 => ("SaidForNothing$Letters", "place", "I", false)
  | 3 => ("SaidForNothing$Letters", "fault", "I", false)
  | _ => ("SaidForNothing$Letters", "number", "I", false)
def tyX2 : Nat → FieldType := fun k => match k with
  | 0 => .object "SaidForNothing$Ints"
  | 1 => .int
  | 2 => .int
  | 3 => .int
  | _ => .int
theorem nmX2 : ∀ a, a < 5 → ∀ b, b < 5 → a ≠ b → (TX2 a).2.1 ≠ (TX2 b).2.1 := by decide +kernel
theorem tyX2_ok : ∀ k, k < 5 → parseFieldDescriptor (TX2 k).2.2.1 = some (tyX2 k) := by decide +kernel
abbrev cX2_init : ByteArray := prog_4_method_1_code
def yX2_init : MethodName := ⟨RX2, "<init>", "()V"⟩
abbrev cX2_read : ByteArray := prog_4_method_2_code
def yX2_read : MethodName := ⟨RX2, "read", "(LSaidForNothing$Shelf;LSaidForNothing$Talk;)I"⟩
abbrev cX2_begin : ByteArray := prog_4_method_3_code
def yX2_begin : MethodName := ⟨RX2, "begin", "(LSaidForNothing$Shelf;)V"⟩
abbrev cX2_at : ByteArray := prog_4_method_4_code
def yX2_at : MethodName := ⟨RX2, "at", "(C)Z"⟩
abbrev cX2_fail : ByteArray := prog_4_method_5_code
def yX2_fail : MethodName := ⟨RX2, "fail", "(I)Z"⟩
abbrev cX2_expect : ByteArray := prog_4_method_6_code
def yX2_expect : MethodName := ⟨RX2, "expect", "(C)Z"⟩
abbrev cX2_expectAll : ByteArray := prog_4_method_7_code
def yX2_expectAll : MethodName := ⟨RX2, "expectAll", "(Ljava/lang/String;)Z"⟩
abbrev cX2_items : ByteArray := prog_4_method_8_code
def yX2_items : MethodName := ⟨RX2, "items", "(LSaidForNothing$Talk;)Z"⟩
abbrev cX2_item : ByteArray := prog_4_method_9_code
def yX2_item : MethodName := ⟨RX2, "item", "(LSaidForNothing$Talk;)Z"⟩
abbrev cX2_partName : ByteArray := prog_4_method_10_code
def yX2_partName : MethodName := ⟨RX2, "partName", "()Ljava/lang/String;"⟩
abbrev cX2_part : ByteArray := prog_4_method_11_code
def yX2_part : MethodName := ⟨RX2, "part", "(LSaidForNothing$Talk;)Z"⟩
abbrev cX2_wordsPart : ByteArray := prog_4_method_12_code
def yX2_wordsPart : MethodName := ⟨RX2, "wordsPart", "(LSaidForNothing$Talk;)Z"⟩
abbrev cX2_lossPart : ByteArray := prog_4_method_13_code
def yX2_lossPart : MethodName := ⟨RX2, "lossPart", "(LSaidForNothing$Talk;)Z"⟩
abbrev cX2_secondPart : ByteArray := prog_4_method_14_code
def yX2_secondPart : MethodName := ⟨RX2, "secondPart", "(LSaidForNothing$Talk;I)Z"⟩
abbrev cX2_readSigned : ByteArray := prog_4_method_15_code
def yX2_readSigned : MethodName := ⟨RX2, "readSigned", "()Z"⟩
abbrev cX2_readNumber : ByteArray := prog_4_method_16_code
def yX2_readNumber : MethodName := ⟨RX2, "readNumber", "(II)Z"⟩
def RX3 : String := "SaidForNothing$Meaning"
def TX3 : u_T := fun k => match k with
  | 0 => ("SaidForNothing$Meaning", "words", "LSaidForNothing$Ints;", true)
  | 1 => ("SaidForNothing$Meaning", "told", "LSaidForNothing$Ints;", true)
  | 2 => ("SaidForNothing$Meaning", "kind", "I", false)
  | 3 => ("SaidForNothing$Meaning", "talk", "I", false)
  | _ => ("SaidForNothing$Meaning", "clear", "I", false)
def tyX3 : Nat → FieldType := fun k => match k with
  | 0 => .object "SaidForNothing$Ints"
  | 1 => .object "SaidForNothing$Ints"
  | 2 => .int
  | 3 => .int
  | _ => .int
theorem nmX3 : ∀ a, a < 5 → ∀ b, b < 5 → a ≠ b → (TX3 a).2.1 ≠ (TX3 b).2.1 := by decide +kernel
theorem tyX3_ok : ∀ k, k < 5 → parseFieldDescriptor (TX3 k).2.2.1 = some (tyX3 k) := by decide +kernel
abbrev cX3_init : ByteArray := prog_5_method_1_code
def yX3_init : MethodName := ⟨RX3, "<init>", "()V"⟩
abbrev cX3_begin : ByteArray := prog_5_method_2_code
def yX3_begin : MethodName := ⟨RX3, "begin", "(III)V"⟩
abbrev cX3_wordsFrom : ByteArray := prog_5_method_3_code
def yX3_wordsFrom : MethodName := ⟨RX3, "wordsFrom", "(LSaidForNothing$Shelf;I)V"⟩
abbrev cX3_wordsBy : ByteArray := prog_5_method_4_code
def yX3_wordsBy : MethodName := ⟨RX3, "wordsBy", "(II)V"⟩
abbrev cX3_copyFrom : ByteArray := prog_5_method_5_code
def yX3_copyFrom : MethodName := ⟨RX3, "copyFrom", "(LSaidForNothing$Meaning;)V"⟩
def RX4 : String := "SaidForNothing$Reading"
def TX4 : u_T := fun k => match k with
  | 0 => ("SaidForNothing$Reading", "words", "LSaidForNothing$Ints;", true)
  | 1 => ("SaidForNothing$Reading", "acts", "LSaidForNothing$Ints;", true)
  | 2 => ("SaidForNothing$Reading", "chances", "LSaidForNothing$Ints;", true)
  | 3 => ("SaidForNothing$Reading", "liked", "LSaidForNothing$Ints;", true)
  | 4 => ("SaidForNothing$Reading", "allChances", "I", false)
  | 5 => ("SaidForNothing$Reading", "allLiked", "I", false)
  | 6 => ("SaidForNothing$Reading", "talk", "LSaidForNothing$Talk;", false)
  | 7 => ("SaidForNothing$Reading", "lean", "I", false)
  | 8 => ("SaidForNothing$Reading", "wish", "I", false)
  | 9 => ("SaidForNothing$Reading", "used", "I", false)
  | 10 => ("SaidForNothing$Reading", "usedCount", "I", false)
  | 11 => ("SaidForNothing$Reading", "blurred", "Z", false)
  | 12 => ("SaidForNothing$Reading", "told", "Z", false)
  | 13 => ("SaidForNothing$Reading", "clear", "I", false)
  | _ => ("SaidForNothing$Reading", "drawn", "I", false)
def tyX4 : Nat → FieldType := fun k => match k with
  | 0 => .object "SaidForNothing$Ints"
  | 1 => .object "SaidForNothing$Ints"
  | 2 => .object "SaidForNothing$Ints"
  | 3 => .object "SaidForNothing$Ints"
  | 4 => .int
  | 5 => .int
  | 6 => .object "SaidForNothing$Talk"
  | 7 => .int
  | 8 => .int
  | 9 => .int
  | 10 => .int
  | 11 => .boolean
  | 12 => .boolean
  | 13 => .int
  | _ => .int
theorem nmX4 : ∀ a, a < 15 → ∀ b, b < 15 → a ≠ b → (TX4 a).2.1 ≠ (TX4 b).2.1 := by decide +kernel
theorem tyX4_ok : ∀ k, k < 15 → parseFieldDescriptor (TX4 k).2.2.1 = some (tyX4 k) := by decide +kernel
abbrev cX4_init : ByteArray := prog_6_method_1_code
def yX4_init : MethodName := ⟨RX4, "<init>", "()V"⟩
abbrev cX4_take : ByteArray := prog_6_method_2_code
def yX4_take : MethodName := ⟨RX4, "take", "(LSaidForNothing$Talk;II)V"⟩
abbrev cX4_blur : ByteArray := prog_6_method_3_code
def yX4_blur : MethodName := ⟨RX4, "blur", "(I)V"⟩
abbrev cX4_silence : ByteArray := prog_6_method_4_code
def yX4_silence : MethodName := ⟨RX4, "silence", "()V"⟩
abbrev cX4_put : ByteArray := prog_6_method_5_code
def yX4_put : MethodName := ⟨RX4, "put", "(II)V"⟩
abbrev cX4_putParts : ByteArray := prog_6_method_6_code
def yX4_putParts : MethodName := ⟨RX4, "putParts", "(I)V"⟩
abbrev cX4_open : ByteArray := prog_6_method_7_code
def yX4_open : MethodName := ⟨RX4, "open", "(LSaidForNothing$Store;I)Z"⟩
abbrev cX4_settle : ByteArray := prog_6_method_8_code
def yX4_settle : MethodName := ⟨RX4, "settle", "()V"⟩
abbrev cX4_gather : ByteArray := prog_6_method_9_code
def yX4_gather : MethodName := ⟨RX4, "gather", "()V"⟩
abbrev cX4_isUsed : ByteArray := prog_6_method_10_code
def yX4_isUsed : MethodName := ⟨RX4, "isUsed", "(I)Z"⟩
abbrev cX4_hasTruth : ByteArray := prog_6_method_11_code
def yX4_hasTruth : MethodName := ⟨RX4, "hasTruth", "(I)Z"⟩
abbrev cX4_wordOf : ByteArray := prog_6_method_12_code
def yX4_wordOf : MethodName := ⟨RX4, "wordOf", "(I)I"⟩
abbrev cX4_actAt : ByteArray := prog_6_method_13_code
def yX4_actAt : MethodName := ⟨RX4, "actAt", "(I)I"⟩
abbrev cX4_truthsAt : ByteArray := prog_6_method_14_code
def yX4_truthsAt : MethodName := ⟨RX4, "truthsAt", "(I)I"⟩
abbrev cX4_blend : ByteArray := prog_6_method_15_code
def yX4_blend : MethodName := ⟨RX4, "blend", "(II)J"⟩
abbrev cX4_bestAct : ByteArray := prog_6_method_16_code
def yX4_bestAct : MethodName := ⟨RX4, "bestAct", "(I)I"⟩
abbrev cX4_meanAct : ByteArray := prog_6_method_17_code
def yX4_meanAct : MethodName := ⟨RX4, "meanAct", "(JJ)I"⟩
abbrev cX4_medianAct : ByteArray := prog_6_method_18_code
def yX4_medianAct : MethodName := ⟨RX4, "medianAct", "(IJ)I"⟩
abbrev cX4_lossAt : ByteArray := prog_6_method_19_code
def yX4_lossAt : MethodName := ⟨RX4, "lossAt", "(III)J"⟩
abbrev cX4_spreadLoss : ByteArray := prog_6_method_20_code
def yX4_spreadLoss : MethodName := ⟨RX4, "spreadLoss", "(III)J"⟩
abbrev cX4_regretOf : ByteArray := prog_6_method_21_code
def yX4_regretOf : MethodName := ⟨RX4, "regretOf", "(II)J"⟩
abbrev cX4_dislike : ByteArray := prog_6_method_22_code
def yX4_dislike : MethodName := ⟨RX4, "dislike", "(II)J"⟩
abbrev cX4_worthFor : ByteArray := prog_6_method_23_code
def yX4_worthFor : MethodName := ⟨RX4, "worthFor", "(I)J"⟩
abbrev cX4_firstLie : ByteArray := prog_6_method_24_code
def yX4_firstLie : MethodName := ⟨RX4, "firstLie", "()I"⟩
abbrev cX4_verdict : ByteArray := prog_6_method_25_code
def yX4_verdict : MethodName := ⟨RX4, "verdict", "()I"⟩
abbrev cX4_heardLoss : ByteArray := prog_6_method_26_code
def yX4_heardLoss : MethodName := ⟨RX4, "heardLoss", "(II)J"⟩
abbrev cX4_greatestWish : ByteArray := prog_6_method_27_code
def yX4_greatestWish : MethodName := ⟨RX4, "greatestWish", "()I"⟩
abbrev cX4_nextWay : ByteArray := prog_6_method_28_code
def yX4_nextWay : MethodName := ⟨RX4, "nextWay", "()Z"⟩
abbrev cX4_countUsed : ByteArray := prog_6_method_29_code
def yX4_countUsed : MethodName := ⟨RX4, "countUsed", "()V"⟩
abbrev cX4_drawnLoss : ByteArray := prog_6_method_30_code
def yX4_drawnLoss : MethodName := ⟨RX4, "drawnLoss", "(II)J"⟩
abbrev cX4_drawBelow : ByteArray := prog_6_method_31_code
def yX4_drawBelow : MethodName := ⟨RX4, "drawBelow", "(I)I"⟩
abbrev cX4_drawnTruth : ByteArray := prog_6_method_32_code
def yX4_drawnTruth : MethodName := ⟨RX4, "drawnTruth", "(I)I"⟩
abbrev cX4_heardWord : ByteArray := prog_6_method_33_code
def yX4_heardWord : MethodName := ⟨RX4, "heardWord", "(I)I"⟩
def RX5 : String := "SaidForNothing$Search"
def TX5 : u_T := fun k => match k with
  | 0 => ("SaidForNothing$Search", "hearing", "LSaidForNothing$Reading;", true)
  | 1 => ("SaidForNothing$Search", "beside", "LSaidForNothing$Reading;", true)
  | 2 => ("SaidForNothing$Search", "bestWorth", "J", false)
  | 3 => ("SaidForNothing$Search", "middleClear", "I", false)
  | _ => ("SaidForNothing$Search", "middleCuts", "I", false)
def tyX5 : Nat → FieldType := fun k => match k with
  | 0 => .object "SaidForNothing$Reading"
  | 1 => .object "SaidForNothing$Reading"
  | 2 => .long
  | 3 => .int
  | _ => .int
theorem nmX5 : ∀ a, a < 5 → ∀ b, b < 5 → a ≠ b → (TX5 a).2.1 ≠ (TX5 b).2.1 := by decide +kernel
theorem tyX5_ok : ∀ k, k < 5 → parseFieldDescriptor (TX5 k).2.2.1 = some (tyX5 k) := by decide +kernel
abbrev cX5_init : ByteArray := prog_7_method_1_code
def yX5_init : MethodName := ⟨RX5, "<init>", "()V"⟩
abbrev cX5_stands : ByteArray := prog_7_method_2_code
def yX5_stands : MethodName := ⟨RX5, "stands", "(I)Z"⟩
abbrev cX5_countRuns : ByteArray := prog_7_method_3_code
def yX5_countRuns : MethodName := ⟨RX5, "countRuns", "(LSaidForNothing$Talk;)I"⟩
abbrev cX5_finestCuts : ByteArray := prog_7_method_4_code
def yX5_finestCuts : MethodName := ⟨RX5, "finestCuts", "(LSaidForNothing$Talk;II)I"⟩
abbrev cX5_mostWords : ByteArray := prog_7_method_5_code
def yX5_mostWords : MethodName := ⟨RX5, "mostWords", "(LSaidForNothing$Talk;II)I"⟩
abbrev cX5_bestCuts : ByteArray := prog_7_method_6_code
def yX5_bestCuts : MethodName := ⟨RX5, "bestCuts", "(LSaidForNothing$Talk;I)I"⟩
abbrev cX5_countWays : ByteArray := prog_7_method_7_code
def yX5_countWays : MethodName := ⟨RX5, "countWays", "(LSaidForNothing$Talk;)I"⟩
abbrev cX5_isRunOf : ByteArray := prog_7_method_8_code
def yX5_isRunOf : MethodName := ⟨RX5, "isRunOf", "(LSaidForNothing$Talk;II)Z"⟩
abbrev cX5_edgeOf : ByteArray := prog_7_method_9_code
def yX5_edgeOf : MethodName := ⟨RX5, "edgeOf", "(LSaidForNothing$Talk;I)I"⟩
abbrev cX5_mostWordsForBoth : ByteArray := prog_7_method_10_code
def yX5_mostWordsForBoth : MethodName := ⟨RX5, "mostWordsForBoth", "(LSaidForNothing$Talk;)I"⟩
abbrev cX5_standsForBoth : ByteArray := prog_7_method_11_code
def yX5_standsForBoth : MethodName := ⟨RX5, "standsForBoth", "(II)Z"⟩
abbrev cX5_findMiddleman : ByteArray := prog_7_method_12_code
def yX5_findMiddleman : MethodName := ⟨RX5, "findMiddleman", "(LSaidForNothing$Talk;I)V"⟩
def RX6 : String := "SaidForNothing$Shelf"
def TX6 : u_T := fun k => match k with
  | 0 => ("SaidForNothing$Shelf", "cells", "[J", true)
  | 1 => ("SaidForNothing$Shelf", "state", "I", false)
  | 2 => ("SaidForNothing$Shelf", "sort", "I", false)
  | 3 => ("SaidForNothing$Shelf", "size", "I", false)
  | _ => ("SaidForNothing$Shelf", "shown", "I", false)
def tyX6 : Nat → FieldType := fun k => match k with
  | 0 => .array .long
  | 1 => .int
  | 2 => .int
  | 3 => .int
  | _ => .int
theorem nmX6 : ∀ a, a < 5 → ∀ b, b < 5 → a ≠ b → (TX6 a).2.1 ≠ (TX6 b).2.1 := by decide +kernel
theorem tyX6_ok : ∀ k, k < 5 → parseFieldDescriptor (TX6 k).2.2.1 = some (tyX6 k) := by decide +kernel
abbrev cX6_init : ByteArray := prog_8_method_1_code
def yX6_init : MethodName := ⟨RX6, "<init>", "()V"⟩
abbrev cX6_lies : ByteArray := prog_8_method_2_code
def yX6_lies : MethodName := ⟨RX6, "lies", "()Z"⟩
abbrev cX6_shows : ByteArray := prog_8_method_3_code
def yX6_shows : MethodName := ⟨RX6, "shows", "()Z"⟩
abbrev cX6_lay : ByteArray := prog_8_method_4_code
def yX6_lay : MethodName := ⟨RX6, "lay", "(II)V"⟩
abbrev cX6_empty : ByteArray := prog_8_method_5_code
def yX6_empty : MethodName := ⟨RX6, "empty", "()V"⟩
abbrev cX6_hang : ByteArray := prog_8_method_6_code
def yX6_hang : MethodName := ⟨RX6, "hang", "(I)V"⟩
abbrev cX6_reaches : ByteArray := prog_8_method_7_code
def yX6_reaches : MethodName := ⟨RX6, "reaches", "(I)Z"⟩
abbrev cX6_spans : ByteArray := prog_8_method_8_code
def yX6_spans : MethodName := ⟨RX6, "spans", "(II)Z"⟩
abbrev cX6_cell : ByteArray := prog_8_method_9_code
def yX6_cell : MethodName := ⟨RX6, "cell", "(I)J"⟩
abbrev cX6_letter : ByteArray := prog_8_method_10_code
def yX6_letter : MethodName := ⟨RX6, "letter", "(I)I"⟩
abbrev cX6_put : ByteArray := prog_8_method_11_code
def yX6_put : MethodName := ⟨RX6, "put", "(IJ)V"⟩
abbrev cX6_cut : ByteArray := prog_8_method_12_code
def yX6_cut : MethodName := ⟨RX6, "cut", "(J)J"⟩
abbrev cX6_bring : ByteArray := prog_8_method_13_code
def yX6_bring : MethodName := ⟨RX6, "bring", "(LSaidForNothing$Shelf;III)V"⟩
def RX7 : String := "SaidForNothing$Store"
def TX7 : u_T := fun k => match k with
  | 0 => ("SaidForNothing$Store", "talks", "[LSaidForNothing$Talk;", true)
  | 1 => ("SaidForNothing$Store", "meanings", "[LSaidForNothing$Meaning;", true)
  | 2 => ("SaidForNothing$Store", "talkCount", "I", false)
  | _ => ("SaidForNothing$Store", "meaningCount", "I", false)
def tyX7 : Nat → FieldType := fun k => match k with
  | 0 => .array (.object "SaidForNothing$Talk")
  | 1 => .array (.object "SaidForNothing$Meaning")
  | 2 => .int
  | _ => .int
theorem nmX7 : ∀ a, a < 4 → ∀ b, b < 4 → a ≠ b → (TX7 a).2.1 ≠ (TX7 b).2.1 := by decide +kernel
theorem tyX7_ok : ∀ k, k < 4 → parseFieldDescriptor (TX7 k).2.2.1 = some (tyX7 k) := by decide +kernel
abbrev cX7_init : ByteArray := prog_9_method_1_code
def yX7_init : MethodName := ⟨RX7, "<init>", "()V"⟩
abbrev cX7_talkAt : ByteArray := prog_9_method_2_code
def yX7_talkAt : MethodName := ⟨RX7, "talkAt", "(I)LSaidForNothing$Talk;"⟩
abbrev cX7_meaningAt : ByteArray := prog_9_method_3_code
def yX7_meaningAt : MethodName := ⟨RX7, "meaningAt", "(I)LSaidForNothing$Meaning;"⟩
abbrev cX7_nextTalk : ByteArray := prog_9_method_4_code
def yX7_nextTalk : MethodName := ⟨RX7, "nextTalk", "()LSaidForNothing$Talk;"⟩
abbrev cX7_nextMeaning : ByteArray := prog_9_method_5_code
def yX7_nextMeaning : MethodName := ⟨RX7, "nextMeaning", "()LSaidForNothing$Meaning;"⟩
abbrev cX7_copyFrom : ByteArray := prog_9_method_6_code
def yX7_copyFrom : MethodName := ⟨RX7, "copyFrom", "(LSaidForNothing$Store;)V"⟩
def RX8 : String := "SaidForNothing$Talk"
def TX8 : u_T := fun k => match k with
  | 0 => ("SaidForNothing$Talk", "xs", "LSaidForNothing$Ints;", true)
  | 1 => ("SaidForNothing$Talk", "chances", "LSaidForNothing$Ints;", true)
  | 2 => ("SaidForNothing$Talk", "truths", "I", false)
  | 3 => ("SaidForNothing$Talk", "wish", "I", false)
  | 4 => ("SaidForNothing$Talk", "lean", "I", false)
  | 5 => ("SaidForNothing$Talk", "words", "I", false)
  | 6 => ("SaidForNothing$Talk", "loss", "I", false)
  | 7 => ("SaidForNothing$Talk", "second", "Z", false)
  | 8 => ("SaidForNothing$Talk", "secondLean", "I", false)
  | _ => ("SaidForNothing$Talk", "secondWish", "I", false)
def tyX8 : Nat → FieldType := fun k => match k with
  | 0 => .object "SaidForNothing$Ints"
  | 1 => .object "SaidForNothing$Ints"
  | 2 => .int
  | 3 => .int
  | 4 => .int
  | 5 => .int
  | 6 => .int
  | 7 => .boolean
  | 8 => .int
  | _ => .int
theorem nmX8 : ∀ a, a < 10 → ∀ b, b < 10 → a ≠ b → (TX8 a).2.1 ≠ (TX8 b).2.1 := by decide +kernel
theorem tyX8_ok : ∀ k, k < 10 → parseFieldDescriptor (TX8 k).2.2.1 = some (tyX8 k) := by decide +kernel
abbrev cX8_init : ByteArray := prog_10_method_1_code
def yX8_init : MethodName := ⟨RX8, "<init>", "()V"⟩
abbrev cX8_reset : ByteArray := prog_10_method_2_code
def yX8_reset : MethodName := ⟨RX8, "reset", "()V"⟩
abbrev cX8_copyFrom : ByteArray := prog_10_method_3_code
def yX8_copyFrom : MethodName := ⟨RX8, "copyFrom", "(LSaidForNothing$Talk;)V"⟩
abbrev cX8_add : ByteArray := prog_10_method_4_code
def yX8_add : MethodName := ⟨RX8, "add", "(II)V"⟩
abbrev cX8_hasTruth : ByteArray := prog_10_method_5_code
def yX8_hasTruth : MethodName := ⟨RX8, "hasTruth", "(I)Z"⟩
abbrev cX8_cutsEnd : ByteArray := prog_10_method_6_code
def yX8_cutsEnd : MethodName := ⟨RX8, "cutsEnd", "()I"⟩
abbrev cX8_allows : ByteArray := prog_10_method_7_code
def yX8_allows : MethodName := ⟨RX8, "allows", "(I)Z"⟩
abbrev cX8_lossOf : ByteArray := prog_10_method_8_code
def yX8_lossOf : MethodName := ⟨RX8, "lossOf", "(J)J"⟩
abbrev cX8_chanceSum : ByteArray := prog_10_method_9_code
def yX8_chanceSum : MethodName := ⟨RX8, "chanceSum", "()I"⟩
abbrev cX8_lossWithin : ByteArray := prog_10_method_10_code
def yX8_lossWithin : MethodName := ⟨RX8, "lossWithin", "(II)J"⟩
abbrev cX8_end : ByteArray := prog_10_method_11_code
def yX8_end : MethodName := ⟨RX8, "end", "(I)I"⟩
abbrev cX8_bestPair : ByteArray := prog_10_method_12_code
def yX8_bestPair : MethodName := ⟨RX8, "bestPair", "()I"⟩
abbrev cX8_firstDispute : ByteArray := prog_10_method_13_code
def yX8_firstDispute : MethodName := ⟨RX8, "firstDispute", "(I)I"⟩
abbrev cX8_canPunish : ByteArray := prog_10_method_14_code
def yX8_canPunish : MethodName := ⟨RX8, "canPunish", "(III)Z"⟩
def RX9 : String := "SaidForNothing"
def TX9 : u_T := fun k => match k with
  | 0 => ("SaidForNothing", "shelves", "[LSaidForNothing$Shelf;", true)
  | 1 => ("SaidForNothing", "now", "LSaidForNothing$Store;", true)
  | 2 => ("SaidForNothing", "kept", "LSaidForNothing$Store;", true)
  | 3 => ("SaidForNothing", "imaged", "Z", false)
  | 4 => ("SaidForNothing", "refusals", "LSaidForNothing$Ints;", true)
  | 5 => ("SaidForNothing", "faultPlace", "I", false)
  | 6 => ("SaidForNothing", "draft", "LSaidForNothing$Talk;", true)
  | 7 => ("SaidForNothing", "letters", "LSaidForNothing$Letters;", true)
  | 8 => ("SaidForNothing", "view", "LSaidForNothing$Reading;", true)
  | 9 => ("SaidForNothing", "search", "LSaidForNothing$Search;", true)
  | _ => ("SaidForNothing", "bodies", "LSaidForNothing$Bodies;", true)
def tyX9 : Nat → FieldType := fun k => match k with
  | 0 => .array (.object "SaidForNothing$Shelf")
  | 1 => .object "SaidForNothing$Store"
  | 2 => .object "SaidForNothing$Store"
  | 3 => .boolean
  | 4 => .object "SaidForNothing$Ints"
  | 5 => .int
  | 6 => .object "SaidForNothing$Talk"
  | 7 => .object "SaidForNothing$Letters"
  | 8 => .object "SaidForNothing$Reading"
  | 9 => .object "SaidForNothing$Search"
  | _ => .object "SaidForNothing$Bodies"
theorem nmX9 : ∀ a, a < 11 → ∀ b, b < 11 → a ≠ b → (TX9 a).2.1 ≠ (TX9 b).2.1 := by decide +kernel
theorem tyX9_ok : ∀ k, k < 11 → parseFieldDescriptor (TX9 k).2.2.1 = some (tyX9 k) := by decide +kernel
abbrev cX9_init : ByteArray := prog_1_method_1_code
def yX9_init : MethodName := ⟨RX9, "<init>", "()V"⟩
abbrev cX9_row : ByteArray := prog_1_method_2_code
def yX9_row : MethodName := ⟨RX9, "row", "(III)I"⟩
abbrev cX9_set : ByteArray := prog_1_method_3_code
def yX9_set : MethodName := ⟨RX9, "set", "(IIJ)I"⟩
abbrev cX9_copy : ByteArray := prog_1_method_4_code
def yX9_copy : MethodName := ⟨RX9, "copy", "(IIIII)I"⟩
abbrev cX9_element : ByteArray := prog_1_method_5_code
def yX9_element : MethodName := ⟨RX9, "element", "(II)J"⟩
abbrev cX9_show : ByteArray := prog_1_method_6_code
def yX9_show : MethodName := ⟨RX9, "show", "(II)I"⟩
abbrev cX9_holds : ByteArray := prog_1_method_7_code
def yX9_holds : MethodName := ⟨RX9, "holds", "(I)I"⟩
abbrev cX9_says : ByteArray := prog_1_method_8_code
def yX9_says : MethodName := ⟨RX9, "says", "(II)I"⟩
abbrev cX9_talk : ByteArray := prog_1_method_9_code
def yX9_talk : MethodName := ⟨RX9, "talk", "(I)I"⟩
abbrev cX9_fault : ByteArray := prog_1_method_10_code
def yX9_fault : MethodName := ⟨RX9, "fault", "()I"⟩
abbrev cX9_talkOf : ByteArray := prog_1_method_11_code
def yX9_talkOf : MethodName := ⟨RX9, "talkOf", "(II)I"⟩
abbrev cX9_truth : ByteArray := prog_1_method_12_code
def yX9_truth : MethodName := ⟨RX9, "truth", "(III)I"⟩
abbrev cX9_done : ByteArray := prog_1_method_13_code
def yX9_done : MethodName := ⟨RX9, "done", "(II)I"⟩
abbrev cX9_change : ByteArray := prog_1_method_14_code
def yX9_change : MethodName := ⟨RX9, "change", "(III)I"⟩
abbrev cX9_chance : ByteArray := prog_1_method_15_code
def yX9_chance : MethodName := ⟨RX9, "chance", "(III)I"⟩
abbrev cX9_meaning : ByteArray := prog_1_method_16_code
def yX9_meaning : MethodName := ⟨RX9, "meaning", "(IIII)I"⟩
abbrev cX9_tell : ByteArray := prog_1_method_17_code
def yX9_tell : MethodName := ⟨RX9, "tell", "(III)I"⟩
abbrev cX9_meaningOf : ByteArray := prog_1_method_18_code
def yX9_meaningOf : MethodName := ⟨RX9, "meaningOf", "(II)I"⟩
abbrev cX9_word : ByteArray := prog_1_method_19_code
def yX9_word : MethodName := ⟨RX9, "word", "(II)I"⟩
abbrev cX9_thought : ByteArray := prog_1_method_20_code
def yX9_thought : MethodName := ⟨RX9, "thought", "(II)I"⟩
abbrev cX9_does : ByteArray := prog_1_method_21_code
def yX9_does : MethodName := ⟨RX9, "does", "(II)I"⟩
abbrev cX9_judge : ByteArray := prog_1_method_22_code
def yX9_judge : MethodName := ⟨RX9, "judge", "(I)I"⟩
abbrev cX9_regret : ByteArray := prog_1_method_23_code
def yX9_regret : MethodName := ⟨RX9, "regret", "(III)J"⟩
abbrev cX9_worth : ByteArray := prog_1_method_24_code
def yX9_worth : MethodName := ⟨RX9, "worth", "(II)J"⟩
abbrev cX9_beside : ByteArray := prog_1_method_25_code
def yX9_beside : MethodName := ⟨RX9, "beside", "(II)J"⟩
abbrev cX9_runs : ByteArray := prog_1_method_26_code
def yX9_runs : MethodName := ⟨RX9, "runs", "(I)I"⟩
abbrev cX9_finest : ByteArray := prog_1_method_27_code
def yX9_finest : MethodName := ⟨RX9, "finest", "(I)I"⟩
abbrev cX9_bound : ByteArray := prog_1_method_28_code
def yX9_bound : MethodName := ⟨RX9, "bound", "(I)I"⟩
abbrev cX9_best : ByteArray := prog_1_method_29_code
def yX9_best : MethodName := ⟨RX9, "best", "(II)I"⟩
abbrev cX9_any : ByteArray := prog_1_method_30_code
def yX9_any : MethodName := ⟨RX9, "any", "(I)I"⟩
abbrev cX9_edge : ByteArray := prog_1_method_31_code
def yX9_edge : MethodName := ⟨RX9, "edge", "(II)I"⟩
abbrev cX9_room : ByteArray := prog_1_method_32_code
def yX9_room : MethodName := ⟨RX9, "room", "(I)I"⟩
abbrev cX9_doors : ByteArray := prog_1_method_33_code
def yX9_doors : MethodName := ⟨RX9, "doors", "(I)I"⟩
abbrev cX9_middle : ByteArray := prog_1_method_34_code
def yX9_middle : MethodName := ⟨RX9, "middle", "(III)I"⟩
abbrev cX9_ends : ByteArray := prog_1_method_35_code
def yX9_ends : MethodName := ⟨RX9, "ends", "(III)J"⟩
abbrev cX9_bestEnds : ByteArray := prog_1_method_36_code
def yX9_bestEnds : MethodName := ⟨RX9, "bestEnds", "(I)I"⟩
abbrev cX9_leave : ByteArray := prog_1_method_37_code
def yX9_leave : MethodName := ⟨RX9, "leave", "(I)I"⟩
abbrev cX9_agree : ByteArray := prog_1_method_38_code
def yX9_agree : MethodName := ⟨RX9, "agree", "(II)I"⟩
abbrev cX9_still : ByteArray := prog_1_method_39_code
def yX9_still : MethodName := ⟨RX9, "still", "()I"⟩
abbrev cX9_draw : ByteArray := prog_1_method_40_code
def yX9_draw : MethodName := ⟨RX9, "draw", "(III)J"⟩
abbrev cX9_act : ByteArray := prog_1_method_41_code
def yX9_act : MethodName := ⟨RX9, "act", "(III)I"⟩
abbrev cX9_trace : ByteArray := prog_1_method_42_code
def yX9_trace : MethodName := ⟨RX9, "trace", "(I)I"⟩
abbrev cX9_image : ByteArray := prog_1_method_43_code
def yX9_image : MethodName := ⟨RX9, "image", "()I"⟩
abbrev cX9_restore : ByteArray := prog_1_method_44_code
def yX9_restore : MethodName := ⟨RX9, "restore", "()I"⟩
abbrev cX9_status : ByteArray := prog_1_method_45_code
def yX9_status : MethodName := ⟨RX9, "status", "(I)I"⟩
abbrev cX9_refuse : ByteArray := prog_1_method_46_code
def yX9_refuse : MethodName := ⟨RX9, "refuse", "(I)I"⟩
abbrev cX9_refuseFar : ByteArray := prog_1_method_47_code
def yX9_refuseFar : MethodName := ⟨RX9, "refuseFar", "(I)I"⟩
abbrev cX9_refuseTen : ByteArray := prog_1_method_48_code
def yX9_refuseTen : MethodName := ⟨RX9, "refuseTen", "(I)I"⟩
abbrev cX9_shelfAt : ByteArray := prog_1_method_49_code
def yX9_shelfAt : MethodName := ⟨RX9, "shelfAt", "(I)LSaidForNothing$Shelf;"⟩
abbrev cX9_rowFlaw : ByteArray := prog_1_method_50_code
def yX9_rowFlaw : MethodName := ⟨RX9, "rowFlaw", "(I)I"⟩
abbrev cX9_wordsFlaw : ByteArray := prog_1_method_51_code
def yX9_wordsFlaw : MethodName := ⟨RX9, "wordsFlaw", "(LSaidForNothing$Talk;I)I"⟩
abbrev cX9_cutsFlaw : ByteArray := prog_1_method_52_code
def yX9_cutsFlaw : MethodName := ⟨RX9, "cutsFlaw", "(LSaidForNothing$Talk;I)I"⟩
abbrev cX9_usedBits : ByteArray := prog_1_method_53_code
def yX9_usedBits : MethodName := ⟨RX9, "usedBits", "(LSaidForNothing$Meaning;)I"⟩
abbrev cX9_holdingBits : ByteArray := prog_1_method_54_code
def yX9_holdingBits : MethodName := ⟨RX9, "holdingBits", "()I"⟩
abbrev cX9_isKind : ByteArray := prog_1_method_55_code
def yX9_isKind : MethodName := ⟨RX9, "isKind", "(I)Z"⟩
abbrev cX9_isUnder : ByteArray := prog_1_method_56_code
def yX9_isUnder : MethodName := ⟨RX9, "isUnder", "(II)Z"⟩
abbrev cX9_isSide : ByteArray := prog_1_method_57_code
def yX9_isSide : MethodName := ⟨RX9, "isSide", "(I)Z"⟩
abbrev cX9_isCount : ByteArray := prog_1_method_58_code
def yX9_isCount : MethodName := ⟨RX9, "isCount", "(I)Z"⟩
abbrev cX9_isAct : ByteArray := prog_1_method_59_code
def yX9_isAct : MethodName := ⟨RX9, "isAct", "(I)Z"⟩
abbrev cX9_isShift : ByteArray := prog_1_method_60_code
def yX9_isShift : MethodName := ⟨RX9, "isShift", "(I)Z"⟩
abbrev cX9_within : ByteArray := prog_1_method_61_code
def yX9_within : MethodName := ⟨RX9, "within", "(JII)I"⟩
def RX10 : String := "SaidForNothingModel"
def TX10 : u_T := fun k => match k with
  | 0 => ("SaidForNothingModel", "talks", "I", false)
  | 1 => ("SaidForNothingModel", "meanings", "I", false)
  | 2 => ("SaidForNothingModel", "fault", "I", false)
  | 3 => ("SaidForNothingModel", "refused", "[I", true)
  | 4 => ("SaidForNothingModel", "held", "[I", true)
  | 5 => ("SaidForNothingModel", "sort", "[I", true)
  | 6 => ("SaidForNothingModel", "size", "[I", true)
  | 7 => ("SaidForNothingModel", "shown", "[I", true)
  | 8 => ("SaidForNothingModel", "cells", "[J", true)
  | 9 => ("SaidForNothingModel", "carried", "[J", true)
  | 10 => ("SaidForNothingModel", "truths", "[I", true)
  | 11 => ("SaidForNothingModel", "wish", "[I", true)
  | 12 => ("SaidForNothingModel", "lean", "[I", true)
  | 13 => ("SaidForNothingModel", "words", "[I", true)
  | 14 => ("SaidForNothingModel", "loss", "[I", true)
  | 15 => ("SaidForNothingModel", "second", "[I", true)
  | 16 => ("SaidForNothingModel", "leans", "[I", true)
  | 17 => ("SaidForNothingModel", "wishes", "[I", true)
  | 18 => ("SaidForNothingModel", "xs", "[I", true)
  | 19 => ("SaidForNothingModel", "chance", "[I", true)
  | 20 => ("SaidForNothingModel", "mTalk", "[I", true)
  | 21 => ("SaidForNothingModel", "mKind", "[I", true)
  | 22 => ("SaidForNothingModel", "clear", "[I", true)
  | 23 => ("SaidForNothingModel", "mWord", "[I", true)
  | 24 => ("SaidForNothingModel", "told", "[I", true)
  | 25 => ("SaidForNothingModel", "from", "I", false)
  | 26 => ("SaidForNothingModel", "at", "I", false)
  | 27 => ("SaidForNothingModel", "end", "I", false)
  | 28 => ("SaidForNothingModel", "number", "I", false)
  | 29 => ("SaidForNothingModel", "digitAt", "I", false)
  | 30 => ("SaidForNothingModel", "wrongAt", "I", false)
  | 31 => ("SaidForNothingModel", "tN", "I", false)
  | 32 => ("SaidForNothingModel", "tWish", "I", false)
  | 33 => ("SaidForNothingModel", "tLean", "I", false)
  | 34 => ("SaidForNothingModel", "tWords", "I", false)
  | 35 => ("SaidForNothingModel", "tLoss", "I", false)
  | 36 => ("SaidForNothingModel", "tSecond", "I", false)
  | 37 => ("SaidForNothingModel", "tLeans", "I", false)
  | 38 => ("SaidForNothingModel", "tWishes", "I", false)
  | 39 => ("SaidForNothingModel", "tX", "[I", true)
  | 40 => ("SaidForNothingModel", "tChance", "[I", true)
  | 41 => ("SaidForNothingModel", "weight", "[J", true)
  | 42 => ("SaidForNothingModel", "act", "[I", true)
  | 43 => ("SaidForNothingModel", "used", "I", false)
  | 44 => ("SaidForNothingModel", "usedN", "I", false)
  | 45 => ("SaidForNothingModel", "block", "[I", true)
  | 46 => ("SaidForNothingModel", "heard", "[I", true)
  | 47 => ("SaidForNothingModel", "also", "[I", true)
  | 48 => ("SaidForNothingModel", "blocks", "I", false)
  | 49 => ("SaidForNothingModel", "most", "[I", true)
  | 50 => ("SaidForNothingModel", "around", "[J", true)
  | 51 => ("SaidForNothingModel", "z", "I", false)
  | 52 => ("SaidForNothingModel", "trace", "[I", true)
  | 53 => ("SaidForNothingModel", "ran", "I", false)
  | 54 => ("SaidForNothingModel", "iTalks", "I", false)
  | 55 => ("SaidForNothingModel", "iMeanings", "I", false)
  | _ => ("SaidForNothingModel", "kept", "[I", true)
def tyX10 : Nat → FieldType := fun k => match k with
  | 0 => .int
  | 1 => .int
  | 2 => .int
  | 3 => .array .int
  | 4 => .array .int
  | 5 => .array .int
  | 6 => .array .int
  | 7 => .array .int
  | 8 => .array .long
  | 9 => .array .long
  | 10 => .array .int
  | 11 => .array .int
  | 12 => .array .int
  | 13 => .array .int
  | 14 => .array .int
  | 15 => .array .int
  | 16 => .array .int
  | 17 => .array .int
  | 18 => .array .int
  | 19 => .array .int
  | 20 => .array .int
  | 21 => .array .int
  | 22 => .array .int
  | 23 => .array .int
  | 24 => .array .int
  | 25 => .int
  | 26 => .int
  | 27 => .int
  | 28 => .int
  | 29 => .int
  | 30 => .int
  | 31 => .int
  | 32 => .int
  | 33 => .int
  | 34 => .int
  | 35 => .int
  | 36 => .int
  | 37 => .int
  | 38 => .int
  | 39 => .array .int
  | 40 => .array .int
  | 41 => .array .long
  | 42 => .array .int
  | 43 => .int
  | 44 => .int
  | 45 => .array .int
  | 46 => .array .int
  | 47 => .array .int
  | 48 => .int
  | 49 => .array .int
  | 50 => .array .long
  | 51 => .int
  | 52 => .array .int
  | 53 => .int
  | 54 => .int
  | 55 => .int
  | _ => .array .int
theorem nmX10 : ∀ a, a < 57 → ∀ b, b < 57 → a ≠ b → (TX10 a).2.1 ≠ (TX10 b).2.1 := by decide +kernel
theorem tyX10_ok : ∀ k, k < 57 → parseFieldDescriptor (TX10 k).2.2.1 = some (tyX10 k) := by decide +kernel
abbrev cX10_init : ByteArray := prog_12_method_1_code
def yX10_init : MethodName := ⟨RX10, "<init>", "()V"⟩
abbrev cX10_no : ByteArray := prog_12_method_2_code
def yX10_no : MethodName := ⟨RX10, "no", "(I)I"⟩
abbrev cX10_noLow : ByteArray := prog_12_method_3_code
def yX10_noLow : MethodName := ⟨RX10, "noLow", "(I)I"⟩
abbrev cX10_noTen : ByteArray := prog_12_method_4_code
def yX10_noTen : MethodName := ⟨RX10, "noTen", "(I)I"⟩
abbrev cX10_isShelf : ByteArray := prog_12_method_5_code
def yX10_isShelf : MethodName := ⟨RX10, "isShelf", "(I)Z"⟩
abbrev cX10_isTalk : ByteArray := prog_12_method_6_code
def yX10_isTalk : MethodName := ⟨RX10, "isTalk", "(I)Z"⟩
abbrev cX10_isTruth : ByteArray := prog_12_method_7_code
def yX10_isTruth : MethodName := ⟨RX10, "isTruth", "(II)Z"⟩
abbrev cX10_isMeaning : ByteArray := prog_12_method_8_code
def yX10_isMeaning : MethodName := ⟨RX10, "isMeaning", "(I)Z"⟩
abbrev cX10_row : ByteArray := prog_12_method_9_code
def yX10_row : MethodName := ⟨RX10, "row", "(III)I"⟩
abbrev cX10_set : ByteArray := prog_12_method_10_code
def yX10_set : MethodName := ⟨RX10, "set", "(IIJ)I"⟩
abbrev cX10_copy : ByteArray := prog_12_method_11_code
def yX10_copy : MethodName := ⟨RX10, "copy", "(IIIII)I"⟩
abbrev cX10_element : ByteArray := prog_12_method_12_code
def yX10_element : MethodName := ⟨RX10, "element", "(II)J"⟩
abbrev cX10_show : ByteArray := prog_12_method_13_code
def yX10_show : MethodName := ⟨RX10, "show", "(II)I"⟩
abbrev cX10_holds : ByteArray := prog_12_method_14_code
def yX10_holds : MethodName := ⟨RX10, "holds", "(I)I"⟩
abbrev cX10_isUnder : ByteArray := prog_12_method_15_code
def yX10_isUnder : MethodName := ⟨RX10, "isUnder", "(II)Z"⟩
abbrev cX10_says : ByteArray := prog_12_method_16_code
def yX10_says : MethodName := ⟨RX10, "says", "(II)I"⟩
abbrev cX10_wants : ByteArray := prog_12_method_17_code
def yX10_wants : MethodName := ⟨RX10, "wants", "(I)I"⟩
abbrev cX10_letter : ByteArray := prog_12_method_18_code
def yX10_letter : MethodName := ⟨RX10, "letter", "()I"⟩
abbrev cX10_takes : ByteArray := prog_12_method_19_code
def yX10_takes : MethodName := ⟨RX10, "takes", "(I)Z"⟩
abbrev cX10_isDigit : ByteArray := prog_12_method_20_code
def yX10_isDigit : MethodName := ⟨RX10, "isDigit", "()Z"⟩
abbrev cX10_number : ByteArray := prog_12_method_21_code
def yX10_number : MethodName := ⟨RX10, "number", "()Z"⟩
abbrev cX10_number_ : ByteArray := prog_12_method_22_code
def yX10_number_ : MethodName := ⟨RX10, "number", "(II)Z"⟩
abbrev cX10_signed : ByteArray := prog_12_method_23_code
def yX10_signed : MethodName := ⟨RX10, "signed", "()Z"⟩
abbrev cX10_item : ByteArray := prog_12_method_24_code
def yX10_item : MethodName := ⟨RX10, "item", "()Z"⟩
abbrev cX10_wishPart : ByteArray := prog_12_method_25_code
def yX10_wishPart : MethodName := ⟨RX10, "wishPart", "()Z"⟩
abbrev cX10_wordsPart : ByteArray := prog_12_method_26_code
def yX10_wordsPart : MethodName := ⟨RX10, "wordsPart", "()Z"⟩
abbrev cX10_leanPart : ByteArray := prog_12_method_27_code
def yX10_leanPart : MethodName := ⟨RX10, "leanPart", "()Z"⟩
abbrev cX10_lossPart : ByteArray := prog_12_method_28_code
def yX10_lossPart : MethodName := ⟨RX10, "lossPart", "()Z"⟩
abbrev cX10_twoPart : ByteArray := prog_12_method_29_code
def yX10_twoPart : MethodName := ⟨RX10, "twoPart", "()Z"⟩
abbrev cX10_part : ByteArray := prog_12_method_30_code
def yX10_part : MethodName := ⟨RX10, "part", "()Z"⟩
abbrev cX10_reads : ByteArray := prog_12_method_31_code
def yX10_reads : MethodName := ⟨RX10, "reads", "()Z"⟩
abbrev cX10_talk : ByteArray := prog_12_method_32_code
def yX10_talk : MethodName := ⟨RX10, "talk", "(I)I"⟩
abbrev cX10_fault : ByteArray := prog_12_method_33_code
def yX10_fault : MethodName := ⟨RX10, "fault", "()I"⟩
abbrev cX10_talkOf : ByteArray := prog_12_method_34_code
def yX10_talkOf : MethodName := ⟨RX10, "talkOf", "(II)I"⟩
abbrev cX10_truth : ByteArray := prog_12_method_35_code
def yX10_truth : MethodName := ⟨RX10, "truth", "(III)I"⟩
abbrev cX10_loses : ByteArray := prog_12_method_36_code
def yX10_loses : MethodName := ⟨RX10, "loses", "(IJ)J"⟩
abbrev cX10_least : ByteArray := prog_12_method_37_code
def yX10_least : MethodName := ⟨RX10, "least", "(II)I"⟩
abbrev cX10_doneAt : ByteArray := prog_12_method_38_code
def yX10_doneAt : MethodName := ⟨RX10, "doneAt", "(III)I"⟩
abbrev cX10_done : ByteArray := prog_12_method_39_code
def yX10_done : MethodName := ⟨RX10, "done", "(II)I"⟩
abbrev cX10_change : ByteArray := prog_12_method_40_code
def yX10_change : MethodName := ⟨RX10, "change", "(III)I"⟩
abbrev cX10_chance : ByteArray := prog_12_method_41_code
def yX10_chance : MethodName := ⟨RX10, "chance", "(III)I"⟩
abbrev cX10_cutsOf : ByteArray := prog_12_method_42_code
def yX10_cutsOf : MethodName := ⟨RX10, "cutsOf", "(I)I"⟩
abbrev cX10_meaning : ByteArray := prog_12_method_43_code
def yX10_meaning : MethodName := ⟨RX10, "meaning", "(IIII)I"⟩
abbrev cX10_tell : ByteArray := prog_12_method_44_code
def yX10_tell : MethodName := ⟨RX10, "tell", "(III)I"⟩
abbrev cX10_usedSet : ByteArray := prog_12_method_45_code
def yX10_usedSet : MethodName := ⟨RX10, "usedSet", "(I)I"⟩
abbrev cX10_usedBy : ByteArray := prog_12_method_46_code
def yX10_usedBy : MethodName := ⟨RX10, "usedBy", "(I)I"⟩
abbrev cX10_isUsed : ByteArray := prog_12_method_47_code
def yX10_isUsed : MethodName := ⟨RX10, "isUsed", "(II)Z"⟩
abbrev cX10_meaningOf : ByteArray := prog_12_method_48_code
def yX10_meaningOf : MethodName := ⟨RX10, "meaningOf", "(II)I"⟩
abbrev cX10_word : ByteArray := prog_12_method_49_code
def yX10_word : MethodName := ⟨RX10, "word", "(II)I"⟩
abbrev cX10_thought : ByteArray := prog_12_method_50_code
def yX10_thought : MethodName := ⟨RX10, "thought", "(II)I"⟩
abbrev cX10_weighs : ByteArray := prog_12_method_51_code
def yX10_weighs : MethodName := ⟨RX10, "weighs", "(II)V"⟩
abbrev cX10_actOf : ByteArray := prog_12_method_52_code
def yX10_actOf : MethodName := ⟨RX10, "actOf", "(II)I"⟩
abbrev cX10_does : ByteArray := prog_12_method_53_code
def yX10_does : MethodName := ⟨RX10, "does", "(II)I"⟩
abbrev cX10_acts : ByteArray := prog_12_method_54_code
def yX10_acts : MethodName := ⟨RX10, "acts", "(I)V"⟩
abbrev cX10_losesBy : ByteArray := prog_12_method_55_code
def yX10_losesBy : MethodName := ⟨RX10, "losesBy", "(IIII)J"⟩
abbrev cX10_failsAt : ByteArray := prog_12_method_56_code
def yX10_failsAt : MethodName := ⟨RX10, "failsAt", "(I)I"⟩
abbrev cX10_isWorse : ByteArray := prog_12_method_57_code
def yX10_isWorse : MethodName := ⟨RX10, "isWorse", "(II)Z"⟩
abbrev cX10_judge : ByteArray := prog_12_method_58_code
def yX10_judge : MethodName := ⟨RX10, "judge", "(I)I"⟩
abbrev cX10_regret : ByteArray := prog_12_method_59_code
def yX10_regret : MethodName := ⟨RX10, "regret", "(III)J"⟩
abbrev cX10_worthOf : ByteArray := prog_12_method_60_code
def yX10_worthOf : MethodName := ⟨RX10, "worthOf", "(II)J"⟩
abbrev cX10_worth : ByteArray := prog_12_method_61_code
def yX10_worth : MethodName := ⟨RX10, "worth", "(II)J"⟩
abbrev cX10_parts : ByteArray := prog_12_method_62_code
def yX10_parts : MethodName := ⟨RX10, "parts", "(II)V"⟩
abbrev cX10_hears : ByteArray := prog_12_method_63_code
def yX10_hears : MethodName := ⟨RX10, "hears", "(I)V"⟩
abbrev cX10_says_ : ByteArray := prog_12_method_64_code
def yX10_says_ : MethodName := ⟨RX10, "says", "(IIIII)J"⟩
abbrev cX10_stands : ByteArray := prog_12_method_65_code
def yX10_stands : MethodName := ⟨RX10, "stands", "(III)Z"⟩
abbrev cX10_isRun : ByteArray := prog_12_method_66_code
def yX10_isRun : MethodName := ⟨RX10, "isRun", "(II)Z"⟩
abbrev cX10_cutsN : ByteArray := prog_12_method_67_code
def yX10_cutsN : MethodName := ⟨RX10, "cutsN", "(I)I"⟩
abbrev cX10_holds_ : ByteArray := prog_12_method_68_code
def yX10_holds_ : MethodName := ⟨RX10, "holds", "(IIII)Z"⟩
abbrev cX10_runWorth : ByteArray := prog_12_method_69_code
def yX10_runWorth : MethodName := ⟨RX10, "runWorth", "(II)J"⟩
abbrev cX10_beside : ByteArray := prog_12_method_70_code
def yX10_beside : MethodName := ⟨RX10, "beside", "(II)J"⟩
abbrev cX10_runs : ByteArray := prog_12_method_71_code
def yX10_runs : MethodName := ⟨RX10, "runs", "(I)I"⟩
abbrev cX10_finestCuts : ByteArray := prog_12_method_72_code
def yX10_finestCuts : MethodName := ⟨RX10, "finestCuts", "(II)I"⟩
abbrev cX10_finest : ByteArray := prog_12_method_73_code
def yX10_finest : MethodName := ⟨RX10, "finest", "(I)I"⟩
abbrev cX10_bound : ByteArray := prog_12_method_74_code
def yX10_bound : MethodName := ⟨RX10, "bound", "(I)I"⟩
abbrev cX10_bestCuts : ByteArray := prog_12_method_75_code
def yX10_bestCuts : MethodName := ⟨RX10, "bestCuts", "(II)I"⟩
abbrev cX10_best : ByteArray := prog_12_method_76_code
def yX10_best : MethodName := ⟨RX10, "best", "(II)I"⟩
abbrev cX10_any : ByteArray := prog_12_method_77_code
def yX10_any : MethodName := ⟨RX10, "any", "(I)I"⟩
abbrev cX10_edge : ByteArray := prog_12_method_78_code
def yX10_edge : MethodName := ⟨RX10, "edge", "(II)I"⟩
abbrev cX10_room : ByteArray := prog_12_method_79_code
def yX10_room : MethodName := ⟨RX10, "room", "(I)I"⟩
abbrev cX10_doors : ByteArray := prog_12_method_80_code
def yX10_doors : MethodName := ⟨RX10, "doors", "(I)I"⟩
abbrev cX10_blurs : ByteArray := prog_12_method_81_code
def yX10_blurs : MethodName := ⟨RX10, "blurs", "(II)V"⟩
abbrev cX10_blurred : ByteArray := prog_12_method_82_code
def yX10_blurred : MethodName := ⟨RX10, "blurred", "(IIIII)J"⟩
abbrev cX10_arounds : ByteArray := prog_12_method_83_code
def yX10_arounds : MethodName := ⟨RX10, "arounds", "(II)V"⟩
abbrev cX10_blurStands : ByteArray := prog_12_method_84_code
def yX10_blurStands : MethodName := ⟨RX10, "blurStands", "(II)Z"⟩
abbrev cX10_blurWorth : ByteArray := prog_12_method_85_code
def yX10_blurWorth : MethodName := ⟨RX10, "blurWorth", "(II)J"⟩
abbrev cX10_middle : ByteArray := prog_12_method_86_code
def yX10_middle : MethodName := ⟨RX10, "middle", "(III)I"⟩
abbrev cX10_endsLoss : ByteArray := prog_12_method_87_code
def yX10_endsLoss : MethodName := ⟨RX10, "endsLoss", "(III)J"⟩
abbrev cX10_ends : ByteArray := prog_12_method_88_code
def yX10_ends : MethodName := ⟨RX10, "ends", "(III)J"⟩
abbrev cX10_within : ByteArray := prog_12_method_89_code
def yX10_within : MethodName := ⟨RX10, "within", "(I)I"⟩
abbrev cX10_liked : ByteArray := prog_12_method_90_code
def yX10_liked : MethodName := ⟨RX10, "liked", "(II)I"⟩
abbrev cX10_bestTwo : ByteArray := prog_12_method_91_code
def yX10_bestTwo : MethodName := ⟨RX10, "bestTwo", "(I)I"⟩
abbrev cX10_bestEnds : ByteArray := prog_12_method_92_code
def yX10_bestEnds : MethodName := ⟨RX10, "bestEnds", "(I)I"⟩
abbrev cX10_leave : ByteArray := prog_12_method_93_code
def yX10_leave : MethodName := ⟨RX10, "leave", "(I)I"⟩
abbrev cX10_agrees : ByteArray := prog_12_method_94_code
def yX10_agrees : MethodName := ⟨RX10, "agrees", "(IIII)Z"⟩
abbrev cX10_agree : ByteArray := prog_12_method_95_code
def yX10_agree : MethodName := ⟨RX10, "agree", "(II)I"⟩
abbrev cX10_still : ByteArray := prog_12_method_96_code
def yX10_still : MethodName := ⟨RX10, "still", "()I"⟩
abbrev cX10_drawn : ByteArray := prog_12_method_97_code
def yX10_drawn : MethodName := ⟨RX10, "drawn", "(I)I"⟩
abbrev cX10_draw : ByteArray := prog_12_method_98_code
def yX10_draw : MethodName := ⟨RX10, "draw", "(III)J"⟩
abbrev cX10_body : ByteArray := prog_12_method_99_code
def yX10_body : MethodName := ⟨RX10, "body", "(I)V"⟩
abbrev cX10_thinks : ByteArray := prog_12_method_100_code
def yX10_thinks : MethodName := ⟨RX10, "thinks", "(II)I"⟩
abbrev cX10_spoken : ByteArray := prog_12_method_101_code
def yX10_spoken : MethodName := ⟨RX10, "spoken", "(II)I"⟩
abbrev cX10_doing : ByteArray := prog_12_method_102_code
def yX10_doing : MethodName := ⟨RX10, "doing", "(II)I"⟩
abbrev cX10_act : ByteArray := prog_12_method_103_code
def yX10_act : MethodName := ⟨RX10, "act", "(III)I"⟩
abbrev cX10_trace : ByteArray := prog_12_method_104_code
def yX10_trace : MethodName := ⟨RX10, "trace", "(I)I"⟩
abbrev cX10_keeps : ByteArray := prog_12_method_105_code
def yX10_keeps : MethodName := ⟨RX10, "keeps", "([IIIZ)I"⟩
abbrev cX10_all : ByteArray := prog_12_method_106_code
def yX10_all : MethodName := ⟨RX10, "all", "(Z)V"⟩
abbrev cX10_image : ByteArray := prog_12_method_107_code
def yX10_image : MethodName := ⟨RX10, "image", "()I"⟩
abbrev cX10_restore : ByteArray := prog_12_method_108_code
def yX10_restore : MethodName := ⟨RX10, "restore", "()I"⟩
abbrev cX10_status : ByteArray := prog_12_method_109_code
def yX10_status : MethodName := ⟨RX10, "status", "(I)I"⟩
def RJ6 : String := "java/lang/Integer"
abbrev cJ6_bitCount_0f7a4 : ByteArray := prog_13_method_49_code
def yJ6_bitCount_0f7a4 : MethodName := ⟨RJ6, "bitCount", "(I)I"⟩
def RJ9 : String := "java/lang/Math"
abbrev cJ9_floorDiv_7cf53 : ByteArray := prog_14_method_47_code
def yJ9_floorDiv_7cf53 : MethodName := ⟨RJ9, "floorDiv", "(II)I"⟩
abbrev cJ9_floorDiv_f86c9 : ByteArray := prog_14_method_49_code
def yJ9_floorDiv_f86c9 : MethodName := ⟨RJ9, "floorDiv", "(JJ)J"⟩
abbrev cJ9_abs_0f7a4 : ByteArray := prog_14_method_59_code
def yJ9_abs_0f7a4 : MethodName := ⟨RJ9, "abs", "(I)I"⟩
abbrev cJ9_max_7cf53 : ByteArray := prog_14_method_65_code
def yJ9_max_7cf53 : MethodName := ⟨RJ9, "max", "(II)I"⟩
abbrev cJ9_min_7cf53 : ByteArray := prog_14_method_69_code
def yJ9_min_7cf53 : MethodName := ⟨RJ9, "min", "(II)I"⟩
def RJ0 : String := "java/lang/String"
abbrev cJ0_length_8abf5 : ByteArray := prog_15_method_54_code
def yJ0_length_8abf5 : MethodName := ⟨RJ0, "length", "()I"⟩
abbrev cJ0_charAt_5068e : ByteArray := prog_15_method_56_code
def yJ0_charAt_5068e : MethodName := ⟨RJ0, "charAt", "(I)C"⟩
abbrev cJ0_equals_9ea2d : ByteArray := prog_15_method_66_code
def yJ0_equals_9ea2d : MethodName := ⟨RJ0, "equals", "(Ljava/lang/Object;)Z"⟩
abbrev cJ0_coder_7d493 : ByteArray := prog_15_method_152_code
def yJ0_coder_7d493 : MethodName := ⟨RJ0, "coder", "()B"⟩
abbrev cJ0_isLatin1_aae02 : ByteArray := prog_15_method_154_code
def yJ0_isLatin1_aae02 : MethodName := ⟨RJ0, "isLatin1", "()Z"⟩
abbrev cJ0_checkIndex_df160 : ByteArray := prog_15_method_155_code
def yJ0_checkIndex_df160 : MethodName := ⟨RJ0, "checkIndex", "(II)V"⟩
def RJ1 : String := "java/lang/StringLatin1"
abbrev cJ1_charAt_3b067 : ByteArray := prog_16_method_2_code
def yJ1_charAt_3b067 : MethodName := ⟨RJ1, "charAt", "([BI)C"⟩
abbrev cJ1_equals_b5fdf : ByteArray := prog_16_method_13_code
def yJ1_equals_b5fdf : MethodName := ⟨RJ1, "equals", "([B[B)Z"⟩
def RJ2 : String := "java/lang/StringUTF16"
abbrev cJ2_getChar_3b067 : ByteArray := prog_17_method_5_code
def yJ2_getChar_3b067 : MethodName := ⟨RJ2, "getChar", "([BI)C"⟩
abbrev cJ2_length_9d52b : ByteArray := prog_17_method_6_code
def yJ2_length_9d52b : MethodName := ⟨RJ2, "length", "([B)I"⟩
abbrev cJ2_charAt_3b067 : ByteArray := prog_17_method_83_code
def yJ2_charAt_3b067 : MethodName := ⟨RJ2, "charAt", "([BI)C"⟩
abbrev cJ2_checkIndex_2214a : ByteArray := prog_17_method_91_code
def yJ2_checkIndex_2214a : MethodName := ⟨RJ2, "checkIndex", "(I[B)V"⟩
def RJ10 : String := "java/lang/System"
def RJ3 : String := "jdk/internal/util/Preconditions"
abbrev cJ3_checkIndex_8e157 : ByteArray := prog_19_method_11_code
def yJ3_checkIndex_8e157 : MethodName := ⟨RJ3, "checkIndex", "(IILjava/util/function/BiFunction;)I"⟩
def RL : String := "SaidForNothingLaw"
abbrev cL_law : ByteArray := code
def yL_law : MethodName := ⟨RL, "law", "([I)Z"⟩
abbrev vwCl : List vw_C := [(RX0, TX0, 5), (RX1, TX1, 1), (RX2, TX2, 5), (RX3, TX3, 5), (RX4, TX4, 15), (RX5, TX5, 5), (RX6, TX6, 5), (RX7, TX7, 4), (RX8, TX8, 10), (RX9, TX9, 11), (RX10, TX10, 57)]
theorem in_X0 : ∀ w ∈ u_ws RX0 TX0 5, w ∈ lw_tbl := by decide +kernel
theorem in_X1 : ∀ w ∈ u_ws RX1 TX1 1, w ∈ lw_tbl := by decide +kernel
theorem in_X2 : ∀ w ∈ u_ws RX2 TX2 5, w ∈ lw_tbl := by decide +kernel
theorem in_X3 : ∀ w ∈ u_ws RX3 TX3 5, w ∈ lw_tbl := by decide +kernel
theorem in_X4 : ∀ w ∈ u_ws RX4 TX4 15, w ∈ lw_tbl := by decide +kernel
theorem in_X5 : ∀ w ∈ u_ws RX5 TX5 5, w ∈ lw_tbl := by decide +kernel
theorem in_X6 : ∀ w ∈ u_ws RX6 TX6 5, w ∈ lw_tbl := by decide +kernel
theorem in_X7 : ∀ w ∈ u_ws RX7 TX7 4, w ∈ lw_tbl := by decide +kernel
theorem in_X8 : ∀ w ∈ u_ws RX8 TX8 10, w ∈ lw_tbl := by decide +kernel
theorem in_X9 : ∀ w ∈ u_ws RX9 TX9 11, w ∈ lw_tbl := by decide +kernel
theorem in_X10 : ∀ w ∈ u_ws RX10 TX10 57, w ∈ lw_tbl := by decide +kernel
end
section
/-! A SMALL MACHINE (sm_): the class's own instructions over a list of cells, addresses counted from 0. -/
abbrev sm_E : Type := ClassFile.Instr × Nat × Nat × Nat
abbrev sm_T : Type := List (Option sm_E)
abbrev sm_L : Type := List (Nat × Value)
abbrev sm_H : Type := List va_E
abbrev sm_F : Type := Nat × sm_L × List Value
def sm_ld : sm_L → Nat → Option Value
  | [], _ => none
  | q :: r, i => if q.1 = i then some q.2 else sm_ld r i
def sm_st1 (lv : sm_L) (i : Nat) (v : Value) : sm_L := (i, v) :: lv.filter (fun q => !(q.1 == i) && !(q.1 + 1 == i && q.2.category == 2))
def sm_st2 (lv : sm_L) (i : Nat) (v : Value) : sm_L := (i, v) :: lv.filter (fun q => !(q.1 == i) && (!(q.1 == i + 1) && !(q.1 + 1 == i && q.2.category == 2)))
def sm_bi (pc : Nat) (lv : sm_L) (f : Int32 → Int32 → Int32) : List Value → Option sm_F
  | .int y :: .int x :: r => some (pc + 1, lv, .int (f x y) :: r)
  | _ => none
def sm_bl (pc : Nat) (lv : sm_L) (f : Int64 → Int64 → Int64) : List Value → Option sm_F
  | .long y :: .long x :: r => some (pc + 1, lv, .long (f x y) :: r)
  | _ => none
def sm_ui (pc : Nat) (lv : sm_L) (f : Int32 → Value) : List Value → Option sm_F
  | .int x :: r => some (pc + 1, lv, f x :: r)
  | _ => none
def sm_ul (pc : Nat) (lv : sm_L) (f : Int64 → Value) : List Value → Option sm_F
  | .long x :: r => some (pc + 1, lv, f x :: r)
  | _ => none
def sm_cmp (c : ClassFile.Cond) (x y : Int32) : Prop := match c with
  | .eq => x = y
  | .ne => ¬ x = y
  | .lt => x < y
  | .ge => y ≤ x
  | .gt => y < x
  | .le => x ≤ y
def sm_dec (c : ClassFile.Cond) (x y : Int32) : Decidable (sm_cmp c x y) := by
  cases c <;> unfold sm_cmp <;> infer_instance
def sm_if (c : ClassFile.Cond) (x y : Int32) (a b : Nat) : Nat := @ite Nat (sm_cmp c x y) (sm_dec c x y) a b
def sm_lod (pc : Nat) (lv : sm_L) (st : List Value) (i n k : Nat) : Option sm_F := match sm_ld lv i, k with
  | some (.int x), 0 => some (pc + n, lv, .int x :: st)
  | some (.long x), 1 => some (pc + n, lv, .long x :: st)
  | some (.ref x), 2 => some (pc + n, lv, .ref x :: st)
  | some .null, 2 => some (pc + n, lv, .null :: st)
  | _, _ => none
def sm_sto (pc : Nat) (lv : sm_L) (nL i n k : Nat) : List Value → Option sm_F
  | .int x :: r => if k = 0 ∧ i < nL then some (pc + n, sm_st1 lv i (.int x), r) else none
  | .long x :: r => if k = 1 ∧ i + 1 < nL then some (pc + n, sm_st2 lv i (.long x), r) else none
  | .ref x :: r => if k = 2 ∧ i < nL then some (pc + n, sm_st1 lv i (.ref x), r) else none
  | .null :: r => if k = 2 ∧ i < nL then some (pc + n, sm_st1 lv i .null, r) else none
  | _ => none
def sm_tgt (pc : Nat) (off : Int) : Option Nat := if 0 ≤ (pc : Int) + off then some ((pc : Int) + off).toNat else none
/-- steps that touch stack and locals alone -/
def sm_p (e : sm_E) (nL pc : Nat) (lv : sm_L) (st : List Value) : Option sm_F := match e.1 with
  | .iload_n k => sm_lod pc lv st k.val 1 0
  | .iload i => sm_lod pc lv st i 2 0
  | .lload_n k => sm_lod pc lv st k.val 1 1
  | .lload i => sm_lod pc lv st i 2 1
  | .aload_n k => sm_lod pc lv st k.val 1 2
  | .aload i => sm_lod pc lv st i 2 2
  | .istore_n k => sm_sto pc lv nL k.val 1 0 st
  | .istore i => sm_sto pc lv nL i 2 0 st
  | .lstore_n k => sm_sto pc lv nL k.val 1 1 st
  | .lstore i => sm_sto pc lv nL i 2 1 st
  | .astore_n k => sm_sto pc lv nL k.val 1 2 st
  | .astore i => sm_sto pc lv nL i 2 2 st
  | .iconst n => some (pc + 1, lv, .int (Int32.ofInt n) :: st)
  | .bipush n => some (pc + 2, lv, .int ((Int8.ofInt n).toInt32) :: st)
  | .sipush n => some (pc + 3, lv, .int ((Int16.ofInt n).toInt32) :: st)
  | .lconst n => some (pc + 1, lv, .long (Int64.ofNat (n : Nat)) :: st)
  | .aconst_null => some (pc + 1, lv, .null :: st)
  | .iadd => sm_bi pc lv (fun x y => x + y) st
  | .isub => sm_bi pc lv (fun x y => x - y) st
  | .imul => sm_bi pc lv (fun x y => x * y) st
  | .iand => sm_bi pc lv (fun x y => x &&& y) st
  | .ior => sm_bi pc lv (fun x y => x ||| y) st
  | .ixor => sm_bi pc lv (fun x y => x ^^^ y) st
  | .ishl => sm_bi pc lv (fun x y => x <<< (y &&& 31)) st
  | .ishr => sm_bi pc lv (fun x y => x >>> (y &&& 31)) st
  | .iushr => sm_bi pc lv (fun x y => (x.toUInt32 >>> (y.toUInt32 &&& Int32.toUInt32 31)).toInt32) st
  | .ineg => sm_ui pc lv (fun x => .int (-x)) st
  | .ladd => sm_bl pc lv (fun x y => x + y) st
  | .lsub => sm_bl pc lv (fun x y => x - y) st
  | .lmul => sm_bl pc lv (fun x y => x * y) st
  | .land => sm_bl pc lv (fun x y => x &&& y) st
  | .lor => sm_bl pc lv (fun x y => x ||| y) st
  | .lxor => sm_bl pc lv (fun x y => x ^^^ y) st
  | .lneg => sm_ul pc lv (fun x => .long (-x)) st
  | .i2l => sm_ui pc lv (fun x => .long x.toInt64) st
  | .l2i => sm_ul pc lv (fun x => .int x.toInt32) st
  | .i2b => sm_ui pc lv (fun x => .int x.toInt8.toInt32) st
  | .i2s => sm_ui pc lv (fun x => .int x.toInt16.toInt32) st
  | .idiv => match st with
    | .int y :: .int x :: r => if ¬ y = 0 then some (pc + 1, lv, .int (x / y) :: r) else none
    | _ => none
  | .irem => match st with
    | .int y :: .int x :: r => if ¬ y = 0 then some (pc + 1, lv, .int (x - x / y * y) :: r) else none
    | _ => none
  | .ldiv => match st with
    | .long y :: .long x :: r => if ¬ y = 0 then some (pc + 1, lv, .long (x / y) :: r) else none
    | _ => none
  | .lcmp => match st with
    | .long y :: .long x :: r => some (pc + 1, lv, .int (lg_cmp x y) :: r)
    | _ => none
  | .lshl => match st with
    | .int y :: .long x :: r => some (pc + 1, lv, .long (x <<< (y.toInt64 &&& 63)) :: r)
    | _ => none
  | .dup => match st with
    | v :: r => if v.category = 1 then some (pc + 1, lv, v :: v :: r) else none
    | _ => none
  | .pop => match st with
    | v :: r => if v.category = 1 then some (pc + 1, lv, r) else none
    | _ => none
  | .dup_x1 => match st with
    | v :: w :: r => if v.category = 1 ∧ w.category = 1 then some (pc + 1, lv, v :: w :: v :: r) else none
    | _ => none
  | .dup2 => match st with
    | v :: w :: r => if v.category = 1 ∧ w.category = 1 then some (pc + 1, lv, v :: w :: v :: w :: r) else none
    | _ => none
  | .iinc i n => match sm_ld lv i with
    | some (.int x) => if i < nL then some (pc + 3, sm_st1 lv i (.int (x + Int32.ofInt n)), st) else none
    | _ => none
  | .goto _ => some (e.2.1, lv, st)
  | .ifCond c _ => match st with
    | .int x :: r => some (sm_if c x 0 e.2.1 (pc + 3), lv, r)
    | _ => none
  | .if_icmp c _ => match st with
    | .int y :: .int x :: r => some (sm_if c x y e.2.1 (pc + 3), lv, r)
    | _ => none
  | .ifnull _ => match st with
    | .ref _ :: r => some (pc + 3, lv, r)
    | .null :: r => some (e.2.1, lv, r)
    | _ => none
  | .ifnonnull _ => match st with
    | .ref _ :: r => some (e.2.1, lv, r)
    | .null :: r => some (pc + 3, lv, r)
    | _ => none
  | .tableswitch dflt lo hi offs => match st with
    | .int x :: r => if x.toInt < lo ∨ hi < x.toInt then (sm_tgt pc dflt).map (fun t => (t, lv, r)) else match offs[(x.toInt - lo).toNat]? with
      | some off => (sm_tgt pc off).map (fun t => (t, lv, r))
      | none => none
    | _ => none
  | .lookupswitch dflt ps => match st with
    | .int x :: r => if (ps.toList.zip (ps.toList.drop 1)).all (fun (a, next) => a.1 < next.1) = true then (sm_tgt pc (Op.lookupswitch.offset ps.toList dflt x.toInt)).map (fun t => (t, lv, r)) else none
    | _ => none
  | _ => none
/-- kinds of fields: 0 int, 1 boolean, 2 long, 3 reference -/
def sm_fok (k : Nat) : Value → Bool
  | .int x => k == 0 || (k == 1 && (decide (x = 0) || decide (x = 1)))
  | .long _ => k == 2
  | .ref _ => k == 3
  | .null => k == 3
  | _ => false
def sm_gf (fs : List Value) (b : Nat) : Option Value := fs[b]?
/-- steps that read or write one cell: the length, the stack, the heap behind it -/
def sm_h (e : sm_E) (st : List Value) (h : sm_H) : Option (Nat × List Value × sm_H) := match e.1 with
  | .getfield _ => match st with
    | .ref a :: r => match h[a]? with
      | some (.inr (ci, fs)) => if ci = e.2.1 then match fs[e.2.2.1]? with
          | some v => some (3, v :: r, h)
          | none => none
        else none
      | _ => none
    | _ => none
  | .putfield _ => match st with
    | v :: .ref a :: r => match h[a]? with
      | some (.inr (ci, fs)) => if ci = e.2.1 ∧ e.2.2.1 < fs.length ∧ sm_fok (e.2.2.2 % 10) v = true then some (3, r, h.set a (.inr (ci, fs.set e.2.2.1 v))) else none
      | _ => none
    | _ => none
  | .arraylength => match st with
    | .ref a :: r => match h[a]? with
      | some (.inl (t, n, _)) => if t < 5 then some (1, .int (Int32.ofNat n) :: r, h) else none
      | _ => none
    | _ => none
  | .iaload => match st with
    | .int i :: .ref a :: r => match h[a]? with
      | some (.inl (t, n, .inl f)) => if t = 0 ∧ ¬ (i < 0 ∨ n ≤ i.toNatClampNeg) then some (1, .int (f i.toNatClampNeg) :: r, h) else none
      | _ => none
    | _ => none
  | .iastore => match st with
    | .int x :: .int i :: .ref a :: r => match h[a]? with
      | some (.inl (t, n, .inl f)) => if t = 0 ∧ ¬ (i < 0 ∨ n ≤ i.toNatClampNeg) then some (1, r, h.set a (.inl (t, n, .inl (upd f i.toNatClampNeg x)))) else none
      | _ => none
    | _ => none
  | .laload => match st with
    | .int i :: .ref a :: r => match h[a]? with
      | some (.inl (t, n, .inr (.inl f))) => if t = 1 ∧ ¬ (i < 0 ∨ n ≤ i.toNatClampNeg) then some (1, .long (f i.toNatClampNeg) :: r, h) else none
      | _ => none
    | _ => none
  | .lastore => match st with
    | .long x :: .int i :: .ref a :: r => match h[a]? with
      | some (.inl (t, n, .inr (.inl f))) => if t = 1 ∧ ¬ (i < 0 ∨ n ≤ i.toNatClampNeg) then some (1, r, h.set a (.inl (t, n, .inr (.inl (vp_updL f i.toNatClampNeg x))))) else none
      | _ => none
    | _ => none
  | .aaload => match st with
    | .int i :: .ref a :: r => match h[a]? with
      | some (.inl (t, n, .inr (.inr (.inr (.inr f))))) => if (t = 2 ∨ t = 3 ∨ t = 4) ∧ ¬ (i < 0 ∨ n ≤ i.toNatClampNeg) then some (1, va_rf (f i.toNatClampNeg) :: r, h) else none
      | _ => none
    | _ => none
  | _ => none
end
section
/-! the small machine's run -/
/-- a method: its name, code, locals, answer, table -/
abbrev sm_I : Type := MethodName × ByteArray × Nat × Option FieldType × sm_T
/-- a new object's fields, by kind -/
def sm_df (ci : Nat) : List Value := match vwCl[ci]? with
  | some q => (List.range q.2.2).map (fun k => match parseFieldDescriptor (q.2.1 k).2.2.1 with
    | some t => defaultValue t
    | none => .null)
  | none => []
def sm_cat (st : List Value) : Nat := (st.map fun v => v.category).sum
/-- a constant text's bytes -/
def sm_tx (i : Nat) : List Nat := match i with
  | 0 => [115, 111, 32]
  | 1 => [119, 105, 115, 104]
  | 2 => [119, 111, 114, 100, 115]
  | 3 => [108, 101, 97, 110]
  | 4 => [108, 111, 115, 115]
  | 5 => [116, 119, 111]
  | _ => []
/-- an array of references: the kind of what it holds -/
def sm_ek (t : Nat) : Nat := match t with
  | 2 => 3
  | 3 => 6
  | _ => 8
/-- steps that make cells, take constants, texts, or copy; d: how many calls may stand open -/
def sm_k (e : sm_E) (d : Nat) (st : List Value) (h : sm_H) : Option (Nat × List Value × sm_H) := match e.1 with
  | .new _ => if e.2.1 < 11 ∧ h.length < 999 then some (3, .ref h.length :: st, h ++ [.inr (e.2.1, sm_df e.2.1)]) else none
  | .newarray .int => match st with
    | .int n :: r => if ¬ n < 0 ∧ n.toNatClampNeg ≤ 10000 ∧ h.length < 999 then some (2, .ref h.length :: r, h ++ [.inl (0, n.toNatClampNeg, .inl (fun _ => 0))]) else none
    | _ => none
  | .newarray .long => match st with
    | .int n :: r => if ¬ n < 0 ∧ n.toNatClampNeg ≤ 10000 ∧ h.length < 999 then some (2, .ref h.length :: r, h ++ [.inl (1, n.toNatClampNeg, .inr (.inl (fun _ => 0)))]) else none
    | _ => none
  | .anewarray _ => match st with
    | .int n :: r => if (e.2.1 = 2 ∨ e.2.1 = 3 ∨ e.2.1 = 4) ∧ ¬ n < 0 ∧ n.toNatClampNeg ≤ 10000 ∧ h.length < 999 then some (3, .ref h.length :: r, h ++ [.inl (e.2.1, n.toNatClampNeg, .inr (.inr (.inr (.inr (fun _ => none)))))]) else none
    | _ => none
  | .aastore => match st with
    | .ref v :: .int i :: .ref a :: r => match h[a]?, h[v]? with
      | some (.inl (t, n, .inr (.inr (.inr (.inr f))))), some (.inr (ci, _)) => if (t = 2 ∨ t = 3 ∨ t = 4) ∧ ci = sm_ek t ∧ ¬ (i < 0 ∨ n ≤ i.toNatClampNeg) then some (1, r, h.set a (.inl (t, n, .inr (.inr (.inr (.inr (va_up f i.toNatClampNeg (some v)))))))) else none
      | _, _ => none
    | _ => none
  | .ldc _ => if e.2.2.2 = 0 then some (2, .int (Int32.ofNat e.2.1) :: st, h) else if e.2.2.2 = 1 ∧ e.2.1 < 6 then some (2, .ref (1000 + e.2.1) :: st, h) else none
  | .ldc_w _ => some (3, .int (Int32.ofNat e.2.1) :: st, h)
  | .ldc2_w _ => some (3, .long (Int64.ofNat e.2.1) :: st, h)
  | .invokespecial _ => match st with
    | .ref _ :: r => if e.2.1 = 999 ∧ 1 ≤ d ∧ sm_cat r ≤ 8 then some (3, r, h) else none
    | _ => none
  | .invokestatic _ => match st with
    | .int n :: .int dp :: .ref b :: .int sp :: .ref a :: r => match h[a]?, h[b]? with
      | some (.inl (ta, na, .inr (.inl f))), some (.inl (tb, nb, .inr (.inl g))) => if e.2.1 = 998 ∧ 1 ≤ d ∧ sm_cat r ≤ 8 ∧ ta = 1 ∧ tb = 1 ∧ ¬ sp < 0 ∧ ¬ dp < 0 ∧ ¬ n < 0 ∧ sp.toNatClampNeg + n.toNatClampNeg ≤ na ∧ dp.toNatClampNeg + n.toNatClampNeg ≤ nb then some (3, r, h.set b (.inl (tb, nb, .inr (.inl (va_cpy f g sp.toNatClampNeg dp.toNatClampNeg n.toNatClampNeg))))) else none
      | _, _ => none
    | _ => none
  | _ => none
/-- calls of the texts' own methods: length, charAt, equals -/
def sm_x (e : sm_E) (d : Nat) (st : List Value) : Option (List Value) := match e.1 with
  | .invokevirtual _ => if e.2.1 = 900 then match st with
      | .ref a :: r => if 6 ≤ d ∧ sm_cat r ≤ 8 ∧ 1000 ≤ a ∧ a < 1006 then some (.int (Int32.ofNat (sm_tx (a - 1000)).length) :: r) else none
      | _ => none
    else if e.2.1 = 901 then match st with
      | .int i :: .ref a :: r => if 6 ≤ d ∧ sm_cat r ≤ 8 ∧ 1000 ≤ a ∧ a < 1006 ∧ ¬ (i < 0 ∨ (sm_tx (a - 1000)).length ≤ i.toNatClampNeg) then some (.int (Int32.ofNat ((sm_tx (a - 1000)).getD i.toNatClampNeg 0)) :: r) else none
      | _ => none
    else if e.2.1 = 902 then match st with
      | .ref b :: .ref a :: r => if 6 ≤ d ∧ sm_cat r ≤ 8 ∧ 1000 ≤ a ∧ a < 1006 ∧ 1000 ≤ b ∧ b < 1006 then some (.int (if a = b then 1 else 0) :: r) else none
      | _ => none
    else none
  | _ => none
/-- a method's end -/
def sm_rt (e : sm_E) (ret : Option FieldType) (st : List Value) : Option (Option Value) := match e.1, ret, st with
  | .return_, none, [] => some none
  | .ireturn, some .int, [.int v] => some (some (.int v))
  | .ireturn, some .boolean, [.int v] => if v = 0 ∨ v = 1 then some (some (.int v)) else none
  | .lreturn, some .long, [.long v] => some (some (.long v))
  | .areturn, some (.object _), [.ref a] => some (some (.ref a))
  | .areturn, some (.object _), [.null] => some (some .null)
  | _, _, _ => none
/-- a call: who, with what, what stays on the stack -/
def sm_cl (e : sm_E) (st : List Value) (h : sm_H) : Option (Nat × List Value × List Value) := match e.1 with
  | .invokevirtual _ => match st.drop e.2.2.1 with
    | .ref b :: r => match h[b]? with
      | some (.inr (ci, _)) => if ci = e.2.2.2 ∧ sm_cat r ≤ 8 ∧ e.2.2.1 ≤ st.length then some (e.2.1, .ref b :: (st.take e.2.2.1).reverse, r) else none
      | _ => none
    | _ => none
  | .invokespecial _ => match st.drop e.2.2.1 with
    | .ref b :: r => if sm_cat r ≤ 8 ∧ e.2.2.1 ≤ st.length then some (e.2.1, .ref b :: (st.take e.2.2.1).reverse, r) else none
    | _ => none
  | .invokestatic _ => if sm_cat (st.drop e.2.2.1) ≤ 8 ∧ e.2.2.1 ≤ st.length then some (e.2.1, (st.take e.2.2.1).reverse, st.drop e.2.2.1) else none
  | _ => none
def sm_run (M : Nat → Option sm_I) : Nat → Nat → sm_I → Nat → sm_L → List Value → sm_H → Option (Option Value × sm_H)
  | 0, _, _, _, _, _, _ => none
  | n + 1, d, I, pc, lv, st, h => match I.2.2.2.2[pc]? with
    | some (some e) => match sm_p e I.2.2.1 pc lv st with
      | some g => sm_run M n d I g.1 g.2.1 g.2.2 h
      | none => match sm_h e st h with
        | some g => sm_run M n d I (pc + g.1) lv g.2.1 g.2.2
        | none => match sm_k e d st h with
          | some g => sm_run M n d I (pc + g.1) lv g.2.1 g.2.2
          | none => match sm_x e d st with
            | some g => sm_run M n d I (pc + 3) lv g h
            | none => match sm_rt e I.2.2.2.1 st with
              | some v => some (v, h)
              | none => match sm_cl e st h with
                | some g => match d with
                  | 0 => none
                  | d + 1 => match M g.1 with
                    | some J => if sm_cat g.2.1 ≤ J.2.2.1 then match sm_run M n d J 0 (lv_args 0 g.2.1) [] h with
                        | some q => sm_run M n (d + 1) I (pc + 3) lv (q.1.toList ++ g.2.2) q.2
                        | none => none
                      else none
                    | none => none
                | none => none
    | _ => none
theorem sm_run_up (M : Nat → Option sm_I) : ∀ (n d : Nat) (I : sm_I) (pc : Nat) (lv : sm_L) (st : List Value) (h : sm_H) (r : Option Value × sm_H), sm_run M n d I pc lv st h = some r → sm_run M (n + 1) d I pc lv st h = some r := by
  intro n
  induction n with
  | zero => intro d I pc lv st h r hr; cases hr
  | succ n ih =>
    intro d I pc lv st h r hr
    unfold sm_run at hr ⊢
    split at hr
    · rename_i e he
      try rw [he]
      try dsimp only
      split at hr
      · rename_i g hg
        try rw [hg]
        exact ih _ _ _ _ _ _ _ hr
      · rename_i hg
        try rw [hg]
        try dsimp only
        split at hr
        · rename_i g hg
          try rw [hg]
          exact ih _ _ _ _ _ _ _ hr
        · rename_i hg
          try rw [hg]
          try dsimp only
          split at hr
          · rename_i g hg
            try rw [hg]
            exact ih _ _ _ _ _ _ _ hr
          · rename_i hg
            try rw [hg]
            try dsimp only
            split at hr
            · rename_i g hg
              try rw [hg]
              exact ih _ _ _ _ _ _ _ hr
            · rename_i hg
              try rw [hg]
              try dsimp only
              split at hr
              · rename_i g hg
                try rw [hg]
                exact hr
              · rename_i hg
                try rw [hg]
                try dsimp only
                split at hr
                · rename_i g hg
                  try rw [hg]
                  try dsimp only
                  split at hr
                  · cases hr
                  · split at hr
                    · rename_i J hJ
                      try rw [hJ]
                      try dsimp only
                      split at hr
                      · rename_i hcat
                        try rw [if_pos hcat]
                        split at hr
                        · rename_i q hq
                          rw [ih _ _ _ _ _ _ _ hq]
                          exact ih _ _ _ _ _ _ _ hr
                        · cases hr
                      · cases hr
                    · cases hr
                · cases hr
    · cases hr
theorem sm_run_le (M : Nat → Option sm_I) {n k d : Nat} {I : sm_I} {pc : Nat} {lv : sm_L} {st : List Value} {h : sm_H} {r : Option Value × sm_H} (hk : n ≤ k) (hr : sm_run M n d I pc lv st h = some r) : sm_run M k d I pc lv st h = some r := by
  induction hk with
  | refl => exact hr
  | step _ ih => exact sm_run_up M _ _ _ _ _ _ _ _ ih
/-- how many slots the cells have -/
def sm_sz : va_E → Nat
  | .inl q => q.2.1
  | .inr o => o.2.length
def sm_sl (h : sm_H) : Nat := (h.map sm_sz).sum
theorem sm_sl_set {h : sm_H} {a : Nat} {c c' : va_E} (hc : h[a]? = some c) (he : sm_sz c' = sm_sz c) : sm_sl (h.set a c') = sm_sl h := by
  induction h generalizing a with
  | nil => cases hc
  | cons x t ih =>
    cases a with
    | zero =>
      have : x = c := by simpa using hc
      subst this
      simp [sm_sl, he]
    | succ a =>
      have := ih (a := a) (by simpa using hc)
      simp only [sm_sl, List.set_cons_succ, List.map_cons, List.sum_cons] at this ⊢
      omega
theorem sm_h_size {e : sm_E} {st : List Value} {h : sm_H} {g : Nat × List Value × sm_H} (hg : sm_h e st h = some g) : g.2.2.length = h.length ∧ sm_sl g.2.2 = sm_sl h := by
  unfold sm_h at hg
  repeat' split at hg
  all_goals first
    | (cases hg; done)
    | (cases hg; exact ⟨rfl, rfl⟩)
    | (cases hg; refine ⟨by simp, ?_⟩; refine sm_sl_set (by assumption) ?_; simp [sm_sz])
theorem sm_k_size {e : sm_E} {d : Nat} {st : List Value} {h : sm_H} {g : Nat × List Value × sm_H} (hg : sm_k e d st h = some g) : h.length ≤ g.2.2.length ∧ sm_sl h ≤ sm_sl g.2.2 := by
  unfold sm_k at hg
  repeat' split at hg
  all_goals first
    | (cases hg; done)
    | (cases hg; exact ⟨Nat.le_refl _, Nat.le_refl _⟩)
    | (cases hg; refine ⟨by simp, ?_⟩; simp [sm_sl]; done)
    | (cases hg; refine ⟨by simp, ?_⟩; refine Nat.le_of_eq (sm_sl_set (by assumption) ?_).symm; simp [sm_sz])
theorem sm_run_size (M : Nat → Option sm_I) : ∀ (n d : Nat) (I : sm_I) (pc : Nat) (lv : sm_L) (st : List Value) (h : sm_H) (r : Option Value × sm_H), sm_run M n d I pc lv st h = some r → h.length ≤ r.2.length ∧ sm_sl h ≤ sm_sl r.2 := by
  intro n
  induction n with
  | zero => intro d I pc lv st h r hr; cases hr
  | succ n ih =>
    intro d I pc lv st h r hr
    unfold sm_run at hr
    split at hr
    · split at hr
      · exact ih _ _ _ _ _ _ _ hr
      · split at hr
        · rename_i g hg
          obtain ⟨a1, a2⟩ := sm_h_size hg
          obtain ⟨b1, b2⟩ := ih _ _ _ _ _ _ _ hr
          omega
        · split at hr
          · rename_i g hg
            obtain ⟨a1, a2⟩ := sm_k_size hg
            obtain ⟨b1, b2⟩ := ih _ _ _ _ _ _ _ hr
            omega
          · split at hr
            · exact ih _ _ _ _ _ _ _ hr
            · split at hr
              · cases hr; exact ⟨Nat.le_refl _, Nat.le_refl _⟩
              · split at hr
                · split at hr
                  · cases hr
                  · split at hr
                    · split at hr
                      · split at hr
                        · rename_i q hq
                          obtain ⟨a1, a2⟩ := ih _ _ _ _ _ _ _ hq
                          obtain ⟨b1, b2⟩ := ih _ _ _ _ _ _ _ hr
                          omega
                        · cases hr
                      · cases hr
                    · cases hr
                · cases hr
    · cases hr
end
section
/-! the small machine stands for the real one: steps on stack and locals -/
def sm_cv (B : Nat → Nat) : Value → Value
  | .ref a => .ref (B a)
  | v => v
def sm_cL (B : Nat → Nat) (lv : sm_L) : List (Nat × Value) := lv.map (fun q => (q.1, sm_cv B q.2))
def sm_cS (B : Nat → Nat) (st : List Value) : List Value := st.map (sm_cv B)
theorem sm_cv_cat (B : Nat → Nat) (v : Value) : (sm_cv B v).category = v.category := by cases v <;> rfl
theorem sm_cS_cat (B : Nat → Nat) (st : List Value) : sm_cat (sm_cS B st) = sm_cat st := by
  unfold sm_cat sm_cS
  rw [List.map_map]
  congr 1
  exact List.map_congr_left fun v _ => sm_cv_cat B v
theorem sm_ld_mem {lv : sm_L} {i : Nat} {v : Value} (h : sm_ld lv i = some v) : (i, v) ∈ lv := by
  induction lv with
  | nil => cases h
  | cons q r ih =>
    unfold sm_ld at h
    split at h
    · rename_i hq
      obtain ⟨a, b⟩ := q
      cases h
      dsimp only at hq
      subst hq
      exact List.mem_cons_self
    · exact List.mem_cons_of_mem _ (ih h)
theorem sm_ld_at {B : Nat → Nat} {ls : Array Slot} {nL : Nat} {lv : sm_L} (hl : lv_has ls nL (sm_cL B lv)) {i : Nat} {v : Value} (h : sm_ld lv i = some v) : ls[i]? = some (.val (sm_cv B v)) :=
  hl.2.2 (i, sm_cv B v) (List.mem_map.mpr ⟨(i, v), sm_ld_mem h, rfl⟩)
theorem sm_st1_map (B : Nat → Nat) (lv : sm_L) (i : Nat) (v : Value) : (i, sm_cv B v) :: (sm_cL B lv).filter (fun q => !(q.1 == i) && !(q.1 + 1 == i && q.2.category == 2)) = sm_cL B (sm_st1 lv i v) := by
  unfold sm_st1 sm_cL
  rw [List.map_cons, List.filter_map]
  congr 3
  funext q
  simp [sm_cv_cat]
theorem sm_st2_map (B : Nat → Nat) (lv : sm_L) (i : Nat) (v : Value) : (i, sm_cv B v) :: (sm_cL B lv).filter (fun q => !(q.1 == i) && (!(q.1 == i + 1) && !(q.1 + 1 == i && q.2.category == 2))) = sm_cL B (sm_st2 lv i v) := by
  unfold sm_st2 sm_cL
  rw [List.map_cons, List.filter_map]
  congr 3
  funext q
  simp [sm_cv_cat]
theorem sm_lod_i {pc : Nat} {lv : sm_L} {st : List Value} {i n : Nat} {g : sm_F} (h : sm_lod pc lv st i n 0 = some g) : ∃ x, sm_ld lv i = some (.int x) ∧ g = (pc + n, lv, .int x :: st) := by
  unfold sm_lod at h; split at h <;> simp_all
theorem sm_lod_l {pc : Nat} {lv : sm_L} {st : List Value} {i n : Nat} {g : sm_F} (h : sm_lod pc lv st i n 1 = some g) : ∃ x, sm_ld lv i = some (.long x) ∧ g = (pc + n, lv, .long x :: st) := by
  unfold sm_lod at h; split at h <;> simp_all
theorem sm_lod_a {pc : Nat} {lv : sm_L} {st : List Value} {i n : Nat} {g : sm_F} (h : sm_lod pc lv st i n 2 = some g) : (∃ x, sm_ld lv i = some (.ref x) ∧ g = (pc + n, lv, .ref x :: st)) ∨ (sm_ld lv i = some .null ∧ g = (pc + n, lv, .null :: st)) := by
  unfold sm_lod at h; split at h <;> simp_all
theorem sm_sto_i {pc : Nat} {lv : sm_L} {nL i n : Nat} {st : List Value} {g : sm_F} (h : sm_sto pc lv nL i n 0 st = some g) : ∃ x r, st = .int x :: r ∧ i < nL ∧ g = (pc + n, sm_st1 lv i (.int x), r) := by
  unfold sm_sto at h; split at h <;> simp_all
theorem sm_sto_l {pc : Nat} {lv : sm_L} {nL i n : Nat} {st : List Value} {g : sm_F} (h : sm_sto pc lv nL i n 1 st = some g) : ∃ x r, st = .long x :: r ∧ i + 1 < nL ∧ g = (pc + n, sm_st2 lv i (.long x), r) := by
  unfold sm_sto at h; split at h <;> simp_all
theorem sm_sto_a {pc : Nat} {lv : sm_L} {nL i n : Nat} {st : List Value} {g : sm_F} (h : sm_sto pc lv nL i n 2 st = some g) : (∃ x r, st = .ref x :: r ∧ i < nL ∧ g = (pc + n, sm_st1 lv i (.ref x), r)) ∨ (∃ r, st = .null :: r ∧ i < nL ∧ g = (pc + n, sm_st1 lv i .null, r)) := by
  unfold sm_sto at h; split at h <;> simp_all
theorem sm_bi_inv {pc : Nat} {lv : sm_L} {f : Int32 → Int32 → Int32} {st : List Value} {g : sm_F} (h : sm_bi pc lv f st = some g) : ∃ x y r, st = .int y :: .int x :: r ∧ g = (pc + 1, lv, .int (f x y) :: r) := by
  unfold sm_bi at h
  split at h
  · cases h; exact ⟨_, _, _, rfl, rfl⟩
  · cases h
theorem sm_bl_inv {pc : Nat} {lv : sm_L} {f : Int64 → Int64 → Int64} {st : List Value} {g : sm_F} (h : sm_bl pc lv f st = some g) : ∃ x y r, st = .long y :: .long x :: r ∧ g = (pc + 1, lv, .long (f x y) :: r) := by
  unfold sm_bl at h
  split at h
  · cases h; exact ⟨_, _, _, rfl, rfl⟩
  · cases h
theorem sm_ui_inv {pc : Nat} {lv : sm_L} {f : Int32 → Value} {st : List Value} {g : sm_F} (h : sm_ui pc lv f st = some g) : ∃ x r, st = .int x :: r ∧ g = (pc + 1, lv, f x :: r) := by
  unfold sm_ui at h; split at h <;> simp_all
theorem sm_ul_inv {pc : Nat} {lv : sm_L} {f : Int64 → Value} {st : List Value} {g : sm_F} (h : sm_ul pc lv f st = some g) : ∃ x r, st = .long x :: r ∧ g = (pc + 1, lv, f x :: r) := by
  unfold sm_ul at h; split at h <;> simp_all
/-- lengths of instructions -/
def sm_len (i : ClassFile.Instr) : Nat := match i with
  | .iload _ | .lload _ | .aload _ | .istore _ | .lstore _ | .astore _ | .bipush _ | .newarray _ | .ldc _ => 2
  | .sipush _ | .iinc _ _ | .goto _ | .ifCond _ _ | .if_icmp _ _ | .ifnull _ | .ifnonnull _ | .getfield _ | .putfield _ | .new _ | .anewarray _ | .ldc_w _ | .ldc2_w _ | .invokevirtual _ | .invokespecial _ | .invokestatic _ => 3
  | _ => 1
def sm_sw (i : ClassFile.Instr) : Bool := match i with
  | .tableswitch _ _ _ _ => true
  | .lookupswitch _ _ => true
  | _ => false
def sm_jok (pc : Nat) (e : sm_E) : Bool := match e.1 with
  | .goto o => decide ((pc : Int) + o = (e.2.1 : Int))
  | .ifCond _ o => decide ((pc : Int) + o = (e.2.1 : Int))
  | .if_icmp _ o => decide ((pc : Int) + o = (e.2.1 : Int))
  | .ifnull o => decide ((pc : Int) + o = (e.2.1 : Int))
  | .ifnonnull o => decide ((pc : Int) + o = (e.2.1 : Int))
  | _ => true
def sm_dc (cc : ByteArray) (pc : Nat) (e : sm_E) : Prop := ∃ len, decode cc pc = .ok (e.1, len) ∧ (sm_sw e.1 = true ∨ len = sm_len e.1)
theorem sm_dc1 {cc : ByteArray} {pc : Nat} {e : sm_E} (h : sm_dc cc pc e) (hs : sm_sw e.1 = false) : decode cc pc = .ok (e.1, sm_len e.1) := by
  obtain ⟨len, h1, h2⟩ := h
  rcases h2 with h2 | h2
  · rw [hs] at h2; cases h2
  · rw [h2] at h1; exact h1
theorem sm_tgt_inv {pc : Nat} {off : Int} {t : Nat} (h : sm_tgt pc off = some t) : (pc : Int) + off = (t : Int) := by
  unfold sm_tgt at h
  split at h
  · cases h; omega
  · cases h
theorem sm_if_t {c : ClassFile.Cond} {x y : Int32} {a b : Nat} (h : sm_cmp c x y) : sm_if c x y a b = a := @if_pos _ (sm_dec c x y) h _ _ _
theorem sm_if_f {c : ClassFile.Cond} {x y : Int32} {a b : Nat} (h : ¬ sm_cmp c x y) : sm_if c x y a b = b := @if_neg _ (sm_dec c x y) h _ _ _
section SMP
variable {p : Program} {l : Launch} {e : Env} {R : Room} {s : State} {m : MethodId} {args : Array Value} {below : List Frame} {meth : Method} {c : Code} {H : Heap} {locs : List Loc} {cells slots : Nat} {Q : State → Prop}
variable {cc : ByteArray} {pc : Nat} {ls : Array Slot}
set_option maxHeartbeats 4000000 in
theorem sm_p_ok {B : Nat → Nat} {w : sm_E} {nL : Nat} {lv : sm_L} {st : List Value} {g : sm_F} (hx : p.tables.exec = Jvm.exec) (hb : c.code = cc) (hd : sm_dc cc pc w) (hj : sm_jok pc w = true) (hg : sm_p w nL pc lv st = some g) (hl : lv_has ls nL (sm_cL B lv))
    (k : ∀ ls' : Array Slot, lv_has ls' nL (sm_cL B g.2.1) → W p l e R s m args below meth c H locs cells slots Q (F0 m g.1 ls' (sm_cS B g.2.2))) : W p l e R s m args below meth c H locs cells slots Q (F0 m pc ls (sm_cS B st)) := by
  obtain ⟨ins, wa, wb, wc⟩ := w
  have hd1 := fun h => sm_dc1 (cc := cc) (pc := pc) (e := (ins, wa, wb, wc)) hd h
  cases ins <;> first | (cases hg; done) | skip
  case iload_n kk =>
    have hd2 := hd1 rfl
    obtain ⟨x, h1, rfl⟩ := sm_lod_i (show sm_lod _ _ _ _ _ _ = some g from hg)
    exact lv_iload_n hx hb hd2 rfl (sm_ld_at hl h1) (k ls hl)
  case iload i =>
    have hd2 := hd1 rfl
    obtain ⟨x, h1, rfl⟩ := sm_lod_i (show sm_lod _ _ _ _ _ _ = some g from hg)
    exact lv_iload hx hb hd2 (sm_ld_at hl h1) (k ls hl)
  case lload_n kk =>
    have hd2 := hd1 rfl
    obtain ⟨x, h1, rfl⟩ := sm_lod_l (show sm_lod _ _ _ _ _ _ = some g from hg)
    exact lv_lload_n hx hb hd2 rfl (sm_ld_at hl h1) (k ls hl)
  case lload i =>
    have hd2 := hd1 rfl
    obtain ⟨x, h1, rfl⟩ := sm_lod_l (show sm_lod _ _ _ _ _ _ = some g from hg)
    exact lv_lload hx hb hd2 (sm_ld_at hl h1) (k ls hl)
  case aload_n kk =>
    have hd2 := hd1 rfl
    rcases sm_lod_a (show sm_lod _ _ _ _ _ _ = some g from hg) with ⟨x, h1, rfl⟩ | ⟨h1, rfl⟩
    · exact lv_aload_n hx hb hd2 rfl (sm_ld_at hl h1) (k ls hl)
    · exact lv_aload_nN hx hb hd2 rfl (sm_ld_at hl h1) (k ls hl)
  case aload i =>
    have hd2 := hd1 rfl
    rcases sm_lod_a (show sm_lod _ _ _ _ _ _ = some g from hg) with ⟨x, h1, rfl⟩ | ⟨h1, rfl⟩
    · exact lv_aload hx hb hd2 (sm_ld_at hl h1) (k ls hl)
    · exact lv_aloadN hx hb hd2 (sm_ld_at hl h1) (k ls hl)
  case istore_n kk =>
    have hd2 := hd1 rfl
    obtain ⟨x, r, rfl, h1, rfl⟩ := sm_sto_i (show sm_sto _ _ _ _ _ _ _ = some g from hg)
    exact lv_istore_n hx hb hd2 rfl hl h1 (sm_st1_map B lv _ (.int x)) k
  case istore i =>
    have hd2 := hd1 rfl
    obtain ⟨x, r, rfl, h1, rfl⟩ := sm_sto_i (show sm_sto _ _ _ _ _ _ _ = some g from hg)
    exact lv_istore hx hb hd2 hl h1 (sm_st1_map B lv _ (.int x)) k
  case lstore_n kk =>
    have hd2 := hd1 rfl
    obtain ⟨x, r, rfl, h1, rfl⟩ := sm_sto_l (show sm_sto _ _ _ _ _ _ _ = some g from hg)
    exact lv_lstore_n hx hb hd2 rfl hl h1 (sm_st2_map B lv _ (.long x)) k
  case lstore i =>
    have hd2 := hd1 rfl
    obtain ⟨x, r, rfl, h1, rfl⟩ := sm_sto_l (show sm_sto _ _ _ _ _ _ _ = some g from hg)
    exact lv_lstore hx hb hd2 hl h1 (sm_st2_map B lv _ (.long x)) k
  case astore_n kk =>
    have hd2 := hd1 rfl
    rcases sm_sto_a (show sm_sto _ _ _ _ _ _ _ = some g from hg) with ⟨x, r, rfl, h1, rfl⟩ | ⟨r, rfl, h1, rfl⟩
    · exact lv_astore_n hx hb hd2 rfl hl h1 (sm_st1_map B lv _ (.ref x)) k
    · exact lv_astore_nN hx hb hd2 rfl hl h1 (sm_st1_map B lv _ .null) k
  case astore i =>
    have hd2 := hd1 rfl
    rcases sm_sto_a (show sm_sto _ _ _ _ _ _ _ = some g from hg) with ⟨x, r, rfl, h1, rfl⟩ | ⟨r, rfl, h1, rfl⟩
    · exact lv_astore hx hb hd2 hl h1 (sm_st1_map B lv _ (.ref x)) k
    · exact lv_astoreN hx hb hd2 hl h1 (sm_st1_map B lv _ .null) k
  case iconst n =>
    have hd2 := hd1 rfl
    cases hg
    exact lv_iconst hx hb hd2 rfl (k ls hl)
  case bipush n =>
    have hd2 := hd1 rfl
    cases hg
    exact lv_bipush hx hb hd2 rfl (k ls hl)
  case sipush n =>
    have hd2 := hd1 rfl
    cases hg
    exact lv_sipush hx hb hd2 rfl (k ls hl)
  case lconst n =>
    have hd2 := hd1 rfl
    cases hg
    exact lv_lconst hx hb hd2 rfl (k ls hl)
  case aconst_null =>
    have hd2 := hd1 rfl
    cases hg
    exact lv_null hx hb hd2 (k ls hl)
  case iadd =>
    have hd2 := hd1 rfl
    obtain ⟨x, y, r, rfl, rfl⟩ := sm_bi_inv (show sm_bi _ _ _ _ = some g from hg)
    exact lv_iadd hx hb hd2 (k ls hl)
  case isub =>
    have hd2 := hd1 rfl
    obtain ⟨x, y, r, rfl, rfl⟩ := sm_bi_inv (show sm_bi _ _ _ _ = some g from hg)
    exact lv_isub hx hb hd2 (k ls hl)
  case imul =>
    have hd2 := hd1 rfl
    obtain ⟨x, y, r, rfl, rfl⟩ := sm_bi_inv (show sm_bi _ _ _ _ = some g from hg)
    exact lv_imul hx hb hd2 (k ls hl)
  case iand =>
    have hd2 := hd1 rfl
    obtain ⟨x, y, r, rfl, rfl⟩ := sm_bi_inv (show sm_bi _ _ _ _ = some g from hg)
    exact lv_iand hx hb hd2 (k ls hl)
  case ior =>
    have hd2 := hd1 rfl
    obtain ⟨x, y, r, rfl, rfl⟩ := sm_bi_inv (show sm_bi _ _ _ _ = some g from hg)
    exact lv_ior hx hb hd2 (k ls hl)
  case ixor =>
    have hd2 := hd1 rfl
    obtain ⟨x, y, r, rfl, rfl⟩ := sm_bi_inv (show sm_bi _ _ _ _ = some g from hg)
    exact lv_ixor hx hb hd2 (k ls hl)
  case ishl =>
    have hd2 := hd1 rfl
    obtain ⟨x, y, r, rfl, rfl⟩ := sm_bi_inv (show sm_bi _ _ _ _ = some g from hg)
    exact lv_ishl hx hb hd2 (k ls hl)
  case ishr =>
    have hd2 := hd1 rfl
    obtain ⟨x, y, r, rfl, rfl⟩ := sm_bi_inv (show sm_bi _ _ _ _ = some g from hg)
    exact lv_ishr hx hb hd2 (k ls hl)
  case iushr =>
    have hd2 := hd1 rfl
    obtain ⟨x, y, r, rfl, rfl⟩ := sm_bi_inv (show sm_bi _ _ _ _ = some g from hg)
    exact lv_iushr hx hb hd2 rfl (k ls hl)
  case ladd =>
    have hd2 := hd1 rfl
    obtain ⟨x, y, r, rfl, rfl⟩ := sm_bl_inv (show sm_bl _ _ _ _ = some g from hg)
    exact lv_ladd hx hb hd2 (k ls hl)
  case lsub =>
    have hd2 := hd1 rfl
    obtain ⟨x, y, r, rfl, rfl⟩ := sm_bl_inv (show sm_bl _ _ _ _ = some g from hg)
    exact lv_lsub hx hb hd2 (k ls hl)
  case lmul =>
    have hd2 := hd1 rfl
    obtain ⟨x, y, r, rfl, rfl⟩ := sm_bl_inv (show sm_bl _ _ _ _ = some g from hg)
    exact lv_lmul hx hb hd2 (k ls hl)
  case land =>
    have hd2 := hd1 rfl
    obtain ⟨x, y, r, rfl, rfl⟩ := sm_bl_inv (show sm_bl _ _ _ _ = some g from hg)
    exact lv_land hx hb hd2 (k ls hl)
  case lor =>
    have hd2 := hd1 rfl
    obtain ⟨x, y, r, rfl, rfl⟩ := sm_bl_inv (show sm_bl _ _ _ _ = some g from hg)
    exact lv_lor hx hb hd2 (k ls hl)
  case lxor =>
    have hd2 := hd1 rfl
    obtain ⟨x, y, r, rfl, rfl⟩ := sm_bl_inv (show sm_bl _ _ _ _ = some g from hg)
    exact lv_lxor hx hb hd2 (k ls hl)
  case ineg =>
    have hd2 := hd1 rfl
    obtain ⟨x, r, rfl, rfl⟩ := sm_ui_inv (show sm_ui _ _ _ _ = some g from hg)
    exact lv_ineg hx hb hd2 (k ls hl)
  case lneg =>
    have hd2 := hd1 rfl
    obtain ⟨x, r, rfl, rfl⟩ := sm_ul_inv (show sm_ul _ _ _ _ = some g from hg)
    exact lv_lneg hx hb hd2 (k ls hl)
  case i2l =>
    have hd2 := hd1 rfl
    obtain ⟨x, r, rfl, rfl⟩ := sm_ui_inv (show sm_ui _ _ _ _ = some g from hg)
    exact lv_i2l hx hb hd2 rfl (k ls hl)
  case i2b =>
    have hd2 := hd1 rfl
    obtain ⟨x, r, rfl, rfl⟩ := sm_ui_inv (show sm_ui _ _ _ _ = some g from hg)
    exact lv_i2b hx hb hd2 rfl (k ls hl)
  case i2s =>
    have hd2 := hd1 rfl
    obtain ⟨x, r, rfl, rfl⟩ := sm_ui_inv (show sm_ui _ _ _ _ = some g from hg)
    exact lv_i2s hx hb hd2 rfl (k ls hl)
  case l2i =>
    have hd2 := hd1 rfl
    obtain ⟨x, r, rfl, rfl⟩ := sm_ul_inv (show sm_ul _ _ _ _ = some g from hg)
    exact lv_l2i hx hb hd2 rfl (k ls hl)
  case idiv =>
    have hd2 := hd1 rfl
    unfold sm_p at hg
    dsimp only at hg
    split at hg
    · split at hg
      · rename_i hne
        cases hg
        exact lv_idiv hx hb hd2 hne (k ls hl)
      · cases hg
    · cases hg
  case irem =>
    have hd2 := hd1 rfl
    unfold sm_p at hg
    dsimp only at hg
    split at hg
    · split at hg
      · rename_i hne
        cases hg
        exact lv_irem hx hb hd2 hne (k ls hl)
      · cases hg
    · cases hg
  case ldiv =>
    have hd2 := hd1 rfl
    unfold sm_p at hg
    dsimp only at hg
    split at hg
    · split at hg
      · rename_i hne
        cases hg
        exact lv_ldiv hx hb hd2 hne (k ls hl)
      · cases hg
    · cases hg
  case lcmp =>
    have hd2 := hd1 rfl
    unfold sm_p at hg
    dsimp only at hg
    split at hg
    · cases hg
      exact W.lcmp hx hb hd2 (k ls hl)
    · cases hg
  case lshl =>
    have hd2 := hd1 rfl
    unfold sm_p at hg
    dsimp only at hg
    split at hg
    · cases hg
      exact lv_lshl hx hb hd2 rfl (k ls hl)
    · cases hg
  case dup =>
    have hd2 := hd1 rfl
    unfold sm_p at hg
    dsimp only at hg
    split at hg
    · split at hg
      · rename_i hc
        cases hg
        exact lv_dup hx hb hd2 (by rw [sm_cv_cat]; exact hc) (k ls hl)
      · cases hg
    · cases hg
  case pop =>
    have hd2 := hd1 rfl
    unfold sm_p at hg
    dsimp only at hg
    split at hg
    · split at hg
      · rename_i hc
        cases hg
        exact lv_pop hx hb hd2 (by rw [sm_cv_cat]; exact hc) (k ls hl)
      · cases hg
    · cases hg
  case dup_x1 =>
    have hd2 := hd1 rfl
    unfold sm_p at hg
    dsimp only at hg
    split at hg
    · split at hg
      · rename_i hc
        cases hg
        exact lv_dup_x1 hx hb hd2 (by rw [sm_cv_cat]; exact hc.1) (by rw [sm_cv_cat]; exact hc.2) (k ls hl)
      · cases hg
    · cases hg
  case dup2 =>
    have hd2 := hd1 rfl
    unfold sm_p at hg
    dsimp only at hg
    split at hg
    · split at hg
      · rename_i hc
        cases hg
        exact lv_dup2_11 hx hb hd2 (by rw [sm_cv_cat]; exact hc.1) (by rw [sm_cv_cat]; exact hc.2) (k ls hl)
      · cases hg
    · cases hg
  case iinc i n =>
    have hd2 := hd1 rfl
    unfold sm_p at hg
    dsimp only at hg
    split at hg
    · rename_i x hx1
      split at hg
      · rename_i hn
        cases hg
        obtain ⟨j, hj⟩ := List.getElem?_of_mem (List.mem_map.mpr ⟨(i, Value.int x), sm_ld_mem hx1, rfl⟩ : (i, sm_cv B (Value.int x)) ∈ sm_cL B lv)
        exact lv_iinc hx hb hd2 hl (k := j) hj rfl hn (sm_st1_map B lv i (.int (x + Int32.ofInt n))) k
      · cases hg
    · cases hg
  case goto o =>
    have hd2 := hd1 rfl
    cases hg
    exact lv_goto hx hb hd2 (by simpa [sm_jok] using hj) (k ls hl)
  case ifCond cnd o =>
    have hd2 := hd1 rfl
    have ht : (pc : Int) + o = (wa : Int) := by simpa [sm_jok] using hj
    unfold sm_p at hg
    dsimp only at hg
    split at hg
    · rename_i x r
      cases hg
      cases cnd
      · exact lv_if_eq hx hb hd2 ht (fun h => by have hk := k ls hl; rw [sm_if_t (c := .eq) (x := x) (y := 0) h] at hk; exact hk) (fun h => by have hk := k ls hl; rw [sm_if_f (c := .eq) (x := x) (y := 0) h] at hk; exact hk)
      · exact lv_if_ne hx hb hd2 ht (fun h => by have hk := k ls hl; rw [sm_if_t (c := .ne) (x := x) (y := 0) h] at hk; exact hk) (fun h => by have hk := k ls hl; rw [sm_if_f (c := .ne) (x := x) (y := 0) (fun q => q h)] at hk; exact hk)
      · exact lv_if_lt hx hb hd2 ht (fun h => by have hk := k ls hl; rw [sm_if_t (c := .lt) (x := x) (y := 0) h] at hk; exact hk) (fun h => by have hk := k ls hl; rw [sm_if_f (c := .lt) (x := x) (y := 0) h] at hk; exact hk)
      · exact lv_if_ge hx hb hd2 ht (fun h => by have hk := k ls hl; rw [sm_if_t (c := .ge) (x := x) (y := 0) h] at hk; exact hk) (fun h => by have hk := k ls hl; rw [sm_if_f (c := .ge) (x := x) (y := 0) h] at hk; exact hk)
      · exact lv_if_gt hx hb hd2 ht (fun h => by have hk := k ls hl; rw [sm_if_t (c := .gt) (x := x) (y := 0) h] at hk; exact hk) (fun h => by have hk := k ls hl; rw [sm_if_f (c := .gt) (x := x) (y := 0) h] at hk; exact hk)
      · exact lv_if_le hx hb hd2 ht (fun h => by have hk := k ls hl; rw [sm_if_t (c := .le) (x := x) (y := 0) h] at hk; exact hk) (fun h => by have hk := k ls hl; rw [sm_if_f (c := .le) (x := x) (y := 0) h] at hk; exact hk)
    · cases hg
  case if_icmp cnd o =>
    have hd2 := hd1 rfl
    have ht : (pc : Int) + o = (wa : Int) := by simpa [sm_jok] using hj
    unfold sm_p at hg
    dsimp only at hg
    split at hg
    · rename_i y x r
      cases hg
      cases cnd
      · exact lv_icmp_eq hx hb hd2 ht (fun h => by have hk := k ls hl; rw [sm_if_t (c := .eq) (x := x) (y := y) h] at hk; exact hk) (fun h => by have hk := k ls hl; rw [sm_if_f (c := .eq) (x := x) (y := y) h] at hk; exact hk)
      · exact lv_icmp_ne hx hb hd2 ht (fun h => by have hk := k ls hl; rw [sm_if_t (c := .ne) (x := x) (y := y) h] at hk; exact hk) (fun h => by have hk := k ls hl; rw [sm_if_f (c := .ne) (x := x) (y := y) (fun q => q h)] at hk; exact hk)
      · exact lv_icmp_lt hx hb hd2 ht (fun h => by have hk := k ls hl; rw [sm_if_t (c := .lt) (x := x) (y := y) h] at hk; exact hk) (fun h => by have hk := k ls hl; rw [sm_if_f (c := .lt) (x := x) (y := y) h] at hk; exact hk)
      · exact lv_icmp_ge hx hb hd2 ht (fun h => by have hk := k ls hl; rw [sm_if_t (c := .ge) (x := x) (y := y) h] at hk; exact hk) (fun h => by have hk := k ls hl; rw [sm_if_f (c := .ge) (x := x) (y := y) h] at hk; exact hk)
      · exact lv_icmp_gt hx hb hd2 ht (fun h => by have hk := k ls hl; rw [sm_if_t (c := .gt) (x := x) (y := y) h] at hk; exact hk) (fun h => by have hk := k ls hl; rw [sm_if_f (c := .gt) (x := x) (y := y) h] at hk; exact hk)
      · exact lv_icmp_le hx hb hd2 ht (fun h => by have hk := k ls hl; rw [sm_if_t (c := .le) (x := x) (y := y) h] at hk; exact hk) (fun h => by have hk := k ls hl; rw [sm_if_f (c := .le) (x := x) (y := y) h] at hk; exact hk)
    · cases hg
  case ifnull o =>
    have hd2 := hd1 rfl
    have ht : (pc : Int) + o = (wa : Int) := by simpa [sm_jok] using hj
    unfold sm_p at hg
    dsimp only at hg
    split at hg
    · cases hg
      exact lv_ifnull hx hb hd2 (k ls hl)
    · cases hg
      exact lv_ifnullN hx hb hd2 ht (k ls hl)
    · cases hg
  case ifnonnull o =>
    have hd2 := hd1 rfl
    have ht : (pc : Int) + o = (wa : Int) := by simpa [sm_jok] using hj
    unfold sm_p at hg
    dsimp only at hg
    split at hg
    · cases hg
      exact lv_ifnonnull hx hb hd2 ht (k ls hl)
    · cases hg
      exact lv_ifnonnullN hx hb hd2 (k ls hl)
    · cases hg
  case tableswitch dflt lo hi offs =>
    obtain ⟨len, hd2, -⟩ := hd
    unfold sm_p at hg
    dsimp only at hg
    split at hg
    · split at hg
      · rename_i hh
        obtain ⟨t, ht, rfl⟩ := Option.map_eq_some_iff.mp hg
        exact lv_tableOut hx hb hd2 hh (sm_tgt_inv ht) (k ls hl)
      · rename_i hh
        split at hg
        · rename_i off ho
          obtain ⟨t, ht, rfl⟩ := Option.map_eq_some_iff.mp hg
          exact lv_tableIn hx hb hd2 (fun q => hh (Or.inl q)) (fun q => hh (Or.inr q)) ho (sm_tgt_inv ht) (k ls hl)
        · cases hg
    · cases hg
  case lookupswitch dflt ps =>
    obtain ⟨len, hd2, -⟩ := hd
    unfold sm_p at hg
    dsimp only at hg
    split at hg
    · split at hg
      · rename_i hh
        obtain ⟨t, ht, rfl⟩ := Option.map_eq_some_iff.mp hg
        exact lv_lookup hx hb hd2 hh rfl (sm_tgt_inv ht) (k ls hl)
      · cases hg
    · cases hg
end SMP
end
section
/-! the small machine's heap and the real one -/
def sm_ce (B : Nat → Nat) (dA : Nat → ClassId) : va_E → va_E
  | .inr o => .inr (o.1, o.2.map (sm_cv B))
  | .inl (t, n, .inr (.inr (.inr (.inr f)))) => .inl (dA t, n, .inr (.inr (.inr (.inr (fun i => (f i).map B)))))
  | .inl (t, x) => .inl (dA t, x)
def sm_ws (B : Nat → Nat) (dA : Nat → ClassId) : Nat → sm_H → va_W
  | _, [] => []
  | k, c :: r => (B k, sm_ce B dA c) :: sm_ws B dA (k + 1) r
theorem sm_ws_get (B : Nat → Nat) (dA : Nat → ClassId) : ∀ (h : sm_H) (k i : Nat), (sm_ws B dA k h)[i]? = (h[i]?).map (fun c => (B (k + i), sm_ce B dA c)) := by
  intro h
  induction h with
  | nil => intro k i; simp [sm_ws]
  | cons c r ih =>
    intro k i
    cases i with
    | zero => simp [sm_ws]
    | succ i =>
      simp only [sm_ws, List.getElem?_cons_succ]
      rw [ih (k + 1) i, show k + 1 + i = k + (i + 1) by omega]
theorem sm_ws_at {B : Nat → Nat} {dA : Nat → ClassId} {h : sm_H} {i : Nat} {c : va_E} (hc : h[i]? = some c) : (sm_ws B dA 0 h)[i]? = some (B i, sm_ce B dA c) := by
  rw [sm_ws_get, hc, Nat.zero_add]; rfl
theorem sm_ws_len (B : Nat → Nat) (dA : Nat → ClassId) : ∀ (h : sm_H) (k : Nat), (sm_ws B dA k h).length = h.length := by
  intro h
  induction h with
  | nil => intro k; rfl
  | cons c r ih => intro k; simp [sm_ws, ih]
theorem sm_ws_set (B : Nat → Nat) (dA : Nat → ClassId) (c : va_E) : ∀ (h : sm_H) (k i : Nat), sm_ws B dA k (h.set i c) = (sm_ws B dA k h).set i (B (k + i), sm_ce B dA c) := by
  intro h
  induction h with
  | nil => intro k i; rfl
  | cons x r ih =>
    intro k i
    cases i with
    | zero => simp [sm_ws]
    | succ i =>
      simp only [sm_ws, List.set_cons_succ]
      rw [ih (k + 1) i, show k + 1 + i = k + (i + 1) by omega]
theorem sm_ws_app (B : Nat → Nat) (dA : Nat → ClassId) (c : va_E) : ∀ (h : sm_H) (k : Nat), sm_ws B dA k (h ++ [c]) = sm_ws B dA k h ++ [(B (k + h.length), sm_ce B dA c)] := by
  intro h
  induction h with
  | nil => intro k; simp [sm_ws]
  | cons x r ih =>
    intro k
    simp only [sm_ws, List.cons_append]
    rw [ih (k + 1), List.length_cons, show k + 1 + r.length = k + (r.length + 1) by omega]
/-- the types of arrays -/
def sm_TY (dA : Nat → ClassId) : List (ClassId × FieldType) := [(dA 0, .int), (dA 1, .long), (dA 2, .object RX3), (dA 3, .object RX6), (dA 4, .object RX8)]
/-- kinds of fields -/
def sm_fk : FieldType → Nat
  | .int => 0
  | .boolean => 1
  | .long => 2
  | .object _ => 3
  | .array _ => 3
  | _ => 9
theorem sm_fok_narrow {ty : FieldType} {B : Nat → Nat} {v : Value} (h : sm_fok (sm_fk ty) v = true) : narrow ty (sm_cv B v) = sm_cv B v ∧ fits ty (sm_cv B v) = true := by
  cases ty <;> cases v <;> simp [sm_fok, sm_fk, sm_cv] at h ⊢ <;> first
    | (constructor <;> rfl)
    | (rcases h with h | h <;> subst h <;> constructor <;> decide)
/-- what the tables must say of an instruction -/
def sm_lk (own : String) (init : Bool) (w : sm_E) : Prop := match w.1 with
  | .getfield idx => ∃ q, vwCl[w.2.1]? = some q ∧ w.2.2.1 < q.2.2 ∧ Cond.fieldLink own idx (q.2.1 w.2.2.1).1 (q.2.1 w.2.2.1).2.1 (q.2.1 w.2.2.1).2.2.1 ∈ lw_tbl
  | .putfield idx => ∃ q ty, vwCl[w.2.1]? = some q ∧ w.2.2.1 < q.2.2 ∧ Cond.fieldLink own idx (q.2.1 w.2.2.1).1 (q.2.1 w.2.2.1).2.1 (q.2.1 w.2.2.1).2.2.1 ∈ lw_tbl ∧ parseFieldDescriptor (q.2.1 w.2.2.1).2.2.1 = some ty ∧ w.2.2.2 % 10 = sm_fk ty ∧ ((q.2.1 w.2.2.1).2.2.2 = false ∨ ((q.2.1 w.2.2.1).2.2.2 = true ∧ init = true ∧ (q.2.1 w.2.2.1).1 = own))
  | .new idx => ∃ q, vwCl[w.2.1]? = some q ∧ Cond.classLink own idx q.1 ∈ lw_tbl ∧ Cond.instantiable q.1 q.2.2 ∈ lw_tbl ∧ Cond.initialized q.1 ∈ lw_tbl
  | .newarray .int => Cond.arrayClass .int ∈ lw_tbl
  | .newarray .long => Cond.arrayClass .long ∈ lw_tbl
  | .anewarray idx => ∃ q, vwCl[sm_ek w.2.1]? = some q ∧ Cond.classLink own idx q.1 ∈ lw_tbl ∧ Cond.arrayOver (.object q.1) ∈ lw_tbl
  | .ldc idx => (w.2.2.2 = 0 ∧ Cond.constant own idx (Int32.ofNat w.2.1) ∈ lw_tbl) ∨ (w.2.2.2 = 1 ∧ own = RX2 ∧ [42, 106, 108, 110, 112, 114][w.2.1]? = some idx)
  | .ldc_w idx => Cond.constant own idx (Int32.ofNat w.2.1) ∈ lw_tbl
  | .ldc2_w idx => Cond.constantLong own idx (Int64.ofNat w.2.1) ∈ lw_tbl
  | _ => True
/-- the tables' words that hold in every later state too -/
def sm_G : List Cond := lw_tbl.filter goodWord
theorem sm_Gin {w : Cond} (h : w ∈ lw_tbl) (g : goodWord w = true) : w ∈ sm_G := List.mem_filter.mpr ⟨h, g⟩
theorem sm_Glay (C : String) (T : u_T) (N : Nat) (h : ∀ w ∈ u_ws C T N, w ∈ lw_tbl) : ∀ w ∈ u_ws C T N, w ∈ sm_G := by
  intro w hw
  refine sm_Gin (h w hw) ?_
  obtain ⟨k, -, rfl⟩ := List.mem_map.mp hw
  unfold u_lay
  split <;> rfl
theorem sm_cl_in : ∀ (k : Nat) (q : vw_C), vwCl[k]? = some q → (∀ w ∈ u_ws q.1 q.2.1 q.2.2, w ∈ sm_G) ∧ (∀ a, a < q.2.2 → ∀ b, b < q.2.2 → a ≠ b → (q.2.1 a).2.1 ≠ (q.2.1 b).2.1) ∧ ∃ ty : Nat → FieldType, (∀ k, k < q.2.2 → parseFieldDescriptor (q.2.1 k).2.2.1 = some (ty k)) := by
  intro k q h
  match k, h with
  | 0, h => cases h; exact ⟨sm_Glay _ _ _ in_X0, nmX0, tyX0, tyX0_ok⟩
  | 1, h => cases h; exact ⟨sm_Glay _ _ _ in_X1, nmX1, tyX1, tyX1_ok⟩
  | 2, h => cases h; exact ⟨sm_Glay _ _ _ in_X2, nmX2, tyX2, tyX2_ok⟩
  | 3, h => cases h; exact ⟨sm_Glay _ _ _ in_X3, nmX3, tyX3, tyX3_ok⟩
  | 4, h => cases h; exact ⟨sm_Glay _ _ _ in_X4, nmX4, tyX4, tyX4_ok⟩
  | 5, h => cases h; exact ⟨sm_Glay _ _ _ in_X5, nmX5, tyX5, tyX5_ok⟩
  | 6, h => cases h; exact ⟨sm_Glay _ _ _ in_X6, nmX6, tyX6, tyX6_ok⟩
  | 7, h => cases h; exact ⟨sm_Glay _ _ _ in_X7, nmX7, tyX7, tyX7_ok⟩
  | 8, h => cases h; exact ⟨sm_Glay _ _ _ in_X8, nmX8, tyX8, tyX8_ok⟩
  | 9, h => cases h; exact ⟨sm_Glay _ _ _ in_X9, nmX9, tyX9, tyX9_ok⟩
  | 10, h => cases h; exact ⟨sm_Glay _ _ _ in_X10, nmX10, tyX10, tyX10_ok⟩
  | k + 11, h => simp [vwCl] at h
theorem sm_ce_arr (B : Nat → Nat) (dA : Nat → ClassId) (t n : Nat) (x : (Nat → Int32) ⊕ (Nat → Int64) ⊕ (Nat → UInt32) ⊕ (Nat → UInt64) ⊕ (Nat → Option Nat)) : ∃ y : (Nat → Int32) ⊕ (Nat → Int64) ⊕ (Nat → UInt32) ⊕ (Nat → UInt64) ⊕ (Nat → Option Nat), sm_ce B dA (.inl (t, n, x)) = .inl (dA t, n, y) := by
  rcases x with f | f | f | f | f <;> exact ⟨_, rfl⟩
section SMH
variable {p : Program} {l : Launch} {e : Env} {R : Room} {s : State} {m : MethodId} {args : Array Value} {below : List Frame} {meth : Method} {c : Code} {H : Heap} {locs : List Loc} {cells slots : Nat} {Q : State → Prop}
variable {cc : ByteArray} {pc : Nat} {ls : Array Slot} {dC : Nat → ClassId} {dI : Nat → Nat → Nat} {dA : Nat → ClassId} {A : Nat → Prop} {B : Nat → Nat}
set_option maxHeartbeats 4000000 in
theorem sm_h_ok {own : String} {init : Bool} {w : sm_E} {st : List Value} {h : sm_H} {g : Nat × List Value × sm_H} (hx : p.tables.exec = Jvm.exec) (hb : c.code = cc) (hts : ∀ w ∈ sm_G, w.before args s = true) (hown : s.vm.findClass own = some m.cls) (hinit : init = true → meth.name = "<init>")
    (hK : va_K (dC, dI) vwCl (sm_TY dA) s) (hP : va_P (dC, dI) vwCl (sm_ws B dA 0 h) H) (hD : va_D A (sm_ws B dA 0 h)) (hS : va_S A s.heap H locs) (hd : sm_dc cc pc w) (hlk : sm_lk own init w) (hg : sm_h w st h = some g)
    (k : ∀ (H1 : Heap) (locs1 : List Loc), va_P (dC, dI) vwCl (sm_ws B dA 0 g.2.2) H1 → va_D A (sm_ws B dA 0 g.2.2) → va_S A s.heap H1 locs1 → W p l e R s m args below meth c H1 locs1 cells slots Q (F0 m (pc + g.1) ls (sm_cS B g.2.1))) : W p l e R s m args below meth c H locs cells slots Q (F0 m pc ls (sm_cS B st)) := by
  obtain ⟨ins, wa, wb, wc⟩ := w
  have hd1 := fun h => sm_dc1 (cc := cc) (pc := pc) (e := (ins, wa, wb, wc)) hd h
  cases ins <;> first | (cases hg; done) | skip
  case getfield idx =>
    have hd2 := hd1 rfl
    obtain ⟨q, hq, hlt, hw⟩ := hlk
    obtain ⟨hin, -, -⟩ := sm_cl_in _ _ hq
    unfold sm_h at hg
    dsimp only at hg
    split at hg
    · rename_i a r
      split at hg
      · rename_i ci fs hc
        split at hg
        · rename_i hci
          subst hci
          split at hg
          · rename_i v hv
            cases hg
            refine va_get (D := (dC, dI)) (ci := ci) (v := sm_cv B v) (C := q.1) (T := q.2.1) (N := q.2.2) hx hb hts hin hown hK hP a (fs := fs.map (sm_cv B)) (sm_ws_at hc) hq wb hlt (hts _ (sm_Gin hw rfl)) (fun _ h => h) (by rw [List.getElem?_map, hv]; rfl) hd2 ?_
            exact k H locs hP hD hS
          · cases hg
        · cases hg
      · cases hg
    · cases hg
  case putfield idx =>
    have hd2 := hd1 rfl
    obtain ⟨q, ty, hq, hlt, hw, hty, hk2, hfin⟩ := hlk
    obtain ⟨hin, hnm, tys, htys⟩ := sm_cl_in _ _ hq
    unfold sm_h at hg
    dsimp only at hg
    split at hg
    · rename_i v a r
      split at hg
      · rename_i ci fs hc
        split at hg
        · rename_i hci
          obtain ⟨hci, hlen, hfo⟩ := hci
          subst hci
          cases hg
          dsimp only at hk2
          rw [hk2] at hfo
          obtain ⟨hn, hf⟩ := sm_fok_narrow (B := B) hfo
          have hk : ∀ (H1 : Heap) (locs1 : List Loc), va_P (dC, dI) vwCl ((sm_ws B dA 0 h).set a (B a, .inr (ci, (fs.map (sm_cv B)).set wb (sm_cv B v)))) H1 → va_D A ((sm_ws B dA 0 h).set a (B a, .inr (ci, (fs.map (sm_cv B)).set wb (sm_cv B v)))) → va_S A s.heap H1 locs1 → W p l e R s m args below meth c H1 locs1 cells slots Q (F0 m (pc + 3) ls (sm_cS B r)) := by
            intro H1 locs1 a1 a2 a3
            have he : (sm_ws B dA 0 (h.set a (.inr (ci, fs.set wb v)))) = (sm_ws B dA 0 h).set a (B a, .inr (ci, (fs.map (sm_cv B)).set wb (sm_cv B v))) := by
              rw [sm_ws_set, Nat.zero_add]
              simp only [sm_ce, List.map_set]
            exact k H1 locs1 (by rw [he]; exact a1) (by rw [he]; exact a2) a3
          rcases hfin with hfin | ⟨hfin, hi, ho⟩
          · exact va_put (D := (dC, dI)) (ci := ci) (v := sm_cv B v) (ty := ty) (C := q.1) (T := q.2.1) (N := q.2.2) hx hb hts hin tys htys hnm hown hK hP hD hS a (fs := fs.map (sm_cv B)) (sm_ws_at hc) hq wb hlt (hts _ (sm_Gin hw rfl)) (fun _ h => h) hfin hty hn hf (by rw [List.length_map]; exact hlen) hd2 hk
          · exact va_putF (D := (dC, dI)) (ci := ci) (v := sm_cv B v) (ty := ty) (C := q.1) (T := q.2.1) (N := q.2.2) hx hb hts hin tys htys hnm hown hK hP hD hS a (fs := fs.map (sm_cv B)) (sm_ws_at hc) hq wb hlt (hts _ (sm_Gin hw rfl)) (fun _ h => h) hfin (hinit hi) ho hty hn hf (by rw [List.length_map]; exact hlen) hd2 hk
        · cases hg
      · cases hg
    · cases hg
  case arraylength =>
    have hd2 := hd1 rfl
    unfold sm_h at hg
    dsimp only at hg
    split at hg
    · rename_i a r
      split at hg
      · rename_i t n x hc
        split at hg
        · rename_i ht
          cases hg
          obtain ⟨y, hy⟩ := sm_ce_arr B dA t n x
          have hw := sm_ws_at (B := B) (dA := dA) hc
          rw [hy] at hw
          have hk := k H locs hP hD hS
          match t, ht with
          | 0, _ => exact va_alen hx hb hK hP a 0 hw rfl rfl hd2 hk
          | 1, _ => exact va_alen hx hb hK hP a 1 hw rfl rfl hd2 hk
          | 2, _ => exact va_alen hx hb hK hP a 2 hw rfl rfl hd2 hk
          | 3, _ => exact va_alen hx hb hK hP a 3 hw rfl rfl hd2 hk
          | 4, _ => exact va_alen hx hb hK hP a 4 hw rfl rfl hd2 hk
          | t + 5, ht => exact absurd ht (Nat.not_lt.mpr (Nat.le_add_left 5 t))
        · cases hg
      · cases hg
    · cases hg
  case iaload =>
    have hd2 := hd1 rfl
    unfold sm_h at hg
    dsimp only at hg
    split at hg
    · rename_i i a r
      split at hg
      · rename_i t n f hc
        split at hg
        · rename_i hh
          obtain ⟨ht, hin⟩ := hh
          subst ht
          cases hg
          exact va_iald hx hb hK hP a 0 (sm_ws_at hc) rfl hin hd2 (k H locs hP hD hS)
        · cases hg
      · cases hg
    · cases hg
  case laload =>
    have hd2 := hd1 rfl
    unfold sm_h at hg
    dsimp only at hg
    split at hg
    · rename_i i a r
      split at hg
      · rename_i t n f hc
        split at hg
        · rename_i hh
          obtain ⟨ht, hin⟩ := hh
          subst ht
          cases hg
          exact va_lald hx hb hK hP a 1 (sm_ws_at hc) rfl hin hd2 (k H locs hP hD hS)
        · cases hg
      · cases hg
    · cases hg
  case iastore =>
    have hd2 := hd1 rfl
    unfold sm_h at hg
    dsimp only at hg
    split at hg
    · rename_i x i a r
      split at hg
      · rename_i t n f hc
        split at hg
        · rename_i hh
          obtain ⟨ht, hin⟩ := hh
          subst ht
          cases hg
          refine va_iast hx hb hK hP hD hS a 0 (sm_ws_at hc) rfl hin hd2 (fun H1 locs1 a1 a2 a3 => ?_)
          have he := sm_ws_set B dA (.inl (0, n, .inl (upd f i.toNatClampNeg x))) h 0 a
          rw [Nat.zero_add] at he
          exact k H1 locs1 (by rw [he]; exact a1) (by rw [he]; exact a2) a3
        · cases hg
      · cases hg
    · cases hg
  case lastore =>
    have hd2 := hd1 rfl
    unfold sm_h at hg
    dsimp only at hg
    split at hg
    · rename_i x i a r
      split at hg
      · rename_i t n f hc
        split at hg
        · rename_i hh
          obtain ⟨ht, hin⟩ := hh
          subst ht
          cases hg
          refine va_last hx hb hK hP hD hS a 1 (sm_ws_at hc) rfl hin hd2 (fun H1 locs1 a1 a2 a3 => ?_)
          have he := sm_ws_set B dA (.inl (1, n, .inr (.inl (vp_updL f i.toNatClampNeg x)))) h 0 a
          rw [Nat.zero_add] at he
          exact k H1 locs1 (by rw [he]; exact a1) (by rw [he]; exact a2) a3
        · cases hg
      · cases hg
    · cases hg
  case aaload =>
    have hd2 := hd1 rfl
    unfold sm_h at hg
    dsimp only at hg
    split at hg
    · rename_i i a r
      split at hg
      · rename_i t n f hc
        split at hg
        · rename_i hh
          obtain ⟨ht, hin⟩ := hh
          cases hg
          have hv : sm_cv B (va_rf (f i.toNatClampNeg)) = va_rf ((f i.toNatClampNeg).map B) := by cases f i.toNatClampNeg <;> rfl
          have hk := k H locs hP hD hS
          unfold sm_cS at hk
          rw [List.map_cons, hv] at hk
          rcases ht with ht | ht | ht
          · subst ht; exact va_aldq (C := RX3) hx hb hK hP a 2 (sm_ws_at hc) rfl hin hd2 hk
          · subst ht; exact va_aldq (C := RX6) hx hb hK hP a 3 (sm_ws_at hc) rfl hin hd2 hk
          · subst ht; exact va_aldq (C := RX8) hx hb hK hP a 4 (sm_ws_at hc) rfl hin hd2 hk
        · cases hg
      · cases hg
    · cases hg
end SMH
end
section
/-! cells that are made, constants, copies -/
section SMK
variable {p : Program} {l : Launch} {e : Env} {R : Room} {s : State} {m : MethodId} {args : Array Value} {below : List Frame} {meth : Method} {c : Code} {H : Heap} {locs : List Loc} {cells slots : Nat} {Q : State → Prop}
variable {cc : ByteArray} {pc : Nat} {ls : Array Slot} {dC : Nat → ClassId} {dI : Nat → Nat → Nat} {dA : Nat → ClassId} {B : Nat → Nat} {base : Nat}
theorem sm_fresh {D : va_G} {cl : List vw_C} {h : sm_H} {q : Nat} {x : va_E} {g : JFrame} {H1 : Heap} {n : Nat} (hP1 : va_P D cl (sm_ws B dA 0 h ++ [(q, x)]) H1) (hD1 : va_D (fun q => base ≤ q) (sm_ws B dA 0 h ++ [(q, x)])) (hB : ∀ k, k < 1000 → B k = base + k) (hlen : h.length < 999) (hsz : s.heap.size + cells = base + h.length)
    (kk : q = B h.length → W p l e R s m args below meth c H1 locs (cells + 1) n Q g) : W p l e R s m args below meth c H1 locs (cells + 1) n Q g := by
  intro T hT X
  refine kk ?_ T hT X
  have h1 := X.heapSize
  rw [hT] at h1
  have hl : (sm_ws B dA 0 h).length = h.length := sm_ws_len B dA h 0
  have hx : (sm_ws B dA 0 h ++ [(q, x)])[h.length]? = some (q, x) := by rw [List.getElem?_append_right (by omega), hl, Nat.sub_self]; rfl
  have hq : q < H1.size := (hP1 _ _ hx).lt
  have hqA : base ≤ q := hD1.2 _ _ hx
  rw [hB _ (by omega)]
  rcases Nat.lt_or_ge q (base + h.length) with hlt | hge
  · exfalso
    have hk : q - base < h.length := by omega
    have hy : (sm_ws B dA 0 h ++ [(q, x)])[q - base]? = some (B (q - base), sm_ce B dA h[q - base]) := by
      rw [List.getElem?_append_left (by omega)]
      exact sm_ws_at (List.getElem?_eq_getElem hk)
    have := hD1.1 _ _ _ _ hy hx (by show B (q - base) = q; rw [hB _ (by omega)]; omega)
    omega
  · omega
theorem sm_df_ok {ci : Nat} {q : vw_C} (hq : vwCl[ci]? = some q) {tys : Nat → FieldType} (ht : ∀ k, k < q.2.2 → parseFieldDescriptor (q.2.1 k).2.2.1 = some (tys k)) (B : Nat → Nat) : ((sm_df ci).map (sm_cv B)).length = q.2.2 ∧ ∀ j, j < q.2.2 → defaultValue (tys j) = vp_V ((sm_df ci).map (sm_cv B)) j := by
  unfold sm_df
  rw [hq]
  dsimp only
  refine ⟨by simp, fun j hj => ?_⟩
  unfold vp_V
  rw [List.getD_eq_getElem?_getD, List.getElem?_map, List.getElem?_map, List.getElem?_range hj]
  simp only [Option.map_some, Option.getD_some, ht j hj]
  cases tys j <;> rfl
theorem sm_cA {ty : FieldType} {t0 : Nat} {cA : ClassId} (hK : va_K (dC, dI) vwCl (sm_TY dA) s) (ht0 : (sm_TY dA)[t0]? = some (dA t0, ty)) (hK1 : va_K (dC, dI) vwCl (sm_TY dA ++ [(cA, ty)]) s) : cA = dA t0 := by
  have h1 := (hK.2 t0 _ ht0).2
  have h2 := (hK1.2 5 (cA, ty) rfl).2
  cases ty with
  | object C =>
    obtain ⟨_, _, _, _, _, h3⟩ := h1
    obtain ⟨_, _, _, _, _, h4⟩ := h2
    exact Option.some.inj (h4.symm.trans h3)
  | _ => exact Option.some.inj (h2.symm.trans h1)
set_option maxHeartbeats 4000000 in
theorem sm_k_ok {own : String} {init : Bool} {w : sm_E} {d nL : Nat} {st : List Value} {h : sm_H} {g : Nat × List Value × sm_H} (hx : p.tables.exec = Jvm.exec) (hb : c.code = cc) (hml : c.maxLocals = nL) (hls : ls.size = nL) (hts : ∀ w ∈ sm_G, w.before args s = true) (hown : s.vm.findClass own = some m.cls)
    (hK : va_K (dC, dI) vwCl (sm_TY dA) s) (hP : va_P (dC, dI) vwCl (sm_ws B dA 0 h) H) (hD : va_D (fun q => base ≤ q) (sm_ws B dA 0 h)) (hS : va_S (fun q => base ≤ q) s.heap H locs) (hbase : base ≤ s.heap.size) (hB : ∀ k, k < 1000 → B k = base + k)
    (hStr : ∀ i idx, [42, 106, 108, 110, 112, 114][i]? = some idx → ∃ tx, vk_R RX2 idx tx (B (1000 + i)) s)
    (hAO : ∀ C, Cond.arrayOver (.object C) ∈ lw_tbl → va_AO C s)
    (hobj : Cond.instanceMethod objectInit ∈ lw_tbl ∧ Cond.code objectInit ⟨#[0xb1]⟩ 1 none ∈ lw_tbl) (hcpy : Cond.native arraycopyName ∈ lw_tbl ∧ Cond.static arraycopyName ∈ lw_tbl ∧ Cond.initialized "java/lang/System" ∈ lw_tbl)
    (hlk2 : (w.2.1 = 999 → ∀ idx, w.1 = .invokespecial idx → Cond.methodLink own idx objectInit ∈ lw_tbl) ∧ (w.2.1 = 998 → ∀ idx, w.1 = .invokestatic idx → Cond.methodLink own idx arraycopyName ∈ lw_tbl))
    (hsz : s.heap.size + cells = base + h.length) (hRf : d ≤ R.frames) (hRl : 33 * d ≤ R.locals)
    (hd : sm_dc cc pc w) (hlk : sm_lk own init w) (hg : sm_k w d st h = some g) (hRc : cells + g.2.2.length ≤ R.cells + h.length) (hRs : slots + sm_sl g.2.2 ≤ R.slots + sm_sl h)
    (k : ∀ (H1 : Heap) (locs1 : List Loc) (c1 s1 : Nat), c1 + h.length = cells + g.2.2.length → s1 + sm_sl h = slots + sm_sl g.2.2 → va_P (dC, dI) vwCl (sm_ws B dA 0 g.2.2) H1 → va_D (fun q => base ≤ q) (sm_ws B dA 0 g.2.2) → va_S (fun q => base ≤ q) s.heap H1 locs1 → W p l e R s m args below meth c H1 locs1 c1 s1 Q (F0 m (pc + g.1) ls (sm_cS B g.2.1))) : W p l e R s m args below meth c H locs cells slots Q (F0 m pc ls (sm_cS B st)) := by
  obtain ⟨ins, wa, wb, wc⟩ := w
  have hd1 := fun h => sm_dc1 (cc := cc) (pc := pc) (e := (ins, wa, wb, wc)) hd h
  have hA : ∀ q : Nat, s.heap.size ≤ q → base ≤ q := fun q hq => Nat.le_trans hbase hq
  cases ins <;> first | (cases hg; done) | skip
  case new idx =>
    have hd2 := hd1 rfl
    obtain ⟨q, hq, w1, w2, w3⟩ := hlk
    obtain ⟨hin, -, tys, htys⟩ := sm_cl_in _ _ hq
    unfold sm_k at hg
    dsimp only at hg
    split at hg
    · rename_i hh
      cases hg
      obtain ⟨hn, hdf⟩ := sm_df_ok hq htys B
      dsimp only at hRc hRs k
      have e1 : sm_sl (h ++ [Sum.inr (wa, sm_df wa)]) = sm_sl h + q.2.2 := by
        rw [← hn]; simp [sm_sl, sm_sz]
      rw [List.length_append, List.length_singleton] at hRc
      rw [e1] at hRs
      refine va_new (D := (dC, dI)) (ci := wa) (fs := (sm_df wa).map (sm_cv B)) (C := q.1) (T := q.2.1) (N := q.2.2) hx hb hts hin tys htys hown (hts _ (sm_Gin w1 rfl)) (hts _ (sm_Gin w2 rfl)) (hts _ (sm_Gin w3 rfl)) hK hP hD hS hA hq hdf (by omega) (by omega) hd2 (fun qn H1 a1 a2 a3 => ?_)
      refine sm_fresh a1 a2 hB hh.2 hsz (fun hqn => ?_)
      subst hqn
      have e2 : sm_ws B dA 0 (h ++ [.inr (wa, sm_df wa)]) = sm_ws B dA 0 h ++ [(B h.length, .inr (wa, (sm_df wa).map (sm_cv B)))] := by rw [sm_ws_app, Nat.zero_add]; rfl
      exact k H1 locs (cells + 1) (slots + q.2.2) (by rw [List.length_append, List.length_singleton]; omega) (by rw [e1]; omega) (by rw [e2]; exact a1) (by rw [e2]; exact a2) a3
    · cases hg
  case newarray aty =>
    have hd2 := hd1 rfl
    cases aty <;> first | (cases hg; done) | skip
    · unfold sm_k at hg
      dsimp only at hg
      split at hg <;> first | (cases hg; done) | skip
      rename_i n r
      split at hg <;> first | (cases hg; done) | skip
      rename_i hh
      obtain ⟨hn, hN, hlen⟩ := hh
      cases hg
      dsimp only at hRc hRs k
      have e1 : sm_sl (h ++ [Sum.inl (0, n.toNatClampNeg, .inl (fun _ => 0))]) = sm_sl h + n.toNatClampNeg := by simp [sm_sl, sm_sz]
      rw [List.length_append, List.length_singleton] at hRc
      rw [e1] at hRs
      refine va_newa (atype := .int) (ty := .int) (a0 := (n.toNatClampNeg, .inl (fun _ => 0))) hx hb (hts _ (sm_Gin hlk rfl)) rfl hK hP hD hS hA (fun _ => rfl) hn rfl (Nat.le_trans (Nat.mul_le_mul_right _ hN) (by decide)) (by omega) (by omega) hd2 (fun qn cA H1 a0 a1 a2 a3 => ?_)
      have hcA : cA = dA 0 := sm_cA hK rfl a0
      subst hcA
      refine sm_fresh a1 a2 hB hlen hsz (fun hqn => ?_)
      subst hqn
      have e2 : sm_ws B dA 0 (h ++ [.inl (0, n.toNatClampNeg, .inl (fun _ => 0))]) = sm_ws B dA 0 h ++ [(B h.length, .inl (dA 0, n.toNatClampNeg, .inl (fun _ => 0)))] := by rw [sm_ws_app, Nat.zero_add]; rfl
      exact k H1 locs (cells + 1) (slots + n.toNatClampNeg) (by rw [List.length_append, List.length_singleton]; omega) (by rw [e1]; omega) (by rw [e2]; exact a1) (by rw [e2]; exact a2) a3
    · unfold sm_k at hg
      dsimp only at hg
      split at hg <;> first | (cases hg; done) | skip
      rename_i n r
      split at hg <;> first | (cases hg; done) | skip
      rename_i hh
      obtain ⟨hn, hN, hlen⟩ := hh
      cases hg
      dsimp only at hRc hRs k
      have e1 : sm_sl (h ++ [Sum.inl (1, n.toNatClampNeg, .inr (.inl (fun _ => 0)))]) = sm_sl h + n.toNatClampNeg := by simp [sm_sl, sm_sz]
      rw [List.length_append, List.length_singleton] at hRc
      rw [e1] at hRs
      refine va_newa (atype := .long) (ty := .long) (a0 := (n.toNatClampNeg, .inr (.inl (fun _ => 0)))) hx hb (hts _ (sm_Gin hlk rfl)) rfl hK hP hD hS hA (fun _ => rfl) hn rfl (Nat.le_trans (Nat.mul_le_mul_right _ hN) (by decide)) (by omega) (by omega) hd2 (fun qn cA H1 a0 a1 a2 a3 => ?_)
      have hcA : cA = dA 1 := sm_cA hK rfl a0
      subst hcA
      refine sm_fresh a1 a2 hB hlen hsz (fun hqn => ?_)
      subst hqn
      have e2 : sm_ws B dA 0 (h ++ [.inl (1, n.toNatClampNeg, .inr (.inl (fun _ => 0)))]) = sm_ws B dA 0 h ++ [(B h.length, .inl (dA 1, n.toNatClampNeg, .inr (.inl (fun _ => 0))))] := by rw [sm_ws_app, Nat.zero_add]; rfl
      exact k H1 locs (cells + 1) (slots + n.toNatClampNeg) (by rw [List.length_append, List.length_singleton]; omega) (by rw [e1]; omega) (by rw [e2]; exact a1) (by rw [e2]; exact a2) a3
  case anewarray idx =>
    have hd2 := hd1 rfl
    obtain ⟨q, hq, w1, w2⟩ := hlk
    unfold sm_k at hg
    dsimp only at hg
    split at hg <;> first | (cases hg; done) | skip
    rename_i n r
    split at hg <;> first | (cases hg; done) | skip
    rename_i hh
    obtain ⟨ht, hn, hN, hlen⟩ := hh
    cases hg
    dsimp only at hRc hRs k
    have e1 : sm_sl (h ++ [Sum.inl (wa, n.toNatClampNeg, .inr (.inr (.inr (.inr (fun _ => none)))))]) = sm_sl h + n.toNatClampNeg := by simp [sm_sl, sm_sz]
    rw [List.length_append, List.length_singleton] at hRc
    rw [e1] at hRs
    refine va_newq (C := q.1) hx hb hown (hts _ (sm_Gin w1 rfl)) (hAO _ w2) hK hP hD hS hA hn rfl (Nat.le_trans (Nat.mul_le_mul_right _ hN) (by decide)) (by omega) (by omega) hd2 (fun qn cA H1 a0 a1 a2 a3 => ?_)
    have hcA : cA = dA wa := by
      rcases ht with ht | ht | ht <;> subst ht <;> cases hq <;> exact sm_cA hK rfl a0
    subst hcA
    refine sm_fresh a1 a2 hB hlen hsz (fun hqn => ?_)
    subst hqn
    have e2 : sm_ws B dA 0 (h ++ [.inl (wa, n.toNatClampNeg, .inr (.inr (.inr (.inr (fun _ => none)))))]) = sm_ws B dA 0 h ++ [(B h.length, .inl (dA wa, n.toNatClampNeg, .inr (.inr (.inr (.inr (fun _ => none))))))] := by rw [sm_ws_app, Nat.zero_add]; rfl
    exact k H1 locs (cells + 1) (slots + n.toNatClampNeg) (by rw [List.length_append, List.length_singleton]; omega) (by rw [e1]; omega) (by rw [e2]; exact a1) (by rw [e2]; exact a2) a3
  case aastore =>
    have hd2 := hd1 rfl
    unfold sm_k at hg
    dsimp only at hg
    split at hg <;> first | (cases hg; done) | skip
    rename_i v i a r
    split at hg <;> first | (cases hg; done) | skip
    rename_i t n f ci vs hc1 hc2
    split at hg <;> first | (cases hg; done) | skip
    rename_i hh
    obtain ⟨ht, hci, hin⟩ := hh
    subst hci
    cases hg
    dsimp only at hRc hRs k
    have e3 : sm_sl (h.set a (.inl (t, n, .inr (.inr (.inr (.inr (va_up f i.toNatClampNeg (some v)))))))) = sm_sl h := sm_sl_set hc1 rfl
    have e2 : sm_ws B dA 0 (h.set a (.inl (t, n, .inr (.inr (.inr (.inr (va_up f i.toNatClampNeg (some v)))))))) = (sm_ws B dA 0 h).set a (B a, .inl (dA t, n, .inr (.inr (.inr (.inr (va_up (fun j => (f j).map B) i.toNatClampNeg (some (B v)))))))) := by
      rw [sm_ws_set, Nat.zero_add]
      simp only [sm_ce]
      have : (fun j => (va_up f i.toNatClampNeg (some v) j).map B) = va_up (fun j => (f j).map B) i.toNatClampNeg (some (B v)) := by
        funext j
        unfold va_up
        split <;> rfl
      rw [this]
    have hk : ∀ (H1 : Heap) (locs1 : List Loc), va_P (dC, dI) vwCl ((sm_ws B dA 0 h).set a (B a, .inl (dA t, n, .inr (.inr (.inr (.inr (va_up (fun j => (f j).map B) i.toNatClampNeg (some (B v))))))))) H1 → va_D (fun q => base ≤ q) ((sm_ws B dA 0 h).set a (B a, .inl (dA t, n, .inr (.inr (.inr (.inr (va_up (fun j => (f j).map B) i.toNatClampNeg (some (B v))))))))) → va_S (fun q => base ≤ q) s.heap H1 locs1 → W p l e R s m args below meth c H1 locs1 cells slots Q (F0 m (pc + 1) ls (sm_cS B r)) :=
      fun H1 locs1 a1 a2 a3 => k H1 locs1 cells slots (by rw [List.length_set]) (by rw [e3]) (by rw [e2]; exact a1) (by rw [e2]; exact a2) a3
    rcases ht with ht | ht | ht
    · subst ht; exact va_astq (r := (RX3, TX3, 5)) hx hb hK hP hD hS a 2 v 3 (sm_ws_at hc1) rfl (sm_ws_at hc2) rfl hin hd2 hk
    · subst ht; exact va_astq (r := (RX6, TX6, 5)) hx hb hK hP hD hS a 3 v 6 (sm_ws_at hc1) rfl (sm_ws_at hc2) rfl hin hd2 hk
    · subst ht; exact va_astq (r := (RX8, TX8, 10)) hx hb hK hP hD hS a 4 v 8 (sm_ws_at hc1) rfl (sm_ws_at hc2) rfl hin hd2 hk
  case ldc idx =>
    have hd2 := hd1 rfl
    unfold sm_k at hg
    dsimp only at hg hlk
    split at hg
    · rename_i h0
      rcases hlk with ⟨-, hw⟩ | ⟨h1, -⟩
      · cases hg
        exact lv_ldc hx hb hown (hts _ (sm_Gin hw rfl)) hd2 (k H locs cells slots rfl rfl hP hD hS)
      · exact absurd (h1.symm.trans h0) (by decide)
    · rename_i h0
      split at hg <;> first | (cases hg; done) | skip
      rcases hlk with ⟨h1, -⟩ | ⟨-, ho, hi⟩
      · exact absurd h1 h0
      · cases hg
        obtain ⟨tx, hR⟩ := hStr _ _ hi
        rw [← ho] at hR
        exact va_ldcS hx hb hown hR hd2 (k H locs cells slots rfl rfl hP hD hS)
  case ldc_w idx =>
    have hd2 := hd1 rfl
    cases hg
    exact lv_ldcw hx hb hown (hts _ (sm_Gin hlk rfl)) hd2 (k H locs cells slots rfl rfl hP hD hS)
  case ldc2_w idx =>
    have hd2 := hd1 rfl
    cases hg
    exact lv_ldc2 hx hb hown (hts _ (sm_Gin hlk rfl)) hd2 (k H locs cells slots rfl rfl hP hD hS)
  case invokespecial idx =>
    have hd2 := hd1 rfl
    unfold sm_k at hg
    dsimp only at hg
    split at hg <;> first | (cases hg; done) | skip
    rename_i a r
    split at hg <;> first | (cases hg; done) | skip
    rename_i hh
    obtain ⟨h9, hdd, hcat⟩ := hh
    cases hg
    have hc2 : ((sm_cS B r).map fun v => v.category).sum ≤ 8 := by
      have := sm_cS_cat B r
      unfold sm_cat at this hcat
      omega
    refine W.objInit hx hb hown (hts _ (sm_Gin (hlk2.1 h9 idx rfl) rfl)) (hts _ (sm_Gin hobj.1 rfl)) (hts _ (sm_Gin hobj.2 rfl)) rfl (by rw [hml]; exact hls) (a := B a) (rest := sm_cS B r) rfl hd2 (by omega) (by show 2 * 0 + _ + 12 ≤ R.locals; omega) ?_
    exact W.eq rfl (k H locs cells slots rfl rfl hP hD hS)
  case invokestatic idx =>
    have hd2 := hd1 rfl
    unfold sm_k at hg
    dsimp only at hg
    split at hg <;> first | (cases hg; done) | skip
    rename_i n dp b sp a r
    split at hg <;> first | (cases hg; done) | skip
    rename_i ta na f tb nb g2 hc1 hc2
    split at hg <;> first | (cases hg; done) | skip
    rename_i hh
    obtain ⟨h9, hdd, hcat, hta, htb, h1, h2, h3, h4, h5⟩ := hh
    subst hta
    subst htb
    cases hg
    dsimp only at hRc hRs k
    have hc3 : ((sm_cS B r).map fun v => v.category).sum ≤ 8 := by
      have := sm_cS_cat B r
      unfold sm_cat at this hcat
      omega
    have e3 : sm_sl (h.set b (.inl (1, nb, .inr (.inl (va_cpy f g2 sp.toNatClampNeg dp.toNatClampNeg n.toNatClampNeg))))) = sm_sl h := sm_sl_set hc2 rfl
    have e2 := sm_ws_set B dA (.inl (1, nb, .inr (.inl (va_cpy f g2 sp.toNatClampNeg dp.toNatClampNeg n.toNatClampNeg)))) h 0 b
    rw [Nat.zero_add] at e2
    refine va_copyl (ty := .long) hx hb (by rw [hml, hls]) hown (hts _ (sm_Gin (hlk2.2 h9 idx rfl) rfl)) (hts _ (sm_Gin hcpy.1 rfl)) (hts _ (sm_Gin hcpy.2.1 rfl)) (hts _ (sm_Gin hcpy.2.2 rfl)) hK hP hD hS a b 1 1 (sm_ws_at hc1) (sm_ws_at hc2) rfl rfl rfl h1 h2 h3 h4 h5 (fun _ _ => rfl) (by omega) (by
      have : nativeFrameWords "java/lang/System" "arraycopy" 5 = 7 := by decide +kernel
      show ((sm_cS B r).map fun v => v.category).sum + (nativeFrameWords "java/lang/System" "arraycopy" 5 + 11) ≤ R.locals
      omega) hd2 (fun H1 locs1 a1 a2 a3 => ?_)
    exact k H1 locs1 cells slots (by rw [List.length_set]) (by rw [e3]) (by rw [e2]; exact a1) (by rw [e2]; exact a2) a3
end SMK
end
section
theorem sm_hobj : Cond.instanceMethod objectInit ∈ lw_tbl ∧ Cond.code objectInit ⟨#[0xb1]⟩ 1 none ∈ lw_tbl := by decide +kernel
theorem sm_hcpy : Cond.native arraycopyName ∈ lw_tbl ∧ Cond.static arraycopyName ∈ lw_tbl ∧ Cond.initialized "java/lang/System" ∈ lw_tbl := by decide +kernel
abbrev sm_par (y : MethodName) : Option Nat := (parseMethodDescriptor y.desc).map (fun d => d.parameters.length)
abbrev sm_link (own : String) (idx : Nat) (y : MethodName) : Prop := Cond.methodLink own idx y ∈ lw_tbl ∨ ∃ host, Cond.methodLinkNest own idx y host ∈ lw_tbl
/-- what the tables must say of a call -/
def sm_ck (M : Nat → Option sm_I) (own : String) (w : sm_E) : Prop := match w.1 with
  | .invokevirtual idx => (w.2.1 = 900 → Cond.methodLink own idx yJ0_length_8abf5 ∈ lw_tbl) ∧ (w.2.1 = 901 → Cond.methodLink own idx yJ0_charAt_5068e ∈ lw_tbl) ∧ (w.2.1 = 902 → Cond.methodLink own idx yJ0_equals_9ea2d ∈ lw_tbl) ∧ ∀ K, M w.2.1 = some K → (∃ q, vwCl[w.2.2.2]? = some q ∧ q.1 = K.1.cls) ∧ sm_par K.1 = some w.2.2.1 ∧ Cond.instanceMethod K.1 ∈ lw_tbl ∧ Cond.selects K.1.cls K.1 K.1 ∈ lw_tbl ∧ sm_link own idx K.1
  | .invokespecial idx => (w.2.1 = 999 → Cond.methodLink own idx objectInit ∈ lw_tbl) ∧ ∀ K, M w.2.1 = some K → sm_par K.1 = some w.2.2.1 ∧ Cond.instanceMethod K.1 ∈ lw_tbl ∧ K.1.name = "<init>" ∧ K.2.2.2.1 = none ∧ sm_link own idx K.1
  | .invokestatic idx => (w.2.1 = 998 → Cond.methodLink own idx arraycopyName ∈ lw_tbl) ∧ ∀ K, M w.2.1 = some K → sm_par K.1 = some w.2.2.1 ∧ Cond.static K.1 ∈ lw_tbl ∧ sm_link own idx K.1
  | _ => True
/-- a method of the table is the tables' one -/
def sm_mok (M : Nat → Option sm_I) (J : sm_I) : Prop :=
  plainName J.1.cls = true ∧ Cond.code J.1 J.2.1 J.2.2.1 J.2.2.2.1 ∈ lw_tbl ∧ Cond.initialized J.1.cls ∈ lw_tbl ∧ (J.1.cls ≠ "java/lang/invoke/MethodHandle" ∧ J.1.cls ≠ "java/lang/invoke/VarHandle") ∧ J.2.2.1 ≤ 14 ∧
  ∀ (pc : Nat) (w : sm_E), J.2.2.2.2[pc]? = some (some w) → sm_dc J.2.1 pc w ∧ sm_jok pc w = true ∧ sm_lk J.1.cls (J.1.name == "<init>") w ∧ sm_ck M J.1.cls w
/-- what stays true of the machine while a run goes on: nest mates' links, arrays of references, texts -/
def sm_Ev (B : Nat → Nat) (X : State → Prop) (U : State) : Prop :=
  (∀ C, Cond.arrayOver (.object C) ∈ lw_tbl → va_AO C U) ∧ (∀ own idx y host, Cond.methodLinkNest own idx y host ∈ lw_tbl → va_Nw (.methodLinkNest own idx y host) U) ∧ (∀ i idx, [42, 106, 108, 110, 112, 114][i]? = some idx → ∃ tx, vk_R RX2 idx tx (B (1000 + i)) U) ∧ X U
/-- what is asked of the texts' own methods -/
def sm_rx : Room := { frames := 5, cells := 0, slots := 0, locals := 165 }
def sm_wx (y : MethodName) (b : ByteArray) (n : Nat) (t : FieldType) : List Cond := .code y b n (some t) :: sm_G
def sm_Qx (v : Int32) : Array Value → State → Outcome → State → Prop := fun _ st oc t => oc = .returned (some (.int v)) ∧ t.heap = st.heap
/-- a text's method begins in such a state -/
def sm_Px (base : Nat) (X : State → Prop) (U : State) : Prop := base ≤ U.heap.size ∧ X U
def sm_Xk (l : Launch) (B : Nat → Nat) (base : Nat) (X : State → Prop) : Prop :=
  (∀ u U : State, X u → u.WarmedH U.vm → base ≤ u.heap.size → (∀ q, q < u.heap.size → ¬ base ≤ q → U.heap[q]? = u.heap[q]?) → X U) ∧
  (∀ U : State, X U → ∀ i, i < 6 → B (1000 + i) < base ∧ ∃ cell : Cell, U.heap[B (1000 + i)]? = some cell ∧ cell.vm.isStatics = false ∧ U.vm.findClass "java/lang/String" = some cell.cls) ∧
  (∀ i, i < 6 → Met l yJ0_length_8abf5 (sm_wx yJ0_length_8abf5 cJ0_length_8abf5 1 .int) sm_rx (va_Pc [.ref (B (1000 + i))] (sm_Px base X)) (sm_Qx (Int32.ofNat (sm_tx i).length)) 0 0 (fun _ => False)) ∧
  (∀ i, i < 6 → ∀ k : Int32, ¬ (k < 0 ∨ (sm_tx i).length ≤ k.toNatClampNeg) → Met l yJ0_charAt_5068e (sm_wx yJ0_charAt_5068e cJ0_charAt_5068e 2 .char) sm_rx (va_Pc [.ref (B (1000 + i)), .int k] (sm_Px base X)) (sm_Qx (Int32.ofNat ((sm_tx i).getD k.toNatClampNeg 0))) 0 0 (fun _ => False)) ∧
  (∀ i j, i < 6 → j < 6 → Met l yJ0_equals_9ea2d (sm_wx yJ0_equals_9ea2d cJ0_equals_9ea2d 3 .boolean) sm_rx (va_Pc [.ref (B (1000 + i)), .ref (B (1000 + j))] (sm_Px base X)) (sm_Qx (if i = j then 1 else 0)) 0 0 (fun _ => False))
theorem sm_Ev.warm {l : Launch} {B : Nat → Nat} {base : Nat} {X : State → Prop} {u U : State} (hX : sm_Xk l B base X) (h : sm_Ev B X u) (hW : u.WarmedH U.vm) (hb : base ≤ u.heap.size) (hh : ∀ q, q < u.heap.size → ¬ base ≤ q → U.heap[q]? = u.heap[q]?) : sm_Ev B X U :=
  ⟨fun C hC => va_AO.moved hW.alike (h.1 C hC), fun own idx y host hw => va_Nw.warmM hW (h.2.1 own idx y host hw), fun i idx hi => (h.2.2.1 i idx hi).elim fun tx q => ⟨tx, vk_R.warm hW q⟩, hX.1 u U h.2.2.2 hW hb hh⟩
/-- a method's end, in words of the small machine -/
def sm_Qc (D : va_G) (B : Nat → Nat) (dA : Nat → ClassId) (base : Nat) (r : Option Value × sm_H) : Array Value → State → Outcome → State → Prop := fun _ st oc t =>
  oc = .returned (r.1.map (sm_cv B)) ∧ va_P D vwCl (sm_ws B dA 0 r.2) t.heap ∧ va_D (fun q => base ≤ q) (sm_ws B dA 0 r.2) ∧ va_F (fun q => base ≤ q) st t
/-- a method's start, in words of the small machine -/
def sm_Pc (D : va_G) (B : Nat → Nat) (dA : Nat → ClassId) (base : Nat) (X : State → Prop) (av : List Value) (h : sm_H) : Array Value → State → Prop :=
  va_Pc (av.map (sm_cv B)) (fun U => U.heap.size = base + h.length ∧ va_P D vwCl (sm_ws B dA 0 h) U.heap ∧ va_D (fun q => base ≤ q) (sm_ws B dA 0 h) ∧ va_K D vwCl (sm_TY dA) U ∧ sm_Ev B X U)
def sm_WS (J : sm_I) : List Cond := .code J.1 J.2.1 J.2.2.1 J.2.2.2.1 :: sm_G
def sm_rm (d : Nat) (h : sm_H) (r : Option Value × sm_H) : Room := { frames := d, cells := r.2.length - h.length, slots := sm_sl r.2 - sm_sl h, locals := 33 * d }
theorem sm_blind {l : Launch} {D : va_G} {B : Nat → Nat} {dA : Nat → ClassId} {base : Nat} {X : State → Prop} (hX : sm_Xk l B base X) (av : List Value) (h : sm_H) : FrameBlind (sm_Pc D B dA base X av h) := by
  intro a U g mk q
  obtain ⟨q0, q1, qP, qD, qK, qE⟩ := q
  exact ⟨q0, q1, qP, qD, va_K.moved (u := U) (U := U.calling g mk a) (Vm.Alike.refl U.vm) qK, sm_Ev.warm (U := U.calling g mk a) hX qE (State.WarmedH.refl U) (by rw [q1]; exact Nat.le_add_right _ _) (fun _ _ _ => rfl)⟩
theorem sm_lv_args (B : Nat → Nat) : ∀ (vs : List Value) (i : Nat), lv_args i (vs.map (sm_cv B)) = sm_cL B (lv_args i vs) := by
  intro vs
  induction vs with
  | nil => intro i; rfl
  | cons v vs ih =>
    intro i
    show (i, sm_cv B v) :: lv_args (if (sm_cv B v).category = 2 then i + 2 else i + 1) (vs.map (sm_cv B)) = _
    rw [sm_cv_cat, ih]
    rfl
theorem sm_sl_len (vs : List Value) : (lg_sl vs).length = sm_cat vs := by
  induction vs with
  | nil => rfl
  | cons v vs ih =>
    unfold lg_sl sm_cat at ih ⊢
    rw [List.flatMap_cons, List.length_append, ih, List.map_cons, List.sum_cons]
    cases v <;> rfl
section SMSND
variable {p : Program} {l : Launch} {e : Env} {R : Room} {s : State} {m : MethodId} {args : Array Value} {below : List Frame} {meth : Method} {c : Code} {H : Heap} {locs : List Loc} {cells slots : Nat} {Q : State → Prop}
variable {cc : ByteArray} {pc : Nat} {ls : Array Slot} {dC : Nat → ClassId} {dI : Nat → Nat → Nat} {dA : Nat → ClassId} {B : Nat → Nat} {base : Nat} {X : State → Prop} {M : Nat → Option sm_I}
/-- what the proof goes by, for runs of at most n steps -/
def sm_OK (M : Nat → Option sm_I) (l : Launch) (dC : Nat → ClassId) (dI : Nat → Nat → Nat) (dA : Nat → ClassId) (B : Nat → Nat) (base : Nat) (X : State → Prop) (n : Nat) : Prop :=
  ∀ (d : Nat) (I : sm_I) (pc : Nat) (lv : sm_L) (st : List Value) (h : sm_H) (r : Option Value × sm_H), sm_run M n d I pc lv st h = some r → sm_mok M I → r.2.length ≤ 999 →
  ∀ (p : Program) (e : Env) (R : Room) (s : State) (m : MethodId) (args : Array Value) (below : List Frame) (meth : Method) (c : Code) (H : Heap) (locs : List Loc) (cells slots mc ms : Nat) (ls : Array Slot),
  p.tables.exec = Jvm.exec → c.code = I.2.1 → meth.sig.returnType = I.2.2.2.1 → c.maxLocals = I.2.2.1 → (∀ w ∈ sm_G, w.before args s = true) → s.vm.findClass I.1.cls = some m.cls → meth.locks = false → meth.name = I.1.name →
  va_K (dC, dI) vwCl (sm_TY dA) s → base ≤ s.heap.size → sm_Ev B X s →
  va_P (dC, dI) vwCl (sm_ws B dA 0 h) H → va_D (fun q => base ≤ q) (sm_ws B dA 0 h) → va_S (fun q => base ≤ q) s.heap H locs → lv_has ls I.2.2.1 (sm_cL B lv) →
  s.heap.size + cells = base + h.length → cells + r.2.length = mc + h.length → slots + sm_sl r.2 = ms + sm_sl h → mc ≤ R.cells → ms ≤ R.slots → d ≤ R.frames → 33 * d ≤ R.locals →
  W p l e R s m args below meth c H locs cells slots (MQ below (sm_Qc (dC, dI) B dA base r) args s mc ms (fun q => base ≤ q)) (F0 m pc ls (sm_cS B st))
theorem sm_met {n d : Nat} {J : sm_I} {as : List Value} {h : sm_H} {r : Option Value × sm_H} (hOK : sm_OK M l dC dI dA B base X n) (hX : sm_Xk l B base X) (hr : sm_run M n d J 0 (lv_args 0 as) [] h = some r) (hmok : sm_mok M J) (hcat : sm_cat as ≤ J.2.2.1) (hfin : r.2.length ≤ 999) :
    Met l J.1 (sm_WS J) (sm_rm d h r) (sm_Pc (dC, dI) B dA base X as h) (sm_Qc (dC, dI) B dA base r) (r.2.length - h.length) (sm_sl r.2 - sm_sl h) (fun q => base ≤ q) := by
  obtain ⟨z1, z2⟩ := sm_run_size M _ _ _ _ _ _ _ _ hr
  refine Met.ofW (cc := J.2.1) (maxL := J.2.2.1) (ret := J.2.2.2.1) hmok.1 rfl ?_
  intro p e s m args below meth c s₁ Bd hml hv
  obtain ⟨rfl, hsz, hP, hD, hK, hE⟩ := hv
  have hts0 := atoms_spec (ws := sm_WS J) Bd.pre
  have hcat' : (lg_sl (as.map (sm_cv B))).length ≤ J.2.2.1 := by rw [sm_sl_len]; rw [show as.map (sm_cv B) = sm_cS B as from rfl, sm_cS_cat]; exact hcat
  have hl := lv_entry (as.map (sm_cv B)) (n := J.2.2.1) hcat'
  rw [sm_lv_args] at hl
  rw [lg_entry_eq]
  exact hOK d J 0 (lv_args 0 as) [] h r hr hmok hfin p e _ s m _ below meth c s.heap [] 0 0 _ _ _ Bd.exec Bd.bytes Bd.returns hml (fun w hw => hts0 w (List.mem_cons_of_mem _ hw)) (findClass_of_methodNamed Bd.named) Bd.notSynchronized (name_of_methodNamed Bd.named Bd.method).1 hK (by omega) hE hP hD va_S.rf hl (by omega) (by omega) (by omega) (Nat.le_refl _) (Nat.le_refl _) (Nat.le_refl _) (Nat.le_refl _)
theorem sm_callW {st0 rest : List Value} {mc ms : Nat} {Qa : State → Outcome → State → Prop} {free : Addr → Prop} (hr : va_Run p l e R s m args below meth c H locs cells slots mc ms (F0 m pc ls st0) rest Qa free)
    (kk : ∀ (v : Option Value) (st₀ t : State) (H1 : Heap) (L : List Loc), st₀.heap = H → t.heap = H1 → Qa st₀ (.returned v) t → (∀ q ∈ L, free q.base) → W p l e R s m args below meth c H1 (locs ++ L) (cells + mc) (slots + ms) Q (F0 m (pc + 3) ls (v.toList ++ rest))) : W p l e R s m args below meth c H locs cells slots Q (F0 m pc ls st0) := by
  intro T hT X
  obtain ⟨v, st₀, t, T', L, h0, X', hL, e1, e2, hq, st⟩ := hr T hT X
  obtain ⟨t2, a1, b1⟩ := kk v st₀ t T'.heap L h0 e1.symm hq hL T' rfl X'
  exact ⟨t2, st t2 a1, b1⟩
theorem sm_goodIn {ws : List Cond} (h : ∀ w ∈ ws, w ∈ sm_G) : GoodIn sm_G ws := fun w hw => ⟨h w hw, good_of_word (List.mem_filter.mp (h w hw)).2⟩
theorem sm_WS_in {J : sm_I} (h : sm_mok M J) : ∀ w ∈ sm_WS J, w ∈ sm_G := by
  intro w hw
  rcases List.mem_cons.mp hw with rfl | hw
  · exact sm_Gin h.2.1 rfl
  · exact hw
end SMSND
end
section
theorem sm_xw0 : Cond.code yJ0_length_8abf5 cJ0_length_8abf5 1 (some .int) ∈ lw_tbl ∧ Cond.instanceMethod yJ0_length_8abf5 ∈ lw_tbl ∧ Cond.selects RJ0 yJ0_length_8abf5 yJ0_length_8abf5 ∈ lw_tbl ∧ Cond.initialized RJ0 ∈ lw_tbl := by decide +kernel
theorem sm_xw1 : Cond.code yJ0_charAt_5068e cJ0_charAt_5068e 2 (some .char) ∈ lw_tbl ∧ Cond.instanceMethod yJ0_charAt_5068e ∈ lw_tbl ∧ Cond.selects RJ0 yJ0_charAt_5068e yJ0_charAt_5068e ∈ lw_tbl ∧ Cond.initialized RJ0 ∈ lw_tbl := by decide +kernel
theorem sm_xw2 : Cond.code yJ0_equals_9ea2d cJ0_equals_9ea2d 3 (some .boolean) ∈ lw_tbl ∧ Cond.instanceMethod yJ0_equals_9ea2d ∈ lw_tbl ∧ Cond.selects RJ0 yJ0_equals_9ea2d yJ0_equals_9ea2d ∈ lw_tbl ∧ Cond.initialized RJ0 ∈ lw_tbl := by decide +kernel
theorem sm_xp0 : sm_par yJ0_length_8abf5 = some 0 := by decide +kernel
theorem sm_xp1 : sm_par yJ0_charAt_5068e = some 1 := by decide +kernel
theorem sm_xp2 : sm_par yJ0_equals_9ea2d = some 1 := by decide +kernel
theorem sm_1000 (a : Nat) (h1 : 1000 ≤ a) (h2 : a < 1006) : 1000 + (a - 1000) = a ∧ a - 1000 < 6 := by omega
theorem sm_1000eq (a b : Nat) (h1 : 1000 ≤ a) (h3 : 1000 ≤ b) : (if a - 1000 = b - 1000 then (1 : Int32) else 0) = if a = b then 1 else 0 := by
  by_cases hab : a = b
  · subst hab; simp
  · rw [if_neg hab, if_neg (by omega)]
section SMMAIN
variable {p : Program} {l : Launch} {e : Env} {R : Room} {s : State} {m : MethodId} {args : Array Value} {below : List Frame} {meth : Method} {c : Code} {H : Heap} {locs : List Loc} {cells slots : Nat} {Q : State → Prop}
variable {cc : ByteArray} {pc : Nat} {ls : Array Slot} {dC : Nat → ClassId} {dI : Nat → Nat → Nat} {dA : Nat → ClassId} {B : Nat → Nat} {base : Nat} {X : State → Prop} {M : Nat → Option sm_I}
theorem sm_size {D : va_G} {cl : List vw_C} {h : sm_H} {g : JFrame} (hP : va_P D cl (sm_ws B dA 0 h) H) (hB : ∀ k, k < 1000 → B k = base + k) (hlen : h.length ≤ 999) (hS : va_S (fun q => base ≤ q) s.heap H locs) (hbase : base ≤ s.heap.size) (hsz : s.heap.size + cells = base + h.length)
    (kk : H.size = base + h.length → W p l e R s m args below meth c H locs cells slots Q g) : W p l e R s m args below meth c H locs cells slots Q g := by
  intro T hT X
  refine kk ?_ T hT X
  have h1 := X.heapSize
  rw [hT] at h1
  have h2 : base + h.length ≤ H.size := by
    rcases Nat.eq_zero_or_pos h.length with h0 | h0
    · have := hS.1
      omega
    · have hk : h.length - 1 < h.length := by omega
      have := (hP _ _ (sm_ws_at (B := B) (dA := dA) (List.getElem?_eq_getElem hk))).lt
      dsimp only at this
      rw [hB _ (by omega)] at this
      omega
  omega
/-- a call of one of the texts' own methods -/
theorem sm_x_ok {own : String} {y : MethodName} {b : ByteArray} {nL n idx d : Nat} {t : FieldType} {i : Nat} {As : List Value} {v : Int32} {rest : List Value} (hX : sm_Xk l B base X) (hx : p.tables.exec = Jvm.exec) (hb : c.code = cc) (hml : c.maxLocals = nL) (hls : ls.size = nL) (hts : ∀ w ∈ sm_G, w.before args s = true) (hown : s.vm.findClass own = some m.cls)
    (hE : X s) (hbase : base ≤ s.heap.size) (hS : va_S (fun q => base ≤ q) s.heap H locs) (hcat : sm_cat rest ≤ 8) (hRf : d ≤ R.frames) (hRl : 33 * d ≤ R.locals) (hd6 : 6 ≤ d) (hRc : cells ≤ R.cells) (hRs : slots ≤ R.slots) (hi : i < 6)
    (hyc : y.cls = RJ0) (hw : Cond.code y b n (some t) ∈ lw_tbl ∧ Cond.instanceMethod y ∈ lw_tbl ∧ Cond.selects RJ0 y y ∈ lw_tbl ∧ Cond.initialized RJ0 ∈ lw_tbl) (hn : n ≤ 14) (hpar : sm_par y = some As.length) (hlink : Cond.methodLink own idx y ∈ lw_tbl)
    (hM : Met l y (sm_wx y b n t) sm_rx (va_Pc (.ref (B (1000 + i)) :: As) (sm_Px base X)) (sm_Qx v) 0 0 (fun _ => False)) (hdg : decode cc pc = .ok (.invokevirtual idx, 3))
    (k : ∀ locs' : List Loc, va_S (fun q => base ≤ q) s.heap H locs' → W p l e R s m args below meth c H locs' cells slots Q (F0 m (pc + 3) ls (.int v :: rest))) :
    W p l e R s m args below meth c H locs cells slots Q (F0 m pc ls (As.reverse ++ .ref (B (1000 + i)) :: rest)) := by
  obtain ⟨w1, w2, w3, w4⟩ := hw
  obtain ⟨hlt, cell, c1, c2, c3⟩ := hX.2.1 s hE i hi
  have hG : GoodIn sm_G (wsV own idx RJ0 y (sm_wx y b n t)) := sm_goodIn fun w hw => by
    rcases List.mem_append.mp hw with hw | hw
    · simp only [List.mem_cons, List.not_mem_nil, or_false] at hw
      rcases hw with rfl | rfl | rfl | rfl
      · exact sm_Gin hlink rfl
      · exact sm_Gin w2 rfl
      · exact sm_Gin w3 rfl
      · exact sm_Gin w4 rfl
    · rcases List.mem_cons.mp hw with rfl | hw
      · exact sm_Gin w1 rfl
      · exact hw
  have hH : ∀ q, q < s.heap.size → ¬ base ≤ q → H[q]? = s.heap[q]? := hS.2.1
  have hne : RJ0 ≠ "java/lang/invoke/MethodHandle" ∧ RJ0 ≠ "java/lang/invoke/VarHandle" := ⟨by decide, by decide⟩
  refine sm_callW (va_runV (As := As) (rest := rest) (C := RJ0) (nL := nL) (n := As.length) (index := idx) ⟨hx, hb, hml, hown, hts⟩ hM
    (cwV As.length hts hG rfl rfl rfl ⟨hyc, by rw [hyc]; exact hne.1, by rw [hyc]; exact hne.2, hpar⟩ ⟨by show 5 + 1 ≤ R.frames; omega, by show 8 + (n + 11) + 165 ≤ R.locals; omega⟩)
    ⟨fun a U g mk q => ⟨q.1, q.2.1, hX.1 U _ q.2.2 (State.WarmedH.refl U) q.2.1 (fun _ _ _ => rfl)⟩, ⟨cell, by rw [hH _ (by omega) (by omega)]; exact c1, c2, c3⟩, fun U hU hW => ⟨rfl, by rw [hU]; exact Nat.le_trans hbase hS.1, hX.1 s U hE hW hbase (fun q h1 h2 => by rw [hU]; exact hH q h1 h2)⟩⟩
    rfl rfl hls rfl (lv_room hcat) hdg ⟨hRc, hRs⟩) (fun v' st₀ t' H1 L h0 h1 hq hL => ?_)
  obtain ⟨hv, hh⟩ := hq
  cases hv
  have : H1 = H := by rw [← h1, hh, h0]
  subst this
  exact k (locs ++ L) ⟨hS.1, hS.2.1, fun q hq => (List.mem_append.mp hq).elim (hS.2.2 q) (fun h => (hL q h).elim)⟩
theorem sm_split (B : Nat → Nat) (st : List Value) (n : Nat) : sm_cS B st = (((st.take n).reverse).map (sm_cv B)).reverse ++ sm_cS B (st.drop n) := by
  unfold sm_cS
  rw [List.map_reverse, List.reverse_reverse, ← List.map_append, List.take_append_drop]
/-- behind a call of a method of the table -/
theorem sm_back {h : sm_H} {q : Option Value × sm_H} {rest st0 : List Value} {a : Array Value} (hr : va_Run p l e R s m args below meth c H locs cells slots (q.2.length - h.length) (sm_sl q.2 - sm_sl h) (F0 m pc ls st0) (sm_cS B rest) (sm_Qc (dC, dI) B dA base q a) (fun x => base ≤ x))
    (hS : va_S (fun q => base ≤ q) s.heap H locs)
    (k : ∀ (H1 : Heap) (locs1 : List Loc), va_P (dC, dI) vwCl (sm_ws B dA 0 q.2) H1 → va_D (fun q => base ≤ q) (sm_ws B dA 0 q.2) → va_S (fun q => base ≤ q) s.heap H1 locs1 → W p l e R s m args below meth c H1 locs1 (cells + (q.2.length - h.length)) (slots + (sm_sl q.2 - sm_sl h)) Q (F0 m (pc + 3) ls (sm_cS B (q.1.toList ++ rest)))) :
    W p l e R s m args below meth c H locs cells slots Q (F0 m pc ls st0) := by
  refine sm_callW hr (fun v st₀ t H1 L h0 h1 hq hL => ?_)
  obtain ⟨hv, hP, hD, hF1, hF2⟩ := hq
  have hv := Outcome.returned.inj hv
  subst hv
  rw [h0] at hF1 hF2
  have e1 : (q.1.map (sm_cv B)).toList ++ sm_cS B rest = sm_cS B (q.1.toList ++ rest) := by
    cases q.1 <;> rfl
  rw [e1]
  refine k H1 (locs ++ L) (by rw [← h1]; exact hP) hD ⟨Nat.le_trans hS.1 (by rw [← h1]; exact hF1), fun x a1 a2 => ?_, fun x hx => (List.mem_append.mp hx).elim (hS.2.2 x) (hL x)⟩
  rw [← h1, hF2 x (Nat.lt_of_lt_of_le a1 hS.1) a2]
  exact hS.2.1 x a1 a2
set_option maxHeartbeats 8000000 in
theorem sm_sound (hB : ∀ k, k < 1000 → B k = base + k) (hX : sm_Xk l B base X) (hM : ∀ a J, M a = some J → sm_mok M J) : ∀ n, sm_OK M l dC dI dA B base X n := by
  intro n
  induction n with
  | zero => intro d I pc lv st h r hr; cases hr
  | succ n ih =>
    intro d I pc lv st h r hr hmok hfin p e R s m args below meth c H locs cells slots mc ms ls hx hb hrt hml hts hown hlocks hname hK hbase hE hP hD hS hl hsz hmc hms hRc hRs hRf hRl
    have hr0 := sm_run_size M _ _ _ _ _ _ _ _ hr
    unfold sm_run at hr
    split at hr
    rotate_left
    · cases hr
    rename_i w hw
    obtain ⟨hd, hj, hlk, hck⟩ := hmok.2.2.2.2.2 pc w hw
    have hnext := fun pc' lv' st' h' (hr' : sm_run M n d I pc' lv' st' h' = some r) H' locs' cells' slots' ls' => ih d I pc' lv' st' h' r hr' hmok hfin p e R s m args below meth c H' locs' cells' slots' mc ms ls' hx hb hrt hml hts hown hlocks hname hK hbase hE
    split at hr
    · rename_i g hg
      exact sm_p_ok hx hb hd hj hg hl (fun ls' hl' => hnext _ _ _ _ hr _ _ _ _ ls' hP hD hS hl' hsz hmc hms hRc hRs hRf hRl)
    rename_i hz
    clear hz
    split at hr
    · rename_i g hg
      obtain ⟨z1, z2⟩ := sm_h_size hg
      exact sm_h_ok hx hb hts hown (fun hi => by rw [hname]; simpa using hi) hK hP hD hS hd hlk hg (fun H1 locs1 a1 a2 a3 => hnext _ _ _ _ hr _ _ _ _ ls a1 a2 a3 hl (by omega) (by omega) (by omega) hRc hRs hRf hRl)
    rename_i hz
    clear hz
    split at hr
    · rename_i g hg
      obtain ⟨z1, z2⟩ := sm_k_size hg
      obtain ⟨y1, y2⟩ := sm_run_size M _ _ _ _ _ _ _ _ hr
      refine sm_k_ok hx hb hml hl.1 hts hown hK hP hD hS hbase hB hE.2.2.1 hE.1 sm_hobj sm_hcpy ⟨fun h9 idx hi => ?_, fun h9 idx hi => ?_⟩ hsz hRf hRl hd hlk hg (by omega) (by omega) (fun H1 locs1 c1 s1 e1 e2 a1 a2 a3 => hnext _ _ _ _ hr _ _ _ _ ls a1 a2 a3 hl (by omega) (by omega) (by omega) hRc hRs hRf hRl)
      · unfold sm_ck at hck; rw [hi] at hck; exact hck.1 h9
      · unfold sm_ck at hck; rw [hi] at hck; exact hck.1 h9
    rename_i hz
    clear hz
    split at hr
    · rename_i g hg
      unfold sm_x at hg
      split at hg <;> first | (cases hg; done) | skip
      rename_i idx hi
      have hd2 := sm_dc1 hd (by rw [hi]; rfl)
      rw [hi] at hd2
      unfold sm_ck at hck
      rw [hi] at hck
      have hfinish : ∀ (v : Int32) (rest : List Value), g = .int v :: rest → ∀ locs' : List Loc, va_S (fun q => base ≤ q) s.heap H locs' → W p l e R s m args below meth c H locs' cells slots (MQ below (sm_Qc (dC, dI) B dA base r) args s mc ms (fun q => base ≤ q)) (F0 m (pc + 3) ls (.int v :: sm_cS B rest)) := by
        intro v rest hg locs' hS'
        subst hg
        exact hnext _ _ _ _ hr _ _ _ _ ls hP hD hS' hl hsz hmc hms hRc hRs hRf hRl
      split at hg
      · rename_i h9
        split at hg <;> first | (cases hg; done) | skip
        rename_i a rest
        split at hg <;> first | (cases hg; done) | skip
        rename_i hh
        obtain ⟨hd6, hcat, h1, h2⟩ := hh
        cases hg
        obtain ⟨ha, ha6⟩ := sm_1000 a h1 h2
        have := sm_x_ok (ls := ls) (i := a - 1000) (As := []) (rest := sm_cS B rest) (Q := MQ below (sm_Qc (dC, dI) B dA base r) args s mc ms (fun q => base ≤ q)) hX hx hb hml hl.1 hts hown hE.2.2.2 hbase hS (by rw [sm_cS_cat]; exact hcat) hRf hRl hd6 (by omega) (by omega) ha6 rfl sm_xw0 (by decide) sm_xp0 (hck.1 h9) (hX.2.2.1 (a - 1000) ha6) hd2 (hfinish _ _ rfl)
        rw [ha] at this
        exact this
      split at hg
      · rename_i h9
        split at hg <;> first | (cases hg; done) | skip
        rename_i i a rest
        split at hg <;> first | (cases hg; done) | skip
        rename_i hh
        obtain ⟨hd6, hcat, h1, h2, h3⟩ := hh
        cases hg
        obtain ⟨ha, ha6⟩ := sm_1000 a h1 h2
        have := sm_x_ok (ls := ls) (i := a - 1000) (As := [.int i]) (rest := sm_cS B rest) (Q := MQ below (sm_Qc (dC, dI) B dA base r) args s mc ms (fun q => base ≤ q)) hX hx hb hml hl.1 hts hown hE.2.2.2 hbase hS (by rw [sm_cS_cat]; exact hcat) hRf hRl hd6 (by omega) (by omega) ha6 rfl sm_xw1 (by decide) sm_xp1 (hck.2.1 h9) (hX.2.2.2.1 (a - 1000) ha6 i h3) hd2 (hfinish _ _ rfl)
        rw [ha] at this
        exact this
      split at hg
      · rename_i h9
        split at hg <;> first | (cases hg; done) | skip
        rename_i b a rest
        split at hg <;> first | (cases hg; done) | skip
        rename_i hh
        obtain ⟨hd6, hcat, h1, h2, h3, h4⟩ := hh
        cases hg
        obtain ⟨ha, ha6⟩ := sm_1000 a h1 h2
        obtain ⟨hb2, hb6⟩ := sm_1000 b h3 h4
        have hMet := hX.2.2.2.2 (a - 1000) (b - 1000) ha6 hb6
        rw [sm_1000eq a b h1 h3, hb2] at hMet
        have := sm_x_ok (ls := ls) (i := a - 1000) (As := [.ref (B b)]) (rest := sm_cS B rest) (Q := MQ below (sm_Qc (dC, dI) B dA base r) args s mc ms (fun q => base ≤ q)) hX hx hb hml hl.1 hts hown hE.2.2.2 hbase hS (by rw [sm_cS_cat]; exact hcat) hRf hRl hd6 (by omega) (by omega) ha6 rfl sm_xw2 (by decide) sm_xp2 (hck.2.2.1 h9) hMet hd2 (hfinish _ _ rfl)
        rw [ha] at this
        exact this
      · cases hg
    rename_i hz
    clear hz
    split at hr
    · rename_i v hg
      cases hr
      have e1 : mc = cells := by dsimp only at hmc; omega
      have e2 : ms = slots := by dsimp only at hms; omega
      subst e1
      subst e2
      have hq : ∀ (oc : Outcome) (t : State), oc = .returned (v.map (sm_cv B)) → t.heap = H → sm_Qc (dC, dI) B dA base (v, h) args s oc t := fun oc t ho ht => ⟨ho, by rw [ht]; exact hP, hD, hS.F ht⟩
      unfold sm_rt at hg
      split at hg <;> first | (cases hg; done) | skip
      · rename_i h1 h2
        cases hg
        have hd2 := sm_dc1 hd (by rw [h1]; rfl)
        rw [h1] at hd2
        exact W.vret hx hb (hrt.trans h2) (fun t ht _ => hq _ t rfl ht) hS.2.2 hd2 hlocks
      · rename_i x h1 h2
        cases hg
        have hd2 := sm_dc1 hd (by rw [h1]; rfl)
        rw [h1] at hd2
        exact W.iret hx hb (hrt.trans h2) (fun t ht _ => hq _ t rfl ht) hS.2.2 hd2 hlocks
      · rename_i x h1 h2
        split at hg <;> first | (cases hg; done) | skip
        rename_i hz
        cases hg
        have hd2 := sm_dc1 hd (by rw [h1]; rfl)
        rw [h1] at hd2
        exact W.zret hx hb (hrt.trans h2) (by rcases hz with hz | hz <;> subst hz <;> decide) (fun t ht _ => hq _ t rfl ht) hS.2.2 hd2 hlocks
      · rename_i x h1 h2
        cases hg
        have hd2 := sm_dc1 hd (by rw [h1]; rfl)
        rw [h1] at hd2
        exact W.lret hx hb (hrt.trans h2) (fun t ht _ => hq _ t rfl ht) hS.2.2 hd2 hlocks
      · rename_i nm a h1 h2
        cases hg
        have hd2 := sm_dc1 hd (by rw [h1]; rfl)
        rw [h1] at hd2
        exact W.aret hx hb (hrt.trans h2) (Or.inl ⟨_, rfl⟩) (Or.inr ⟨_, rfl⟩) (fun t ht _ => hq _ t rfl ht) hS.2.2 hd2 hlocks
      · rename_i nm h1 h2
        cases hg
        have hd2 := sm_dc1 hd (by rw [h1]; rfl)
        rw [h1] at hd2
        exact W.aret hx hb (hrt.trans h2) (Or.inl ⟨_, rfl⟩) (Or.inl rfl) (fun t ht _ => hq _ t rfl ht) hS.2.2 hd2 hlocks
    rename_i hz
    clear hz
    split at hr
    rotate_left
    · cases hr
    rename_i g hg
    split at hr
    · cases hr
    rename_i d
    split at hr
    rotate_left
    · cases hr
    rename_i J hJ
    split at hr
    rotate_left
    · cases hr
    rename_i hcat
    split at hr
    rotate_left
    · cases hr
    rename_i q hq
    have hmJ := hM _ _ hJ
    obtain ⟨y1, y2⟩ := sm_run_size M _ _ _ _ _ _ _ _ hr
    obtain ⟨x1, x2⟩ := sm_run_size M _ _ _ _ _ _ _ _ hq
    have hMet := sm_met ih hX hq hmJ hcat (by omega)
    have hGW := sm_goodIn (sm_WS_in hmJ)
    have hbl := sm_blind (D := (dC, dI)) (dA := dA) hX g.2.1 h
    have hne := hmJ.2.2.2.1
    have hini := hts _ (sm_Gin hmJ.2.2.1 rfl)
    have hroom : (sm_rm d h q).frames + 1 ≤ R.frames ∧ 8 + (J.2.2.1 + 11) + (sm_rm d h q).locals ≤ R.locals := ⟨hRf, by have := hmJ.2.2.2.2.1; show 8 + (J.2.2.1 + 11) + 33 * d ≤ R.locals; omega⟩
    have hf : cells + (q.2.length - h.length) ≤ R.cells ∧ slots + (sm_sl q.2 - sm_sl h) ≤ R.slots := ⟨by omega, by omega⟩
    refine sm_size hP hB (by omega) hS hbase hsz (fun hH => ?_)
    have hpc : ∀ U : State, U.heap = H → s.WarmedH U.vm → sm_Pc (dC, dI) B dA base X g.2.1 h (g.2.1.map (sm_cv B)).toArray U := fun U hU hW => ⟨rfl, by rw [hU]; exact hH, by rw [hU]; exact hP, hD, va_K.moved hW.alike hK, hE.warm hX hW hbase (fun z z1 z2 => by rw [hU]; exact hS.2.1 z z1 z2)⟩
    have hk := fun (rest : List Value) (hrest : g.2.2 = rest) (H1 : Heap) (locs1 : List Loc) (a1 : va_P (dC, dI) vwCl (sm_ws B dA 0 q.2) H1) (a2 : va_D (fun q => base ≤ q) (sm_ws B dA 0 q.2)) (a3 : va_S (fun q => base ≤ q) s.heap H1 locs1) => (by
      subst hrest
      exact hnext _ _ _ _ hr H1 locs1 (cells + (q.2.length - h.length)) (slots + (sm_sl q.2 - sm_sl h)) ls a1 a2 a3 hl (by omega) (by omega) (by omega) hRc hRs hRf hRl : W p l e R s m args below meth c H1 locs1 (cells + (q.2.length - h.length)) (slots + (sm_sl q.2 - sm_sl h)) (MQ below (sm_Qc (dC, dI) B dA base r) args s mc ms (fun q => base ≤ q)) (F0 m (pc + 3) ls (sm_cS B (q.1.toList ++ rest))))
    unfold sm_cl at hg
    unfold sm_ck at hck
    split at hg <;> first | (cases hg; done) | skip
    · rename_i idx hi
      have hd2 := sm_dc1 hd (by rw [hi]; rfl)
      rw [hi] at hd2 hck
      split at hg <;> first | (cases hg; done) | skip
      rename_i b rest hst
      split at hg <;> first | (cases hg; done) | skip
      rename_i ci fs hc
      split at hg <;> first | (cases hg; done) | skip
      rename_i hh
      obtain ⟨hci, hcr, hln⟩ := hh
      cases hg
      obtain ⟨⟨qc, hqc, hqn⟩, hpar, w1, w2, w3⟩ := hck.2.2.2 J hJ
      have hcs := sm_split B st w.2.2.1
      rw [hst] at hcs
      rw [hcs]
      have hlen : (((st.take w.2.2.1).reverse).map (sm_cv B)).length = w.2.2.1 := by rw [List.length_map, List.length_reverse, List.length_take]; omega
      rw [hci] at hc
      have hrv := va_recv (q := qc) hK hP hqc (sm_ws_at hc)
      rw [hqn] at hrv
      rcases w3 with w3 | ⟨host, w3⟩
      · refine sm_back (q := q) (va_runV (As := ((st.take w.2.2.1).reverse).map (sm_cv B)) (rest := sm_cS B rest) (C := J.1.cls) ⟨hx, hb, hml, hown, hts⟩ hMet (cwV w.2.2.1 hts (sm_goodIn fun z hz => ?_) rfl rfl rfl ⟨rfl, hne.1, hne.2, hpar⟩ hroom) ⟨hbl, hrv, hpc⟩ rfl hlen hl.1 rfl (lv_room (by rw [← sm_cS_cat B] at hcr; exact hcr)) hd2 hf) hS (hk rest rfl)
        rcases List.mem_append.mp hz with hz | hz
        · simp only [List.mem_cons, List.not_mem_nil, or_false] at hz
          rcases hz with rfl | rfl | rfl | rfl
          · exact sm_Gin w3 rfl
          · exact sm_Gin w1 rfl
          · exact sm_Gin w2 rfl
          · exact sm_Gin hmJ.2.2.1 rfl
        · exact sm_WS_in hmJ z hz
      · exact sm_back (q := q) (va_runVN (As := ((st.take w.2.2.1).reverse).map (sm_cv B)) (rest := sm_cS B rest) (C := J.1.cls) ⟨hx, hb, hml, hown, hts⟩ hMet ⟨va_cnB w.2.2.1 hts hGW rfl rfl rfl (hE.2.1 _ _ _ _ w3) hini ⟨hne.1, hne.2, hpar⟩ hroom, hts _ (sm_Gin w1 rfl), hts _ (sm_Gin w2 rfl)⟩ ⟨hbl, hrv, hpc⟩ rfl hlen hl.1 rfl (lv_room (by rw [← sm_cS_cat B] at hcr; exact hcr)) hd2 hf) hS (hk rest rfl)
    · rename_i idx hi
      have hd2 := sm_dc1 hd (by rw [hi]; rfl)
      rw [hi] at hd2 hck
      split at hg <;> first | (cases hg; done) | skip
      rename_i b rest hst
      split at hg <;> first | (cases hg; done) | skip
      rename_i hh
      obtain ⟨hcr, hln⟩ := hh
      cases hg
      obtain ⟨hpar, w1, w2, w4, w3⟩ := hck.2 J hJ
      have hcs := sm_split B st w.2.2.1
      rw [hst] at hcs
      rw [hcs]
      have hlen : (((st.take w.2.2.1).reverse).map (sm_cv B)).length = w.2.2.1 := by rw [List.length_map, List.length_reverse, List.length_take]; omega
      have hcode : sm_WS J = Cond.code J.1 J.2.1 J.2.2.1 none :: sm_G := by unfold sm_WS; rw [w4]
      rcases w3 with w3 | ⟨host, w3⟩
      · exact sm_back (q := q) (va_runI (As := ((st.take w.2.2.1).reverse).map (sm_cv B)) (rest := sm_cS B rest) ⟨hx, hb, hml, hown, hts⟩ hMet (cwI w.2.2.1 hts hGW hcode rfl rfl hini (hts _ (sm_Gin w3 rfl)) (hts _ (sm_Gin w1 rfl)) w2 ⟨hne.1, hne.2, hpar⟩ hroom) ⟨hbl, hpc⟩ rfl hlen hl.1 rfl (lv_room (by rw [← sm_cS_cat B] at hcr; exact hcr)) hd2 hf) hS (hk rest rfl)
      · exact sm_back (q := q) (va_runIN (As := ((st.take w.2.2.1).reverse).map (sm_cv B)) (rest := sm_cS B rest) ⟨hx, hb, hml, hown, hts⟩ hMet ⟨va_cnB w.2.2.1 hts hGW hcode rfl rfl (hE.2.1 _ _ _ _ w3) hini ⟨hne.1, hne.2, hpar⟩ hroom, w2, hts _ (sm_Gin w1 rfl)⟩ ⟨hbl, hpc⟩ rfl hlen hl.1 rfl (lv_room (by rw [← sm_cS_cat B] at hcr; exact hcr)) hd2 hf) hS (hk rest rfl)
    · rename_i idx hi
      have hd2 := sm_dc1 hd (by rw [hi]; rfl)
      rw [hi] at hd2 hck
      split at hg <;> first | (cases hg; done) | skip
      rename_i hh
      obtain ⟨hcr, hln⟩ := hh
      cases hg
      obtain ⟨hpar, w1, w3⟩ := hck.2 J hJ
      have hcs := sm_split B st w.2.2.1
      rw [hcs]
      have hlen : (((st.take w.2.2.1).reverse).map (sm_cv B)).length = w.2.2.1 := by rw [List.length_map, List.length_reverse, List.length_take]; omega
      rcases w3 with w3 | ⟨host, w3⟩
      · refine sm_back (q := q) (va_runS (As := ((st.take w.2.2.1).reverse).map (sm_cv B)) (rest := sm_cS B (st.drop w.2.2.1)) ⟨hx, hb, hml, hown, hts⟩ hMet (va_cwS w.2.2.1 hts (sm_goodIn fun z hz => ?_) rfl rfl rfl ⟨hne.1, hne.2, hpar⟩ hroom) ⟨hbl, hpc⟩ rfl hlen hl.1 rfl (lv_room (by rw [← sm_cS_cat B] at hcr; exact hcr)) hd2 hf) hS (hk _ rfl)
        rcases List.mem_append.mp hz with hz | hz
        · simp only [List.mem_cons, List.not_mem_nil, or_false] at hz
          rcases hz with rfl | rfl | rfl
          · exact sm_Gin w3 rfl
          · exact sm_Gin w1 rfl
          · exact sm_Gin hmJ.2.2.1 rfl
        · exact sm_WS_in hmJ z hz
      · exact sm_back (q := q) (va_runSN (As := ((st.take w.2.2.1).reverse).map (sm_cv B)) (rest := sm_cS B (st.drop w.2.2.1)) ⟨hx, hb, hml, hown, hts⟩ hMet ⟨va_cnB w.2.2.1 hts hGW rfl rfl rfl (hE.2.1 _ _ _ _ w3) hini ⟨hne.1, hne.2, hpar⟩ hroom, hts _ (sm_Gin w1 rfl), trivial⟩ ⟨hbl, hpc⟩ rfl hlen hl.1 rfl (lv_room (by rw [← sm_cS_cat B] at hcr; exact hcr)) hd2 hf) hS (hk _ rfl)
end SMMAIN
end
