section
-- ===== PART A: goes FIRST, ahead of the names: the tables' words, and 'selects' of the private methods out of them =====
/-- a private method of a class that the tables say can be made, by its rows of tables_1 -/
def lw_okq (q : MethodName × Nat) : Prop := (q.1.cls ≠ "java/lang/invoke/MethodHandle" ∧ q.1.cls ≠ "java/lang/invoke/VarHandle") ∧ Cond.instantiable q.1.cls q.2 ∈ tables_1 ∧ Cond.privateMethod q.1 ∈ tables_1 ∧ Cond.instanceMethod q.1 ∈ tables_1
theorem lw_p0 : lw_okq (⟨"SaidForNothing", "shelfAt", "(I)LSaidForNothing$Shelf;"⟩, 11) := ⟨⟨by decide +kernel, by decide +kernel⟩, List.mem_of_getElem? (i := 20) (by decide +kernel), List.mem_of_getElem? (i := 366) (by decide +kernel), List.mem_of_getElem? (i := 367) (by decide +kernel)⟩
theorem lw_p1 : lw_okq (⟨"SaidForNothing", "refuse", "(I)I"⟩, 11) := ⟨⟨by decide +kernel, by decide +kernel⟩, List.mem_of_getElem? (i := 20) (by decide +kernel), List.mem_of_getElem? (i := 370) (by decide +kernel), List.mem_of_getElem? (i := 371) (by decide +kernel)⟩
theorem lw_p2 : lw_okq (⟨"SaidForNothing", "rowFlaw", "(I)I"⟩, 11) := ⟨⟨by decide +kernel, by decide +kernel⟩, List.mem_of_getElem? (i := 20) (by decide +kernel), List.mem_of_getElem? (i := 394) (by decide +kernel), List.mem_of_getElem? (i := 395) (by decide +kernel)⟩
theorem lw_p3 : lw_okq (⟨"SaidForNothing$Shelf", "cut", "(J)J"⟩, 5) := ⟨⟨by decide +kernel, by decide +kernel⟩, List.mem_of_getElem? (i := 301) (by decide +kernel), List.mem_of_getElem? (i := 415) (by decide +kernel), List.mem_of_getElem? (i := 416) (by decide +kernel)⟩
theorem lw_p4 : lw_okq (⟨"SaidForNothing", "usedBits", "(LSaidForNothing$Meaning;)I"⟩, 11) := ⟨⟨by decide +kernel, by decide +kernel⟩, List.mem_of_getElem? (i := 20) (by decide +kernel), List.mem_of_getElem? (i := 470) (by decide +kernel), List.mem_of_getElem? (i := 471) (by decide +kernel)⟩
theorem lw_p5 : lw_okq (⟨"SaidForNothing$Letters", "begin", "(LSaidForNothing$Shelf;)V"⟩, 5) := ⟨⟨by decide +kernel, by decide +kernel⟩, List.mem_of_getElem? (i := 170) (by decide +kernel), List.mem_of_getElem? (i := 492) (by decide +kernel), List.mem_of_getElem? (i := 493) (by decide +kernel)⟩
theorem lw_p6 : lw_okq (⟨"SaidForNothing$Letters", "expectAll", "(Ljava/lang/String;)Z"⟩, 5) := ⟨⟨by decide +kernel, by decide +kernel⟩, List.mem_of_getElem? (i := 170) (by decide +kernel), List.mem_of_getElem? (i := 511) (by decide +kernel), List.mem_of_getElem? (i := 512) (by decide +kernel)⟩
theorem lw_p7 : lw_okq (⟨"SaidForNothing$Letters", "expect", "(C)Z"⟩, 5) := ⟨⟨by decide +kernel, by decide +kernel⟩, List.mem_of_getElem? (i := 170) (by decide +kernel), List.mem_of_getElem? (i := 563) (by decide +kernel), List.mem_of_getElem? (i := 564) (by decide +kernel)⟩
theorem lw_p8 : lw_okq (⟨"SaidForNothing$Letters", "at", "(C)Z"⟩, 5) := ⟨⟨by decide +kernel, by decide +kernel⟩, List.mem_of_getElem? (i := 170) (by decide +kernel), List.mem_of_getElem? (i := 567) (by decide +kernel), List.mem_of_getElem? (i := 568) (by decide +kernel)⟩
theorem lw_p9 : lw_okq (⟨"SaidForNothing$Letters", "fail", "(I)Z"⟩, 5) := ⟨⟨by decide +kernel, by decide +kernel⟩, List.mem_of_getElem? (i := 170) (by decide +kernel), List.mem_of_getElem? (i := 572) (by decide +kernel), List.mem_of_getElem? (i := 573) (by decide +kernel)⟩
theorem lw_p10 : lw_okq (⟨"SaidForNothing$Letters", "items", "(LSaidForNothing$Talk;)Z"⟩, 5) := ⟨⟨by decide +kernel, by decide +kernel⟩, List.mem_of_getElem? (i := 170) (by decide +kernel), List.mem_of_getElem? (i := 576) (by decide +kernel), List.mem_of_getElem? (i := 577) (by decide +kernel)⟩
theorem lw_p11 : lw_okq (⟨"SaidForNothing$Letters", "item", "(LSaidForNothing$Talk;)Z"⟩, 5) := ⟨⟨by decide +kernel, by decide +kernel⟩, List.mem_of_getElem? (i := 170) (by decide +kernel), List.mem_of_getElem? (i := 580) (by decide +kernel), List.mem_of_getElem? (i := 581) (by decide +kernel)⟩
theorem lw_p12 : lw_okq (⟨"SaidForNothing$Letters", "readNumber", "(II)Z"⟩, 5) := ⟨⟨by decide +kernel, by decide +kernel⟩, List.mem_of_getElem? (i := 170) (by decide +kernel), List.mem_of_getElem? (i := 584) (by decide +kernel), List.mem_of_getElem? (i := 585) (by decide +kernel)⟩
theorem lw_p13 : lw_okq (⟨"SaidForNothing$Letters", "part", "(LSaidForNothing$Talk;)Z"⟩, 5) := ⟨⟨by decide +kernel, by decide +kernel⟩, List.mem_of_getElem? (i := 170) (by decide +kernel), List.mem_of_getElem? (i := 593) (by decide +kernel), List.mem_of_getElem? (i := 594) (by decide +kernel)⟩
theorem lw_p14 : lw_okq (⟨"SaidForNothing$Letters", "partName", "()Ljava/lang/String;"⟩, 5) := ⟨⟨by decide +kernel, by decide +kernel⟩, List.mem_of_getElem? (i := 170) (by decide +kernel), List.mem_of_getElem? (i := 597) (by decide +kernel), List.mem_of_getElem? (i := 598) (by decide +kernel)⟩
theorem lw_p15 : lw_okq (⟨"SaidForNothing$Letters", "wordsPart", "(LSaidForNothing$Talk;)Z"⟩, 5) := ⟨⟨by decide +kernel, by decide +kernel⟩, List.mem_of_getElem? (i := 170) (by decide +kernel), List.mem_of_getElem? (i := 614) (by decide +kernel), List.mem_of_getElem? (i := 615) (by decide +kernel)⟩
def lw_privs_1 : List (MethodName × Nat) := [(⟨"SaidForNothing", "shelfAt", "(I)LSaidForNothing$Shelf;"⟩, 11), (⟨"SaidForNothing", "refuse", "(I)I"⟩, 11), (⟨"SaidForNothing", "rowFlaw", "(I)I"⟩, 11), (⟨"SaidForNothing$Shelf", "cut", "(J)J"⟩, 5), (⟨"SaidForNothing", "usedBits", "(LSaidForNothing$Meaning;)I"⟩, 11), (⟨"SaidForNothing$Letters", "begin", "(LSaidForNothing$Shelf;)V"⟩, 5), (⟨"SaidForNothing$Letters", "expectAll", "(Ljava/lang/String;)Z"⟩, 5), (⟨"SaidForNothing$Letters", "expect", "(C)Z"⟩, 5), (⟨"SaidForNothing$Letters", "at", "(C)Z"⟩, 5), (⟨"SaidForNothing$Letters", "fail", "(I)Z"⟩, 5), (⟨"SaidForNothing$Letters", "items", "(LSaidForNothing$Talk;)Z"⟩, 5), (⟨"SaidForNothing$Letters", "item", "(LSaidForNothing$Talk;)Z"⟩, 5), (⟨"SaidForNothing$Letters", "readNumber", "(II)Z"⟩, 5), (⟨"SaidForNothing$Letters", "part", "(LSaidForNothing$Talk;)Z"⟩, 5), (⟨"SaidForNothing$Letters", "partName", "()Ljava/lang/String;"⟩, 5), (⟨"SaidForNothing$Letters", "wordsPart", "(LSaidForNothing$Talk;)Z"⟩, 5)]
theorem lw_r1 : ∀ q ∈ lw_privs_1, lw_okq q := List.forall_mem_cons.mpr ⟨lw_p0, List.forall_mem_cons.mpr ⟨lw_p1, List.forall_mem_cons.mpr ⟨lw_p2, List.forall_mem_cons.mpr ⟨lw_p3, List.forall_mem_cons.mpr ⟨lw_p4, List.forall_mem_cons.mpr ⟨lw_p5, List.forall_mem_cons.mpr ⟨lw_p6, List.forall_mem_cons.mpr ⟨lw_p7, List.forall_mem_cons.mpr ⟨lw_p8, List.forall_mem_cons.mpr ⟨lw_p9, List.forall_mem_cons.mpr ⟨lw_p10, List.forall_mem_cons.mpr ⟨lw_p11, List.forall_mem_cons.mpr ⟨lw_p12, List.forall_mem_cons.mpr ⟨lw_p13, List.forall_mem_cons.mpr ⟨lw_p14, List.forall_mem_cons.mpr ⟨lw_p15, fun _ h => absurd h List.not_mem_nil⟩⟩⟩⟩⟩⟩⟩⟩⟩⟩⟩⟩⟩⟩⟩⟩
theorem lw_p16 : lw_okq (⟨"SaidForNothing$Letters", "lossPart", "(LSaidForNothing$Talk;)Z"⟩, 5) := ⟨⟨by decide +kernel, by decide +kernel⟩, List.mem_of_getElem? (i := 170) (by decide +kernel), List.mem_of_getElem? (i := 618) (by decide +kernel), List.mem_of_getElem? (i := 619) (by decide +kernel)⟩
theorem lw_p17 : lw_okq (⟨"SaidForNothing$Letters", "readSigned", "()Z"⟩, 5) := ⟨⟨by decide +kernel, by decide +kernel⟩, List.mem_of_getElem? (i := 170) (by decide +kernel), List.mem_of_getElem? (i := 622) (by decide +kernel), List.mem_of_getElem? (i := 623) (by decide +kernel)⟩
theorem lw_p18 : lw_okq (⟨"SaidForNothing$Letters", "secondPart", "(LSaidForNothing$Talk;I)Z"⟩, 5) := ⟨⟨by decide +kernel, by decide +kernel⟩, List.mem_of_getElem? (i := 170) (by decide +kernel), List.mem_of_getElem? (i := 626) (by decide +kernel), List.mem_of_getElem? (i := 627) (by decide +kernel)⟩
theorem lw_p19 : lw_okq (⟨"SaidForNothing", "refuseFar", "(I)I"⟩, 11) := ⟨⟨by decide +kernel, by decide +kernel⟩, List.mem_of_getElem? (i := 20) (by decide +kernel), List.mem_of_getElem? (i := 652) (by decide +kernel), List.mem_of_getElem? (i := 653) (by decide +kernel)⟩
theorem lw_p20 : lw_okq (⟨"SaidForNothing$Reading", "silence", "()V"⟩, 15) := ⟨⟨by decide +kernel, by decide +kernel⟩, List.mem_of_getElem? (i := 194) (by decide +kernel), List.mem_of_getElem? (i := 673) (by decide +kernel), List.mem_of_getElem? (i := 674) (by decide +kernel)⟩
theorem lw_p21 : lw_okq (⟨"SaidForNothing$Reading", "gather", "()V"⟩, 15) := ⟨⟨by decide +kernel, by decide +kernel⟩, List.mem_of_getElem? (i := 194) (by decide +kernel), List.mem_of_getElem? (i := 690) (by decide +kernel), List.mem_of_getElem? (i := 691) (by decide +kernel)⟩
theorem lw_p22 : lw_okq (⟨"SaidForNothing$Reading", "blend", "(II)J"⟩, 15) := ⟨⟨by decide +kernel, by decide +kernel⟩, List.mem_of_getElem? (i := 194) (by decide +kernel), List.mem_of_getElem? (i := 700) (by decide +kernel), List.mem_of_getElem? (i := 701) (by decide +kernel)⟩
theorem lw_p23 : lw_okq (⟨"SaidForNothing$Reading", "medianAct", "(IJ)I"⟩, 15) := ⟨⟨by decide +kernel, by decide +kernel⟩, List.mem_of_getElem? (i := 194) (by decide +kernel), List.mem_of_getElem? (i := 715) (by decide +kernel), List.mem_of_getElem? (i := 716) (by decide +kernel)⟩
theorem lw_p24 : lw_okq (⟨"SaidForNothing", "wordsFlaw", "(LSaidForNothing$Talk;I)I"⟩, 11) := ⟨⟨by decide +kernel, by decide +kernel⟩, List.mem_of_getElem? (i := 20) (by decide +kernel), List.mem_of_getElem? (i := 742) (by decide +kernel), List.mem_of_getElem? (i := 743) (by decide +kernel)⟩
theorem lw_p25 : lw_okq (⟨"SaidForNothing", "cutsFlaw", "(LSaidForNothing$Talk;I)I"⟩, 11) := ⟨⟨by decide +kernel, by decide +kernel⟩, List.mem_of_getElem? (i := 20) (by decide +kernel), List.mem_of_getElem? (i := 747) (by decide +kernel), List.mem_of_getElem? (i := 748) (by decide +kernel)⟩
theorem lw_p26 : lw_okq (⟨"SaidForNothing$Reading", "lossAt", "(III)J"⟩, 15) := ⟨⟨by decide +kernel, by decide +kernel⟩, List.mem_of_getElem? (i := 194) (by decide +kernel), List.mem_of_getElem? (i := 843) (by decide +kernel), List.mem_of_getElem? (i := 844) (by decide +kernel)⟩
theorem lw_p27 : lw_okq (⟨"SaidForNothing$Reading", "heardLoss", "(II)J"⟩, 15) := ⟨⟨by decide +kernel, by decide +kernel⟩, List.mem_of_getElem? (i := 194) (by decide +kernel), List.mem_of_getElem? (i := 851) (by decide +kernel), List.mem_of_getElem? (i := 852) (by decide +kernel)⟩
theorem lw_p28 : lw_okq (⟨"SaidForNothing$Reading", "spreadLoss", "(III)J"⟩, 15) := ⟨⟨by decide +kernel, by decide +kernel⟩, List.mem_of_getElem? (i := 194) (by decide +kernel), List.mem_of_getElem? (i := 863) (by decide +kernel), List.mem_of_getElem? (i := 864) (by decide +kernel)⟩
theorem lw_p29 : lw_okq (⟨"SaidForNothing$Search", "stands", "(I)Z"⟩, 5) := ⟨⟨by decide +kernel, by decide +kernel⟩, List.mem_of_getElem? (i := 250) (by decide +kernel), List.mem_of_getElem? (i := 897) (by decide +kernel), List.mem_of_getElem? (i := 898) (by decide +kernel)⟩
theorem lw_p30 : lw_okq (⟨"SaidForNothing$Reading", "countUsed", "()V"⟩, 15) := ⟨⟨by decide +kernel, by decide +kernel⟩, List.mem_of_getElem? (i := 194) (by decide +kernel), List.mem_of_getElem? (i := 946) (by decide +kernel), List.mem_of_getElem? (i := 947) (by decide +kernel)⟩
theorem lw_p31 : lw_okq (⟨"SaidForNothing", "refuseTen", "(I)I"⟩, 11) := ⟨⟨by decide +kernel, by decide +kernel⟩, List.mem_of_getElem? (i := 20) (by decide +kernel), List.mem_of_getElem? (i := 954) (by decide +kernel), List.mem_of_getElem? (i := 955) (by decide +kernel)⟩
def lw_privs_2 : List (MethodName × Nat) := [(⟨"SaidForNothing$Letters", "lossPart", "(LSaidForNothing$Talk;)Z"⟩, 5), (⟨"SaidForNothing$Letters", "readSigned", "()Z"⟩, 5), (⟨"SaidForNothing$Letters", "secondPart", "(LSaidForNothing$Talk;I)Z"⟩, 5), (⟨"SaidForNothing", "refuseFar", "(I)I"⟩, 11), (⟨"SaidForNothing$Reading", "silence", "()V"⟩, 15), (⟨"SaidForNothing$Reading", "gather", "()V"⟩, 15), (⟨"SaidForNothing$Reading", "blend", "(II)J"⟩, 15), (⟨"SaidForNothing$Reading", "medianAct", "(IJ)I"⟩, 15), (⟨"SaidForNothing", "wordsFlaw", "(LSaidForNothing$Talk;I)I"⟩, 11), (⟨"SaidForNothing", "cutsFlaw", "(LSaidForNothing$Talk;I)I"⟩, 11), (⟨"SaidForNothing$Reading", "lossAt", "(III)J"⟩, 15), (⟨"SaidForNothing$Reading", "heardLoss", "(II)J"⟩, 15), (⟨"SaidForNothing$Reading", "spreadLoss", "(III)J"⟩, 15), (⟨"SaidForNothing$Search", "stands", "(I)Z"⟩, 5), (⟨"SaidForNothing$Reading", "countUsed", "()V"⟩, 15), (⟨"SaidForNothing", "refuseTen", "(I)I"⟩, 11)]
theorem lw_r2 : ∀ q ∈ lw_privs_2, lw_okq q := List.forall_mem_cons.mpr ⟨lw_p16, List.forall_mem_cons.mpr ⟨lw_p17, List.forall_mem_cons.mpr ⟨lw_p18, List.forall_mem_cons.mpr ⟨lw_p19, List.forall_mem_cons.mpr ⟨lw_p20, List.forall_mem_cons.mpr ⟨lw_p21, List.forall_mem_cons.mpr ⟨lw_p22, List.forall_mem_cons.mpr ⟨lw_p23, List.forall_mem_cons.mpr ⟨lw_p24, List.forall_mem_cons.mpr ⟨lw_p25, List.forall_mem_cons.mpr ⟨lw_p26, List.forall_mem_cons.mpr ⟨lw_p27, List.forall_mem_cons.mpr ⟨lw_p28, List.forall_mem_cons.mpr ⟨lw_p29, List.forall_mem_cons.mpr ⟨lw_p30, List.forall_mem_cons.mpr ⟨lw_p31, fun _ h => absurd h List.not_mem_nil⟩⟩⟩⟩⟩⟩⟩⟩⟩⟩⟩⟩⟩⟩⟩⟩
theorem lw_p32 : lw_okq (⟨"SaidForNothing$Search", "standsForBoth", "(II)Z"⟩, 5) := ⟨⟨by decide +kernel, by decide +kernel⟩, List.mem_of_getElem? (i := 250) (by decide +kernel), List.mem_of_getElem? (i := 987) (by decide +kernel), List.mem_of_getElem? (i := 988) (by decide +kernel)⟩
theorem lw_p33 : lw_okq (⟨"SaidForNothing$Talk", "end", "(I)I"⟩, 10) := ⟨⟨by decide +kernel, by decide +kernel⟩, List.mem_of_getElem? (i := 39) (by decide +kernel), List.mem_of_getElem? (i := 1027) (by decide +kernel), List.mem_of_getElem? (i := 1028) (by decide +kernel)⟩
theorem lw_p34 : lw_okq (⟨"SaidForNothing$Talk", "canPunish", "(III)Z"⟩, 10) := ⟨⟨by decide +kernel, by decide +kernel⟩, List.mem_of_getElem? (i := 39) (by decide +kernel), List.mem_of_getElem? (i := 1044) (by decide +kernel), List.mem_of_getElem? (i := 1045) (by decide +kernel)⟩
theorem lw_p35 : lw_okq (⟨"SaidForNothing", "holdingBits", "()I"⟩, 11) := ⟨⟨by decide +kernel, by decide +kernel⟩, List.mem_of_getElem? (i := 20) (by decide +kernel), List.mem_of_getElem? (i := 1056) (by decide +kernel), List.mem_of_getElem? (i := 1057) (by decide +kernel)⟩
theorem lw_p36 : lw_okq (⟨"SaidForNothing$Reading", "drawBelow", "(I)I"⟩, 15) := ⟨⟨by decide +kernel, by decide +kernel⟩, List.mem_of_getElem? (i := 194) (by decide +kernel), List.mem_of_getElem? (i := 1073) (by decide +kernel), List.mem_of_getElem? (i := 1074) (by decide +kernel)⟩
theorem lw_p37 : lw_okq (⟨"SaidForNothing$Reading", "drawnTruth", "(I)I"⟩, 15) := ⟨⟨by decide +kernel, by decide +kernel⟩, List.mem_of_getElem? (i := 194) (by decide +kernel), List.mem_of_getElem? (i := 1078) (by decide +kernel), List.mem_of_getElem? (i := 1079) (by decide +kernel)⟩
theorem lw_p38 : lw_okq (⟨"SaidForNothing$Reading", "heardWord", "(I)I"⟩, 15) := ⟨⟨by decide +kernel, by decide +kernel⟩, List.mem_of_getElem? (i := 194) (by decide +kernel), List.mem_of_getElem? (i := 1082) (by decide +kernel), List.mem_of_getElem? (i := 1083) (by decide +kernel)⟩
theorem lw_p39 : lw_okq (⟨"SaidForNothing$Bodies", "note", "(I)V"⟩, 5) := ⟨⟨by decide +kernel, by decide +kernel⟩, List.mem_of_getElem? (i := 277) (by decide +kernel), List.mem_of_getElem? (i := 1104) (by decide +kernel), List.mem_of_getElem? (i := 1105) (by decide +kernel)⟩
theorem lw_p40 : lw_okq (⟨"SaidForNothingModel", "isShelf", "(I)Z"⟩, 57) := ⟨⟨by decide +kernel, by decide +kernel⟩, List.mem_of_getElem? (i := 1150) (by decide +kernel), List.mem_of_getElem? (i := 1332) (by decide +kernel), List.mem_of_getElem? (i := 1333) (by decide +kernel)⟩
theorem lw_p41 : lw_okq (⟨"SaidForNothingModel", "no", "(I)I"⟩, 57) := ⟨⟨by decide +kernel, by decide +kernel⟩, List.mem_of_getElem? (i := 1150) (by decide +kernel), List.mem_of_getElem? (i := 1336) (by decide +kernel), List.mem_of_getElem? (i := 1337) (by decide +kernel)⟩
theorem lw_p42 : lw_okq (⟨"SaidForNothingModel", "isMeaning", "(I)Z"⟩, 57) := ⟨⟨by decide +kernel, by decide +kernel⟩, List.mem_of_getElem? (i := 1150) (by decide +kernel), List.mem_of_getElem? (i := 1356) (by decide +kernel), List.mem_of_getElem? (i := 1357) (by decide +kernel)⟩
theorem lw_p43 : lw_okq (⟨"SaidForNothingModel", "isUnder", "(II)Z"⟩, 57) := ⟨⟨by decide +kernel, by decide +kernel⟩, List.mem_of_getElem? (i := 1150) (by decide +kernel), List.mem_of_getElem? (i := 1368) (by decide +kernel), List.mem_of_getElem? (i := 1369) (by decide +kernel)⟩
theorem lw_p44 : lw_okq (⟨"SaidForNothingModel", "usedBy", "(I)I"⟩, 57) := ⟨⟨by decide +kernel, by decide +kernel⟩, List.mem_of_getElem? (i := 1150) (by decide +kernel), List.mem_of_getElem? (i := 1372) (by decide +kernel), List.mem_of_getElem? (i := 1373) (by decide +kernel)⟩
theorem lw_p45 : lw_okq (⟨"SaidForNothingModel", "usedSet", "(I)I"⟩, 57) := ⟨⟨by decide +kernel, by decide +kernel⟩, List.mem_of_getElem? (i := 1150) (by decide +kernel), List.mem_of_getElem? (i := 1376) (by decide +kernel), List.mem_of_getElem? (i := 1377) (by decide +kernel)⟩
theorem lw_p46 : lw_okq (⟨"SaidForNothingModel", "cutsOf", "(I)I"⟩, 57) := ⟨⟨by decide +kernel, by decide +kernel⟩, List.mem_of_getElem? (i := 1150) (by decide +kernel), List.mem_of_getElem? (i := 1380) (by decide +kernel), List.mem_of_getElem? (i := 1381) (by decide +kernel)⟩
theorem lw_p47 : lw_okq (⟨"SaidForNothingModel", "wants", "(I)I"⟩, 57) := ⟨⟨by decide +kernel, by decide +kernel⟩, List.mem_of_getElem? (i := 1150) (by decide +kernel), List.mem_of_getElem? (i := 1388) (by decide +kernel), List.mem_of_getElem? (i := 1389) (by decide +kernel)⟩
def lw_privs_3 : List (MethodName × Nat) := [(⟨"SaidForNothing$Search", "standsForBoth", "(II)Z"⟩, 5), (⟨"SaidForNothing$Talk", "end", "(I)I"⟩, 10), (⟨"SaidForNothing$Talk", "canPunish", "(III)Z"⟩, 10), (⟨"SaidForNothing", "holdingBits", "()I"⟩, 11), (⟨"SaidForNothing$Reading", "drawBelow", "(I)I"⟩, 15), (⟨"SaidForNothing$Reading", "drawnTruth", "(I)I"⟩, 15), (⟨"SaidForNothing$Reading", "heardWord", "(I)I"⟩, 15), (⟨"SaidForNothing$Bodies", "note", "(I)V"⟩, 5), (⟨"SaidForNothingModel", "isShelf", "(I)Z"⟩, 57), (⟨"SaidForNothingModel", "no", "(I)I"⟩, 57), (⟨"SaidForNothingModel", "isMeaning", "(I)Z"⟩, 57), (⟨"SaidForNothingModel", "isUnder", "(II)Z"⟩, 57), (⟨"SaidForNothingModel", "usedBy", "(I)I"⟩, 57), (⟨"SaidForNothingModel", "usedSet", "(I)I"⟩, 57), (⟨"SaidForNothingModel", "cutsOf", "(I)I"⟩, 57), (⟨"SaidForNothingModel", "wants", "(I)I"⟩, 57)]
theorem lw_r3 : ∀ q ∈ lw_privs_3, lw_okq q := List.forall_mem_cons.mpr ⟨lw_p32, List.forall_mem_cons.mpr ⟨lw_p33, List.forall_mem_cons.mpr ⟨lw_p34, List.forall_mem_cons.mpr ⟨lw_p35, List.forall_mem_cons.mpr ⟨lw_p36, List.forall_mem_cons.mpr ⟨lw_p37, List.forall_mem_cons.mpr ⟨lw_p38, List.forall_mem_cons.mpr ⟨lw_p39, List.forall_mem_cons.mpr ⟨lw_p40, List.forall_mem_cons.mpr ⟨lw_p41, List.forall_mem_cons.mpr ⟨lw_p42, List.forall_mem_cons.mpr ⟨lw_p43, List.forall_mem_cons.mpr ⟨lw_p44, List.forall_mem_cons.mpr ⟨lw_p45, List.forall_mem_cons.mpr ⟨lw_p46, List.forall_mem_cons.mpr ⟨lw_p47, fun _ h => absurd h List.not_mem_nil⟩⟩⟩⟩⟩⟩⟩⟩⟩⟩⟩⟩⟩⟩⟩⟩
theorem lw_p48 : lw_okq (⟨"SaidForNothingModel", "reads", "()Z"⟩, 57) := ⟨⟨by decide +kernel, by decide +kernel⟩, List.mem_of_getElem? (i := 1150) (by decide +kernel), List.mem_of_getElem? (i := 1392) (by decide +kernel), List.mem_of_getElem? (i := 1393) (by decide +kernel)⟩
theorem lw_p49 : lw_okq (⟨"SaidForNothingModel", "takes", "(I)Z"⟩, 57) := ⟨⟨by decide +kernel, by decide +kernel⟩, List.mem_of_getElem? (i := 1150) (by decide +kernel), List.mem_of_getElem? (i := 1396) (by decide +kernel), List.mem_of_getElem? (i := 1397) (by decide +kernel)⟩
theorem lw_p50 : lw_okq (⟨"SaidForNothingModel", "letter", "()I"⟩, 57) := ⟨⟨by decide +kernel, by decide +kernel⟩, List.mem_of_getElem? (i := 1150) (by decide +kernel), List.mem_of_getElem? (i := 1400) (by decide +kernel), List.mem_of_getElem? (i := 1401) (by decide +kernel)⟩
theorem lw_p51 : lw_okq (⟨"SaidForNothingModel", "item", "()Z"⟩, 57) := ⟨⟨by decide +kernel, by decide +kernel⟩, List.mem_of_getElem? (i := 1150) (by decide +kernel), List.mem_of_getElem? (i := 1404) (by decide +kernel), List.mem_of_getElem? (i := 1405) (by decide +kernel)⟩
theorem lw_p52 : lw_okq (⟨"SaidForNothingModel", "number", "()Z"⟩, 57) := ⟨⟨by decide +kernel, by decide +kernel⟩, List.mem_of_getElem? (i := 1150) (by decide +kernel), List.mem_of_getElem? (i := 1408) (by decide +kernel), List.mem_of_getElem? (i := 1409) (by decide +kernel)⟩
theorem lw_p53 : lw_okq (⟨"SaidForNothingModel", "isDigit", "()Z"⟩, 57) := ⟨⟨by decide +kernel, by decide +kernel⟩, List.mem_of_getElem? (i := 1150) (by decide +kernel), List.mem_of_getElem? (i := 1412) (by decide +kernel), List.mem_of_getElem? (i := 1413) (by decide +kernel)⟩
theorem lw_p54 : lw_okq (⟨"SaidForNothingModel", "number", "(II)Z"⟩, 57) := ⟨⟨by decide +kernel, by decide +kernel⟩, List.mem_of_getElem? (i := 1150) (by decide +kernel), List.mem_of_getElem? (i := 1416) (by decide +kernel), List.mem_of_getElem? (i := 1417) (by decide +kernel)⟩
theorem lw_p55 : lw_okq (⟨"SaidForNothingModel", "part", "()Z"⟩, 57) := ⟨⟨by decide +kernel, by decide +kernel⟩, List.mem_of_getElem? (i := 1150) (by decide +kernel), List.mem_of_getElem? (i := 1420) (by decide +kernel), List.mem_of_getElem? (i := 1421) (by decide +kernel)⟩
theorem lw_p56 : lw_okq (⟨"SaidForNothingModel", "twoPart", "()Z"⟩, 57) := ⟨⟨by decide +kernel, by decide +kernel⟩, List.mem_of_getElem? (i := 1150) (by decide +kernel), List.mem_of_getElem? (i := 1424) (by decide +kernel), List.mem_of_getElem? (i := 1425) (by decide +kernel)⟩
theorem lw_p57 : lw_okq (⟨"SaidForNothingModel", "signed", "()Z"⟩, 57) := ⟨⟨by decide +kernel, by decide +kernel⟩, List.mem_of_getElem? (i := 1150) (by decide +kernel), List.mem_of_getElem? (i := 1428) (by decide +kernel), List.mem_of_getElem? (i := 1429) (by decide +kernel)⟩
theorem lw_p58 : lw_okq (⟨"SaidForNothingModel", "wishPart", "()Z"⟩, 57) := ⟨⟨by decide +kernel, by decide +kernel⟩, List.mem_of_getElem? (i := 1150) (by decide +kernel), List.mem_of_getElem? (i := 1432) (by decide +kernel), List.mem_of_getElem? (i := 1433) (by decide +kernel)⟩
theorem lw_p59 : lw_okq (⟨"SaidForNothingModel", "wordsPart", "()Z"⟩, 57) := ⟨⟨by decide +kernel, by decide +kernel⟩, List.mem_of_getElem? (i := 1150) (by decide +kernel), List.mem_of_getElem? (i := 1436) (by decide +kernel), List.mem_of_getElem? (i := 1437) (by decide +kernel)⟩
theorem lw_p60 : lw_okq (⟨"SaidForNothingModel", "leanPart", "()Z"⟩, 57) := ⟨⟨by decide +kernel, by decide +kernel⟩, List.mem_of_getElem? (i := 1150) (by decide +kernel), List.mem_of_getElem? (i := 1440) (by decide +kernel), List.mem_of_getElem? (i := 1441) (by decide +kernel)⟩
theorem lw_p61 : lw_okq (⟨"SaidForNothingModel", "lossPart", "()Z"⟩, 57) := ⟨⟨by decide +kernel, by decide +kernel⟩, List.mem_of_getElem? (i := 1150) (by decide +kernel), List.mem_of_getElem? (i := 1444) (by decide +kernel), List.mem_of_getElem? (i := 1445) (by decide +kernel)⟩
theorem lw_p62 : lw_okq (⟨"SaidForNothingModel", "isTalk", "(I)Z"⟩, 57) := ⟨⟨by decide +kernel, by decide +kernel⟩, List.mem_of_getElem? (i := 1150) (by decide +kernel), List.mem_of_getElem? (i := 1456) (by decide +kernel), List.mem_of_getElem? (i := 1457) (by decide +kernel)⟩
theorem lw_p63 : lw_okq (⟨"SaidForNothingModel", "noLow", "(I)I"⟩, 57) := ⟨⟨by decide +kernel, by decide +kernel⟩, List.mem_of_getElem? (i := 1150) (by decide +kernel), List.mem_of_getElem? (i := 1460) (by decide +kernel), List.mem_of_getElem? (i := 1461) (by decide +kernel)⟩
def lw_privs_4 : List (MethodName × Nat) := [(⟨"SaidForNothingModel", "reads", "()Z"⟩, 57), (⟨"SaidForNothingModel", "takes", "(I)Z"⟩, 57), (⟨"SaidForNothingModel", "letter", "()I"⟩, 57), (⟨"SaidForNothingModel", "item", "()Z"⟩, 57), (⟨"SaidForNothingModel", "number", "()Z"⟩, 57), (⟨"SaidForNothingModel", "isDigit", "()Z"⟩, 57), (⟨"SaidForNothingModel", "number", "(II)Z"⟩, 57), (⟨"SaidForNothingModel", "part", "()Z"⟩, 57), (⟨"SaidForNothingModel", "twoPart", "()Z"⟩, 57), (⟨"SaidForNothingModel", "signed", "()Z"⟩, 57), (⟨"SaidForNothingModel", "wishPart", "()Z"⟩, 57), (⟨"SaidForNothingModel", "wordsPart", "()Z"⟩, 57), (⟨"SaidForNothingModel", "leanPart", "()Z"⟩, 57), (⟨"SaidForNothingModel", "lossPart", "()Z"⟩, 57), (⟨"SaidForNothingModel", "isTalk", "(I)Z"⟩, 57), (⟨"SaidForNothingModel", "noLow", "(I)I"⟩, 57)]
theorem lw_r4 : ∀ q ∈ lw_privs_4, lw_okq q := List.forall_mem_cons.mpr ⟨lw_p48, List.forall_mem_cons.mpr ⟨lw_p49, List.forall_mem_cons.mpr ⟨lw_p50, List.forall_mem_cons.mpr ⟨lw_p51, List.forall_mem_cons.mpr ⟨lw_p52, List.forall_mem_cons.mpr ⟨lw_p53, List.forall_mem_cons.mpr ⟨lw_p54, List.forall_mem_cons.mpr ⟨lw_p55, List.forall_mem_cons.mpr ⟨lw_p56, List.forall_mem_cons.mpr ⟨lw_p57, List.forall_mem_cons.mpr ⟨lw_p58, List.forall_mem_cons.mpr ⟨lw_p59, List.forall_mem_cons.mpr ⟨lw_p60, List.forall_mem_cons.mpr ⟨lw_p61, List.forall_mem_cons.mpr ⟨lw_p62, List.forall_mem_cons.mpr ⟨lw_p63, fun _ h => absurd h List.not_mem_nil⟩⟩⟩⟩⟩⟩⟩⟩⟩⟩⟩⟩⟩⟩⟩⟩
theorem lw_p64 : lw_okq (⟨"SaidForNothingModel", "isTruth", "(II)Z"⟩, 57) := ⟨⟨by decide +kernel, by decide +kernel⟩, List.mem_of_getElem? (i := 1150) (by decide +kernel), List.mem_of_getElem? (i := 1469) (by decide +kernel), List.mem_of_getElem? (i := 1470) (by decide +kernel)⟩
theorem lw_p65 : lw_okq (⟨"SaidForNothingModel", "doneAt", "(III)I"⟩, 57) := ⟨⟨by decide +kernel, by decide +kernel⟩, List.mem_of_getElem? (i := 1150) (by decide +kernel), List.mem_of_getElem? (i := 1477) (by decide +kernel), List.mem_of_getElem? (i := 1478) (by decide +kernel)⟩
theorem lw_p66 : lw_okq (⟨"SaidForNothingModel", "least", "(II)I"⟩, 57) := ⟨⟨by decide +kernel, by decide +kernel⟩, List.mem_of_getElem? (i := 1150) (by decide +kernel), List.mem_of_getElem? (i := 1481) (by decide +kernel), List.mem_of_getElem? (i := 1482) (by decide +kernel)⟩
theorem lw_p67 : lw_okq (⟨"SaidForNothingModel", "isUsed", "(II)Z"⟩, 57) := ⟨⟨by decide +kernel, by decide +kernel⟩, List.mem_of_getElem? (i := 1150) (by decide +kernel), List.mem_of_getElem? (i := 1515) (by decide +kernel), List.mem_of_getElem? (i := 1516) (by decide +kernel)⟩
theorem lw_p68 : lw_okq (⟨"SaidForNothingModel", "actOf", "(II)I"⟩, 57) := ⟨⟨by decide +kernel, by decide +kernel⟩, List.mem_of_getElem? (i := 1150) (by decide +kernel), List.mem_of_getElem? (i := 1523) (by decide +kernel), List.mem_of_getElem? (i := 1524) (by decide +kernel)⟩
theorem lw_p69 : lw_okq (⟨"SaidForNothingModel", "weighs", "(II)V"⟩, 57) := ⟨⟨by decide +kernel, by decide +kernel⟩, List.mem_of_getElem? (i := 1150) (by decide +kernel), List.mem_of_getElem? (i := 1527) (by decide +kernel), List.mem_of_getElem? (i := 1528) (by decide +kernel)⟩
theorem lw_p70 : lw_okq (⟨"SaidForNothingModel", "failsAt", "(I)I"⟩, 57) := ⟨⟨by decide +kernel, by decide +kernel⟩, List.mem_of_getElem? (i := 1150) (by decide +kernel), List.mem_of_getElem? (i := 1535) (by decide +kernel), List.mem_of_getElem? (i := 1536) (by decide +kernel)⟩
theorem lw_p71 : lw_okq (⟨"SaidForNothingModel", "acts", "(I)V"⟩, 57) := ⟨⟨by decide +kernel, by decide +kernel⟩, List.mem_of_getElem? (i := 1150) (by decide +kernel), List.mem_of_getElem? (i := 1539) (by decide +kernel), List.mem_of_getElem? (i := 1540) (by decide +kernel)⟩
theorem lw_p72 : lw_okq (⟨"SaidForNothingModel", "losesBy", "(IIII)J"⟩, 57) := ⟨⟨by decide +kernel, by decide +kernel⟩, List.mem_of_getElem? (i := 1150) (by decide +kernel), List.mem_of_getElem? (i := 1543) (by decide +kernel), List.mem_of_getElem? (i := 1544) (by decide +kernel)⟩
theorem lw_p73 : lw_okq (⟨"SaidForNothingModel", "loses", "(IJ)J"⟩, 57) := ⟨⟨by decide +kernel, by decide +kernel⟩, List.mem_of_getElem? (i := 1150) (by decide +kernel), List.mem_of_getElem? (i := 1547) (by decide +kernel), List.mem_of_getElem? (i := 1548) (by decide +kernel)⟩
theorem lw_p74 : lw_okq (⟨"SaidForNothingModel", "isWorse", "(II)Z"⟩, 57) := ⟨⟨by decide +kernel, by decide +kernel⟩, List.mem_of_getElem? (i := 1150) (by decide +kernel), List.mem_of_getElem? (i := 1551) (by decide +kernel), List.mem_of_getElem? (i := 1552) (by decide +kernel)⟩
theorem lw_p75 : lw_okq (⟨"SaidForNothingModel", "worthOf", "(II)J"⟩, 57) := ⟨⟨by decide +kernel, by decide +kernel⟩, List.mem_of_getElem? (i := 1150) (by decide +kernel), List.mem_of_getElem? (i := 1563) (by decide +kernel), List.mem_of_getElem? (i := 1564) (by decide +kernel)⟩
theorem lw_p76 : lw_okq (⟨"SaidForNothingModel", "parts", "(II)V"⟩, 57) := ⟨⟨by decide +kernel, by decide +kernel⟩, List.mem_of_getElem? (i := 1150) (by decide +kernel), List.mem_of_getElem? (i := 1571) (by decide +kernel), List.mem_of_getElem? (i := 1572) (by decide +kernel)⟩
theorem lw_p77 : lw_okq (⟨"SaidForNothingModel", "hears", "(I)V"⟩, 57) := ⟨⟨by decide +kernel, by decide +kernel⟩, List.mem_of_getElem? (i := 1150) (by decide +kernel), List.mem_of_getElem? (i := 1575) (by decide +kernel), List.mem_of_getElem? (i := 1576) (by decide +kernel)⟩
theorem lw_p78 : lw_okq (⟨"SaidForNothingModel", "runWorth", "(II)J"⟩, 57) := ⟨⟨by decide +kernel, by decide +kernel⟩, List.mem_of_getElem? (i := 1150) (by decide +kernel), List.mem_of_getElem? (i := 1579) (by decide +kernel), List.mem_of_getElem? (i := 1580) (by decide +kernel)⟩
theorem lw_p79 : lw_okq (⟨"SaidForNothingModel", "cutsN", "(I)I"⟩, 57) := ⟨⟨by decide +kernel, by decide +kernel⟩, List.mem_of_getElem? (i := 1150) (by decide +kernel), List.mem_of_getElem? (i := 1583) (by decide +kernel), List.mem_of_getElem? (i := 1584) (by decide +kernel)⟩
def lw_privs_5 : List (MethodName × Nat) := [(⟨"SaidForNothingModel", "isTruth", "(II)Z"⟩, 57), (⟨"SaidForNothingModel", "doneAt", "(III)I"⟩, 57), (⟨"SaidForNothingModel", "least", "(II)I"⟩, 57), (⟨"SaidForNothingModel", "isUsed", "(II)Z"⟩, 57), (⟨"SaidForNothingModel", "actOf", "(II)I"⟩, 57), (⟨"SaidForNothingModel", "weighs", "(II)V"⟩, 57), (⟨"SaidForNothingModel", "failsAt", "(I)I"⟩, 57), (⟨"SaidForNothingModel", "acts", "(I)V"⟩, 57), (⟨"SaidForNothingModel", "losesBy", "(IIII)J"⟩, 57), (⟨"SaidForNothingModel", "loses", "(IJ)J"⟩, 57), (⟨"SaidForNothingModel", "isWorse", "(II)Z"⟩, 57), (⟨"SaidForNothingModel", "worthOf", "(II)J"⟩, 57), (⟨"SaidForNothingModel", "parts", "(II)V"⟩, 57), (⟨"SaidForNothingModel", "hears", "(I)V"⟩, 57), (⟨"SaidForNothingModel", "runWorth", "(II)J"⟩, 57), (⟨"SaidForNothingModel", "cutsN", "(I)I"⟩, 57)]
theorem lw_r5 : ∀ q ∈ lw_privs_5, lw_okq q := List.forall_mem_cons.mpr ⟨lw_p64, List.forall_mem_cons.mpr ⟨lw_p65, List.forall_mem_cons.mpr ⟨lw_p66, List.forall_mem_cons.mpr ⟨lw_p67, List.forall_mem_cons.mpr ⟨lw_p68, List.forall_mem_cons.mpr ⟨lw_p69, List.forall_mem_cons.mpr ⟨lw_p70, List.forall_mem_cons.mpr ⟨lw_p71, List.forall_mem_cons.mpr ⟨lw_p72, List.forall_mem_cons.mpr ⟨lw_p73, List.forall_mem_cons.mpr ⟨lw_p74, List.forall_mem_cons.mpr ⟨lw_p75, List.forall_mem_cons.mpr ⟨lw_p76, List.forall_mem_cons.mpr ⟨lw_p77, List.forall_mem_cons.mpr ⟨lw_p78, List.forall_mem_cons.mpr ⟨lw_p79, fun _ h => absurd h List.not_mem_nil⟩⟩⟩⟩⟩⟩⟩⟩⟩⟩⟩⟩⟩⟩⟩⟩
theorem lw_p80 : lw_okq (⟨"SaidForNothingModel", "isRun", "(II)Z"⟩, 57) := ⟨⟨by decide +kernel, by decide +kernel⟩, List.mem_of_getElem? (i := 1150) (by decide +kernel), List.mem_of_getElem? (i := 1591) (by decide +kernel), List.mem_of_getElem? (i := 1592) (by decide +kernel)⟩
theorem lw_p81 : lw_okq (⟨"SaidForNothingModel", "holds", "(IIII)Z"⟩, 57) := ⟨⟨by decide +kernel, by decide +kernel⟩, List.mem_of_getElem? (i := 1150) (by decide +kernel), List.mem_of_getElem? (i := 1595) (by decide +kernel), List.mem_of_getElem? (i := 1596) (by decide +kernel)⟩
theorem lw_p82 : lw_okq (⟨"SaidForNothingModel", "stands", "(III)Z"⟩, 57) := ⟨⟨by decide +kernel, by decide +kernel⟩, List.mem_of_getElem? (i := 1150) (by decide +kernel), List.mem_of_getElem? (i := 1599) (by decide +kernel), List.mem_of_getElem? (i := 1600) (by decide +kernel)⟩
theorem lw_p83 : lw_okq (⟨"SaidForNothingModel", "says", "(IIIII)J"⟩, 57) := ⟨⟨by decide +kernel, by decide +kernel⟩, List.mem_of_getElem? (i := 1150) (by decide +kernel), List.mem_of_getElem? (i := 1603) (by decide +kernel), List.mem_of_getElem? (i := 1604) (by decide +kernel)⟩
theorem lw_p84 : lw_okq (⟨"SaidForNothingModel", "finestCuts", "(II)I"⟩, 57) := ⟨⟨by decide +kernel, by decide +kernel⟩, List.mem_of_getElem? (i := 1150) (by decide +kernel), List.mem_of_getElem? (i := 1611) (by decide +kernel), List.mem_of_getElem? (i := 1612) (by decide +kernel)⟩
theorem lw_p85 : lw_okq (⟨"SaidForNothingModel", "bestCuts", "(II)I"⟩, 57) := ⟨⟨by decide +kernel, by decide +kernel⟩, List.mem_of_getElem? (i := 1150) (by decide +kernel), List.mem_of_getElem? (i := 1623) (by decide +kernel), List.mem_of_getElem? (i := 1624) (by decide +kernel)⟩
theorem lw_p86 : lw_okq (⟨"SaidForNothingModel", "noTen", "(I)I"⟩, 57) := ⟨⟨by decide +kernel, by decide +kernel⟩, List.mem_of_getElem? (i := 1150) (by decide +kernel), List.mem_of_getElem? (i := 1635) (by decide +kernel), List.mem_of_getElem? (i := 1636) (by decide +kernel)⟩
theorem lw_p87 : lw_okq (⟨"SaidForNothingModel", "blurs", "(II)V"⟩, 57) := ⟨⟨by decide +kernel, by decide +kernel⟩, List.mem_of_getElem? (i := 1150) (by decide +kernel), List.mem_of_getElem? (i := 1651) (by decide +kernel), List.mem_of_getElem? (i := 1652) (by decide +kernel)⟩
theorem lw_p88 : lw_okq (⟨"SaidForNothingModel", "blurStands", "(II)Z"⟩, 57) := ⟨⟨by decide +kernel, by decide +kernel⟩, List.mem_of_getElem? (i := 1150) (by decide +kernel), List.mem_of_getElem? (i := 1656) (by decide +kernel), List.mem_of_getElem? (i := 1657) (by decide +kernel)⟩
theorem lw_p89 : lw_okq (⟨"SaidForNothingModel", "arounds", "(II)V"⟩, 57) := ⟨⟨by decide +kernel, by decide +kernel⟩, List.mem_of_getElem? (i := 1150) (by decide +kernel), List.mem_of_getElem? (i := 1660) (by decide +kernel), List.mem_of_getElem? (i := 1661) (by decide +kernel)⟩
theorem lw_p90 : lw_okq (⟨"SaidForNothingModel", "blurred", "(IIIII)J"⟩, 57) := ⟨⟨by decide +kernel, by decide +kernel⟩, List.mem_of_getElem? (i := 1150) (by decide +kernel), List.mem_of_getElem? (i := 1664) (by decide +kernel), List.mem_of_getElem? (i := 1665) (by decide +kernel)⟩
theorem lw_p91 : lw_okq (⟨"SaidForNothingModel", "blurWorth", "(II)J"⟩, 57) := ⟨⟨by decide +kernel, by decide +kernel⟩, List.mem_of_getElem? (i := 1150) (by decide +kernel), List.mem_of_getElem? (i := 1668) (by decide +kernel), List.mem_of_getElem? (i := 1669) (by decide +kernel)⟩
theorem lw_p92 : lw_okq (⟨"SaidForNothingModel", "endsLoss", "(III)J"⟩, 57) := ⟨⟨by decide +kernel, by decide +kernel⟩, List.mem_of_getElem? (i := 1150) (by decide +kernel), List.mem_of_getElem? (i := 1676) (by decide +kernel), List.mem_of_getElem? (i := 1677) (by decide +kernel)⟩
theorem lw_p93 : lw_okq (⟨"SaidForNothingModel", "bestTwo", "(I)I"⟩, 57) := ⟨⟨by decide +kernel, by decide +kernel⟩, List.mem_of_getElem? (i := 1150) (by decide +kernel), List.mem_of_getElem? (i := 1684) (by decide +kernel), List.mem_of_getElem? (i := 1685) (by decide +kernel)⟩
theorem lw_p94 : lw_okq (⟨"SaidForNothingModel", "liked", "(II)I"⟩, 57) := ⟨⟨by decide +kernel, by decide +kernel⟩, List.mem_of_getElem? (i := 1150) (by decide +kernel), List.mem_of_getElem? (i := 1688) (by decide +kernel), List.mem_of_getElem? (i := 1689) (by decide +kernel)⟩
theorem lw_p95 : lw_okq (⟨"SaidForNothingModel", "within", "(I)I"⟩, 57) := ⟨⟨by decide +kernel, by decide +kernel⟩, List.mem_of_getElem? (i := 1150) (by decide +kernel), List.mem_of_getElem? (i := 1692) (by decide +kernel), List.mem_of_getElem? (i := 1693) (by decide +kernel)⟩
def lw_privs_6 : List (MethodName × Nat) := [(⟨"SaidForNothingModel", "isRun", "(II)Z"⟩, 57), (⟨"SaidForNothingModel", "holds", "(IIII)Z"⟩, 57), (⟨"SaidForNothingModel", "stands", "(III)Z"⟩, 57), (⟨"SaidForNothingModel", "says", "(IIIII)J"⟩, 57), (⟨"SaidForNothingModel", "finestCuts", "(II)I"⟩, 57), (⟨"SaidForNothingModel", "bestCuts", "(II)I"⟩, 57), (⟨"SaidForNothingModel", "noTen", "(I)I"⟩, 57), (⟨"SaidForNothingModel", "blurs", "(II)V"⟩, 57), (⟨"SaidForNothingModel", "blurStands", "(II)Z"⟩, 57), (⟨"SaidForNothingModel", "arounds", "(II)V"⟩, 57), (⟨"SaidForNothingModel", "blurred", "(IIIII)J"⟩, 57), (⟨"SaidForNothingModel", "blurWorth", "(II)J"⟩, 57), (⟨"SaidForNothingModel", "endsLoss", "(III)J"⟩, 57), (⟨"SaidForNothingModel", "bestTwo", "(I)I"⟩, 57), (⟨"SaidForNothingModel", "liked", "(II)I"⟩, 57), (⟨"SaidForNothingModel", "within", "(I)I"⟩, 57)]
theorem lw_r6 : ∀ q ∈ lw_privs_6, lw_okq q := List.forall_mem_cons.mpr ⟨lw_p80, List.forall_mem_cons.mpr ⟨lw_p81, List.forall_mem_cons.mpr ⟨lw_p82, List.forall_mem_cons.mpr ⟨lw_p83, List.forall_mem_cons.mpr ⟨lw_p84, List.forall_mem_cons.mpr ⟨lw_p85, List.forall_mem_cons.mpr ⟨lw_p86, List.forall_mem_cons.mpr ⟨lw_p87, List.forall_mem_cons.mpr ⟨lw_p88, List.forall_mem_cons.mpr ⟨lw_p89, List.forall_mem_cons.mpr ⟨lw_p90, List.forall_mem_cons.mpr ⟨lw_p91, List.forall_mem_cons.mpr ⟨lw_p92, List.forall_mem_cons.mpr ⟨lw_p93, List.forall_mem_cons.mpr ⟨lw_p94, List.forall_mem_cons.mpr ⟨lw_p95, fun _ h => absurd h List.not_mem_nil⟩⟩⟩⟩⟩⟩⟩⟩⟩⟩⟩⟩⟩⟩⟩⟩
theorem lw_p96 : lw_okq (⟨"SaidForNothingModel", "agrees", "(IIII)Z"⟩, 57) := ⟨⟨by decide +kernel, by decide +kernel⟩, List.mem_of_getElem? (i := 1150) (by decide +kernel), List.mem_of_getElem? (i := 1704) (by decide +kernel), List.mem_of_getElem? (i := 1705) (by decide +kernel)⟩
theorem lw_p97 : lw_okq (⟨"SaidForNothingModel", "drawn", "(I)I"⟩, 57) := ⟨⟨by decide +kernel, by decide +kernel⟩, List.mem_of_getElem? (i := 1150) (by decide +kernel), List.mem_of_getElem? (i := 1717) (by decide +kernel), List.mem_of_getElem? (i := 1718) (by decide +kernel)⟩
theorem lw_p98 : lw_okq (⟨"SaidForNothingModel", "thinks", "(II)I"⟩, 57) := ⟨⟨by decide +kernel, by decide +kernel⟩, List.mem_of_getElem? (i := 1150) (by decide +kernel), List.mem_of_getElem? (i := 1727) (by decide +kernel), List.mem_of_getElem? (i := 1728) (by decide +kernel)⟩
theorem lw_p99 : lw_okq (⟨"SaidForNothingModel", "body", "(I)V"⟩, 57) := ⟨⟨by decide +kernel, by decide +kernel⟩, List.mem_of_getElem? (i := 1150) (by decide +kernel), List.mem_of_getElem? (i := 1731) (by decide +kernel), List.mem_of_getElem? (i := 1732) (by decide +kernel)⟩
theorem lw_p100 : lw_okq (⟨"SaidForNothingModel", "spoken", "(II)I"⟩, 57) := ⟨⟨by decide +kernel, by decide +kernel⟩, List.mem_of_getElem? (i := 1150) (by decide +kernel), List.mem_of_getElem? (i := 1735) (by decide +kernel), List.mem_of_getElem? (i := 1736) (by decide +kernel)⟩
theorem lw_p101 : lw_okq (⟨"SaidForNothingModel", "doing", "(II)I"⟩, 57) := ⟨⟨by decide +kernel, by decide +kernel⟩, List.mem_of_getElem? (i := 1150) (by decide +kernel), List.mem_of_getElem? (i := 1739) (by decide +kernel), List.mem_of_getElem? (i := 1740) (by decide +kernel)⟩
theorem lw_p102 : lw_okq (⟨"SaidForNothingModel", "all", "(Z)V"⟩, 57) := ⟨⟨by decide +kernel, by decide +kernel⟩, List.mem_of_getElem? (i := 1150) (by decide +kernel), List.mem_of_getElem? (i := 1751) (by decide +kernel), List.mem_of_getElem? (i := 1752) (by decide +kernel)⟩
theorem lw_p103 : lw_okq (⟨"SaidForNothingModel", "keeps", "([IIIZ)I"⟩, 57) := ⟨⟨by decide +kernel, by decide +kernel⟩, List.mem_of_getElem? (i := 1150) (by decide +kernel), List.mem_of_getElem? (i := 1755) (by decide +kernel), List.mem_of_getElem? (i := 1756) (by decide +kernel)⟩
def lw_privs_7 : List (MethodName × Nat) := [(⟨"SaidForNothingModel", "agrees", "(IIII)Z"⟩, 57), (⟨"SaidForNothingModel", "drawn", "(I)I"⟩, 57), (⟨"SaidForNothingModel", "thinks", "(II)I"⟩, 57), (⟨"SaidForNothingModel", "body", "(I)V"⟩, 57), (⟨"SaidForNothingModel", "spoken", "(II)I"⟩, 57), (⟨"SaidForNothingModel", "doing", "(II)I"⟩, 57), (⟨"SaidForNothingModel", "all", "(Z)V"⟩, 57), (⟨"SaidForNothingModel", "keeps", "([IIIZ)I"⟩, 57)]
theorem lw_r7 : ∀ q ∈ lw_privs_7, lw_okq q := List.forall_mem_cons.mpr ⟨lw_p96, List.forall_mem_cons.mpr ⟨lw_p97, List.forall_mem_cons.mpr ⟨lw_p98, List.forall_mem_cons.mpr ⟨lw_p99, List.forall_mem_cons.mpr ⟨lw_p100, List.forall_mem_cons.mpr ⟨lw_p101, List.forall_mem_cons.mpr ⟨lw_p102, List.forall_mem_cons.mpr ⟨lw_p103, fun _ h => absurd h List.not_mem_nil⟩⟩⟩⟩⟩⟩⟩⟩
def lw_privs : List (MethodName × Nat) := lw_privs_1 ++ (lw_privs_2 ++ (lw_privs_3 ++ (lw_privs_4 ++ (lw_privs_5 ++ (lw_privs_6 ++ (lw_privs_7))))))
def lw_tbl : List Cond := k2_sels lw_privs ++ tables_1
theorem lw_privs_ok : ∀ q ∈ lw_privs, lw_okq q := by
  show ∀ q ∈ lw_privs_1 ++ (lw_privs_2 ++ (lw_privs_3 ++ (lw_privs_4 ++ (lw_privs_5 ++ (lw_privs_6 ++ (lw_privs_7)))))), lw_okq q
  exact List.forall_mem_append.mpr ⟨lw_r1, List.forall_mem_append.mpr ⟨lw_r2, List.forall_mem_append.mpr ⟨lw_r3, List.forall_mem_append.mpr ⟨lw_r4, List.forall_mem_append.mpr ⟨lw_r5, List.forall_mem_append.mpr ⟨lw_r6, lw_r7⟩⟩⟩⟩⟩⟩
-- ===== end of PART A; then your names; then what follows =====
end
section
def RX0 : String := "SaidForNothing$Bodies"
def TX0 : u_T := fun k => match k with
  | 0 => ("SaidForNothing$Bodies", "numbers", "LSaidForNothing$Ints;", true)
  | 1 => ("SaidForNothing$Bodies", "kind", "I", false)
  | 2 => ("SaidForNothing$Bodies", "meaning", "I", false)
  | 3 => ("SaidForNothing$Bodies", "talk", "I", false)
  | _ => ("SaidForNothing$Bodies", "ran", "I", false)
def tyX0 : Nat → FieldType := fun k => match k with
  | 0 => .object "SaidForNothing$Ints"
  | 1 => .int
  | 2 => .int
  | 3 => .int
  | _ => .int
theorem nmX0 : ∀ a, a < 5 → ∀ b, b < 5 → a ≠ b → (TX0 a).2.1 ≠ (TX0 b).2.1 := by decide +kernel
theorem tyX0_ok : ∀ k, k < 5 → parseFieldDescriptor (TX0 k).2.2.1 = some (tyX0 k) := by decide +kernel
abbrev cX0_init : ByteArray := prog_2_method_1_code
def yX0_init : MethodName := ⟨RX0, "<init>", "()V"⟩
abbrev cX0_forget : ByteArray := prog_2_method_2_code
def yX0_forget : MethodName := ⟨RX0, "forget", "()V"⟩
abbrev cX0_begin : ByteArray := prog_2_method_3_code
def yX0_begin : MethodName := ⟨RX0, "begin", "(III)V"⟩
abbrev cX0_note : ByteArray := prog_2_method_4_code
def yX0_note : MethodName := ⟨RX0, "note", "(I)V"⟩
abbrev cX0_kept : ByteArray := prog_2_method_5_code
def yX0_kept : MethodName := ⟨RX0, "kept", "(I)I"⟩
abbrev cX0_thinking : ByteArray := prog_2_method_6_code
def yX0_thinking : MethodName := ⟨RX0, "thinking", "(I)I"⟩
abbrev cX0_saying : ByteArray := prog_2_method_7_code
def yX0_saying : MethodName := ⟨RX0, "saying", "(I)I"⟩
abbrev cX0_doing : ByteArray := prog_2_method_8_code
def yX0_doing : MethodName := ⟨RX0, "doing", "(I)I"⟩
def RX1 : String := "SaidForNothing$Ints"
def TX1 : u_T := fun k => match k with
  | _ => ("SaidForNothing$Ints", "cells", "[I", true)
def tyX1 : Nat → FieldType := fun k => match k with
  | _ => .array .int
theorem nmX1 : ∀ a, a < 1 → ∀ b, b < 1 → a ≠ b → (TX1 a).2.1 ≠ (TX1 b).2.1 := by decide +kernel
theorem tyX1_ok : ∀ k, k < 1 → parseFieldDescriptor (TX1 k).2.2.1 = some (tyX1 k) := by decide +kernel
abbrev cX1_init : ByteArray := prog_3_method_1_code
def yX1_init : MethodName := ⟨RX1, "<init>", "(I)V"⟩
abbrev cX1_get : ByteArray := prog_3_method_2_code
def yX1_get : MethodName := ⟨RX1, "get", "(I)I"⟩
abbrev cX1_put : ByteArray := prog_3_method_3_code
def yX1_put : MethodName := ⟨RX1, "put", "(II)V"⟩
abbrev cX1_clear : ByteArray := prog_3_method_4_code
def yX1_clear : MethodName := ⟨RX1, "clear", "()V"⟩
abbrev cX1_copyFrom : ByteArray := prog_3_method_5_code
def yX1_copyFrom : MethodName := ⟨RX1, "copyFrom", "(LSaidForNothing$Ints;)V"⟩
def RX2 : String := "SaidForNothing$Letters"
def TX2 : u_T := fun k => match k with
  | 0 => ("SaidForNothing$Letters", "signs", "LSaidForNothing$Ints;", true)
  | 1 => ("SaidForNothing$Letters", "size", "I", false)
  | 2 => ("SaidForNothing$Letters", "place", "I", false)
  | 3 => ("SaidForNothing$Letters", "fault", "I", false)
  | _ => ("SaidForNothing$Letters", "number", "I", false)
def tyX2 : Nat → FieldType := fun k => match k with
  | 0 => .object "SaidForNothing$Ints"
  | 1 => .int
  | 2 => .int
  | 3 => .int
  | _ => .int
theorem nmX2 : ∀ a, a < 5 → ∀ b, b < 5 → a ≠ b → (TX2 a).2.1 ≠ (TX2 b).2.1 := by decide +kernel
theorem tyX2_ok : ∀ k, k < 5 → parseFieldDescriptor (TX2 k).2.2.1 = some (tyX2 k) := by decide +kernel
abbrev cX2_init : ByteArray := prog_4_method_1_code
def yX2_init : MethodName := ⟨RX2, "<init>", "()V"⟩
abbrev cX2_read : ByteArray := prog_4_method_2_code
def yX2_read : MethodName := ⟨RX2, "read", "(LSaidForNothing$Shelf;LSaidForNothing$Talk;)I"⟩
abbrev cX2_begin : ByteArray := prog_4_method_3_code
def yX2_begin : MethodName := ⟨RX2, "begin", "(LSaidForNothing$Shelf;)V"⟩
abbrev cX2_at : ByteArray := prog_4_method_4_code
def yX2_at : MethodName := ⟨RX2, "at", "(C)Z"⟩
abbrev cX2_fail : ByteArray := prog_4_method_5_code
def yX2_fail : MethodName := ⟨RX2, "fail", "(I)Z"⟩
abbrev cX2_expect : ByteArray := prog_4_method_6_code
def yX2_expect : MethodName := ⟨RX2, "expect", "(C)Z"⟩
abbrev cX2_expectAll : ByteArray := prog_4_method_7_code
def yX2_expectAll : MethodName := ⟨RX2, "expectAll", "(Ljava/lang/String;)Z"⟩
abbrev cX2_items : ByteArray := prog_4_method_8_code
def yX2_items : MethodName := ⟨RX2, "items", "(LSaidForNothing$Talk;)Z"⟩
abbrev cX2_item : ByteArray := prog_4_method_9_code
def yX2_item : MethodName := ⟨RX2, "item", "(LSaidForNothing$Talk;)Z"⟩
abbrev cX2_partName : ByteArray := prog_4_method_10_code
def yX2_partName : MethodName := ⟨RX2, "partName", "()Ljava/lang/String;"⟩
abbrev cX2_part : ByteArray := prog_4_method_11_code
def yX2_part : MethodName := ⟨RX2, "part", "(LSaidForNothing$Talk;)Z"⟩
abbrev cX2_wordsPart : ByteArray := prog_4_method_12_code
def yX2_wordsPart : MethodName := ⟨RX2, "wordsPart", "(LSaidForNothing$Talk;)Z"⟩
abbrev cX2_lossPart : ByteArray := prog_4_method_13_code
def yX2_lossPart : MethodName := ⟨RX2, "lossPart", "(LSaidForNothing$Talk;)Z"⟩
abbrev cX2_secondPart : ByteArray := prog_4_method_14_code
def yX2_secondPart : MethodName := ⟨RX2, "secondPart", "(LSaidForNothing$Talk;I)Z"⟩
abbrev cX2_readSigned : ByteArray := prog_4_method_15_code
def yX2_readSigned : MethodName := ⟨RX2, "readSigned", "()Z"⟩
abbrev cX2_readNumber : ByteArray := prog_4_method_16_code
def yX2_readNumber : MethodName := ⟨RX2, "readNumber", "(II)Z"⟩
def RX3 : String := "SaidForNothing$Meaning"
def TX3 : u_T := fun k => match k with
  | 0 => ("SaidForNothing$Meaning", "words", "LSaidForNothing$Ints;", true)
  | 1 => ("SaidForNothing$Meaning", "told", "LSaidForNothing$Ints;", true)
  | 2 => ("SaidForNothing$Meaning", "kind", "I", false)
  | 3 => ("SaidForNothing$Meaning", "talk", "I", false)
  | _ => ("SaidForNothing$Meaning", "clear", "I", false)
def tyX3 : Nat → FieldType := fun k => match k with
  | 0 => .object "SaidForNothing$Ints"
  | 1 => .object "SaidForNothing$Ints"
  | 2 => .int
  | 3 => .int
  | _ => .int
theorem nmX3 : ∀ a, a < 5 → ∀ b, b < 5 → a ≠ b → (TX3 a).2.1 ≠ (TX3 b).2.1 := by decide +kernel
theorem tyX3_ok : ∀ k, k < 5 → parseFieldDescriptor (TX3 k).2.2.1 = some (tyX3 k) := by decide +kernel
abbrev cX3_init : ByteArray := prog_5_method_1_code
def yX3_init : MethodName := ⟨RX3, "<init>", "()V"⟩
abbrev cX3_begin : ByteArray := prog_5_method_2_code
def yX3_begin : MethodName := ⟨RX3, "begin", "(III)V"⟩
abbrev cX3_wordsFrom : ByteArray := prog_5_method_3_code
def yX3_wordsFrom : MethodName := ⟨RX3, "wordsFrom", "(LSaidForNothing$Shelf;I)V"⟩
abbrev cX3_wordsBy : ByteArray := prog_5_method_4_code
def yX3_wordsBy : MethodName := ⟨RX3, "wordsBy", "(II)V"⟩
abbrev cX3_copyFrom : ByteArray := prog_5_method_5_code
def yX3_copyFrom : MethodName := ⟨RX3, "copyFrom", "(LSaidForNothing$Meaning;)V"⟩
def RX4 : String := "SaidForNothing$Reading"
def TX4 : u_T := fun k => match k with
  | 0 => ("SaidForNothing$Reading", "words", "LSaidForNothing$Ints;", true)
  | 1 => ("SaidForNothing$Reading", "acts", "LSaidForNothing$Ints;", true)
  | 2 => ("SaidForNothing$Reading", "chances", "LSaidForNothing$Ints;", true)
  | 3 => ("SaidForNothing$Reading", "liked", "LSaidForNothing$Ints;", true)
  | 4 => ("SaidForNothing$Reading", "allChances", "I", false)
  | 5 => ("SaidForNothing$Reading", "allLiked", "I", false)
  | 6 => ("SaidForNothing$Reading", "talk", "LSaidForNothing$Talk;", false)
  | 7 => ("SaidForNothing$Reading", "lean", "I", false)
  | 8 => ("SaidForNothing$Reading", "wish", "I", false)
  | 9 => ("SaidForNothing$Reading", "used", "I", false)
  | 10 => ("SaidForNothing$Reading", "usedCount", "I", false)
  | 11 => ("SaidForNothing$Reading", "blurred", "Z", false)
  | 12 => ("SaidForNothing$Reading", "told", "Z", false)
  | 13 => ("SaidForNothing$Reading", "clear", "I", false)
  | _ => ("SaidForNothing$Reading", "drawn", "I", false)
def tyX4 : Nat → FieldType := fun k => match k with
  | 0 => .object "SaidForNothing$Ints"
  | 1 => .object "SaidForNothing$Ints"
  | 2 => .object "SaidForNothing$Ints"
  | 3 => .object "SaidForNothing$Ints"
  | 4 => .int
  | 5 => .int
  | 6 => .object "SaidForNothing$Talk"
  | 7 => .int
  | 8 => .int
  | 9 => .int
  | 10 => .int
  | 11 => .boolean
  | 12 => .boolean
  | 13 => .int
  | _ => .int
theorem nmX4 : ∀ a, a < 15 → ∀ b, b < 15 → a ≠ b → (TX4 a).2.1 ≠ (TX4 b).2.1 := by decide +kernel
theorem tyX4_ok : ∀ k, k < 15 → parseFieldDescriptor (TX4 k).2.2.1 = some (tyX4 k) := by decide +kernel
abbrev cX4_init : ByteArray := prog_6_method_1_code
def yX4_init : MethodName := ⟨RX4, "<init>", "()V"⟩
abbrev cX4_take : ByteArray := prog_6_method_2_code
def yX4_take : MethodName := ⟨RX4, "take", "(LSaidForNothing$Talk;II)V"⟩
abbrev cX4_blur : ByteArray := prog_6_method_3_code
def yX4_blur : MethodName := ⟨RX4, "blur", "(I)V"⟩
abbrev cX4_silence : ByteArray := prog_6_method_4_code
def yX4_silence : MethodName := ⟨RX4, "silence", "()V"⟩
abbrev cX4_put : ByteArray := prog_6_method_5_code
def yX4_put : MethodName := ⟨RX4, "put", "(II)V"⟩
abbrev cX4_putParts : ByteArray := prog_6_method_6_code
def yX4_putParts : MethodName := ⟨RX4, "putParts", "(I)V"⟩
abbrev cX4_open : ByteArray := prog_6_method_7_code
def yX4_open : MethodName := ⟨RX4, "open", "(LSaidForNothing$Store;I)Z"⟩
abbrev cX4_settle : ByteArray := prog_6_method_8_code
def yX4_settle : MethodName := ⟨RX4, "settle", "()V"⟩
abbrev cX4_gather : ByteArray := prog_6_method_9_code
def yX4_gather : MethodName := ⟨RX4, "gather", "()V"⟩
abbrev cX4_isUsed : ByteArray := prog_6_method_10_code
def yX4_isUsed : MethodName := ⟨RX4, "isUsed", "(I)Z"⟩
abbrev cX4_hasTruth : ByteArray := prog_6_method_11_code
def yX4_hasTruth : MethodName := ⟨RX4, "hasTruth", "(I)Z"⟩
abbrev cX4_wordOf : ByteArray := prog_6_method_12_code
def yX4_wordOf : MethodName := ⟨RX4, "wordOf", "(I)I"⟩
abbrev cX4_actAt : ByteArray := prog_6_method_13_code
def yX4_actAt : MethodName := ⟨RX4, "actAt", "(I)I"⟩
abbrev cX4_truthsAt : ByteArray := prog_6_method_14_code
def yX4_truthsAt : MethodName := ⟨RX4, "truthsAt", "(I)I"⟩
abbrev cX4_blend : ByteArray := prog_6_method_15_code
def yX4_blend : MethodName := ⟨RX4, "blend", "(II)J"⟩
abbrev cX4_bestAct : ByteArray := prog_6_method_16_code
def yX4_bestAct : MethodName := ⟨RX4, "bestAct", "(I)I"⟩
abbrev cX4_meanAct : ByteArray := prog_6_method_17_code
def yX4_meanAct : MethodName := ⟨RX4, "meanAct", "(JJ)I"⟩
abbrev cX4_medianAct : ByteArray := prog_6_method_18_code
def yX4_medianAct : MethodName := ⟨RX4, "medianAct", "(IJ)I"⟩
abbrev cX4_lossAt : ByteArray := prog_6_method_19_code
def yX4_lossAt : MethodName := ⟨RX4, "lossAt", "(III)J"⟩
abbrev cX4_spreadLoss : ByteArray := prog_6_method_20_code
def yX4_spreadLoss : MethodName := ⟨RX4, "spreadLoss", "(III)J"⟩
abbrev cX4_regretOf : ByteArray := prog_6_method_21_code
def yX4_regretOf : MethodName := ⟨RX4, "regretOf", "(II)J"⟩
abbrev cX4_dislike : ByteArray := prog_6_method_22_code
def yX4_dislike : MethodName := ⟨RX4, "dislike", "(II)J"⟩
abbrev cX4_worthFor : ByteArray := prog_6_method_23_code
def yX4_worthFor : MethodName := ⟨RX4, "worthFor", "(I)J"⟩
abbrev cX4_firstLie : ByteArray := prog_6_method_24_code
def yX4_firstLie : MethodName := ⟨RX4, "firstLie", "()I"⟩
abbrev cX4_verdict : ByteArray := prog_6_method_25_code
def yX4_verdict : MethodName := ⟨RX4, "verdict", "()I"⟩
abbrev cX4_heardLoss : ByteArray := prog_6_method_26_code
def yX4_heardLoss : MethodName := ⟨RX4, "heardLoss", "(II)J"⟩
abbrev cX4_greatestWish : ByteArray := prog_6_method_27_code
def yX4_greatestWish : MethodName := ⟨RX4, "greatestWish", "()I"⟩
abbrev cX4_nextWay : ByteArray := prog_6_method_28_code
def yX4_nextWay : MethodName := ⟨RX4, "nextWay", "()Z"⟩
abbrev cX4_countUsed : ByteArray := prog_6_method_29_code
def yX4_countUsed : MethodName := ⟨RX4, "countUsed", "()V"⟩
abbrev cX4_drawnLoss : ByteArray := prog_6_method_30_code
def yX4_drawnLoss : MethodName := ⟨RX4, "drawnLoss", "(II)J"⟩
abbrev cX4_drawBelow : ByteArray := prog_6_method_31_code
def yX4_drawBelow : MethodName := ⟨RX4, "drawBelow", "(I)I"⟩
abbrev cX4_drawnTruth : ByteArray := prog_6_method_32_code
def yX4_drawnTruth : MethodName := ⟨RX4, "drawnTruth", "(I)I"⟩
abbrev cX4_heardWord : ByteArray := prog_6_method_33_code
def yX4_heardWord : MethodName := ⟨RX4, "heardWord", "(I)I"⟩
def RX5 : String := "SaidForNothing$Search"
def TX5 : u_T := fun k => match k with
  | 0 => ("SaidForNothing$Search", "hearing", "LSaidForNothing$Reading;", true)
  | 1 => ("SaidForNothing$Search", "beside", "LSaidForNothing$Reading;", true)
  | 2 => ("SaidForNothing$Search", "bestWorth", "J", false)
  | 3 => ("SaidForNothing$Search", "middleClear", "I", false)
  | _ => ("SaidForNothing$Search", "middleCuts", "I", false)
def tyX5 : Nat → FieldType := fun k => match k with
  | 0 => .object "SaidForNothing$Reading"
  | 1 => .object "SaidForNothing$Reading"
  | 2 => .long
  | 3 => .int
  | _ => .int
theorem nmX5 : ∀ a, a < 5 → ∀ b, b < 5 → a ≠ b → (TX5 a).2.1 ≠ (TX5 b).2.1 := by decide +kernel
theorem tyX5_ok : ∀ k, k < 5 → parseFieldDescriptor (TX5 k).2.2.1 = some (tyX5 k) := by decide +kernel
abbrev cX5_init : ByteArray := prog_7_method_1_code
def yX5_init : MethodName := ⟨RX5, "<init>", "()V"⟩
abbrev cX5_stands : ByteArray := prog_7_method_2_code
def yX5_stands : MethodName := ⟨RX5, "stands", "(I)Z"⟩
abbrev cX5_countRuns : ByteArray := prog_7_method_3_code
def yX5_countRuns : MethodName := ⟨RX5, "countRuns", "(LSaidForNothing$Talk;)I"⟩
abbrev cX5_finestCuts : ByteArray := prog_7_method_4_code
def yX5_finestCuts : MethodName := ⟨RX5, "finestCuts", "(LSaidForNothing$Talk;II)I"⟩
abbrev cX5_mostWords : ByteArray := prog_7_method_5_code
def yX5_mostWords : MethodName := ⟨RX5, "mostWords", "(LSaidForNothing$Talk;II)I"⟩
abbrev cX5_bestCuts : ByteArray := prog_7_method_6_code
def yX5_bestCuts : MethodName := ⟨RX5, "bestCuts", "(LSaidForNothing$Talk;I)I"⟩
abbrev cX5_countWays : ByteArray := prog_7_method_7_code
def yX5_countWays : MethodName := ⟨RX5, "countWays", "(LSaidForNothing$Talk;)I"⟩
abbrev cX5_isRunOf : ByteArray := prog_7_method_8_code
def yX5_isRunOf : MethodName := ⟨RX5, "isRunOf", "(LSaidForNothing$Talk;II)Z"⟩
abbrev cX5_edgeOf : ByteArray := prog_7_method_9_code
def yX5_edgeOf : MethodName := ⟨RX5, "edgeOf", "(LSaidForNothing$Talk;I)I"⟩
abbrev cX5_mostWordsForBoth : ByteArray := prog_7_method_10_code
def yX5_mostWordsForBoth : MethodName := ⟨RX5, "mostWordsForBoth", "(LSaidForNothing$Talk;)I"⟩
abbrev cX5_standsForBoth : ByteArray := prog_7_method_11_code
def yX5_standsForBoth : MethodName := ⟨RX5, "standsForBoth", "(II)Z"⟩
abbrev cX5_findMiddleman : ByteArray := prog_7_method_12_code
def yX5_findMiddleman : MethodName := ⟨RX5, "findMiddleman", "(LSaidForNothing$Talk;I)V"⟩
def RX6 : String := "SaidForNothing$Shelf"
def TX6 : u_T := fun k => match k with
  | 0 => ("SaidForNothing$Shelf", "cells", "[J", true)
  | 1 => ("SaidForNothing$Shelf", "state", "I", false)
  | 2 => ("SaidForNothing$Shelf", "sort", "I", false)
  | 3 => ("SaidForNothing$Shelf", "size", "I", false)
  | _ => ("SaidForNothing$Shelf", "shown", "I", false)
def tyX6 : Nat → FieldType := fun k => match k with
  | 0 => .array .long
  | 1 => .int
  | 2 => .int
  | 3 => .int
  | _ => .int
theorem nmX6 : ∀ a, a < 5 → ∀ b, b < 5 → a ≠ b → (TX6 a).2.1 ≠ (TX6 b).2.1 := by decide +kernel
theorem tyX6_ok : ∀ k, k < 5 → parseFieldDescriptor (TX6 k).2.2.1 = some (tyX6 k) := by decide +kernel
abbrev cX6_init : ByteArray := prog_8_method_1_code
def yX6_init : MethodName := ⟨RX6, "<init>", "()V"⟩
abbrev cX6_lies : ByteArray := prog_8_method_2_code
def yX6_lies : MethodName := ⟨RX6, "lies", "()Z"⟩
abbrev cX6_shows : ByteArray := prog_8_method_3_code
def yX6_shows : MethodName := ⟨RX6, "shows", "()Z"⟩
abbrev cX6_lay : ByteArray := prog_8_method_4_code
def yX6_lay : MethodName := ⟨RX6, "lay", "(II)V"⟩
abbrev cX6_empty : ByteArray := prog_8_method_5_code
def yX6_empty : MethodName := ⟨RX6, "empty", "()V"⟩
abbrev cX6_hang : ByteArray := prog_8_method_6_code
def yX6_hang : MethodName := ⟨RX6, "hang", "(I)V"⟩
abbrev cX6_reaches : ByteArray := prog_8_method_7_code
def yX6_reaches : MethodName := ⟨RX6, "reaches", "(I)Z"⟩
abbrev cX6_spans : ByteArray := prog_8_method_8_code
def yX6_spans : MethodName := ⟨RX6, "spans", "(II)Z"⟩
abbrev cX6_cell : ByteArray := prog_8_method_9_code
def yX6_cell : MethodName := ⟨RX6, "cell", "(I)J"⟩
abbrev cX6_letter : ByteArray := prog_8_method_10_code
def yX6_letter : MethodName := ⟨RX6, "letter", "(I)I"⟩
abbrev cX6_put : ByteArray := prog_8_method_11_code
def yX6_put : MethodName := ⟨RX6, "put", "(IJ)V"⟩
abbrev cX6_cut : ByteArray := prog_8_method_12_code
def yX6_cut : MethodName := ⟨RX6, "cut", "(J)J"⟩
abbrev cX6_bring : ByteArray := prog_8_method_13_code
def yX6_bring : MethodName := ⟨RX6, "bring", "(LSaidForNothing$Shelf;III)V"⟩
def RX7 : String := "SaidForNothing$Store"
def TX7 : u_T := fun k => match k with
  | 0 => ("SaidForNothing$Store", "talks", "[LSaidForNothing$Talk;", true)
  | 1 => ("SaidForNothing$Store", "meanings", "[LSaidForNothing$Meaning;", true)
  | 2 => ("SaidForNothing$Store", "talkCount", "I", false)
  | _ => ("SaidForNothing$Store", "meaningCount", "I", false)
def tyX7 : Nat → FieldType := fun k => match k with
  | 0 => .array (.object "SaidForNothing$Talk")
  | 1 => .array (.object "SaidForNothing$Meaning")
  | 2 => .int
  | _ => .int
theorem nmX7 : ∀ a, a < 4 → ∀ b, b < 4 → a ≠ b → (TX7 a).2.1 ≠ (TX7 b).2.1 := by decide +kernel
theorem tyX7_ok : ∀ k, k < 4 → parseFieldDescriptor (TX7 k).2.2.1 = some (tyX7 k) := by decide +kernel
abbrev cX7_init : ByteArray := prog_9_method_1_code
def yX7_init : MethodName := ⟨RX7, "<init>", "()V"⟩
abbrev cX7_talkAt : ByteArray := prog_9_method_2_code
def yX7_talkAt : MethodName := ⟨RX7, "talkAt", "(I)LSaidForNothing$Talk;"⟩
abbrev cX7_meaningAt : ByteArray := prog_9_method_3_code
def yX7_meaningAt : MethodName := ⟨RX7, "meaningAt", "(I)LSaidForNothing$Meaning;"⟩
abbrev cX7_nextTalk : ByteArray := prog_9_method_4_code
def yX7_nextTalk : MethodName := ⟨RX7, "nextTalk", "()LSaidForNothing$Talk;"⟩
abbrev cX7_nextMeaning : ByteArray := prog_9_method_5_code
def yX7_nextMeaning : MethodName := ⟨RX7, "nextMeaning", "()LSaidForNothing$Meaning;"⟩
abbrev cX7_copyFrom : ByteArray := prog_9_method_6_code
def yX7_copyFrom : MethodName := ⟨RX7, "copyFrom", "(LSaidForNothing$Store;)V"⟩
def RX8 : String := "SaidForNothing$Talk"
def TX8 : u_T := fun k => match k with
  | 0 => ("SaidForNothing$Talk", "xs", "LSaidForNothing$Ints;", true)
  | 1 => ("SaidForNothing$Talk", "chances", "LSaidForNothing$Ints;", true)
  | 2 => ("SaidForNothing$Talk", "truths", "I", false)
  | 3 => ("SaidForNothing$Talk", "wish", "I", false)
  | 4 => ("SaidForNothing$Talk", "lean", "I", false)
  | 5 => ("SaidForNothing$Talk", "words", "I", false)
  | 6 => ("SaidForNothing$Talk", "loss", "I", false)
  | 7 => ("SaidForNothing$Talk", "second", "Z", false)
  | 8 => ("SaidForNothing$Talk", "secondLean", "I", false)
  | _ => ("SaidForNothing$Talk", "secondWish", "I", false)
def tyX8 : Nat → FieldType := fun k => match k with
  | 0 => .object "SaidForNothing$Ints"
  | 1 => .object "SaidForNothing$Ints"
  | 2 => .int
  | 3 => .int
  | 4 => .int
  | 5 => .int
  | 6 => .int
  | 7 => .boolean
  | 8 => .int
  | _ => .int
theorem nmX8 : ∀ a, a < 10 → ∀ b, b < 10 → a ≠ b → (TX8 a).2.1 ≠ (TX8 b).2.1 := by decide +kernel
theorem tyX8_ok : ∀ k, k < 10 → parseFieldDescriptor (TX8 k).2.2.1 = some (tyX8 k) := by decide +kernel
abbrev cX8_init : ByteArray := prog_10_method_1_code
def yX8_init : MethodName := ⟨RX8, "<init>", "()V"⟩
abbrev cX8_reset : ByteArray := prog_10_method_2_code
def yX8_reset : MethodName := ⟨RX8, "reset", "()V"⟩
abbrev cX8_copyFrom : ByteArray := prog_10_method_3_code
def yX8_copyFrom : MethodName := ⟨RX8, "copyFrom", "(LSaidForNothing$Talk;)V"⟩
abbrev cX8_add : ByteArray := prog_10_method_4_code
def yX8_add : MethodName := ⟨RX8, "add", "(II)V"⟩
abbrev cX8_hasTruth : ByteArray := prog_10_method_5_code
def yX8_hasTruth : MethodName := ⟨RX8, "hasTruth", "(I)Z"⟩
abbrev cX8_cutsEnd : ByteArray := prog_10_method_6_code
def yX8_cutsEnd : MethodName := ⟨RX8, "cutsEnd", "()I"⟩
abbrev cX8_allows : ByteArray := prog_10_method_7_code
def yX8_allows : MethodName := ⟨RX8, "allows", "(I)Z"⟩
abbrev cX8_lossOf : ByteArray := prog_10_method_8_code
def yX8_lossOf : MethodName := ⟨RX8, "lossOf", "(J)J"⟩
abbrev cX8_chanceSum : ByteArray := prog_10_method_9_code
def yX8_chanceSum : MethodName := ⟨RX8, "chanceSum", "()I"⟩
abbrev cX8_lossWithin : ByteArray := prog_10_method_10_code
def yX8_lossWithin : MethodName := ⟨RX8, "lossWithin", "(II)J"⟩
abbrev cX8_end : ByteArray := prog_10_method_11_code
def yX8_end : MethodName := ⟨RX8, "end", "(I)I"⟩
abbrev cX8_bestPair : ByteArray := prog_10_method_12_code
def yX8_bestPair : MethodName := ⟨RX8, "bestPair", "()I"⟩
abbrev cX8_firstDispute : ByteArray := prog_10_method_13_code
def yX8_firstDispute : MethodName := ⟨RX8, "firstDispute", "(I)I"⟩
abbrev cX8_canPunish : ByteArray := prog_10_method_14_code
def yX8_canPunish : MethodName := ⟨RX8, "canPunish", "(III)Z"⟩
def RX9 : String := "SaidForNothing"
def TX9 : u_T := fun k => match k with
  | 0 => ("SaidForNothing", "shelves", "[LSaidForNothing$Shelf;", true)
  | 1 => ("SaidForNothing", "now", "LSaidForNothing$Store;", true)
  | 2 => ("SaidForNothing", "kept", "LSaidForNothing$Store;", true)
  | 3 => ("SaidForNothing", "imaged", "Z", false)
  | 4 => ("SaidForNothing", "refusals", "LSaidForNothing$Ints;", true)
  | 5 => ("SaidForNothing", "faultPlace", "I", false)
  | 6 => ("SaidForNothing", "draft", "LSaidForNothing$Talk;", true)
  | 7 => ("SaidForNothing", "letters", "LSaidForNothing$Letters;", true)
  | 8 => ("SaidForNothing", "view", "LSaidForNothing$Reading;", true)
  | 9 => ("SaidForNothing", "search", "LSaidForNothing$Search;", true)
  | _ => ("SaidForNothing", "bodies", "LSaidForNothing$Bodies;", true)
def tyX9 : Nat → FieldType := fun k => match k with
  | 0 => .array (.object "SaidForNothing$Shelf")
  | 1 => .object "SaidForNothing$Store"
  | 2 => .object "SaidForNothing$Store"
  | 3 => .boolean
  | 4 => .object "SaidForNothing$Ints"
  | 5 => .int
  | 6 => .object "SaidForNothing$Talk"
  | 7 => .object "SaidForNothing$Letters"
  | 8 => .object "SaidForNothing$Reading"
  | 9 => .object "SaidForNothing$Search"
  | _ => .object "SaidForNothing$Bodies"
theorem nmX9 : ∀ a, a < 11 → ∀ b, b < 11 → a ≠ b → (TX9 a).2.1 ≠ (TX9 b).2.1 := by decide +kernel
theorem tyX9_ok : ∀ k, k < 11 → parseFieldDescriptor (TX9 k).2.2.1 = some (tyX9 k) := by decide +kernel
abbrev cX9_init : ByteArray := prog_1_method_1_code
def yX9_init : MethodName := ⟨RX9, "<init>", "()V"⟩
abbrev cX9_row : ByteArray := prog_1_method_2_code
def yX9_row : MethodName := ⟨RX9, "row", "(III)I"⟩
abbrev cX9_set : ByteArray := prog_1_method_3_code
def yX9_set : MethodName := ⟨RX9, "set", "(IIJ)I"⟩
abbrev cX9_copy : ByteArray := prog_1_method_4_code
def yX9_copy : MethodName := ⟨RX9, "copy", "(IIIII)I"⟩
abbrev cX9_element : ByteArray := prog_1_method_5_code
def yX9_element : MethodName := ⟨RX9, "element", "(II)J"⟩
abbrev cX9_show : ByteArray := prog_1_method_6_code
def yX9_show : MethodName := ⟨RX9, "show", "(II)I"⟩
abbrev cX9_holds : ByteArray := prog_1_method_7_code
def yX9_holds : MethodName := ⟨RX9, "holds", "(I)I"⟩
abbrev cX9_says : ByteArray := prog_1_method_8_code
def yX9_says : MethodName := ⟨RX9, "says", "(II)I"⟩
abbrev cX9_talk : ByteArray := prog_1_method_9_code
def yX9_talk : MethodName := ⟨RX9, "talk", "(I)I"⟩
abbrev cX9_fault : ByteArray := prog_1_method_10_code
def yX9_fault : MethodName := ⟨RX9, "fault", "()I"⟩
abbrev cX9_talkOf : ByteArray := prog_1_method_11_code
def yX9_talkOf : MethodName := ⟨RX9, "talkOf", "(II)I"⟩
abbrev cX9_truth : ByteArray := prog_1_method_12_code
def yX9_truth : MethodName := ⟨RX9, "truth", "(III)I"⟩
abbrev cX9_done : ByteArray := prog_1_method_13_code
def yX9_done : MethodName := ⟨RX9, "done", "(II)I"⟩
abbrev cX9_change : ByteArray := prog_1_method_14_code
def yX9_change : MethodName := ⟨RX9, "change", "(III)I"⟩
abbrev cX9_chance : ByteArray := prog_1_method_15_code
def yX9_chance : MethodName := ⟨RX9, "chance", "(III)I"⟩
abbrev cX9_meaning : ByteArray := prog_1_method_16_code
def yX9_meaning : MethodName := ⟨RX9, "meaning", "(IIII)I"⟩
abbrev cX9_tell : ByteArray := prog_1_method_17_code
def yX9_tell : MethodName := ⟨RX9, "tell", "(III)I"⟩
abbrev cX9_meaningOf : ByteArray := prog_1_method_18_code
def yX9_meaningOf : MethodName := ⟨RX9, "meaningOf", "(II)I"⟩
abbrev cX9_word : ByteArray := prog_1_method_19_code
def yX9_word : MethodName := ⟨RX9, "word", "(II)I"⟩
abbrev cX9_thought : ByteArray := prog_1_method_20_code
def yX9_thought : MethodName := ⟨RX9, "thought", "(II)I"⟩
abbrev cX9_does : ByteArray := prog_1_method_21_code
def yX9_does : MethodName := ⟨RX9, "does", "(II)I"⟩
abbrev cX9_judge : ByteArray := prog_1_method_22_code
def yX9_judge : MethodName := ⟨RX9, "judge", "(I)I"⟩
abbrev cX9_regret : ByteArray := prog_1_method_23_code
def yX9_regret : MethodName := ⟨RX9, "regret", "(III)J"⟩
abbrev cX9_worth : ByteArray := prog_1_method_24_code
def yX9_worth : MethodName := ⟨RX9, "worth", "(II)J"⟩
abbrev cX9_beside : ByteArray := prog_1_method_25_code
def yX9_beside : MethodName := ⟨RX9, "beside", "(II)J"⟩
abbrev cX9_runs : ByteArray := prog_1_method_26_code
def yX9_runs : MethodName := ⟨RX9, "runs", "(I)I"⟩
abbrev cX9_finest : ByteArray := prog_1_method_27_code
def yX9_finest : MethodName := ⟨RX9, "finest", "(I)I"⟩
abbrev cX9_bound : ByteArray := prog_1_method_28_code
def yX9_bound : MethodName := ⟨RX9, "bound", "(I)I"⟩
abbrev cX9_best : ByteArray := prog_1_method_29_code
def yX9_best : MethodName := ⟨RX9, "best", "(II)I"⟩
abbrev cX9_any : ByteArray := prog_1_method_30_code
def yX9_any : MethodName := ⟨RX9, "any", "(I)I"⟩
abbrev cX9_edge : ByteArray := prog_1_method_31_code
def yX9_edge : MethodName := ⟨RX9, "edge", "(II)I"⟩
abbrev cX9_room : ByteArray := prog_1_method_32_code
def yX9_room : MethodName := ⟨RX9, "room", "(I)I"⟩
abbrev cX9_doors : ByteArray := prog_1_method_33_code
def yX9_doors : MethodName := ⟨RX9, "doors", "(I)I"⟩
abbrev cX9_middle : ByteArray := prog_1_method_34_code
def yX9_middle : MethodName := ⟨RX9, "middle", "(III)I"⟩
abbrev cX9_ends : ByteArray := prog_1_method_35_code
def yX9_ends : MethodName := ⟨RX9, "ends", "(III)J"⟩
abbrev cX9_bestEnds : ByteArray := prog_1_method_36_code
def yX9_bestEnds : MethodName := ⟨RX9, "bestEnds", "(I)I"⟩
abbrev cX9_leave : ByteArray := prog_1_method_37_code
def yX9_leave : MethodName := ⟨RX9, "leave", "(I)I"⟩
abbrev cX9_agree : ByteArray := prog_1_method_38_code
def yX9_agree : MethodName := ⟨RX9, "agree", "(II)I"⟩
abbrev cX9_still : ByteArray := prog_1_method_39_code
def yX9_still : MethodName := ⟨RX9, "still", "()I"⟩
abbrev cX9_draw : ByteArray := prog_1_method_40_code
def yX9_draw : MethodName := ⟨RX9, "draw", "(III)J"⟩
abbrev cX9_act : ByteArray := prog_1_method_41_code
def yX9_act : MethodName := ⟨RX9, "act", "(III)I"⟩
abbrev cX9_trace : ByteArray := prog_1_method_42_code
def yX9_trace : MethodName := ⟨RX9, "trace", "(I)I"⟩
abbrev cX9_image : ByteArray := prog_1_method_43_code
def yX9_image : MethodName := ⟨RX9, "image", "()I"⟩
abbrev cX9_restore : ByteArray := prog_1_method_44_code
def yX9_restore : MethodName := ⟨RX9, "restore", "()I"⟩
abbrev cX9_status : ByteArray := prog_1_method_45_code
def yX9_status : MethodName := ⟨RX9, "status", "(I)I"⟩
abbrev cX9_refuse : ByteArray := prog_1_method_46_code
def yX9_refuse : MethodName := ⟨RX9, "refuse", "(I)I"⟩
abbrev cX9_refuseFar : ByteArray := prog_1_method_47_code
def yX9_refuseFar : MethodName := ⟨RX9, "refuseFar", "(I)I"⟩
abbrev cX9_refuseTen : ByteArray := prog_1_method_48_code
def yX9_refuseTen : MethodName := ⟨RX9, "refuseTen", "(I)I"⟩
abbrev cX9_shelfAt : ByteArray := prog_1_method_49_code
def yX9_shelfAt : MethodName := ⟨RX9, "shelfAt", "(I)LSaidForNothing$Shelf;"⟩
abbrev cX9_rowFlaw : ByteArray := prog_1_method_50_code
def yX9_rowFlaw : MethodName := ⟨RX9, "rowFlaw", "(I)I"⟩
abbrev cX9_wordsFlaw : ByteArray := prog_1_method_51_code
def yX9_wordsFlaw : MethodName := ⟨RX9, "wordsFlaw", "(LSaidForNothing$Talk;I)I"⟩
abbrev cX9_cutsFlaw : ByteArray := prog_1_method_52_code
def yX9_cutsFlaw : MethodName := ⟨RX9, "cutsFlaw", "(LSaidForNothing$Talk;I)I"⟩
abbrev cX9_usedBits : ByteArray := prog_1_method_53_code
def yX9_usedBits : MethodName := ⟨RX9, "usedBits", "(LSaidForNothing$Meaning;)I"⟩
abbrev cX9_holdingBits : ByteArray := prog_1_method_54_code
def yX9_holdingBits : MethodName := ⟨RX9, "holdingBits", "()I"⟩
abbrev cX9_isKind : ByteArray := prog_1_method_55_code
def yX9_isKind : MethodName := ⟨RX9, "isKind", "(I)Z"⟩
abbrev cX9_isUnder : ByteArray := prog_1_method_56_code
def yX9_isUnder : MethodName := ⟨RX9, "isUnder", "(II)Z"⟩
abbrev cX9_isSide : ByteArray := prog_1_method_57_code
def yX9_isSide : MethodName := ⟨RX9, "isSide", "(I)Z"⟩
abbrev cX9_isCount : ByteArray := prog_1_method_58_code
def yX9_isCount : MethodName := ⟨RX9, "isCount", "(I)Z"⟩
abbrev cX9_isAct : ByteArray := prog_1_method_59_code
def yX9_isAct : MethodName := ⟨RX9, "isAct", "(I)Z"⟩
abbrev cX9_isShift : ByteArray := prog_1_method_60_code
def yX9_isShift : MethodName := ⟨RX9, "isShift", "(I)Z"⟩
abbrev cX9_within : ByteArray := prog_1_method_61_code
def yX9_within : MethodName := ⟨RX9, "within", "(JII)I"⟩
def RX10 : String := "SaidForNothingModel"
def TX10 : u_T := fun k => match k with
  | 0 => ("SaidForNothingModel", "talks", "I", false)
  | 1 => ("SaidForNothingModel", "meanings", "I", false)
  | 2 => ("SaidForNothingModel", "fault", "I", false)
  | 3 => ("SaidForNothingModel", "refused", "[I", true)
  | 4 => ("SaidForNothingModel", "held", "[I", true)
  | 5 => ("SaidForNothingModel", "sort", "[I", true)
  | 6 => ("SaidForNothingModel", "size", "[I", true)
  | 7 => ("SaidForNothingModel", "shown", "[I", true)
  | 8 => ("SaidForNothingModel", "cells", "[J", true)
  | 9 => ("SaidForNothingModel", "carried", "[J", true)
  | 10 => ("SaidForNothingModel", "truths", "[I", true)
  | 11 => ("SaidForNothingModel", "wish", "[I", true)
  | 12 => ("SaidForNothingModel", "lean", "[I", true)
  | 13 => ("SaidForNothingModel", "words", "[I", true)
  | 14 => ("SaidForNothingModel", "loss", "[I", true)
  | 15 => ("SaidForNothingModel", "second", "[I", true)
  | 16 => ("SaidForNothingModel", "leans", "[I", true)
  | 17 => ("SaidForNothingModel", "wishes", "[I", true)
  | 18 => ("SaidForNothingModel", "xs", "[I", true)
  | 19 => ("SaidForNothingModel", "chance", "[I", true)
  | 20 => ("SaidForNothingModel", "mTalk", "[I", true)
  | 21 => ("SaidForNothingModel", "mKind", "[I", true)
  | 22 => ("SaidForNothingModel", "clear", "[I", true)
  | 23 => ("SaidForNothingModel", "mWord", "[I", true)
  | 24 => ("SaidForNothingModel", "told", "[I", true)
  | 25 => ("SaidForNothingModel", "from", "I", false)
  | 26 => ("SaidForNothingModel", "at", "I", false)
  | 27 => ("SaidForNothingModel", "end", "I", false)
  | 28 => ("SaidForNothingModel", "number", "I", false)
  | 29 => ("SaidForNothingModel", "digitAt", "I", false)
  | 30 => ("SaidForNothingModel", "wrongAt", "I", false)
  | 31 => ("SaidForNothingModel", "tN", "I", false)
  | 32 => ("SaidForNothingModel", "tWish", "I", false)
  | 33 => ("SaidForNothingModel", "tLean", "I", false)
  | 34 => ("SaidForNothingModel", "tWords", "I", false)
  | 35 => ("SaidForNothingModel", "tLoss", "I", false)
  | 36 => ("SaidForNothingModel", "tSecond", "I", false)
  | 37 => ("SaidForNothingModel", "tLeans", "I", false)
  | 38 => ("SaidForNothingModel", "tWishes", "I", false)
  | 39 => ("SaidForNothingModel", "tX", "[I", true)
  | 40 => ("SaidForNothingModel", "tChance", "[I", true)
  | 41 => ("SaidForNothingModel", "weight", "[J", true)
  | 42 => ("SaidForNothingModel", "act", "[I", true)
  | 43 => ("SaidForNothingModel", "used", "I", false)
  | 44 => ("SaidForNothingModel", "usedN", "I", false)
  | 45 => ("SaidForNothingModel", "block", "[I", true)
  | 46 => ("SaidForNothingModel", "heard", "[I", true)
  | 47 => ("SaidForNothingModel", "also", "[I", true)
  | 48 => ("SaidForNothingModel", "blocks", "I", false)
  | 49 => ("SaidForNothingModel", "most", "[I", true)
  | 50 => ("SaidForNothingModel", "around", "[J", true)
  | 51 => ("SaidForNothingModel", "z", "I", false)
  | 52 => ("SaidForNothingModel", "trace", "[I", true)
  | 53 => ("SaidForNothingModel", "ran", "I", false)
  | 54 => ("SaidForNothingModel", "iTalks", "I", false)
  | 55 => ("SaidForNothingModel", "iMeanings", "I", false)
  | _ => ("SaidForNothingModel", "kept", "[I", true)
def tyX10 : Nat → FieldType := fun k => match k with
  | 0 => .int
  | 1 => .int
  | 2 => .int
  | 3 => .array .int
  | 4 => .array .int
  | 5 => .array .int
  | 6 => .array .int
  | 7 => .array .int
  | 8 => .array .long
  | 9 => .array .long
  | 10 => .array .int
  | 11 => .array .int
  | 12 => .array .int
  | 13 => .array .int
  | 14 => .array .int
  | 15 => .array .int
  | 16 => .array .int
  | 17 => .array .int
  | 18 => .array .int
  | 19 => .array .int
  | 20 => .array .int
  | 21 => .array .int
  | 22 => .array .int
  | 23 => .array .int
  | 24 => .array .int
  | 25 => .int
  | 26 => .int
  | 27 => .int
  | 28 => .int
  | 29 => .int
  | 30 => .int
  | 31 => .int
  | 32 => .int
  | 33 => .int
  | 34 => .int
  | 35 => .int
  | 36 => .int
  | 37 => .int
  | 38 => .int
  | 39 => .array .int
  | 40 => .array .int
  | 41 => .array .long
  | 42 => .array .int
  | 43 => .int
  | 44 => .int
  | 45 => .array .int
  | 46 => .array .int
  | 47 => .array .int
  | 48 => .int
  | 49 => .array .int
  | 50 => .array .long
  | 51 => .int
  | 52 => .array .int
  | 53 => .int
  | 54 => .int
  | 55 => .int
  | _ => .array .int
theorem nmX10 : ∀ a, a < 57 → ∀ b, b < 57 → a ≠ b → (TX10 a).2.1 ≠ (TX10 b).2.1 := by decide +kernel
theorem tyX10_ok : ∀ k, k < 57 → parseFieldDescriptor (TX10 k).2.2.1 = some (tyX10 k) := by decide +kernel
abbrev cX10_init : ByteArray := prog_12_method_1_code
def yX10_init : MethodName := ⟨RX10, "<init>", "()V"⟩
abbrev cX10_no : ByteArray := prog_12_method_2_code
def yX10_no : MethodName := ⟨RX10, "no", "(I)I"⟩
abbrev cX10_noLow : ByteArray := prog_12_method_3_code
def yX10_noLow : MethodName := ⟨RX10, "noLow", "(I)I"⟩
abbrev cX10_noTen : ByteArray := prog_12_method_4_code
def yX10_noTen : MethodName := ⟨RX10, "noTen", "(I)I"⟩
abbrev cX10_isShelf : ByteArray := prog_12_method_5_code
def yX10_isShelf : MethodName := ⟨RX10, "isShelf", "(I)Z"⟩
abbrev cX10_isTalk : ByteArray := prog_12_method_6_code
def yX10_isTalk : MethodName := ⟨RX10, "isTalk", "(I)Z"⟩
abbrev cX10_isTruth : ByteArray := prog_12_method_7_code
def yX10_isTruth : MethodName := ⟨RX10, "isTruth", "(II)Z"⟩
abbrev cX10_isMeaning : ByteArray := prog_12_method_8_code
def yX10_isMeaning : MethodName := ⟨RX10, "isMeaning", "(I)Z"⟩
abbrev cX10_row : ByteArray := prog_12_method_9_code
def yX10_row : MethodName := ⟨RX10, "row", "(III)I"⟩
abbrev cX10_set : ByteArray := prog_12_method_10_code
def yX10_set : MethodName := ⟨RX10, "set", "(IIJ)I"⟩
abbrev cX10_copy : ByteArray := prog_12_method_11_code
def yX10_copy : MethodName := ⟨RX10, "copy", "(IIIII)I"⟩
abbrev cX10_element : ByteArray := prog_12_method_12_code
def yX10_element : MethodName := ⟨RX10, "element", "(II)J"⟩
abbrev cX10_show : ByteArray := prog_12_method_13_code
def yX10_show : MethodName := ⟨RX10, "show", "(II)I"⟩
abbrev cX10_holds : ByteArray := prog_12_method_14_code
def yX10_holds : MethodName := ⟨RX10, "holds", "(I)I"⟩
abbrev cX10_isUnder : ByteArray := prog_12_method_15_code
def yX10_isUnder : MethodName := ⟨RX10, "isUnder", "(II)Z"⟩
abbrev cX10_says : ByteArray := prog_12_method_16_code
def yX10_says : MethodName := ⟨RX10, "says", "(II)I"⟩
abbrev cX10_wants : ByteArray := prog_12_method_17_code
def yX10_wants : MethodName := ⟨RX10, "wants", "(I)I"⟩
abbrev cX10_letter : ByteArray := prog_12_method_18_code
def yX10_letter : MethodName := ⟨RX10, "letter", "()I"⟩
abbrev cX10_takes : ByteArray := prog_12_method_19_code
def yX10_takes : MethodName := ⟨RX10, "takes", "(I)Z"⟩
abbrev cX10_isDigit : ByteArray := prog_12_method_20_code
def yX10_isDigit : MethodName := ⟨RX10, "isDigit", "()Z"⟩
abbrev cX10_number : ByteArray := prog_12_method_21_code
def yX10_number : MethodName := ⟨RX10, "number", "()Z"⟩
abbrev cX10_number_ : ByteArray := prog_12_method_22_code
def yX10_number_ : MethodName := ⟨RX10, "number", "(II)Z"⟩
abbrev cX10_signed : ByteArray := prog_12_method_23_code
def yX10_signed : MethodName := ⟨RX10, "signed", "()Z"⟩
abbrev cX10_item : ByteArray := prog_12_method_24_code
def yX10_item : MethodName := ⟨RX10, "item", "()Z"⟩
abbrev cX10_wishPart : ByteArray := prog_12_method_25_code
def yX10_wishPart : MethodName := ⟨RX10, "wishPart", "()Z"⟩
abbrev cX10_wordsPart : ByteArray := prog_12_method_26_code
def yX10_wordsPart : MethodName := ⟨RX10, "wordsPart", "()Z"⟩
abbrev cX10_leanPart : ByteArray := prog_12_method_27_code
def yX10_leanPart : MethodName := ⟨RX10, "leanPart", "()Z"⟩
abbrev cX10_lossPart : ByteArray := prog_12_method_28_code
def yX10_lossPart : MethodName := ⟨RX10, "lossPart", "()Z"⟩
abbrev cX10_twoPart : ByteArray := prog_12_method_29_code
def yX10_twoPart : MethodName := ⟨RX10, "twoPart", "()Z"⟩
abbrev cX10_part : ByteArray := prog_12_method_30_code
def yX10_part : MethodName := ⟨RX10, "part", "()Z"⟩
abbrev cX10_reads : ByteArray := prog_12_method_31_code
def yX10_reads : MethodName := ⟨RX10, "reads", "()Z"⟩
abbrev cX10_talk : ByteArray := prog_12_method_32_code
def yX10_talk : MethodName := ⟨RX10, "talk", "(I)I"⟩
abbrev cX10_fault : ByteArray := prog_12_method_33_code
def yX10_fault : MethodName := ⟨RX10, "fault", "()I"⟩
abbrev cX10_talkOf : ByteArray := prog_12_method_34_code
def yX10_talkOf : MethodName := ⟨RX10, "talkOf", "(II)I"⟩
abbrev cX10_truth : ByteArray := prog_12_method_35_code
def yX10_truth : MethodName := ⟨RX10, "truth", "(III)I"⟩
abbrev cX10_loses : ByteArray := prog_12_method_36_code
def yX10_loses : MethodName := ⟨RX10, "loses", "(IJ)J"⟩
abbrev cX10_least : ByteArray := prog_12_method_37_code
def yX10_least : MethodName := ⟨RX10, "least", "(II)I"⟩
abbrev cX10_doneAt : ByteArray := prog_12_method_38_code
def yX10_doneAt : MethodName := ⟨RX10, "doneAt", "(III)I"⟩
abbrev cX10_done : ByteArray := prog_12_method_39_code
def yX10_done : MethodName := ⟨RX10, "done", "(II)I"⟩
abbrev cX10_change : ByteArray := prog_12_method_40_code
def yX10_change : MethodName := ⟨RX10, "change", "(III)I"⟩
abbrev cX10_chance : ByteArray := prog_12_method_41_code
def yX10_chance : MethodName := ⟨RX10, "chance", "(III)I"⟩
abbrev cX10_cutsOf : ByteArray := prog_12_method_42_code
def yX10_cutsOf : MethodName := ⟨RX10, "cutsOf", "(I)I"⟩
abbrev cX10_meaning : ByteArray := prog_12_method_43_code
def yX10_meaning : MethodName := ⟨RX10, "meaning", "(IIII)I"⟩
abbrev cX10_tell : ByteArray := prog_12_method_44_code
def yX10_tell : MethodName := ⟨RX10, "tell", "(III)I"⟩
abbrev cX10_usedSet : ByteArray := prog_12_method_45_code
def yX10_usedSet : MethodName := ⟨RX10, "usedSet", "(I)I"⟩
abbrev cX10_usedBy : ByteArray := prog_12_method_46_code
def yX10_usedBy : MethodName := ⟨RX10, "usedBy", "(I)I"⟩
abbrev cX10_isUsed : ByteArray := prog_12_method_47_code
def yX10_isUsed : MethodName := ⟨RX10, "isUsed", "(II)Z"⟩
abbrev cX10_meaningOf : ByteArray := prog_12_method_48_code
def yX10_meaningOf : MethodName := ⟨RX10, "meaningOf", "(II)I"⟩
abbrev cX10_word : ByteArray := prog_12_method_49_code
def yX10_word : MethodName := ⟨RX10, "word", "(II)I"⟩
abbrev cX10_thought : ByteArray := prog_12_method_50_code
def yX10_thought : MethodName := ⟨RX10, "thought", "(II)I"⟩
abbrev cX10_weighs : ByteArray := prog_12_method_51_code
def yX10_weighs : MethodName := ⟨RX10, "weighs", "(II)V"⟩
abbrev cX10_actOf : ByteArray := prog_12_method_52_code
def yX10_actOf : MethodName := ⟨RX10, "actOf", "(II)I"⟩
abbrev cX10_does : ByteArray := prog_12_method_53_code
def yX10_does : MethodName := ⟨RX10, "does", "(II)I"⟩
abbrev cX10_acts : ByteArray := prog_12_method_54_code
def yX10_acts : MethodName := ⟨RX10, "acts", "(I)V"⟩
abbrev cX10_losesBy : ByteArray := prog_12_method_55_code
def yX10_losesBy : MethodName := ⟨RX10, "losesBy", "(IIII)J"⟩
abbrev cX10_failsAt : ByteArray := prog_12_method_56_code
def yX10_failsAt : MethodName := ⟨RX10, "failsAt", "(I)I"⟩
abbrev cX10_isWorse : ByteArray := prog_12_method_57_code
def yX10_isWorse : MethodName := ⟨RX10, "isWorse", "(II)Z"⟩
abbrev cX10_judge : ByteArray := prog_12_method_58_code
def yX10_judge : MethodName := ⟨RX10, "judge", "(I)I"⟩
abbrev cX10_regret : ByteArray := prog_12_method_59_code
def yX10_regret : MethodName := ⟨RX10, "regret", "(III)J"⟩
abbrev cX10_worthOf : ByteArray := prog_12_method_60_code
def yX10_worthOf : MethodName := ⟨RX10, "worthOf", "(II)J"⟩
abbrev cX10_worth : ByteArray := prog_12_method_61_code
def yX10_worth : MethodName := ⟨RX10, "worth", "(II)J"⟩
abbrev cX10_parts : ByteArray := prog_12_method_62_code
def yX10_parts : MethodName := ⟨RX10, "parts", "(II)V"⟩
abbrev cX10_hears : ByteArray := prog_12_method_63_code
def yX10_hears : MethodName := ⟨RX10, "hears", "(I)V"⟩
abbrev cX10_says_ : ByteArray := prog_12_method_64_code
def yX10_says_ : MethodName := ⟨RX10, "says", "(IIIII)J"⟩
abbrev cX10_stands : ByteArray := prog_12_method_65_code
def yX10_stands : MethodName := ⟨RX10, "stands", "(III)Z"⟩
abbrev cX10_isRun : ByteArray := prog_12_method_66_code
def yX10_isRun : MethodName := ⟨RX10, "isRun", "(II)Z"⟩
abbrev cX10_cutsN : ByteArray := prog_12_method_67_code
def yX10_cutsN : MethodName := ⟨RX10, "cutsN", "(I)I"⟩
abbrev cX10_holds_ : ByteArray := prog_12_method_68_code
def yX10_holds_ : MethodName := ⟨RX10, "holds", "(IIII)Z"⟩
abbrev cX10_runWorth : ByteArray := prog_12_method_69_code
def yX10_runWorth : MethodName := ⟨RX10, "runWorth", "(II)J"⟩
abbrev cX10_beside : ByteArray := prog_12_method_70_code
def yX10_beside : MethodName := ⟨RX10, "beside", "(II)J"⟩
abbrev cX10_runs : ByteArray := prog_12_method_71_code
def yX10_runs : MethodName := ⟨RX10, "runs", "(I)I"⟩
abbrev cX10_finestCuts : ByteArray := prog_12_method_72_code
def yX10_finestCuts : MethodName := ⟨RX10, "finestCuts", "(II)I"⟩
abbrev cX10_finest : ByteArray := prog_12_method_73_code
def yX10_finest : MethodName := ⟨RX10, "finest", "(I)I"⟩
abbrev cX10_bound : ByteArray := prog_12_method_74_code
def yX10_bound : MethodName := ⟨RX10, "bound", "(I)I"⟩
abbrev cX10_bestCuts : ByteArray := prog_12_method_75_code
def yX10_bestCuts : MethodName := ⟨RX10, "bestCuts", "(II)I"⟩
abbrev cX10_best : ByteArray := prog_12_method_76_code
def yX10_best : MethodName := ⟨RX10, "best", "(II)I"⟩
abbrev cX10_any : ByteArray := prog_12_method_77_code
def yX10_any : MethodName := ⟨RX10, "any", "(I)I"⟩
abbrev cX10_edge : ByteArray := prog_12_method_78_code
def yX10_edge : MethodName := ⟨RX10, "edge", "(II)I"⟩
abbrev cX10_room : ByteArray := prog_12_method_79_code
def yX10_room : MethodName := ⟨RX10, "room", "(I)I"⟩
abbrev cX10_doors : ByteArray := prog_12_method_80_code
def yX10_doors : MethodName := ⟨RX10, "doors", "(I)I"⟩
abbrev cX10_blurs : ByteArray := prog_12_method_81_code
def yX10_blurs : MethodName := ⟨RX10, "blurs", "(II)V"⟩
abbrev cX10_blurred : ByteArray := prog_12_method_82_code
def yX10_blurred : MethodName := ⟨RX10, "blurred", "(IIIII)J"⟩
abbrev cX10_arounds : ByteArray := prog_12_method_83_code
def yX10_arounds : MethodName := ⟨RX10, "arounds", "(II)V"⟩
abbrev cX10_blurStands : ByteArray := prog_12_method_84_code
def yX10_blurStands : MethodName := ⟨RX10, "blurStands", "(II)Z"⟩
abbrev cX10_blurWorth : ByteArray := prog_12_method_85_code
def yX10_blurWorth : MethodName := ⟨RX10, "blurWorth", "(II)J"⟩
abbrev cX10_middle : ByteArray := prog_12_method_86_code
def yX10_middle : MethodName := ⟨RX10, "middle", "(III)I"⟩
abbrev cX10_endsLoss : ByteArray := prog_12_method_87_code
def yX10_endsLoss : MethodName := ⟨RX10, "endsLoss", "(III)J"⟩
abbrev cX10_ends : ByteArray := prog_12_method_88_code
def yX10_ends : MethodName := ⟨RX10, "ends", "(III)J"⟩
abbrev cX10_within : ByteArray := prog_12_method_89_code
def yX10_within : MethodName := ⟨RX10, "within", "(I)I"⟩
abbrev cX10_liked : ByteArray := prog_12_method_90_code
def yX10_liked : MethodName := ⟨RX10, "liked", "(II)I"⟩
abbrev cX10_bestTwo : ByteArray := prog_12_method_91_code
def yX10_bestTwo : MethodName := ⟨RX10, "bestTwo", "(I)I"⟩
abbrev cX10_bestEnds : ByteArray := prog_12_method_92_code
def yX10_bestEnds : MethodName := ⟨RX10, "bestEnds", "(I)I"⟩
abbrev cX10_leave : ByteArray := prog_12_method_93_code
def yX10_leave : MethodName := ⟨RX10, "leave", "(I)I"⟩
abbrev cX10_agrees : ByteArray := prog_12_method_94_code
def yX10_agrees : MethodName := ⟨RX10, "agrees", "(IIII)Z"⟩
abbrev cX10_agree : ByteArray := prog_12_method_95_code
def yX10_agree : MethodName := ⟨RX10, "agree", "(II)I"⟩
abbrev cX10_still : ByteArray := prog_12_method_96_code
def yX10_still : MethodName := ⟨RX10, "still", "()I"⟩
abbrev cX10_drawn : ByteArray := prog_12_method_97_code
def yX10_drawn : MethodName := ⟨RX10, "drawn", "(I)I"⟩
abbrev cX10_draw : ByteArray := prog_12_method_98_code
def yX10_draw : MethodName := ⟨RX10, "draw", "(III)J"⟩
abbrev cX10_body : ByteArray := prog_12_method_99_code
def yX10_body : MethodName := ⟨RX10, "body", "(I)V"⟩
abbrev cX10_thinks : ByteArray := prog_12_method_100_code
def yX10_thinks : MethodName := ⟨RX10, "thinks", "(II)I"⟩
abbrev cX10_spoken : ByteArray := prog_12_method_101_code
def yX10_spoken : MethodName := ⟨RX10, "spoken", "(II)I"⟩
abbrev cX10_doing : ByteArray := prog_12_method_102_code
def yX10_doing : MethodName := ⟨RX10, "doing", "(II)I"⟩
abbrev cX10_act : ByteArray := prog_12_method_103_code
def yX10_act : MethodName := ⟨RX10, "act", "(III)I"⟩
abbrev cX10_trace : ByteArray := prog_12_method_104_code
def yX10_trace : MethodName := ⟨RX10, "trace", "(I)I"⟩
abbrev cX10_keeps : ByteArray := prog_12_method_105_code
def yX10_keeps : MethodName := ⟨RX10, "keeps", "([IIIZ)I"⟩
abbrev cX10_all : ByteArray := prog_12_method_106_code
def yX10_all : MethodName := ⟨RX10, "all", "(Z)V"⟩
abbrev cX10_image : ByteArray := prog_12_method_107_code
def yX10_image : MethodName := ⟨RX10, "image", "()I"⟩
abbrev cX10_restore : ByteArray := prog_12_method_108_code
def yX10_restore : MethodName := ⟨RX10, "restore", "()I"⟩
abbrev cX10_status : ByteArray := prog_12_method_109_code
def yX10_status : MethodName := ⟨RX10, "status", "(I)I"⟩
def RJ6 : String := "java/lang/Integer"
abbrev cJ6_bitCount_0f7a4 : ByteArray := prog_13_method_49_code
def yJ6_bitCount_0f7a4 : MethodName := ⟨RJ6, "bitCount", "(I)I"⟩
def RJ9 : String := "java/lang/Math"
abbrev cJ9_floorDiv_7cf53 : ByteArray := prog_14_method_47_code
def yJ9_floorDiv_7cf53 : MethodName := ⟨RJ9, "floorDiv", "(II)I"⟩
abbrev cJ9_floorDiv_f86c9 : ByteArray := prog_14_method_49_code
def yJ9_floorDiv_f86c9 : MethodName := ⟨RJ9, "floorDiv", "(JJ)J"⟩
abbrev cJ9_abs_0f7a4 : ByteArray := prog_14_method_59_code
def yJ9_abs_0f7a4 : MethodName := ⟨RJ9, "abs", "(I)I"⟩
abbrev cJ9_max_7cf53 : ByteArray := prog_14_method_65_code
def yJ9_max_7cf53 : MethodName := ⟨RJ9, "max", "(II)I"⟩
abbrev cJ9_min_7cf53 : ByteArray := prog_14_method_69_code
def yJ9_min_7cf53 : MethodName := ⟨RJ9, "min", "(II)I"⟩
def RJ0 : String := "java/lang/String"
abbrev cJ0_length_8abf5 : ByteArray := prog_15_method_54_code
def yJ0_length_8abf5 : MethodName := ⟨RJ0, "length", "()I"⟩
abbrev cJ0_charAt_5068e : ByteArray := prog_15_method_56_code
def yJ0_charAt_5068e : MethodName := ⟨RJ0, "charAt", "(I)C"⟩
abbrev cJ0_equals_9ea2d : ByteArray := prog_15_method_66_code
def yJ0_equals_9ea2d : MethodName := ⟨RJ0, "equals", "(Ljava/lang/Object;)Z"⟩
abbrev cJ0_coder_7d493 : ByteArray := prog_15_method_152_code
def yJ0_coder_7d493 : MethodName := ⟨RJ0, "coder", "()B"⟩
abbrev cJ0_isLatin1_aae02 : ByteArray := prog_15_method_154_code
def yJ0_isLatin1_aae02 : MethodName := ⟨RJ0, "isLatin1", "()Z"⟩
abbrev cJ0_checkIndex_df160 : ByteArray := prog_15_method_155_code
def yJ0_checkIndex_df160 : MethodName := ⟨RJ0, "checkIndex", "(II)V"⟩
def RJ1 : String := "java/lang/StringLatin1"
abbrev cJ1_charAt_3b067 : ByteArray := prog_16_method_2_code
def yJ1_charAt_3b067 : MethodName := ⟨RJ1, "charAt", "([BI)C"⟩
abbrev cJ1_equals_b5fdf : ByteArray := prog_16_method_13_code
def yJ1_equals_b5fdf : MethodName := ⟨RJ1, "equals", "([B[B)Z"⟩
def RJ2 : String := "java/lang/StringUTF16"
abbrev cJ2_getChar_3b067 : ByteArray := prog_17_method_5_code
def yJ2_getChar_3b067 : MethodName := ⟨RJ2, "getChar", "([BI)C"⟩
abbrev cJ2_length_9d52b : ByteArray := prog_17_method_6_code
def yJ2_length_9d52b : MethodName := ⟨RJ2, "length", "([B)I"⟩
abbrev cJ2_charAt_3b067 : ByteArray := prog_17_method_83_code
def yJ2_charAt_3b067 : MethodName := ⟨RJ2, "charAt", "([BI)C"⟩
abbrev cJ2_checkIndex_2214a : ByteArray := prog_17_method_91_code
def yJ2_checkIndex_2214a : MethodName := ⟨RJ2, "checkIndex", "(I[B)V"⟩
def RJ10 : String := "java/lang/System"
def RJ3 : String := "jdk/internal/util/Preconditions"
abbrev cJ3_checkIndex_8e157 : ByteArray := prog_19_method_11_code
def yJ3_checkIndex_8e157 : MethodName := ⟨RJ3, "checkIndex", "(IILjava/util/function/BiFunction;)I"⟩
def RL : String := "SaidForNothingLaw"
abbrev cL_law : ByteArray := code
def yL_law : MethodName := ⟨RL, "law", "([I)Z"⟩
abbrev vwCl : List vw_C := [(RX0, TX0, 5), (RX1, TX1, 1), (RX2, TX2, 5), (RX3, TX3, 5), (RX4, TX4, 15), (RX5, TX5, 5), (RX6, TX6, 5), (RX7, TX7, 4), (RX8, TX8, 10), (RX9, TX9, 11), (RX10, TX10, 57)]
theorem in_X0 : ∀ w ∈ u_ws RX0 TX0 5, w ∈ lw_tbl := by decide +kernel
theorem in_X1 : ∀ w ∈ u_ws RX1 TX1 1, w ∈ lw_tbl := by decide +kernel
theorem in_X2 : ∀ w ∈ u_ws RX2 TX2 5, w ∈ lw_tbl := by decide +kernel
theorem in_X3 : ∀ w ∈ u_ws RX3 TX3 5, w ∈ lw_tbl := by decide +kernel
theorem in_X4 : ∀ w ∈ u_ws RX4 TX4 15, w ∈ lw_tbl := by decide +kernel
theorem in_X5 : ∀ w ∈ u_ws RX5 TX5 5, w ∈ lw_tbl := by decide +kernel
theorem in_X6 : ∀ w ∈ u_ws RX6 TX6 5, w ∈ lw_tbl := by decide +kernel
theorem in_X7 : ∀ w ∈ u_ws RX7 TX7 4, w ∈ lw_tbl := by decide +kernel
theorem in_X8 : ∀ w ∈ u_ws RX8 TX8 10, w ∈ lw_tbl := by decide +kernel
theorem in_X9 : ∀ w ∈ u_ws RX9 TX9 11, w ∈ lw_tbl := by decide +kernel
theorem in_X10 : ∀ w ∈ u_ws RX10 TX10 57, w ∈ lw_tbl := by decide +kernel
end
section
/-! A SMALL MACHINE (sm_): the class's own instructions over a list of cells, addresses counted from 0. -/
abbrev sm_E : Type := ClassFile.Instr × Nat × Nat × Nat
abbrev sm_T : Type := List (Option sm_E)
abbrev sm_L : Type := List (Nat × Value)
abbrev sm_H : Type := List va_E
abbrev sm_F : Type := Nat × sm_L × List Value
def sm_ld : sm_L → Nat → Option Value
  | [], _ => none
  | q :: r, i => if q.1 = i then some q.2 else sm_ld r i
def sm_st1 (lv : sm_L) (i : Nat) (v : Value) : sm_L := (i, v) :: lv.filter (fun q => !(q.1 == i) && !(q.1 + 1 == i && q.2.category == 2))
def sm_st2 (lv : sm_L) (i : Nat) (v : Value) : sm_L := (i, v) :: lv.filter (fun q => !(q.1 == i) && (!(q.1 == i + 1) && !(q.1 + 1 == i && q.2.category == 2)))
def sm_bi (pc : Nat) (lv : sm_L) (f : Int32 → Int32 → Int32) : List Value → Option sm_F
  | .int y :: .int x :: r => some (pc + 1, lv, .int (f x y) :: r)
  | _ => none
def sm_bl (pc : Nat) (lv : sm_L) (f : Int64 → Int64 → Int64) : List Value → Option sm_F
  | .long y :: .long x :: r => some (pc + 1, lv, .long (f x y) :: r)
  | _ => none
def sm_ui (pc : Nat) (lv : sm_L) (f : Int32 → Value) : List Value → Option sm_F
  | .int x :: r => some (pc + 1, lv, f x :: r)
  | _ => none
def sm_ul (pc : Nat) (lv : sm_L) (f : Int64 → Value) : List Value → Option sm_F
  | .long x :: r => some (pc + 1, lv, f x :: r)
  | _ => none
def sm_cmp (c : ClassFile.Cond) (x y : Int32) : Prop := match c with
  | .eq => x = y
  | .ne => ¬ x = y
  | .lt => x < y
  | .ge => y ≤ x
  | .gt => y < x
  | .le => x ≤ y
def sm_dec (c : ClassFile.Cond) (x y : Int32) : Decidable (sm_cmp c x y) := by
  cases c <;> unfold sm_cmp <;> infer_instance
def sm_if (c : ClassFile.Cond) (x y : Int32) (a b : Nat) : Nat := @ite Nat (sm_cmp c x y) (sm_dec c x y) a b
def sm_lod (pc : Nat) (lv : sm_L) (st : List Value) (i n k : Nat) : Option sm_F := match sm_ld lv i, k with
  | some (.int x), 0 => some (pc + n, lv, .int x :: st)
  | some (.long x), 1 => some (pc + n, lv, .long x :: st)
  | some (.ref x), 2 => some (pc + n, lv, .ref x :: st)
  | some .null, 2 => some (pc + n, lv, .null :: st)
  | _, _ => none
def sm_sto (pc : Nat) (lv : sm_L) (nL i n k : Nat) : List Value → Option sm_F
  | .int x :: r => if k = 0 ∧ i < nL then some (pc + n, sm_st1 lv i (.int x), r) else none
  | .long x :: r => if k = 1 ∧ i + 1 < nL then some (pc + n, sm_st2 lv i (.long x), r) else none
  | .ref x :: r => if k = 2 ∧ i < nL then some (pc + n, sm_st1 lv i (.ref x), r) else none
  | .null :: r => if k = 2 ∧ i < nL then some (pc + n, sm_st1 lv i .null, r) else none
  | _ => none
def sm_tgt (pc : Nat) (off : Int) : Option Nat := if 0 ≤ (pc : Int) + off then some ((pc : Int) + off).toNat else none
/-- steps that touch stack and locals alone -/
def sm_p (e : sm_E) (nL pc : Nat) (lv : sm_L) (st : List Value) : Option sm_F := match e.1 with
  | .iload_n k => sm_lod pc lv st k.val 1 0
  | .iload i => sm_lod pc lv st i 2 0
  | .lload_n k => sm_lod pc lv st k.val 1 1
  | .lload i => sm_lod pc lv st i 2 1
  | .aload_n k => sm_lod pc lv st k.val 1 2
  | .aload i => sm_lod pc lv st i 2 2
  | .istore_n k => sm_sto pc lv nL k.val 1 0 st
  | .istore i => sm_sto pc lv nL i 2 0 st
  | .lstore_n k => sm_sto pc lv nL k.val 1 1 st
  | .lstore i => sm_sto pc lv nL i 2 1 st
  | .astore_n k => sm_sto pc lv nL k.val 1 2 st
  | .astore i => sm_sto pc lv nL i 2 2 st
  | .iconst n => some (pc + 1, lv, .int (Int32.ofInt n) :: st)
  | .bipush n => some (pc + 2, lv, .int ((Int8.ofInt n).toInt32) :: st)
  | .sipush n => some (pc + 3, lv, .int ((Int16.ofInt n).toInt32) :: st)
  | .lconst n => some (pc + 1, lv, .long (Int64.ofNat (n : Nat)) :: st)
  | .aconst_null => some (pc + 1, lv, .null :: st)
  | .iadd => sm_bi pc lv (fun x y => x + y) st
  | .isub => sm_bi pc lv (fun x y => x - y) st
  | .imul => sm_bi pc lv (fun x y => x * y) st
  | .iand => sm_bi pc lv (fun x y => x &&& y) st
  | .ior => sm_bi pc lv (fun x y => x ||| y) st
  | .ixor => sm_bi pc lv (fun x y => x ^^^ y) st
  | .ishl => sm_bi pc lv (fun x y => x <<< (y &&& 31)) st
  | .ishr => sm_bi pc lv (fun x y => x >>> (y &&& 31)) st
  | .iushr => sm_bi pc lv (fun x y => (x.toUInt32 >>> (y.toUInt32 &&& Int32.toUInt32 31)).toInt32) st
  | .ineg => sm_ui pc lv (fun x => .int (-x)) st
  | .ladd => sm_bl pc lv (fun x y => x + y) st
  | .lsub => sm_bl pc lv (fun x y => x - y) st
  | .lmul => sm_bl pc lv (fun x y => x * y) st
  | .land => sm_bl pc lv (fun x y => x &&& y) st
  | .lor => sm_bl pc lv (fun x y => x ||| y) st
  | .lxor => sm_bl pc lv (fun x y => x ^^^ y) st
  | .lneg => sm_ul pc lv (fun x => .long (-x)) st
  | .i2l => sm_ui pc lv (fun x => .long x.toInt64) st
  | .l2i => sm_ul pc lv (fun x => .int x.toInt32) st
  | .i2b => sm_ui pc lv (fun x => .int x.toInt8.toInt32) st
  | .i2s => sm_ui pc lv (fun x => .int x.toInt16.toInt32) st
  | .idiv => match st with
    | .int y :: .int x :: r => if ¬ y = 0 then some (pc + 1, lv, .int (x / y) :: r) else none
    | _ => none
  | .irem => match st with
    | .int y :: .int x :: r => if ¬ y = 0 then some (pc + 1, lv, .int (x - x / y * y) :: r) else none
    | _ => none
  | .ldiv => match st with
    | .long y :: .long x :: r => if ¬ y = 0 then some (pc + 1, lv, .long (x / y) :: r) else none
    | _ => none
  | .lcmp => match st with
    | .long y :: .long x :: r => some (pc + 1, lv, .int (lg_cmp x y) :: r)
    | _ => none
  | .lshl => match st with
    | .int y :: .long x :: r => some (pc + 1, lv, .long (x <<< (y.toInt64 &&& 63)) :: r)
    | _ => none
  | .dup => match st with
    | v :: r => if v.category = 1 then some (pc + 1, lv, v :: v :: r) else none
    | _ => none
  | .pop => match st with
    | v :: r => if v.category = 1 then some (pc + 1, lv, r) else none
    | _ => none
  | .dup_x1 => match st with
    | v :: w :: r => if v.category = 1 ∧ w.category = 1 then some (pc + 1, lv, v :: w :: v :: r) else none
    | _ => none
  | .dup2 => match st with
    | v :: w :: r => if v.category = 1 ∧ w.category = 1 then some (pc + 1, lv, v :: w :: v :: w :: r) else none
    | _ => none
  | .iinc i n => match sm_ld lv i with
    | some (.int x) => if i < nL then some (pc + 3, sm_st1 lv i (.int (x + Int32.ofInt n)), st) else none
    | _ => none
  | .goto _ => some (e.2.1, lv, st)
  | .ifCond c _ => match st with
    | .int x :: r => some (sm_if c x 0 e.2.1 (pc + 3), lv, r)
    | _ => none
  | .if_icmp c _ => match st with
    | .int y :: .int x :: r => some (sm_if c x y e.2.1 (pc + 3), lv, r)
    | _ => none
  | .ifnull _ => match st with
    | .ref _ :: r => some (pc + 3, lv, r)
    | .null :: r => some (e.2.1, lv, r)
    | _ => none
  | .ifnonnull _ => match st with
    | .ref _ :: r => some (e.2.1, lv, r)
    | .null :: r => some (pc + 3, lv, r)
    | _ => none
  | .tableswitch dflt lo hi offs => match st with
    | .int x :: r => if x.toInt < lo ∨ hi < x.toInt then (sm_tgt pc dflt).map (fun t => (t, lv, r)) else match offs[(x.toInt - lo).toNat]? with
      | some off => (sm_tgt pc off).map (fun t => (t, lv, r))
      | none => none
    | _ => none
  | .lookupswitch dflt ps => match st with
    | .int x :: r => if (ps.toList.zip (ps.toList.drop 1)).all (fun (a, next) => a.1 < next.1) = true then (sm_tgt pc (Op.lookupswitch.offset ps.toList dflt x.toInt)).map (fun t => (t, lv, r)) else none
    | _ => none
  | _ => none
/-- kinds of fields: 0 int, 1 boolean, 2 long, 3 reference -/
def sm_fok (k : Nat) : Value → Bool
  | .int x => k == 0 || (k == 1 && (decide (x = 0) || decide (x = 1)))
  | .long _ => k == 2
  | .ref _ => k == 3
  | .null => k == 3
  | _ => false
def sm_gf (fs : List Value) (b : Nat) : Option Value := fs[b]?
/-- steps that read or write one cell: the length, the stack, the heap behind it -/
def sm_h (e : sm_E) (st : List Value) (h : sm_H) : Option (Nat × List Value × sm_H) := match e.1 with
  | .getfield _ => match st with
    | .ref a :: r => match h[a]? with
      | some (.inr (ci, fs)) => if ci = e.2.1 then match fs[e.2.2.1]? with
          | some v => some (3, v :: r, h)
          | none => none
        else none
      | _ => none
    | _ => none
  | .putfield _ => match st with
    | v :: .ref a :: r => match h[a]? with
      | some (.inr (ci, fs)) => if ci = e.2.1 ∧ e.2.2.1 < fs.length ∧ sm_fok (e.2.2.2 % 10) v = true then some (3, r, h.set a (.inr (ci, fs.set e.2.2.1 v))) else none
      | _ => none
    | _ => none
  | .arraylength => match st with
    | .ref a :: r => match h[a]? with
      | some (.inl (t, n, _)) => if t < 5 then some (1, .int (Int32.ofNat n) :: r, h) else none
      | _ => none
    | _ => none
  | .iaload => match st with
    | .int i :: .ref a :: r => match h[a]? with
      | some (.inl (t, n, .inl f)) => if t = 0 ∧ ¬ (i < 0 ∨ n ≤ i.toNatClampNeg) then some (1, .int (f i.toNatClampNeg) :: r, h) else none
      | _ => none
    | _ => none
  | .iastore => match st with
    | .int x :: .int i :: .ref a :: r => match h[a]? with
      | some (.inl (t, n, .inl f)) => if t = 0 ∧ ¬ (i < 0 ∨ n ≤ i.toNatClampNeg) then some (1, r, h.set a (.inl (t, n, .inl (upd f i.toNatClampNeg x)))) else none
      | _ => none
    | _ => none
  | .laload => match st with
    | .int i :: .ref a :: r => match h[a]? with
      | some (.inl (t, n, .inr (.inl f))) => if t = 1 ∧ ¬ (i < 0 ∨ n ≤ i.toNatClampNeg) then some (1, .long (f i.toNatClampNeg) :: r, h) else none
      | _ => none
    | _ => none
  | .lastore => match st with
    | .long x :: .int i :: .ref a :: r => match h[a]? with
      | some (.inl (t, n, .inr (.inl f))) => if t = 1 ∧ ¬ (i < 0 ∨ n ≤ i.toNatClampNeg) then some (1, r, h.set a (.inl (t, n, .inr (.inl (vp_updL f i.toNatClampNeg x))))) else none
      | _ => none
    | _ => none
  | .aaload => match st with
    | .int i :: .ref a :: r => match h[a]? with
      | some (.inl (t, n, .inr (.inr (.inr (.inr f))))) => if (t = 2 ∨ t = 3 ∨ t = 4) ∧ ¬ (i < 0 ∨ n ≤ i.toNatClampNeg) then some (1, va_rf (f i.toNatClampNeg) :: r, h) else none
      | _ => none
    | _ => none
  | _ => none
end
section
/-! the small machine's run -/
/-- a method: its name, code, locals, answer, table -/
abbrev sm_I : Type := MethodName × ByteArray × Nat × Option FieldType × sm_T
/-- a new object's fields, by kind -/
def sm_df (ci : Nat) : List Value := match vwCl[ci]? with
  | some q => (List.range q.2.2).map (fun k => match parseFieldDescriptor (q.2.1 k).2.2.1 with
    | some t => defaultValue t
    | none => .null)
  | none => []
def sm_cat (st : List Value) : Nat := (st.map fun v => v.category).sum
/-- a constant text's bytes -/
def sm_tx (i : Nat) : List Nat := match i with
  | 0 => [115, 111, 32]
  | 1 => [119, 105, 115, 104]
  | 2 => [119, 111, 114, 100, 115]
  | 3 => [108, 101, 97, 110]
  | 4 => [108, 111, 115, 115]
  | 5 => [116, 119, 111]
  | _ => []
/-- an array of references: the kind of what it holds -/
def sm_ek (t : Nat) : Nat := match t with
  | 2 => 3
  | 3 => 6
  | _ => 8
/-- steps that make cells, take constants, texts, or copy; d: how many calls may stand open -/
def sm_k (e : sm_E) (d : Nat) (st : List Value) (h : sm_H) : Option (Nat × List Value × sm_H) := match e.1 with
  | .new _ => if e.2.1 < 11 ∧ h.length < 999 then some (3, .ref h.length :: st, h ++ [.inr (e.2.1, sm_df e.2.1)]) else none
  | .newarray .int => match st with
    | .int n :: r => if ¬ n < 0 ∧ n.toNatClampNeg ≤ 10000 ∧ h.length < 999 then some (2, .ref h.length :: r, h ++ [.inl (0, n.toNatClampNeg, .inl (fun _ => 0))]) else none
    | _ => none
  | .newarray .long => match st with
    | .int n :: r => if ¬ n < 0 ∧ n.toNatClampNeg ≤ 10000 ∧ h.length < 999 then some (2, .ref h.length :: r, h ++ [.inl (1, n.toNatClampNeg, .inr (.inl (fun _ => 0)))]) else none
    | _ => none
  | .anewarray _ => match st with
    | .int n :: r => if (e.2.1 = 2 ∨ e.2.1 = 3 ∨ e.2.1 = 4) ∧ ¬ n < 0 ∧ n.toNatClampNeg ≤ 10000 ∧ h.length < 999 then some (3, .ref h.length :: r, h ++ [.inl (e.2.1, n.toNatClampNeg, .inr (.inr (.inr (.inr (fun _ => none)))))]) else none
    | _ => none
  | .aastore => match st with
    | .ref v :: .int i :: .ref a :: r => match h[a]?, h[v]? with
      | some (.inl (t, n, .inr (.inr (.inr (.inr f))))), some (.inr (ci, _)) => if (t = 2 ∨ t = 3 ∨ t = 4) ∧ ci = sm_ek t ∧ ¬ (i < 0 ∨ n ≤ i.toNatClampNeg) then some (1, r, h.set a (.inl (t, n, .inr (.inr (.inr (.inr (va_up f i.toNatClampNeg (some v)))))))) else none
      | _, _ => none
    | _ => none
  | .ldc _ => if e.2.2.2 = 0 then some (2, .int (Int32.ofNat e.2.1) :: st, h) else if e.2.2.2 = 1 ∧ e.2.1 < 6 then some (2, .ref (1000 + e.2.1) :: st, h) else none
  | .ldc_w _ => some (3, .int (Int32.ofNat e.2.1) :: st, h)
  | .ldc2_w _ => some (3, .long (Int64.ofNat e.2.1) :: st, h)
  | .invokespecial _ => match st with
    | .ref _ :: r => if e.2.1 = 999 ∧ 1 ≤ d ∧ sm_cat r ≤ 8 then some (3, r, h) else none
    | _ => none
  | .invokestatic _ => match st with
    | .int n :: .int dp :: .ref b :: .int sp :: .ref a :: r => match h[a]?, h[b]? with
      | some (.inl (ta, na, .inr (.inl f))), some (.inl (tb, nb, .inr (.inl g))) => if e.2.1 = 998 ∧ 1 ≤ d ∧ sm_cat r ≤ 8 ∧ ta = 1 ∧ tb = 1 ∧ ¬ sp < 0 ∧ ¬ dp < 0 ∧ ¬ n < 0 ∧ sp.toNatClampNeg + n.toNatClampNeg ≤ na ∧ dp.toNatClampNeg + n.toNatClampNeg ≤ nb then some (3, r, h.set b (.inl (tb, nb, .inr (.inl (va_cpy f g sp.toNatClampNeg dp.toNatClampNeg n.toNatClampNeg))))) else none
      | _, _ => none
    | _ => none
  | _ => none
/-- calls of the texts' own methods: length, charAt, equals -/
def sm_x (e : sm_E) (d : Nat) (st : List Value) : Option (List Value) := match e.1 with
  | .invokevirtual _ => if e.2.1 = 900 then match st with
      | .ref a :: r => if 6 ≤ d ∧ sm_cat r ≤ 8 ∧ 1000 ≤ a ∧ a < 1006 then some (.int (Int32.ofNat (sm_tx (a - 1000)).length) :: r) else none
      | _ => none
    else if e.2.1 = 901 then match st with
      | .int i :: .ref a :: r => if 6 ≤ d ∧ sm_cat r ≤ 8 ∧ 1000 ≤ a ∧ a < 1006 ∧ ¬ (i < 0 ∨ (sm_tx (a - 1000)).length ≤ i.toNatClampNeg) then some (.int (Int32.ofNat ((sm_tx (a - 1000)).getD i.toNatClampNeg 0)) :: r) else none
      | _ => none
    else if e.2.1 = 902 then match st with
      | .ref b :: .ref a :: r => if 6 ≤ d ∧ sm_cat r ≤ 8 ∧ 1000 ≤ a ∧ a < 1006 ∧ 1000 ≤ b ∧ b < 1006 then some (.int (if a = b then 1 else 0) :: r) else none
      | _ => none
    else none
  | _ => none
/-- a method's end -/
def sm_rt (e : sm_E) (ret : Option FieldType) (st : List Value) : Option (Option Value) := match e.1, ret, st with
  | .return_, none, [] => some none
  | .ireturn, some .int, [.int v] => some (some (.int v))
  | .ireturn, some .boolean, [.int v] => if v = 0 ∨ v = 1 then some (some (.int v)) else none
  | .lreturn, some .long, [.long v] => some (some (.long v))
  | .areturn, some (.object _), [.ref a] => some (some (.ref a))
  | .areturn, some (.object _), [.null] => some (some .null)
  | _, _, _ => none
/-- a call: who, with what, what stays on the stack -/
def sm_cl (e : sm_E) (st : List Value) (h : sm_H) : Option (Nat × List Value × List Value) := match e.1 with
  | .invokevirtual _ => match st.drop e.2.2.1 with
    | .ref b :: r => match h[b]? with
      | some (.inr (ci, _)) => if ci = e.2.2.2 ∧ sm_cat r ≤ 8 ∧ e.2.2.1 ≤ st.length then some (e.2.1, .ref b :: (st.take e.2.2.1).reverse, r) else none
      | _ => none
    | _ => none
  | .invokespecial _ => match st.drop e.2.2.1 with
    | .ref b :: r => if sm_cat r ≤ 8 ∧ e.2.2.1 ≤ st.length then some (e.2.1, .ref b :: (st.take e.2.2.1).reverse, r) else none
    | _ => none
  | .invokestatic _ => if sm_cat (st.drop e.2.2.1) ≤ 8 ∧ e.2.2.1 ≤ st.length then some (e.2.1, (st.take e.2.2.1).reverse, st.drop e.2.2.1) else none
  | _ => none
def sm_run (M : Nat → Option sm_I) : Nat → Nat → sm_I → Nat → sm_L → List Value → sm_H → Option (Option Value × sm_H)
  | 0, _, _, _, _, _, _ => none
  | n + 1, d, I, pc, lv, st, h => match I.2.2.2.2[pc]? with
    | some (some e) => match sm_p e I.2.2.1 pc lv st with
      | some g => sm_run M n d I g.1 g.2.1 g.2.2 h
      | none => match sm_h e st h with
        | some g => sm_run M n d I (pc + g.1) lv g.2.1 g.2.2
        | none => match sm_k e d st h with
          | some g => sm_run M n d I (pc + g.1) lv g.2.1 g.2.2
          | none => match sm_x e d st with
            | some g => sm_run M n d I (pc + 3) lv g h
            | none => match sm_rt e I.2.2.2.1 st with
              | some v => some (v, h)
              | none => match sm_cl e st h with
                | some g => match d with
                  | 0 => none
                  | d + 1 => match M g.1 with
                    | some J => if sm_cat g.2.1 ≤ J.2.2.1 then match sm_run M n d J 0 (lv_args 0 g.2.1) [] h with
                        | some q => sm_run M n (d + 1) I (pc + 3) lv (q.1.toList ++ g.2.2) q.2
                        | none => none
                      else none
                    | none => none
                | none => none
    | _ => none
theorem sm_run_up (M : Nat → Option sm_I) : ∀ (n d : Nat) (I : sm_I) (pc : Nat) (lv : sm_L) (st : List Value) (h : sm_H) (r : Option Value × sm_H), sm_run M n d I pc lv st h = some r → sm_run M (n + 1) d I pc lv st h = some r := by
  intro n
  induction n with
  | zero => intro d I pc lv st h r hr; cases hr
  | succ n ih =>
    intro d I pc lv st h r hr
    unfold sm_run at hr ⊢
    split at hr
    · rename_i e he
      try rw [he]
      try dsimp only
      split at hr
      · rename_i g hg
        try rw [hg]
        exact ih _ _ _ _ _ _ _ hr
      · rename_i hg
        try rw [hg]
        try dsimp only
        split at hr
        · rename_i g hg
          try rw [hg]
          exact ih _ _ _ _ _ _ _ hr
        · rename_i hg
          try rw [hg]
          try dsimp only
          split at hr
          · rename_i g hg
            try rw [hg]
            exact ih _ _ _ _ _ _ _ hr
          · rename_i hg
            try rw [hg]
            try dsimp only
            split at hr
            · rename_i g hg
              try rw [hg]
              exact ih _ _ _ _ _ _ _ hr
            · rename_i hg
              try rw [hg]
              try dsimp only
              split at hr
              · rename_i g hg
                try rw [hg]
                exact hr
              · rename_i hg
                try rw [hg]
                try dsimp only
                split at hr
                · rename_i g hg
                  try rw [hg]
                  try dsimp only
                  split at hr
                  · cases hr
                  · split at hr
                    · rename_i J hJ
                      try rw [hJ]
                      try dsimp only
                      split at hr
                      · rename_i hcat
                        try rw [if_pos hcat]
                        split at hr
                        · rename_i q hq
                          rw [ih _ _ _ _ _ _ _ hq]
                          exact ih _ _ _ _ _ _ _ hr
                        · cases hr
                      · cases hr
                    · cases hr
                · cases hr
    · cases hr
theorem sm_run_le (M : Nat → Option sm_I) {n k d : Nat} {I : sm_I} {pc : Nat} {lv : sm_L} {st : List Value} {h : sm_H} {r : Option Value × sm_H} (hk : n ≤ k) (hr : sm_run M n d I pc lv st h = some r) : sm_run M k d I pc lv st h = some r := by
  induction hk with
  | refl => exact hr
  | step _ ih => exact sm_run_up M _ _ _ _ _ _ _ _ ih
/-- how many slots the cells have -/
def sm_sz : va_E → Nat
  | .inl q => q.2.1
  | .inr o => o.2.length
def sm_sl (h : sm_H) : Nat := (h.map sm_sz).sum
theorem sm_sl_set {h : sm_H} {a : Nat} {c c' : va_E} (hc : h[a]? = some c) (he : sm_sz c' = sm_sz c) : sm_sl (h.set a c') = sm_sl h := by
  induction h generalizing a with
  | nil => cases hc
  | cons x t ih =>
    cases a with
    | zero =>
      have : x = c := by simpa using hc
      subst this
      simp [sm_sl, he]
    | succ a =>
      have := ih (a := a) (by simpa using hc)
      simp only [sm_sl, List.set_cons_succ, List.map_cons, List.sum_cons] at this ⊢
      omega
theorem sm_h_size {e : sm_E} {st : List Value} {h : sm_H} {g : Nat × List Value × sm_H} (hg : sm_h e st h = some g) : g.2.2.length = h.length ∧ sm_sl g.2.2 = sm_sl h := by
  unfold sm_h at hg
  repeat' split at hg
  all_goals first
    | (cases hg; done)
    | (cases hg; exact ⟨rfl, rfl⟩)
    | (cases hg; refine ⟨by simp, ?_⟩; refine sm_sl_set (by assumption) ?_; simp [sm_sz])
theorem sm_k_size {e : sm_E} {d : Nat} {st : List Value} {h : sm_H} {g : Nat × List Value × sm_H} (hg : sm_k e d st h = some g) : h.length ≤ g.2.2.length ∧ sm_sl h ≤ sm_sl g.2.2 := by
  unfold sm_k at hg
  repeat' split at hg
  all_goals first
    | (cases hg; done)
    | (cases hg; exact ⟨Nat.le_refl _, Nat.le_refl _⟩)
    | (cases hg; refine ⟨by simp, ?_⟩; simp [sm_sl]; done)
    | (cases hg; refine ⟨by simp, ?_⟩; refine Nat.le_of_eq (sm_sl_set (by assumption) ?_).symm; simp [sm_sz])
theorem sm_run_size (M : Nat → Option sm_I) : ∀ (n d : Nat) (I : sm_I) (pc : Nat) (lv : sm_L) (st : List Value) (h : sm_H) (r : Option Value × sm_H), sm_run M n d I pc lv st h = some r → h.length ≤ r.2.length ∧ sm_sl h ≤ sm_sl r.2 := by
  intro n
  induction n with
  | zero => intro d I pc lv st h r hr; cases hr
  | succ n ih =>
    intro d I pc lv st h r hr
    unfold sm_run at hr
    split at hr
    · split at hr
      · exact ih _ _ _ _ _ _ _ hr
      · split at hr
        · rename_i g hg
          obtain ⟨a1, a2⟩ := sm_h_size hg
          obtain ⟨b1, b2⟩ := ih _ _ _ _ _ _ _ hr
          omega
        · split at hr
          · rename_i g hg
            obtain ⟨a1, a2⟩ := sm_k_size hg
            obtain ⟨b1, b2⟩ := ih _ _ _ _ _ _ _ hr
            omega
          · split at hr
            · exact ih _ _ _ _ _ _ _ hr
            · split at hr
              · cases hr; exact ⟨Nat.le_refl _, Nat.le_refl _⟩
              · split at hr
                · split at hr
                  · cases hr
                  · split at hr
                    · split at hr
                      · split at hr
                        · rename_i q hq
                          obtain ⟨a1, a2⟩ := ih _ _ _ _ _ _ _ hq
                          obtain ⟨b1, b2⟩ := ih _ _ _ _ _ _ _ hr
                          omega
                        · cases hr
                      · cases hr
                    · cases hr
                · cases hr
    · cases hr
end
section
/-! the small machine stands for the real one: steps on stack and locals -/
def sm_cv (B : Nat → Nat) : Value → Value
  | .ref a => .ref (B a)
  | v => v
def sm_cL (B : Nat → Nat) (lv : sm_L) : List (Nat × Value) := lv.map (fun q => (q.1, sm_cv B q.2))
def sm_cS (B : Nat → Nat) (st : List Value) : List Value := st.map (sm_cv B)
theorem sm_cv_cat (B : Nat → Nat) (v : Value) : (sm_cv B v).category = v.category := by cases v <;> rfl
theorem sm_cS_cat (B : Nat → Nat) (st : List Value) : sm_cat (sm_cS B st) = sm_cat st := by
  unfold sm_cat sm_cS
  rw [List.map_map]
  congr 1
  exact List.map_congr_left fun v _ => sm_cv_cat B v
theorem sm_ld_mem {lv : sm_L} {i : Nat} {v : Value} (h : sm_ld lv i = some v) : (i, v) ∈ lv := by
  induction lv with
  | nil => cases h
  | cons q r ih =>
    unfold sm_ld at h
    split at h
    · rename_i hq
      obtain ⟨a, b⟩ := q
      cases h
      dsimp only at hq
      subst hq
      exact List.mem_cons_self
    · exact List.mem_cons_of_mem _ (ih h)
theorem sm_ld_at {B : Nat → Nat} {ls : Array Slot} {nL : Nat} {lv : sm_L} (hl : lv_has ls nL (sm_cL B lv)) {i : Nat} {v : Value} (h : sm_ld lv i = some v) : ls[i]? = some (.val (sm_cv B v)) :=
  hl.2.2 (i, sm_cv B v) (List.mem_map.mpr ⟨(i, v), sm_ld_mem h, rfl⟩)
theorem sm_st1_map (B : Nat → Nat) (lv : sm_L) (i : Nat) (v : Value) : (i, sm_cv B v) :: (sm_cL B lv).filter (fun q => !(q.1 == i) && !(q.1 + 1 == i && q.2.category == 2)) = sm_cL B (sm_st1 lv i v) := by
  unfold sm_st1 sm_cL
  rw [List.map_cons, List.filter_map]
  congr 3
  funext q
  simp [sm_cv_cat]
theorem sm_st2_map (B : Nat → Nat) (lv : sm_L) (i : Nat) (v : Value) : (i, sm_cv B v) :: (sm_cL B lv).filter (fun q => !(q.1 == i) && (!(q.1 == i + 1) && !(q.1 + 1 == i && q.2.category == 2))) = sm_cL B (sm_st2 lv i v) := by
  unfold sm_st2 sm_cL
  rw [List.map_cons, List.filter_map]
  congr 3
  funext q
  simp [sm_cv_cat]
theorem sm_lod_i {pc : Nat} {lv : sm_L} {st : List Value} {i n : Nat} {g : sm_F} (h : sm_lod pc lv st i n 0 = some g) : ∃ x, sm_ld lv i = some (.int x) ∧ g = (pc + n, lv, .int x :: st) := by
  unfold sm_lod at h; split at h <;> simp_all
theorem sm_lod_l {pc : Nat} {lv : sm_L} {st : List Value} {i n : Nat} {g : sm_F} (h : sm_lod pc lv st i n 1 = some g) : ∃ x, sm_ld lv i = some (.long x) ∧ g = (pc + n, lv, .long x :: st) := by
  unfold sm_lod at h; split at h <;> simp_all
theorem sm_lod_a {pc : Nat} {lv : sm_L} {st : List Value} {i n : Nat} {g : sm_F} (h : sm_lod pc lv st i n 2 = some g) : (∃ x, sm_ld lv i = some (.ref x) ∧ g = (pc + n, lv, .ref x :: st)) ∨ (sm_ld lv i = some .null ∧ g = (pc + n, lv, .null :: st)) := by
  unfold sm_lod at h; split at h <;> simp_all
theorem sm_sto_i {pc : Nat} {lv : sm_L} {nL i n : Nat} {st : List Value} {g : sm_F} (h : sm_sto pc lv nL i n 0 st = some g) : ∃ x r, st = .int x :: r ∧ i < nL ∧ g = (pc + n, sm_st1 lv i (.int x), r) := by
  unfold sm_sto at h; split at h <;> simp_all
theorem sm_sto_l {pc : Nat} {lv : sm_L} {nL i n : Nat} {st : List Value} {g : sm_F} (h : sm_sto pc lv nL i n 1 st = some g) : ∃ x r, st = .long x :: r ∧ i + 1 < nL ∧ g = (pc + n, sm_st2 lv i (.long x), r) := by
  unfold sm_sto at h; split at h <;> simp_all
theorem sm_sto_a {pc : Nat} {lv : sm_L} {nL i n : Nat} {st : List Value} {g : sm_F} (h : sm_sto pc lv nL i n 2 st = some g) : (∃ x r, st = .ref x :: r ∧ i < nL ∧ g = (pc + n, sm_st1 lv i (.ref x), r)) ∨ (∃ r, st = .null :: r ∧ i < nL ∧ g = (pc + n, sm_st1 lv i .null, r)) := by
  unfold sm_sto at h; split at h <;> simp_all
theorem sm_bi_inv {pc : Nat} {lv : sm_L} {f : Int32 → Int32 → Int32} {st : List Value} {g : sm_F} (h : sm_bi pc lv f st = some g) : ∃ x y r, st = .int y :: .int x :: r ∧ g = (pc + 1, lv, .int (f x y) :: r) := by
  unfold sm_bi at h
  split at h
  · cases h; exact ⟨_, _, _, rfl, rfl⟩
  · cases h
theorem sm_bl_inv {pc : Nat} {lv : sm_L} {f : Int64 → Int64 → Int64} {st : List Value} {g : sm_F} (h : sm_bl pc lv f st = some g) : ∃ x y r, st = .long y :: .long x :: r ∧ g = (pc + 1, lv, .long (f x y) :: r) := by
  unfold sm_bl at h
  split at h
  · cases h; exact ⟨_, _, _, rfl, rfl⟩
  · cases h
theorem sm_ui_inv {pc : Nat} {lv : sm_L} {f : Int32 → Value} {st : List Value} {g : sm_F} (h : sm_ui pc lv f st = some g) : ∃ x r, st = .int x :: r ∧ g = (pc + 1, lv, f x :: r) := by
  unfold sm_ui at h; split at h <;> simp_all
theorem sm_ul_inv {pc : Nat} {lv : sm_L} {f : Int64 → Value} {st : List Value} {g : sm_F} (h : sm_ul pc lv f st = some g) : ∃ x r, st = .long x :: r ∧ g = (pc + 1, lv, f x :: r) := by
  unfold sm_ul at h; split at h <;> simp_all
/-- lengths of instructions -/
def sm_len (i : ClassFile.Instr) : Nat := match i with
  | .iload _ | .lload _ | .aload _ | .istore _ | .lstore _ | .astore _ | .bipush _ | .newarray _ | .ldc _ => 2
  | .sipush _ | .iinc _ _ | .goto _ | .ifCond _ _ | .if_icmp _ _ | .ifnull _ | .ifnonnull _ | .getfield _ | .putfield _ | .new _ | .anewarray _ | .ldc_w _ | .ldc2_w _ | .invokevirtual _ | .invokespecial _ | .invokestatic _ => 3
  | _ => 1
def sm_sw (i : ClassFile.Instr) : Bool := match i with
  | .tableswitch _ _ _ _ => true
  | .lookupswitch _ _ => true
  | _ => false
def sm_jok (pc : Nat) (e : sm_E) : Bool := match e.1 with
  | .goto o => decide ((pc : Int) + o = (e.2.1 : Int))
  | .ifCond _ o => decide ((pc : Int) + o = (e.2.1 : Int))
  | .if_icmp _ o => decide ((pc : Int) + o = (e.2.1 : Int))
  | .ifnull o => decide ((pc : Int) + o = (e.2.1 : Int))
  | .ifnonnull o => decide ((pc : Int) + o = (e.2.1 : Int))
  | _ => true
def sm_dc (cc : ByteArray) (pc : Nat) (e : sm_E) : Prop := ∃ len, decode cc pc = .ok (e.1, len) ∧ (sm_sw e.1 = true ∨ len = sm_len e.1)
theorem sm_dc1 {cc : ByteArray} {pc : Nat} {e : sm_E} (h : sm_dc cc pc e) (hs : sm_sw e.1 = false) : decode cc pc = .ok (e.1, sm_len e.1) := by
  obtain ⟨len, h1, h2⟩ := h
  rcases h2 with h2 | h2
  · rw [hs] at h2; cases h2
  · rw [h2] at h1; exact h1
theorem sm_tgt_inv {pc : Nat} {off : Int} {t : Nat} (h : sm_tgt pc off = some t) : (pc : Int) + off = (t : Int) := by
  unfold sm_tgt at h
  split at h
  · cases h; omega
  · cases h
theorem sm_if_t {c : ClassFile.Cond} {x y : Int32} {a b : Nat} (h : sm_cmp c x y) : sm_if c x y a b = a := @if_pos _ (sm_dec c x y) h _ _ _
theorem sm_if_f {c : ClassFile.Cond} {x y : Int32} {a b : Nat} (h : ¬ sm_cmp c x y) : sm_if c x y a b = b := @if_neg _ (sm_dec c x y) h _ _ _
section SMP
variable {p : Program} {l : Launch} {e : Env} {R : Room} {s : State} {m : MethodId} {args : Array Value} {below : List Frame} {meth : Method} {c : Code} {H : Heap} {locs : List Loc} {cells slots : Nat} {Q : State → Prop}
variable {cc : ByteArray} {pc : Nat} {ls : Array Slot}
set_option maxHeartbeats 4000000 in
theorem sm_p_ok {B : Nat → Nat} {w : sm_E} {nL : Nat} {lv : sm_L} {st : List Value} {g : sm_F} (hx : p.tables.exec = Jvm.exec) (hb : c.code = cc) (hd : sm_dc cc pc w) (hj : sm_jok pc w = true) (hg : sm_p w nL pc lv st = some g) (hl : lv_has ls nL (sm_cL B lv))
    (k : ∀ ls' : Array Slot, lv_has ls' nL (sm_cL B g.2.1) → W p l e R s m args below meth c H locs cells slots Q (F0 m g.1 ls' (sm_cS B g.2.2))) : W p l e R s m args below meth c H locs cells slots Q (F0 m pc ls (sm_cS B st)) := by
  obtain ⟨ins, wa, wb, wc⟩ := w
  have hd1 := fun h => sm_dc1 (cc := cc) (pc := pc) (e := (ins, wa, wb, wc)) hd h
  cases ins <;> first | (cases hg; done) | skip
  case iload_n kk =>
    have hd2 := hd1 rfl
    obtain ⟨x, h1, rfl⟩ := sm_lod_i (show sm_lod _ _ _ _ _ _ = some g from hg)
    exact lv_iload_n hx hb hd2 rfl (sm_ld_at hl h1) (k ls hl)
  case iload i =>
    have hd2 := hd1 rfl
    obtain ⟨x, h1, rfl⟩ := sm_lod_i (show sm_lod _ _ _ _ _ _ = some g from hg)
    exact lv_iload hx hb hd2 (sm_ld_at hl h1) (k ls hl)
  case lload_n kk =>
    have hd2 := hd1 rfl
    obtain ⟨x, h1, rfl⟩ := sm_lod_l (show sm_lod _ _ _ _ _ _ = some g from hg)
    exact lv_lload_n hx hb hd2 rfl (sm_ld_at hl h1) (k ls hl)
  case lload i =>
    have hd2 := hd1 rfl
    obtain ⟨x, h1, rfl⟩ := sm_lod_l (show sm_lod _ _ _ _ _ _ = some g from hg)
    exact lv_lload hx hb hd2 (sm_ld_at hl h1) (k ls hl)
  case aload_n kk =>
    have hd2 := hd1 rfl
    rcases sm_lod_a (show sm_lod _ _ _ _ _ _ = some g from hg) with ⟨x, h1, rfl⟩ | ⟨h1, rfl⟩
    · exact lv_aload_n hx hb hd2 rfl (sm_ld_at hl h1) (k ls hl)
    · exact lv_aload_nN hx hb hd2 rfl (sm_ld_at hl h1) (k ls hl)
  case aload i =>
    have hd2 := hd1 rfl
    rcases sm_lod_a (show sm_lod _ _ _ _ _ _ = some g from hg) with ⟨x, h1, rfl⟩ | ⟨h1, rfl⟩
    · exact lv_aload hx hb hd2 (sm_ld_at hl h1) (k ls hl)
    · exact lv_aloadN hx hb hd2 (sm_ld_at hl h1) (k ls hl)
  case istore_n kk =>
    have hd2 := hd1 rfl
    obtain ⟨x, r, rfl, h1, rfl⟩ := sm_sto_i (show sm_sto _ _ _ _ _ _ _ = some g from hg)
    exact lv_istore_n hx hb hd2 rfl hl h1 (sm_st1_map B lv _ (.int x)) k
  case istore i =>
    have hd2 := hd1 rfl
    obtain ⟨x, r, rfl, h1, rfl⟩ := sm_sto_i (show sm_sto _ _ _ _ _ _ _ = some g from hg)
    exact lv_istore hx hb hd2 hl h1 (sm_st1_map B lv _ (.int x)) k
  case lstore_n kk =>
    have hd2 := hd1 rfl
    obtain ⟨x, r, rfl, h1, rfl⟩ := sm_sto_l (show sm_sto _ _ _ _ _ _ _ = some g from hg)
    exact lv_lstore_n hx hb hd2 rfl hl h1 (sm_st2_map B lv _ (.long x)) k
  case lstore i =>
    have hd2 := hd1 rfl
    obtain ⟨x, r, rfl, h1, rfl⟩ := sm_sto_l (show sm_sto _ _ _ _ _ _ _ = some g from hg)
    exact lv_lstore hx hb hd2 hl h1 (sm_st2_map B lv _ (.long x)) k
  case astore_n kk =>
    have hd2 := hd1 rfl
    rcases sm_sto_a (show sm_sto _ _ _ _ _ _ _ = some g from hg) with ⟨x, r, rfl, h1, rfl⟩ | ⟨r, rfl, h1, rfl⟩
    · exact lv_astore_n hx hb hd2 rfl hl h1 (sm_st1_map B lv _ (.ref x)) k
    · exact lv_astore_nN hx hb hd2 rfl hl h1 (sm_st1_map B lv _ .null) k
  case astore i =>
    have hd2 := hd1 rfl
    rcases sm_sto_a (show sm_sto _ _ _ _ _ _ _ = some g from hg) with ⟨x, r, rfl, h1, rfl⟩ | ⟨r, rfl, h1, rfl⟩
    · exact lv_astore hx hb hd2 hl h1 (sm_st1_map B lv _ (.ref x)) k
    · exact lv_astoreN hx hb hd2 hl h1 (sm_st1_map B lv _ .null) k
  case iconst n =>
    have hd2 := hd1 rfl
    cases hg
    exact lv_iconst hx hb hd2 rfl (k ls hl)
  case bipush n =>
    have hd2 := hd1 rfl
    cases hg
    exact lv_bipush hx hb hd2 rfl (k ls hl)
  case sipush n =>
    have hd2 := hd1 rfl
    cases hg
    exact lv_sipush hx hb hd2 rfl (k ls hl)
  case lconst n =>
    have hd2 := hd1 rfl
    cases hg
    exact lv_lconst hx hb hd2 rfl (k ls hl)
  case aconst_null =>
    have hd2 := hd1 rfl
    cases hg
    exact lv_null hx hb hd2 (k ls hl)
  case iadd =>
    have hd2 := hd1 rfl
    obtain ⟨x, y, r, rfl, rfl⟩ := sm_bi_inv (show sm_bi _ _ _ _ = some g from hg)
    exact lv_iadd hx hb hd2 (k ls hl)
  case isub =>
    have hd2 := hd1 rfl
    obtain ⟨x, y, r, rfl, rfl⟩ := sm_bi_inv (show sm_bi _ _ _ _ = some g from hg)
    exact lv_isub hx hb hd2 (k ls hl)
  case imul =>
    have hd2 := hd1 rfl
    obtain ⟨x, y, r, rfl, rfl⟩ := sm_bi_inv (show sm_bi _ _ _ _ = some g from hg)
    exact lv_imul hx hb hd2 (k ls hl)
  case iand =>
    have hd2 := hd1 rfl
    obtain ⟨x, y, r, rfl, rfl⟩ := sm_bi_inv (show sm_bi _ _ _ _ = some g from hg)
    exact lv_iand hx hb hd2 (k ls hl)
  case ior =>
    have hd2 := hd1 rfl
    obtain ⟨x, y, r, rfl, rfl⟩ := sm_bi_inv (show sm_bi _ _ _ _ = some g from hg)
    exact lv_ior hx hb hd2 (k ls hl)
  case ixor =>
    have hd2 := hd1 rfl
    obtain ⟨x, y, r, rfl, rfl⟩ := sm_bi_inv (show sm_bi _ _ _ _ = some g from hg)
    exact lv_ixor hx hb hd2 (k ls hl)
  case ishl =>
    have hd2 := hd1 rfl
    obtain ⟨x, y, r, rfl, rfl⟩ := sm_bi_inv (show sm_bi _ _ _ _ = some g from hg)
    exact lv_ishl hx hb hd2 (k ls hl)
  case ishr =>
    have hd2 := hd1 rfl
    obtain ⟨x, y, r, rfl, rfl⟩ := sm_bi_inv (show sm_bi _ _ _ _ = some g from hg)
    exact lv_ishr hx hb hd2 (k ls hl)
  case iushr =>
    have hd2 := hd1 rfl
    obtain ⟨x, y, r, rfl, rfl⟩ := sm_bi_inv (show sm_bi _ _ _ _ = some g from hg)
    exact lv_iushr hx hb hd2 rfl (k ls hl)
  case ladd =>
    have hd2 := hd1 rfl
    obtain ⟨x, y, r, rfl, rfl⟩ := sm_bl_inv (show sm_bl _ _ _ _ = some g from hg)
    exact lv_ladd hx hb hd2 (k ls hl)
  case lsub =>
    have hd2 := hd1 rfl
    obtain ⟨x, y, r, rfl, rfl⟩ := sm_bl_inv (show sm_bl _ _ _ _ = some g from hg)
    exact lv_lsub hx hb hd2 (k ls hl)
  case lmul =>
    have hd2 := hd1 rfl
    obtain ⟨x, y, r, rfl, rfl⟩ := sm_bl_inv (show sm_bl _ _ _ _ = some g from hg)
    exact lv_lmul hx hb hd2 (k ls hl)
  case land =>
    have hd2 := hd1 rfl
    obtain ⟨x, y, r, rfl, rfl⟩ := sm_bl_inv (show sm_bl _ _ _ _ = some g from hg)
    exact lv_land hx hb hd2 (k ls hl)
  case lor =>
    have hd2 := hd1 rfl
    obtain ⟨x, y, r, rfl, rfl⟩ := sm_bl_inv (show sm_bl _ _ _ _ = some g from hg)
    exact lv_lor hx hb hd2 (k ls hl)
  case lxor =>
    have hd2 := hd1 rfl
    obtain ⟨x, y, r, rfl, rfl⟩ := sm_bl_inv (show sm_bl _ _ _ _ = some g from hg)
    exact lv_lxor hx hb hd2 (k ls hl)
  case ineg =>
    have hd2 := hd1 rfl
    obtain ⟨x, r, rfl, rfl⟩ := sm_ui_inv (show sm_ui _ _ _ _ = some g from hg)
    exact lv_ineg hx hb hd2 (k ls hl)
  case lneg =>
    have hd2 := hd1 rfl
    obtain ⟨x, r, rfl, rfl⟩ := sm_ul_inv (show sm_ul _ _ _ _ = some g from hg)
    exact lv_lneg hx hb hd2 (k ls hl)
  case i2l =>
    have hd2 := hd1 rfl
    obtain ⟨x, r, rfl, rfl⟩ := sm_ui_inv (show sm_ui _ _ _ _ = some g from hg)
    exact lv_i2l hx hb hd2 rfl (k ls hl)
  case i2b =>
    have hd2 := hd1 rfl
    obtain ⟨x, r, rfl, rfl⟩ := sm_ui_inv (show sm_ui _ _ _ _ = some g from hg)
    exact lv_i2b hx hb hd2 rfl (k ls hl)
  case i2s =>
    have hd2 := hd1 rfl
    obtain ⟨x, r, rfl, rfl⟩ := sm_ui_inv (show sm_ui _ _ _ _ = some g from hg)
    exact lv_i2s hx hb hd2 rfl (k ls hl)
  case l2i =>
    have hd2 := hd1 rfl
    obtain ⟨x, r, rfl, rfl⟩ := sm_ul_inv (show sm_ul _ _ _ _ = some g from hg)
    exact lv_l2i hx hb hd2 rfl (k ls hl)
  case idiv =>
    have hd2 := hd1 rfl
    unfold sm_p at hg
    dsimp only at hg
    split at hg
    · split at hg
      · rename_i hne
        cases hg
        exact lv_idiv hx hb hd2 hne (k ls hl)
      · cases hg
    · cases hg
  case irem =>
    have hd2 := hd1 rfl
    unfold sm_p at hg
    dsimp only at hg
    split at hg
    · split at hg
      · rename_i hne
        cases hg
        exact lv_irem hx hb hd2 hne (k ls hl)
      · cases hg
    · cases hg
  case ldiv =>
    have hd2 := hd1 rfl
    unfold sm_p at hg
    dsimp only at hg
    split at hg
    · split at hg
      · rename_i hne
        cases hg
        exact lv_ldiv hx hb hd2 hne (k ls hl)
      · cases hg
    · cases hg
  case lcmp =>
    have hd2 := hd1 rfl
    unfold sm_p at hg
    dsimp only at hg
    split at hg
    · cases hg
      exact W.lcmp hx hb hd2 (k ls hl)
    · cases hg
  case lshl =>
    have hd2 := hd1 rfl
    unfold sm_p at hg
    dsimp only at hg
    split at hg
    · cases hg
      exact lv_lshl hx hb hd2 rfl (k ls hl)
    · cases hg
  case dup =>
    have hd2 := hd1 rfl
    unfold sm_p at hg
    dsimp only at hg
    split at hg
    · split at hg
      · rename_i hc
        cases hg
        exact lv_dup hx hb hd2 (by rw [sm_cv_cat]; exact hc) (k ls hl)
      · cases hg
    · cases hg
  case pop =>
    have hd2 := hd1 rfl
    unfold sm_p at hg
    dsimp only at hg
    split at hg
    · split at hg
      · rename_i hc
        cases hg
        exact lv_pop hx hb hd2 (by rw [sm_cv_cat]; exact hc) (k ls hl)
      · cases hg
    · cases hg
  case dup_x1 =>
    have hd2 := hd1 rfl
    unfold sm_p at hg
    dsimp only at hg
    split at hg
    · split at hg
      · rename_i hc
        cases hg
        exact lv_dup_x1 hx hb hd2 (by rw [sm_cv_cat]; exact hc.1) (by rw [sm_cv_cat]; exact hc.2) (k ls hl)
      · cases hg
    · cases hg
  case dup2 =>
    have hd2 := hd1 rfl
    unfold sm_p at hg
    dsimp only at hg
    split at hg
    · split at hg
      · rename_i hc
        cases hg
        exact lv_dup2_11 hx hb hd2 (by rw [sm_cv_cat]; exact hc.1) (by rw [sm_cv_cat]; exact hc.2) (k ls hl)
      · cases hg
    · cases hg
  case iinc i n =>
    have hd2 := hd1 rfl
    unfold sm_p at hg
    dsimp only at hg
    split at hg
    · rename_i x hx1
      split at hg
      · rename_i hn
        cases hg
        obtain ⟨j, hj⟩ := List.getElem?_of_mem (List.mem_map.mpr ⟨(i, Value.int x), sm_ld_mem hx1, rfl⟩ : (i, sm_cv B (Value.int x)) ∈ sm_cL B lv)
        exact lv_iinc hx hb hd2 hl (k := j) hj rfl hn (sm_st1_map B lv i (.int (x + Int32.ofInt n))) k
      · cases hg
    · cases hg
  case goto o =>
    have hd2 := hd1 rfl
    cases hg
    exact lv_goto hx hb hd2 (by simpa [sm_jok] using hj) (k ls hl)
  case ifCond cnd o =>
    have hd2 := hd1 rfl
    have ht : (pc : Int) + o = (wa : Int) := by simpa [sm_jok] using hj
    unfold sm_p at hg
    dsimp only at hg
    split at hg
    · rename_i x r
      cases hg
      cases cnd
      · exact lv_if_eq hx hb hd2 ht (fun h => by have hk := k ls hl; rw [sm_if_t (c := .eq) (x := x) (y := 0) h] at hk; exact hk) (fun h => by have hk := k ls hl; rw [sm_if_f (c := .eq) (x := x) (y := 0) h] at hk; exact hk)
      · exact lv_if_ne hx hb hd2 ht (fun h => by have hk := k ls hl; rw [sm_if_t (c := .ne) (x := x) (y := 0) h] at hk; exact hk) (fun h => by have hk := k ls hl; rw [sm_if_f (c := .ne) (x := x) (y := 0) (fun q => q h)] at hk; exact hk)
      · exact lv_if_lt hx hb hd2 ht (fun h => by have hk := k ls hl; rw [sm_if_t (c := .lt) (x := x) (y := 0) h] at hk; exact hk) (fun h => by have hk := k ls hl; rw [sm_if_f (c := .lt) (x := x) (y := 0) h] at hk; exact hk)
      · exact lv_if_ge hx hb hd2 ht (fun h => by have hk := k ls hl; rw [sm_if_t (c := .ge) (x := x) (y := 0) h] at hk; exact hk) (fun h => by have hk := k ls hl; rw [sm_if_f (c := .ge) (x := x) (y := 0) h] at hk; exact hk)
      · exact lv_if_gt hx hb hd2 ht (fun h => by have hk := k ls hl; rw [sm_if_t (c := .gt) (x := x) (y := 0) h] at hk; exact hk) (fun h => by have hk := k ls hl; rw [sm_if_f (c := .gt) (x := x) (y := 0) h] at hk; exact hk)
      · exact lv_if_le hx hb hd2 ht (fun h => by have hk := k ls hl; rw [sm_if_t (c := .le) (x := x) (y := 0) h] at hk; exact hk) (fun h => by have hk := k ls hl; rw [sm_if_f (c := .le) (x := x) (y := 0) h] at hk; exact hk)
    · cases hg
  case if_icmp cnd o =>
    have hd2 := hd1 rfl
    have ht : (pc : Int) + o = (wa : Int) := by simpa [sm_jok] using hj
    unfold sm_p at hg
    dsimp only at hg
    split at hg
    · rename_i y x r
      cases hg
      cases cnd
      · exact lv_icmp_eq hx hb hd2 ht (fun h => by have hk := k ls hl; rw [sm_if_t (c := .eq) (x := x) (y := y) h] at hk; exact hk) (fun h => by have hk := k ls hl; rw [sm_if_f (c := .eq) (x := x) (y := y) h] at hk; exact hk)
      · exact lv_icmp_ne hx hb hd2 ht (fun h => by have hk := k ls hl; rw [sm_if_t (c := .ne) (x := x) (y := y) h] at hk; exact hk) (fun h => by have hk := k ls hl; rw [sm_if_f (c := .ne) (x := x) (y := y) (fun q => q h)] at hk; exact hk)
      · exact lv_icmp_lt hx hb hd2 ht (fun h => by have hk := k ls hl; rw [sm_if_t (c := .lt) (x := x) (y := y) h] at hk; exact hk) (fun h => by have hk := k ls hl; rw [sm_if_f (c := .lt) (x := x) (y := y) h] at hk; exact hk)
      · exact lv_icmp_ge hx hb hd2 ht (fun h => by have hk := k ls hl; rw [sm_if_t (c := .ge) (x := x) (y := y) h] at hk; exact hk) (fun h => by have hk := k ls hl; rw [sm_if_f (c := .ge) (x := x) (y := y) h] at hk; exact hk)
      · exact lv_icmp_gt hx hb hd2 ht (fun h => by have hk := k ls hl; rw [sm_if_t (c := .gt) (x := x) (y := y) h] at hk; exact hk) (fun h => by have hk := k ls hl; rw [sm_if_f (c := .gt) (x := x) (y := y) h] at hk; exact hk)
      · exact lv_icmp_le hx hb hd2 ht (fun h => by have hk := k ls hl; rw [sm_if_t (c := .le) (x := x) (y := y) h] at hk; exact hk) (fun h => by have hk := k ls hl; rw [sm_if_f (c := .le) (x := x) (y := y) h] at hk; exact hk)
    · cases hg
  case ifnull o =>
    have hd2 := hd1 rfl
    have ht : (pc : Int) + o = (wa : Int) := by simpa [sm_jok] using hj
    unfold sm_p at hg
    dsimp only at hg
    split at hg
    · cases hg
      exact lv_ifnull hx hb hd2 (k ls hl)
    · cases hg
      exact lv_ifnullN hx hb hd2 ht (k ls hl)
    · cases hg
  case ifnonnull o =>
    have hd2 := hd1 rfl
    have ht : (pc : Int) + o = (wa : Int) := by simpa [sm_jok] using hj
    unfold sm_p at hg
    dsimp only at hg
    split at hg
    · cases hg
      exact lv_ifnonnull hx hb hd2 ht (k ls hl)
    · cases hg
      exact lv_ifnonnullN hx hb hd2 (k ls hl)
    · cases hg
  case tableswitch dflt lo hi offs =>
    obtain ⟨len, hd2, -⟩ := hd
    unfold sm_p at hg
    dsimp only at hg
    split at hg
    · split at hg
      · rename_i hh
        obtain ⟨t, ht, rfl⟩ := Option.map_eq_some_iff.mp hg
        exact lv_tableOut hx hb hd2 hh (sm_tgt_inv ht) (k ls hl)
      · rename_i hh
        split at hg
        · rename_i off ho
          obtain ⟨t, ht, rfl⟩ := Option.map_eq_some_iff.mp hg
          exact lv_tableIn hx hb hd2 (fun q => hh (Or.inl q)) (fun q => hh (Or.inr q)) ho (sm_tgt_inv ht) (k ls hl)
        · cases hg
    · cases hg
  case lookupswitch dflt ps =>
    obtain ⟨len, hd2, -⟩ := hd
    unfold sm_p at hg
    dsimp only at hg
    split at hg
    · split at hg
      · rename_i hh
        obtain ⟨t, ht, rfl⟩ := Option.map_eq_some_iff.mp hg
        exact lv_lookup hx hb hd2 hh rfl (sm_tgt_inv ht) (k ls hl)
      · cases hg
    · cases hg
end SMP
end
section
/-! the small machine's heap and the real one -/
def sm_ce (B : Nat → Nat) (dA : Nat → ClassId) : va_E → va_E
  | .inr o => .inr (o.1, o.2.map (sm_cv B))
  | .inl (t, n, .inr (.inr (.inr (.inr f)))) => .inl (dA t, n, .inr (.inr (.inr (.inr (fun i => (f i).map B)))))
  | .inl (t, x) => .inl (dA t, x)
def sm_ws (B : Nat → Nat) (dA : Nat → ClassId) : Nat → sm_H → va_W
  | _, [] => []
  | k, c :: r => (B k, sm_ce B dA c) :: sm_ws B dA (k + 1) r
theorem sm_ws_get (B : Nat → Nat) (dA : Nat → ClassId) : ∀ (h : sm_H) (k i : Nat), (sm_ws B dA k h)[i]? = (h[i]?).map (fun c => (B (k + i), sm_ce B dA c)) := by
  intro h
  induction h with
  | nil => intro k i; simp [sm_ws]
  | cons c r ih =>
    intro k i
    cases i with
    | zero => simp [sm_ws]
    | succ i =>
      simp only [sm_ws, List.getElem?_cons_succ]
      rw [ih (k + 1) i, show k + 1 + i = k + (i + 1) by omega]
theorem sm_ws_at {B : Nat → Nat} {dA : Nat → ClassId} {h : sm_H} {i : Nat} {c : va_E} (hc : h[i]? = some c) : (sm_ws B dA 0 h)[i]? = some (B i, sm_ce B dA c) := by
  rw [sm_ws_get, hc, Nat.zero_add]; rfl
theorem sm_ws_len (B : Nat → Nat) (dA : Nat → ClassId) : ∀ (h : sm_H) (k : Nat), (sm_ws B dA k h).length = h.length := by
  intro h
  induction h with
  | nil => intro k; rfl
  | cons c r ih => intro k; simp [sm_ws, ih]
theorem sm_ws_set (B : Nat → Nat) (dA : Nat → ClassId) (c : va_E) : ∀ (h : sm_H) (k i : Nat), sm_ws B dA k (h.set i c) = (sm_ws B dA k h).set i (B (k + i), sm_ce B dA c) := by
  intro h
  induction h with
  | nil => intro k i; rfl
  | cons x r ih =>
    intro k i
    cases i with
    | zero => simp [sm_ws]
    | succ i =>
      simp only [sm_ws, List.set_cons_succ]
      rw [ih (k + 1) i, show k + 1 + i = k + (i + 1) by omega]
theorem sm_ws_app (B : Nat → Nat) (dA : Nat → ClassId) (c : va_E) : ∀ (h : sm_H) (k : Nat), sm_ws B dA k (h ++ [c]) = sm_ws B dA k h ++ [(B (k + h.length), sm_ce B dA c)] := by
  intro h
  induction h with
  | nil => intro k; simp [sm_ws]
  | cons x r ih =>
    intro k
    simp only [sm_ws, List.cons_append]
    rw [ih (k + 1), List.length_cons, show k + 1 + r.length = k + (r.length + 1) by omega]
/-- the types of arrays -/
def sm_TY (dA : Nat → ClassId) : List (ClassId × FieldType) := [(dA 0, .int), (dA 1, .long), (dA 2, .object RX3), (dA 3, .object RX6), (dA 4, .object RX8)]
/-- kinds of fields -/
def sm_fk : FieldType → Nat
  | .int => 0
  | .boolean => 1
  | .long => 2
  | .object _ => 3
  | .array _ => 3
  | _ => 9
theorem sm_fok_narrow {ty : FieldType} {B : Nat → Nat} {v : Value} (h : sm_fok (sm_fk ty) v = true) : narrow ty (sm_cv B v) = sm_cv B v ∧ fits ty (sm_cv B v) = true := by
  cases ty <;> cases v <;> simp [sm_fok, sm_fk, sm_cv] at h ⊢ <;> first
    | (constructor <;> rfl)
    | (rcases h with h | h <;> subst h <;> constructor <;> decide)
/-- what the tables must say of an instruction -/
def sm_lk (own : String) (init : Bool) (w : sm_E) : Prop := match w.1 with
  | .getfield idx => ∃ q, vwCl[w.2.1]? = some q ∧ w.2.2.1 < q.2.2 ∧ Cond.fieldLink own idx (q.2.1 w.2.2.1).1 (q.2.1 w.2.2.1).2.1 (q.2.1 w.2.2.1).2.2.1 ∈ lw_tbl
  | .putfield idx => ∃ q ty, vwCl[w.2.1]? = some q ∧ w.2.2.1 < q.2.2 ∧ Cond.fieldLink own idx (q.2.1 w.2.2.1).1 (q.2.1 w.2.2.1).2.1 (q.2.1 w.2.2.1).2.2.1 ∈ lw_tbl ∧ parseFieldDescriptor (q.2.1 w.2.2.1).2.2.1 = some ty ∧ w.2.2.2 % 10 = sm_fk ty ∧ ((q.2.1 w.2.2.1).2.2.2 = false ∨ ((q.2.1 w.2.2.1).2.2.2 = true ∧ init = true ∧ (q.2.1 w.2.2.1).1 = own))
  | .new idx => ∃ q, vwCl[w.2.1]? = some q ∧ Cond.classLink own idx q.1 ∈ lw_tbl ∧ Cond.instantiable q.1 q.2.2 ∈ lw_tbl ∧ Cond.initialized q.1 ∈ lw_tbl
  | .newarray .int => Cond.arrayClass .int ∈ lw_tbl
  | .newarray .long => Cond.arrayClass .long ∈ lw_tbl
  | .anewarray idx => ∃ q, vwCl[sm_ek w.2.1]? = some q ∧ Cond.classLink own idx q.1 ∈ lw_tbl ∧ Cond.arrayOver (.object q.1) ∈ lw_tbl
  | .ldc idx => (w.2.2.2 = 0 ∧ Cond.constant own idx (Int32.ofNat w.2.1) ∈ lw_tbl) ∨ (w.2.2.2 = 1 ∧ own = RX2 ∧ [42, 106, 108, 110, 112, 114][w.2.1]? = some idx)
  | .ldc_w idx => Cond.constant own idx (Int32.ofNat w.2.1) ∈ lw_tbl
  | .ldc2_w idx => Cond.constantLong own idx (Int64.ofNat w.2.1) ∈ lw_tbl
  | _ => True
/-- the tables' words that hold in every later state too -/
def sm_G : List Cond := lw_tbl.filter goodWord
theorem sm_Gin {w : Cond} (h : w ∈ lw_tbl) (g : goodWord w = true) : w ∈ sm_G := List.mem_filter.mpr ⟨h, g⟩
theorem sm_Glay (C : String) (T : u_T) (N : Nat) (h : ∀ w ∈ u_ws C T N, w ∈ lw_tbl) : ∀ w ∈ u_ws C T N, w ∈ sm_G := by
  intro w hw
  refine sm_Gin (h w hw) ?_
  obtain ⟨k, -, rfl⟩ := List.mem_map.mp hw
  unfold u_lay
  split <;> rfl
theorem sm_cl_in : ∀ (k : Nat) (q : vw_C), vwCl[k]? = some q → (∀ w ∈ u_ws q.1 q.2.1 q.2.2, w ∈ sm_G) ∧ (∀ a, a < q.2.2 → ∀ b, b < q.2.2 → a ≠ b → (q.2.1 a).2.1 ≠ (q.2.1 b).2.1) ∧ ∃ ty : Nat → FieldType, (∀ k, k < q.2.2 → parseFieldDescriptor (q.2.1 k).2.2.1 = some (ty k)) := by
  intro k q h
  match k, h with
  | 0, h => cases h; exact ⟨sm_Glay _ _ _ in_X0, nmX0, tyX0, tyX0_ok⟩
  | 1, h => cases h; exact ⟨sm_Glay _ _ _ in_X1, nmX1, tyX1, tyX1_ok⟩
  | 2, h => cases h; exact ⟨sm_Glay _ _ _ in_X2, nmX2, tyX2, tyX2_ok⟩
  | 3, h => cases h; exact ⟨sm_Glay _ _ _ in_X3, nmX3, tyX3, tyX3_ok⟩
  | 4, h => cases h; exact ⟨sm_Glay _ _ _ in_X4, nmX4, tyX4, tyX4_ok⟩
  | 5, h => cases h; exact ⟨sm_Glay _ _ _ in_X5, nmX5, tyX5, tyX5_ok⟩
  | 6, h => cases h; exact ⟨sm_Glay _ _ _ in_X6, nmX6, tyX6, tyX6_ok⟩
  | 7, h => cases h; exact ⟨sm_Glay _ _ _ in_X7, nmX7, tyX7, tyX7_ok⟩
  | 8, h => cases h; exact ⟨sm_Glay _ _ _ in_X8, nmX8, tyX8, tyX8_ok⟩
  | 9, h => cases h; exact ⟨sm_Glay _ _ _ in_X9, nmX9, tyX9, tyX9_ok⟩
  | 10, h => cases h; exact ⟨sm_Glay _ _ _ in_X10, nmX10, tyX10, tyX10_ok⟩
  | k + 11, h => simp [vwCl] at h
theorem sm_ce_arr (B : Nat → Nat) (dA : Nat → ClassId) (t n : Nat) (x : (Nat → Int32) ⊕ (Nat → Int64) ⊕ (Nat → UInt32) ⊕ (Nat → UInt64) ⊕ (Nat → Option Nat)) : ∃ y : (Nat → Int32) ⊕ (Nat → Int64) ⊕ (Nat → UInt32) ⊕ (Nat → UInt64) ⊕ (Nat → Option Nat), sm_ce B dA (.inl (t, n, x)) = .inl (dA t, n, y) := by
  rcases x with f | f | f | f | f <;> exact ⟨_, rfl⟩
section SMH
variable {p : Program} {l : Launch} {e : Env} {R : Room} {s : State} {m : MethodId} {args : Array Value} {below : List Frame} {meth : Method} {c : Code} {H : Heap} {locs : List Loc} {cells slots : Nat} {Q : State → Prop}
variable {cc : ByteArray} {pc : Nat} {ls : Array Slot} {dC : Nat → ClassId} {dI : Nat → Nat → Nat} {dA : Nat → ClassId} {A : Nat → Prop} {B : Nat → Nat}
set_option maxHeartbeats 4000000 in
theorem sm_h_ok {own : String} {init : Bool} {w : sm_E} {st : List Value} {h : sm_H} {g : Nat × List Value × sm_H} (hx : p.tables.exec = Jvm.exec) (hb : c.code = cc) (hts : ∀ w ∈ sm_G, w.before args s = true) (hown : s.vm.findClass own = some m.cls) (hinit : init = true → meth.name = "<init>")
    (hK : va_K (dC, dI) vwCl (sm_TY dA) s) (hP : va_P (dC, dI) vwCl (sm_ws B dA 0 h) H) (hD : va_D A (sm_ws B dA 0 h)) (hS : va_S A s.heap H locs) (hd : sm_dc cc pc w) (hlk : sm_lk own init w) (hg : sm_h w st h = some g)
    (k : ∀ (H1 : Heap) (locs1 : List Loc), va_P (dC, dI) vwCl (sm_ws B dA 0 g.2.2) H1 → va_D A (sm_ws B dA 0 g.2.2) → va_S A s.heap H1 locs1 → W p l e R s m args below meth c H1 locs1 cells slots Q (F0 m (pc + g.1) ls (sm_cS B g.2.1))) : W p l e R s m args below meth c H locs cells slots Q (F0 m pc ls (sm_cS B st)) := by
  obtain ⟨ins, wa, wb, wc⟩ := w
  have hd1 := fun h => sm_dc1 (cc := cc) (pc := pc) (e := (ins, wa, wb, wc)) hd h
  cases ins <;> first | (cases hg; done) | skip
  case getfield idx =>
    have hd2 := hd1 rfl
    obtain ⟨q, hq, hlt, hw⟩ := hlk
    obtain ⟨hin, -, -⟩ := sm_cl_in _ _ hq
    unfold sm_h at hg
    dsimp only at hg
    split at hg
    · rename_i a r
      split at hg
      · rename_i ci fs hc
        split at hg
        · rename_i hci
          subst hci
          split at hg
          · rename_i v hv
            cases hg
            refine va_get (D := (dC, dI)) (ci := ci) (v := sm_cv B v) (C := q.1) (T := q.2.1) (N := q.2.2) hx hb hts hin hown hK hP a (fs := fs.map (sm_cv B)) (sm_ws_at hc) hq wb hlt (hts _ (sm_Gin hw rfl)) (fun _ h => h) (by rw [List.getElem?_map, hv]; rfl) hd2 ?_
            exact k H locs hP hD hS
          · cases hg
        · cases hg
      · cases hg
    · cases hg
  case putfield idx =>
    have hd2 := hd1 rfl
    obtain ⟨q, ty, hq, hlt, hw, hty, hk2, hfin⟩ := hlk
    obtain ⟨hin, hnm, tys, htys⟩ := sm_cl_in _ _ hq
    unfold sm_h at hg
    dsimp only at hg
    split at hg
    · rename_i v a r
      split at hg
      · rename_i ci fs hc
        split at hg
        · rename_i hci
          obtain ⟨hci, hlen, hfo⟩ := hci
          subst hci
          cases hg
          dsimp only at hk2
          rw [hk2] at hfo
          obtain ⟨hn, hf⟩ := sm_fok_narrow (B := B) hfo
          have hk : ∀ (H1 : Heap) (locs1 : List Loc), va_P (dC, dI) vwCl ((sm_ws B dA 0 h).set a (B a, .inr (ci, (fs.map (sm_cv B)).set wb (sm_cv B v)))) H1 → va_D A ((sm_ws B dA 0 h).set a (B a, .inr (ci, (fs.map (sm_cv B)).set wb (sm_cv B v)))) → va_S A s.heap H1 locs1 → W p l e R s m args below meth c H1 locs1 cells slots Q (F0 m (pc + 3) ls (sm_cS B r)) := by
            intro H1 locs1 a1 a2 a3
            have he : (sm_ws B dA 0 (h.set a (.inr (ci, fs.set wb v)))) = (sm_ws B dA 0 h).set a (B a, .inr (ci, (fs.map (sm_cv B)).set wb (sm_cv B v))) := by
              rw [sm_ws_set, Nat.zero_add]
              simp only [sm_ce, List.map_set]
            exact k H1 locs1 (by rw [he]; exact a1) (by rw [he]; exact a2) a3
          rcases hfin with hfin | ⟨hfin, hi, ho⟩
          · exact va_put (D := (dC, dI)) (ci := ci) (v := sm_cv B v) (ty := ty) (C := q.1) (T := q.2.1) (N := q.2.2) hx hb hts hin tys htys hnm hown hK hP hD hS a (fs := fs.map (sm_cv B)) (sm_ws_at hc) hq wb hlt (hts _ (sm_Gin hw rfl)) (fun _ h => h) hfin hty hn hf (by rw [List.length_map]; exact hlen) hd2 hk
          · exact va_putF (D := (dC, dI)) (ci := ci) (v := sm_cv B v) (ty := ty) (C := q.1) (T := q.2.1) (N := q.2.2) hx hb hts hin tys htys hnm hown hK hP hD hS a (fs := fs.map (sm_cv B)) (sm_ws_at hc) hq wb hlt (hts _ (sm_Gin hw rfl)) (fun _ h => h) hfin (hinit hi) ho hty hn hf (by rw [List.length_map]; exact hlen) hd2 hk
        · cases hg
      · cases hg
    · cases hg
  case arraylength =>
    have hd2 := hd1 rfl
    unfold sm_h at hg
    dsimp only at hg
    split at hg
    · rename_i a r
      split at hg
      · rename_i t n x hc
        split at hg
        · rename_i ht
          cases hg
          obtain ⟨y, hy⟩ := sm_ce_arr B dA t n x
          have hw := sm_ws_at (B := B) (dA := dA) hc
          rw [hy] at hw
          have hk := k H locs hP hD hS
          match t, ht with
          | 0, _ => exact va_alen hx hb hK hP a 0 hw rfl rfl hd2 hk
          | 1, _ => exact va_alen hx hb hK hP a 1 hw rfl rfl hd2 hk
          | 2, _ => exact va_alen hx hb hK hP a 2 hw rfl rfl hd2 hk
          | 3, _ => exact va_alen hx hb hK hP a 3 hw rfl rfl hd2 hk
          | 4, _ => exact va_alen hx hb hK hP a 4 hw rfl rfl hd2 hk
          | t + 5, ht => exact absurd ht (Nat.not_lt.mpr (Nat.le_add_left 5 t))
        · cases hg
      · cases hg
    · cases hg
  case iaload =>
    have hd2 := hd1 rfl
    unfold sm_h at hg
    dsimp only at hg
    split at hg
    · rename_i i a r
      split at hg
      · rename_i t n f hc
        split at hg
        · rename_i hh
          obtain ⟨ht, hin⟩ := hh
          subst ht
          cases hg
          exact va_iald hx hb hK hP a 0 (sm_ws_at hc) rfl hin hd2 (k H locs hP hD hS)
        · cases hg
      · cases hg
    · cases hg
  case laload =>
    have hd2 := hd1 rfl
    unfold sm_h at hg
    dsimp only at hg
    split at hg
    · rename_i i a r
      split at hg
      · rename_i t n f hc
        split at hg
        · rename_i hh
          obtain ⟨ht, hin⟩ := hh
          subst ht
          cases hg
          exact va_lald hx hb hK hP a 1 (sm_ws_at hc) rfl hin hd2 (k H locs hP hD hS)
        · cases hg
      · cases hg
    · cases hg
  case iastore =>
    have hd2 := hd1 rfl
    unfold sm_h at hg
    dsimp only at hg
    split at hg
    · rename_i x i a r
      split at hg
      · rename_i t n f hc
        split at hg
        · rename_i hh
          obtain ⟨ht, hin⟩ := hh
          subst ht
          cases hg
          refine va_iast hx hb hK hP hD hS a 0 (sm_ws_at hc) rfl hin hd2 (fun H1 locs1 a1 a2 a3 => ?_)
          have he := sm_ws_set B dA (.inl (0, n, .inl (upd f i.toNatClampNeg x))) h 0 a
          rw [Nat.zero_add] at he
          exact k H1 locs1 (by rw [he]; exact a1) (by rw [he]; exact a2) a3
        · cases hg
      · cases hg
    · cases hg
  case lastore =>
    have hd2 := hd1 rfl
    unfold sm_h at hg
    dsimp only at hg
    split at hg
    · rename_i x i a r
      split at hg
      · rename_i t n f hc
        split at hg
        · rename_i hh
          obtain ⟨ht, hin⟩ := hh
          subst ht
          cases hg
          refine va_last hx hb hK hP hD hS a 1 (sm_ws_at hc) rfl hin hd2 (fun H1 locs1 a1 a2 a3 => ?_)
          have he := sm_ws_set B dA (.inl (1, n, .inr (.inl (vp_updL f i.toNatClampNeg x)))) h 0 a
          rw [Nat.zero_add] at he
          exact k H1 locs1 (by rw [he]; exact a1) (by rw [he]; exact a2) a3
        · cases hg
      · cases hg
    · cases hg
  case aaload =>
    have hd2 := hd1 rfl
    unfold sm_h at hg
    dsimp only at hg
    split at hg
    · rename_i i a r
      split at hg
      · rename_i t n f hc
        split at hg
        · rename_i hh
          obtain ⟨ht, hin⟩ := hh
          cases hg
          have hv : sm_cv B (va_rf (f i.toNatClampNeg)) = va_rf ((f i.toNatClampNeg).map B) := by cases f i.toNatClampNeg <;> rfl
          have hk := k H locs hP hD hS
          unfold sm_cS at hk
          rw [List.map_cons, hv] at hk
          rcases ht with ht | ht | ht
          · subst ht; exact va_aldq (C := RX3) hx hb hK hP a 2 (sm_ws_at hc) rfl hin hd2 hk
          · subst ht; exact va_aldq (C := RX6) hx hb hK hP a 3 (sm_ws_at hc) rfl hin hd2 hk
          · subst ht; exact va_aldq (C := RX8) hx hb hK hP a 4 (sm_ws_at hc) rfl hin hd2 hk
        · cases hg
      · cases hg
    · cases hg
end SMH
end
section
/-! cells that are made, constants, copies -/
section SMK
variable {p : Program} {l : Launch} {e : Env} {R : Room} {s : State} {m : MethodId} {args : Array Value} {below : List Frame} {meth : Method} {c : Code} {H : Heap} {locs : List Loc} {cells slots : Nat} {Q : State → Prop}
variable {cc : ByteArray} {pc : Nat} {ls : Array Slot} {dC : Nat → ClassId} {dI : Nat → Nat → Nat} {dA : Nat → ClassId} {B : Nat → Nat} {base : Nat}
theorem sm_fresh {D : va_G} {cl : List vw_C} {h : sm_H} {q : Nat} {x : va_E} {g : JFrame} {H1 : Heap} {n : Nat} (hP1 : va_P D cl (sm_ws B dA 0 h ++ [(q, x)]) H1) (hD1 : va_D (fun q => base ≤ q) (sm_ws B dA 0 h ++ [(q, x)])) (hB : ∀ k, k < 1000 → B k = base + k) (hlen : h.length < 999) (hsz : s.heap.size + cells = base + h.length)
    (kk : q = B h.length → W p l e R s m args below meth c H1 locs (cells + 1) n Q g) : W p l e R s m args below meth c H1 locs (cells + 1) n Q g := by
  intro T hT X
  refine kk ?_ T hT X
  have h1 := X.heapSize
  rw [hT] at h1
  have hl : (sm_ws B dA 0 h).length = h.length := sm_ws_len B dA h 0
  have hx : (sm_ws B dA 0 h ++ [(q, x)])[h.length]? = some (q, x) := by rw [List.getElem?_append_right (by omega), hl, Nat.sub_self]; rfl
  have hq : q < H1.size := (hP1 _ _ hx).lt
  have hqA : base ≤ q := hD1.2 _ _ hx
  rw [hB _ (by omega)]
  rcases Nat.lt_or_ge q (base + h.length) with hlt | hge
  · exfalso
    have hk : q - base < h.length := by omega
    have hy : (sm_ws B dA 0 h ++ [(q, x)])[q - base]? = some (B (q - base), sm_ce B dA h[q - base]) := by
      rw [List.getElem?_append_left (by omega)]
      exact sm_ws_at (List.getElem?_eq_getElem hk)
    have := hD1.1 _ _ _ _ hy hx (by show B (q - base) = q; rw [hB _ (by omega)]; omega)
    omega
  · omega
theorem sm_df_ok {ci : Nat} {q : vw_C} (hq : vwCl[ci]? = some q) {tys : Nat → FieldType} (ht : ∀ k, k < q.2.2 → parseFieldDescriptor (q.2.1 k).2.2.1 = some (tys k)) (B : Nat → Nat) : ((sm_df ci).map (sm_cv B)).length = q.2.2 ∧ ∀ j, j < q.2.2 → defaultValue (tys j) = vp_V ((sm_df ci).map (sm_cv B)) j := by
  unfold sm_df
  rw [hq]
  dsimp only
  refine ⟨by simp, fun j hj => ?_⟩
  unfold vp_V
  rw [List.getD_eq_getElem?_getD, List.getElem?_map, List.getElem?_map, List.getElem?_range hj]
  simp only [Option.map_some, Option.getD_some, ht j hj]
  cases tys j <;> rfl
theorem sm_cA {ty : FieldType} {t0 : Nat} {cA : ClassId} (hK : va_K (dC, dI) vwCl (sm_TY dA) s) (ht0 : (sm_TY dA)[t0]? = some (dA t0, ty)) (hK1 : va_K (dC, dI) vwCl (sm_TY dA ++ [(cA, ty)]) s) : cA = dA t0 := by
  have h1 := (hK.2 t0 _ ht0).2
  have h2 := (hK1.2 5 (cA, ty) rfl).2
  cases ty with
  | object C =>
    obtain ⟨_, _, _, _, _, h3⟩ := h1
    obtain ⟨_, _, _, _, _, h4⟩ := h2
    exact Option.some.inj (h4.symm.trans h3)
  | _ => exact Option.some.inj (h2.symm.trans h1)
set_option maxHeartbeats 4000000 in
theorem sm_k_ok {own : String} {init : Bool} {w : sm_E} {d nL : Nat} {st : List Value} {h : sm_H} {g : Nat × List Value × sm_H} (hx : p.tables.exec = Jvm.exec) (hb : c.code = cc) (hml : c.maxLocals = nL) (hls : ls.size = nL) (hts : ∀ w ∈ sm_G, w.before args s = true) (hown : s.vm.findClass own = some m.cls)
    (hK : va_K (dC, dI) vwCl (sm_TY dA) s) (hP : va_P (dC, dI) vwCl (sm_ws B dA 0 h) H) (hD : va_D (fun q => base ≤ q) (sm_ws B dA 0 h)) (hS : va_S (fun q => base ≤ q) s.heap H locs) (hbase : base ≤ s.heap.size) (hB : ∀ k, k < 1000 → B k = base + k)
    (hStr : ∀ i idx, [42, 106, 108, 110, 112, 114][i]? = some idx → ∃ tx, vk_R RX2 idx tx (B (1000 + i)) s)
    (hAO : ∀ C, Cond.arrayOver (.object C) ∈ lw_tbl → va_AO C s)
    (hobj : Cond.instanceMethod objectInit ∈ lw_tbl ∧ Cond.code objectInit ⟨#[0xb1]⟩ 1 none ∈ lw_tbl) (hcpy : Cond.native arraycopyName ∈ lw_tbl ∧ Cond.static arraycopyName ∈ lw_tbl ∧ Cond.initialized "java/lang/System" ∈ lw_tbl)
    (hlk2 : (w.2.1 = 999 → ∀ idx, w.1 = .invokespecial idx → Cond.methodLink own idx objectInit ∈ lw_tbl) ∧ (w.2.1 = 998 → ∀ idx, w.1 = .invokestatic idx → Cond.methodLink own idx arraycopyName ∈ lw_tbl))
    (hsz : s.heap.size + cells = base + h.length) (hRf : d ≤ R.frames) (hRl : 33 * d ≤ R.locals)
    (hd : sm_dc cc pc w) (hlk : sm_lk own init w) (hg : sm_k w d st h = some g) (hRc : cells + g.2.2.length ≤ R.cells + h.length) (hRs : slots + sm_sl g.2.2 ≤ R.slots + sm_sl h)
    (k : ∀ (H1 : Heap) (locs1 : List Loc) (c1 s1 : Nat), c1 + h.length = cells + g.2.2.length → s1 + sm_sl h = slots + sm_sl g.2.2 → va_P (dC, dI) vwCl (sm_ws B dA 0 g.2.2) H1 → va_D (fun q => base ≤ q) (sm_ws B dA 0 g.2.2) → va_S (fun q => base ≤ q) s.heap H1 locs1 → W p l e R s m args below meth c H1 locs1 c1 s1 Q (F0 m (pc + g.1) ls (sm_cS B g.2.1))) : W p l e R s m args below meth c H locs cells slots Q (F0 m pc ls (sm_cS B st)) := by
  obtain ⟨ins, wa, wb, wc⟩ := w
  have hd1 := fun h => sm_dc1 (cc := cc) (pc := pc) (e := (ins, wa, wb, wc)) hd h
  have hA : ∀ q : Nat, s.heap.size ≤ q → base ≤ q := fun q hq => Nat.le_trans hbase hq
  cases ins <;> first | (cases hg; done) | skip
  case new idx =>
    have hd2 := hd1 rfl
    obtain ⟨q, hq, w1, w2, w3⟩ := hlk
    obtain ⟨hin, -, tys, htys⟩ := sm_cl_in _ _ hq
    unfold sm_k at hg
    dsimp only at hg
    split at hg
    · rename_i hh
      cases hg
      obtain ⟨hn, hdf⟩ := sm_df_ok hq htys B
      dsimp only at hRc hRs k
      have e1 : sm_sl (h ++ [Sum.inr (wa, sm_df wa)]) = sm_sl h + q.2.2 := by
        rw [← hn]; simp [sm_sl, sm_sz]
      rw [List.length_append, List.length_singleton] at hRc
      rw [e1] at hRs
      refine va_new (D := (dC, dI)) (ci := wa) (fs := (sm_df wa).map (sm_cv B)) (C := q.1) (T := q.2.1) (N := q.2.2) hx hb hts hin tys htys hown (hts _ (sm_Gin w1 rfl)) (hts _ (sm_Gin w2 rfl)) (hts _ (sm_Gin w3 rfl)) hK hP hD hS hA hq hdf (by omega) (by omega) hd2 (fun qn H1 a1 a2 a3 => ?_)
      refine sm_fresh a1 a2 hB hh.2 hsz (fun hqn => ?_)
      subst hqn
      have e2 : sm_ws B dA 0 (h ++ [.inr (wa, sm_df wa)]) = sm_ws B dA 0 h ++ [(B h.length, .inr (wa, (sm_df wa).map (sm_cv B)))] := by rw [sm_ws_app, Nat.zero_add]; rfl
      exact k H1 locs (cells + 1) (slots + q.2.2) (by rw [List.length_append, List.length_singleton]; omega) (by rw [e1]; omega) (by rw [e2]; exact a1) (by rw [e2]; exact a2) a3
    · cases hg
  case newarray aty =>
    have hd2 := hd1 rfl
    cases aty <;> first | (cases hg; done) | skip
    · unfold sm_k at hg
      dsimp only at hg
      split at hg <;> first | (cases hg; done) | skip
      rename_i n r
      split at hg <;> first | (cases hg; done) | skip
      rename_i hh
      obtain ⟨hn, hN, hlen⟩ := hh
      cases hg
      dsimp only at hRc hRs k
      have e1 : sm_sl (h ++ [Sum.inl (0, n.toNatClampNeg, .inl (fun _ => 0))]) = sm_sl h + n.toNatClampNeg := by simp [sm_sl, sm_sz]
      rw [List.length_append, List.length_singleton] at hRc
      rw [e1] at hRs
      refine va_newa (atype := .int) (ty := .int) (a0 := (n.toNatClampNeg, .inl (fun _ => 0))) hx hb (hts _ (sm_Gin hlk rfl)) rfl hK hP hD hS hA (fun _ => rfl) hn rfl (Nat.le_trans (Nat.mul_le_mul_right _ hN) (by decide)) (by omega) (by omega) hd2 (fun qn cA H1 a0 a1 a2 a3 => ?_)
      have hcA : cA = dA 0 := sm_cA hK rfl a0
      subst hcA
      refine sm_fresh a1 a2 hB hlen hsz (fun hqn => ?_)
      subst hqn
      have e2 : sm_ws B dA 0 (h ++ [.inl (0, n.toNatClampNeg, .inl (fun _ => 0))]) = sm_ws B dA 0 h ++ [(B h.length, .inl (dA 0, n.toNatClampNeg, .inl (fun _ => 0)))] := by rw [sm_ws_app, Nat.zero_add]; rfl
      exact k H1 locs (cells + 1) (slots + n.toNatClampNeg) (by rw [List.length_append, List.length_singleton]; omega) (by rw [e1]; omega) (by rw [e2]; exact a1) (by rw [e2]; exact a2) a3
    · unfold sm_k at hg
      dsimp only at hg
      split at hg <;> first | (cases hg; done) | skip
      rename_i n r
      split at hg <;> first | (cases hg; done) | skip
      rename_i hh
      obtain ⟨hn, hN, hlen⟩ := hh
      cases hg
      dsimp only at hRc hRs k
      have e1 : sm_sl (h ++ [Sum.inl (1, n.toNatClampNeg, .inr (.inl (fun _ => 0)))]) = sm_sl h + n.toNatClampNeg := by simp [sm_sl, sm_sz]
      rw [List.length_append, List.length_singleton] at hRc
      rw [e1] at hRs
      refine va_newa (atype := .long) (ty := .long) (a0 := (n.toNatClampNeg, .inr (.inl (fun _ => 0)))) hx hb (hts _ (sm_Gin hlk rfl)) rfl hK hP hD hS hA (fun _ => rfl) hn rfl (Nat.le_trans (Nat.mul_le_mul_right _ hN) (by decide)) (by omega) (by omega) hd2 (fun qn cA H1 a0 a1 a2 a3 => ?_)
      have hcA : cA = dA 1 := sm_cA hK rfl a0
      subst hcA
      refine sm_fresh a1 a2 hB hlen hsz (fun hqn => ?_)
      subst hqn
      have e2 : sm_ws B dA 0 (h ++ [.inl (1, n.toNatClampNeg, .inr (.inl (fun _ => 0)))]) = sm_ws B dA 0 h ++ [(B h.length, .inl (dA 1, n.toNatClampNeg, .inr (.inl (fun _ => 0))))] := by rw [sm_ws_app, Nat.zero_add]; rfl
      exact k H1 locs (cells + 1) (slots + n.toNatClampNeg) (by rw [List.length_append, List.length_singleton]; omega) (by rw [e1]; omega) (by rw [e2]; exact a1) (by rw [e2]; exact a2) a3
  case anewarray idx =>
    have hd2 := hd1 rfl
    obtain ⟨q, hq, w1, w2⟩ := hlk
    unfold sm_k at hg
    dsimp only at hg
    split at hg <;> first | (cases hg; done) | skip
    rename_i n r
    split at hg <;> first | (cases hg; done) | skip
    rename_i hh
    obtain ⟨ht, hn, hN, hlen⟩ := hh
    cases hg
    dsimp only at hRc hRs k
    have e1 : sm_sl (h ++ [Sum.inl (wa, n.toNatClampNeg, .inr (.inr (.inr (.inr (fun _ => none)))))]) = sm_sl h + n.toNatClampNeg := by simp [sm_sl, sm_sz]
    rw [List.length_append, List.length_singleton] at hRc
    rw [e1] at hRs
    refine va_newq (C := q.1) hx hb hown (hts _ (sm_Gin w1 rfl)) (hAO _ w2) hK hP hD hS hA hn rfl (Nat.le_trans (Nat.mul_le_mul_right _ hN) (by decide)) (by omega) (by omega) hd2 (fun qn cA H1 a0 a1 a2 a3 => ?_)
    have hcA : cA = dA wa := by
      rcases ht with ht | ht | ht <;> subst ht <;> cases hq <;> exact sm_cA hK rfl a0
    subst hcA
    refine sm_fresh a1 a2 hB hlen hsz (fun hqn => ?_)
    subst hqn
    have e2 : sm_ws B dA 0 (h ++ [.inl (wa, n.toNatClampNeg, .inr (.inr (.inr (.inr (fun _ => none)))))]) = sm_ws B dA 0 h ++ [(B h.length, .inl (dA wa, n.toNatClampNeg, .inr (.inr (.inr (.inr (fun _ => none))))))] := by rw [sm_ws_app, Nat.zero_add]; rfl
    exact k H1 locs (cells + 1) (slots + n.toNatClampNeg) (by rw [List.length_append, List.length_singleton]; omega) (by rw [e1]; omega) (by rw [e2]; exact a1) (by rw [e2]; exact a2) a3
  case aastore =>
    have hd2 := hd1 rfl
    unfold sm_k at hg
    dsimp only at hg
    split at hg <;> first | (cases hg; done) | skip
    rename_i v i a r
    split at hg <;> first | (cases hg; done) | skip
    rename_i t n f ci vs hc1 hc2
    split at hg <;> first | (cases hg; done) | skip
    rename_i hh
    obtain ⟨ht, hci, hin⟩ := hh
    subst hci
    cases hg
    dsimp only at hRc hRs k
    have e3 : sm_sl (h.set a (.inl (t, n, .inr (.inr (.inr (.inr (va_up f i.toNatClampNeg (some v)))))))) = sm_sl h := sm_sl_set hc1 rfl
    have e2 : sm_ws B dA 0 (h.set a (.inl (t, n, .inr (.inr (.inr (.inr (va_up f i.toNatClampNeg (some v)))))))) = (sm_ws B dA 0 h).set a (B a, .inl (dA t, n, .inr (.inr (.inr (.inr (va_up (fun j => (f j).map B) i.toNatClampNeg (some (B v)))))))) := by
      rw [sm_ws_set, Nat.zero_add]
      simp only [sm_ce]
      have : (fun j => (va_up f i.toNatClampNeg (some v) j).map B) = va_up (fun j => (f j).map B) i.toNatClampNeg (some (B v)) := by
        funext j
        unfold va_up
        split <;> rfl
      rw [this]
    have hk : ∀ (H1 : Heap) (locs1 : List Loc), va_P (dC, dI) vwCl ((sm_ws B dA 0 h).set a (B a, .inl (dA t, n, .inr (.inr (.inr (.inr (va_up (fun j => (f j).map B) i.toNatClampNeg (some (B v))))))))) H1 → va_D (fun q => base ≤ q) ((sm_ws B dA 0 h).set a (B a, .inl (dA t, n, .inr (.inr (.inr (.inr (va_up (fun j => (f j).map B) i.toNatClampNeg (some (B v))))))))) → va_S (fun q => base ≤ q) s.heap H1 locs1 → W p l e R s m args below meth c H1 locs1 cells slots Q (F0 m (pc + 1) ls (sm_cS B r)) :=
      fun H1 locs1 a1 a2 a3 => k H1 locs1 cells slots (by rw [List.length_set]) (by rw [e3]) (by rw [e2]; exact a1) (by rw [e2]; exact a2) a3
    rcases ht with ht | ht | ht
    · subst ht; exact va_astq (r := (RX3, TX3, 5)) hx hb hK hP hD hS a 2 v 3 (sm_ws_at hc1) rfl (sm_ws_at hc2) rfl hin hd2 hk
    · subst ht; exact va_astq (r := (RX6, TX6, 5)) hx hb hK hP hD hS a 3 v 6 (sm_ws_at hc1) rfl (sm_ws_at hc2) rfl hin hd2 hk
    · subst ht; exact va_astq (r := (RX8, TX8, 10)) hx hb hK hP hD hS a 4 v 8 (sm_ws_at hc1) rfl (sm_ws_at hc2) rfl hin hd2 hk
  case ldc idx =>
    have hd2 := hd1 rfl
    unfold sm_k at hg
    dsimp only at hg hlk
    split at hg
    · rename_i h0
      rcases hlk with ⟨-, hw⟩ | ⟨h1, -⟩
      · cases hg
        exact lv_ldc hx hb hown (hts _ (sm_Gin hw rfl)) hd2 (k H locs cells slots rfl rfl hP hD hS)
      · exact absurd (h1.symm.trans h0) (by decide)
    · rename_i h0
      split at hg <;> first | (cases hg; done) | skip
      rcases hlk with ⟨h1, -⟩ | ⟨-, ho, hi⟩
      · exact absurd h1 h0
      · cases hg
        obtain ⟨tx, hR⟩ := hStr _ _ hi
        rw [← ho] at hR
        exact va_ldcS hx hb hown hR hd2 (k H locs cells slots rfl rfl hP hD hS)
  case ldc_w idx =>
    have hd2 := hd1 rfl
    cases hg
    exact lv_ldcw hx hb hown (hts _ (sm_Gin hlk rfl)) hd2 (k H locs cells slots rfl rfl hP hD hS)
  case ldc2_w idx =>
    have hd2 := hd1 rfl
    cases hg
    exact lv_ldc2 hx hb hown (hts _ (sm_Gin hlk rfl)) hd2 (k H locs cells slots rfl rfl hP hD hS)
  case invokespecial idx =>
    have hd2 := hd1 rfl
    unfold sm_k at hg
    dsimp only at hg
    split at hg <;> first | (cases hg; done) | skip
    rename_i a r
    split at hg <;> first | (cases hg; done) | skip
    rename_i hh
    obtain ⟨h9, hdd, hcat⟩ := hh
    cases hg
    have hc2 : ((sm_cS B r).map fun v => v.category).sum ≤ 8 := by
      have := sm_cS_cat B r
      unfold sm_cat at this hcat
      omega
    refine W.objInit hx hb hown (hts _ (sm_Gin (hlk2.1 h9 idx rfl) rfl)) (hts _ (sm_Gin hobj.1 rfl)) (hts _ (sm_Gin hobj.2 rfl)) rfl (by rw [hml]; exact hls) (a := B a) (rest := sm_cS B r) rfl hd2 (by omega) (by show 2 * 0 + _ + 12 ≤ R.locals; omega) ?_
    exact W.eq rfl (k H locs cells slots rfl rfl hP hD hS)
  case invokestatic idx =>
    have hd2 := hd1 rfl
    unfold sm_k at hg
    dsimp only at hg
    split at hg <;> first | (cases hg; done) | skip
    rename_i n dp b sp a r
    split at hg <;> first | (cases hg; done) | skip
    rename_i ta na f tb nb g2 hc1 hc2
    split at hg <;> first | (cases hg; done) | skip
    rename_i hh
    obtain ⟨h9, hdd, hcat, hta, htb, h1, h2, h3, h4, h5⟩ := hh
    subst hta
    subst htb
    cases hg
    dsimp only at hRc hRs k
    have hc3 : ((sm_cS B r).map fun v => v.category).sum ≤ 8 := by
      have := sm_cS_cat B r
      unfold sm_cat at this hcat
      omega
    have e3 : sm_sl (h.set b (.inl (1, nb, .inr (.inl (va_cpy f g2 sp.toNatClampNeg dp.toNatClampNeg n.toNatClampNeg))))) = sm_sl h := sm_sl_set hc2 rfl
    have e2 := sm_ws_set B dA (.inl (1, nb, .inr (.inl (va_cpy f g2 sp.toNatClampNeg dp.toNatClampNeg n.toNatClampNeg)))) h 0 b
    rw [Nat.zero_add] at e2
    refine va_copyl (ty := .long) hx hb (by rw [hml, hls]) hown (hts _ (sm_Gin (hlk2.2 h9 idx rfl) rfl)) (hts _ (sm_Gin hcpy.1 rfl)) (hts _ (sm_Gin hcpy.2.1 rfl)) (hts _ (sm_Gin hcpy.2.2 rfl)) hK hP hD hS a b 1 1 (sm_ws_at hc1) (sm_ws_at hc2) rfl rfl rfl h1 h2 h3 h4 h5 (fun _ _ => rfl) (by omega) (by
      have : nativeFrameWords "java/lang/System" "arraycopy" 5 = 7 := by decide +kernel
      show ((sm_cS B r).map fun v => v.category).sum + (nativeFrameWords "java/lang/System" "arraycopy" 5 + 11) ≤ R.locals
      omega) hd2 (fun H1 locs1 a1 a2 a3 => ?_)
    exact k H1 locs1 cells slots (by rw [List.length_set]) (by rw [e3]) (by rw [e2]; exact a1) (by rw [e2]; exact a2) a3
end SMK
end
section
theorem sm_hobj : Cond.instanceMethod objectInit ∈ lw_tbl ∧ Cond.code objectInit ⟨#[0xb1]⟩ 1 none ∈ lw_tbl := by decide +kernel
theorem sm_hcpy : Cond.native arraycopyName ∈ lw_tbl ∧ Cond.static arraycopyName ∈ lw_tbl ∧ Cond.initialized "java/lang/System" ∈ lw_tbl := by decide +kernel
abbrev sm_par (y : MethodName) : Option Nat := (parseMethodDescriptor y.desc).map (fun d => d.parameters.length)
abbrev sm_link (own : String) (idx : Nat) (y : MethodName) : Prop := Cond.methodLink own idx y ∈ lw_tbl ∨ ∃ host, Cond.methodLinkNest own idx y host ∈ lw_tbl
/-- what the tables must say of a call -/
def sm_ck (M : Nat → Option sm_I) (own : String) (w : sm_E) : Prop := match w.1 with
  | .invokevirtual idx => (w.2.1 = 900 → Cond.methodLink own idx yJ0_length_8abf5 ∈ lw_tbl) ∧ (w.2.1 = 901 → Cond.methodLink own idx yJ0_charAt_5068e ∈ lw_tbl) ∧ (w.2.1 = 902 → Cond.methodLink own idx yJ0_equals_9ea2d ∈ lw_tbl) ∧ ∀ K, M w.2.1 = some K → (∃ q, vwCl[w.2.2.2]? = some q ∧ q.1 = K.1.cls) ∧ sm_par K.1 = some w.2.2.1 ∧ Cond.instanceMethod K.1 ∈ lw_tbl ∧ Cond.selects K.1.cls K.1 K.1 ∈ lw_tbl ∧ sm_link own idx K.1
  | .invokespecial idx => (w.2.1 = 999 → Cond.methodLink own idx objectInit ∈ lw_tbl) ∧ ∀ K, M w.2.1 = some K → sm_par K.1 = some w.2.2.1 ∧ Cond.instanceMethod K.1 ∈ lw_tbl ∧ K.1.name = "<init>" ∧ K.2.2.2.1 = none ∧ sm_link own idx K.1
  | .invokestatic idx => (w.2.1 = 998 → Cond.methodLink own idx arraycopyName ∈ lw_tbl) ∧ ∀ K, M w.2.1 = some K → sm_par K.1 = some w.2.2.1 ∧ Cond.static K.1 ∈ lw_tbl ∧ sm_link own idx K.1
  | _ => True
/-- a method of the table is the tables' one -/
def sm_mok (M : Nat → Option sm_I) (J : sm_I) : Prop :=
  plainFor J.1 = true ∧ Cond.code J.1 J.2.1 J.2.2.1 J.2.2.2.1 ∈ lw_tbl ∧ Cond.initialized J.1.cls ∈ lw_tbl ∧ (J.1.cls ≠ "java/lang/invoke/MethodHandle" ∧ J.1.cls ≠ "java/lang/invoke/VarHandle") ∧ J.2.2.1 ≤ 14 ∧
  ∀ (pc : Nat) (w : sm_E), J.2.2.2.2[pc]? = some (some w) → sm_dc J.2.1 pc w ∧ sm_jok pc w = true ∧ sm_lk J.1.cls (J.1.name == "<init>") w ∧ sm_ck M J.1.cls w
/-- what stays true of the machine while a run goes on: nest mates' links, arrays of references, texts -/
def sm_Ev (B : Nat → Nat) (X : State → Prop) (U : State) : Prop :=
  (∀ C, Cond.arrayOver (.object C) ∈ lw_tbl → va_AO C U) ∧ (∀ own idx y host, Cond.methodLinkNest own idx y host ∈ lw_tbl → va_Nw (.methodLinkNest own idx y host) U) ∧ (∀ i idx, [42, 106, 108, 110, 112, 114][i]? = some idx → ∃ tx, vk_R RX2 idx tx (B (1000 + i)) U) ∧ X U
/-- what is asked of the texts' own methods -/
def sm_rx : Room := { frames := 5, cells := 0, slots := 0, locals := 165 }
def sm_wx (y : MethodName) (b : ByteArray) (n : Nat) (t : FieldType) : List Cond := .code y b n (some t) :: sm_G
def sm_Qx (v : Int32) : Array Value → State → Outcome → State → Prop := fun _ st oc t => oc = .returned (some (.int v)) ∧ t.heap = st.heap
/-- a text's method begins in such a state -/
def sm_Px (base : Nat) (X : State → Prop) (U : State) : Prop := base ≤ U.heap.size ∧ X U
def sm_Xk (l : Launch) (B : Nat → Nat) (base : Nat) (X : State → Prop) : Prop :=
  (∀ u U : State, X u → u.WarmedH U.vm → base ≤ u.heap.size → (∀ q, q < u.heap.size → ¬ base ≤ q → U.heap[q]? = u.heap[q]?) → X U) ∧
  (∀ U : State, X U → ∀ i, i < 6 → B (1000 + i) < base ∧ ∃ cell : Cell, U.heap[B (1000 + i)]? = some cell ∧ cell.vm.isStatics = false ∧ U.vm.findClass "java/lang/String" = some cell.cls) ∧
  (∀ i, i < 6 → Met l yJ0_length_8abf5 (sm_wx yJ0_length_8abf5 cJ0_length_8abf5 1 .int) sm_rx (va_Pc [.ref (B (1000 + i))] (sm_Px base X)) (sm_Qx (Int32.ofNat (sm_tx i).length)) 0 0 (fun _ => False)) ∧
  (∀ i, i < 6 → ∀ k : Int32, ¬ (k < 0 ∨ (sm_tx i).length ≤ k.toNatClampNeg) → Met l yJ0_charAt_5068e (sm_wx yJ0_charAt_5068e cJ0_charAt_5068e 2 .char) sm_rx (va_Pc [.ref (B (1000 + i)), .int k] (sm_Px base X)) (sm_Qx (Int32.ofNat ((sm_tx i).getD k.toNatClampNeg 0))) 0 0 (fun _ => False)) ∧
  (∀ i j, i < 6 → j < 6 → Met l yJ0_equals_9ea2d (sm_wx yJ0_equals_9ea2d cJ0_equals_9ea2d 3 .boolean) sm_rx (va_Pc [.ref (B (1000 + i)), .ref (B (1000 + j))] (sm_Px base X)) (sm_Qx (if i = j then 1 else 0)) 0 0 (fun _ => False))
theorem sm_Ev.warm {l : Launch} {B : Nat → Nat} {base : Nat} {X : State → Prop} {u U : State} (hX : sm_Xk l B base X) (h : sm_Ev B X u) (hW : u.WarmedH U.vm) (hb : base ≤ u.heap.size) (hh : ∀ q, q < u.heap.size → ¬ base ≤ q → U.heap[q]? = u.heap[q]?) : sm_Ev B X U :=
  ⟨fun C hC => va_AO.moved hW.alike (h.1 C hC), fun own idx y host hw => va_Nw.warmM hW (h.2.1 own idx y host hw), fun i idx hi => (h.2.2.1 i idx hi).elim fun tx q => ⟨tx, vk_R.warm hW q⟩, hX.1 u U h.2.2.2 hW hb hh⟩
/-- a method's end, in words of the small machine -/
def sm_Qc (D : va_G) (B : Nat → Nat) (dA : Nat → ClassId) (base : Nat) (r : Option Value × sm_H) : Array Value → State → Outcome → State → Prop := fun _ st oc t =>
  oc = .returned (r.1.map (sm_cv B)) ∧ va_P D vwCl (sm_ws B dA 0 r.2) t.heap ∧ va_D (fun q => base ≤ q) (sm_ws B dA 0 r.2) ∧ va_F (fun q => base ≤ q) st t
/-- a method's start, in words of the small machine -/
def sm_Pc (D : va_G) (B : Nat → Nat) (dA : Nat → ClassId) (base : Nat) (X : State → Prop) (av : List Value) (h : sm_H) : Array Value → State → Prop :=
  va_Pc (av.map (sm_cv B)) (fun U => U.heap.size = base + h.length ∧ va_P D vwCl (sm_ws B dA 0 h) U.heap ∧ va_D (fun q => base ≤ q) (sm_ws B dA 0 h) ∧ va_K D vwCl (sm_TY dA) U ∧ sm_Ev B X U)
def sm_WS (J : sm_I) : List Cond := .code J.1 J.2.1 J.2.2.1 J.2.2.2.1 :: sm_G
def sm_rm (d : Nat) (h : sm_H) (r : Option Value × sm_H) : Room := { frames := d, cells := r.2.length - h.length, slots := sm_sl r.2 - sm_sl h, locals := 33 * d }
theorem sm_blind {l : Launch} {D : va_G} {B : Nat → Nat} {dA : Nat → ClassId} {base : Nat} {X : State → Prop} (hX : sm_Xk l B base X) (av : List Value) (h : sm_H) : FrameBlind (sm_Pc D B dA base X av h) := by
  intro a U g mk q
  obtain ⟨q0, q1, qP, qD, qK, qE⟩ := q
  exact ⟨q0, q1, qP, qD, va_K.moved (u := U) (U := U.calling g mk a) (Vm.Alike.refl U.vm) qK, sm_Ev.warm (U := U.calling g mk a) hX qE (State.WarmedH.refl U) (by rw [q1]; exact Nat.le_add_right _ _) (fun _ _ _ => rfl)⟩
theorem sm_lv_args (B : Nat → Nat) : ∀ (vs : List Value) (i : Nat), lv_args i (vs.map (sm_cv B)) = sm_cL B (lv_args i vs) := by
  intro vs
  induction vs with
  | nil => intro i; rfl
  | cons v vs ih =>
    intro i
    show (i, sm_cv B v) :: lv_args (if (sm_cv B v).category = 2 then i + 2 else i + 1) (vs.map (sm_cv B)) = _
    rw [sm_cv_cat, ih]
    rfl
theorem sm_sl_len (vs : List Value) : (lg_sl vs).length = sm_cat vs := by
  induction vs with
  | nil => rfl
  | cons v vs ih =>
    unfold lg_sl sm_cat at ih ⊢
    rw [List.flatMap_cons, List.length_append, ih, List.map_cons, List.sum_cons]
    cases v <;> rfl
section SMSND
variable {p : Program} {l : Launch} {e : Env} {R : Room} {s : State} {m : MethodId} {args : Array Value} {below : List Frame} {meth : Method} {c : Code} {H : Heap} {locs : List Loc} {cells slots : Nat} {Q : State → Prop}
variable {cc : ByteArray} {pc : Nat} {ls : Array Slot} {dC : Nat → ClassId} {dI : Nat → Nat → Nat} {dA : Nat → ClassId} {B : Nat → Nat} {base : Nat} {X : State → Prop} {M : Nat → Option sm_I}
/-- what the proof goes by, for runs of at most n steps -/
def sm_OK (M : Nat → Option sm_I) (l : Launch) (dC : Nat → ClassId) (dI : Nat → Nat → Nat) (dA : Nat → ClassId) (B : Nat → Nat) (base : Nat) (X : State → Prop) (n : Nat) : Prop :=
  ∀ (d : Nat) (I : sm_I) (pc : Nat) (lv : sm_L) (st : List Value) (h : sm_H) (r : Option Value × sm_H), sm_run M n d I pc lv st h = some r → sm_mok M I → r.2.length ≤ 999 →
  ∀ (p : Program) (e : Env) (R : Room) (s : State) (m : MethodId) (args : Array Value) (below : List Frame) (meth : Method) (c : Code) (H : Heap) (locs : List Loc) (cells slots mc ms : Nat) (ls : Array Slot),
  p.tables.exec = Jvm.exec → c.code = I.2.1 → meth.sig.returnType = I.2.2.2.1 → c.maxLocals = I.2.2.1 → (∀ w ∈ sm_G, w.before args s = true) → s.vm.findClass I.1.cls = some m.cls → meth.locks = false → meth.name = I.1.name →
  va_K (dC, dI) vwCl (sm_TY dA) s → base ≤ s.heap.size → sm_Ev B X s →
  va_P (dC, dI) vwCl (sm_ws B dA 0 h) H → va_D (fun q => base ≤ q) (sm_ws B dA 0 h) → va_S (fun q => base ≤ q) s.heap H locs → lv_has ls I.2.2.1 (sm_cL B lv) →
  s.heap.size + cells = base + h.length → cells + r.2.length = mc + h.length → slots + sm_sl r.2 = ms + sm_sl h → mc ≤ R.cells → ms ≤ R.slots → d ≤ R.frames → 33 * d ≤ R.locals →
  W p l e R s m args below meth c H locs cells slots (MQ below (sm_Qc (dC, dI) B dA base r) args s mc ms (fun q => base ≤ q)) (F0 m pc ls (sm_cS B st))
theorem sm_met {n d : Nat} {J : sm_I} {as : List Value} {h : sm_H} {r : Option Value × sm_H} (hOK : sm_OK M l dC dI dA B base X n) (hX : sm_Xk l B base X) (hr : sm_run M n d J 0 (lv_args 0 as) [] h = some r) (hmok : sm_mok M J) (hcat : sm_cat as ≤ J.2.2.1) (hfin : r.2.length ≤ 999) :
    Met l J.1 (sm_WS J) (sm_rm d h r) (sm_Pc (dC, dI) B dA base X as h) (sm_Qc (dC, dI) B dA base r) (r.2.length - h.length) (sm_sl r.2 - sm_sl h) (fun q => base ≤ q) := by
  obtain ⟨z1, z2⟩ := sm_run_size M _ _ _ _ _ _ _ _ hr
  refine va_MetF (cc := J.2.1) (maxL := J.2.2.1) (ret := J.2.2.2.1) hmok.1 rfl ?_
  intro p e s m args below meth c s₁ Bd hml hv
  obtain ⟨rfl, hsz, hP, hD, hK, hE⟩ := hv
  have hts0 := atoms_spec (ws := sm_WS J) Bd.pre
  have hcat' : (lg_sl (as.map (sm_cv B))).length ≤ J.2.2.1 := by rw [sm_sl_len]; rw [show as.map (sm_cv B) = sm_cS B as from rfl, sm_cS_cat]; exact hcat
  have hl := lv_entry (as.map (sm_cv B)) (n := J.2.2.1) hcat'
  rw [sm_lv_args] at hl
  rw [lg_entry_eq]
  exact hOK d J 0 (lv_args 0 as) [] h r hr hmok hfin p e _ s m _ below meth c s.heap [] 0 0 _ _ _ Bd.exec Bd.bytes Bd.returns hml (fun w hw => hts0 w (List.mem_cons_of_mem _ hw)) (findClass_of_methodNamed Bd.named) Bd.notSynchronized (name_of_methodNamed Bd.named Bd.method).1 hK (by omega) hE hP hD va_S.rf hl (by omega) (by omega) (by omega) (Nat.le_refl _) (Nat.le_refl _) (Nat.le_refl _) (Nat.le_refl _)
theorem sm_callW {st0 rest : List Value} {mc ms : Nat} {Qa : State → Outcome → State → Prop} {free : Addr → Prop} (hr : va_Run p l e R s m args below meth c H locs cells slots mc ms (F0 m pc ls st0) rest Qa free)
    (kk : ∀ (v : Option Value) (st₀ t : State) (H1 : Heap) (L : List Loc), st₀.heap = H → t.heap = H1 → Qa st₀ (.returned v) t → (∀ q ∈ L, free q.base) → W p l e R s m args below meth c H1 (locs ++ L) (cells + mc) (slots + ms) Q (F0 m (pc + 3) ls (v.toList ++ rest))) : W p l e R s m args below meth c H locs cells slots Q (F0 m pc ls st0) := by
  intro T hT X
  obtain ⟨v, st₀, t, T', L, h0, X', hL, e1, e2, hq, st⟩ := hr T hT X
  obtain ⟨t2, a1, b1⟩ := kk v st₀ t T'.heap L h0 e1.symm hq hL T' rfl X'
  exact ⟨t2, st t2 a1, b1⟩
theorem sm_goodIn {ws : List Cond} (h : ∀ w ∈ ws, w ∈ sm_G) : GoodIn sm_G ws := fun w hw => ⟨h w hw, good_of_word (List.mem_filter.mp (h w hw)).2⟩
theorem sm_WS_in {J : sm_I} (h : sm_mok M J) : ∀ w ∈ sm_WS J, w ∈ sm_G := by
  intro w hw
  rcases List.mem_cons.mp hw with rfl | hw
  · exact sm_Gin h.2.1 rfl
  · exact hw
end SMSND
end
section
theorem sm_xw0 : Cond.code yJ0_length_8abf5 cJ0_length_8abf5 1 (some .int) ∈ lw_tbl ∧ Cond.instanceMethod yJ0_length_8abf5 ∈ lw_tbl ∧ Cond.selects RJ0 yJ0_length_8abf5 yJ0_length_8abf5 ∈ lw_tbl ∧ Cond.initialized RJ0 ∈ lw_tbl := by decide +kernel
theorem sm_xw1 : Cond.code yJ0_charAt_5068e cJ0_charAt_5068e 2 (some .char) ∈ lw_tbl ∧ Cond.instanceMethod yJ0_charAt_5068e ∈ lw_tbl ∧ Cond.selects RJ0 yJ0_charAt_5068e yJ0_charAt_5068e ∈ lw_tbl ∧ Cond.initialized RJ0 ∈ lw_tbl := by decide +kernel
theorem sm_xw2 : Cond.code yJ0_equals_9ea2d cJ0_equals_9ea2d 3 (some .boolean) ∈ lw_tbl ∧ Cond.instanceMethod yJ0_equals_9ea2d ∈ lw_tbl ∧ Cond.selects RJ0 yJ0_equals_9ea2d yJ0_equals_9ea2d ∈ lw_tbl ∧ Cond.initialized RJ0 ∈ lw_tbl := by decide +kernel
theorem sm_xp0 : sm_par yJ0_length_8abf5 = some 0 := by decide +kernel
theorem sm_xp1 : sm_par yJ0_charAt_5068e = some 1 := by decide +kernel
theorem sm_xp2 : sm_par yJ0_equals_9ea2d = some 1 := by decide +kernel
theorem sm_1000 (a : Nat) (h1 : 1000 ≤ a) (h2 : a < 1006) : 1000 + (a - 1000) = a ∧ a - 1000 < 6 := by omega
theorem sm_1000eq (a b : Nat) (h1 : 1000 ≤ a) (h3 : 1000 ≤ b) : (if a - 1000 = b - 1000 then (1 : Int32) else 0) = if a = b then 1 else 0 := by
  by_cases hab : a = b
  · subst hab; simp
  · rw [if_neg hab, if_neg (by omega)]
section SMMAIN
variable {p : Program} {l : Launch} {e : Env} {R : Room} {s : State} {m : MethodId} {args : Array Value} {below : List Frame} {meth : Method} {c : Code} {H : Heap} {locs : List Loc} {cells slots : Nat} {Q : State → Prop}
variable {cc : ByteArray} {pc : Nat} {ls : Array Slot} {dC : Nat → ClassId} {dI : Nat → Nat → Nat} {dA : Nat → ClassId} {B : Nat → Nat} {base : Nat} {X : State → Prop} {M : Nat → Option sm_I}
theorem sm_size {D : va_G} {cl : List vw_C} {h : sm_H} {g : JFrame} (hP : va_P D cl (sm_ws B dA 0 h) H) (hB : ∀ k, k < 1000 → B k = base + k) (hlen : h.length ≤ 999) (hS : va_S (fun q => base ≤ q) s.heap H locs) (hbase : base ≤ s.heap.size) (hsz : s.heap.size + cells = base + h.length)
    (kk : H.size = base + h.length → W p l e R s m args below meth c H locs cells slots Q g) : W p l e R s m args below meth c H locs cells slots Q g := by
  intro T hT X
  refine kk ?_ T hT X
  have h1 := X.heapSize
  rw [hT] at h1
  have h2 : base + h.length ≤ H.size := by
    rcases Nat.eq_zero_or_pos h.length with h0 | h0
    · have := hS.1
      omega
    · have hk : h.length - 1 < h.length := by omega
      have := (hP _ _ (sm_ws_at (B := B) (dA := dA) (List.getElem?_eq_getElem hk))).lt
      dsimp only at this
      rw [hB _ (by omega)] at this
      omega
  omega
/-- a call of one of the texts' own methods -/
theorem sm_x_ok {own : String} {y : MethodName} {b : ByteArray} {nL n idx d : Nat} {t : FieldType} {i : Nat} {As : List Value} {v : Int32} {rest : List Value} (hX : sm_Xk l B base X) (hx : p.tables.exec = Jvm.exec) (hb : c.code = cc) (hml : c.maxLocals = nL) (hls : ls.size = nL) (hts : ∀ w ∈ sm_G, w.before args s = true) (hown : s.vm.findClass own = some m.cls)
    (hE : X s) (hbase : base ≤ s.heap.size) (hS : va_S (fun q => base ≤ q) s.heap H locs) (hcat : sm_cat rest ≤ 8) (hRf : d ≤ R.frames) (hRl : 33 * d ≤ R.locals) (hd6 : 6 ≤ d) (hRc : cells ≤ R.cells) (hRs : slots ≤ R.slots) (hi : i < 6)
    (hyc : y.cls = RJ0) (hw : Cond.code y b n (some t) ∈ lw_tbl ∧ Cond.instanceMethod y ∈ lw_tbl ∧ Cond.selects RJ0 y y ∈ lw_tbl ∧ Cond.initialized RJ0 ∈ lw_tbl) (hn : n ≤ 14) (hpar : sm_par y = some As.length) (hlink : Cond.methodLink own idx y ∈ lw_tbl)
    (hM : Met l y (sm_wx y b n t) sm_rx (va_Pc (.ref (B (1000 + i)) :: As) (sm_Px base X)) (sm_Qx v) 0 0 (fun _ => False)) (hdg : decode cc pc = .ok (.invokevirtual idx, 3))
    (k : ∀ locs' : List Loc, va_S (fun q => base ≤ q) s.heap H locs' → W p l e R s m args below meth c H locs' cells slots Q (F0 m (pc + 3) ls (.int v :: rest))) :
    W p l e R s m args below meth c H locs cells slots Q (F0 m pc ls (As.reverse ++ .ref (B (1000 + i)) :: rest)) := by
  obtain ⟨w1, w2, w3, w4⟩ := hw
  obtain ⟨hlt, cell, c1, c2, c3⟩ := hX.2.1 s hE i hi
  have hG : GoodIn sm_G (wsV own idx RJ0 y (sm_wx y b n t)) := sm_goodIn fun w hw => by
    rcases List.mem_append.mp hw with hw | hw
    · simp only [List.mem_cons, List.not_mem_nil, or_false] at hw
      rcases hw with rfl | rfl | rfl | rfl
      · exact sm_Gin hlink rfl
      · exact sm_Gin w2 rfl
      · exact sm_Gin w3 rfl
      · exact sm_Gin w4 rfl
    · rcases List.mem_cons.mp hw with rfl | hw
      · exact sm_Gin w1 rfl
      · exact hw
  have hH : ∀ q, q < s.heap.size → ¬ base ≤ q → H[q]? = s.heap[q]? := hS.2.1
  have hne : RJ0 ≠ "java/lang/invoke/MethodHandle" ∧ RJ0 ≠ "java/lang/invoke/VarHandle" := ⟨by decide, by decide⟩
  refine sm_callW (va_runV (As := As) (rest := rest) (C := RJ0) (nL := nL) (n := As.length) (index := idx) ⟨hx, hb, hml, hown, hts⟩ hM
    (cwV As.length hts hG rfl rfl rfl ⟨hyc, by rw [hyc]; exact hne.1, by rw [hyc]; exact hne.2, hpar⟩ ⟨by show 5 + 1 ≤ R.frames; omega, by show 8 + (n + 11) + 165 ≤ R.locals; omega⟩)
    ⟨fun a U g mk q => ⟨q.1, q.2.1, hX.1 U _ q.2.2 (State.WarmedH.refl U) q.2.1 (fun _ _ _ => rfl)⟩, ⟨cell, by rw [hH _ (by omega) (by omega)]; exact c1, c2, c3⟩, fun U hU hW => ⟨rfl, by rw [hU]; exact Nat.le_trans hbase hS.1, hX.1 s U hE hW hbase (fun q h1 h2 => by rw [hU]; exact hH q h1 h2)⟩⟩
    rfl rfl hls rfl (lv_room hcat) hdg ⟨hRc, hRs⟩) (fun v' st₀ t' H1 L h0 h1 hq hL => ?_)
  obtain ⟨hv, hh⟩ := hq
  cases hv
  have : H1 = H := by rw [← h1, hh, h0]
  subst this
  exact k (locs ++ L) ⟨hS.1, hS.2.1, fun q hq => (List.mem_append.mp hq).elim (hS.2.2 q) (fun h => (hL q h).elim)⟩
theorem sm_split (B : Nat → Nat) (st : List Value) (n : Nat) : sm_cS B st = (((st.take n).reverse).map (sm_cv B)).reverse ++ sm_cS B (st.drop n) := by
  unfold sm_cS
  rw [List.map_reverse, List.reverse_reverse, ← List.map_append, List.take_append_drop]
/-- behind a call of a method of the table -/
theorem sm_back {h : sm_H} {q : Option Value × sm_H} {rest st0 : List Value} {a : Array Value} (hr : va_Run p l e R s m args below meth c H locs cells slots (q.2.length - h.length) (sm_sl q.2 - sm_sl h) (F0 m pc ls st0) (sm_cS B rest) (sm_Qc (dC, dI) B dA base q a) (fun x => base ≤ x))
    (hS : va_S (fun q => base ≤ q) s.heap H locs)
    (k : ∀ (H1 : Heap) (locs1 : List Loc), va_P (dC, dI) vwCl (sm_ws B dA 0 q.2) H1 → va_D (fun q => base ≤ q) (sm_ws B dA 0 q.2) → va_S (fun q => base ≤ q) s.heap H1 locs1 → W p l e R s m args below meth c H1 locs1 (cells + (q.2.length - h.length)) (slots + (sm_sl q.2 - sm_sl h)) Q (F0 m (pc + 3) ls (sm_cS B (q.1.toList ++ rest)))) :
    W p l e R s m args below meth c H locs cells slots Q (F0 m pc ls st0) := by
  refine sm_callW hr (fun v st₀ t H1 L h0 h1 hq hL => ?_)
  obtain ⟨hv, hP, hD, hF1, hF2⟩ := hq
  have hv := Outcome.returned.inj hv
  subst hv
  rw [h0] at hF1 hF2
  have e1 : (q.1.map (sm_cv B)).toList ++ sm_cS B rest = sm_cS B (q.1.toList ++ rest) := by
    cases q.1 <;> rfl
  rw [e1]
  refine k H1 (locs ++ L) (by rw [← h1]; exact hP) hD ⟨Nat.le_trans hS.1 (by rw [← h1]; exact hF1), fun x a1 a2 => ?_, fun x hx => (List.mem_append.mp hx).elim (hS.2.2 x) (hL x)⟩
  rw [← h1, hF2 x (Nat.lt_of_lt_of_le a1 hS.1) a2]
  exact hS.2.1 x a1 a2
set_option maxHeartbeats 8000000 in
theorem sm_sound (hB : ∀ k, k < 1000 → B k = base + k) (hX : sm_Xk l B base X) (hM : ∀ a J, M a = some J → sm_mok M J) : ∀ n, sm_OK M l dC dI dA B base X n := by
  intro n
  induction n with
  | zero => intro d I pc lv st h r hr; cases hr
  | succ n ih =>
    intro d I pc lv st h r hr hmok hfin p e R s m args below meth c H locs cells slots mc ms ls hx hb hrt hml hts hown hlocks hname hK hbase hE hP hD hS hl hsz hmc hms hRc hRs hRf hRl
    have hr0 := sm_run_size M _ _ _ _ _ _ _ _ hr
    unfold sm_run at hr
    split at hr
    rotate_left
    · cases hr
    rename_i w hw
    obtain ⟨hd, hj, hlk, hck⟩ := hmok.2.2.2.2.2 pc w hw
    have hnext := fun pc' lv' st' h' (hr' : sm_run M n d I pc' lv' st' h' = some r) H' locs' cells' slots' ls' => ih d I pc' lv' st' h' r hr' hmok hfin p e R s m args below meth c H' locs' cells' slots' mc ms ls' hx hb hrt hml hts hown hlocks hname hK hbase hE
    split at hr
    · rename_i g hg
      exact sm_p_ok hx hb hd hj hg hl (fun ls' hl' => hnext _ _ _ _ hr _ _ _ _ ls' hP hD hS hl' hsz hmc hms hRc hRs hRf hRl)
    rename_i hz
    clear hz
    split at hr
    · rename_i g hg
      obtain ⟨z1, z2⟩ := sm_h_size hg
      exact sm_h_ok hx hb hts hown (fun hi => by rw [hname]; simpa using hi) hK hP hD hS hd hlk hg (fun H1 locs1 a1 a2 a3 => hnext _ _ _ _ hr _ _ _ _ ls a1 a2 a3 hl (by omega) (by omega) (by omega) hRc hRs hRf hRl)
    rename_i hz
    clear hz
    split at hr
    · rename_i g hg
      obtain ⟨z1, z2⟩ := sm_k_size hg
      obtain ⟨y1, y2⟩ := sm_run_size M _ _ _ _ _ _ _ _ hr
      refine sm_k_ok hx hb hml hl.1 hts hown hK hP hD hS hbase hB hE.2.2.1 hE.1 sm_hobj sm_hcpy ⟨fun h9 idx hi => ?_, fun h9 idx hi => ?_⟩ hsz hRf hRl hd hlk hg (by omega) (by omega) (fun H1 locs1 c1 s1 e1 e2 a1 a2 a3 => hnext _ _ _ _ hr _ _ _ _ ls a1 a2 a3 hl (by omega) (by omega) (by omega) hRc hRs hRf hRl)
      · unfold sm_ck at hck; rw [hi] at hck; exact hck.1 h9
      · unfold sm_ck at hck; rw [hi] at hck; exact hck.1 h9
    rename_i hz
    clear hz
    split at hr
    · rename_i g hg
      unfold sm_x at hg
      split at hg <;> first | (cases hg; done) | skip
      rename_i idx hi
      have hd2 := sm_dc1 hd (by rw [hi]; rfl)
      rw [hi] at hd2
      unfold sm_ck at hck
      rw [hi] at hck
      have hfinish : ∀ (v : Int32) (rest : List Value), g = .int v :: rest → ∀ locs' : List Loc, va_S (fun q => base ≤ q) s.heap H locs' → W p l e R s m args below meth c H locs' cells slots (MQ below (sm_Qc (dC, dI) B dA base r) args s mc ms (fun q => base ≤ q)) (F0 m (pc + 3) ls (.int v :: sm_cS B rest)) := by
        intro v rest hg locs' hS'
        subst hg
        exact hnext _ _ _ _ hr _ _ _ _ ls hP hD hS' hl hsz hmc hms hRc hRs hRf hRl
      split at hg
      · rename_i h9
        split at hg <;> first | (cases hg; done) | skip
        rename_i a rest
        split at hg <;> first | (cases hg; done) | skip
        rename_i hh
        obtain ⟨hd6, hcat, h1, h2⟩ := hh
        cases hg
        obtain ⟨ha, ha6⟩ := sm_1000 a h1 h2
        have := sm_x_ok (ls := ls) (i := a - 1000) (As := []) (rest := sm_cS B rest) (Q := MQ below (sm_Qc (dC, dI) B dA base r) args s mc ms (fun q => base ≤ q)) hX hx hb hml hl.1 hts hown hE.2.2.2 hbase hS (by rw [sm_cS_cat]; exact hcat) hRf hRl hd6 (by omega) (by omega) ha6 rfl sm_xw0 (by decide) sm_xp0 (hck.1 h9) (hX.2.2.1 (a - 1000) ha6) hd2 (hfinish _ _ rfl)
        rw [ha] at this
        exact this
      split at hg
      · rename_i h9
        split at hg <;> first | (cases hg; done) | skip
        rename_i i a rest
        split at hg <;> first | (cases hg; done) | skip
        rename_i hh
        obtain ⟨hd6, hcat, h1, h2, h3⟩ := hh
        cases hg
        obtain ⟨ha, ha6⟩ := sm_1000 a h1 h2
        have := sm_x_ok (ls := ls) (i := a - 1000) (As := [.int i]) (rest := sm_cS B rest) (Q := MQ below (sm_Qc (dC, dI) B dA base r) args s mc ms (fun q => base ≤ q)) hX hx hb hml hl.1 hts hown hE.2.2.2 hbase hS (by rw [sm_cS_cat]; exact hcat) hRf hRl hd6 (by omega) (by omega) ha6 rfl sm_xw1 (by decide) sm_xp1 (hck.2.1 h9) (hX.2.2.2.1 (a - 1000) ha6 i h3) hd2 (hfinish _ _ rfl)
        rw [ha] at this
        exact this
      split at hg
      · rename_i h9
        split at hg <;> first | (cases hg; done) | skip
        rename_i b a rest
        split at hg <;> first | (cases hg; done) | skip
        rename_i hh
        obtain ⟨hd6, hcat, h1, h2, h3, h4⟩ := hh
        cases hg
        obtain ⟨ha, ha6⟩ := sm_1000 a h1 h2
        obtain ⟨hb2, hb6⟩ := sm_1000 b h3 h4
        have hMet := hX.2.2.2.2 (a - 1000) (b - 1000) ha6 hb6
        rw [sm_1000eq a b h1 h3, hb2] at hMet
        have := sm_x_ok (ls := ls) (i := a - 1000) (As := [.ref (B b)]) (rest := sm_cS B rest) (Q := MQ below (sm_Qc (dC, dI) B dA base r) args s mc ms (fun q => base ≤ q)) hX hx hb hml hl.1 hts hown hE.2.2.2 hbase hS (by rw [sm_cS_cat]; exact hcat) hRf hRl hd6 (by omega) (by omega) ha6 rfl sm_xw2 (by decide) sm_xp2 (hck.2.2.1 h9) hMet hd2 (hfinish _ _ rfl)
        rw [ha] at this
        exact this
      · cases hg
    rename_i hz
    clear hz
    split at hr
    · rename_i v hg
      cases hr
      have e1 : mc = cells := by dsimp only at hmc; omega
      have e2 : ms = slots := by dsimp only at hms; omega
      subst e1
      subst e2
      have hq : ∀ (oc : Outcome) (t : State), oc = .returned (v.map (sm_cv B)) → t.heap = H → sm_Qc (dC, dI) B dA base (v, h) args s oc t := fun oc t ho ht => ⟨ho, by rw [ht]; exact hP, hD, hS.F ht⟩
      unfold sm_rt at hg
      split at hg <;> first | (cases hg; done) | skip
      · rename_i h1 h2
        cases hg
        have hd2 := sm_dc1 hd (by rw [h1]; rfl)
        rw [h1] at hd2
        exact W.vret hx hb (hrt.trans h2) (fun t ht _ => hq _ t rfl ht) hS.2.2 hd2 hlocks
      · rename_i x h1 h2
        cases hg
        have hd2 := sm_dc1 hd (by rw [h1]; rfl)
        rw [h1] at hd2
        exact W.iret hx hb (hrt.trans h2) (fun t ht _ => hq _ t rfl ht) hS.2.2 hd2 hlocks
      · rename_i x h1 h2
        split at hg <;> first | (cases hg; done) | skip
        rename_i hz
        cases hg
        have hd2 := sm_dc1 hd (by rw [h1]; rfl)
        rw [h1] at hd2
        exact W.zret hx hb (hrt.trans h2) (by rcases hz with hz | hz <;> subst hz <;> decide) (fun t ht _ => hq _ t rfl ht) hS.2.2 hd2 hlocks
      · rename_i x h1 h2
        cases hg
        have hd2 := sm_dc1 hd (by rw [h1]; rfl)
        rw [h1] at hd2
        exact W.lret hx hb (hrt.trans h2) (fun t ht _ => hq _ t rfl ht) hS.2.2 hd2 hlocks
      · rename_i nm a h1 h2
        cases hg
        have hd2 := sm_dc1 hd (by rw [h1]; rfl)
        rw [h1] at hd2
        exact W.aret hx hb (hrt.trans h2) (Or.inl ⟨_, rfl⟩) (Or.inr ⟨_, rfl⟩) (fun t ht _ => hq _ t rfl ht) hS.2.2 hd2 hlocks
      · rename_i nm h1 h2
        cases hg
        have hd2 := sm_dc1 hd (by rw [h1]; rfl)
        rw [h1] at hd2
        exact W.aret hx hb (hrt.trans h2) (Or.inl ⟨_, rfl⟩) (Or.inl rfl) (fun t ht _ => hq _ t rfl ht) hS.2.2 hd2 hlocks
    rename_i hz
    clear hz
    split at hr
    rotate_left
    · cases hr
    rename_i g hg
    split at hr
    · cases hr
    rename_i d
    split at hr
    rotate_left
    · cases hr
    rename_i J hJ
    split at hr
    rotate_left
    · cases hr
    rename_i hcat
    split at hr
    rotate_left
    · cases hr
    rename_i q hq
    have hmJ := hM _ _ hJ
    obtain ⟨y1, y2⟩ := sm_run_size M _ _ _ _ _ _ _ _ hr
    obtain ⟨x1, x2⟩ := sm_run_size M _ _ _ _ _ _ _ _ hq
    have hMet := sm_met ih hX hq hmJ hcat (by omega)
    have hGW := sm_goodIn (sm_WS_in hmJ)
    have hbl := sm_blind (D := (dC, dI)) (dA := dA) hX g.2.1 h
    have hne := hmJ.2.2.2.1
    have hini := hts _ (sm_Gin hmJ.2.2.1 rfl)
    have hroom : (sm_rm d h q).frames + 1 ≤ R.frames ∧ 8 + (J.2.2.1 + 11) + (sm_rm d h q).locals ≤ R.locals := ⟨hRf, by have := hmJ.2.2.2.2.1; show 8 + (J.2.2.1 + 11) + 33 * d ≤ R.locals; omega⟩
    have hf : cells + (q.2.length - h.length) ≤ R.cells ∧ slots + (sm_sl q.2 - sm_sl h) ≤ R.slots := ⟨by omega, by omega⟩
    refine sm_size hP hB (by omega) hS hbase hsz (fun hH => ?_)
    have hpc : ∀ U : State, U.heap = H → s.WarmedH U.vm → sm_Pc (dC, dI) B dA base X g.2.1 h (g.2.1.map (sm_cv B)).toArray U := fun U hU hW => ⟨rfl, by rw [hU]; exact hH, by rw [hU]; exact hP, hD, va_K.moved hW.alike hK, hE.warm hX hW hbase (fun z z1 z2 => by rw [hU]; exact hS.2.1 z z1 z2)⟩
    have hk := fun (rest : List Value) (hrest : g.2.2 = rest) (H1 : Heap) (locs1 : List Loc) (a1 : va_P (dC, dI) vwCl (sm_ws B dA 0 q.2) H1) (a2 : va_D (fun q => base ≤ q) (sm_ws B dA 0 q.2)) (a3 : va_S (fun q => base ≤ q) s.heap H1 locs1) => (by
      subst hrest
      exact hnext _ _ _ _ hr H1 locs1 (cells + (q.2.length - h.length)) (slots + (sm_sl q.2 - sm_sl h)) ls a1 a2 a3 hl (by omega) (by omega) (by omega) hRc hRs hRf hRl : W p l e R s m args below meth c H1 locs1 (cells + (q.2.length - h.length)) (slots + (sm_sl q.2 - sm_sl h)) (MQ below (sm_Qc (dC, dI) B dA base r) args s mc ms (fun q => base ≤ q)) (F0 m (pc + 3) ls (sm_cS B (q.1.toList ++ rest))))
    unfold sm_cl at hg
    unfold sm_ck at hck
    split at hg <;> first | (cases hg; done) | skip
    · rename_i idx hi
      have hd2 := sm_dc1 hd (by rw [hi]; rfl)
      rw [hi] at hd2 hck
      split at hg <;> first | (cases hg; done) | skip
      rename_i b rest hst
      split at hg <;> first | (cases hg; done) | skip
      rename_i ci fs hc
      split at hg <;> first | (cases hg; done) | skip
      rename_i hh
      obtain ⟨hci, hcr, hln⟩ := hh
      cases hg
      obtain ⟨⟨qc, hqc, hqn⟩, hpar, w1, w2, w3⟩ := hck.2.2.2 J hJ
      have hcs := sm_split B st w.2.2.1
      rw [hst] at hcs
      rw [hcs]
      have hlen : (((st.take w.2.2.1).reverse).map (sm_cv B)).length = w.2.2.1 := by rw [List.length_map, List.length_reverse, List.length_take]; omega
      rw [hci] at hc
      have hrv := va_recv (q := qc) hK hP hqc (sm_ws_at hc)
      rw [hqn] at hrv
      rcases w3 with w3 | ⟨host, w3⟩
      · refine sm_back (q := q) (va_runV (As := ((st.take w.2.2.1).reverse).map (sm_cv B)) (rest := sm_cS B rest) (C := J.1.cls) ⟨hx, hb, hml, hown, hts⟩ hMet (cwV w.2.2.1 hts (sm_goodIn fun z hz => ?_) rfl rfl rfl ⟨rfl, hne.1, hne.2, hpar⟩ hroom) ⟨hbl, hrv, hpc⟩ rfl hlen hl.1 rfl (lv_room (by rw [← sm_cS_cat B] at hcr; exact hcr)) hd2 hf) hS (hk rest rfl)
        rcases List.mem_append.mp hz with hz | hz
        · simp only [List.mem_cons, List.not_mem_nil, or_false] at hz
          rcases hz with rfl | rfl | rfl | rfl
          · exact sm_Gin w3 rfl
          · exact sm_Gin w1 rfl
          · exact sm_Gin w2 rfl
          · exact sm_Gin hmJ.2.2.1 rfl
        · exact sm_WS_in hmJ z hz
      · exact sm_back (q := q) (va_runVN (As := ((st.take w.2.2.1).reverse).map (sm_cv B)) (rest := sm_cS B rest) (C := J.1.cls) ⟨hx, hb, hml, hown, hts⟩ hMet ⟨va_cnB w.2.2.1 hts hGW rfl rfl rfl (hE.2.1 _ _ _ _ w3) hini ⟨hne.1, hne.2, hpar⟩ hroom, hts _ (sm_Gin w1 rfl), hts _ (sm_Gin w2 rfl)⟩ ⟨hbl, hrv, hpc⟩ rfl hlen hl.1 rfl (lv_room (by rw [← sm_cS_cat B] at hcr; exact hcr)) hd2 hf) hS (hk rest rfl)
    · rename_i idx hi
      have hd2 := sm_dc1 hd (by rw [hi]; rfl)
      rw [hi] at hd2 hck
      split at hg <;> first | (cases hg; done) | skip
      rename_i b rest hst
      split at hg <;> first | (cases hg; done) | skip
      rename_i hh
      obtain ⟨hcr, hln⟩ := hh
      cases hg
      obtain ⟨hpar, w1, w2, w4, w3⟩ := hck.2 J hJ
      have hcs := sm_split B st w.2.2.1
      rw [hst] at hcs
      rw [hcs]
      have hlen : (((st.take w.2.2.1).reverse).map (sm_cv B)).length = w.2.2.1 := by rw [List.length_map, List.length_reverse, List.length_take]; omega
      have hcode : sm_WS J = Cond.code J.1 J.2.1 J.2.2.1 none :: sm_G := by unfold sm_WS; rw [w4]
      rcases w3 with w3 | ⟨host, w3⟩
      · exact sm_back (q := q) (va_runI (As := ((st.take w.2.2.1).reverse).map (sm_cv B)) (rest := sm_cS B rest) ⟨hx, hb, hml, hown, hts⟩ hMet (cwI w.2.2.1 hts hGW hcode rfl rfl hini (hts _ (sm_Gin w3 rfl)) (hts _ (sm_Gin w1 rfl)) w2 ⟨hne.1, hne.2, hpar⟩ hroom) ⟨hbl, hpc⟩ rfl hlen hl.1 rfl (lv_room (by rw [← sm_cS_cat B] at hcr; exact hcr)) hd2 hf) hS (hk rest rfl)
      · exact sm_back (q := q) (va_runIN (As := ((st.take w.2.2.1).reverse).map (sm_cv B)) (rest := sm_cS B rest) ⟨hx, hb, hml, hown, hts⟩ hMet ⟨va_cnB w.2.2.1 hts hGW hcode rfl rfl (hE.2.1 _ _ _ _ w3) hini ⟨hne.1, hne.2, hpar⟩ hroom, w2, hts _ (sm_Gin w1 rfl)⟩ ⟨hbl, hpc⟩ rfl hlen hl.1 rfl (lv_room (by rw [← sm_cS_cat B] at hcr; exact hcr)) hd2 hf) hS (hk rest rfl)
    · rename_i idx hi
      have hd2 := sm_dc1 hd (by rw [hi]; rfl)
      rw [hi] at hd2 hck
      split at hg <;> first | (cases hg; done) | skip
      rename_i hh
      obtain ⟨hcr, hln⟩ := hh
      cases hg
      obtain ⟨hpar, w1, w3⟩ := hck.2 J hJ
      have hcs := sm_split B st w.2.2.1
      rw [hcs]
      have hlen : (((st.take w.2.2.1).reverse).map (sm_cv B)).length = w.2.2.1 := by rw [List.length_map, List.length_reverse, List.length_take]; omega
      rcases w3 with w3 | ⟨host, w3⟩
      · refine sm_back (q := q) (va_runS (As := ((st.take w.2.2.1).reverse).map (sm_cv B)) (rest := sm_cS B (st.drop w.2.2.1)) ⟨hx, hb, hml, hown, hts⟩ hMet (va_cwS w.2.2.1 hts (sm_goodIn fun z hz => ?_) rfl rfl rfl ⟨hne.1, hne.2, hpar⟩ hroom) ⟨hbl, hpc⟩ rfl hlen hl.1 rfl (lv_room (by rw [← sm_cS_cat B] at hcr; exact hcr)) hd2 hf) hS (hk _ rfl)
        rcases List.mem_append.mp hz with hz | hz
        · simp only [List.mem_cons, List.not_mem_nil, or_false] at hz
          rcases hz with rfl | rfl | rfl
          · exact sm_Gin w3 rfl
          · exact sm_Gin w1 rfl
          · exact sm_Gin hmJ.2.2.1 rfl
        · exact sm_WS_in hmJ z hz
      · exact sm_back (q := q) (va_runSN (As := ((st.take w.2.2.1).reverse).map (sm_cv B)) (rest := sm_cS B (st.drop w.2.2.1)) ⟨hx, hb, hml, hown, hts⟩ hMet ⟨va_cnB w.2.2.1 hts hGW rfl rfl rfl (hE.2.1 _ _ _ _ w3) hini ⟨hne.1, hne.2, hpar⟩ hroom, hts _ (sm_Gin w1 rfl), trivial⟩ ⟨hbl, hpc⟩ rfl hlen hl.1 rfl (lv_room (by rw [← sm_cS_cat B] at hcr; exact hcr)) hd2 hf) hS (hk _ rfl)
end SMMAIN
end
section
/-! decoding by the bytes: one comparison an instruction -/
def sm_fb (i : ClassFile.Instr) (r : List UInt8) : Bool := match i with
  | .aconst_null => match r with
    | b0 :: _ => b0.toNat == 1
    | _ => false
  | .iaload => match r with
    | b0 :: _ => b0.toNat == 46
    | _ => false
  | .laload => match r with
    | b0 :: _ => b0.toNat == 47
    | _ => false
  | .aaload => match r with
    | b0 :: _ => b0.toNat == 50
    | _ => false
  | .iastore => match r with
    | b0 :: _ => b0.toNat == 79
    | _ => false
  | .lastore => match r with
    | b0 :: _ => b0.toNat == 80
    | _ => false
  | .aastore => match r with
    | b0 :: _ => b0.toNat == 83
    | _ => false
  | .pop => match r with
    | b0 :: _ => b0.toNat == 87
    | _ => false
  | .dup => match r with
    | b0 :: _ => b0.toNat == 89
    | _ => false
  | .dup_x1 => match r with
    | b0 :: _ => b0.toNat == 90
    | _ => false
  | .dup2 => match r with
    | b0 :: _ => b0.toNat == 92
    | _ => false
  | .iadd => match r with
    | b0 :: _ => b0.toNat == 96
    | _ => false
  | .ladd => match r with
    | b0 :: _ => b0.toNat == 97
    | _ => false
  | .isub => match r with
    | b0 :: _ => b0.toNat == 100
    | _ => false
  | .lsub => match r with
    | b0 :: _ => b0.toNat == 101
    | _ => false
  | .imul => match r with
    | b0 :: _ => b0.toNat == 104
    | _ => false
  | .lmul => match r with
    | b0 :: _ => b0.toNat == 105
    | _ => false
  | .idiv => match r with
    | b0 :: _ => b0.toNat == 108
    | _ => false
  | .ldiv => match r with
    | b0 :: _ => b0.toNat == 109
    | _ => false
  | .irem => match r with
    | b0 :: _ => b0.toNat == 112
    | _ => false
  | .ineg => match r with
    | b0 :: _ => b0.toNat == 116
    | _ => false
  | .lneg => match r with
    | b0 :: _ => b0.toNat == 117
    | _ => false
  | .ishl => match r with
    | b0 :: _ => b0.toNat == 120
    | _ => false
  | .lshl => match r with
    | b0 :: _ => b0.toNat == 121
    | _ => false
  | .ishr => match r with
    | b0 :: _ => b0.toNat == 122
    | _ => false
  | .iushr => match r with
    | b0 :: _ => b0.toNat == 124
    | _ => false
  | .iand => match r with
    | b0 :: _ => b0.toNat == 126
    | _ => false
  | .land => match r with
    | b0 :: _ => b0.toNat == 127
    | _ => false
  | .ior => match r with
    | b0 :: _ => b0.toNat == 128
    | _ => false
  | .lor => match r with
    | b0 :: _ => b0.toNat == 129
    | _ => false
  | .ixor => match r with
    | b0 :: _ => b0.toNat == 130
    | _ => false
  | .lxor => match r with
    | b0 :: _ => b0.toNat == 131
    | _ => false
  | .i2l => match r with
    | b0 :: _ => b0.toNat == 133
    | _ => false
  | .l2i => match r with
    | b0 :: _ => b0.toNat == 136
    | _ => false
  | .i2b => match r with
    | b0 :: _ => b0.toNat == 145
    | _ => false
  | .i2s => match r with
    | b0 :: _ => b0.toNat == 147
    | _ => false
  | .lcmp => match r with
    | b0 :: _ => b0.toNat == 148
    | _ => false
  | .ireturn => match r with
    | b0 :: _ => b0.toNat == 172
    | _ => false
  | .lreturn => match r with
    | b0 :: _ => b0.toNat == 173
    | _ => false
  | .areturn => match r with
    | b0 :: _ => b0.toNat == 176
    | _ => false
  | .return_ => match r with
    | b0 :: _ => b0.toNat == 177
    | _ => false
  | .arraylength => match r with
    | b0 :: _ => b0.toNat == 190
    | _ => false
  | .iload_n k => match r with
    | b0 :: _ => b0.toNat == 26 + k.val
    | _ => false
  | .lload_n k => match r with
    | b0 :: _ => b0.toNat == 30 + k.val
    | _ => false
  | .aload_n k => match r with
    | b0 :: _ => b0.toNat == 42 + k.val
    | _ => false
  | .istore_n k => match r with
    | b0 :: _ => b0.toNat == 59 + k.val
    | _ => false
  | .lstore_n k => match r with
    | b0 :: _ => b0.toNat == 63 + k.val
    | _ => false
  | .astore_n k => match r with
    | b0 :: _ => b0.toNat == 75 + k.val
    | _ => false
  | .iload i => match r with
    | b0 :: b1 :: _ => b0.toNat == 21 && i == b1.toNat
    | _ => false
  | .lload i => match r with
    | b0 :: b1 :: _ => b0.toNat == 22 && i == b1.toNat
    | _ => false
  | .aload i => match r with
    | b0 :: b1 :: _ => b0.toNat == 25 && i == b1.toNat
    | _ => false
  | .istore i => match r with
    | b0 :: b1 :: _ => b0.toNat == 54 && i == b1.toNat
    | _ => false
  | .lstore i => match r with
    | b0 :: b1 :: _ => b0.toNat == 55 && i == b1.toNat
    | _ => false
  | .astore i => match r with
    | b0 :: b1 :: _ => b0.toNat == 58 && i == b1.toNat
    | _ => false
  | .ldc i => match r with
    | b0 :: b1 :: _ => b0.toNat == 18 && i == b1.toNat
    | _ => false
  | .ldc_w i => match r with
    | b0 :: b1 :: b2 :: _ => b0.toNat == 19 && i == b1.toNat * 256 + b2.toNat
    | _ => false
  | .ldc2_w i => match r with
    | b0 :: b1 :: b2 :: _ => b0.toNat == 20 && i == b1.toNat * 256 + b2.toNat
    | _ => false
  | .getfield i => match r with
    | b0 :: b1 :: b2 :: _ => b0.toNat == 180 && i == b1.toNat * 256 + b2.toNat
    | _ => false
  | .putfield i => match r with
    | b0 :: b1 :: b2 :: _ => b0.toNat == 181 && i == b1.toNat * 256 + b2.toNat
    | _ => false
  | .invokevirtual i => match r with
    | b0 :: b1 :: b2 :: _ => b0.toNat == 182 && i == b1.toNat * 256 + b2.toNat
    | _ => false
  | .invokespecial i => match r with
    | b0 :: b1 :: b2 :: _ => b0.toNat == 183 && i == b1.toNat * 256 + b2.toNat
    | _ => false
  | .invokestatic i => match r with
    | b0 :: b1 :: b2 :: _ => b0.toNat == 184 && i == b1.toNat * 256 + b2.toNat
    | _ => false
  | .new i => match r with
    | b0 :: b1 :: b2 :: _ => b0.toNat == 187 && i == b1.toNat * 256 + b2.toNat
    | _ => false
  | .anewarray i => match r with
    | b0 :: b1 :: b2 :: _ => b0.toNat == 189 && i == b1.toNat * 256 + b2.toNat
    | _ => false
  | .goto i => match r with
    | b0 :: b1 :: b2 :: _ => b0.toNat == 167 && decide (i = Reader.signed 16 (b1.toNat * 256 + b2.toNat))
    | _ => false
  | .ifnull i => match r with
    | b0 :: b1 :: b2 :: _ => b0.toNat == 198 && decide (i = Reader.signed 16 (b1.toNat * 256 + b2.toNat))
    | _ => false
  | .ifnonnull i => match r with
    | b0 :: b1 :: b2 :: _ => b0.toNat == 199 && decide (i = Reader.signed 16 (b1.toNat * 256 + b2.toNat))
    | _ => false
  | .sipush i => match r with
    | b0 :: b1 :: b2 :: _ => b0.toNat == 17 && decide (i = Reader.signed 16 (b1.toNat * 256 + b2.toNat))
    | _ => false
  | .ifCond .eq i => match r with
    | b0 :: b1 :: b2 :: _ => b0.toNat == 153 && decide (i = Reader.signed 16 (b1.toNat * 256 + b2.toNat))
    | _ => false
  | .ifCond .ne i => match r with
    | b0 :: b1 :: b2 :: _ => b0.toNat == 154 && decide (i = Reader.signed 16 (b1.toNat * 256 + b2.toNat))
    | _ => false
  | .ifCond .lt i => match r with
    | b0 :: b1 :: b2 :: _ => b0.toNat == 155 && decide (i = Reader.signed 16 (b1.toNat * 256 + b2.toNat))
    | _ => false
  | .ifCond .ge i => match r with
    | b0 :: b1 :: b2 :: _ => b0.toNat == 156 && decide (i = Reader.signed 16 (b1.toNat * 256 + b2.toNat))
    | _ => false
  | .ifCond .gt i => match r with
    | b0 :: b1 :: b2 :: _ => b0.toNat == 157 && decide (i = Reader.signed 16 (b1.toNat * 256 + b2.toNat))
    | _ => false
  | .ifCond .le i => match r with
    | b0 :: b1 :: b2 :: _ => b0.toNat == 158 && decide (i = Reader.signed 16 (b1.toNat * 256 + b2.toNat))
    | _ => false
  | .if_icmp .eq i => match r with
    | b0 :: b1 :: b2 :: _ => b0.toNat == 159 && decide (i = Reader.signed 16 (b1.toNat * 256 + b2.toNat))
    | _ => false
  | .if_icmp .ne i => match r with
    | b0 :: b1 :: b2 :: _ => b0.toNat == 160 && decide (i = Reader.signed 16 (b1.toNat * 256 + b2.toNat))
    | _ => false
  | .if_icmp .lt i => match r with
    | b0 :: b1 :: b2 :: _ => b0.toNat == 161 && decide (i = Reader.signed 16 (b1.toNat * 256 + b2.toNat))
    | _ => false
  | .if_icmp .ge i => match r with
    | b0 :: b1 :: b2 :: _ => b0.toNat == 162 && decide (i = Reader.signed 16 (b1.toNat * 256 + b2.toNat))
    | _ => false
  | .if_icmp .gt i => match r with
    | b0 :: b1 :: b2 :: _ => b0.toNat == 163 && decide (i = Reader.signed 16 (b1.toNat * 256 + b2.toNat))
    | _ => false
  | .if_icmp .le i => match r with
    | b0 :: b1 :: b2 :: _ => b0.toNat == 164 && decide (i = Reader.signed 16 (b1.toNat * 256 + b2.toNat))
    | _ => false
  | .iconst n => match r with
    | b0 :: _ => decide (2 ≤ b0.toNat) && decide (b0.toNat ≤ 8) && decide (n = (b0.toNat : Int) - 3)
    | _ => false
  | .lconst n => match r with
    | b0 :: _ => b0.toNat == 9 + n.val
    | _ => false
  | .bipush n => match r with
    | b0 :: b1 :: _ => b0.toNat == 16 && decide (n = Reader.signed 8 b1.toNat)
    | _ => false
  | .iinc i n => match r with
    | b0 :: b1 :: b2 :: _ => b0.toNat == 132 && i == b1.toNat && decide (n = Reader.signed 8 b2.toNat)
    | _ => false
  | .newarray .int => match r with
    | b0 :: b1 :: _ => b0.toNat == 188 && b1.toNat == 10
    | _ => false
  | .newarray .long => match r with
    | b0 :: b1 :: _ => b0.toNat == 188 && b1.toNat == 11
    | _ => false
  | _ => false
theorem sm_u1 {cc : ByteArray} {p : Nat} {b : UInt8} (h : cc.data.toList[p]? = some b) : (Reader.u1 : Reader DecodeError Nat) cc p = .ok (b.toNat, p + 1) := by
  obtain ⟨hp, hb⟩ := List.getElem?_eq_some_iff.mp h
  have hp' : p < cc.size := hp
  have hb' : cc[p]'hp' = b := by rw [← hb]; rfl
  have e : (Reader.u1 : Reader DecodeError Nat) cc p = (if h : p < cc.size then (do set (p + 1); Pure.pure (cc[p]'h).toNat : Reader DecodeError Nat) else throw (HasTruncated.truncated p)) cc p := rfl
  rw [e, dif_pos hp']
  show Except.ok ((cc[p]'hp').toNat, p + 1) = _
  rw [hb']
theorem sm_u2 {cc : ByteArray} {p : Nat} {b b' : UInt8} (h : cc.data.toList[p]? = some b) (h' : cc.data.toList[p + 1]? = some b') : (Reader.u2 : Reader DecodeError Nat) cc p = .ok (b.toNat * 256 + b'.toNat, p + 2) := by
  have e : (Reader.u2 : Reader DecodeError Nat) cc p = Except.bind ((Reader.u1 : Reader DecodeError Nat) cc p) (fun q => Except.bind ((Reader.u1 : Reader DecodeError Nat) cc q.2) (fun q' => .ok (q.1 * 256 + q'.1, q'.2))) := rfl
  rw [e, sm_u1 h]
  show Except.bind ((Reader.u1 : Reader DecodeError Nat) cc (p + 1)) _ = _
  rw [sm_u1 h']
  rfl
theorem sm_s2 {cc : ByteArray} {p : Nat} {b b' : UInt8} (h : cc.data.toList[p]? = some b) (h' : cc.data.toList[p + 1]? = some b') : (Reader.s2 : Reader DecodeError Int) cc p = .ok (Reader.signed 16 (b.toNat * 256 + b'.toNat), p + 2) := by
  have e : (Reader.s2 : Reader DecodeError Int) cc p = Except.bind ((Reader.u2 : Reader DecodeError Nat) cc p) (fun q => .ok (Reader.signed 16 q.1, q.2)) := rfl
  rw [e, sm_u2 h h']
  rfl
theorem sm_s1 {cc : ByteArray} {p : Nat} {b : UInt8} (h : cc.data.toList[p]? = some b) : (Reader.s1 : Reader DecodeError Int) cc p = .ok (Reader.signed 8 b.toNat, p + 1) := by
  have e : (Reader.s1 : Reader DecodeError Int) cc p = Except.bind ((Reader.u1 : Reader DecodeError Nat) cc p) (fun q => .ok (Reader.signed 8 q.1, q.2)) := rfl
  rw [e, sm_u1 h]
  rfl
theorem sm_dcd {cc : ByteArray} {pc n : Nat} {i : ClassFile.Instr} (k : Decoder.instr pc cc pc = .ok (i, pc + n)) : decode cc pc = .ok (i, n) := by
  have e : decode cc pc = Except.bind (Decoder.instr pc cc pc) (fun q => .ok (q.1, q.2 - pc)) := rfl
  rw [e, k]
  show Except.ok (i, pc + n - pc) = _
  rw [Nat.add_sub_cancel_left]
set_option maxHeartbeats 4000000 in
theorem sm_fb_ok {cc : ByteArray} {pc : Nat} {i : ClassFile.Instr} {r : List UInt8} (hr : ∀ k b, r[k]? = some b → cc.data.toList[pc + k]? = some b) (h : sm_fb i r = true) : decode cc pc = .ok (i, sm_len i) := by
  cases i <;> first | (cases h; done) | skip
  case aconst_null =>
    unfold sm_fb at h
    dsimp only at h
    split at h <;> first | (cases h; done) | skip
    rename_i b0 r
    have g0 : cc.data.toList[pc]? = some b0 := hr 0 b0 rfl
    have hb : b0.toNat = 1 := eq_of_beq h
    refine sm_dcd ?_
    show Except.bind ((Reader.u1 : Reader DecodeError Nat) cc pc) _ = _
    rw [sm_u1 g0, hb]
    rfl
  case iaload =>
    unfold sm_fb at h
    dsimp only at h
    split at h <;> first | (cases h; done) | skip
    rename_i b0 r
    have g0 : cc.data.toList[pc]? = some b0 := hr 0 b0 rfl
    have hb : b0.toNat = 46 := eq_of_beq h
    refine sm_dcd ?_
    show Except.bind ((Reader.u1 : Reader DecodeError Nat) cc pc) _ = _
    rw [sm_u1 g0, hb]
    rfl
  case laload =>
    unfold sm_fb at h
    dsimp only at h
    split at h <;> first | (cases h; done) | skip
    rename_i b0 r
    have g0 : cc.data.toList[pc]? = some b0 := hr 0 b0 rfl
    have hb : b0.toNat = 47 := eq_of_beq h
    refine sm_dcd ?_
    show Except.bind ((Reader.u1 : Reader DecodeError Nat) cc pc) _ = _
    rw [sm_u1 g0, hb]
    rfl
  case aaload =>
    unfold sm_fb at h
    dsimp only at h
    split at h <;> first | (cases h; done) | skip
    rename_i b0 r
    have g0 : cc.data.toList[pc]? = some b0 := hr 0 b0 rfl
    have hb : b0.toNat = 50 := eq_of_beq h
    refine sm_dcd ?_
    show Except.bind ((Reader.u1 : Reader DecodeError Nat) cc pc) _ = _
    rw [sm_u1 g0, hb]
    rfl
  case iastore =>
    unfold sm_fb at h
    dsimp only at h
    split at h <;> first | (cases h; done) | skip
    rename_i b0 r
    have g0 : cc.data.toList[pc]? = some b0 := hr 0 b0 rfl
    have hb : b0.toNat = 79 := eq_of_beq h
    refine sm_dcd ?_
    show Except.bind ((Reader.u1 : Reader DecodeError Nat) cc pc) _ = _
    rw [sm_u1 g0, hb]
    rfl
  case lastore =>
    unfold sm_fb at h
    dsimp only at h
    split at h <;> first | (cases h; done) | skip
    rename_i b0 r
    have g0 : cc.data.toList[pc]? = some b0 := hr 0 b0 rfl
    have hb : b0.toNat = 80 := eq_of_beq h
    refine sm_dcd ?_
    show Except.bind ((Reader.u1 : Reader DecodeError Nat) cc pc) _ = _
    rw [sm_u1 g0, hb]
    rfl
  case aastore =>
    unfold sm_fb at h
    dsimp only at h
    split at h <;> first | (cases h; done) | skip
    rename_i b0 r
    have g0 : cc.data.toList[pc]? = some b0 := hr 0 b0 rfl
    have hb : b0.toNat = 83 := eq_of_beq h
    refine sm_dcd ?_
    show Except.bind ((Reader.u1 : Reader DecodeError Nat) cc pc) _ = _
    rw [sm_u1 g0, hb]
    rfl
  case pop =>
    unfold sm_fb at h
    dsimp only at h
    split at h <;> first | (cases h; done) | skip
    rename_i b0 r
    have g0 : cc.data.toList[pc]? = some b0 := hr 0 b0 rfl
    have hb : b0.toNat = 87 := eq_of_beq h
    refine sm_dcd ?_
    show Except.bind ((Reader.u1 : Reader DecodeError Nat) cc pc) _ = _
    rw [sm_u1 g0, hb]
    rfl
  case dup =>
    unfold sm_fb at h
    dsimp only at h
    split at h <;> first | (cases h; done) | skip
    rename_i b0 r
    have g0 : cc.data.toList[pc]? = some b0 := hr 0 b0 rfl
    have hb : b0.toNat = 89 := eq_of_beq h
    refine sm_dcd ?_
    show Except.bind ((Reader.u1 : Reader DecodeError Nat) cc pc) _ = _
    rw [sm_u1 g0, hb]
    rfl
  case dup_x1 =>
    unfold sm_fb at h
    dsimp only at h
    split at h <;> first | (cases h; done) | skip
    rename_i b0 r
    have g0 : cc.data.toList[pc]? = some b0 := hr 0 b0 rfl
    have hb : b0.toNat = 90 := eq_of_beq h
    refine sm_dcd ?_
    show Except.bind ((Reader.u1 : Reader DecodeError Nat) cc pc) _ = _
    rw [sm_u1 g0, hb]
    rfl
  case dup2 =>
    unfold sm_fb at h
    dsimp only at h
    split at h <;> first | (cases h; done) | skip
    rename_i b0 r
    have g0 : cc.data.toList[pc]? = some b0 := hr 0 b0 rfl
    have hb : b0.toNat = 92 := eq_of_beq h
    refine sm_dcd ?_
    show Except.bind ((Reader.u1 : Reader DecodeError Nat) cc pc) _ = _
    rw [sm_u1 g0, hb]
    rfl
  case iadd =>
    unfold sm_fb at h
    dsimp only at h
    split at h <;> first | (cases h; done) | skip
    rename_i b0 r
    have g0 : cc.data.toList[pc]? = some b0 := hr 0 b0 rfl
    have hb : b0.toNat = 96 := eq_of_beq h
    refine sm_dcd ?_
    show Except.bind ((Reader.u1 : Reader DecodeError Nat) cc pc) _ = _
    rw [sm_u1 g0, hb]
    rfl
  case ladd =>
    unfold sm_fb at h
    dsimp only at h
    split at h <;> first | (cases h; done) | skip
    rename_i b0 r
    have g0 : cc.data.toList[pc]? = some b0 := hr 0 b0 rfl
    have hb : b0.toNat = 97 := eq_of_beq h
    refine sm_dcd ?_
    show Except.bind ((Reader.u1 : Reader DecodeError Nat) cc pc) _ = _
    rw [sm_u1 g0, hb]
    rfl
  case isub =>
    unfold sm_fb at h
    dsimp only at h
    split at h <;> first | (cases h; done) | skip
    rename_i b0 r
    have g0 : cc.data.toList[pc]? = some b0 := hr 0 b0 rfl
    have hb : b0.toNat = 100 := eq_of_beq h
    refine sm_dcd ?_
    show Except.bind ((Reader.u1 : Reader DecodeError Nat) cc pc) _ = _
    rw [sm_u1 g0, hb]
    rfl
  case lsub =>
    unfold sm_fb at h
    dsimp only at h
    split at h <;> first | (cases h; done) | skip
    rename_i b0 r
    have g0 : cc.data.toList[pc]? = some b0 := hr 0 b0 rfl
    have hb : b0.toNat = 101 := eq_of_beq h
    refine sm_dcd ?_
    show Except.bind ((Reader.u1 : Reader DecodeError Nat) cc pc) _ = _
    rw [sm_u1 g0, hb]
    rfl
  case imul =>
    unfold sm_fb at h
    dsimp only at h
    split at h <;> first | (cases h; done) | skip
    rename_i b0 r
    have g0 : cc.data.toList[pc]? = some b0 := hr 0 b0 rfl
    have hb : b0.toNat = 104 := eq_of_beq h
    refine sm_dcd ?_
    show Except.bind ((Reader.u1 : Reader DecodeError Nat) cc pc) _ = _
    rw [sm_u1 g0, hb]
    rfl
  case lmul =>
    unfold sm_fb at h
    dsimp only at h
    split at h <;> first | (cases h; done) | skip
    rename_i b0 r
    have g0 : cc.data.toList[pc]? = some b0 := hr 0 b0 rfl
    have hb : b0.toNat = 105 := eq_of_beq h
    refine sm_dcd ?_
    show Except.bind ((Reader.u1 : Reader DecodeError Nat) cc pc) _ = _
    rw [sm_u1 g0, hb]
    rfl
  case idiv =>
    unfold sm_fb at h
    dsimp only at h
    split at h <;> first | (cases h; done) | skip
    rename_i b0 r
    have g0 : cc.data.toList[pc]? = some b0 := hr 0 b0 rfl
    have hb : b0.toNat = 108 := eq_of_beq h
    refine sm_dcd ?_
    show Except.bind ((Reader.u1 : Reader DecodeError Nat) cc pc) _ = _
    rw [sm_u1 g0, hb]
    rfl
  case ldiv =>
    unfold sm_fb at h
    dsimp only at h
    split at h <;> first | (cases h; done) | skip
    rename_i b0 r
    have g0 : cc.data.toList[pc]? = some b0 := hr 0 b0 rfl
    have hb : b0.toNat = 109 := eq_of_beq h
    refine sm_dcd ?_
    show Except.bind ((Reader.u1 : Reader DecodeError Nat) cc pc) _ = _
    rw [sm_u1 g0, hb]
    rfl
  case irem =>
    unfold sm_fb at h
    dsimp only at h
    split at h <;> first | (cases h; done) | skip
    rename_i b0 r
    have g0 : cc.data.toList[pc]? = some b0 := hr 0 b0 rfl
    have hb : b0.toNat = 112 := eq_of_beq h
    refine sm_dcd ?_
    show Except.bind ((Reader.u1 : Reader DecodeError Nat) cc pc) _ = _
    rw [sm_u1 g0, hb]
    rfl
  case ineg =>
    unfold sm_fb at h
    dsimp only at h
    split at h <;> first | (cases h; done) | skip
    rename_i b0 r
    have g0 : cc.data.toList[pc]? = some b0 := hr 0 b0 rfl
    have hb : b0.toNat = 116 := eq_of_beq h
    refine sm_dcd ?_
    show Except.bind ((Reader.u1 : Reader DecodeError Nat) cc pc) _ = _
    rw [sm_u1 g0, hb]
    rfl
  case lneg =>
    unfold sm_fb at h
    dsimp only at h
    split at h <;> first | (cases h; done) | skip
    rename_i b0 r
    have g0 : cc.data.toList[pc]? = some b0 := hr 0 b0 rfl
    have hb : b0.toNat = 117 := eq_of_beq h
    refine sm_dcd ?_
    show Except.bind ((Reader.u1 : Reader DecodeError Nat) cc pc) _ = _
    rw [sm_u1 g0, hb]
    rfl
  case ishl =>
    unfold sm_fb at h
    dsimp only at h
    split at h <;> first | (cases h; done) | skip
    rename_i b0 r
    have g0 : cc.data.toList[pc]? = some b0 := hr 0 b0 rfl
    have hb : b0.toNat = 120 := eq_of_beq h
    refine sm_dcd ?_
    show Except.bind ((Reader.u1 : Reader DecodeError Nat) cc pc) _ = _
    rw [sm_u1 g0, hb]
    rfl
  case lshl =>
    unfold sm_fb at h
    dsimp only at h
    split at h <;> first | (cases h; done) | skip
    rename_i b0 r
    have g0 : cc.data.toList[pc]? = some b0 := hr 0 b0 rfl
    have hb : b0.toNat = 121 := eq_of_beq h
    refine sm_dcd ?_
    show Except.bind ((Reader.u1 : Reader DecodeError Nat) cc pc) _ = _
    rw [sm_u1 g0, hb]
    rfl
  case ishr =>
    unfold sm_fb at h
    dsimp only at h
    split at h <;> first | (cases h; done) | skip
    rename_i b0 r
    have g0 : cc.data.toList[pc]? = some b0 := hr 0 b0 rfl
    have hb : b0.toNat = 122 := eq_of_beq h
    refine sm_dcd ?_
    show Except.bind ((Reader.u1 : Reader DecodeError Nat) cc pc) _ = _
    rw [sm_u1 g0, hb]
    rfl
  case iushr =>
    unfold sm_fb at h
    dsimp only at h
    split at h <;> first | (cases h; done) | skip
    rename_i b0 r
    have g0 : cc.data.toList[pc]? = some b0 := hr 0 b0 rfl
    have hb : b0.toNat = 124 := eq_of_beq h
    refine sm_dcd ?_
    show Except.bind ((Reader.u1 : Reader DecodeError Nat) cc pc) _ = _
    rw [sm_u1 g0, hb]
    rfl
  case iand =>
    unfold sm_fb at h
    dsimp only at h
    split at h <;> first | (cases h; done) | skip
    rename_i b0 r
    have g0 : cc.data.toList[pc]? = some b0 := hr 0 b0 rfl
    have hb : b0.toNat = 126 := eq_of_beq h
    refine sm_dcd ?_
    show Except.bind ((Reader.u1 : Reader DecodeError Nat) cc pc) _ = _
    rw [sm_u1 g0, hb]
    rfl
  case land =>
    unfold sm_fb at h
    dsimp only at h
    split at h <;> first | (cases h; done) | skip
    rename_i b0 r
    have g0 : cc.data.toList[pc]? = some b0 := hr 0 b0 rfl
    have hb : b0.toNat = 127 := eq_of_beq h
    refine sm_dcd ?_
    show Except.bind ((Reader.u1 : Reader DecodeError Nat) cc pc) _ = _
    rw [sm_u1 g0, hb]
    rfl
  case ior =>
    unfold sm_fb at h
    dsimp only at h
    split at h <;> first | (cases h; done) | skip
    rename_i b0 r
    have g0 : cc.data.toList[pc]? = some b0 := hr 0 b0 rfl
    have hb : b0.toNat = 128 := eq_of_beq h
    refine sm_dcd ?_
    show Except.bind ((Reader.u1 : Reader DecodeError Nat) cc pc) _ = _
    rw [sm_u1 g0, hb]
    rfl
  case lor =>
    unfold sm_fb at h
    dsimp only at h
    split at h <;> first | (cases h; done) | skip
    rename_i b0 r
    have g0 : cc.data.toList[pc]? = some b0 := hr 0 b0 rfl
    have hb : b0.toNat = 129 := eq_of_beq h
    refine sm_dcd ?_
    show Except.bind ((Reader.u1 : Reader DecodeError Nat) cc pc) _ = _
    rw [sm_u1 g0, hb]
    rfl
  case ixor =>
    unfold sm_fb at h
    dsimp only at h
    split at h <;> first | (cases h; done) | skip
    rename_i b0 r
    have g0 : cc.data.toList[pc]? = some b0 := hr 0 b0 rfl
    have hb : b0.toNat = 130 := eq_of_beq h
    refine sm_dcd ?_
    show Except.bind ((Reader.u1 : Reader DecodeError Nat) cc pc) _ = _
    rw [sm_u1 g0, hb]
    rfl
  case lxor =>
    unfold sm_fb at h
    dsimp only at h
    split at h <;> first | (cases h; done) | skip
    rename_i b0 r
    have g0 : cc.data.toList[pc]? = some b0 := hr 0 b0 rfl
    have hb : b0.toNat = 131 := eq_of_beq h
    refine sm_dcd ?_
    show Except.bind ((Reader.u1 : Reader DecodeError Nat) cc pc) _ = _
    rw [sm_u1 g0, hb]
    rfl
  case i2l =>
    unfold sm_fb at h
    dsimp only at h
    split at h <;> first | (cases h; done) | skip
    rename_i b0 r
    have g0 : cc.data.toList[pc]? = some b0 := hr 0 b0 rfl
    have hb : b0.toNat = 133 := eq_of_beq h
    refine sm_dcd ?_
    show Except.bind ((Reader.u1 : Reader DecodeError Nat) cc pc) _ = _
    rw [sm_u1 g0, hb]
    rfl
  case l2i =>
    unfold sm_fb at h
    dsimp only at h
    split at h <;> first | (cases h; done) | skip
    rename_i b0 r
    have g0 : cc.data.toList[pc]? = some b0 := hr 0 b0 rfl
    have hb : b0.toNat = 136 := eq_of_beq h
    refine sm_dcd ?_
    show Except.bind ((Reader.u1 : Reader DecodeError Nat) cc pc) _ = _
    rw [sm_u1 g0, hb]
    rfl
  case i2b =>
    unfold sm_fb at h
    dsimp only at h
    split at h <;> first | (cases h; done) | skip
    rename_i b0 r
    have g0 : cc.data.toList[pc]? = some b0 := hr 0 b0 rfl
    have hb : b0.toNat = 145 := eq_of_beq h
    refine sm_dcd ?_
    show Except.bind ((Reader.u1 : Reader DecodeError Nat) cc pc) _ = _
    rw [sm_u1 g0, hb]
    rfl
  case i2s =>
    unfold sm_fb at h
    dsimp only at h
    split at h <;> first | (cases h; done) | skip
    rename_i b0 r
    have g0 : cc.data.toList[pc]? = some b0 := hr 0 b0 rfl
    have hb : b0.toNat = 147 := eq_of_beq h
    refine sm_dcd ?_
    show Except.bind ((Reader.u1 : Reader DecodeError Nat) cc pc) _ = _
    rw [sm_u1 g0, hb]
    rfl
  case lcmp =>
    unfold sm_fb at h
    dsimp only at h
    split at h <;> first | (cases h; done) | skip
    rename_i b0 r
    have g0 : cc.data.toList[pc]? = some b0 := hr 0 b0 rfl
    have hb : b0.toNat = 148 := eq_of_beq h
    refine sm_dcd ?_
    show Except.bind ((Reader.u1 : Reader DecodeError Nat) cc pc) _ = _
    rw [sm_u1 g0, hb]
    rfl
  case ireturn =>
    unfold sm_fb at h
    dsimp only at h
    split at h <;> first | (cases h; done) | skip
    rename_i b0 r
    have g0 : cc.data.toList[pc]? = some b0 := hr 0 b0 rfl
    have hb : b0.toNat = 172 := eq_of_beq h
    refine sm_dcd ?_
    show Except.bind ((Reader.u1 : Reader DecodeError Nat) cc pc) _ = _
    rw [sm_u1 g0, hb]
    rfl
  case lreturn =>
    unfold sm_fb at h
    dsimp only at h
    split at h <;> first | (cases h; done) | skip
    rename_i b0 r
    have g0 : cc.data.toList[pc]? = some b0 := hr 0 b0 rfl
    have hb : b0.toNat = 173 := eq_of_beq h
    refine sm_dcd ?_
    show Except.bind ((Reader.u1 : Reader DecodeError Nat) cc pc) _ = _
    rw [sm_u1 g0, hb]
    rfl
  case areturn =>
    unfold sm_fb at h
    dsimp only at h
    split at h <;> first | (cases h; done) | skip
    rename_i b0 r
    have g0 : cc.data.toList[pc]? = some b0 := hr 0 b0 rfl
    have hb : b0.toNat = 176 := eq_of_beq h
    refine sm_dcd ?_
    show Except.bind ((Reader.u1 : Reader DecodeError Nat) cc pc) _ = _
    rw [sm_u1 g0, hb]
    rfl
  case return_ =>
    unfold sm_fb at h
    dsimp only at h
    split at h <;> first | (cases h; done) | skip
    rename_i b0 r
    have g0 : cc.data.toList[pc]? = some b0 := hr 0 b0 rfl
    have hb : b0.toNat = 177 := eq_of_beq h
    refine sm_dcd ?_
    show Except.bind ((Reader.u1 : Reader DecodeError Nat) cc pc) _ = _
    rw [sm_u1 g0, hb]
    rfl
  case arraylength =>
    unfold sm_fb at h
    dsimp only at h
    split at h <;> first | (cases h; done) | skip
    rename_i b0 r
    have g0 : cc.data.toList[pc]? = some b0 := hr 0 b0 rfl
    have hb : b0.toNat = 190 := eq_of_beq h
    refine sm_dcd ?_
    show Except.bind ((Reader.u1 : Reader DecodeError Nat) cc pc) _ = _
    rw [sm_u1 g0, hb]
    rfl
  case iload_n n =>
    unfold sm_fb at h
    dsimp only at h
    split at h <;> first | (cases h; done) | skip
    rename_i b0 r
    have g0 : cc.data.toList[pc]? = some b0 := hr 0 b0 rfl
    have hb : b0.toNat = 26 + n.val := eq_of_beq h
    refine sm_dcd ?_
    show Except.bind ((Reader.u1 : Reader DecodeError Nat) cc pc) _ = _
    rw [sm_u1 g0, hb]
    match n with
    | 0 => rfl
    | 1 => rfl
    | 2 => rfl
    | 3 => rfl
  case lload_n n =>
    unfold sm_fb at h
    dsimp only at h
    split at h <;> first | (cases h; done) | skip
    rename_i b0 r
    have g0 : cc.data.toList[pc]? = some b0 := hr 0 b0 rfl
    have hb : b0.toNat = 30 + n.val := eq_of_beq h
    refine sm_dcd ?_
    show Except.bind ((Reader.u1 : Reader DecodeError Nat) cc pc) _ = _
    rw [sm_u1 g0, hb]
    match n with
    | 0 => rfl
    | 1 => rfl
    | 2 => rfl
    | 3 => rfl
  case aload_n n =>
    unfold sm_fb at h
    dsimp only at h
    split at h <;> first | (cases h; done) | skip
    rename_i b0 r
    have g0 : cc.data.toList[pc]? = some b0 := hr 0 b0 rfl
    have hb : b0.toNat = 42 + n.val := eq_of_beq h
    refine sm_dcd ?_
    show Except.bind ((Reader.u1 : Reader DecodeError Nat) cc pc) _ = _
    rw [sm_u1 g0, hb]
    match n with
    | 0 => rfl
    | 1 => rfl
    | 2 => rfl
    | 3 => rfl
  case istore_n n =>
    unfold sm_fb at h
    dsimp only at h
    split at h <;> first | (cases h; done) | skip
    rename_i b0 r
    have g0 : cc.data.toList[pc]? = some b0 := hr 0 b0 rfl
    have hb : b0.toNat = 59 + n.val := eq_of_beq h
    refine sm_dcd ?_
    show Except.bind ((Reader.u1 : Reader DecodeError Nat) cc pc) _ = _
    rw [sm_u1 g0, hb]
    match n with
    | 0 => rfl
    | 1 => rfl
    | 2 => rfl
    | 3 => rfl
  case lstore_n n =>
    unfold sm_fb at h
    dsimp only at h
    split at h <;> first | (cases h; done) | skip
    rename_i b0 r
    have g0 : cc.data.toList[pc]? = some b0 := hr 0 b0 rfl
    have hb : b0.toNat = 63 + n.val := eq_of_beq h
    refine sm_dcd ?_
    show Except.bind ((Reader.u1 : Reader DecodeError Nat) cc pc) _ = _
    rw [sm_u1 g0, hb]
    match n with
    | 0 => rfl
    | 1 => rfl
    | 2 => rfl
    | 3 => rfl
  case astore_n n =>
    unfold sm_fb at h
    dsimp only at h
    split at h <;> first | (cases h; done) | skip
    rename_i b0 r
    have g0 : cc.data.toList[pc]? = some b0 := hr 0 b0 rfl
    have hb : b0.toNat = 75 + n.val := eq_of_beq h
    refine sm_dcd ?_
    show Except.bind ((Reader.u1 : Reader DecodeError Nat) cc pc) _ = _
    rw [sm_u1 g0, hb]
    match n with
    | 0 => rfl
    | 1 => rfl
    | 2 => rfl
    | 3 => rfl
  case iload n =>
    unfold sm_fb at h
    dsimp only at h
    split at h <;> first | (cases h; done) | skip
    rename_i b0 b1 r
    have g0 : cc.data.toList[pc]? = some b0 := hr 0 b0 rfl
    have g1 : cc.data.toList[pc + 1]? = some b1 := hr 1 b1 rfl
    obtain ⟨hb, hn⟩ := (Bool.and_eq_true _ _).mp h
    have hb : b0.toNat = 21 := eq_of_beq hb
    have hn : n = b1.toNat := eq_of_beq hn
    subst hn
    refine sm_dcd ?_
    show Except.bind ((Reader.u1 : Reader DecodeError Nat) cc pc) _ = _
    rw [sm_u1 g0, hb]
    show Except.bind ((Reader.u1 : Reader DecodeError Nat) cc (pc + 1)) _ = _
    rw [sm_u1 g1]
    rfl
  case lload n =>
    unfold sm_fb at h
    dsimp only at h
    split at h <;> first | (cases h; done) | skip
    rename_i b0 b1 r
    have g0 : cc.data.toList[pc]? = some b0 := hr 0 b0 rfl
    have g1 : cc.data.toList[pc + 1]? = some b1 := hr 1 b1 rfl
    obtain ⟨hb, hn⟩ := (Bool.and_eq_true _ _).mp h
    have hb : b0.toNat = 22 := eq_of_beq hb
    have hn : n = b1.toNat := eq_of_beq hn
    subst hn
    refine sm_dcd ?_
    show Except.bind ((Reader.u1 : Reader DecodeError Nat) cc pc) _ = _
    rw [sm_u1 g0, hb]
    show Except.bind ((Reader.u1 : Reader DecodeError Nat) cc (pc + 1)) _ = _
    rw [sm_u1 g1]
    rfl
  case aload n =>
    unfold sm_fb at h
    dsimp only at h
    split at h <;> first | (cases h; done) | skip
    rename_i b0 b1 r
    have g0 : cc.data.toList[pc]? = some b0 := hr 0 b0 rfl
    have g1 : cc.data.toList[pc + 1]? = some b1 := hr 1 b1 rfl
    obtain ⟨hb, hn⟩ := (Bool.and_eq_true _ _).mp h
    have hb : b0.toNat = 25 := eq_of_beq hb
    have hn : n = b1.toNat := eq_of_beq hn
    subst hn
    refine sm_dcd ?_
    show Except.bind ((Reader.u1 : Reader DecodeError Nat) cc pc) _ = _
    rw [sm_u1 g0, hb]
    show Except.bind ((Reader.u1 : Reader DecodeError Nat) cc (pc + 1)) _ = _
    rw [sm_u1 g1]
    rfl
  case istore n =>
    unfold sm_fb at h
    dsimp only at h
    split at h <;> first | (cases h; done) | skip
    rename_i b0 b1 r
    have g0 : cc.data.toList[pc]? = some b0 := hr 0 b0 rfl
    have g1 : cc.data.toList[pc + 1]? = some b1 := hr 1 b1 rfl
    obtain ⟨hb, hn⟩ := (Bool.and_eq_true _ _).mp h
    have hb : b0.toNat = 54 := eq_of_beq hb
    have hn : n = b1.toNat := eq_of_beq hn
    subst hn
    refine sm_dcd ?_
    show Except.bind ((Reader.u1 : Reader DecodeError Nat) cc pc) _ = _
    rw [sm_u1 g0, hb]
    show Except.bind ((Reader.u1 : Reader DecodeError Nat) cc (pc + 1)) _ = _
    rw [sm_u1 g1]
    rfl
  case lstore n =>
    unfold sm_fb at h
    dsimp only at h
    split at h <;> first | (cases h; done) | skip
    rename_i b0 b1 r
    have g0 : cc.data.toList[pc]? = some b0 := hr 0 b0 rfl
    have g1 : cc.data.toList[pc + 1]? = some b1 := hr 1 b1 rfl
    obtain ⟨hb, hn⟩ := (Bool.and_eq_true _ _).mp h
    have hb : b0.toNat = 55 := eq_of_beq hb
    have hn : n = b1.toNat := eq_of_beq hn
    subst hn
    refine sm_dcd ?_
    show Except.bind ((Reader.u1 : Reader DecodeError Nat) cc pc) _ = _
    rw [sm_u1 g0, hb]
    show Except.bind ((Reader.u1 : Reader DecodeError Nat) cc (pc + 1)) _ = _
    rw [sm_u1 g1]
    rfl
  case astore n =>
    unfold sm_fb at h
    dsimp only at h
    split at h <;> first | (cases h; done) | skip
    rename_i b0 b1 r
    have g0 : cc.data.toList[pc]? = some b0 := hr 0 b0 rfl
    have g1 : cc.data.toList[pc + 1]? = some b1 := hr 1 b1 rfl
    obtain ⟨hb, hn⟩ := (Bool.and_eq_true _ _).mp h
    have hb : b0.toNat = 58 := eq_of_beq hb
    have hn : n = b1.toNat := eq_of_beq hn
    subst hn
    refine sm_dcd ?_
    show Except.bind ((Reader.u1 : Reader DecodeError Nat) cc pc) _ = _
    rw [sm_u1 g0, hb]
    show Except.bind ((Reader.u1 : Reader DecodeError Nat) cc (pc + 1)) _ = _
    rw [sm_u1 g1]
    rfl
  case ldc n =>
    unfold sm_fb at h
    dsimp only at h
    split at h <;> first | (cases h; done) | skip
    rename_i b0 b1 r
    have g0 : cc.data.toList[pc]? = some b0 := hr 0 b0 rfl
    have g1 : cc.data.toList[pc + 1]? = some b1 := hr 1 b1 rfl
    obtain ⟨hb, hn⟩ := (Bool.and_eq_true _ _).mp h
    have hb : b0.toNat = 18 := eq_of_beq hb
    have hn : n = b1.toNat := eq_of_beq hn
    subst hn
    refine sm_dcd ?_
    show Except.bind ((Reader.u1 : Reader DecodeError Nat) cc pc) _ = _
    rw [sm_u1 g0, hb]
    show Except.bind ((Reader.u1 : Reader DecodeError Nat) cc (pc + 1)) _ = _
    rw [sm_u1 g1]
    rfl
  case ldc_w n =>
    unfold sm_fb at h
    dsimp only at h
    split at h <;> first | (cases h; done) | skip
    rename_i b0 b1 b2 r
    have g0 : cc.data.toList[pc]? = some b0 := hr 0 b0 rfl
    have g1 : cc.data.toList[pc + 1]? = some b1 := hr 1 b1 rfl
    have g2 : cc.data.toList[pc + 1 + 1]? = some b2 := hr 2 b2 rfl
    obtain ⟨hb, hn⟩ := (Bool.and_eq_true _ _).mp h
    have hb : b0.toNat = 19 := eq_of_beq hb
    have hn : n = b1.toNat * 256 + b2.toNat := eq_of_beq hn
    subst hn
    refine sm_dcd ?_
    show Except.bind ((Reader.u1 : Reader DecodeError Nat) cc pc) _ = _
    rw [sm_u1 g0, hb]
    show Except.bind ((Reader.u2 : Reader DecodeError Nat) cc (pc + 1)) _ = _
    rw [sm_u2 g1 g2]
    rfl
  case ldc2_w n =>
    unfold sm_fb at h
    dsimp only at h
    split at h <;> first | (cases h; done) | skip
    rename_i b0 b1 b2 r
    have g0 : cc.data.toList[pc]? = some b0 := hr 0 b0 rfl
    have g1 : cc.data.toList[pc + 1]? = some b1 := hr 1 b1 rfl
    have g2 : cc.data.toList[pc + 1 + 1]? = some b2 := hr 2 b2 rfl
    obtain ⟨hb, hn⟩ := (Bool.and_eq_true _ _).mp h
    have hb : b0.toNat = 20 := eq_of_beq hb
    have hn : n = b1.toNat * 256 + b2.toNat := eq_of_beq hn
    subst hn
    refine sm_dcd ?_
    show Except.bind ((Reader.u1 : Reader DecodeError Nat) cc pc) _ = _
    rw [sm_u1 g0, hb]
    show Except.bind ((Reader.u2 : Reader DecodeError Nat) cc (pc + 1)) _ = _
    rw [sm_u2 g1 g2]
    rfl
  case getfield n =>
    unfold sm_fb at h
    dsimp only at h
    split at h <;> first | (cases h; done) | skip
    rename_i b0 b1 b2 r
    have g0 : cc.data.toList[pc]? = some b0 := hr 0 b0 rfl
    have g1 : cc.data.toList[pc + 1]? = some b1 := hr 1 b1 rfl
    have g2 : cc.data.toList[pc + 1 + 1]? = some b2 := hr 2 b2 rfl
    obtain ⟨hb, hn⟩ := (Bool.and_eq_true _ _).mp h
    have hb : b0.toNat = 180 := eq_of_beq hb
    have hn : n = b1.toNat * 256 + b2.toNat := eq_of_beq hn
    subst hn
    refine sm_dcd ?_
    show Except.bind ((Reader.u1 : Reader DecodeError Nat) cc pc) _ = _
    rw [sm_u1 g0, hb]
    show Except.bind ((Reader.u2 : Reader DecodeError Nat) cc (pc + 1)) _ = _
    rw [sm_u2 g1 g2]
    rfl
  case putfield n =>
    unfold sm_fb at h
    dsimp only at h
    split at h <;> first | (cases h; done) | skip
    rename_i b0 b1 b2 r
    have g0 : cc.data.toList[pc]? = some b0 := hr 0 b0 rfl
    have g1 : cc.data.toList[pc + 1]? = some b1 := hr 1 b1 rfl
    have g2 : cc.data.toList[pc + 1 + 1]? = some b2 := hr 2 b2 rfl
    obtain ⟨hb, hn⟩ := (Bool.and_eq_true _ _).mp h
    have hb : b0.toNat = 181 := eq_of_beq hb
    have hn : n = b1.toNat * 256 + b2.toNat := eq_of_beq hn
    subst hn
    refine sm_dcd ?_
    show Except.bind ((Reader.u1 : Reader DecodeError Nat) cc pc) _ = _
    rw [sm_u1 g0, hb]
    show Except.bind ((Reader.u2 : Reader DecodeError Nat) cc (pc + 1)) _ = _
    rw [sm_u2 g1 g2]
    rfl
  case invokevirtual n =>
    unfold sm_fb at h
    dsimp only at h
    split at h <;> first | (cases h; done) | skip
    rename_i b0 b1 b2 r
    have g0 : cc.data.toList[pc]? = some b0 := hr 0 b0 rfl
    have g1 : cc.data.toList[pc + 1]? = some b1 := hr 1 b1 rfl
    have g2 : cc.data.toList[pc + 1 + 1]? = some b2 := hr 2 b2 rfl
    obtain ⟨hb, hn⟩ := (Bool.and_eq_true _ _).mp h
    have hb : b0.toNat = 182 := eq_of_beq hb
    have hn : n = b1.toNat * 256 + b2.toNat := eq_of_beq hn
    subst hn
    refine sm_dcd ?_
    show Except.bind ((Reader.u1 : Reader DecodeError Nat) cc pc) _ = _
    rw [sm_u1 g0, hb]
    show Except.bind ((Reader.u2 : Reader DecodeError Nat) cc (pc + 1)) _ = _
    rw [sm_u2 g1 g2]
    rfl
  case invokespecial n =>
    unfold sm_fb at h
    dsimp only at h
    split at h <;> first | (cases h; done) | skip
    rename_i b0 b1 b2 r
    have g0 : cc.data.toList[pc]? = some b0 := hr 0 b0 rfl
    have g1 : cc.data.toList[pc + 1]? = some b1 := hr 1 b1 rfl
    have g2 : cc.data.toList[pc + 1 + 1]? = some b2 := hr 2 b2 rfl
    obtain ⟨hb, hn⟩ := (Bool.and_eq_true _ _).mp h
    have hb : b0.toNat = 183 := eq_of_beq hb
    have hn : n = b1.toNat * 256 + b2.toNat := eq_of_beq hn
    subst hn
    refine sm_dcd ?_
    show Except.bind ((Reader.u1 : Reader DecodeError Nat) cc pc) _ = _
    rw [sm_u1 g0, hb]
    show Except.bind ((Reader.u2 : Reader DecodeError Nat) cc (pc + 1)) _ = _
    rw [sm_u2 g1 g2]
    rfl
  case invokestatic n =>
    unfold sm_fb at h
    dsimp only at h
    split at h <;> first | (cases h; done) | skip
    rename_i b0 b1 b2 r
    have g0 : cc.data.toList[pc]? = some b0 := hr 0 b0 rfl
    have g1 : cc.data.toList[pc + 1]? = some b1 := hr 1 b1 rfl
    have g2 : cc.data.toList[pc + 1 + 1]? = some b2 := hr 2 b2 rfl
    obtain ⟨hb, hn⟩ := (Bool.and_eq_true _ _).mp h
    have hb : b0.toNat = 184 := eq_of_beq hb
    have hn : n = b1.toNat * 256 + b2.toNat := eq_of_beq hn
    subst hn
    refine sm_dcd ?_
    show Except.bind ((Reader.u1 : Reader DecodeError Nat) cc pc) _ = _
    rw [sm_u1 g0, hb]
    show Except.bind ((Reader.u2 : Reader DecodeError Nat) cc (pc + 1)) _ = _
    rw [sm_u2 g1 g2]
    rfl
  case new n =>
    unfold sm_fb at h
    dsimp only at h
    split at h <;> first | (cases h; done) | skip
    rename_i b0 b1 b2 r
    have g0 : cc.data.toList[pc]? = some b0 := hr 0 b0 rfl
    have g1 : cc.data.toList[pc + 1]? = some b1 := hr 1 b1 rfl
    have g2 : cc.data.toList[pc + 1 + 1]? = some b2 := hr 2 b2 rfl
    obtain ⟨hb, hn⟩ := (Bool.and_eq_true _ _).mp h
    have hb : b0.toNat = 187 := eq_of_beq hb
    have hn : n = b1.toNat * 256 + b2.toNat := eq_of_beq hn
    subst hn
    refine sm_dcd ?_
    show Except.bind ((Reader.u1 : Reader DecodeError Nat) cc pc) _ = _
    rw [sm_u1 g0, hb]
    show Except.bind ((Reader.u2 : Reader DecodeError Nat) cc (pc + 1)) _ = _
    rw [sm_u2 g1 g2]
    rfl
  case anewarray n =>
    unfold sm_fb at h
    dsimp only at h
    split at h <;> first | (cases h; done) | skip
    rename_i b0 b1 b2 r
    have g0 : cc.data.toList[pc]? = some b0 := hr 0 b0 rfl
    have g1 : cc.data.toList[pc + 1]? = some b1 := hr 1 b1 rfl
    have g2 : cc.data.toList[pc + 1 + 1]? = some b2 := hr 2 b2 rfl
    obtain ⟨hb, hn⟩ := (Bool.and_eq_true _ _).mp h
    have hb : b0.toNat = 189 := eq_of_beq hb
    have hn : n = b1.toNat * 256 + b2.toNat := eq_of_beq hn
    subst hn
    refine sm_dcd ?_
    show Except.bind ((Reader.u1 : Reader DecodeError Nat) cc pc) _ = _
    rw [sm_u1 g0, hb]
    show Except.bind ((Reader.u2 : Reader DecodeError Nat) cc (pc + 1)) _ = _
    rw [sm_u2 g1 g2]
    rfl
  case goto n =>
    unfold sm_fb at h
    dsimp only at h
    split at h <;> first | (cases h; done) | skip
    rename_i b0 b1 b2 r
    have g0 : cc.data.toList[pc]? = some b0 := hr 0 b0 rfl
    have g1 : cc.data.toList[pc + 1]? = some b1 := hr 1 b1 rfl
    have g2 : cc.data.toList[pc + 1 + 1]? = some b2 := hr 2 b2 rfl
    obtain ⟨hb, hn⟩ := (Bool.and_eq_true _ _).mp h
    have hb : b0.toNat = 167 := eq_of_beq hb
    have hn := of_decide_eq_true hn
    subst hn
    refine sm_dcd ?_
    show Except.bind ((Reader.u1 : Reader DecodeError Nat) cc pc) _ = _
    rw [sm_u1 g0, hb]
    show Except.bind ((Reader.s2 : Reader DecodeError Int) cc (pc + 1)) _ = _
    rw [sm_s2 g1 g2]
    rfl
  case ifnull n =>
    unfold sm_fb at h
    dsimp only at h
    split at h <;> first | (cases h; done) | skip
    rename_i b0 b1 b2 r
    have g0 : cc.data.toList[pc]? = some b0 := hr 0 b0 rfl
    have g1 : cc.data.toList[pc + 1]? = some b1 := hr 1 b1 rfl
    have g2 : cc.data.toList[pc + 1 + 1]? = some b2 := hr 2 b2 rfl
    obtain ⟨hb, hn⟩ := (Bool.and_eq_true _ _).mp h
    have hb : b0.toNat = 198 := eq_of_beq hb
    have hn := of_decide_eq_true hn
    subst hn
    refine sm_dcd ?_
    show Except.bind ((Reader.u1 : Reader DecodeError Nat) cc pc) _ = _
    rw [sm_u1 g0, hb]
    show Except.bind ((Reader.s2 : Reader DecodeError Int) cc (pc + 1)) _ = _
    rw [sm_s2 g1 g2]
    rfl
  case ifnonnull n =>
    unfold sm_fb at h
    dsimp only at h
    split at h <;> first | (cases h; done) | skip
    rename_i b0 b1 b2 r
    have g0 : cc.data.toList[pc]? = some b0 := hr 0 b0 rfl
    have g1 : cc.data.toList[pc + 1]? = some b1 := hr 1 b1 rfl
    have g2 : cc.data.toList[pc + 1 + 1]? = some b2 := hr 2 b2 rfl
    obtain ⟨hb, hn⟩ := (Bool.and_eq_true _ _).mp h
    have hb : b0.toNat = 199 := eq_of_beq hb
    have hn := of_decide_eq_true hn
    subst hn
    refine sm_dcd ?_
    show Except.bind ((Reader.u1 : Reader DecodeError Nat) cc pc) _ = _
    rw [sm_u1 g0, hb]
    show Except.bind ((Reader.s2 : Reader DecodeError Int) cc (pc + 1)) _ = _
    rw [sm_s2 g1 g2]
    rfl
  case sipush n =>
    unfold sm_fb at h
    dsimp only at h
    split at h <;> first | (cases h; done) | skip
    rename_i b0 b1 b2 r
    have g0 : cc.data.toList[pc]? = some b0 := hr 0 b0 rfl
    have g1 : cc.data.toList[pc + 1]? = some b1 := hr 1 b1 rfl
    have g2 : cc.data.toList[pc + 1 + 1]? = some b2 := hr 2 b2 rfl
    obtain ⟨hb, hn⟩ := (Bool.and_eq_true _ _).mp h
    have hb : b0.toNat = 17 := eq_of_beq hb
    have hn := of_decide_eq_true hn
    subst hn
    refine sm_dcd ?_
    show Except.bind ((Reader.u1 : Reader DecodeError Nat) cc pc) _ = _
    rw [sm_u1 g0, hb]
    show Except.bind ((Reader.s2 : Reader DecodeError Int) cc (pc + 1)) _ = _
    rw [sm_s2 g1 g2]
    rfl
  case ifCond c n =>
    cases c
    · unfold sm_fb at h
      dsimp only at h
      split at h <;> first | (cases h; done) | skip
      rename_i b0 b1 b2 r
      have g0 : cc.data.toList[pc]? = some b0 := hr 0 b0 rfl
      have g1 : cc.data.toList[pc + 1]? = some b1 := hr 1 b1 rfl
      have g2 : cc.data.toList[pc + 1 + 1]? = some b2 := hr 2 b2 rfl
      obtain ⟨hb, hn⟩ := (Bool.and_eq_true _ _).mp h
      have hb : b0.toNat = 153 := eq_of_beq hb
      have hn := of_decide_eq_true hn
      subst hn
      refine sm_dcd ?_
      show Except.bind ((Reader.u1 : Reader DecodeError Nat) cc pc) _ = _
      rw [sm_u1 g0, hb]
      show Except.bind ((Reader.s2 : Reader DecodeError Int) cc (pc + 1)) _ = _
      rw [sm_s2 g1 g2]
      rfl
    · unfold sm_fb at h
      dsimp only at h
      split at h <;> first | (cases h; done) | skip
      rename_i b0 b1 b2 r
      have g0 : cc.data.toList[pc]? = some b0 := hr 0 b0 rfl
      have g1 : cc.data.toList[pc + 1]? = some b1 := hr 1 b1 rfl
      have g2 : cc.data.toList[pc + 1 + 1]? = some b2 := hr 2 b2 rfl
      obtain ⟨hb, hn⟩ := (Bool.and_eq_true _ _).mp h
      have hb : b0.toNat = 154 := eq_of_beq hb
      have hn := of_decide_eq_true hn
      subst hn
      refine sm_dcd ?_
      show Except.bind ((Reader.u1 : Reader DecodeError Nat) cc pc) _ = _
      rw [sm_u1 g0, hb]
      show Except.bind ((Reader.s2 : Reader DecodeError Int) cc (pc + 1)) _ = _
      rw [sm_s2 g1 g2]
      rfl
    · unfold sm_fb at h
      dsimp only at h
      split at h <;> first | (cases h; done) | skip
      rename_i b0 b1 b2 r
      have g0 : cc.data.toList[pc]? = some b0 := hr 0 b0 rfl
      have g1 : cc.data.toList[pc + 1]? = some b1 := hr 1 b1 rfl
      have g2 : cc.data.toList[pc + 1 + 1]? = some b2 := hr 2 b2 rfl
      obtain ⟨hb, hn⟩ := (Bool.and_eq_true _ _).mp h
      have hb : b0.toNat = 155 := eq_of_beq hb
      have hn := of_decide_eq_true hn
      subst hn
      refine sm_dcd ?_
      show Except.bind ((Reader.u1 : Reader DecodeError Nat) cc pc) _ = _
      rw [sm_u1 g0, hb]
      show Except.bind ((Reader.s2 : Reader DecodeError Int) cc (pc + 1)) _ = _
      rw [sm_s2 g1 g2]
      rfl
    · unfold sm_fb at h
      dsimp only at h
      split at h <;> first | (cases h; done) | skip
      rename_i b0 b1 b2 r
      have g0 : cc.data.toList[pc]? = some b0 := hr 0 b0 rfl
      have g1 : cc.data.toList[pc + 1]? = some b1 := hr 1 b1 rfl
      have g2 : cc.data.toList[pc + 1 + 1]? = some b2 := hr 2 b2 rfl
      obtain ⟨hb, hn⟩ := (Bool.and_eq_true _ _).mp h
      have hb : b0.toNat = 156 := eq_of_beq hb
      have hn := of_decide_eq_true hn
      subst hn
      refine sm_dcd ?_
      show Except.bind ((Reader.u1 : Reader DecodeError Nat) cc pc) _ = _
      rw [sm_u1 g0, hb]
      show Except.bind ((Reader.s2 : Reader DecodeError Int) cc (pc + 1)) _ = _
      rw [sm_s2 g1 g2]
      rfl
    · unfold sm_fb at h
      dsimp only at h
      split at h <;> first | (cases h; done) | skip
      rename_i b0 b1 b2 r
      have g0 : cc.data.toList[pc]? = some b0 := hr 0 b0 rfl
      have g1 : cc.data.toList[pc + 1]? = some b1 := hr 1 b1 rfl
      have g2 : cc.data.toList[pc + 1 + 1]? = some b2 := hr 2 b2 rfl
      obtain ⟨hb, hn⟩ := (Bool.and_eq_true _ _).mp h
      have hb : b0.toNat = 157 := eq_of_beq hb
      have hn := of_decide_eq_true hn
      subst hn
      refine sm_dcd ?_
      show Except.bind ((Reader.u1 : Reader DecodeError Nat) cc pc) _ = _
      rw [sm_u1 g0, hb]
      show Except.bind ((Reader.s2 : Reader DecodeError Int) cc (pc + 1)) _ = _
      rw [sm_s2 g1 g2]
      rfl
    · unfold sm_fb at h
      dsimp only at h
      split at h <;> first | (cases h; done) | skip
      rename_i b0 b1 b2 r
      have g0 : cc.data.toList[pc]? = some b0 := hr 0 b0 rfl
      have g1 : cc.data.toList[pc + 1]? = some b1 := hr 1 b1 rfl
      have g2 : cc.data.toList[pc + 1 + 1]? = some b2 := hr 2 b2 rfl
      obtain ⟨hb, hn⟩ := (Bool.and_eq_true _ _).mp h
      have hb : b0.toNat = 158 := eq_of_beq hb
      have hn := of_decide_eq_true hn
      subst hn
      refine sm_dcd ?_
      show Except.bind ((Reader.u1 : Reader DecodeError Nat) cc pc) _ = _
      rw [sm_u1 g0, hb]
      show Except.bind ((Reader.s2 : Reader DecodeError Int) cc (pc + 1)) _ = _
      rw [sm_s2 g1 g2]
      rfl
  case if_icmp c n =>
    cases c
    · unfold sm_fb at h
      dsimp only at h
      split at h <;> first | (cases h; done) | skip
      rename_i b0 b1 b2 r
      have g0 : cc.data.toList[pc]? = some b0 := hr 0 b0 rfl
      have g1 : cc.data.toList[pc + 1]? = some b1 := hr 1 b1 rfl
      have g2 : cc.data.toList[pc + 1 + 1]? = some b2 := hr 2 b2 rfl
      obtain ⟨hb, hn⟩ := (Bool.and_eq_true _ _).mp h
      have hb : b0.toNat = 159 := eq_of_beq hb
      have hn := of_decide_eq_true hn
      subst hn
      refine sm_dcd ?_
      show Except.bind ((Reader.u1 : Reader DecodeError Nat) cc pc) _ = _
      rw [sm_u1 g0, hb]
      show Except.bind ((Reader.s2 : Reader DecodeError Int) cc (pc + 1)) _ = _
      rw [sm_s2 g1 g2]
      rfl
    · unfold sm_fb at h
      dsimp only at h
      split at h <;> first | (cases h; done) | skip
      rename_i b0 b1 b2 r
      have g0 : cc.data.toList[pc]? = some b0 := hr 0 b0 rfl
      have g1 : cc.data.toList[pc + 1]? = some b1 := hr 1 b1 rfl
      have g2 : cc.data.toList[pc + 1 + 1]? = some b2 := hr 2 b2 rfl
      obtain ⟨hb, hn⟩ := (Bool.and_eq_true _ _).mp h
      have hb : b0.toNat = 160 := eq_of_beq hb
      have hn := of_decide_eq_true hn
      subst hn
      refine sm_dcd ?_
      show Except.bind ((Reader.u1 : Reader DecodeError Nat) cc pc) _ = _
      rw [sm_u1 g0, hb]
      show Except.bind ((Reader.s2 : Reader DecodeError Int) cc (pc + 1)) _ = _
      rw [sm_s2 g1 g2]
      rfl
    · unfold sm_fb at h
      dsimp only at h
      split at h <;> first | (cases h; done) | skip
      rename_i b0 b1 b2 r
      have g0 : cc.data.toList[pc]? = some b0 := hr 0 b0 rfl
      have g1 : cc.data.toList[pc + 1]? = some b1 := hr 1 b1 rfl
      have g2 : cc.data.toList[pc + 1 + 1]? = some b2 := hr 2 b2 rfl
      obtain ⟨hb, hn⟩ := (Bool.and_eq_true _ _).mp h
      have hb : b0.toNat = 161 := eq_of_beq hb
      have hn := of_decide_eq_true hn
      subst hn
      refine sm_dcd ?_
      show Except.bind ((Reader.u1 : Reader DecodeError Nat) cc pc) _ = _
      rw [sm_u1 g0, hb]
      show Except.bind ((Reader.s2 : Reader DecodeError Int) cc (pc + 1)) _ = _
      rw [sm_s2 g1 g2]
      rfl
    · unfold sm_fb at h
      dsimp only at h
      split at h <;> first | (cases h; done) | skip
      rename_i b0 b1 b2 r
      have g0 : cc.data.toList[pc]? = some b0 := hr 0 b0 rfl
      have g1 : cc.data.toList[pc + 1]? = some b1 := hr 1 b1 rfl
      have g2 : cc.data.toList[pc + 1 + 1]? = some b2 := hr 2 b2 rfl
      obtain ⟨hb, hn⟩ := (Bool.and_eq_true _ _).mp h
      have hb : b0.toNat = 162 := eq_of_beq hb
      have hn := of_decide_eq_true hn
      subst hn
      refine sm_dcd ?_
      show Except.bind ((Reader.u1 : Reader DecodeError Nat) cc pc) _ = _
      rw [sm_u1 g0, hb]
      show Except.bind ((Reader.s2 : Reader DecodeError Int) cc (pc + 1)) _ = _
      rw [sm_s2 g1 g2]
      rfl
    · unfold sm_fb at h
      dsimp only at h
      split at h <;> first | (cases h; done) | skip
      rename_i b0 b1 b2 r
      have g0 : cc.data.toList[pc]? = some b0 := hr 0 b0 rfl
      have g1 : cc.data.toList[pc + 1]? = some b1 := hr 1 b1 rfl
      have g2 : cc.data.toList[pc + 1 + 1]? = some b2 := hr 2 b2 rfl
      obtain ⟨hb, hn⟩ := (Bool.and_eq_true _ _).mp h
      have hb : b0.toNat = 163 := eq_of_beq hb
      have hn := of_decide_eq_true hn
      subst hn
      refine sm_dcd ?_
      show Except.bind ((Reader.u1 : Reader DecodeError Nat) cc pc) _ = _
      rw [sm_u1 g0, hb]
      show Except.bind ((Reader.s2 : Reader DecodeError Int) cc (pc + 1)) _ = _
      rw [sm_s2 g1 g2]
      rfl
    · unfold sm_fb at h
      dsimp only at h
      split at h <;> first | (cases h; done) | skip
      rename_i b0 b1 b2 r
      have g0 : cc.data.toList[pc]? = some b0 := hr 0 b0 rfl
      have g1 : cc.data.toList[pc + 1]? = some b1 := hr 1 b1 rfl
      have g2 : cc.data.toList[pc + 1 + 1]? = some b2 := hr 2 b2 rfl
      obtain ⟨hb, hn⟩ := (Bool.and_eq_true _ _).mp h
      have hb : b0.toNat = 164 := eq_of_beq hb
      have hn := of_decide_eq_true hn
      subst hn
      refine sm_dcd ?_
      show Except.bind ((Reader.u1 : Reader DecodeError Nat) cc pc) _ = _
      rw [sm_u1 g0, hb]
      show Except.bind ((Reader.s2 : Reader DecodeError Int) cc (pc + 1)) _ = _
      rw [sm_s2 g1 g2]
      rfl
  case iconst n =>
    unfold sm_fb at h
    dsimp only at h
    split at h <;> first | (cases h; done) | skip
    rename_i b0 r
    have g0 : cc.data.toList[pc]? = some b0 := hr 0 b0 rfl
    simp only [Bool.and_eq_true, decide_eq_true_eq] at h
    obtain ⟨⟨h1, h2⟩, hn⟩ := h
    refine sm_dcd ?_
    show Except.bind ((Reader.u1 : Reader DecodeError Nat) cc pc) _ = _
    rw [sm_u1 g0]
    rcases (show b0.toNat = 2 ∨ b0.toNat = 3 ∨ b0.toNat = 4 ∨ b0.toNat = 5 ∨ b0.toNat = 6 ∨ b0.toNat = 7 ∨ b0.toNat = 8 by omega) with hb | hb | hb | hb | hb | hb | hb <;> rw [hb] at hn ⊢ <;> subst hn <;> rfl
  case lconst n =>
    unfold sm_fb at h
    dsimp only at h
    split at h <;> first | (cases h; done) | skip
    rename_i b0 r
    have g0 : cc.data.toList[pc]? = some b0 := hr 0 b0 rfl
    have hb : b0.toNat = 9 + n.val := eq_of_beq h
    refine sm_dcd ?_
    show Except.bind ((Reader.u1 : Reader DecodeError Nat) cc pc) _ = _
    rw [sm_u1 g0, hb]
    match n with
    | 0 => rfl
    | 1 => rfl
  case bipush n =>
    unfold sm_fb at h
    dsimp only at h
    split at h <;> first | (cases h; done) | skip
    rename_i b0 b1 r
    have g0 : cc.data.toList[pc]? = some b0 := hr 0 b0 rfl
    have g1 : cc.data.toList[pc + 1]? = some b1 := hr 1 b1 rfl
    obtain ⟨hb, hn⟩ := (Bool.and_eq_true _ _).mp h
    have hb : b0.toNat = 16 := eq_of_beq hb
    have hn := of_decide_eq_true hn
    subst hn
    refine sm_dcd ?_
    show Except.bind ((Reader.u1 : Reader DecodeError Nat) cc pc) _ = _
    rw [sm_u1 g0, hb]
    show Except.bind ((Reader.s1 : Reader DecodeError Int) cc (pc + 1)) _ = _
    rw [sm_s1 g1]
    rfl
  case iinc i n =>
    unfold sm_fb at h
    dsimp only at h
    split at h <;> first | (cases h; done) | skip
    rename_i b0 b1 b2 r
    have g0 : cc.data.toList[pc]? = some b0 := hr 0 b0 rfl
    have g1 : cc.data.toList[pc + 1]? = some b1 := hr 1 b1 rfl
    have g2 : cc.data.toList[pc + 1 + 1]? = some b2 := hr 2 b2 rfl
    simp only [Bool.and_eq_true, decide_eq_true_eq] at h
    obtain ⟨⟨hb, hi⟩, hn⟩ := h
    have hb : b0.toNat = 132 := eq_of_beq hb
    have hi : i = b1.toNat := eq_of_beq hi
    subst hi
    subst hn
    refine sm_dcd ?_
    show Except.bind ((Reader.u1 : Reader DecodeError Nat) cc pc) _ = _
    rw [sm_u1 g0, hb]
    show Except.bind ((Reader.u1 : Reader DecodeError Nat) cc (pc + 1)) _ = _
    rw [sm_u1 g1]
    show Except.bind ((Reader.s1 : Reader DecodeError Int) cc (pc + 1 + 1)) _ = _
    rw [sm_s1 g2]
    rfl
  case newarray ty =>
    cases ty <;> first | (cases h; done) | skip
    · unfold sm_fb at h
      dsimp only at h
      split at h <;> first | (cases h; done) | skip
      rename_i b0 b1 r
      have g0 : cc.data.toList[pc]? = some b0 := hr 0 b0 rfl
      have g1 : cc.data.toList[pc + 1]? = some b1 := hr 1 b1 rfl
      obtain ⟨hb, hn⟩ := (Bool.and_eq_true _ _).mp h
      have hb : b0.toNat = 188 := eq_of_beq hb
      have hn : b1.toNat = 10 := eq_of_beq hn
      refine sm_dcd ?_
      show Except.bind ((Reader.u1 : Reader DecodeError Nat) cc pc) _ = _
      rw [sm_u1 g0, hb]
      show Except.bind ((Reader.u1 : Reader DecodeError Nat) cc (pc + 1)) _ = _
      rw [sm_u1 g1, hn]
      rfl
    · unfold sm_fb at h
      dsimp only at h
      split at h <;> first | (cases h; done) | skip
      rename_i b0 b1 r
      have g0 : cc.data.toList[pc]? = some b0 := hr 0 b0 rfl
      have g1 : cc.data.toList[pc + 1]? = some b1 := hr 1 b1 rfl
      obtain ⟨hb, hn⟩ := (Bool.and_eq_true _ _).mp h
      have hb : b0.toNat = 188 := eq_of_beq hb
      have hn : b1.toNat = 11 := eq_of_beq hn
      refine sm_dcd ?_
      show Except.bind ((Reader.u1 : Reader DecodeError Nat) cc pc) _ = _
      rw [sm_u1 g0, hb]
      show Except.bind ((Reader.u1 : Reader DecodeError Nat) cc (pc + 1)) _ = _
      rw [sm_u1 g1, hn]
      rfl
end
section
def sm_T0 : sm_T := [some (.aload_n 0, 0, 0, 0), some (.invokespecial 3, 999, 0, 0), none, none, some (.aload_n 0, 0, 0, 0), some (.new 9, 1, 0, 0), none, none, some (.dup, 0, 0, 0), some (.bipush 20, 0, 0, 0), none, some (.invokespecial 11, 8, 1, 0), none, none, some (.putfield 14, 0, 0, 13), none, none, some (.aload_n 0, 0, 0, 0), some (.iconst 0, 0, 0, 0), some (.putfield 20, 0, 1, 0), none, none, some (.aload_n 0, 0, 0, 0), some (.iconst 0, 0, 0, 0), some (.putfield 24, 0, 2, 0), none, none, some (.aload_n 0, 0, 0, 0), some (.iconst 0, 0, 0, 0), some (.putfield 27, 0, 3, 0), none, none, some (.aload_n 0, 0, 0, 0), some (.iconst 0, 0, 0, 0), some (.putfield 30, 0, 4, 0), none, none, some (.return_, 0, 0, 0)]
def sm_H0 : List Nat := [0, 2041, 0, 2042, 0, 0, 2043, 2044, 0, 0, 2045, 0, 0, 2046, 0, 0, 2047, 0, 0, 2048, 0]
def sm_I0 : sm_I := (yX0_init, cX0_init, 1, none, sm_T0)
def sm_T1 : sm_T := [some (.aload_n 0, 0, 0, 0), some (.iconst 0, 0, 0, 0), some (.putfield 30, 0, 4, 0), none, none, some (.return_, 0, 0, 0)]
def sm_H1 : List Nat := [0, 0, 2048, 0]
def sm_I1 : sm_I := (yX0_forget, cX0_forget, 1, none, sm_T1)
def sm_T2 : sm_T := [some (.aload_n 0, 0, 0, 0), some (.invokevirtual 33, 1, 0, 0), none, none, some (.aload_n 0, 0, 0, 0), some (.iload_n 1, 0, 0, 0), some (.putfield 20, 0, 1, 0), none, none, some (.aload_n 0, 0, 0, 0), some (.iload_n 2, 0, 0, 0), some (.putfield 24, 0, 2, 0), none, none, some (.aload_n 0, 0, 0, 0), some (.iload_n 3, 0, 0, 0), some (.putfield 27, 0, 3, 0), none, none, some (.return_, 0, 0, 0)]
def sm_H2 : List Nat := [0, 5137, 0, 0, 2045, 0, 0, 2046, 0, 0, 2047, 0]
def sm_I2 : sm_I := (yX0_begin, cX0_begin, 4, none, sm_T2)
def sm_T3 : sm_T := [some (.aload_n 0, 0, 0, 0), some (.getfield 14, 0, 0, 0), none, none, some (.aload_n 0, 0, 0, 0), some (.getfield 30, 0, 4, 0), none, none, some (.iload_n 1, 0, 0, 0), some (.invokevirtual 36, 10, 2, 1), none, none, some (.aload_n 0, 0, 0, 0), some (.dup, 0, 0, 0), some (.getfield 30, 0, 4, 0), none, none, some (.iconst 1, 0, 0, 0), some (.iadd, 0, 0, 0), some (.putfield 30, 0, 4, 0), none, none, some (.return_, 0, 0, 0)]
def sm_H3 : List Nat := [0, 2044, 0, 2048, 0, 5147, 0, 0, 2048, 0, 0, 2048, 0]
def sm_I3 : sm_I := (yX0_note, cX0_note, 2, none, sm_T3)
def sm_T4 : sm_T := [some (.iload_n 1, 0, 0, 0), some (.ifCond .lt 28, 29, 0, 0), none, none, some (.iload_n 1, 0, 0, 0), some (.aload_n 0, 0, 0, 0), some (.getfield 30, 0, 4, 0), none, none, some (.if_icmp .ge 20, 29, 0, 0), none, none, some (.iload_n 1, 0, 0, 0), some (.bipush 20, 0, 0, 0), none, some (.if_icmp .ge 14, 29, 0, 0), none, none, some (.aload_n 0, 0, 0, 0), some (.getfield 14, 0, 0, 0), none, none, some (.iload_n 1, 0, 0, 0), some (.invokevirtual 40, 9, 1, 1), none, none, some (.goto 4, 30, 0, 0), none, none, some (.iconst (-1), 0, 0, 0), some (.ireturn, 0, 0, 0)]
def sm_H4 : List Nat := [0, 0, 0, 0, 2048, 0, 0, 0, 0, 0, 2044, 0, 5166, 0, 0, 0]
def sm_I4 : sm_I := (yX0_kept, cX0_kept, 2, some .int, sm_T4)
def sm_T5 : sm_T := [some (.aload_n 0, 0, 0, 0), some (.getfield 20, 0, 1, 0), none, none, some (.iconst 1, 0, 0, 0), some (.invokestatic 44, 167, 2, 0), none, none, some (.istore_n 2, 0, 0, 0), some (.iload_n 2, 0, 0, 0), some (.ifCond .eq 12, 22, 0, 0), none, none, some (.aload_n 0, 0, 0, 0), some (.bipush 20, 0, 0, 0), none, some (.invokevirtual 48, 3, 1, 0), none, none, some (.goto 17, 36, 0, 0), none, none, some (.aload_n 0, 0, 0, 0), some (.getfield 20, 0, 1, 0), none, none, some (.iconst 5, 0, 0, 0), some (.if_icmp .ne 9, 36, 0, 0), none, none, some (.aload_n 0, 0, 0, 0), some (.bipush 60, 0, 0, 0), none, some (.invokevirtual 48, 3, 1, 0), none, none, some (.aload_n 0, 0, 0, 0), some (.bipush 10, 0, 0, 0), none, some (.invokevirtual 48, 3, 1, 0), none, none, some (.iload_n 1, 0, 0, 0), some (.aload_n 0, 0, 0, 0), some (.getfield 24, 0, 2, 0), none, none, some (.iadd, 0, 0, 0), some (.istore_n 3, 0, 0, 0), some (.iload_n 2, 0, 0, 0), some (.ifCond .eq 9, 59, 0, 0), none, none, some (.iload_n 3, 0, 0, 0), some (.iconst 3, 0, 0, 0), some (.imul, 0, 0, 0), some (.goto 18, 74, 0, 0), none, none, some (.aload_n 0, 0, 0, 0), some (.getfield 20, 0, 1, 0), none, none, some (.iconst 5, 0, 0, 0), some (.if_icmp .ne 9, 73, 0, 0), none, none, some (.iload_n 3, 0, 0, 0), some (.iconst 5, 0, 0, 0), some (.ixor, 0, 0, 0), some (.goto 4, 74, 0, 0), none, none, some (.iload_n 3, 0, 0, 0), some (.ireturn, 0, 0, 0)]
def sm_H5 : List Nat := [0, 2045, 0, 5142, 0, 0, 0, 0, 0, 5143, 0, 0, 2045, 0, 0, 0, 0, 5143, 0, 0, 5143, 0, 0, 2046, 0, 0, 0, 0, 0, 0, 0, 0, 0, 2045, 0, 0, 0, 0, 0, 0, 0, 0]
def sm_I5 : sm_I := (yX0_thinking, cX0_thinking, 4, some .int, sm_T5)
def sm_T6 : sm_T := [some (.aload_n 0, 0, 0, 0), some (.getfield 20, 0, 1, 0), none, none, some (.iconst 3, 0, 0, 0), some (.if_icmp .ne 12, 17, 0, 0), none, none, some (.aload_n 0, 0, 0, 0), some (.bipush 30, 0, 0, 0), none, some (.invokevirtual 48, 3, 1, 0), none, none, some (.goto 17, 31, 0, 0), none, none, some (.aload_n 0, 0, 0, 0), some (.getfield 20, 0, 1, 0), none, none, some (.iconst 4, 0, 0, 0), some (.if_icmp .ne 9, 31, 0, 0), none, none, some (.aload_n 0, 0, 0, 0), some (.bipush 41, 0, 0, 0), none, some (.invokevirtual 48, 3, 1, 0), none, none, some (.aload_n 0, 0, 0, 0), some (.bipush 11, 0, 0, 0), none, some (.invokevirtual 48, 3, 1, 0), none, none, some (.aload_n 0, 0, 0, 0), some (.iload_n 1, 0, 0, 0), some (.invokevirtual 51, 5, 1, 0), none, none, some (.iconst 2, 0, 0, 0), some (.imul, 0, 0, 0), some (.istore_n 2, 0, 0, 0), some (.aload_n 0, 0, 0, 0), some (.getfield 20, 0, 1, 0), none, none, some (.iconst 3, 0, 0, 0), some (.if_icmp .ne 12, 62, 0, 0), none, none, some (.iload_n 2, 0, 0, 0), some (.aload_n 0, 0, 0, 0), some (.getfield 24, 0, 2, 0), none, none, some (.isub, 0, 0, 0), some (.goto 17, 76, 0, 0), none, none, some (.aload_n 0, 0, 0, 0), some (.getfield 20, 0, 1, 0), none, none, some (.iconst 4, 0, 0, 0), some (.if_icmp .ne 8, 75, 0, 0), none, none, some (.iload_n 2, 0, 0, 0), some (.ineg, 0, 0, 0), some (.goto 4, 76, 0, 0), none, none, some (.iload_n 2, 0, 0, 0), some (.ireturn, 0, 0, 0)]
def sm_H6 : List Nat := [0, 2045, 0, 0, 0, 0, 5143, 0, 0, 2045, 0, 0, 0, 0, 5143, 0, 0, 5143, 0, 0, 5152, 0, 0, 0, 0, 2045, 0, 0, 0, 0, 2046, 0, 0, 0, 2045, 0, 0, 0, 0, 0, 0, 0]
def sm_I6 : sm_I := (yX0_saying, cX0_saying, 3, some .int, sm_T6)
def sm_T7 : sm_T := [some (.aload_n 0, 0, 0, 0), some (.getfield 20, 0, 1, 0), none, none, some (.iconst 4, 0, 0, 0), some (.if_icmp .ne 9, 14, 0, 0), none, none, some (.iload_n 1, 0, 0, 0), some (.iconst 1, 0, 0, 0), some (.iadd, 0, 0, 0), some (.goto 4, 15, 0, 0), none, none, some (.iload_n 1, 0, 0, 0), some (.istore_n 2, 0, 0, 0), some (.aload_n 0, 0, 0, 0), some (.getfield 20, 0, 1, 0), none, none, some (.iconst 4, 0, 0, 0), some (.if_icmp .ne 12, 33, 0, 0), none, none, some (.aload_n 0, 0, 0, 0), some (.bipush 40, 0, 0, 0), none, some (.invokevirtual 48, 3, 1, 0), none, none, some (.goto 34, 64, 0, 0), none, none, some (.aload_n 0, 0, 0, 0), some (.getfield 20, 0, 1, 0), none, none, some (.iconst 2, 0, 0, 0), some (.if_icmp .ne 12, 50, 0, 0), none, none, some (.aload_n 0, 0, 0, 0), some (.bipush 50, 0, 0, 0), none, some (.invokevirtual 48, 3, 1, 0), none, none, some (.goto 17, 64, 0, 0), none, none, some (.aload_n 0, 0, 0, 0), some (.getfield 20, 0, 1, 0), none, none, some (.iconst 5, 0, 0, 0), some (.if_icmp .ne 9, 64, 0, 0), none, none, some (.aload_n 0, 0, 0, 0), some (.bipush 61, 0, 0, 0), none, some (.invokevirtual 48, 3, 1, 0), none, none, some (.aload_n 0, 0, 0, 0), some (.bipush 12, 0, 0, 0), none, some (.invokevirtual 48, 3, 1, 0), none, none, some (.aload_n 0, 0, 0, 0), some (.iload_n 2, 0, 0, 0), some (.invokevirtual 54, 6, 1, 0), none, none, some (.aload_n 0, 0, 0, 0), some (.iload_n 2, 0, 0, 0), some (.aload_n 0, 0, 0, 0), some (.getfield 27, 0, 3, 0), none, none, some (.isub, 0, 0, 0), some (.invokevirtual 51, 5, 1, 0), none, none, some (.ixor, 0, 0, 0), some (.istore_n 3, 0, 0, 0), some (.aload_n 0, 0, 0, 0), some (.getfield 20, 0, 1, 0), none, none, some (.iconst 2, 0, 0, 0), some (.if_icmp .ne 12, 104, 0, 0), none, none, some (.iload_n 3, 0, 0, 0), some (.aload_n 0, 0, 0, 0), some (.getfield 27, 0, 3, 0), none, none, some (.iadd, 0, 0, 0), some (.goto 18, 119, 0, 0), none, none, some (.aload_n 0, 0, 0, 0), some (.getfield 20, 0, 1, 0), none, none, some (.iconst 5, 0, 0, 0), some (.if_icmp .ne 9, 118, 0, 0), none, none, some (.iload_n 3, 0, 0, 0), some (.iconst 2, 0, 0, 0), some (.imul, 0, 0, 0), some (.goto 4, 119, 0, 0), none, none, some (.iload_n 3, 0, 0, 0), some (.ireturn, 0, 0, 0)]
def sm_H7 : List Nat := [0, 2045, 0, 0, 0, 0, 0, 0, 0, 0, 0, 2045, 0, 0, 0, 0, 5143, 0, 0, 2045, 0, 0, 0, 0, 5143, 0, 0, 2045, 0, 0, 0, 0, 5143, 0, 0, 5143, 0, 0, 5157, 0, 0, 0, 2047, 0, 5152, 0, 0, 0, 2045, 0, 0, 0, 0, 2047, 0, 0, 0, 2045, 0, 0, 0, 0, 0, 0, 0, 0]
def sm_I7 : sm_I := (yX0_doing, cX0_doing, 4, some .int, sm_T7)
def sm_T8 : sm_T := [some (.aload_n 0, 0, 0, 0), some (.invokespecial 1, 999, 0, 0), none, none, some (.aload_n 0, 0, 0, 0), some (.iload_n 1, 0, 0, 0), some (.ifCond .le 7, 13, 0, 0), none, none, some (.iload_n 1, 0, 0, 0), some (.goto 4, 14, 0, 0), none, none, some (.iconst 0, 0, 0, 0), some (.newarray .int, 0, 0, 0), none, some (.putfield 7, 1, 0, 13), none, none, some (.return_, 0, 0, 0)]
def sm_H8 : List Nat := [0, 1049, 0, 0, 0, 0, 0, 0, 1054, 1050, 0]
def sm_I8 : sm_I := (yX1_init, cX1_init, 2, none, sm_T8)
def sm_T9 : sm_T := [some (.iload_n 1, 0, 0, 0), some (.ifCond .lt 21, 22, 0, 0), none, none, some (.iload_n 1, 0, 0, 0), some (.aload_n 0, 0, 0, 0), some (.getfield 7, 1, 0, 0), none, none, some (.arraylength, 0, 0, 0), some (.if_icmp .ge 12, 22, 0, 0), none, none, some (.aload_n 0, 0, 0, 0), some (.getfield 7, 1, 0, 0), none, none, some (.iload_n 1, 0, 0, 0), some (.iaload, 0, 0, 0), some (.goto 4, 23, 0, 0), none, none, some (.iconst 0, 0, 0, 0), some (.ireturn, 0, 0, 0)]
def sm_H9 : List Nat := [0, 0, 0, 0, 1050, 0, 0, 0, 1050, 0, 0, 0, 0, 0]
def sm_I9 : sm_I := (yX1_get, cX1_get, 2, some .int, sm_T9)
def sm_T10 : sm_T := [some (.iload_n 1, 0, 0, 0), some (.ifCond .lt 19, 20, 0, 0), none, none, some (.iload_n 1, 0, 0, 0), some (.aload_n 0, 0, 0, 0), some (.getfield 7, 1, 0, 0), none, none, some (.arraylength, 0, 0, 0), some (.if_icmp .ge 10, 20, 0, 0), none, none, some (.aload_n 0, 0, 0, 0), some (.getfield 7, 1, 0, 0), none, none, some (.iload_n 1, 0, 0, 0), some (.iload_n 2, 0, 0, 0), some (.iastore, 0, 0, 0), some (.return_, 0, 0, 0)]
def sm_H10 : List Nat := [0, 0, 0, 0, 1050, 0, 0, 0, 1050, 0, 0, 0, 0]
def sm_I10 : sm_I := (yX1_put, cX1_put, 3, none, sm_T10)
def sm_T11 : sm_T := [some (.iconst 0, 0, 0, 0), some (.istore_n 1, 0, 0, 0), some (.iload_n 1, 0, 0, 0), some (.aload_n 0, 0, 0, 0), some (.getfield 7, 1, 0, 0), none, none, some (.arraylength, 0, 0, 0), some (.if_icmp .ge 16, 24, 0, 0), none, none, some (.aload_n 0, 0, 0, 0), some (.getfield 7, 1, 0, 0), none, none, some (.iload_n 1, 0, 0, 0), some (.iconst 0, 0, 0, 0), some (.iastore, 0, 0, 0), some (.iinc 1 1, 0, 0, 0), none, none, some (.goto (-19), 2, 0, 0), none, none, some (.return_, 0, 0, 0)]
def sm_H11 : List Nat := [0, 0, 0, 0, 1050, 0, 0, 0, 1050, 0, 0, 0, 0, 0, 0]
def sm_I11 : sm_I := (yX1_clear, cX1_clear, 2, none, sm_T11)
def sm_T12 : sm_T := [some (.iconst 0, 0, 0, 0), some (.istore_n 2, 0, 0, 0), some (.iload_n 2, 0, 0, 0), some (.aload_n 0, 0, 0, 0), some (.getfield 7, 1, 0, 0), none, none, some (.arraylength, 0, 0, 0), some (.if_icmp .ge 20, 28, 0, 0), none, none, some (.aload_n 0, 0, 0, 0), some (.getfield 7, 1, 0, 0), none, none, some (.iload_n 2, 0, 0, 0), some (.aload_n 1, 0, 0, 0), some (.iload_n 2, 0, 0, 0), some (.invokevirtual 13, 9, 1, 1), none, none, some (.iastore, 0, 0, 0), some (.iinc 2 1, 0, 0, 0), none, none, some (.goto (-23), 2, 0, 0), none, none, some (.return_, 0, 0, 0)]
def sm_H12 : List Nat := [0, 0, 0, 0, 1050, 0, 0, 0, 1050, 0, 0, 0, 3161, 0, 0, 0, 0]
def sm_I12 : sm_I := (yX1_copyFrom, cX1_copyFrom, 3, none, sm_T12)
def sm_T13 : sm_T := [some (.aload_n 0, 0, 0, 0), some (.invokespecial 3, 999, 0, 0), none, none, some (.aload_n 0, 0, 0, 0), some (.new 9, 1, 0, 0), none, none, some (.dup, 0, 0, 0), some (.bipush 64, 0, 0, 0), none, some (.invokespecial 11, 8, 1, 0), none, none, some (.putfield 14, 2, 0, 13), none, none, some (.aload_n 0, 0, 0, 0), some (.iconst 0, 0, 0, 0), some (.putfield 20, 2, 1, 0), none, none, some (.aload_n 0, 0, 0, 0), some (.iconst 0, 0, 0, 0), some (.putfield 24, 2, 2, 0), none, none, some (.aload_n 0, 0, 0, 0), some (.iconst (-1), 0, 0, 0), some (.putfield 27, 2, 3, 0), none, none, some (.aload_n 0, 0, 0, 0), some (.iconst 0, 0, 0, 0), some (.putfield 30, 2, 4, 0), none, none, some (.return_, 0, 0, 0)]
def sm_H13 : List Nat := [0, 1174, 0, 1175, 0, 0, 1176, 1177, 0, 0, 1178, 0, 0, 1179, 0, 0, 1180, 0, 0, 1181, 0]
def sm_I13 : sm_I := (yX2_init, cX2_init, 1, none, sm_T13)
def sm_T14 : sm_T := [some (.aload_n 0, 0, 0, 0), some (.aload_n 1, 0, 0, 0), some (.invokevirtual 33, 15, 1, 2), none, none, some (.aload_n 2, 0, 0, 0), some (.invokevirtual 37, 99, 0, 8), none, none, some (.aload_n 0, 0, 0, 0), some (.ldc 42, 0, 0, 1), none, some (.invokevirtual 44, 19, 1, 2), none, none, some (.ifCond .eq 15, 30, 0, 0), none, none, some (.aload_n 0, 0, 0, 0), some (.aload_n 2, 0, 0, 0), some (.invokevirtual 48, 20, 1, 2), none, none, some (.ifCond .eq 7, 30, 0, 0), none, none, some (.iconst 1, 0, 0, 0), some (.goto 4, 31, 0, 0), none, none, some (.iconst 0, 0, 0, 0), some (.istore_n 3, 0, 0, 0), some (.iconst 0, 0, 0, 0), some (.istore 4, 0, 0, 0), none, some (.iload_n 3, 0, 0, 0), some (.ifCond .eq 50, 86, 0, 0), none, none, some (.iload 4, 0, 0, 0), none, some (.bipush 64, 0, 0, 0), none, some (.if_icmp .ge 43, 86, 0, 0), none, none, some (.aload_n 0, 0, 0, 0), some (.getfield 24, 2, 2, 0), none, none, some (.aload_n 0, 0, 0, 0), some (.getfield 20, 2, 1, 0), none, none, some (.if_icmp .ge 32, 86, 0, 0), none, none, some (.aload_n 0, 0, 0, 0), some (.bipush 59, 0, 0, 0), none, some (.invokevirtual 52, 18, 1, 2), none, none, some (.ifCond .eq 15, 78, 0, 0), none, none, some (.aload_n 0, 0, 0, 0), some (.aload_n 2, 0, 0, 0), some (.invokevirtual 56, 23, 1, 2), none, none, some (.ifCond .eq 7, 78, 0, 0), none, none, some (.iconst 1, 0, 0, 0), some (.goto 4, 79, 0, 0), none, none, some (.iconst 0, 0, 0, 0), some (.istore_n 3, 0, 0, 0), some (.iinc 4 1, 0, 0, 0), none, none, some (.goto (-48), 35, 0, 0), none, none, some (.aload_n 0, 0, 0, 0), some (.getfield 27, 2, 3, 0), none, none, some (.ireturn, 0, 0, 0)]
def sm_H14 : List Nat := [0, 0, 3011, 0, 3021, 0, 3029, 3030, 0, 0, 0, 3095, 0, 0, 0, 0, 0, 0, 0, 0, 0, 0, 0, 0, 0, 1179, 0, 1178, 0, 0, 0, 3082, 0, 0, 0, 3112, 0, 0, 0, 0, 0, 0, 0, 0, 1180, 0]
def sm_I14 : sm_I := (yX2_read, cX2_read, 5, some .int, sm_T14)
def sm_T15 : sm_T := [some (.iconst 0, 0, 0, 0), some (.istore_n 2, 0, 0, 0), some (.iload_n 2, 0, 0, 0), some (.bipush 64, 0, 0, 0), none, some (.if_icmp .ge 22, 27, 0, 0), none, none, some (.aload_n 0, 0, 0, 0), some (.getfield 14, 2, 0, 0), none, none, some (.iload_n 2, 0, 0, 0), some (.aload_n 1, 0, 0, 0), some (.iload_n 2, 0, 0, 0), some (.invokevirtual 59, 88, 1, 6), none, none, some (.invokevirtual 65, 10, 2, 1), none, none, some (.iinc 2 1, 0, 0, 0), none, none, some (.goto (-22), 2, 0, 0), none, none, some (.aload_n 0, 0, 0, 0), some (.aload_n 1, 0, 0, 0), some (.getfield 69, 6, 3, 0), none, none, some (.putfield 20, 2, 1, 0), none, none, some (.aload_n 0, 0, 0, 0), some (.iconst 0, 0, 0, 0), some (.putfield 24, 2, 2, 0), none, none, some (.aload_n 0, 0, 0, 0), some (.iconst (-1), 0, 0, 0), some (.putfield 27, 2, 3, 0), none, none, some (.return_, 0, 0, 0)]
def sm_H15 : List Nat := [0, 0, 0, 0, 0, 0, 1177, 0, 0, 0, 3015, 3020, 0, 0, 0, 0, 2071, 1178, 0, 0, 1179, 0, 0, 1180, 0]
def sm_I15 : sm_I := (yX2_begin, cX2_begin, 3, none, sm_T15)
def sm_T16 : sm_T := [some (.aload_n 0, 0, 0, 0), some (.getfield 14, 2, 0, 0), none, none, some (.aload_n 0, 0, 0, 0), some (.getfield 24, 2, 2, 0), none, none, some (.invokevirtual 70, 9, 1, 1), none, none, some (.iload_n 1, 0, 0, 0), some (.if_icmp .ne 7, 19, 0, 0), none, none, some (.iconst 1, 0, 0, 0), some (.goto 4, 20, 0, 0), none, none, some (.iconst 0, 0, 0, 0), some (.ireturn, 0, 0, 0)]
def sm_H16 : List Nat := [0, 1177, 0, 1179, 3090, 0, 0, 0, 0, 0, 0]
def sm_I16 : sm_I := (yX2_at, cX2_at, 2, some .boolean, sm_T16)
def sm_T17 : sm_T := [some (.aload_n 0, 0, 0, 0), some (.iload_n 1, 0, 0, 0), some (.putfield 27, 2, 3, 0), none, none, some (.iconst 0, 0, 0, 0), some (.ireturn, 0, 0, 0)]
def sm_H17 : List Nat := [0, 0, 1180, 0, 0]
def sm_I17 : sm_I := (yX2_fail, cX2_fail, 2, some .boolean, sm_T17)
def sm_T18 : sm_T := [some (.aload_n 0, 0, 0, 0), some (.iload_n 1, 0, 0, 0), some (.invokevirtual 73, 16, 1, 2), none, none, some (.ifCond .ne 12, 17, 0, 0), none, none, some (.aload_n 0, 0, 0, 0), some (.aload_n 0, 0, 0, 0), some (.getfield 24, 2, 2, 0), none, none, some (.invokevirtual 76, 17, 1, 2), none, none, some (.ireturn, 0, 0, 0), some (.aload_n 0, 0, 0, 0), some (.dup, 0, 0, 0), some (.getfield 24, 2, 2, 0), none, none, some (.iconst 1, 0, 0, 0), some (.iadd, 0, 0, 0), some (.putfield 24, 2, 2, 0), none, none, some (.iconst 1, 0, 0, 0), some (.ireturn, 0, 0, 0)]
def sm_H18 : List Nat := [0, 0, 3086, 0, 0, 0, 1179, 3091, 0, 0, 0, 1179, 0, 0, 1179, 0, 0]
def sm_I18 : sm_I := (yX2_expect, cX2_expect, 2, some .boolean, sm_T18)
def sm_T19 : sm_T := [some (.iconst 0, 0, 0, 0), some (.istore_n 2, 0, 0, 0), some (.iload_n 2, 0, 0, 0), some (.aload_n 1, 0, 0, 0), some (.invokevirtual 80, 900, 0, 0), none, none, some (.if_icmp .ge 23, 30, 0, 0), none, none, some (.aload_n 0, 0, 0, 0), some (.aload_n 1, 0, 0, 0), some (.iload_n 2, 0, 0, 0), some (.invokevirtual 86, 901, 1, 0), none, none, some (.invokevirtual 52, 18, 1, 2), none, none, some (.ifCond .ne 5, 24, 0, 0), none, none, some (.iconst 0, 0, 0, 0), some (.ireturn, 0, 0, 0), some (.iinc 2 1, 0, 0, 0), none, none, some (.goto (-25), 2, 0, 0), none, none, some (.iconst 1, 0, 0, 0), some (.ireturn, 0, 0, 0)]
def sm_H19 : List Nat := [0, 0, 0, 0, 3034, 0, 0, 0, 0, 3044, 3082, 0, 0, 0, 0, 0, 0, 0]
def sm_I19 : sm_I := (yX2_expectAll, cX2_expectAll, 3, some .boolean, sm_T19)
def sm_T20 : sm_T := [some (.aload_n 0, 0, 0, 0), some (.aload_n 1, 0, 0, 0), some (.invokevirtual 90, 21, 1, 2), none, none, some (.istore_n 2, 0, 0, 0), some (.iconst 1, 0, 0, 0), some (.istore_n 3, 0, 0, 0), some (.iload_n 2, 0, 0, 0), some (.ifCond .eq 40, 49, 0, 0), none, none, some (.iload_n 3, 0, 0, 0), some (.bipush 12, 0, 0, 0), none, some (.if_icmp .ge 34, 49, 0, 0), none, none, some (.aload_n 0, 0, 0, 0), some (.bipush 44, 0, 0, 0), none, some (.invokevirtual 73, 16, 1, 2), none, none, some (.ifCond .eq 25, 49, 0, 0), none, none, some (.aload_n 0, 0, 0, 0), some (.dup, 0, 0, 0), some (.getfield 24, 2, 2, 0), none, none, some (.iconst 1, 0, 0, 0), some (.iadd, 0, 0, 0), some (.putfield 24, 2, 2, 0), none, none, some (.aload_n 0, 0, 0, 0), some (.aload_n 1, 0, 0, 0), some (.invokevirtual 90, 21, 1, 2), none, none, some (.istore_n 2, 0, 0, 0), some (.iinc 3 1, 0, 0, 0), none, none, some (.goto (-38), 8, 0, 0), none, none, some (.iload_n 2, 0, 0, 0), some (.ireturn, 0, 0, 0)]
def sm_H20 : List Nat := [0, 0, 3099, 0, 0, 0, 0, 0, 0, 0, 0, 0, 0, 3086, 0, 0, 0, 1179, 0, 0, 1179, 0, 0, 3099, 0, 0, 0, 0, 0]
def sm_I20 : sm_I := (yX2_items, cX2_items, 4, some .boolean, sm_T20)
def sm_T21 : sm_T := [some (.aload_n 1, 0, 0, 0), some (.getfield 93, 8, 2, 0), none, none, some (.ifCond .ne 7, 11, 0, 0), none, none, some (.iconst 0, 0, 0, 0), some (.goto 18, 26, 0, 0), none, none, some (.aload_n 1, 0, 0, 0), some (.getfield 96, 8, 0, 0), none, none, some (.aload_n 1, 0, 0, 0), some (.getfield 93, 8, 2, 0), none, none, some (.iconst 1, 0, 0, 0), some (.isub, 0, 0, 0), some (.invokevirtual 70, 9, 1, 1), none, none, some (.iconst 1, 0, 0, 0), some (.iadd, 0, 0, 0), some (.istore_n 2, 0, 0, 0), some (.aload_n 0, 0, 0, 0), some (.iload_n 2, 0, 0, 0), some (.sipush 999, 0, 0, 0), none, none, some (.invokevirtual 99, 28, 2, 2), none, none, some (.ifCond .ne 5, 40, 0, 0), none, none, some (.iconst 0, 0, 0, 0), some (.ireturn, 0, 0, 0), some (.aload_n 0, 0, 0, 0), some (.getfield 30, 2, 4, 0), none, none, some (.istore_n 3, 0, 0, 0), some (.iconst 1, 0, 0, 0), some (.istore 4, 0, 0, 0), none, some (.aload_n 0, 0, 0, 0), some (.bipush 42, 0, 0, 0), none, some (.invokevirtual 73, 16, 1, 2), none, none, some (.ifCond .eq 31, 85, 0, 0), none, none, some (.aload_n 0, 0, 0, 0), some (.dup, 0, 0, 0), some (.getfield 24, 2, 2, 0), none, none, some (.iconst 1, 0, 0, 0), some (.iadd, 0, 0, 0), some (.putfield 24, 2, 2, 0), none, none, some (.aload_n 0, 0, 0, 0), some (.iconst 1, 0, 0, 0), some (.bipush 99, 0, 0, 0), none, some (.invokevirtual 99, 28, 2, 2), none, none, some (.ifCond .ne 5, 79, 0, 0), none, none, some (.iconst 0, 0, 0, 0), some (.ireturn, 0, 0, 0), some (.aload_n 0, 0, 0, 0), some (.getfield 30, 2, 4, 0), none, none, some (.istore 4, 0, 0, 0), none, some (.aload_n 1, 0, 0, 0), some (.iload_n 3, 0, 0, 0), some (.iload 4, 0, 0, 0), none, some (.invokevirtual 103, 101, 2, 8), none, none, some (.iconst 1, 0, 0, 0), some (.ireturn, 0, 0, 0)]
def sm_H21 : List Nat := [0, 1064, 0, 0, 0, 0, 1056, 0, 1064, 0, 0, 3090, 0, 0, 0, 0, 0, 0, 3103, 0, 0, 0, 0, 1181, 0, 0, 0, 0, 0, 3086, 0, 0, 0, 1179, 0, 0, 1179, 0, 0, 0, 3103, 0, 0, 0, 0, 1181, 0, 0, 0, 0, 3107, 0, 0]
def sm_I21 : sm_I := (yX2_item, cX2_item, 5, some .boolean, sm_T21)
def sm_T22 : sm_T := [some (.aload_n 0, 0, 0, 0), some (.getfield 14, 2, 0, 0), none, none, some (.aload_n 0, 0, 0, 0), some (.getfield 24, 2, 2, 0), none, none, some (.iconst 1, 0, 0, 0), some (.iadd, 0, 0, 0), some (.invokevirtual 70, 9, 1, 1), none, none, some (.istore_n 1, 0, 0, 0), some (.aload_n 0, 0, 0, 0), some (.bipush 119, 0, 0, 0), none, some (.invokevirtual 73, 16, 1, 2), none, none, some (.ifCond .eq 17, 37, 0, 0), none, none, some (.iload_n 1, 0, 0, 0), some (.bipush 105, 0, 0, 0), none, some (.if_icmp .ne 8, 34, 0, 0), none, none, some (.ldc 106, 1, 0, 1), none, some (.goto 5, 36, 0, 0), none, none, some (.ldc 108, 2, 0, 1), none, some (.areturn, 0, 0, 0), some (.aload_n 0, 0, 0, 0), some (.bipush 108, 0, 0, 0), none, some (.invokevirtual 73, 16, 1, 2), none, none, some (.ifCond .eq 17, 60, 0, 0), none, none, some (.iload_n 1, 0, 0, 0), some (.bipush 101, 0, 0, 0), none, some (.if_icmp .ne 8, 57, 0, 0), none, none, some (.ldc 110, 3, 0, 1), none, some (.goto 5, 59, 0, 0), none, none, some (.ldc 112, 4, 0, 1), none, some (.areturn, 0, 0, 0), some (.ldc 114, 5, 0, 1), none, some (.areturn, 0, 0, 0)]
def sm_H22 : List Nat := [0, 1177, 0, 1179, 0, 0, 3090, 0, 0, 0, 3086, 0, 0, 0, 0, 3120, 0, 3121, 0, 0, 0, 3086, 0, 0, 0, 0, 3122, 0, 3123, 0, 3124, 0]
def sm_I22 : sm_I := (yX2_partName, cX2_partName, 2, some (.object "java/lang/String"), sm_T22)
def sm_T23 : sm_T := [some (.aload_n 0, 0, 0, 0), some (.invokevirtual 116, 22, 0, 2), none, none, some (.astore_n 2, 0, 0, 0), some (.aload_n 0, 0, 0, 0), some (.aload_n 2, 0, 0, 0), some (.invokevirtual 44, 19, 1, 2), none, none, some (.ifCond .eq 12, 22, 0, 0), none, none, some (.aload_n 0, 0, 0, 0), some (.bipush 32, 0, 0, 0), none, some (.invokevirtual 52, 18, 1, 2), none, none, some (.ifCond .ne 5, 24, 0, 0), none, none, some (.iconst 0, 0, 0, 0), some (.ireturn, 0, 0, 0), some (.aload_n 2, 0, 0, 0), some (.ldc 108, 2, 0, 1), none, some (.invokevirtual 120, 902, 1, 0), none, none, some (.ifCond .eq 9, 39, 0, 0), none, none, some (.aload_n 0, 0, 0, 0), some (.aload_n 1, 0, 0, 0), some (.invokevirtual 124, 24, 1, 2), none, none, some (.ireturn, 0, 0, 0), some (.aload_n 2, 0, 0, 0), some (.ldc 112, 4, 0, 1), none, some (.invokevirtual 120, 902, 1, 0), none, none, some (.ifCond .eq 9, 54, 0, 0), none, none, some (.aload_n 0, 0, 0, 0), some (.aload_n 1, 0, 0, 0), some (.invokevirtual 127, 25, 1, 2), none, none, some (.ireturn, 0, 0, 0), some (.aload_n 0, 0, 0, 0), some (.invokevirtual 130, 27, 0, 2), none, none, some (.ifCond .ne 5, 63, 0, 0), none, none, some (.iconst 0, 0, 0, 0), some (.ireturn, 0, 0, 0), some (.aload_n 0, 0, 0, 0), some (.getfield 30, 2, 4, 0), none, none, some (.istore_n 3, 0, 0, 0), some (.aload_n 2, 0, 0, 0), some (.ldc 106, 1, 0, 1), none, some (.invokevirtual 120, 902, 1, 0), none, none, some (.ifCond .eq 10, 84, 0, 0), none, none, some (.aload_n 1, 0, 0, 0), some (.iload_n 3, 0, 0, 0), some (.putfield 134, 8, 3, 0), none, none, some (.iconst 1, 0, 0, 0), some (.ireturn, 0, 0, 0), some (.aload_n 2, 0, 0, 0), some (.ldc 110, 3, 0, 1), none, some (.invokevirtual 120, 902, 1, 0), none, none, some (.ifCond .eq 10, 100, 0, 0), none, none, some (.aload_n 1, 0, 0, 0), some (.iload_n 3, 0, 0, 0), some (.putfield 136, 8, 4, 0), none, none, some (.iconst 1, 0, 0, 0), some (.ireturn, 0, 0, 0), some (.aload_n 0, 0, 0, 0), some (.aload_n 1, 0, 0, 0), some (.iload_n 3, 0, 0, 0), some (.invokevirtual 138, 26, 2, 2), none, none, some (.ireturn, 0, 0, 0)]
def sm_H23 : List Nat := [0, 3116, 0, 0, 0, 3030, 0, 0, 0, 3082, 0, 0, 0, 0, 3121, 3125, 0, 0, 0, 3133, 0, 0, 3123, 3125, 0, 0, 0, 3137, 0, 0, 3141, 0, 0, 0, 0, 1181, 0, 0, 3120, 3125, 0, 0, 0, 1071, 0, 0, 0, 3122, 3125, 0, 0, 0, 1076, 0, 0, 0, 0, 0, 3145, 0]
def sm_I23 : sm_I := (yX2_part, cX2_part, 4, some .boolean, sm_T23)
def sm_T24 : sm_T := [some (.aload_n 0, 0, 0, 0), some (.iconst 1, 0, 0, 0), some (.bipush 12, 0, 0, 0), none, some (.invokevirtual 99, 28, 2, 2), none, none, some (.ifCond .ne 5, 12, 0, 0), none, none, some (.iconst 0, 0, 0, 0), some (.ireturn, 0, 0, 0), some (.aload_n 1, 0, 0, 0), some (.aload_n 0, 0, 0, 0), some (.getfield 30, 2, 4, 0), none, none, some (.putfield 142, 8, 5, 0), none, none, some (.iconst 1, 0, 0, 0), some (.ireturn, 0, 0, 0)]
def sm_H24 : List Nat := [0, 0, 0, 3103, 0, 0, 0, 0, 0, 1181, 1079, 0, 0]
def sm_I24 : sm_I := (yX2_wordsPart, cX2_wordsPart, 2, some .boolean, sm_T24)
def sm_T25 : sm_T := [some (.aload_n 0, 0, 0, 0), some (.bipush 97, 0, 0, 0), none, some (.invokevirtual 73, 16, 1, 2), none, none, some (.ifCond .eq 20, 26, 0, 0), none, none, some (.aload_n 0, 0, 0, 0), some (.dup, 0, 0, 0), some (.getfield 24, 2, 2, 0), none, none, some (.iconst 1, 0, 0, 0), some (.iadd, 0, 0, 0), some (.putfield 24, 2, 2, 0), none, none, some (.aload_n 1, 0, 0, 0), some (.iconst 1, 0, 0, 0), some (.putfield 144, 8, 6, 0), none, none, some (.iconst 1, 0, 0, 0), some (.ireturn, 0, 0, 0), some (.aload_n 1, 0, 0, 0), some (.iconst 0, 0, 0, 0), some (.putfield 144, 8, 6, 0), none, none, some (.aload_n 0, 0, 0, 0), some (.bipush 115, 0, 0, 0), none, some (.invokevirtual 52, 18, 1, 2), none, none, some (.ireturn, 0, 0, 0)]
def sm_H25 : List Nat := [0, 0, 3086, 0, 0, 0, 1179, 0, 0, 1179, 0, 0, 1083, 0, 0, 0, 0, 1083, 0, 0, 3082, 0]
def sm_I25 : sm_I := (yX2_lossPart, cX2_lossPart, 2, some .boolean, sm_T25)
def sm_T26 : sm_T := [some (.aload_n 0, 0, 0, 0), some (.bipush 32, 0, 0, 0), none, some (.invokevirtual 52, 18, 1, 2), none, none, some (.ifCond .eq 10, 16, 0, 0), none, none, some (.aload_n 0, 0, 0, 0), some (.invokevirtual 130, 27, 0, 2), none, none, some (.ifCond .ne 5, 18, 0, 0), none, none, some (.iconst 0, 0, 0, 0), some (.ireturn, 0, 0, 0), some (.aload_n 1, 0, 0, 0), some (.iconst 1, 0, 0, 0), some (.putfield 146, 8, 7, 1), none, none, some (.aload_n 1, 0, 0, 0), some (.iload_n 2, 0, 0, 0), some (.putfield 150, 8, 8, 0), none, none, some (.aload_n 1, 0, 0, 0), some (.aload_n 0, 0, 0, 0), some (.getfield 30, 2, 4, 0), none, none, some (.putfield 153, 8, 9, 0), none, none, some (.iconst 1, 0, 0, 0), some (.ireturn, 0, 0, 0)]
def sm_H26 : List Nat := [0, 0, 3082, 0, 0, 3141, 0, 0, 0, 0, 0, 1087, 0, 0, 1091, 0, 0, 1181, 1095, 0, 0]
def sm_I26 : sm_I := (yX2_secondPart, cX2_secondPart, 3, some .boolean, sm_T26)
def sm_T27 : sm_T := [some (.aload_n 0, 0, 0, 0), some (.bipush 45, 0, 0, 0), none, some (.invokevirtual 73, 16, 1, 2), none, none, some (.istore_n 1, 0, 0, 0), some (.iload_n 1, 0, 0, 0), some (.ifCond .eq 13, 21, 0, 0), none, none, some (.aload_n 0, 0, 0, 0), some (.dup, 0, 0, 0), some (.getfield 24, 2, 2, 0), none, none, some (.iconst 1, 0, 0, 0), some (.iadd, 0, 0, 0), some (.putfield 24, 2, 2, 0), none, none, some (.aload_n 0, 0, 0, 0), some (.iconst 0, 0, 0, 0), some (.sipush 500, 0, 0, 0), none, none, some (.invokevirtual 99, 28, 2, 2), none, none, some (.ifCond .ne 5, 34, 0, 0), none, none, some (.iconst 0, 0, 0, 0), some (.ireturn, 0, 0, 0), some (.aload_n 0, 0, 0, 0), some (.iload_n 1, 0, 0, 0), some (.ifCond .eq 11, 47, 0, 0), none, none, some (.aload_n 0, 0, 0, 0), some (.getfield 30, 2, 4, 0), none, none, some (.ineg, 0, 0, 0), some (.goto 7, 51, 0, 0), none, none, some (.aload_n 0, 0, 0, 0), some (.getfield 30, 2, 4, 0), none, none, some (.putfield 30, 2, 4, 0), none, none, some (.iconst 1, 0, 0, 0), some (.ireturn, 0, 0, 0)]
def sm_H27 : List Nat := [0, 0, 3086, 0, 0, 0, 0, 0, 1179, 0, 0, 1179, 0, 0, 0, 3103, 0, 0, 0, 0, 0, 0, 0, 1181, 0, 0, 0, 1181, 1181, 0, 0]
def sm_I27 : sm_I := (yX2_readSigned, cX2_readSigned, 2, some .boolean, sm_T27)
def sm_T28 : sm_T := [some (.aload_n 0, 0, 0, 0), some (.getfield 24, 2, 2, 0), none, none, some (.istore_n 3, 0, 0, 0), some (.aload_n 0, 0, 0, 0), some (.iconst 0, 0, 0, 0), some (.putfield 30, 2, 4, 0), none, none, some (.iconst 0, 0, 0, 0), some (.istore 4, 0, 0, 0), none, some (.iload 4, 0, 0, 0), none, some (.iconst 3, 0, 0, 0), some (.if_icmp .ge 64, 80, 0, 0), none, none, some (.aload_n 0, 0, 0, 0), some (.getfield 14, 2, 0, 0), none, none, some (.aload_n 0, 0, 0, 0), some (.getfield 24, 2, 2, 0), none, none, some (.invokevirtual 70, 9, 1, 1), none, none, some (.bipush 48, 0, 0, 0), none, some (.isub, 0, 0, 0), some (.istore 5, 0, 0, 0), none, some (.iload 5, 0, 0, 0), none, some (.ifCond .lt 43, 80, 0, 0), none, none, some (.iload 5, 0, 0, 0), none, some (.bipush 9, 0, 0, 0), none, some (.if_icmp .le 6, 50, 0, 0), none, none, some (.goto 33, 80, 0, 0), none, none, some (.aload_n 0, 0, 0, 0), some (.bipush 10, 0, 0, 0), none, some (.aload_n 0, 0, 0, 0), some (.getfield 30, 2, 4, 0), none, none, some (.imul, 0, 0, 0), some (.iload 5, 0, 0, 0), none, some (.iadd, 0, 0, 0), some (.putfield 30, 2, 4, 0), none, none, some (.aload_n 0, 0, 0, 0), some (.dup, 0, 0, 0), some (.getfield 24, 2, 2, 0), none, none, some (.iconst 1, 0, 0, 0), some (.iadd, 0, 0, 0), some (.putfield 24, 2, 2, 0), none, none, some (.iinc 4 1, 0, 0, 0), none, none, some (.goto (-64), 13, 0, 0), none, none, some (.aload_n 0, 0, 0, 0), some (.getfield 24, 2, 2, 0), none, none, some (.iload_n 3, 0, 0, 0), some (.if_icmp .eq 19, 104, 0, 0), none, none, some (.aload_n 0, 0, 0, 0), some (.getfield 30, 2, 4, 0), none, none, some (.iload_n 1, 0, 0, 0), some (.if_icmp .lt 11, 104, 0, 0), none, none, some (.aload_n 0, 0, 0, 0), some (.getfield 30, 2, 4, 0), none, none, some (.iload_n 2, 0, 0, 0), some (.if_icmp .le 9, 110, 0, 0), none, none, some (.aload_n 0, 0, 0, 0), some (.iload_n 3, 0, 0, 0), some (.invokevirtual 76, 17, 1, 2), none, none, some (.ireturn, 0, 0, 0), some (.iconst 1, 0, 0, 0), some (.ireturn, 0, 0, 0)]
def sm_H28 : List Nat := [0, 1179, 0, 0, 0, 1181, 0, 0, 0, 0, 0, 0, 1177, 0, 1179, 3090, 0, 0, 0, 0, 0, 0, 0, 0, 0, 0, 0, 0, 1181, 0, 0, 0, 1181, 0, 0, 1179, 0, 0, 1179, 0, 0, 0, 1179, 0, 0, 0, 1181, 0, 0, 0, 1181, 0, 0, 0, 0, 3091, 0, 0, 0]
def sm_I28 : sm_I := (yX2_readNumber, cX2_readNumber, 6, some .boolean, sm_T28)
def sm_T29 : sm_T := [some (.aload_n 0, 0, 0, 0), some (.invokespecial 3, 999, 0, 0), none, none, some (.aload_n 0, 0, 0, 0), some (.new 9, 1, 0, 0), none, none, some (.dup, 0, 0, 0), some (.bipush 12, 0, 0, 0), none, some (.invokespecial 11, 8, 1, 0), none, none, some (.putfield 14, 3, 0, 13), none, none, some (.aload_n 0, 0, 0, 0), some (.new 9, 1, 0, 0), none, none, some (.dup, 0, 0, 0), some (.bipush 12, 0, 0, 0), none, some (.invokespecial 11, 8, 1, 0), none, none, some (.putfield 20, 3, 1, 13), none, none, some (.aload_n 0, 0, 0, 0), some (.iconst 0, 0, 0, 0), some (.putfield 23, 3, 2, 0), none, none, some (.aload_n 0, 0, 0, 0), some (.iconst 0, 0, 0, 0), some (.putfield 27, 3, 3, 0), none, none, some (.aload_n 0, 0, 0, 0), some (.bipush 100, 0, 0, 0), none, some (.putfield 30, 3, 4, 0), none, none, some (.return_, 0, 0, 0)]
def sm_H29 : List Nat := [0, 1121, 0, 1122, 0, 0, 1123, 1124, 0, 1122, 0, 0, 1123, 1127, 0, 0, 1130, 0, 0, 1133, 0, 0, 1136, 0]
def sm_I29 : sm_I := (yX3_init, cX3_init, 1, none, sm_T29)
def sm_T30 : sm_T := [some (.aload_n 0, 0, 0, 0), some (.getfield 14, 3, 0, 0), none, none, some (.invokevirtual 33, 11, 0, 1), none, none, some (.aload_n 0, 0, 0, 0), some (.getfield 20, 3, 1, 0), none, none, some (.invokevirtual 33, 11, 0, 1), none, none, some (.aload_n 0, 0, 0, 0), some (.iload_n 1, 0, 0, 0), some (.putfield 27, 3, 3, 0), none, none, some (.aload_n 0, 0, 0, 0), some (.iload_n 2, 0, 0, 0), some (.putfield 23, 3, 2, 0), none, none, some (.aload_n 0, 0, 0, 0), some (.iload_n 3, 0, 0, 0), some (.putfield 30, 3, 4, 0), none, none, some (.return_, 0, 0, 0)]
def sm_H30 : List Nat := [0, 1124, 4043, 0, 1127, 4043, 0, 0, 1133, 0, 0, 1130, 0, 0, 1136, 0]
def sm_I30 : sm_I := (yX3_begin, cX3_begin, 4, none, sm_T30)
def sm_T31 : sm_T := [some (.iconst 0, 0, 0, 0), some (.istore_n 3, 0, 0, 0), some (.aload_n 1, 0, 0, 0), some (.ifnull 27, 30, 0, 0), none, none, some (.iload_n 3, 0, 0, 0), some (.iload_n 2, 0, 0, 0), some (.if_icmp .ge 22, 30, 0, 0), none, none, some (.aload_n 0, 0, 0, 0), some (.getfield 14, 3, 0, 0), none, none, some (.iload_n 3, 0, 0, 0), some (.aload_n 1, 0, 0, 0), some (.iload_n 3, 0, 0, 0), some (.invokevirtual 35, 88, 1, 6), none, none, some (.invokevirtual 41, 10, 2, 1), none, none, some (.iinc 3 1, 0, 0, 0), none, none, some (.goto (-25), 2, 0, 0), none, none, some (.return_, 0, 0, 0)]
def sm_H31 : List Nat := [0, 0, 0, 0, 0, 0, 0, 0, 1124, 0, 0, 0, 4048, 4049, 0, 0, 0]
def sm_I31 : sm_I := (yX3_wordsFrom, cX3_wordsFrom, 4, none, sm_T31)
def sm_T32 : sm_T := [some (.iconst 1, 0, 0, 0), some (.istore_n 3, 0, 0, 0), some (.iload_n 3, 0, 0, 0), some (.iload_n 2, 0, 0, 0), some (.if_icmp .ge 35, 39, 0, 0), none, none, some (.aload_n 0, 0, 0, 0), some (.getfield 14, 3, 0, 0), none, none, some (.iload_n 3, 0, 0, 0), some (.aload_n 0, 0, 0, 0), some (.getfield 14, 3, 0, 0), none, none, some (.iload_n 3, 0, 0, 0), some (.iconst 1, 0, 0, 0), some (.isub, 0, 0, 0), some (.invokevirtual 45, 9, 1, 1), none, none, some (.iload_n 1, 0, 0, 0), some (.iload_n 3, 0, 0, 0), some (.iconst 1, 0, 0, 0), some (.isub, 0, 0, 0), some (.ishr, 0, 0, 0), some (.iconst 1, 0, 0, 0), some (.iand, 0, 0, 0), some (.iadd, 0, 0, 0), some (.invokevirtual 41, 10, 2, 1), none, none, some (.iinc 3 1, 0, 0, 0), none, none, some (.goto (-34), 2, 0, 0), none, none, some (.return_, 0, 0, 0)]
def sm_H32 : List Nat := [0, 0, 0, 0, 0, 0, 1124, 0, 0, 1124, 0, 0, 0, 4054, 0, 0, 0, 0, 0, 0, 0, 0, 4049, 0, 0, 0]
def sm_I32 : sm_I := (yX3_wordsBy, cX3_wordsBy, 4, none, sm_T32)
def sm_T33 : sm_T := [some (.aload_n 0, 0, 0, 0), some (.getfield 14, 3, 0, 0), none, none, some (.aload_n 1, 0, 0, 0), some (.getfield 14, 3, 0, 0), none, none, some (.invokevirtual 48, 12, 1, 1), none, none, some (.aload_n 0, 0, 0, 0), some (.getfield 20, 3, 1, 0), none, none, some (.aload_n 1, 0, 0, 0), some (.getfield 20, 3, 1, 0), none, none, some (.invokevirtual 48, 12, 1, 1), none, none, some (.aload_n 0, 0, 0, 0), some (.aload_n 1, 0, 0, 0), some (.getfield 23, 3, 2, 0), none, none, some (.putfield 23, 3, 2, 0), none, none, some (.aload_n 0, 0, 0, 0), some (.aload_n 1, 0, 0, 0), some (.getfield 27, 3, 3, 0), none, none, some (.putfield 27, 3, 3, 0), none, none, some (.aload_n 0, 0, 0, 0), some (.aload_n 1, 0, 0, 0), some (.getfield 30, 3, 4, 0), none, none, some (.putfield 30, 3, 4, 0), none, none, some (.return_, 0, 0, 0)]
def sm_H33 : List Nat := [0, 1124, 0, 1124, 5180, 0, 1127, 0, 1127, 5180, 0, 0, 1130, 1130, 0, 0, 1133, 1133, 0, 0, 1136, 1136, 0]
def sm_I33 : sm_I := (yX3_copyFrom, cX3_copyFrom, 2, none, sm_T33)
def sm_T34 : sm_T := [some (.aload_n 0, 0, 0, 0), some (.invokespecial 3, 999, 0, 0), none, none, some (.aload_n 0, 0, 0, 0), some (.new 9, 1, 0, 0), none, none, some (.dup, 0, 0, 0), some (.bipush 12, 0, 0, 0), none, some (.invokespecial 11, 8, 1, 0), none, none, some (.putfield 14, 4, 0, 13), none, none, some (.aload_n 0, 0, 0, 0), some (.new 9, 1, 0, 0), none, none, some (.dup, 0, 0, 0), some (.bipush 12, 0, 0, 0), none, some (.invokespecial 11, 8, 1, 0), none, none, some (.putfield 20, 4, 1, 13), none, none, some (.aload_n 0, 0, 0, 0), some (.new 9, 1, 0, 0), none, none, some (.dup, 0, 0, 0), some (.bipush 12, 0, 0, 0), none, some (.invokespecial 11, 8, 1, 0), none, none, some (.putfield 23, 4, 2, 13), none, none, some (.aload_n 0, 0, 0, 0), some (.new 9, 1, 0, 0), none, none, some (.dup, 0, 0, 0), some (.bipush 12, 0, 0, 0), none, some (.invokespecial 11, 8, 1, 0), none, none, some (.putfield 26, 4, 3, 13), none, none, some (.aload_n 0, 0, 0, 0), some (.iconst 0, 0, 0, 0), some (.putfield 29, 4, 4, 0), none, none, some (.aload_n 0, 0, 0, 0), some (.iconst 0, 0, 0, 0), some (.putfield 33, 4, 5, 0), none, none, some (.aload_n 0, 0, 0, 0), some (.new 36, 8, 0, 0), none, none, some (.dup, 0, 0, 0), some (.invokespecial 38, 98, 0, 0), none, none, some (.putfield 39, 4, 6, 3), none, none, some (.aload_n 0, 0, 0, 0), some (.iconst 0, 0, 0, 0), some (.putfield 43, 4, 7, 0), none, none, some (.aload_n 0, 0, 0, 0), some (.iconst 0, 0, 0, 0), some (.putfield 46, 4, 8, 0), none, none, some (.aload_n 0, 0, 0, 0), some (.iconst 0, 0, 0, 0), some (.putfield 49, 4, 9, 0), none, none, some (.aload_n 0, 0, 0, 0), some (.iconst 0, 0, 0, 0), some (.putfield 52, 4, 10, 0), none, none, some (.aload_n 0, 0, 0, 0), some (.iconst 0, 0, 0, 0), some (.putfield 55, 4, 11, 1), none, none, some (.aload_n 0, 0, 0, 0), some (.iconst 0, 0, 0, 0), some (.putfield 59, 4, 12, 1), none, none, some (.aload_n 0, 0, 0, 0), some (.bipush 100, 0, 0, 0), none, some (.putfield 62, 4, 13, 0), none, none, some (.aload_n 0, 0, 0, 0), some (.iconst 0, 0, 0, 0), some (.putfield 65, 4, 14, 0), none, none, some (.return_, 0, 0, 0)]
def sm_H34 : List Nat := [0, 1198, 0, 1199, 0, 0, 1200, 1203, 0, 1199, 0, 0, 1200, 1204, 0, 1199, 0, 0, 1200, 1205, 0, 1199, 0, 0, 1200, 1206, 0, 0, 1207, 0, 0, 1208, 0, 1201, 0, 1202, 1209, 0, 0, 1210, 0, 0, 1211, 0, 0, 1212, 0, 0, 1213, 0, 0, 1214, 0, 0, 1215, 0, 0, 1216, 0, 0, 1217, 0]
def sm_I34 : sm_I := (yX4_init, cX4_init, 1, none, sm_T34)
def sm_T35 : sm_T := [some (.aload_n 0, 0, 0, 0), some (.aload_n 1, 0, 0, 0), some (.putfield 39, 4, 6, 3), none, none, some (.aload_n 0, 0, 0, 0), some (.iload_n 2, 0, 0, 0), some (.putfield 43, 4, 7, 0), none, none, some (.aload_n 0, 0, 0, 0), some (.iload_n 3, 0, 0, 0), some (.putfield 46, 4, 8, 0), none, none, some (.aload_n 0, 0, 0, 0), some (.iconst 0, 0, 0, 0), some (.putfield 55, 4, 11, 1), none, none, some (.aload_n 0, 0, 0, 0), some (.iconst 0, 0, 0, 0), some (.putfield 59, 4, 12, 1), none, none, some (.aload_n 0, 0, 0, 0), some (.bipush 100, 0, 0, 0), none, some (.putfield 62, 4, 13, 0), none, none, some (.aload_n 0, 0, 0, 0), some (.invokevirtual 68, 37, 0, 4), none, none, some (.return_, 0, 0, 0)]
def sm_H35 : List Nat := [0, 0, 1209, 0, 0, 1210, 0, 0, 1211, 0, 0, 1214, 0, 0, 1215, 0, 0, 1216, 0, 3192, 0]
def sm_I35 : sm_I := (yX4_take, cX4_take, 4, none, sm_T35)
def sm_T36 : sm_T := [some (.aload_n 0, 0, 0, 0), some (.iconst 1, 0, 0, 0), some (.putfield 55, 4, 11, 1), none, none, some (.aload_n 0, 0, 0, 0), some (.iload_n 1, 0, 0, 0), some (.putfield 62, 4, 13, 0), none, none, some (.return_, 0, 0, 0)]
def sm_H36 : List Nat := [0, 0, 1214, 0, 0, 1216, 0]
def sm_I36 : sm_I := (yX4_blur, cX4_blur, 2, none, sm_T36)
def sm_T37 : sm_T := [some (.aload_n 0, 0, 0, 0), some (.iconst 0, 0, 0, 0), some (.putfield 49, 4, 9, 0), none, none, some (.aload_n 0, 0, 0, 0), some (.iconst 0, 0, 0, 0), some (.putfield 52, 4, 10, 0), none, none, some (.return_, 0, 0, 0)]
def sm_H37 : List Nat := [0, 0, 1212, 0, 0, 1213, 0]
def sm_I37 : sm_I := (yX4_silence, cX4_silence, 1, none, sm_T37)
def sm_T38 : sm_T := [some (.aload_n 0, 0, 0, 0), some (.getfield 14, 4, 0, 0), none, none, some (.iload_n 1, 0, 0, 0), some (.iload_n 2, 0, 0, 0), some (.invokevirtual 71, 10, 2, 1), none, none, some (.aload_n 0, 0, 0, 0), some (.iload_n 2, 0, 0, 0), some (.invokevirtual 75, 43, 1, 4), none, none, some (.ifCond .ne 25, 39, 0, 0), none, none, some (.aload_n 0, 0, 0, 0), some (.dup, 0, 0, 0), some (.getfield 49, 4, 9, 0), none, none, some (.iconst 1, 0, 0, 0), some (.iload_n 2, 0, 0, 0), some (.ishl, 0, 0, 0), some (.ior, 0, 0, 0), some (.putfield 49, 4, 9, 0), none, none, some (.aload_n 0, 0, 0, 0), some (.dup, 0, 0, 0), some (.getfield 52, 4, 10, 0), none, none, some (.iconst 1, 0, 0, 0), some (.iadd, 0, 0, 0), some (.putfield 52, 4, 10, 0), none, none, some (.return_, 0, 0, 0)]
def sm_H38 : List Nat := [0, 1203, 0, 0, 3200, 0, 0, 3201, 0, 0, 0, 1212, 0, 0, 0, 0, 1212, 0, 0, 1213, 0, 0, 1213, 0]
def sm_I38 : sm_I := (yX4_put, cX4_put, 3, none, sm_T38)
def sm_T39 : sm_T := [some (.aload_n 0, 0, 0, 0), some (.invokevirtual 68, 37, 0, 4), none, none, some (.iconst 0, 0, 0, 0), some (.istore_n 2, 0, 0, 0), some (.iconst 0, 0, 0, 0), some (.istore_n 3, 0, 0, 0), some (.iload_n 3, 0, 0, 0), some (.aload_n 0, 0, 0, 0), some (.getfield 39, 4, 6, 0), none, none, some (.getfield 79, 8, 2, 0), none, none, some (.if_icmp .ge 33, 49, 0, 0), none, none, some (.iload_n 2, 0, 0, 0), some (.iload_n 3, 0, 0, 0), some (.ifCond .le 13, 34, 0, 0), none, none, some (.iload_n 1, 0, 0, 0), some (.iload_n 3, 0, 0, 0), some (.iconst 1, 0, 0, 0), some (.isub, 0, 0, 0), some (.ishr, 0, 0, 0), some (.iconst 1, 0, 0, 0), some (.iand, 0, 0, 0), some (.goto 4, 35, 0, 0), none, none, some (.iconst 0, 0, 0, 0), some (.iadd, 0, 0, 0), some (.istore_n 2, 0, 0, 0), some (.aload_n 0, 0, 0, 0), some (.iload_n 3, 0, 0, 0), some (.iload_n 2, 0, 0, 0), some (.invokevirtual 82, 38, 2, 4), none, none, some (.iinc 3 1, 0, 0, 0), none, none, some (.goto (-38), 8, 0, 0), none, none, some (.return_, 0, 0, 0)]
def sm_H39 : List Nat := [0, 3192, 0, 0, 0, 0, 0, 0, 1209, 1063, 0, 0, 0, 0, 0, 0, 0, 0, 0, 0, 0, 0, 0, 0, 0, 0, 0, 0, 4077, 0, 0, 0]
def sm_I39 : sm_I := (yX4_putParts, cX4_putParts, 4, none, sm_T39)
def sm_T40 : sm_T := [some (.aload_n 1, 0, 0, 0), some (.iload_n 2, 0, 0, 0), some (.invokevirtual 83, 94, 1, 7), none, none, some (.astore_n 3, 0, 0, 0), some (.aload_n 3, 0, 0, 0), some (.ifnonnull 7, 14, 0, 0), none, none, some (.aconst_null, 0, 0, 0), some (.goto 11, 22, 0, 0), none, none, some (.aload_n 1, 0, 0, 0), some (.aload_n 3, 0, 0, 0), some (.getfield 89, 3, 3, 0), none, none, some (.invokevirtual 93, 93, 1, 7), none, none, some (.astore 4, 0, 0, 0), none, some (.aload_n 3, 0, 0, 0), some (.ifnull 8, 33, 0, 0), none, none, some (.aload 4, 0, 0, 0), none, some (.ifnonnull 5, 35, 0, 0), none, none, some (.iconst 0, 0, 0, 0), some (.ireturn, 0, 0, 0), some (.aload_n 0, 0, 0, 0), some (.aload 4, 0, 0, 0), none, some (.aload 4, 0, 0, 0), none, some (.getfield 97, 8, 4, 0), none, none, some (.aload 4, 0, 0, 0), none, some (.getfield 98, 8, 3, 0), none, none, some (.invokevirtual 99, 35, 3, 4), none, none, some (.iconst 0, 0, 0, 0), some (.istore 5, 0, 0, 0), none, some (.iload 5, 0, 0, 0), none, some (.aload 4, 0, 0, 0), none, some (.getfield 79, 8, 2, 0), none, none, some (.if_icmp .ge 24, 85, 0, 0), none, none, some (.aload_n 0, 0, 0, 0), some (.iload 5, 0, 0, 0), none, some (.aload_n 3, 0, 0, 0), some (.getfield 103, 3, 0, 0), none, none, some (.iload 5, 0, 0, 0), none, some (.invokevirtual 104, 9, 1, 1), none, none, some (.invokevirtual 82, 38, 2, 4), none, none, some (.iinc 5 1, 0, 0, 0), none, none, some (.goto (-28), 54, 0, 0), none, none, some (.aload_n 3, 0, 0, 0), some (.getfield 108, 3, 2, 0), none, none, some (.iconst 2, 0, 0, 0), some (.if_icmp .ne 11, 101, 0, 0), none, none, some (.aload_n 0, 0, 0, 0), some (.aload_n 3, 0, 0, 0), some (.getfield 111, 3, 4, 0), none, none, some (.invokevirtual 112, 36, 1, 4), none, none, some (.aload_n 0, 0, 0, 0), some (.invokevirtual 115, 41, 0, 4), none, none, some (.aload_n 3, 0, 0, 0), some (.getfield 108, 3, 2, 0), none, none, some (.iconst 5, 0, 0, 0), some (.if_icmp .ne 19, 129, 0, 0), none, none, some (.aload_n 0, 0, 0, 0), some (.iconst 1, 0, 0, 0), some (.putfield 59, 4, 12, 1), none, none, some (.aload_n 0, 0, 0, 0), some (.getfield 20, 4, 1, 0), none, none, some (.aload_n 3, 0, 0, 0), some (.getfield 118, 3, 1, 0), none, none, some (.invokevirtual 120, 12, 1, 1), none, none, some (.iconst 1, 0, 0, 0), some (.ireturn, 0, 0, 0)]
def sm_H40 : List Nat := [0, 0, 4074, 0, 0, 0, 0, 0, 0, 0, 1134, 4075, 0, 0, 0, 0, 0, 0, 0, 0, 0, 0, 1074, 0, 1069, 4076, 0, 0, 0, 0, 1063, 0, 0, 0, 0, 1125, 0, 3214, 4077, 0, 0, 0, 1131, 0, 0, 0, 0, 1137, 4078, 0, 4082, 0, 1131, 0, 0, 0, 0, 1215, 0, 1204, 0, 1128, 4083, 0, 0]
def sm_I40 : sm_I := (yX4_open, cX4_open, 6, some .boolean, sm_T40)
def sm_T41 : sm_T := [some (.aload_n 0, 0, 0, 0), some (.invokevirtual 124, 42, 0, 4), none, none, some (.iconst 0, 0, 0, 0), some (.istore_n 1, 0, 0, 0), some (.iload_n 1, 0, 0, 0), some (.bipush 12, 0, 0, 0), none, some (.if_icmp .ge 39, 48, 0, 0), none, none, some (.aload_n 0, 0, 0, 0), some (.getfield 49, 4, 9, 0), none, none, some (.iload_n 1, 0, 0, 0), some (.ishr, 0, 0, 0), some (.ifCond .eq 30, 48, 0, 0), none, none, some (.aload_n 0, 0, 0, 0), some (.iload_n 1, 0, 0, 0), some (.invokevirtual 75, 43, 1, 4), none, none, some (.ifCond .eq 16, 42, 0, 0), none, none, some (.aload_n 0, 0, 0, 0), some (.getfield 20, 4, 1, 0), none, none, some (.iload_n 1, 0, 0, 0), some (.aload_n 0, 0, 0, 0), some (.iload_n 1, 0, 0, 0), some (.invokevirtual 127, 49, 1, 4), none, none, some (.invokevirtual 71, 10, 2, 1), none, none, some (.iinc 1 1, 0, 0, 0), none, none, some (.goto (-39), 6, 0, 0), none, none, some (.return_, 0, 0, 0)]
def sm_H41 : List Nat := [0, 3209, 0, 0, 0, 0, 0, 0, 1212, 0, 0, 0, 0, 0, 3201, 0, 0, 1204, 0, 0, 0, 3215, 3200, 0, 0, 0]
def sm_I41 : sm_I := (yX4_settle, cX4_settle, 2, none, sm_T41)
def sm_T42 : sm_T := [some (.aload_n 0, 0, 0, 0), some (.getfield 23, 4, 2, 0), none, none, some (.invokevirtual 130, 11, 0, 1), none, none, some (.aload_n 0, 0, 0, 0), some (.getfield 26, 4, 3, 0), none, none, some (.invokevirtual 130, 11, 0, 1), none, none, some (.aload_n 0, 0, 0, 0), some (.iconst 0, 0, 0, 0), some (.putfield 29, 4, 4, 0), none, none, some (.aload_n 0, 0, 0, 0), some (.iconst 0, 0, 0, 0), some (.putfield 33, 4, 5, 0), none, none, some (.iconst 0, 0, 0, 0), some (.istore_n 1, 0, 0, 0), some (.iload_n 1, 0, 0, 0), some (.aload_n 0, 0, 0, 0), some (.getfield 39, 4, 6, 0), none, none, some (.getfield 79, 8, 2, 0), none, none, some (.if_icmp .ge 108, 142, 0, 0), none, none, some (.aload_n 0, 0, 0, 0), some (.getfield 14, 4, 0, 0), none, none, some (.iload_n 1, 0, 0, 0), some (.invokevirtual 104, 9, 1, 1), none, none, some (.istore_n 2, 0, 0, 0), some (.aload_n 0, 0, 0, 0), some (.getfield 39, 4, 6, 0), none, none, some (.getfield 132, 8, 1, 0), none, none, some (.iload_n 1, 0, 0, 0), some (.invokevirtual 104, 9, 1, 1), none, none, some (.istore_n 3, 0, 0, 0), some (.iload_n 3, 0, 0, 0), some (.aload_n 0, 0, 0, 0), some (.getfield 39, 4, 6, 0), none, none, some (.getfield 133, 8, 0, 0), none, none, some (.iload_n 1, 0, 0, 0), some (.invokevirtual 104, 9, 1, 1), none, none, some (.aload_n 0, 0, 0, 0), some (.getfield 43, 4, 7, 0), none, none, some (.iadd, 0, 0, 0), some (.imul, 0, 0, 0), some (.istore 4, 0, 0, 0), none, some (.aload_n 0, 0, 0, 0), some (.getfield 23, 4, 2, 0), none, none, some (.iload_n 2, 0, 0, 0), some (.aload_n 0, 0, 0, 0), some (.getfield 23, 4, 2, 0), none, none, some (.iload_n 2, 0, 0, 0), some (.invokevirtual 104, 9, 1, 1), none, none, some (.iload_n 3, 0, 0, 0), some (.iadd, 0, 0, 0), some (.invokevirtual 71, 10, 2, 1), none, none, some (.aload_n 0, 0, 0, 0), some (.getfield 26, 4, 3, 0), none, none, some (.iload_n 2, 0, 0, 0), some (.aload_n 0, 0, 0, 0), some (.getfield 26, 4, 3, 0), none, none, some (.iload_n 2, 0, 0, 0), some (.invokevirtual 104, 9, 1, 1), none, none, some (.iload 4, 0, 0, 0), none, some (.iadd, 0, 0, 0), some (.invokevirtual 71, 10, 2, 1), none, none, some (.aload_n 0, 0, 0, 0), some (.dup, 0, 0, 0), some (.getfield 29, 4, 4, 0), none, none, some (.iload_n 3, 0, 0, 0), some (.iadd, 0, 0, 0), some (.putfield 29, 4, 4, 0), none, none, some (.aload_n 0, 0, 0, 0), some (.dup, 0, 0, 0), some (.getfield 33, 4, 5, 0), none, none, some (.iload 4, 0, 0, 0), none, some (.iadd, 0, 0, 0), some (.putfield 33, 4, 5, 0), none, none, some (.iinc 1 1, 0, 0, 0), none, none, some (.goto (-113), 26, 0, 0), none, none, some (.return_, 0, 0, 0)]
def sm_H42 : List Nat := [0, 1205, 3213, 0, 1206, 3213, 0, 0, 1207, 0, 0, 1208, 0, 0, 0, 0, 1209, 1063, 0, 0, 1203, 0, 3214, 0, 0, 1209, 1060, 0, 3214, 0, 0, 0, 1209, 1057, 0, 3214, 0, 1210, 0, 0, 0, 0, 1205, 0, 0, 1205, 0, 3214, 0, 0, 3200, 0, 1206, 0, 0, 1206, 0, 3214, 0, 0, 3200, 0, 0, 1207, 0, 0, 1207, 0, 0, 1208, 0, 0, 1208, 0, 0, 0]
def sm_I42 : sm_I := (yX4_gather, cX4_gather, 5, none, sm_T42)
def sm_T43 : sm_T := [some (.iload_n 1, 0, 0, 0), some (.ifCond .lt 25, 26, 0, 0), none, none, some (.iload_n 1, 0, 0, 0), some (.bipush 12, 0, 0, 0), none, some (.if_icmp .ge 19, 26, 0, 0), none, none, some (.aload_n 0, 0, 0, 0), some (.getfield 49, 4, 9, 0), none, none, some (.iload_n 1, 0, 0, 0), some (.ishr, 0, 0, 0), some (.iconst 1, 0, 0, 0), some (.iand, 0, 0, 0), some (.iconst 1, 0, 0, 0), some (.if_icmp .ne 7, 26, 0, 0), none, none, some (.iconst 1, 0, 0, 0), some (.goto 4, 27, 0, 0), none, none, some (.iconst 0, 0, 0, 0), some (.ireturn, 0, 0, 0)]
def sm_H43 : List Nat := [0, 0, 0, 0, 0, 0, 1212, 0, 0, 0, 0, 0, 0, 0, 0, 0, 0]
def sm_I43 : sm_I := (yX4_isUsed, cX4_isUsed, 2, some .boolean, sm_T43)
def sm_T44 : sm_T := [some (.aload_n 0, 0, 0, 0), some (.getfield 39, 4, 6, 0), none, none, some (.iload_n 1, 0, 0, 0), some (.invokevirtual 136, 102, 1, 8), none, none, some (.ireturn, 0, 0, 0)]
def sm_H44 : List Nat := [0, 1209, 0, 4088, 0]
def sm_I44 : sm_I := (yX4_hasTruth, cX4_hasTruth, 2, some .boolean, sm_T44)
def sm_T45 : sm_T := [some (.aload_n 0, 0, 0, 0), some (.getfield 14, 4, 0, 0), none, none, some (.iload_n 1, 0, 0, 0), some (.invokevirtual 104, 9, 1, 1), none, none, some (.ireturn, 0, 0, 0)]
def sm_H45 : List Nat := [0, 1203, 0, 3214, 0]
def sm_I45 : sm_I := (yX4_wordOf, cX4_wordOf, 2, some .int, sm_T45)
def sm_T46 : sm_T := [some (.aload_n 0, 0, 0, 0), some (.getfield 20, 4, 1, 0), none, none, some (.iload_n 1, 0, 0, 0), some (.invokevirtual 104, 9, 1, 1), none, none, some (.ireturn, 0, 0, 0)]
def sm_H46 : List Nat := [0, 1204, 0, 3214, 0]
def sm_I46 : sm_I := (yX4_actAt, cX4_actAt, 2, some .int, sm_T46)
def sm_T47 : sm_T := [some (.iconst 0, 0, 0, 0), some (.istore_n 2, 0, 0, 0), some (.iconst 0, 0, 0, 0), some (.istore_n 3, 0, 0, 0), some (.iload_n 3, 0, 0, 0), some (.aload_n 0, 0, 0, 0), some (.getfield 39, 4, 6, 0), none, none, some (.getfield 79, 8, 2, 0), none, none, some (.if_icmp .ge 31, 43, 0, 0), none, none, some (.iload_n 2, 0, 0, 0), some (.aload_n 0, 0, 0, 0), some (.getfield 14, 4, 0, 0), none, none, some (.iload_n 3, 0, 0, 0), some (.invokevirtual 104, 9, 1, 1), none, none, some (.iload_n 1, 0, 0, 0), some (.if_icmp .ne 9, 34, 0, 0), none, none, some (.iconst 1, 0, 0, 0), some (.iload_n 3, 0, 0, 0), some (.ishl, 0, 0, 0), some (.goto 4, 35, 0, 0), none, none, some (.iconst 0, 0, 0, 0), some (.ior, 0, 0, 0), some (.istore_n 2, 0, 0, 0), some (.iinc 3 1, 0, 0, 0), none, none, some (.goto (-36), 4, 0, 0), none, none, some (.iload_n 2, 0, 0, 0), some (.ireturn, 0, 0, 0)]
def sm_H47 : List Nat := [0, 0, 0, 0, 0, 0, 1209, 1063, 0, 0, 0, 1203, 0, 3214, 0, 0, 0, 0, 0, 0, 0, 0, 0, 0, 0, 0, 0]
def sm_I47 : sm_I := (yX4_truthsAt, cX4_truthsAt, 4, some .int, sm_T47)
def sm_T48 : sm_T := [some (.aload_n 0, 0, 0, 0), some (.getfield 55, 4, 11, 0), none, none, some (.ifCond .eq 33, 37, 0, 0), none, none, some (.aload_n 0, 0, 0, 0), some (.getfield 62, 4, 13, 0), none, none, some (.i2l, 0, 0, 0), some (.aload_n 0, 0, 0, 0), some (.getfield 52, 4, 10, 0), none, none, some (.i2l, 0, 0, 0), some (.lmul, 0, 0, 0), some (.iload_n 1, 0, 0, 0), some (.i2l, 0, 0, 0), some (.lmul, 0, 0, 0), some (.ldc2_w 139, 100, 0, 0), none, none, some (.aload_n 0, 0, 0, 0), some (.getfield 62, 4, 13, 0), none, none, some (.i2l, 0, 0, 0), some (.lsub, 0, 0, 0), some (.iload_n 2, 0, 0, 0), some (.i2l, 0, 0, 0), some (.lmul, 0, 0, 0), some (.ladd, 0, 0, 0), some (.goto 5, 39, 0, 0), none, none, some (.iload_n 1, 0, 0, 0), some (.i2l, 0, 0, 0), some (.lreturn, 0, 0, 0)]
def sm_H48 : List Nat := [0, 1214, 0, 0, 1216, 0, 0, 1213, 0, 0, 0, 0, 0, 3223, 0, 1216, 0, 0, 0, 0, 0, 0, 0, 0, 0, 0]
def sm_I48 : sm_I := (yX4_blend, cX4_blend, 3, some .long, sm_T48)
def sm_T49 : sm_T := [some (.aload_n 0, 0, 0, 0), some (.aload_n 0, 0, 0, 0), some (.getfield 23, 4, 2, 0), none, none, some (.iload_n 1, 0, 0, 0), some (.invokevirtual 104, 9, 1, 1), none, none, some (.aload_n 0, 0, 0, 0), some (.getfield 29, 4, 4, 0), none, none, some (.invokevirtual 141, 48, 2, 4), none, none, some (.lstore_n 2, 0, 0, 0), some (.aload_n 0, 0, 0, 0), some (.getfield 39, 4, 6, 0), none, none, some (.getfield 145, 8, 6, 0), none, none, some (.ifCond .ne 24, 48, 0, 0), none, none, some (.lload_n 2, 0, 0, 0), some (.aload_n 0, 0, 0, 0), some (.aload_n 0, 0, 0, 0), some (.getfield 26, 4, 3, 0), none, none, some (.iload_n 1, 0, 0, 0), some (.invokevirtual 104, 9, 1, 1), none, none, some (.aload_n 0, 0, 0, 0), some (.getfield 33, 4, 5, 0), none, none, some (.invokevirtual 141, 48, 2, 4), none, none, some (.invokestatic 148, 50, 2, 0), none, none, some (.ireturn, 0, 0, 0), some (.aload_n 0, 0, 0, 0), some (.iload_n 1, 0, 0, 0), some (.lload_n 2, 0, 0, 0), some (.invokevirtual 152, 51, 2, 4), none, none, some (.ireturn, 0, 0, 0)]
def sm_H49 : List Nat := [0, 0, 1205, 0, 3214, 0, 1207, 3219, 0, 0, 1209, 1084, 0, 0, 0, 0, 1206, 0, 3214, 0, 1208, 3219, 3224, 0, 0, 0, 0, 3234, 0]
def sm_I49 : sm_I := (yX4_bestAct, cX4_bestAct, 4, some .int, sm_T49)
def sm_T50 : sm_T := [some (.ldc2_w 156, 2, 0, 0), none, none, some (.lload_n 0, 0, 0, 0), some (.lmul, 0, 0, 0), some (.lstore 4, 0, 0, 0), none, some (.lload 4, 0, 0, 0), none, some (.lconst 0, 0, 0, 0), some (.lcmp, 0, 0, 0), some (.ifCond .ne 7, 18, 0, 0), none, none, some (.iconst 0, 0, 0, 0), some (.goto 23, 38, 0, 0), none, none, some (.lload_n 0, 0, 0, 0), some (.ldc2_w 156, 2, 0, 0), none, none, some (.lload_n 2, 0, 0, 0), some (.lmul, 0, 0, 0), some (.lsub, 0, 0, 0), some (.lload 4, 0, 0, 0), none, some (.invokestatic 158, 284, 2, 0), none, none, some (.lneg, 0, 0, 0), some (.iconst 0, 0, 0, 0), some (.sipush 999, 0, 0, 0), none, none, some (.invokestatic 164, 172, 3, 0), none, none, some (.ireturn, 0, 0, 0)]
def sm_H50 : List Nat := [3227, 0, 0, 0, 0, 0, 0, 0, 0, 0, 0, 3227, 0, 0, 0, 0, 3228, 0, 0, 0, 3231, 0]
def sm_I50 : sm_I := (yX4_meanAct, cX4_meanAct, 6, some .int, sm_T50)
def sm_T51 : sm_T := [some (.iconst 0, 0, 0, 0), some (.istore 4, 0, 0, 0), none, some (.iconst 0, 0, 0, 0), some (.istore 5, 0, 0, 0), none, some (.iconst 0, 0, 0, 0), some (.istore 6, 0, 0, 0), none, some (.iload 6, 0, 0, 0), none, some (.aload_n 0, 0, 0, 0), some (.getfield 39, 4, 6, 0), none, none, some (.getfield 79, 8, 2, 0), none, none, some (.if_icmp .ge 97, 115, 0, 0), none, none, some (.aload_n 0, 0, 0, 0), some (.getfield 39, 4, 6, 0), none, none, some (.getfield 132, 8, 1, 0), none, none, some (.iload 6, 0, 0, 0), none, some (.invokevirtual 104, 9, 1, 1), none, none, some (.istore 7, 0, 0, 0), none, some (.iload 4, 0, 0, 0), none, some (.aload_n 0, 0, 0, 0), some (.getfield 14, 4, 0, 0), none, none, some (.iload 6, 0, 0, 0), none, some (.invokevirtual 104, 9, 1, 1), none, none, some (.iload_n 1, 0, 0, 0), some (.if_icmp .ne 8, 55, 0, 0), none, none, some (.iload 7, 0, 0, 0), none, some (.goto 4, 56, 0, 0), none, none, some (.iconst 0, 0, 0, 0), some (.iadd, 0, 0, 0), some (.istore 4, 0, 0, 0), none, some (.iload 5, 0, 0, 0), none, some (.iload 7, 0, 0, 0), none, some (.iadd, 0, 0, 0), some (.istore 5, 0, 0, 0), none, some (.ldc2_w 156, 2, 0, 0), none, none, some (.aload_n 0, 0, 0, 0), some (.iload 4, 0, 0, 0), none, some (.iload 5, 0, 0, 0), none, some (.invokevirtual 141, 48, 2, 4), none, none, some (.lmul, 0, 0, 0), some (.lload_n 2, 0, 0, 0), some (.lcmp, 0, 0, 0), some (.ifCond .lt 29, 109, 0, 0), none, none, some (.aload_n 0, 0, 0, 0), some (.getfield 39, 4, 6, 0), none, none, some (.getfield 133, 8, 0, 0), none, none, some (.iload 6, 0, 0, 0), none, some (.invokevirtual 104, 9, 1, 1), none, none, some (.aload_n 0, 0, 0, 0), some (.getfield 43, 4, 7, 0), none, none, some (.iadd, 0, 0, 0), some (.i2l, 0, 0, 0), some (.iconst 0, 0, 0, 0), some (.sipush 999, 0, 0, 0), none, none, some (.invokestatic 164, 172, 3, 0), none, none, some (.ireturn, 0, 0, 0), some (.iinc 6 1, 0, 0, 0), none, none, some (.goto (-103), 9, 0, 0), none, none, some (.iconst 0, 0, 0, 0), some (.ireturn, 0, 0, 0)]
def sm_H51 : List Nat := [0, 0, 0, 0, 0, 0, 0, 0, 1209, 1063, 0, 0, 1209, 1060, 0, 3214, 0, 0, 0, 1203, 0, 3214, 0, 0, 0, 0, 0, 0, 0, 0, 0, 0, 0, 3227, 0, 0, 0, 3219, 0, 0, 0, 0, 0, 1209, 1057, 0, 3214, 0, 1210, 0, 0, 0, 0, 3231, 0, 0, 0, 0, 0]
def sm_I51 : sm_I := (yX4_medianAct, cX4_medianAct, 8, some .int, sm_T51)
def sm_T52 : sm_T := [some (.aload_n 0, 0, 0, 0), some (.getfield 39, 4, 6, 0), none, none, some (.aload_n 0, 0, 0, 0), some (.getfield 20, 4, 1, 0), none, none, some (.iload_n 2, 0, 0, 0), some (.invokevirtual 104, 9, 1, 1), none, none, some (.aload_n 0, 0, 0, 0), some (.getfield 39, 4, 6, 0), none, none, some (.getfield 133, 8, 0, 0), none, none, some (.iload_n 1, 0, 0, 0), some (.invokevirtual 104, 9, 1, 1), none, none, some (.isub, 0, 0, 0), some (.iload_n 3, 0, 0, 0), some (.isub, 0, 0, 0), some (.i2l, 0, 0, 0), some (.invokevirtual 168, 105, 1, 8), none, none, some (.lreturn, 0, 0, 0)]
def sm_H52 : List Nat := [0, 1209, 0, 1204, 0, 3214, 0, 1209, 1057, 0, 3214, 0, 0, 0, 0, 4126, 0]
def sm_I52 : sm_I := (yX4_lossAt, cX4_lossAt, 4, some .long, sm_T52)
def sm_T53 : sm_T := [some (.aload_n 0, 0, 0, 0), some (.getfield 55, 4, 11, 0), none, none, some (.ifCond .ne 11, 15, 0, 0), none, none, some (.aload_n 0, 0, 0, 0), some (.iload_n 1, 0, 0, 0), some (.iload_n 2, 0, 0, 0), some (.iload_n 3, 0, 0, 0), some (.invokevirtual 172, 52, 3, 4), none, none, some (.lreturn, 0, 0, 0), some (.lconst 0, 0, 0, 0), some (.lstore 4, 0, 0, 0), none, some (.iconst 0, 0, 0, 0), some (.istore 6, 0, 0, 0), none, some (.iload 6, 0, 0, 0), none, some (.bipush 12, 0, 0, 0), none, some (.if_icmp .ge 35, 60, 0, 0), none, none, some (.lload 4, 0, 0, 0), none, some (.aload_n 0, 0, 0, 0), some (.iload 6, 0, 0, 0), none, some (.invokevirtual 75, 43, 1, 4), none, none, some (.ifCond .eq 14, 50, 0, 0), none, none, some (.aload_n 0, 0, 0, 0), some (.iload_n 1, 0, 0, 0), some (.iload 6, 0, 0, 0), none, some (.iload_n 3, 0, 0, 0), some (.invokevirtual 172, 52, 3, 4), none, none, some (.goto 4, 51, 0, 0), none, none, some (.lconst 0, 0, 0, 0), some (.ladd, 0, 0, 0), some (.lstore 4, 0, 0, 0), none, some (.iinc 6 1, 0, 0, 0), none, none, some (.goto (-36), 21, 0, 0), none, none, some (.aload_n 0, 0, 0, 0), some (.getfield 62, 4, 13, 0), none, none, some (.i2l, 0, 0, 0), some (.aload_n 0, 0, 0, 0), some (.getfield 52, 4, 10, 0), none, none, some (.i2l, 0, 0, 0), some (.lmul, 0, 0, 0), some (.aload_n 0, 0, 0, 0), some (.iload_n 1, 0, 0, 0), some (.iload_n 2, 0, 0, 0), some (.iload_n 3, 0, 0, 0), some (.invokevirtual 172, 52, 3, 4), none, none, some (.lmul, 0, 0, 0), some (.bipush 100, 0, 0, 0), none, some (.aload_n 0, 0, 0, 0), some (.getfield 62, 4, 13, 0), none, none, some (.isub, 0, 0, 0), some (.i2l, 0, 0, 0), some (.lload 4, 0, 0, 0), none, some (.lmul, 0, 0, 0), some (.ladd, 0, 0, 0), some (.lreturn, 0, 0, 0)]
def sm_H53 : List Nat := [0, 1214, 0, 0, 0, 0, 0, 4122, 0, 0, 0, 0, 0, 0, 0, 0, 0, 0, 0, 3201, 0, 0, 0, 0, 0, 4122, 0, 0, 0, 0, 0, 0, 0, 1216, 0, 0, 1213, 0, 0, 0, 0, 0, 0, 4122, 0, 0, 0, 1216, 0, 0, 0, 0, 0, 0]
def sm_I53 : sm_I := (yX4_spreadLoss, cX4_spreadLoss, 7, some .long, sm_T53)
def sm_T54 : sm_T := [some (.aload_n 0, 0, 0, 0), some (.iload_n 1, 0, 0, 0), some (.iload_n 2, 0, 0, 0), some (.aload_n 0, 0, 0, 0), some (.getfield 46, 4, 8, 0), none, none, some (.invokevirtual 176, 53, 3, 4), none, none, some (.lreturn, 0, 0, 0)]
def sm_H54 : List Nat := [0, 0, 0, 0, 1211, 4142, 0]
def sm_I54 : sm_I := (yX4_regretOf, cX4_regretOf, 3, some .long, sm_T54)
def sm_T55 : sm_T := [some (.aload_n 0, 0, 0, 0), some (.iload_n 1, 0, 0, 0), some (.iload_n 2, 0, 0, 0), some (.aload_n 0, 0, 0, 0), some (.getfield 46, 4, 8, 0), none, none, some (.invokevirtual 172, 52, 3, 4), none, none, some (.lreturn, 0, 0, 0)]
def sm_H55 : List Nat := [0, 0, 0, 0, 1211, 4122, 0]
def sm_I55 : sm_I := (yX4_dislike, cX4_dislike, 3, some .long, sm_T55)
def sm_T56 : sm_T := [some (.iload_n 1, 0, 0, 0), some (.ifCond .ne 10, 11, 0, 0), none, none, some (.aload_n 0, 0, 0, 0), some (.getfield 43, 4, 7, 0), none, none, some (.goto 7, 15, 0, 0), none, none, some (.aload_n 0, 0, 0, 0), some (.getfield 46, 4, 8, 0), none, none, some (.istore_n 2, 0, 0, 0), some (.lconst 0, 0, 0, 0), some (.lstore_n 3, 0, 0, 0), some (.iconst 0, 0, 0, 0), some (.istore 5, 0, 0, 0), none, some (.iload 5, 0, 0, 0), none, some (.aload_n 0, 0, 0, 0), some (.getfield 39, 4, 6, 0), none, none, some (.getfield 79, 8, 2, 0), none, none, some (.if_icmp .ge 42, 72, 0, 0), none, none, some (.lload_n 3, 0, 0, 0), some (.aload_n 0, 0, 0, 0), some (.getfield 39, 4, 6, 0), none, none, some (.getfield 132, 8, 1, 0), none, none, some (.iload 5, 0, 0, 0), none, some (.invokevirtual 104, 9, 1, 1), none, none, some (.i2l, 0, 0, 0), some (.aload_n 0, 0, 0, 0), some (.iload 5, 0, 0, 0), none, some (.aload_n 0, 0, 0, 0), some (.getfield 14, 4, 0, 0), none, none, some (.iload 5, 0, 0, 0), none, some (.invokevirtual 104, 9, 1, 1), none, none, some (.iload_n 2, 0, 0, 0), some (.invokevirtual 176, 53, 3, 4), none, none, some (.lmul, 0, 0, 0), some (.ladd, 0, 0, 0), some (.lstore_n 3, 0, 0, 0), some (.iinc 5 1, 0, 0, 0), none, none, some (.goto (-48), 21, 0, 0), none, none, some (.lload_n 3, 0, 0, 0), some (.lreturn, 0, 0, 0)]
def sm_H56 : List Nat := [0, 0, 0, 1210, 0, 0, 1211, 0, 0, 0, 0, 0, 0, 0, 1209, 1063, 0, 0, 0, 1209, 1060, 0, 3214, 0, 0, 0, 0, 1203, 0, 3214, 0, 4142, 0, 0, 0, 0, 0, 0, 0]
def sm_I56 : sm_I := (yX4_worthFor, cX4_worthFor, 6, some .long, sm_T56)
def sm_T57 : sm_T := [some (.iconst 0, 0, 0, 0), some (.istore_n 1, 0, 0, 0), some (.iload_n 1, 0, 0, 0), some (.aload_n 0, 0, 0, 0), some (.getfield 39, 4, 6, 0), none, none, some (.getfield 79, 8, 2, 0), none, none, some (.if_icmp .ge 78, 88, 0, 0), none, none, some (.aload_n 0, 0, 0, 0), some (.iload_n 1, 0, 0, 0), some (.aload_n 0, 0, 0, 0), some (.getfield 14, 4, 0, 0), none, none, some (.iload_n 1, 0, 0, 0), some (.invokevirtual 104, 9, 1, 1), none, none, some (.invokevirtual 179, 55, 2, 4), none, none, some (.lstore_n 2, 0, 0, 0), some (.iconst 0, 0, 0, 0), some (.istore 4, 0, 0, 0), none, some (.iload 4, 0, 0, 0), none, some (.bipush 12, 0, 0, 0), none, some (.if_icmp .ge 48, 82, 0, 0), none, none, some (.aload_n 0, 0, 0, 0), some (.getfield 49, 4, 9, 0), none, none, some (.iload 4, 0, 0, 0), none, some (.ishr, 0, 0, 0), some (.ifCond .eq 38, 82, 0, 0), none, none, some (.aload_n 0, 0, 0, 0), some (.iload 4, 0, 0, 0), none, some (.invokevirtual 75, 43, 1, 4), none, none, some (.ifCond .eq 23, 76, 0, 0), none, none, some (.aload_n 0, 0, 0, 0), some (.iload_n 1, 0, 0, 0), some (.iload 4, 0, 0, 0), none, some (.invokevirtual 179, 55, 2, 4), none, none, some (.lload_n 2, 0, 0, 0), some (.lcmp, 0, 0, 0), some (.ifCond .ge 11, 76, 0, 0), none, none, some (.bipush 100, 0, 0, 0), none, some (.iload_n 1, 0, 0, 0), some (.imul, 0, 0, 0), some (.iload 4, 0, 0, 0), none, some (.iadd, 0, 0, 0), some (.ireturn, 0, 0, 0), some (.iinc 4 1, 0, 0, 0), none, none, some (.goto (-49), 30, 0, 0), none, none, some (.iinc 1 1, 0, 0, 0), none, none, some (.goto (-83), 2, 0, 0), none, none, some (.iconst (-1), 0, 0, 0), some (.ireturn, 0, 0, 0)]
def sm_H57 : List Nat := [0, 0, 0, 0, 1209, 1063, 0, 0, 0, 0, 1203, 0, 3214, 4118, 0, 0, 0, 0, 0, 0, 0, 1212, 0, 0, 0, 0, 0, 3201, 0, 0, 0, 0, 4118, 0, 0, 0, 0, 0, 0, 0, 0, 0, 0, 0, 0, 0, 0, 0]
def sm_I57 : sm_I := (yX4_firstLie, cX4_firstLie, 5, some .int, sm_T57)
def sm_T58 : sm_T := [some (.aload_n 0, 0, 0, 0), some (.invokevirtual 182, 57, 0, 4), none, none, some (.istore_n 1, 0, 0, 0), some (.iload_n 1, 0, 0, 0), some (.iconst (-1), 0, 0, 0), some (.if_icmp .ne 10, 17, 0, 0), none, none, some (.aload_n 0, 0, 0, 0), some (.getfield 59, 4, 12, 0), none, none, some (.ifCond .ne 5, 19, 0, 0), none, none, some (.iload_n 1, 0, 0, 0), some (.ireturn, 0, 0, 0), some (.iconst 0, 0, 0, 0), some (.istore_n 2, 0, 0, 0), some (.iload_n 2, 0, 0, 0), some (.bipush 12, 0, 0, 0), none, some (.if_icmp .ge 50, 74, 0, 0), none, none, some (.aload_n 0, 0, 0, 0), some (.iload_n 2, 0, 0, 0), some (.invokevirtual 75, 43, 1, 4), none, none, some (.ifCond .eq 36, 68, 0, 0), none, none, some (.aload_n 0, 0, 0, 0), some (.iload_n 2, 0, 0, 0), some (.aload_n 0, 0, 0, 0), some (.iload_n 2, 0, 0, 0), some (.invokevirtual 127, 49, 1, 4), none, none, some (.invokevirtual 186, 59, 2, 4), none, none, some (.aload_n 0, 0, 0, 0), some (.iload_n 2, 0, 0, 0), some (.aload_n 0, 0, 0, 0), some (.getfield 20, 4, 1, 0), none, none, some (.iload_n 2, 0, 0, 0), some (.invokevirtual 104, 9, 1, 1), none, none, some (.invokevirtual 186, 59, 2, 4), none, none, some (.lcmp, 0, 0, 0), some (.ifCond .ge 9, 68, 0, 0), none, none, some (.sipush 10000, 0, 0, 0), none, none, some (.iload_n 2, 0, 0, 0), some (.iadd, 0, 0, 0), some (.ireturn, 0, 0, 0), some (.iinc 2 1, 0, 0, 0), none, none, some (.goto (-50), 21, 0, 0), none, none, some (.iconst (-1), 0, 0, 0), some (.ireturn, 0, 0, 0)]
def sm_H58 : List Nat := [0, 4114, 0, 0, 0, 0, 0, 1215, 0, 0, 0, 0, 0, 0, 0, 0, 0, 0, 3201, 0, 0, 0, 0, 0, 3215, 4130, 0, 0, 0, 1204, 0, 3214, 4130, 0, 0, 0, 0, 0, 0, 0, 0, 0, 0]
def sm_I58 : sm_I := (yX4_verdict, cX4_verdict, 3, some .int, sm_T58)
def sm_T59 : sm_T := [some (.lconst 0, 0, 0, 0), some (.lstore_n 3, 0, 0, 0), some (.iconst 0, 0, 0, 0), some (.istore 5, 0, 0, 0), none, some (.iload 5, 0, 0, 0), none, some (.aload_n 0, 0, 0, 0), some (.getfield 39, 4, 6, 0), none, none, some (.getfield 79, 8, 2, 0), none, none, some (.if_icmp .ge 74, 88, 0, 0), none, none, some (.aload_n 0, 0, 0, 0), some (.getfield 39, 4, 6, 0), none, none, some (.iload_n 2, 0, 0, 0), some (.aload_n 0, 0, 0, 0), some (.getfield 39, 4, 6, 0), none, none, some (.getfield 133, 8, 0, 0), none, none, some (.iload 5, 0, 0, 0), none, some (.invokevirtual 104, 9, 1, 1), none, none, some (.isub, 0, 0, 0), some (.aload_n 0, 0, 0, 0), some (.getfield 43, 4, 7, 0), none, none, some (.isub, 0, 0, 0), some (.i2l, 0, 0, 0), some (.invokevirtual 168, 105, 1, 8), none, none, some (.lstore 6, 0, 0, 0), none, some (.lload_n 3, 0, 0, 0), some (.aload_n 0, 0, 0, 0), some (.getfield 14, 4, 0, 0), none, none, some (.iload 5, 0, 0, 0), none, some (.invokevirtual 104, 9, 1, 1), none, none, some (.iload_n 1, 0, 0, 0), some (.if_icmp .ne 22, 79, 0, 0), none, none, some (.aload_n 0, 0, 0, 0), some (.getfield 39, 4, 6, 0), none, none, some (.getfield 132, 8, 1, 0), none, none, some (.iload 5, 0, 0, 0), none, some (.invokevirtual 104, 9, 1, 1), none, none, some (.i2l, 0, 0, 0), some (.lload 6, 0, 0, 0), none, some (.lmul, 0, 0, 0), some (.goto 4, 80, 0, 0), none, none, some (.lconst 0, 0, 0, 0), some (.ladd, 0, 0, 0), some (.lstore_n 3, 0, 0, 0), some (.iinc 5 1, 0, 0, 0), none, none, some (.goto (-80), 5, 0, 0), none, none, some (.lload_n 3, 0, 0, 0), some (.lreturn, 0, 0, 0)]
def sm_H59 : List Nat := [0, 0, 0, 0, 0, 0, 1209, 1063, 0, 0, 1209, 0, 0, 1209, 1057, 0, 3214, 0, 0, 1210, 0, 0, 4126, 0, 0, 0, 1203, 0, 3214, 0, 0, 0, 1209, 1060, 0, 3214, 0, 0, 0, 0, 0, 0, 0, 0, 0, 0, 0]
def sm_I59 : sm_I := (yX4_heardLoss, cX4_heardLoss, 8, some .long, sm_T59)
def sm_T60 : sm_T := [some (.iconst 0, 0, 0, 0), some (.istore_n 1, 0, 0, 0), some (.bipush 63, 0, 0, 0), none, some (.istore_n 2, 0, 0, 0), some (.iconst 0, 0, 0, 0), some (.istore_n 3, 0, 0, 0), some (.iload_n 3, 0, 0, 0), some (.aload_n 0, 0, 0, 0), some (.getfield 39, 4, 6, 0), none, none, some (.getfield 79, 8, 2, 0), none, none, some (.if_icmp .ge 153, 168, 0, 0), none, none, some (.aload_n 0, 0, 0, 0), some (.getfield 20, 4, 1, 0), none, none, some (.aload_n 0, 0, 0, 0), some (.getfield 14, 4, 0, 0), none, none, some (.iload_n 3, 0, 0, 0), some (.invokevirtual 104, 9, 1, 1), none, none, some (.invokevirtual 104, 9, 1, 1), none, none, some (.istore 4, 0, 0, 0), none, some (.iconst 0, 0, 0, 0), some (.istore 5, 0, 0, 0), none, some (.iload 5, 0, 0, 0), none, some (.bipush 12, 0, 0, 0), none, some (.if_icmp .ge 120, 162, 0, 0), none, none, some (.aload_n 0, 0, 0, 0), some (.getfield 49, 4, 9, 0), none, none, some (.iload 5, 0, 0, 0), none, some (.ishr, 0, 0, 0), some (.ifCond .eq 110, 162, 0, 0), none, none, some (.iload 4, 0, 0, 0), none, some (.aload_n 0, 0, 0, 0), some (.getfield 20, 4, 1, 0), none, none, some (.iload 5, 0, 0, 0), none, some (.invokevirtual 104, 9, 1, 1), none, none, some (.iadd, 0, 0, 0), some (.iconst 2, 0, 0, 0), some (.aload_n 0, 0, 0, 0), some (.getfield 39, 4, 6, 0), none, none, some (.getfield 133, 8, 0, 0), none, none, some (.iload_n 3, 0, 0, 0), some (.invokevirtual 104, 9, 1, 1), none, none, some (.imul, 0, 0, 0), some (.isub, 0, 0, 0), some (.istore 6, 0, 0, 0), none, some (.aload_n 0, 0, 0, 0), some (.iload 5, 0, 0, 0), none, some (.invokevirtual 75, 43, 1, 4), none, none, some (.ifCond .eq 31, 120, 0, 0), none, none, some (.aload_n 0, 0, 0, 0), some (.getfield 20, 4, 1, 0), none, none, some (.iload 5, 0, 0, 0), none, some (.invokevirtual 104, 9, 1, 1), none, none, some (.iload 4, 0, 0, 0), none, some (.if_icmp .le 17, 120, 0, 0), none, none, some (.iload_n 2, 0, 0, 0), some (.iload 6, 0, 0, 0), none, some (.iconst 2, 0, 0, 0), some (.invokestatic 189, 283, 2, 0), none, none, some (.invokestatic 192, 287, 2, 0), none, none, some (.istore_n 2, 0, 0, 0), some (.goto 39, 156, 0, 0), none, none, some (.aload_n 0, 0, 0, 0), some (.iload 5, 0, 0, 0), none, some (.invokevirtual 75, 43, 1, 4), none, none, some (.ifCond .eq 30, 156, 0, 0), none, none, some (.aload_n 0, 0, 0, 0), some (.getfield 20, 4, 1, 0), none, none, some (.iload 5, 0, 0, 0), none, some (.invokevirtual 104, 9, 1, 1), none, none, some (.iload 4, 0, 0, 0), none, some (.if_icmp .ge 16, 156, 0, 0), none, none, some (.iload_n 1, 0, 0, 0), some (.iload 6, 0, 0, 0), none, some (.iconst 1, 0, 0, 0), some (.iadd, 0, 0, 0), some (.iconst 2, 0, 0, 0), some (.invokestatic 189, 283, 2, 0), none, none, some (.invokestatic 195, 286, 2, 0), none, none, some (.istore_n 1, 0, 0, 0), some (.iinc 5 1, 0, 0, 0), none, none, some (.goto (-121), 38, 0, 0), none, none, some (.iinc 3 1, 0, 0, 0), none, none, some (.goto (-158), 7, 0, 0), none, none, some (.iload_n 1, 0, 0, 0), some (.iload_n 2, 0, 0, 0), some (.if_icmp .gt 7, 177, 0, 0), none, none, some (.iload_n 2, 0, 0, 0), some (.goto 4, 178, 0, 0), none, none, some (.iconst (-1), 0, 0, 0), some (.ireturn, 0, 0, 0)]
def sm_H60 : List Nat := [0, 0, 0, 0, 0, 0, 0, 0, 1209, 1063, 0, 0, 1204, 0, 1203, 0, 3214, 3214, 0, 0, 0, 0, 0, 0, 0, 1212, 0, 0, 0, 0, 0, 1204, 0, 3214, 0, 0, 0, 1209, 1057, 0, 3214, 0, 0, 0, 0, 0, 3201, 0, 0, 1204, 0, 3214, 0, 0, 0, 0, 0, 5011, 5014, 0, 0, 0, 0, 3201, 0, 0, 1204, 0, 3214, 0, 0, 0, 0, 0, 0, 0, 5011, 4222, 0, 0, 0, 0, 0, 0, 0, 0, 0, 0, 0, 0]
def sm_I60 : sm_I := (yX4_greatestWish, cX4_greatestWish, 7, some .int, sm_T60)
def sm_T61 : sm_T := [some (.aload_n 0, 0, 0, 0), some (.getfield 39, 4, 6, 0), none, none, some (.getfield 79, 8, 2, 0), none, none, some (.iconst 1, 0, 0, 0), some (.isub, 0, 0, 0), some (.istore_n 1, 0, 0, 0), some (.iload_n 1, 0, 0, 0), some (.ifCond .le 123, 134, 0, 0), none, none, some (.iconst 0, 0, 0, 0), some (.istore_n 2, 0, 0, 0), some (.iconst 0, 0, 0, 0), some (.istore_n 3, 0, 0, 0), some (.iload_n 3, 0, 0, 0), some (.iload_n 1, 0, 0, 0), some (.if_icmp .ge 22, 42, 0, 0), none, none, some (.iload_n 2, 0, 0, 0), some (.aload_n 0, 0, 0, 0), some (.getfield 14, 4, 0, 0), none, none, some (.iload_n 3, 0, 0, 0), some (.invokevirtual 104, 9, 1, 1), none, none, some (.invokestatic 195, 286, 2, 0), none, none, some (.istore_n 2, 0, 0, 0), some (.iinc 3 1, 0, 0, 0), none, none, some (.goto (-21), 18, 0, 0), none, none, some (.aload_n 0, 0, 0, 0), some (.getfield 14, 4, 0, 0), none, none, some (.iload_n 1, 0, 0, 0), some (.invokevirtual 104, 9, 1, 1), none, none, some (.iload_n 2, 0, 0, 0), some (.if_icmp .gt 77, 128, 0, 0), none, none, some (.aload_n 0, 0, 0, 0), some (.getfield 14, 4, 0, 0), none, none, some (.iload_n 1, 0, 0, 0), some (.invokevirtual 104, 9, 1, 1), none, none, some (.iconst 1, 0, 0, 0), some (.iadd, 0, 0, 0), some (.aload_n 0, 0, 0, 0), some (.getfield 39, 4, 6, 0), none, none, some (.getfield 198, 8, 5, 0), none, none, some (.if_icmp .ge 57, 128, 0, 0), none, none, some (.aload_n 0, 0, 0, 0), some (.getfield 14, 4, 0, 0), none, none, some (.iload_n 1, 0, 0, 0), some (.aload_n 0, 0, 0, 0), some (.getfield 14, 4, 0, 0), none, none, some (.iload_n 1, 0, 0, 0), some (.invokevirtual 104, 9, 1, 1), none, none, some (.iconst 1, 0, 0, 0), some (.iadd, 0, 0, 0), some (.invokevirtual 71, 10, 2, 1), none, none, some (.iload_n 1, 0, 0, 0), some (.iconst 1, 0, 0, 0), some (.iadd, 0, 0, 0), some (.istore_n 3, 0, 0, 0), some (.iload_n 3, 0, 0, 0), some (.aload_n 0, 0, 0, 0), some (.getfield 39, 4, 6, 0), none, none, some (.getfield 79, 8, 2, 0), none, none, some (.if_icmp .ge 18, 122, 0, 0), none, none, some (.aload_n 0, 0, 0, 0), some (.getfield 14, 4, 0, 0), none, none, some (.iload_n 3, 0, 0, 0), some (.iconst 0, 0, 0, 0), some (.invokevirtual 71, 10, 2, 1), none, none, some (.iinc 3 1, 0, 0, 0), none, none, some (.goto (-23), 96, 0, 0), none, none, some (.aload_n 0, 0, 0, 0), some (.invokevirtual 200, 62, 0, 4), none, none, some (.iconst 1, 0, 0, 0), some (.ireturn, 0, 0, 0), some (.iinc 1 (-1), 0, 0, 0), none, none, some (.goto (-121), 10, 0, 0), none, none, some (.iconst 0, 0, 0, 0), some (.ireturn, 0, 0, 0)]
def sm_H61 : List Nat := [0, 1209, 1063, 0, 0, 0, 0, 0, 0, 0, 0, 0, 0, 0, 0, 0, 0, 1203, 0, 3214, 4222, 0, 0, 0, 0, 1203, 0, 3214, 0, 0, 0, 1203, 0, 3214, 0, 0, 0, 1209, 1080, 0, 0, 1203, 0, 0, 1203, 0, 3214, 0, 0, 3200, 0, 0, 0, 0, 0, 0, 1209, 1063, 0, 0, 1203, 0, 0, 3200, 0, 0, 0, 4225, 0, 0, 0, 0, 0, 0]
def sm_I61 : sm_I := (yX4_nextWay, cX4_nextWay, 4, some .boolean, sm_T61)
def sm_T62 : sm_T := [some (.aload_n 0, 0, 0, 0), some (.invokevirtual 68, 37, 0, 4), none, none, some (.iconst 0, 0, 0, 0), some (.istore_n 1, 0, 0, 0), some (.iload_n 1, 0, 0, 0), some (.aload_n 0, 0, 0, 0), some (.getfield 39, 4, 6, 0), none, none, some (.getfield 79, 8, 2, 0), none, none, some (.if_icmp .ge 22, 36, 0, 0), none, none, some (.aload_n 0, 0, 0, 0), some (.iload_n 1, 0, 0, 0), some (.aload_n 0, 0, 0, 0), some (.getfield 14, 4, 0, 0), none, none, some (.iload_n 1, 0, 0, 0), some (.invokevirtual 104, 9, 1, 1), none, none, some (.invokevirtual 82, 38, 2, 4), none, none, some (.iinc 1 1, 0, 0, 0), none, none, some (.goto (-27), 6, 0, 0), none, none, some (.return_, 0, 0, 0)]
def sm_H62 : List Nat := [0, 3192, 0, 0, 0, 0, 1209, 1063, 0, 0, 0, 0, 1203, 0, 3214, 4077, 0, 0, 0]
def sm_I62 : sm_I := (yX4_countUsed, cX4_countUsed, 2, none, sm_T62)
def sm_T63 : sm_T := [some (.aload_n 0, 0, 0, 0), some (.iload_n 1, 0, 0, 0), some (.ldc 203, 2147483647, 0, 0), none, some (.iand, 0, 0, 0), some (.putfield 65, 4, 14, 0), none, none, some (.lconst 0, 0, 0, 0), some (.lstore_n 3, 0, 0, 0), some (.iconst 0, 0, 0, 0), some (.istore 5, 0, 0, 0), none, some (.iload 5, 0, 0, 0), none, some (.iload_n 2, 0, 0, 0), some (.if_icmp .ge 52, 68, 0, 0), none, none, some (.aload_n 0, 0, 0, 0), some (.aload_n 0, 0, 0, 0), some (.aload_n 0, 0, 0, 0), some (.getfield 39, 4, 6, 0), none, none, some (.invokevirtual 204, 106, 0, 8), none, none, some (.invokevirtual 207, 64, 1, 4), none, none, some (.invokevirtual 210, 65, 1, 4), none, none, some (.istore 6, 0, 0, 0), none, some (.lload_n 3, 0, 0, 0), some (.aload_n 0, 0, 0, 0), some (.iload 6, 0, 0, 0), none, some (.aload_n 0, 0, 0, 0), some (.aload_n 0, 0, 0, 0), some (.getfield 14, 4, 0, 0), none, none, some (.iload 6, 0, 0, 0), none, some (.invokevirtual 104, 9, 1, 1), none, none, some (.invokevirtual 213, 66, 1, 4), none, none, some (.aload_n 0, 0, 0, 0), some (.getfield 43, 4, 7, 0), none, none, some (.invokevirtual 172, 52, 3, 4), none, none, some (.ladd, 0, 0, 0), some (.lstore_n 3, 0, 0, 0), some (.iinc 5 1, 0, 0, 0), none, none, some (.goto (-52), 13, 0, 0), none, none, some (.lload_n 3, 0, 0, 0), some (.lreturn, 0, 0, 0)]
def sm_H63 : List Nat := [0, 0, 5107, 0, 1217, 0, 0, 0, 0, 0, 0, 0, 0, 0, 0, 1209, 5108, 5112, 5117, 0, 0, 0, 0, 0, 0, 1203, 0, 3214, 5121, 0, 1210, 4122, 0, 0, 0, 0, 0, 0]
def sm_I63 : sm_I := (yX4_drawnLoss, cX4_drawnLoss, 7, some .long, sm_T63)
def sm_T64 : sm_T := [some (.aload_n 0, 0, 0, 0), some (.aload_n 0, 0, 0, 0), some (.getfield 65, 4, 14, 0), none, none, some (.ldc 216, 1103515245, 0, 0), none, some (.imul, 0, 0, 0), some (.sipush 12345, 0, 0, 0), none, none, some (.iadd, 0, 0, 0), some (.ldc 203, 2147483647, 0, 0), none, some (.iand, 0, 0, 0), some (.putfield 65, 4, 14, 0), none, none, some (.iload_n 1, 0, 0, 0), some (.ifCond .le 15, 34, 0, 0), none, none, some (.aload_n 0, 0, 0, 0), some (.getfield 65, 4, 14, 0), none, none, some (.bipush 16, 0, 0, 0), none, some (.ishr, 0, 0, 0), some (.iload_n 1, 0, 0, 0), some (.irem, 0, 0, 0), some (.goto 4, 35, 0, 0), none, none, some (.iconst 0, 0, 0, 0), some (.ireturn, 0, 0, 0)]
def sm_H64 : List Nat := [0, 0, 1217, 5116, 0, 0, 0, 5107, 0, 1217, 0, 0, 0, 1217, 0, 0, 0, 0, 0, 0, 0]
def sm_I64 : sm_I := (yX4_drawBelow, cX4_drawBelow, 2, some .int, sm_T64)
def sm_T65 : sm_T := [some (.iconst 0, 0, 0, 0), some (.istore_n 2, 0, 0, 0), some (.iconst 0, 0, 0, 0), some (.istore_n 3, 0, 0, 0), some (.iload_n 3, 0, 0, 0), some (.aload_n 0, 0, 0, 0), some (.getfield 39, 4, 6, 0), none, none, some (.getfield 79, 8, 2, 0), none, none, some (.if_icmp .ge 30, 42, 0, 0), none, none, some (.iload_n 2, 0, 0, 0), some (.aload_n 0, 0, 0, 0), some (.getfield 39, 4, 6, 0), none, none, some (.getfield 132, 8, 1, 0), none, none, some (.iload_n 3, 0, 0, 0), some (.invokevirtual 104, 9, 1, 1), none, none, some (.iadd, 0, 0, 0), some (.istore_n 2, 0, 0, 0), some (.iload_n 1, 0, 0, 0), some (.iload_n 2, 0, 0, 0), some (.if_icmp .ge 5, 36, 0, 0), none, none, some (.iload_n 3, 0, 0, 0), some (.ireturn, 0, 0, 0), some (.iinc 3 1, 0, 0, 0), none, none, some (.goto (-35), 4, 0, 0), none, none, some (.iconst 0, 0, 0, 0), some (.ireturn, 0, 0, 0)]
def sm_H65 : List Nat := [0, 0, 0, 0, 0, 0, 1209, 1063, 0, 0, 0, 1209, 1060, 0, 3214, 0, 0, 0, 0, 0, 0, 0, 0, 0, 0, 0]
def sm_I65 : sm_I := (yX4_drawnTruth, cX4_drawnTruth, 4, some .int, sm_T65)
def sm_T66 : sm_T := [some (.aload_n 0, 0, 0, 0), some (.getfield 55, 4, 11, 0), none, none, some (.ifCond .eq 16, 20, 0, 0), none, none, some (.aload_n 0, 0, 0, 0), some (.bipush 100, 0, 0, 0), none, some (.invokevirtual 207, 64, 1, 4), none, none, some (.aload_n 0, 0, 0, 0), some (.getfield 62, 4, 13, 0), none, none, some (.if_icmp .ge 5, 22, 0, 0), none, none, some (.iload_n 1, 0, 0, 0), some (.ireturn, 0, 0, 0), some (.aload_n 0, 0, 0, 0), some (.aload_n 0, 0, 0, 0), some (.getfield 52, 4, 10, 0), none, none, some (.invokevirtual 207, 64, 1, 4), none, none, some (.istore_n 2, 0, 0, 0), some (.iconst 0, 0, 0, 0), some (.istore_n 3, 0, 0, 0), some (.iload_n 3, 0, 0, 0), some (.bipush 12, 0, 0, 0), none, some (.if_icmp .ge 26, 62, 0, 0), none, none, some (.aload_n 0, 0, 0, 0), some (.iload_n 3, 0, 0, 0), some (.invokevirtual 75, 43, 1, 4), none, none, some (.ifCond .eq 12, 56, 0, 0), none, none, some (.iload_n 2, 0, 0, 0), some (.ifCond .ne 5, 53, 0, 0), none, none, some (.iload_n 3, 0, 0, 0), some (.ireturn, 0, 0, 0), some (.iinc 2 (-1), 0, 0, 0), none, none, some (.iinc 3 1, 0, 0, 0), none, none, some (.goto (-26), 33, 0, 0), none, none, some (.iload_n 1, 0, 0, 0), some (.ireturn, 0, 0, 0)]
def sm_H66 : List Nat := [0, 1214, 0, 0, 0, 5112, 0, 1216, 0, 0, 0, 0, 0, 1213, 5112, 0, 0, 0, 0, 0, 0, 0, 0, 3201, 0, 0, 0, 0, 0, 0, 0, 0, 0, 0]
def sm_I66 : sm_I := (yX4_heardWord, cX4_heardWord, 4, some .int, sm_T66)
def sm_T67 : sm_T := [some (.aload_n 0, 0, 0, 0), some (.invokespecial 3, 999, 0, 0), none, none, some (.aload_n 0, 0, 0, 0), some (.new 9, 4, 0, 0), none, none, some (.dup, 0, 0, 0), some (.invokespecial 11, 34, 0, 0), none, none, some (.putfield 12, 5, 0, 13), none, none, some (.aload_n 0, 0, 0, 0), some (.new 9, 4, 0, 0), none, none, some (.dup, 0, 0, 0), some (.invokespecial 11, 34, 0, 0), none, none, some (.putfield 18, 5, 1, 13), none, none, some (.aload_n 0, 0, 0, 0), some (.lconst 0, 0, 0, 0), some (.putfield 21, 5, 2, 2), none, none, some (.aload_n 0, 0, 0, 0), some (.iconst (-1), 0, 0, 0), some (.putfield 25, 5, 3, 0), none, none, some (.aload_n 0, 0, 0, 0), some (.iconst (-1), 0, 0, 0), some (.putfield 29, 5, 4, 0), none, none, some (.return_, 0, 0, 0)]
def sm_H67 : List Nat := [0, 2014, 0, 2015, 0, 2016, 2017, 0, 2015, 0, 2016, 2018, 0, 0, 2019, 0, 0, 2021, 0, 0, 2023, 0]
def sm_I67 : sm_I := (yX5_init, cX5_init, 1, none, sm_T67)
def sm_T68 : sm_T := [some (.aload_n 0, 0, 0, 0), some (.getfield 12, 5, 0, 0), none, none, some (.iload_n 1, 0, 0, 0), some (.invokevirtual 32, 39, 1, 4), none, none, some (.aload_n 0, 0, 0, 0), some (.getfield 12, 5, 0, 0), none, none, some (.invokevirtual 36, 41, 0, 4), none, none, some (.aload_n 0, 0, 0, 0), some (.getfield 12, 5, 0, 0), none, none, some (.invokevirtual 39, 57, 0, 4), none, none, some (.iconst (-1), 0, 0, 0), some (.if_icmp .ne 7, 30, 0, 0), none, none, some (.iconst 1, 0, 0, 0), some (.goto 4, 31, 0, 0), none, none, some (.iconst 0, 0, 0, 0), some (.ireturn, 0, 0, 0)]
def sm_H68 : List Nat := [0, 2017, 0, 4180, 0, 2017, 4181, 0, 2017, 4182, 0, 0, 0, 0, 0, 0]
def sm_I68 : sm_I := (yX5_stands, cX5_stands, 2, some .boolean, sm_T68)
def sm_T69 : sm_T := [some (.aload_n 0, 0, 0, 0), some (.getfield 12, 5, 0, 0), none, none, some (.aload_n 1, 0, 0, 0), some (.aload_n 1, 0, 0, 0), some (.getfield 43, 8, 4, 0), none, none, some (.aload_n 1, 0, 0, 0), some (.getfield 48, 8, 3, 0), none, none, some (.invokevirtual 51, 35, 3, 4), none, none, some (.iconst 0, 0, 0, 0), some (.istore_n 2, 0, 0, 0), some (.iconst 0, 0, 0, 0), some (.istore_n 3, 0, 0, 0), some (.iload_n 3, 0, 0, 0), some (.aload_n 1, 0, 0, 0), some (.invokevirtual 55, 103, 0, 8), none, none, some (.if_icmp .ge 33, 58, 0, 0), none, none, some (.iload_n 2, 0, 0, 0), some (.aload_n 1, 0, 0, 0), some (.iload_n 3, 0, 0, 0), some (.invokevirtual 58, 104, 1, 8), none, none, some (.ifCond .eq 15, 49, 0, 0), none, none, some (.aload_n 0, 0, 0, 0), some (.iload_n 3, 0, 0, 0), some (.invokevirtual 62, 68, 1, 5), none, none, some (.ifCond .eq 7, 49, 0, 0), none, none, some (.iconst 1, 0, 0, 0), some (.goto 4, 50, 0, 0), none, none, some (.iconst 0, 0, 0, 0), some (.iadd, 0, 0, 0), some (.istore_n 2, 0, 0, 0), some (.iinc 3 1, 0, 0, 0), none, none, some (.goto (-35), 20, 0, 0), none, none, some (.iload_n 2, 0, 0, 0), some (.ireturn, 0, 0, 0)]
def sm_H69 : List Nat := [0, 2017, 0, 0, 1073, 0, 1068, 4173, 0, 0, 0, 0, 0, 0, 4174, 0, 0, 0, 0, 4175, 0, 0, 0, 4176, 0, 0, 0, 0, 0, 0, 0, 0, 0, 0]
def sm_I69 : sm_I := (yX5_countRuns, cX5_countRuns, 4, some .int, sm_T69)
def sm_T70 : sm_T := [some (.aload_n 0, 0, 0, 0), some (.getfield 12, 5, 0, 0), none, none, some (.aload_n 1, 0, 0, 0), some (.iload_n 2, 0, 0, 0), some (.iload_n 3, 0, 0, 0), some (.invokevirtual 51, 35, 3, 4), none, none, some (.iconst 0, 0, 0, 0), some (.istore 4, 0, 0, 0), none, some (.iconst 1, 0, 0, 0), some (.istore 5, 0, 0, 0), none, some (.iload 5, 0, 0, 0), none, some (.aload_n 1, 0, 0, 0), some (.invokevirtual 55, 103, 0, 8), none, none, some (.if_icmp .ge 56, 78, 0, 0), none, none, some (.iload 5, 0, 0, 0), none, some (.invokestatic 65, 282, 1, 0), none, none, some (.iload 4, 0, 0, 0), none, some (.invokestatic 65, 282, 1, 0), none, none, some (.if_icmp .le 7, 42, 0, 0), none, none, some (.iconst 1, 0, 0, 0), some (.goto 4, 43, 0, 0), none, none, some (.iconst 0, 0, 0, 0), some (.istore 6, 0, 0, 0), none, some (.iload 6, 0, 0, 0), none, some (.ifCond .eq 25, 72, 0, 0), none, none, some (.aload_n 1, 0, 0, 0), some (.iload 5, 0, 0, 0), none, some (.invokevirtual 58, 104, 1, 8), none, none, some (.ifCond .eq 16, 72, 0, 0), none, none, some (.aload_n 0, 0, 0, 0), some (.iload 5, 0, 0, 0), none, some (.invokevirtual 62, 68, 1, 5), none, none, some (.ifCond .eq 7, 72, 0, 0), none, none, some (.iload 5, 0, 0, 0), none, some (.istore 4, 0, 0, 0), none, some (.iinc 5 1, 0, 0, 0), none, none, some (.goto (-59), 16, 0, 0), none, none, some (.iload 4, 0, 0, 0), none, some (.ireturn, 0, 0, 0)]
def sm_H70 : List Nat := [0, 2017, 0, 0, 0, 4173, 0, 0, 0, 0, 0, 0, 4174, 0, 0, 4191, 0, 4191, 0, 0, 0, 0, 0, 0, 0, 0, 0, 4175, 0, 0, 0, 4176, 0, 0, 0, 0, 0, 0, 0]
def sm_I70 : sm_I := (yX5_finestCuts, cX5_finestCuts, 7, some .int, sm_T70)
def sm_T71 : sm_T := [some (.aload_n 0, 0, 0, 0), some (.aload_n 1, 0, 0, 0), some (.iload_n 2, 0, 0, 0), some (.iload_n 3, 0, 0, 0), some (.invokevirtual 71, 70, 3, 5), none, none, some (.invokestatic 65, 282, 1, 0), none, none, some (.iconst 1, 0, 0, 0), some (.iadd, 0, 0, 0), some (.ireturn, 0, 0, 0)]
def sm_H71 : List Nat := [0, 0, 0, 0, 4200, 4191, 0, 0, 0]
def sm_I71 : sm_I := (yX5_mostWords, cX5_mostWords, 4, some .int, sm_T71)
def sm_T72 : sm_T := [some (.aload_n 0, 0, 0, 0), some (.getfield 12, 5, 0, 0), none, none, some (.aload_n 1, 0, 0, 0), some (.aload_n 1, 0, 0, 0), some (.getfield 43, 8, 4, 0), none, none, some (.aload_n 1, 0, 0, 0), some (.getfield 48, 8, 3, 0), none, none, some (.invokevirtual 51, 35, 3, 4), none, none, some (.iconst (-1), 0, 0, 0), some (.istore_n 3, 0, 0, 0), some (.iconst 0, 0, 0, 0), some (.istore 4, 0, 0, 0), none, some (.iload 4, 0, 0, 0), none, some (.aload_n 1, 0, 0, 0), some (.invokevirtual 55, 103, 0, 8), none, none, some (.if_icmp .ge 61, 88, 0, 0), none, none, some (.aload_n 1, 0, 0, 0), some (.iload 4, 0, 0, 0), none, some (.invokevirtual 58, 104, 1, 8), none, none, some (.ifCond .eq 46, 82, 0, 0), none, none, some (.aload_n 0, 0, 0, 0), some (.iload 4, 0, 0, 0), none, some (.invokevirtual 62, 68, 1, 5), none, none, some (.ifCond .eq 37, 82, 0, 0), none, none, some (.aload_n 0, 0, 0, 0), some (.getfield 12, 5, 0, 0), none, none, some (.iload_n 2, 0, 0, 0), some (.invokevirtual 75, 56, 1, 4), none, none, some (.lstore 5, 0, 0, 0), none, some (.iload_n 3, 0, 0, 0), some (.iconst (-1), 0, 0, 0), some (.if_icmp .eq 13, 73, 0, 0), none, none, some (.lload 5, 0, 0, 0), none, some (.aload_n 0, 0, 0, 0), some (.getfield 21, 5, 2, 0), none, none, some (.lcmp, 0, 0, 0), some (.ifCond .ge 12, 82, 0, 0), none, none, some (.iload 4, 0, 0, 0), none, some (.istore_n 3, 0, 0, 0), some (.aload_n 0, 0, 0, 0), some (.lload 5, 0, 0, 0), none, some (.putfield 21, 5, 2, 2), none, none, some (.iinc 4 1, 0, 0, 0), none, none, some (.goto (-64), 21, 0, 0), none, none, some (.iload_n 3, 0, 0, 0), some (.ireturn, 0, 0, 0)]
def sm_H72 : List Nat := [0, 2017, 0, 0, 1073, 0, 1068, 4173, 0, 0, 0, 0, 0, 0, 4174, 0, 0, 0, 4175, 0, 0, 0, 4176, 0, 0, 2017, 0, 4209, 0, 0, 0, 0, 0, 0, 2019, 0, 0, 0, 0, 0, 0, 2019, 0, 0, 0, 0]
def sm_I72 : sm_I := (yX5_bestCuts, cX5_bestCuts, 7, some .int, sm_T72)
def sm_T73 : sm_T := [some (.aload_n 0, 0, 0, 0), some (.getfield 12, 5, 0, 0), none, none, some (.aload_n 1, 0, 0, 0), some (.aload_n 1, 0, 0, 0), some (.getfield 43, 8, 4, 0), none, none, some (.aload_n 1, 0, 0, 0), some (.getfield 48, 8, 3, 0), none, none, some (.invokevirtual 51, 35, 3, 4), none, none, some (.aload_n 0, 0, 0, 0), some (.getfield 12, 5, 0, 0), none, none, some (.iconst 0, 0, 0, 0), some (.invokevirtual 32, 39, 1, 4), none, none, some (.iconst 0, 0, 0, 0), some (.istore_n 2, 0, 0, 0), some (.iconst 1, 0, 0, 0), some (.istore_n 3, 0, 0, 0), some (.iconst 0, 0, 0, 0), some (.istore 4, 0, 0, 0), none, some (.iload_n 3, 0, 0, 0), some (.ifCond .eq 51, 83, 0, 0), none, none, some (.iload 4, 0, 0, 0), none, some (.sipush 203, 0, 0, 0), none, none, some (.if_icmp .ge 43, 83, 0, 0), none, none, some (.aload_n 0, 0, 0, 0), some (.getfield 12, 5, 0, 0), none, none, some (.invokevirtual 36, 41, 0, 4), none, none, some (.iload_n 2, 0, 0, 0), some (.aload_n 0, 0, 0, 0), some (.getfield 12, 5, 0, 0), none, none, some (.invokevirtual 39, 57, 0, 4), none, none, some (.iconst (-1), 0, 0, 0), some (.if_icmp .ne 7, 66, 0, 0), none, none, some (.iconst 1, 0, 0, 0), some (.goto 4, 67, 0, 0), none, none, some (.iconst 0, 0, 0, 0), some (.iadd, 0, 0, 0), some (.istore_n 2, 0, 0, 0), some (.aload_n 0, 0, 0, 0), some (.getfield 12, 5, 0, 0), none, none, some (.invokevirtual 79, 61, 0, 4), none, none, some (.istore_n 3, 0, 0, 0), some (.iinc 4 1, 0, 0, 0), none, none, some (.goto (-49), 31, 0, 0), none, none, some (.iload_n 2, 0, 0, 0), some (.ireturn, 0, 0, 0)]
def sm_H73 : List Nat := [0, 2017, 0, 0, 1073, 0, 1068, 4173, 0, 2017, 0, 4180, 0, 0, 0, 0, 0, 0, 0, 0, 0, 0, 0, 0, 2017, 4181, 0, 0, 2017, 4182, 0, 0, 0, 0, 0, 0, 0, 0, 2017, 4218, 0, 0, 0, 0, 0]
def sm_I73 : sm_I := (yX5_countWays, cX5_countWays, 5, some .int, sm_T73)
def sm_T74 : sm_T := [some (.iload_n 1, 0, 0, 0), some (.invokestatic 65, 282, 1, 0), none, none, some (.iconst 1, 0, 0, 0), some (.iadd, 0, 0, 0), some (.iload_n 2, 0, 0, 0), some (.if_icmp .ne 15, 22, 0, 0), none, none, some (.aload_n 0, 0, 0, 0), some (.iload_n 1, 0, 0, 0), some (.invokevirtual 58, 104, 1, 8), none, none, some (.ifCond .eq 7, 22, 0, 0), none, none, some (.iconst 1, 0, 0, 0), some (.goto 4, 23, 0, 0), none, none, some (.iconst 0, 0, 0, 0), some (.ireturn, 0, 0, 0)]
def sm_H74 : List Nat := [0, 4191, 0, 0, 0, 0, 0, 0, 4175, 0, 0, 0, 0, 0]
def sm_I74 : sm_I := (yX5_isRunOf, cX5_isRunOf, 3, some .boolean, sm_T74)
def sm_T75 : sm_T := [some (.aload_n 0, 0, 0, 0), some (.getfield 12, 5, 0, 0), none, none, some (.aload_n 1, 0, 0, 0), some (.aload_n 1, 0, 0, 0), some (.getfield 43, 8, 4, 0), none, none, some (.aload_n 1, 0, 0, 0), some (.getfield 48, 8, 3, 0), none, none, some (.invokevirtual 51, 35, 3, 4), none, none, some (.iconst (-1), 0, 0, 0), some (.istore_n 3, 0, 0, 0), some (.iconst 0, 0, 0, 0), some (.istore 4, 0, 0, 0), none, some (.iload 4, 0, 0, 0), none, some (.aload_n 1, 0, 0, 0), some (.invokevirtual 55, 103, 0, 8), none, none, some (.if_icmp .ge 47, 74, 0, 0), none, none, some (.aload_n 1, 0, 0, 0), some (.iload 4, 0, 0, 0), none, some (.iload_n 2, 0, 0, 0), some (.invokestatic 83, 74, 3, 0), none, none, some (.ifCond .eq 31, 68, 0, 0), none, none, some (.aload_n 0, 0, 0, 0), some (.getfield 12, 5, 0, 0), none, none, some (.iload 4, 0, 0, 0), none, some (.invokevirtual 32, 39, 1, 4), none, none, some (.aload_n 0, 0, 0, 0), some (.getfield 12, 5, 0, 0), none, none, some (.invokevirtual 36, 41, 0, 4), none, none, some (.iload_n 3, 0, 0, 0), some (.aload_n 0, 0, 0, 0), some (.getfield 12, 5, 0, 0), none, none, some (.invokevirtual 87, 60, 0, 4), none, none, some (.invokestatic 90, 286, 2, 0), none, none, some (.istore_n 3, 0, 0, 0), some (.iinc 4 1, 0, 0, 0), none, none, some (.goto (-50), 21, 0, 0), none, none, some (.iload_n 3, 0, 0, 0), some (.ireturn, 0, 0, 0)]
def sm_H75 : List Nat := [0, 2017, 0, 0, 1073, 0, 1068, 4173, 0, 0, 0, 0, 0, 0, 4174, 0, 0, 0, 0, 5004, 0, 0, 2017, 0, 4180, 0, 2017, 4181, 0, 0, 2017, 5007, 5017, 0, 0, 0, 0, 0]
def sm_I75 : sm_I := (yX5_edgeOf, cX5_edgeOf, 5, some .int, sm_T75)
def sm_T76 : sm_T := [some (.aload_n 0, 0, 0, 0), some (.getfield 12, 5, 0, 0), none, none, some (.aload_n 1, 0, 0, 0), some (.aload_n 1, 0, 0, 0), some (.getfield 43, 8, 4, 0), none, none, some (.aload_n 1, 0, 0, 0), some (.getfield 48, 8, 3, 0), none, none, some (.invokevirtual 51, 35, 3, 4), none, none, some (.aload_n 0, 0, 0, 0), some (.getfield 18, 5, 1, 0), none, none, some (.aload_n 1, 0, 0, 0), some (.aload_n 1, 0, 0, 0), some (.getfield 96, 8, 8, 0), none, none, some (.aload_n 1, 0, 0, 0), some (.getfield 99, 8, 9, 0), none, none, some (.invokevirtual 51, 35, 3, 4), none, none, some (.iconst 1, 0, 0, 0), some (.istore_n 2, 0, 0, 0), some (.iconst 1, 0, 0, 0), some (.istore_n 3, 0, 0, 0), some (.iload_n 3, 0, 0, 0), some (.aload_n 1, 0, 0, 0), some (.invokevirtual 55, 103, 0, 8), none, none, some (.if_icmp .ge 46, 87, 0, 0), none, none, some (.iload_n 3, 0, 0, 0), some (.invokestatic 65, 282, 1, 0), none, none, some (.iconst 1, 0, 0, 0), some (.iadd, 0, 0, 0), some (.istore 4, 0, 0, 0), none, some (.iload 4, 0, 0, 0), none, some (.iload_n 2, 0, 0, 0), some (.if_icmp .le 26, 81, 0, 0), none, none, some (.aload_n 1, 0, 0, 0), some (.iload_n 3, 0, 0, 0), some (.invokevirtual 58, 104, 1, 8), none, none, some (.ifCond .eq 18, 81, 0, 0), none, none, some (.aload_n 0, 0, 0, 0), some (.iload_n 3, 0, 0, 0), some (.aload_n 1, 0, 0, 0), some (.getfield 102, 8, 2, 0), none, none, some (.invokevirtual 105, 77, 2, 5), none, none, some (.ifCond .eq 6, 81, 0, 0), none, none, some (.iload 4, 0, 0, 0), none, some (.istore_n 2, 0, 0, 0), some (.iinc 3 1, 0, 0, 0), none, none, some (.goto (-48), 36, 0, 0), none, none, some (.iload_n 2, 0, 0, 0), some (.ireturn, 0, 0, 0)]
def sm_H76 : List Nat := [0, 2017, 0, 0, 1073, 0, 1068, 4173, 0, 2018, 0, 0, 1089, 0, 1093, 4173, 0, 0, 0, 0, 0, 0, 4174, 0, 0, 4191, 0, 0, 0, 0, 0, 0, 0, 0, 4175, 0, 0, 0, 0, 1065, 5026, 0, 0, 0, 0, 0, 0, 0]
def sm_I76 : sm_I := (yX5_mostWordsForBoth, cX5_mostWordsForBoth, 5, some .int, sm_T76)
def sm_T77 : sm_T := [some (.aload_n 0, 0, 0, 0), some (.getfield 12, 5, 0, 0), none, none, some (.iload_n 1, 0, 0, 0), some (.invokevirtual 32, 39, 1, 4), none, none, some (.aload_n 0, 0, 0, 0), some (.getfield 12, 5, 0, 0), none, none, some (.invokevirtual 36, 41, 0, 4), none, none, some (.aload_n 0, 0, 0, 0), some (.getfield 18, 5, 1, 0), none, none, some (.iload_n 1, 0, 0, 0), some (.invokevirtual 32, 39, 1, 4), none, none, some (.aload_n 0, 0, 0, 0), some (.getfield 18, 5, 1, 0), none, none, some (.invokevirtual 36, 41, 0, 4), none, none, some (.iconst 0, 0, 0, 0), some (.istore_n 3, 0, 0, 0), some (.iload_n 3, 0, 0, 0), some (.iload_n 2, 0, 0, 0), some (.if_icmp .ge 99, 133, 0, 0), none, none, some (.aload_n 0, 0, 0, 0), some (.getfield 12, 5, 0, 0), none, none, some (.iload_n 3, 0, 0, 0), some (.invokevirtual 109, 45, 1, 4), none, none, some (.istore 4, 0, 0, 0), none, some (.aload_n 0, 0, 0, 0), some (.getfield 12, 5, 0, 0), none, none, some (.iload_n 3, 0, 0, 0), some (.iload 4, 0, 0, 0), none, some (.invokevirtual 112, 55, 2, 4), none, none, some (.aload_n 0, 0, 0, 0), some (.getfield 18, 5, 1, 0), none, none, some (.iload_n 3, 0, 0, 0), some (.iload 4, 0, 0, 0), none, some (.invokevirtual 112, 55, 2, 4), none, none, some (.ladd, 0, 0, 0), some (.lstore 5, 0, 0, 0), none, some (.iconst 0, 0, 0, 0), some (.istore 7, 0, 0, 0), none, some (.iload 7, 0, 0, 0), none, some (.bipush 12, 0, 0, 0), none, some (.if_icmp .ge 50, 127, 0, 0), none, none, some (.aload_n 0, 0, 0, 0), some (.getfield 12, 5, 0, 0), none, none, some (.iload 7, 0, 0, 0), none, some (.invokevirtual 116, 43, 1, 4), none, none, some (.ifCond .eq 32, 121, 0, 0), none, none, some (.aload_n 0, 0, 0, 0), some (.getfield 12, 5, 0, 0), none, none, some (.iload_n 3, 0, 0, 0), some (.iload 7, 0, 0, 0), none, some (.invokevirtual 112, 55, 2, 4), none, none, some (.aload_n 0, 0, 0, 0), some (.getfield 18, 5, 1, 0), none, none, some (.iload_n 3, 0, 0, 0), some (.iload 7, 0, 0, 0), none, some (.invokevirtual 112, 55, 2, 4), none, none, some (.ladd, 0, 0, 0), some (.lload 5, 0, 0, 0), none, some (.lcmp, 0, 0, 0), some (.ifCond .ge 5, 121, 0, 0), none, none, some (.iconst 0, 0, 0, 0), some (.ireturn, 0, 0, 0), some (.iinc 7 1, 0, 0, 0), none, none, some (.goto (-51), 73, 0, 0), none, none, some (.iinc 3 1, 0, 0, 0), none, none, some (.goto (-98), 32, 0, 0), none, none, some (.iconst 1, 0, 0, 0), some (.ireturn, 0, 0, 0)]
def sm_H77 : List Nat := [0, 2017, 0, 4180, 0, 2017, 4181, 0, 2018, 0, 4180, 0, 2018, 4181, 0, 0, 0, 0, 0, 0, 2017, 0, 5030, 0, 0, 2017, 0, 0, 5031, 0, 2018, 0, 0, 5031, 0, 0, 0, 0, 0, 0, 0, 0, 2017, 0, 5032, 0, 0, 2017, 0, 0, 5031, 0, 2018, 0, 0, 5031, 0, 0, 0, 0, 0, 0, 0, 0, 0, 0, 0, 0]
def sm_I77 : sm_I := (yX5_standsForBoth, cX5_standsForBoth, 8, some .boolean, sm_T77)
def sm_T78 : sm_T := [some (.aload_n 0, 0, 0, 0), some (.iconst (-1), 0, 0, 0), some (.putfield 25, 5, 3, 0), none, none, some (.aload_n 0, 0, 0, 0), some (.iconst (-1), 0, 0, 0), some (.putfield 29, 5, 4, 0), none, none, some (.lconst 0, 0, 0, 0), some (.lstore_n 3, 0, 0, 0), some (.bipush 100, 0, 0, 0), none, some (.istore 5, 0, 0, 0), none, some (.iload 5, 0, 0, 0), none, some (.ifCond .lt 122, 140, 0, 0), none, none, some (.iload_n 2, 0, 0, 0), some (.ifCond .le 118, 140, 0, 0), none, none, some (.aload_n 0, 0, 0, 0), some (.getfield 12, 5, 0, 0), none, none, some (.aload_n 1, 0, 0, 0), some (.aload_n 1, 0, 0, 0), some (.getfield 43, 8, 4, 0), none, none, some (.aload_n 1, 0, 0, 0), some (.getfield 48, 8, 3, 0), none, none, some (.invokevirtual 51, 35, 3, 4), none, none, some (.aload_n 0, 0, 0, 0), some (.getfield 12, 5, 0, 0), none, none, some (.iload 5, 0, 0, 0), none, some (.invokevirtual 119, 36, 1, 4), none, none, some (.iconst 0, 0, 0, 0), some (.istore 6, 0, 0, 0), none, some (.iload 6, 0, 0, 0), none, some (.aload_n 1, 0, 0, 0), some (.invokevirtual 55, 103, 0, 8), none, none, some (.if_icmp .ge 75, 134, 0, 0), none, none, some (.aload_n 1, 0, 0, 0), some (.iload 6, 0, 0, 0), none, some (.iload_n 2, 0, 0, 0), some (.invokestatic 83, 74, 3, 0), none, none, some (.ifCond .eq 59, 128, 0, 0), none, none, some (.aload_n 0, 0, 0, 0), some (.iload 6, 0, 0, 0), none, some (.invokevirtual 62, 68, 1, 5), none, none, some (.ifCond .eq 50, 128, 0, 0), none, none, some (.aload_n 0, 0, 0, 0), some (.getfield 12, 5, 0, 0), none, none, some (.iconst 0, 0, 0, 0), some (.invokevirtual 75, 56, 1, 4), none, none, some (.ldc2_w 122, 100, 0, 0), none, none, some (.iload_n 2, 0, 0, 0), some (.i2l, 0, 0, 0), some (.lmul, 0, 0, 0), some (.ldiv, 0, 0, 0), some (.lstore 7, 0, 0, 0), none, some (.aload_n 0, 0, 0, 0), some (.getfield 29, 5, 4, 0), none, none, some (.iconst (-1), 0, 0, 0), some (.if_icmp .eq 10, 113, 0, 0), none, none, some (.lload 7, 0, 0, 0), none, some (.lload_n 3, 0, 0, 0), some (.lcmp, 0, 0, 0), some (.ifCond .ge 18, 128, 0, 0), none, none, some (.aload_n 0, 0, 0, 0), some (.iload 5, 0, 0, 0), none, some (.putfield 25, 5, 3, 0), none, none, some (.aload_n 0, 0, 0, 0), some (.iload 6, 0, 0, 0), none, some (.putfield 29, 5, 4, 0), none, none, some (.lload 7, 0, 0, 0), none, some (.lstore_n 3, 0, 0, 0), some (.iinc 6 1, 0, 0, 0), none, none, some (.goto (-78), 53, 0, 0), none, none, some (.iinc 5 (-5), 0, 0, 0), none, none, some (.goto (-121), 16, 0, 0), none, none, some (.return_, 0, 0, 0)]
def sm_H78 : List Nat := [0, 0, 2021, 0, 0, 2023, 0, 0, 0, 0, 0, 0, 0, 0, 0, 2017, 0, 0, 1073, 0, 1068, 4173, 0, 2017, 0, 5045, 0, 0, 0, 0, 4174, 0, 0, 0, 0, 5004, 0, 0, 0, 4176, 0, 0, 2017, 0, 4209, 5046, 0, 0, 0, 0, 0, 0, 2023, 0, 0, 0, 0, 0, 0, 0, 0, 2021, 0, 0, 2023, 0, 0, 0, 0, 0, 0, 0]
def sm_I78 : sm_I := (yX5_findMiddleman, cX5_findMiddleman, 9, none, sm_T78)
def sm_T79 : sm_T := [some (.aload_n 0, 0, 0, 0), some (.invokespecial 3, 999, 0, 0), none, none, some (.aload_n 0, 0, 0, 0), some (.bipush 64, 0, 0, 0), none, some (.newarray .long, 1, 0, 0), none, some (.putfield 9, 6, 0, 13), none, none, some (.aload_n 0, 0, 0, 0), some (.iconst 0, 0, 0, 0), some (.putfield 15, 6, 1, 0), none, none, some (.aload_n 0, 0, 0, 0), some (.iconst 0, 0, 0, 0), some (.putfield 19, 6, 2, 0), none, none, some (.aload_n 0, 0, 0, 0), some (.iconst 0, 0, 0, 0), some (.putfield 22, 6, 3, 0), none, none, some (.aload_n 0, 0, 0, 0), some (.iconst (-1), 0, 0, 0), some (.putfield 25, 6, 4, 0), none, none, some (.return_, 0, 0, 0)]
def sm_H79 : List Nat := [0, 2065, 0, 0, 2086, 2066, 0, 0, 2067, 0, 0, 2068, 0, 0, 2070, 0, 0, 2073, 0]
def sm_I79 : sm_I := (yX6_init, cX6_init, 1, none, sm_T79)
def sm_T80 : sm_T := [some (.aload_n 0, 0, 0, 0), some (.getfield 15, 6, 1, 0), none, none, some (.iconst 1, 0, 0, 0), some (.if_icmp .ne 7, 12, 0, 0), none, none, some (.iconst 1, 0, 0, 0), some (.goto 4, 13, 0, 0), none, none, some (.iconst 0, 0, 0, 0), some (.ireturn, 0, 0, 0)]
def sm_H80 : List Nat := [0, 2067, 0, 0, 0, 0, 0, 0]
def sm_I80 : sm_I := (yX6_lies, cX6_lies, 1, some .boolean, sm_T80)
def sm_T81 : sm_T := [some (.aload_n 0, 0, 0, 0), some (.getfield 15, 6, 1, 0), none, none, some (.iconst 2, 0, 0, 0), some (.if_icmp .ne 7, 12, 0, 0), none, none, some (.iconst 1, 0, 0, 0), some (.goto 4, 13, 0, 0), none, none, some (.iconst 0, 0, 0, 0), some (.ireturn, 0, 0, 0)]
def sm_H81 : List Nat := [0, 2067, 0, 0, 0, 0, 0, 0]
def sm_I81 : sm_I := (yX6_shows, cX6_shows, 1, some .boolean, sm_T81)
def sm_T82 : sm_T := [some (.aload_n 0, 0, 0, 0), some (.invokevirtual 28, 83, 0, 6), none, none, some (.aload_n 0, 0, 0, 0), some (.iconst 1, 0, 0, 0), some (.putfield 15, 6, 1, 0), none, none, some (.aload_n 0, 0, 0, 0), some (.iload_n 1, 0, 0, 0), some (.putfield 19, 6, 2, 0), none, none, some (.aload_n 0, 0, 0, 0), some (.iload_n 2, 0, 0, 0), some (.aload_n 0, 0, 0, 0), some (.getfield 9, 6, 0, 0), none, none, some (.arraylength, 0, 0, 0), some (.if_icmp .ge 7, 28, 0, 0), none, none, some (.iload_n 2, 0, 0, 0), some (.goto 8, 33, 0, 0), none, none, some (.aload_n 0, 0, 0, 0), some (.getfield 9, 6, 0, 0), none, none, some (.arraylength, 0, 0, 0), some (.putfield 22, 6, 3, 0), none, none, some (.iconst 0, 0, 0, 0), some (.istore_n 3, 0, 0, 0), some (.iload_n 3, 0, 0, 0), some (.aload_n 0, 0, 0, 0), some (.getfield 9, 6, 0, 0), none, none, some (.arraylength, 0, 0, 0), some (.if_icmp .ge 16, 60, 0, 0), none, none, some (.aload_n 0, 0, 0, 0), some (.getfield 9, 6, 0, 0), none, none, some (.iload_n 3, 0, 0, 0), some (.lconst 0, 0, 0, 0), some (.lastore, 0, 0, 0), some (.iinc 3 1, 0, 0, 0), none, none, some (.goto (-19), 38, 0, 0), none, none, some (.return_, 0, 0, 0)]
def sm_H82 : List Nat := [0, 2145, 0, 0, 2067, 0, 0, 2068, 0, 0, 0, 2066, 0, 0, 0, 0, 0, 2066, 0, 2070, 0, 0, 0, 0, 2066, 0, 0, 0, 2066, 0, 0, 0, 0, 0, 0]
def sm_I82 : sm_I := (yX6_lay, cX6_lay, 4, none, sm_T82)
def sm_T83 : sm_T := [some (.aload_n 0, 0, 0, 0), some (.iconst 0, 0, 0, 0), some (.putfield 15, 6, 1, 0), none, none, some (.aload_n 0, 0, 0, 0), some (.iconst 0, 0, 0, 0), some (.putfield 22, 6, 3, 0), none, none, some (.aload_n 0, 0, 0, 0), some (.iconst (-1), 0, 0, 0), some (.putfield 25, 6, 4, 0), none, none, some (.return_, 0, 0, 0)]
def sm_H83 : List Nat := [0, 0, 2067, 0, 0, 2070, 0, 0, 2073, 0]
def sm_I83 : sm_I := (yX6_empty, cX6_empty, 1, none, sm_T83)
def sm_T84 : sm_T := [some (.aload_n 0, 0, 0, 0), some (.invokevirtual 28, 83, 0, 6), none, none, some (.aload_n 0, 0, 0, 0), some (.iconst 2, 0, 0, 0), some (.putfield 15, 6, 1, 0), none, none, some (.aload_n 0, 0, 0, 0), some (.iload_n 1, 0, 0, 0), some (.putfield 25, 6, 4, 0), none, none, some (.return_, 0, 0, 0)]
def sm_H84 : List Nat := [0, 2145, 0, 0, 2067, 0, 0, 2073, 0]
def sm_I84 : sm_I := (yX6_hang, cX6_hang, 2, none, sm_T84)
def sm_T85 : sm_T := [some (.iload_n 1, 0, 0, 0), some (.ifCond .lt 24, 25, 0, 0), none, none, some (.iload_n 1, 0, 0, 0), some (.aload_n 0, 0, 0, 0), some (.getfield 22, 6, 3, 0), none, none, some (.if_icmp .ge 16, 25, 0, 0), none, none, some (.iload_n 1, 0, 0, 0), some (.aload_n 0, 0, 0, 0), some (.getfield 9, 6, 0, 0), none, none, some (.arraylength, 0, 0, 0), some (.if_icmp .ge 7, 25, 0, 0), none, none, some (.iconst 1, 0, 0, 0), some (.goto 4, 26, 0, 0), none, none, some (.iconst 0, 0, 0, 0), some (.ireturn, 0, 0, 0)]
def sm_H85 : List Nat := [0, 0, 0, 0, 2070, 0, 0, 0, 2066, 0, 0, 0, 0, 0, 0]
def sm_I85 : sm_I := (yX6_reaches, cX6_reaches, 2, some .boolean, sm_T85)
def sm_T86 : sm_T := [some (.iload_n 1, 0, 0, 0), some (.ifCond .lt 29, 30, 0, 0), none, none, some (.iload_n 2, 0, 0, 0), some (.ifCond .lt 25, 30, 0, 0), none, none, some (.iload_n 2, 0, 0, 0), some (.aload_n 0, 0, 0, 0), some (.getfield 22, 6, 3, 0), none, none, some (.if_icmp .gt 17, 30, 0, 0), none, none, some (.iload_n 1, 0, 0, 0), some (.aload_n 0, 0, 0, 0), some (.getfield 22, 6, 3, 0), none, none, some (.iload_n 2, 0, 0, 0), some (.isub, 0, 0, 0), some (.if_icmp .gt 7, 30, 0, 0), none, none, some (.iconst 1, 0, 0, 0), some (.goto 4, 31, 0, 0), none, none, some (.iconst 0, 0, 0, 0), some (.ireturn, 0, 0, 0)]
def sm_H86 : List Nat := [0, 0, 0, 0, 0, 0, 2070, 0, 0, 0, 2070, 0, 0, 0, 0, 0, 0, 0]
def sm_I86 : sm_I := (yX6_spans, cX6_spans, 3, some .boolean, sm_T86)
def sm_T87 : sm_T := [some (.aload_n 0, 0, 0, 0), some (.iload_n 1, 0, 0, 0), some (.invokevirtual 31, 85, 1, 6), none, none, some (.ifCond .eq 12, 17, 0, 0), none, none, some (.aload_n 0, 0, 0, 0), some (.getfield 9, 6, 0, 0), none, none, some (.iload_n 1, 0, 0, 0), some (.laload, 0, 0, 0), some (.goto 4, 18, 0, 0), none, none, some (.lconst 0, 0, 0, 0), some (.lreturn, 0, 0, 0)]
def sm_H87 : List Nat := [0, 0, 2173, 0, 0, 2066, 0, 0, 0, 0, 0]
def sm_I87 : sm_I := (yX6_cell, cX6_cell, 2, some .long, sm_T87)
def sm_T88 : sm_T := [some (.aload_n 0, 0, 0, 0), some (.iload_n 1, 0, 0, 0), some (.invokevirtual 35, 87, 1, 6), none, none, some (.l2i, 0, 0, 0), some (.ireturn, 0, 0, 0)]
def sm_H88 : List Nat := [0, 0, 3019, 0, 0]
def sm_I88 : sm_I := (yX6_letter, cX6_letter, 2, some .int, sm_T88)
def sm_T89 : sm_T := [some (.aload_n 0, 0, 0, 0), some (.iload_n 1, 0, 0, 0), some (.invokevirtual 31, 85, 1, 6), none, none, some (.ifCond .eq 14, 19, 0, 0), none, none, some (.aload_n 0, 0, 0, 0), some (.getfield 9, 6, 0, 0), none, none, some (.iload_n 1, 0, 0, 0), some (.aload_n 0, 0, 0, 0), some (.lload_n 2, 0, 0, 0), some (.invokevirtual 39, 90, 1, 6), none, none, some (.lastore, 0, 0, 0), some (.return_, 0, 0, 0)]
def sm_H89 : List Nat := [0, 0, 2173, 0, 0, 2066, 0, 0, 0, 2174, 0, 0]
def sm_I89 : sm_I := (yX6_put, cX6_put, 4, none, sm_T89)
def sm_T90 : sm_T := [some (.aload_n 0, 0, 0, 0), some (.getfield 19, 6, 2, 0), none, none, some (.tableswitch 42 0 2 #[28, 33, 38], 0, 0, 0), none, none, none, none, none, none, none, none, none, none, none, none, none, none, none, none, none, none, none, none, none, none, none, none, none, none, none, some (.lload_n 1, 0, 0, 0), some (.l2i, 0, 0, 0), some (.i2b, 0, 0, 0), some (.i2l, 0, 0, 0), some (.lreturn, 0, 0, 0), some (.lload_n 1, 0, 0, 0), some (.l2i, 0, 0, 0), some (.i2s, 0, 0, 0), some (.i2l, 0, 0, 0), some (.lreturn, 0, 0, 0), some (.lload_n 1, 0, 0, 0), some (.l2i, 0, 0, 0), some (.i2l, 0, 0, 0), some (.lreturn, 0, 0, 0), some (.lload_n 1, 0, 0, 0), some (.lreturn, 0, 0, 0)]
def sm_H90 : List Nat := [0, 2068, 0, 0, 0, 0, 0, 0, 0, 0, 0, 0, 0, 0, 0, 0, 0, 0, 0]
def sm_I90 : sm_I := (yX6_cut, cX6_cut, 3, some .long, sm_T90)
def sm_T91 : sm_T := [some (.aload_n 1, 0, 0, 0), some (.iload_n 2, 0, 0, 0), some (.iload 4, 0, 0, 0), none, some (.invokevirtual 43, 86, 2, 6), none, none, some (.ifCond .eq 28, 35, 0, 0), none, none, some (.aload_n 0, 0, 0, 0), some (.iload_n 3, 0, 0, 0), some (.iload 4, 0, 0, 0), none, some (.invokevirtual 43, 86, 2, 6), none, none, some (.ifCond .eq 18, 35, 0, 0), none, none, some (.aload_n 1, 0, 0, 0), some (.getfield 9, 6, 0, 0), none, none, some (.iload_n 2, 0, 0, 0), some (.aload_n 0, 0, 0, 0), some (.getfield 9, 6, 0, 0), none, none, some (.iload_n 3, 0, 0, 0), some (.iload 4, 0, 0, 0), none, some (.invokestatic 47, 998, 0, 0), none, none, some (.return_, 0, 0, 0)]
def sm_H91 : List Nat := [0, 0, 0, 2190, 0, 0, 0, 0, 2190, 0, 0, 2066, 0, 0, 2066, 0, 0, 2191, 0]
def sm_I91 : sm_I := (yX6_bring, cX6_bring, 5, none, sm_T91)
def sm_T92 : sm_T := [some (.aload_n 0, 0, 0, 0), some (.invokespecial 3, 999, 0, 0), none, none, some (.aload_n 0, 0, 0, 0), some (.bipush 8, 0, 0, 0), none, some (.anewarray 9, 4, 0, 0), none, none, some (.putfield 11, 7, 0, 13), none, none, some (.aload_n 0, 0, 0, 0), some (.bipush 12, 0, 0, 0), none, some (.anewarray 17, 2, 0, 0), none, none, some (.putfield 19, 7, 1, 13), none, none, some (.aload_n 0, 0, 0, 0), some (.iconst 0, 0, 0, 0), some (.putfield 23, 7, 2, 0), none, none, some (.aload_n 0, 0, 0, 0), some (.iconst 0, 0, 0, 0), some (.putfield 27, 7, 3, 0), none, none, some (.iconst 0, 0, 0, 0), some (.istore_n 1, 0, 0, 0), some (.iload_n 1, 0, 0, 0), some (.aload_n 0, 0, 0, 0), some (.getfield 11, 7, 0, 0), none, none, some (.arraylength, 0, 0, 0), some (.if_icmp .ge 22, 62, 0, 0), none, none, some (.aload_n 0, 0, 0, 0), some (.getfield 11, 7, 0, 0), none, none, some (.iload_n 1, 0, 0, 0), some (.new 9, 8, 0, 0), none, none, some (.dup, 0, 0, 0), some (.invokespecial 30, 98, 0, 0), none, none, some (.aastore, 0, 0, 0), some (.iinc 1 1, 0, 0, 0), none, none, some (.goto (-25), 34, 0, 0), none, none, some (.iconst 0, 0, 0, 0), some (.istore_n 1, 0, 0, 0), some (.iload_n 1, 0, 0, 0), some (.aload_n 0, 0, 0, 0), some (.getfield 19, 7, 1, 0), none, none, some (.arraylength, 0, 0, 0), some (.if_icmp .ge 22, 92, 0, 0), none, none, some (.aload_n 0, 0, 0, 0), some (.getfield 19, 7, 1, 0), none, none, some (.iload_n 1, 0, 0, 0), some (.new 17, 3, 0, 0), none, none, some (.dup, 0, 0, 0), some (.invokespecial 31, 29, 0, 0), none, none, some (.aastore, 0, 0, 0), some (.iinc 1 1, 0, 0, 0), none, none, some (.goto (-25), 64, 0, 0), none, none, some (.return_, 0, 0, 0)]
def sm_H92 : List Nat := [0, 1034, 0, 0, 1035, 1150, 0, 0, 1037, 1151, 0, 0, 1152, 0, 0, 1154, 0, 0, 0, 0, 1150, 0, 0, 0, 1150, 0, 1035, 0, 1040, 0, 0, 0, 0, 0, 0, 0, 1151, 0, 0, 0, 1151, 0, 1037, 0, 1118, 0, 0, 0, 0]
def sm_I92 : sm_I := (yX7_init, cX7_init, 2, none, sm_T92)
def sm_T93 : sm_T := [some (.iload_n 1, 0, 0, 0), some (.ifCond .lt 29, 30, 0, 0), none, none, some (.iload_n 1, 0, 0, 0), some (.aload_n 0, 0, 0, 0), some (.getfield 23, 7, 2, 0), none, none, some (.if_icmp .ge 21, 30, 0, 0), none, none, some (.iload_n 1, 0, 0, 0), some (.aload_n 0, 0, 0, 0), some (.getfield 11, 7, 0, 0), none, none, some (.arraylength, 0, 0, 0), some (.if_icmp .ge 12, 30, 0, 0), none, none, some (.aload_n 0, 0, 0, 0), some (.getfield 11, 7, 0, 0), none, none, some (.iload_n 1, 0, 0, 0), some (.aaload, 0, 0, 0), some (.goto 4, 31, 0, 0), none, none, some (.aconst_null, 0, 0, 0), some (.areturn, 0, 0, 0)]
def sm_H93 : List Nat := [0, 0, 0, 0, 1152, 0, 0, 0, 1150, 0, 0, 0, 1150, 0, 0, 0, 0, 0]
def sm_I93 : sm_I := (yX7_talkAt, cX7_talkAt, 2, some (.object "SaidForNothing$Talk"), sm_T93)
def sm_T94 : sm_T := [some (.iload_n 1, 0, 0, 0), some (.ifCond .lt 29, 30, 0, 0), none, none, some (.iload_n 1, 0, 0, 0), some (.aload_n 0, 0, 0, 0), some (.getfield 27, 7, 3, 0), none, none, some (.if_icmp .ge 21, 30, 0, 0), none, none, some (.iload_n 1, 0, 0, 0), some (.aload_n 0, 0, 0, 0), some (.getfield 19, 7, 1, 0), none, none, some (.arraylength, 0, 0, 0), some (.if_icmp .ge 12, 30, 0, 0), none, none, some (.aload_n 0, 0, 0, 0), some (.getfield 19, 7, 1, 0), none, none, some (.iload_n 1, 0, 0, 0), some (.aaload, 0, 0, 0), some (.goto 4, 31, 0, 0), none, none, some (.aconst_null, 0, 0, 0), some (.areturn, 0, 0, 0)]
def sm_H94 : List Nat := [0, 0, 0, 0, 1154, 0, 0, 0, 1151, 0, 0, 0, 1151, 0, 0, 0, 0, 0]
def sm_I94 : sm_I := (yX7_meaningAt, cX7_meaningAt, 2, some (.object "SaidForNothing$Meaning"), sm_T94)
def sm_T95 : sm_T := [some (.aload_n 0, 0, 0, 0), some (.getfield 23, 7, 2, 0), none, none, some (.ifCond .lt 27, 31, 0, 0), none, none, some (.aload_n 0, 0, 0, 0), some (.getfield 23, 7, 2, 0), none, none, some (.aload_n 0, 0, 0, 0), some (.getfield 11, 7, 0, 0), none, none, some (.arraylength, 0, 0, 0), some (.if_icmp .ge 15, 31, 0, 0), none, none, some (.aload_n 0, 0, 0, 0), some (.getfield 11, 7, 0, 0), none, none, some (.aload_n 0, 0, 0, 0), some (.getfield 23, 7, 2, 0), none, none, some (.aaload, 0, 0, 0), some (.goto 4, 32, 0, 0), none, none, some (.aconst_null, 0, 0, 0), some (.areturn, 0, 0, 0)]
def sm_H95 : List Nat := [0, 1152, 0, 0, 1152, 0, 1150, 0, 0, 0, 1150, 0, 1152, 0, 0, 0, 0]
def sm_I95 : sm_I := (yX7_nextTalk, cX7_nextTalk, 1, some (.object "SaidForNothing$Talk"), sm_T95)
def sm_T96 : sm_T := [some (.aload_n 0, 0, 0, 0), some (.getfield 27, 7, 3, 0), none, none, some (.ifCond .lt 27, 31, 0, 0), none, none, some (.aload_n 0, 0, 0, 0), some (.getfield 27, 7, 3, 0), none, none, some (.aload_n 0, 0, 0, 0), some (.getfield 19, 7, 1, 0), none, none, some (.arraylength, 0, 0, 0), some (.if_icmp .ge 15, 31, 0, 0), none, none, some (.aload_n 0, 0, 0, 0), some (.getfield 19, 7, 1, 0), none, none, some (.aload_n 0, 0, 0, 0), some (.getfield 27, 7, 3, 0), none, none, some (.aaload, 0, 0, 0), some (.goto 4, 32, 0, 0), none, none, some (.aconst_null, 0, 0, 0), some (.areturn, 0, 0, 0)]
def sm_H96 : List Nat := [0, 1154, 0, 0, 1154, 0, 1151, 0, 0, 0, 1151, 0, 1154, 0, 0, 0, 0]
def sm_I96 : sm_I := (yX7_nextMeaning, cX7_nextMeaning, 1, some (.object "SaidForNothing$Meaning"), sm_T96)
def sm_T97 : sm_T := [some (.iconst 0, 0, 0, 0), some (.istore_n 2, 0, 0, 0), some (.iload_n 2, 0, 0, 0), some (.aload_n 0, 0, 0, 0), some (.getfield 11, 7, 0, 0), none, none, some (.arraylength, 0, 0, 0), some (.if_icmp .ge 33, 41, 0, 0), none, none, some (.iload_n 2, 0, 0, 0), some (.aload_n 1, 0, 0, 0), some (.getfield 11, 7, 0, 0), none, none, some (.arraylength, 0, 0, 0), some (.if_icmp .ge 24, 41, 0, 0), none, none, some (.aload_n 0, 0, 0, 0), some (.getfield 11, 7, 0, 0), none, none, some (.iload_n 2, 0, 0, 0), some (.aaload, 0, 0, 0), some (.aload_n 1, 0, 0, 0), some (.getfield 11, 7, 0, 0), none, none, some (.iload_n 2, 0, 0, 0), some (.aaload, 0, 0, 0), some (.invokevirtual 32, 100, 1, 8), none, none, some (.iinc 2 1, 0, 0, 0), none, none, some (.goto (-36), 2, 0, 0), none, none, some (.iconst 0, 0, 0, 0), some (.istore_n 2, 0, 0, 0), some (.iload_n 2, 0, 0, 0), some (.aload_n 0, 0, 0, 0), some (.getfield 19, 7, 1, 0), none, none, some (.arraylength, 0, 0, 0), some (.if_icmp .ge 33, 82, 0, 0), none, none, some (.iload_n 2, 0, 0, 0), some (.aload_n 1, 0, 0, 0), some (.getfield 19, 7, 1, 0), none, none, some (.arraylength, 0, 0, 0), some (.if_icmp .ge 24, 82, 0, 0), none, none, some (.aload_n 0, 0, 0, 0), some (.getfield 19, 7, 1, 0), none, none, some (.iload_n 2, 0, 0, 0), some (.aaload, 0, 0, 0), some (.aload_n 1, 0, 0, 0), some (.getfield 19, 7, 1, 0), none, none, some (.iload_n 2, 0, 0, 0), some (.aaload, 0, 0, 0), some (.invokevirtual 36, 33, 1, 3), none, none, some (.iinc 2 1, 0, 0, 0), none, none, some (.goto (-36), 43, 0, 0), none, none, some (.aload_n 0, 0, 0, 0), some (.aload_n 1, 0, 0, 0), some (.getfield 23, 7, 2, 0), none, none, some (.putfield 23, 7, 2, 0), none, none, some (.aload_n 0, 0, 0, 0), some (.aload_n 1, 0, 0, 0), some (.getfield 27, 7, 3, 0), none, none, some (.putfield 27, 7, 3, 0), none, none, some (.return_, 0, 0, 0)]
def sm_H97 : List Nat := [0, 0, 0, 0, 1150, 0, 0, 0, 0, 1150, 0, 0, 0, 1150, 0, 0, 0, 1150, 0, 0, 5175, 0, 0, 0, 0, 0, 0, 1151, 0, 0, 0, 0, 1151, 0, 0, 0, 1151, 0, 0, 0, 1151, 0, 0, 5176, 0, 0, 0, 0, 1152, 1152, 0, 0, 1154, 1154, 0]
def sm_I97 : sm_I := (yX7_copyFrom, cX7_copyFrom, 3, none, sm_T97)
def sm_T98 : sm_T := [some (.aload_n 0, 0, 0, 0), some (.invokespecial 3, 999, 0, 0), none, none, some (.aload_n 0, 0, 0, 0), some (.new 9, 1, 0, 0), none, none, some (.dup, 0, 0, 0), some (.bipush 12, 0, 0, 0), none, some (.invokespecial 11, 8, 1, 0), none, none, some (.putfield 14, 8, 0, 13), none, none, some (.aload_n 0, 0, 0, 0), some (.new 9, 1, 0, 0), none, none, some (.dup, 0, 0, 0), some (.bipush 12, 0, 0, 0), none, some (.invokespecial 11, 8, 1, 0), none, none, some (.putfield 20, 8, 1, 13), none, none, some (.aload_n 0, 0, 0, 0), some (.iconst 0, 0, 0, 0), some (.putfield 23, 8, 2, 0), none, none, some (.aload_n 0, 0, 0, 0), some (.iconst 0, 0, 0, 0), some (.putfield 27, 8, 3, 0), none, none, some (.aload_n 0, 0, 0, 0), some (.iconst 0, 0, 0, 0), some (.putfield 30, 8, 4, 0), none, none, some (.aload_n 0, 0, 0, 0), some (.bipush 12, 0, 0, 0), none, some (.putfield 33, 8, 5, 0), none, none, some (.aload_n 0, 0, 0, 0), some (.iconst 0, 0, 0, 0), some (.putfield 36, 8, 6, 0), none, none, some (.aload_n 0, 0, 0, 0), some (.iconst 0, 0, 0, 0), some (.putfield 39, 8, 7, 1), none, none, some (.aload_n 0, 0, 0, 0), some (.iconst 0, 0, 0, 0), some (.putfield 43, 8, 8, 0), none, none, some (.aload_n 0, 0, 0, 0), some (.iconst 0, 0, 0, 0), some (.putfield 46, 8, 9, 0), none, none, some (.return_, 0, 0, 0)]
def sm_H98 : List Nat := [0, 1043, 0, 1044, 0, 0, 1046, 1055, 0, 1044, 0, 0, 1046, 1059, 0, 0, 1062, 0, 0, 1067, 0, 0, 1072, 0, 0, 1077, 0, 0, 1081, 0, 0, 1085, 0, 0, 1088, 0, 0, 1092, 0]
def sm_I98 : sm_I := (yX8_init, cX8_init, 1, none, sm_T98)
def sm_T99 : sm_T := [some (.aload_n 0, 0, 0, 0), some (.getfield 14, 8, 0, 0), none, none, some (.invokevirtual 49, 11, 0, 1), none, none, some (.aload_n 0, 0, 0, 0), some (.getfield 20, 8, 1, 0), none, none, some (.invokevirtual 49, 11, 0, 1), none, none, some (.aload_n 0, 0, 0, 0), some (.iconst 0, 0, 0, 0), some (.putfield 23, 8, 2, 0), none, none, some (.aload_n 0, 0, 0, 0), some (.iconst 0, 0, 0, 0), some (.putfield 27, 8, 3, 0), none, none, some (.aload_n 0, 0, 0, 0), some (.iconst 0, 0, 0, 0), some (.putfield 30, 8, 4, 0), none, none, some (.aload_n 0, 0, 0, 0), some (.bipush 12, 0, 0, 0), none, some (.putfield 33, 8, 5, 0), none, none, some (.aload_n 0, 0, 0, 0), some (.iconst 0, 0, 0, 0), some (.putfield 36, 8, 6, 0), none, none, some (.aload_n 0, 0, 0, 0), some (.iconst 0, 0, 0, 0), some (.putfield 39, 8, 7, 1), none, none, some (.aload_n 0, 0, 0, 0), some (.iconst 0, 0, 0, 0), some (.putfield 43, 8, 8, 0), none, none, some (.aload_n 0, 0, 0, 0), some (.iconst 0, 0, 0, 0), some (.putfield 46, 8, 9, 0), none, none, some (.return_, 0, 0, 0)]
def sm_H99 : List Nat := [0, 1055, 3025, 0, 1059, 3025, 0, 0, 1062, 0, 0, 1067, 0, 0, 1072, 0, 0, 1077, 0, 0, 1081, 0, 0, 1085, 0, 0, 1088, 0, 0, 1092, 0]
def sm_I99 : sm_I := (yX8_reset, cX8_reset, 1, none, sm_T99)
def sm_T100 : sm_T := [some (.aload_n 0, 0, 0, 0), some (.getfield 14, 8, 0, 0), none, none, some (.aload_n 1, 0, 0, 0), some (.getfield 14, 8, 0, 0), none, none, some (.invokevirtual 52, 12, 1, 1), none, none, some (.aload_n 0, 0, 0, 0), some (.getfield 20, 8, 1, 0), none, none, some (.aload_n 1, 0, 0, 0), some (.getfield 20, 8, 1, 0), none, none, some (.invokevirtual 52, 12, 1, 1), none, none, some (.aload_n 0, 0, 0, 0), some (.aload_n 1, 0, 0, 0), some (.getfield 23, 8, 2, 0), none, none, some (.putfield 23, 8, 2, 0), none, none, some (.aload_n 0, 0, 0, 0), some (.aload_n 1, 0, 0, 0), some (.getfield 27, 8, 3, 0), none, none, some (.putfield 27, 8, 3, 0), none, none, some (.aload_n 0, 0, 0, 0), some (.aload_n 1, 0, 0, 0), some (.getfield 30, 8, 4, 0), none, none, some (.putfield 30, 8, 4, 0), none, none, some (.aload_n 0, 0, 0, 0), some (.aload_n 1, 0, 0, 0), some (.getfield 33, 8, 5, 0), none, none, some (.putfield 33, 8, 5, 0), none, none, some (.aload_n 0, 0, 0, 0), some (.aload_n 1, 0, 0, 0), some (.getfield 36, 8, 6, 0), none, none, some (.putfield 36, 8, 6, 0), none, none, some (.aload_n 0, 0, 0, 0), some (.aload_n 1, 0, 0, 0), some (.getfield 39, 8, 7, 0), none, none, some (.putfield 39, 8, 7, 1), none, none, some (.aload_n 0, 0, 0, 0), some (.aload_n 1, 0, 0, 0), some (.getfield 43, 8, 8, 0), none, none, some (.putfield 43, 8, 8, 0), none, none, some (.aload_n 0, 0, 0, 0), some (.aload_n 1, 0, 0, 0), some (.getfield 46, 8, 9, 0), none, none, some (.putfield 46, 8, 9, 0), none, none, some (.return_, 0, 0, 0)]
def sm_H100 : List Nat := [0, 1055, 0, 1055, 3157, 0, 1059, 0, 1059, 3157, 0, 0, 1062, 1062, 0, 0, 1067, 1067, 0, 0, 1072, 1072, 0, 0, 1077, 1077, 0, 0, 1081, 1081, 0, 0, 1085, 1085, 0, 0, 1088, 1088, 0, 0, 1092, 1092, 0]
def sm_I100 : sm_I := (yX8_copyFrom, cX8_copyFrom, 2, none, sm_T100)
def sm_T101 : sm_T := [some (.aload_n 0, 0, 0, 0), some (.getfield 23, 8, 2, 0), none, none, some (.bipush 12, 0, 0, 0), none, some (.if_icmp .ge 37, 43, 0, 0), none, none, some (.aload_n 0, 0, 0, 0), some (.getfield 14, 8, 0, 0), none, none, some (.aload_n 0, 0, 0, 0), some (.getfield 23, 8, 2, 0), none, none, some (.iload_n 1, 0, 0, 0), some (.invokevirtual 56, 10, 2, 1), none, none, some (.aload_n 0, 0, 0, 0), some (.getfield 20, 8, 1, 0), none, none, some (.aload_n 0, 0, 0, 0), some (.getfield 23, 8, 2, 0), none, none, some (.iload_n 2, 0, 0, 0), some (.invokevirtual 56, 10, 2, 1), none, none, some (.aload_n 0, 0, 0, 0), some (.dup, 0, 0, 0), some (.getfield 23, 8, 2, 0), none, none, some (.iconst 1, 0, 0, 0), some (.iadd, 0, 0, 0), some (.putfield 23, 8, 2, 0), none, none, some (.return_, 0, 0, 0)]
def sm_H101 : List Nat := [0, 1062, 0, 0, 0, 1055, 0, 1062, 0, 3111, 0, 1059, 0, 1062, 0, 3111, 0, 0, 1062, 0, 0, 1062, 0]
def sm_I101 : sm_I := (yX8_add, cX8_add, 3, none, sm_T101)
def sm_T102 : sm_T := [some (.iload_n 1, 0, 0, 0), some (.ifCond .lt 15, 16, 0, 0), none, none, some (.iload_n 1, 0, 0, 0), some (.aload_n 0, 0, 0, 0), some (.getfield 23, 8, 2, 0), none, none, some (.if_icmp .ge 7, 16, 0, 0), none, none, some (.iconst 1, 0, 0, 0), some (.goto 4, 17, 0, 0), none, none, some (.iconst 0, 0, 0, 0), some (.ireturn, 0, 0, 0)]
def sm_H102 : List Nat := [0, 0, 0, 0, 1062, 0, 0, 0, 0, 0]
def sm_I102 : sm_I := (yX8_hasTruth, cX8_hasTruth, 2, some .boolean, sm_T102)
def sm_T103 : sm_T := [some (.aload_n 0, 0, 0, 0), some (.getfield 23, 8, 2, 0), none, none, some (.ifCond .le 14, 18, 0, 0), none, none, some (.iconst 1, 0, 0, 0), some (.aload_n 0, 0, 0, 0), some (.getfield 23, 8, 2, 0), none, none, some (.iconst 1, 0, 0, 0), some (.isub, 0, 0, 0), some (.ishl, 0, 0, 0), some (.goto 4, 19, 0, 0), none, none, some (.iconst 1, 0, 0, 0), some (.ireturn, 0, 0, 0)]
def sm_H103 : List Nat := [0, 1062, 0, 0, 0, 1062, 0, 0, 0, 0, 0, 0]
def sm_I103 : sm_I := (yX8_cutsEnd, cX8_cutsEnd, 1, some .int, sm_T103)
def sm_T104 : sm_T := [some (.iload_n 1, 0, 0, 0), some (.invokestatic 60, 282, 1, 0), none, none, some (.aload_n 0, 0, 0, 0), some (.getfield 33, 8, 5, 0), none, none, some (.if_icmp .ge 7, 15, 0, 0), none, none, some (.iconst 1, 0, 0, 0), some (.goto 4, 16, 0, 0), none, none, some (.iconst 0, 0, 0, 0), some (.ireturn, 0, 0, 0)]
def sm_H104 : List Nat := [0, 4034, 0, 1077, 0, 0, 0, 0, 0]
def sm_I104 : sm_I := (yX8_allows, cX8_allows, 2, some .boolean, sm_T104)
def sm_T105 : sm_T := [some (.aload_n 0, 0, 0, 0), some (.getfield 36, 8, 6, 0), none, none, some (.ifCond .ne 7, 11, 0, 0), none, none, some (.lload_n 1, 0, 0, 0), some (.lload_n 1, 0, 0, 0), some (.lmul, 0, 0, 0), some (.lreturn, 0, 0, 0), some (.lload_n 1, 0, 0, 0), some (.lconst 0, 0, 0, 0), some (.lcmp, 0, 0, 0), some (.ifCond .ge 8, 22, 0, 0), none, none, some (.lload_n 1, 0, 0, 0), some (.lneg, 0, 0, 0), some (.goto 4, 23, 0, 0), none, none, some (.lload_n 1, 0, 0, 0), some (.lreturn, 0, 0, 0)]
def sm_H105 : List Nat := [0, 1081, 0, 0, 0, 0, 0, 0, 0, 0, 0, 0, 0, 0, 0, 0]
def sm_I105 : sm_I := (yX8_lossOf, cX8_lossOf, 3, some .long, sm_T105)
def sm_T106 : sm_T := [some (.iconst 0, 0, 0, 0), some (.istore_n 1, 0, 0, 0), some (.iconst 0, 0, 0, 0), some (.istore_n 2, 0, 0, 0), some (.iload_n 2, 0, 0, 0), some (.aload_n 0, 0, 0, 0), some (.getfield 23, 8, 2, 0), none, none, some (.if_icmp .ge 20, 29, 0, 0), none, none, some (.iload_n 1, 0, 0, 0), some (.aload_n 0, 0, 0, 0), some (.getfield 20, 8, 1, 0), none, none, some (.iload_n 2, 0, 0, 0), some (.invokevirtual 66, 9, 1, 1), none, none, some (.iadd, 0, 0, 0), some (.istore_n 1, 0, 0, 0), some (.iinc 2 1, 0, 0, 0), none, none, some (.goto (-22), 4, 0, 0), none, none, some (.iload_n 1, 0, 0, 0), some (.ireturn, 0, 0, 0)]
def sm_H106 : List Nat := [0, 0, 0, 0, 0, 0, 1062, 0, 0, 0, 1059, 0, 5055, 0, 0, 0, 0, 0, 0]
def sm_I106 : sm_I := (yX8_chanceSum, cX8_chanceSum, 3, some .int, sm_T106)
def sm_T107 : sm_T := [some (.lconst 0, 0, 0, 0), some (.lstore_n 3, 0, 0, 0), some (.iconst 0, 0, 0, 0), some (.istore 5, 0, 0, 0), none, some (.iload 5, 0, 0, 0), none, some (.aload_n 0, 0, 0, 0), some (.getfield 23, 8, 2, 0), none, none, some (.if_icmp .ge 60, 71, 0, 0), none, none, some (.aload_n 0, 0, 0, 0), some (.getfield 14, 8, 0, 0), none, none, some (.iload 5, 0, 0, 0), none, some (.invokevirtual 66, 9, 1, 1), none, none, some (.istore 6, 0, 0, 0), none, some (.lload_n 3, 0, 0, 0), some (.aload_n 0, 0, 0, 0), some (.getfield 20, 8, 1, 0), none, none, some (.iload 5, 0, 0, 0), none, some (.invokevirtual 66, 9, 1, 1), none, none, some (.i2l, 0, 0, 0), some (.aload_n 0, 0, 0, 0), some (.iload 6, 0, 0, 0), none, some (.aload_n 0, 0, 0, 0), some (.getfield 27, 8, 3, 0), none, none, some (.iadd, 0, 0, 0), some (.i2l, 0, 0, 0), some (.iload_n 1, 0, 0, 0), some (.iload_n 2, 0, 0, 0), some (.invokestatic 69, 172, 3, 0), none, none, some (.iload 6, 0, 0, 0), none, some (.isub, 0, 0, 0), some (.aload_n 0, 0, 0, 0), some (.getfield 30, 8, 4, 0), none, none, some (.isub, 0, 0, 0), some (.i2l, 0, 0, 0), some (.invokevirtual 73, 105, 1, 8), none, none, some (.lmul, 0, 0, 0), some (.ladd, 0, 0, 0), some (.lstore_n 3, 0, 0, 0), some (.iinc 5 1, 0, 0, 0), none, none, some (.goto (-63), 5, 0, 0), none, none, some (.lload_n 3, 0, 0, 0), some (.lreturn, 0, 0, 0)]
def sm_H107 : List Nat := [0, 0, 0, 0, 0, 0, 1062, 0, 0, 1055, 0, 5055, 0, 0, 0, 1059, 0, 5055, 0, 0, 0, 0, 1067, 0, 0, 0, 0, 5056, 0, 0, 0, 1072, 0, 0, 5057, 0, 0, 0, 0, 0, 0, 0]
def sm_I107 : sm_I := (yX8_lossWithin, cX8_lossWithin, 7, some .long, sm_T107)
def sm_T108 : sm_T := [some (.iload_n 1, 0, 0, 0), some (.aload_n 0, 0, 0, 0), some (.getfield 23, 8, 2, 0), none, none, some (.if_icmp .ge 19, 24, 0, 0), none, none, some (.aload_n 0, 0, 0, 0), some (.getfield 14, 8, 0, 0), none, none, some (.iload_n 1, 0, 0, 0), some (.invokevirtual 66, 9, 1, 1), none, none, some (.aload_n 0, 0, 0, 0), some (.getfield 27, 8, 3, 0), none, none, some (.iadd, 0, 0, 0), some (.goto 21, 42, 0, 0), none, none, some (.aload_n 0, 0, 0, 0), some (.getfield 14, 8, 0, 0), none, none, some (.iload_n 1, 0, 0, 0), some (.aload_n 0, 0, 0, 0), some (.getfield 23, 8, 2, 0), none, none, some (.isub, 0, 0, 0), some (.invokevirtual 66, 9, 1, 1), none, none, some (.aload_n 0, 0, 0, 0), some (.getfield 30, 8, 4, 0), none, none, some (.iadd, 0, 0, 0), some (.istore_n 2, 0, 0, 0), some (.iload_n 2, 0, 0, 0), some (.i2l, 0, 0, 0), some (.iconst 0, 0, 0, 0), some (.sipush 999, 0, 0, 0), none, none, some (.invokestatic 69, 172, 3, 0), none, none, some (.ireturn, 0, 0, 0)]
def sm_H108 : List Nat := [0, 0, 1062, 0, 0, 1055, 0, 5055, 0, 1067, 0, 0, 0, 1055, 0, 0, 1062, 0, 5055, 0, 1072, 0, 0, 0, 0, 0, 0, 5056, 0]
def sm_I108 : sm_I := (yX8_end, cX8_end, 3, some .int, sm_T108)
def sm_T109 : sm_T := [some (.iconst (-1), 0, 0, 0), some (.istore_n 1, 0, 0, 0), some (.lconst 0, 0, 0, 0), some (.lstore_n 2, 0, 0, 0), some (.iconst 0, 0, 0, 0), some (.istore 4, 0, 0, 0), none, some (.iload 4, 0, 0, 0), none, some (.iconst 2, 0, 0, 0), some (.aload_n 0, 0, 0, 0), some (.getfield 23, 8, 2, 0), none, none, some (.imul, 0, 0, 0), some (.if_icmp .ge 112, 127, 0, 0), none, none, some (.iconst 0, 0, 0, 0), some (.istore 5, 0, 0, 0), none, some (.iload 5, 0, 0, 0), none, some (.iconst 2, 0, 0, 0), some (.aload_n 0, 0, 0, 0), some (.getfield 23, 8, 2, 0), none, none, some (.imul, 0, 0, 0), some (.if_icmp .ge 92, 121, 0, 0), none, none, some (.sipush 1000, 0, 0, 0), none, none, some (.aload_n 0, 0, 0, 0), some (.iload 4, 0, 0, 0), none, some (.invokevirtual 77, 108, 1, 8), none, none, some (.imul, 0, 0, 0), some (.aload_n 0, 0, 0, 0), some (.iload 5, 0, 0, 0), none, some (.invokevirtual 77, 108, 1, 8), none, none, some (.iadd, 0, 0, 0), some (.istore 6, 0, 0, 0), none, some (.aload_n 0, 0, 0, 0), some (.iload 4, 0, 0, 0), none, some (.invokevirtual 77, 108, 1, 8), none, none, some (.aload_n 0, 0, 0, 0), some (.iload 5, 0, 0, 0), none, some (.invokevirtual 77, 108, 1, 8), none, none, some (.if_icmp .gt 52, 115, 0, 0), none, none, some (.aload_n 0, 0, 0, 0), some (.aload_n 0, 0, 0, 0), some (.iload 4, 0, 0, 0), none, some (.invokevirtual 77, 108, 1, 8), none, none, some (.aload_n 0, 0, 0, 0), some (.iload 5, 0, 0, 0), none, some (.invokevirtual 77, 108, 1, 8), none, none, some (.invokevirtual 80, 107, 2, 8), none, none, some (.lstore 7, 0, 0, 0), none, some (.iload_n 1, 0, 0, 0), some (.iconst (-1), 0, 0, 0), some (.if_icmp .eq 23, 109, 0, 0), none, none, some (.lload 7, 0, 0, 0), none, some (.lload_n 2, 0, 0, 0), some (.lcmp, 0, 0, 0), some (.ifCond .lt 16, 109, 0, 0), none, none, some (.lload 7, 0, 0, 0), none, some (.lload_n 2, 0, 0, 0), some (.lcmp, 0, 0, 0), some (.ifCond .ne 15, 115, 0, 0), none, none, some (.iload 6, 0, 0, 0), none, some (.iload_n 1, 0, 0, 0), some (.if_icmp .ge 9, 115, 0, 0), none, none, some (.iload 6, 0, 0, 0), none, some (.istore_n 1, 0, 0, 0), some (.lload 7, 0, 0, 0), none, some (.lstore_n 2, 0, 0, 0), some (.iinc 5 1, 0, 0, 0), none, none, some (.goto (-97), 21, 0, 0), none, none, some (.iinc 4 1, 0, 0, 0), none, none, some (.goto (-117), 7, 0, 0), none, none, some (.iload_n 1, 0, 0, 0), some (.ireturn, 0, 0, 0)]
def sm_H109 : List Nat := [0, 0, 0, 0, 0, 0, 0, 0, 0, 1062, 0, 0, 0, 0, 0, 0, 0, 1062, 0, 0, 0, 0, 0, 5066, 0, 0, 0, 5066, 0, 0, 0, 0, 5066, 0, 0, 5066, 0, 0, 0, 0, 5066, 0, 0, 5066, 5070, 0, 0, 0, 0, 0, 0, 0, 0, 0, 0, 0, 0, 0, 0, 0, 0, 0, 0, 0, 0, 0, 0, 0, 0, 0]
def sm_I109 : sm_I := (yX8_bestPair, cX8_bestPair, 9, some .int, sm_T109)
def sm_T110 : sm_T := [some (.iconst 0, 0, 0, 0), some (.istore_n 2, 0, 0, 0), some (.iload_n 2, 0, 0, 0), some (.aload_n 0, 0, 0, 0), some (.getfield 23, 8, 2, 0), none, none, some (.if_icmp .ge 47, 54, 0, 0), none, none, some (.iconst 0, 0, 0, 0), some (.istore_n 3, 0, 0, 0), some (.iload_n 3, 0, 0, 0), some (.aload_n 0, 0, 0, 0), some (.getfield 23, 8, 2, 0), none, none, some (.if_icmp .ge 31, 48, 0, 0), none, none, some (.iload_n 2, 0, 0, 0), some (.iload_n 3, 0, 0, 0), some (.if_icmp .eq 20, 42, 0, 0), none, none, some (.aload_n 0, 0, 0, 0), some (.iload_n 2, 0, 0, 0), some (.iload_n 3, 0, 0, 0), some (.iload_n 1, 0, 0, 0), some (.invokevirtual 84, 111, 3, 8), none, none, some (.ifCond .ne 10, 42, 0, 0), none, none, some (.bipush 100, 0, 0, 0), none, some (.iload_n 2, 0, 0, 0), some (.imul, 0, 0, 0), some (.iload_n 3, 0, 0, 0), some (.iadd, 0, 0, 0), some (.ireturn, 0, 0, 0), some (.iinc 3 1, 0, 0, 0), none, none, some (.goto (-33), 12, 0, 0), none, none, some (.iinc 2 1, 0, 0, 0), none, none, some (.goto (-49), 2, 0, 0), none, none, some (.iconst (-1), 0, 0, 0), some (.ireturn, 0, 0, 0)]
def sm_H110 : List Nat := [0, 0, 0, 0, 1062, 0, 0, 0, 0, 0, 1062, 0, 0, 0, 0, 0, 0, 0, 0, 5083, 0, 0, 0, 0, 0, 0, 0, 0, 0, 0, 0, 0, 0]
def sm_I110 : sm_I := (yX8_firstDispute, cX8_firstDispute, 4, some .int, sm_T110)
def sm_T111 : sm_T := [some (.aload_n 0, 0, 0, 0), some (.getfield 14, 8, 0, 0), none, none, some (.iload_n 2, 0, 0, 0), some (.invokevirtual 66, 9, 1, 1), none, none, some (.aload_n 0, 0, 0, 0), some (.getfield 27, 8, 3, 0), none, none, some (.iadd, 0, 0, 0), some (.istore 4, 0, 0, 0), none, some (.aload_n 0, 0, 0, 0), some (.getfield 14, 8, 0, 0), none, none, some (.iload_n 1, 0, 0, 0), some (.invokevirtual 66, 9, 1, 1), none, none, some (.iload_n 3, 0, 0, 0), some (.iadd, 0, 0, 0), some (.istore 5, 0, 0, 0), none, some (.aload_n 0, 0, 0, 0), some (.getfield 14, 8, 0, 0), none, none, some (.iload_n 2, 0, 0, 0), some (.invokevirtual 66, 9, 1, 1), none, none, some (.aload_n 0, 0, 0, 0), some (.getfield 30, 8, 4, 0), none, none, some (.iadd, 0, 0, 0), some (.i2l, 0, 0, 0), some (.iconst 0, 0, 0, 0), some (.sipush 999, 0, 0, 0), none, none, some (.invokestatic 69, 172, 3, 0), none, none, some (.iload 4, 0, 0, 0), none, some (.isub, 0, 0, 0), some (.invokestatic 88, 285, 1, 0), none, none, some (.istore 6, 0, 0, 0), none, some (.aload_n 0, 0, 0, 0), some (.getfield 14, 8, 0, 0), none, none, some (.iload_n 1, 0, 0, 0), some (.invokevirtual 66, 9, 1, 1), none, none, some (.aload_n 0, 0, 0, 0), some (.getfield 30, 8, 4, 0), none, none, some (.iadd, 0, 0, 0), some (.i2l, 0, 0, 0), some (.iconst 0, 0, 0, 0), some (.sipush 999, 0, 0, 0), none, none, some (.invokestatic 69, 172, 3, 0), none, none, some (.iload 5, 0, 0, 0), none, some (.isub, 0, 0, 0), some (.invokestatic 88, 285, 1, 0), none, none, some (.istore 7, 0, 0, 0), none, some (.iconst 0, 0, 0, 0), some (.istore 8, 0, 0, 0), none, some (.iload 8, 0, 0, 0), none, some (.iconst 3, 0, 0, 0), some (.if_icmp .ge 87, 178, 0, 0), none, none, some (.iload 8, 0, 0, 0), none, some (.ifCond .ne 7, 103, 0, 0), none, none, some (.iconst 0, 0, 0, 0), some (.goto 22, 122, 0, 0), none, none, some (.iload 8, 0, 0, 0), none, some (.iconst 1, 0, 0, 0), some (.if_icmp .ne 11, 117, 0, 0), none, none, some (.iload 4, 0, 0, 0), none, some (.iload 6, 0, 0, 0), none, some (.iadd, 0, 0, 0), some (.goto 8, 122, 0, 0), none, none, some (.iload 5, 0, 0, 0), none, some (.iload 7, 0, 0, 0), none, some (.iadd, 0, 0, 0), some (.istore 9, 0, 0, 0), none, some (.iload 9, 0, 0, 0), none, some (.iload 4, 0, 0, 0), none, some (.isub, 0, 0, 0), some (.invokestatic 88, 285, 1, 0), none, none, some (.iload 6, 0, 0, 0), none, some (.if_icmp .lt 20, 154, 0, 0), none, none, some (.iload 9, 0, 0, 0), none, some (.iload 5, 0, 0, 0), none, some (.isub, 0, 0, 0), some (.invokestatic 88, 285, 1, 0), none, none, some (.iload 7, 0, 0, 0), none, some (.if_icmp .lt 7, 154, 0, 0), none, none, some (.iconst 1, 0, 0, 0), some (.goto 4, 155, 0, 0), none, none, some (.iconst 0, 0, 0, 0), some (.istore 10, 0, 0, 0), none, some (.iload 9, 0, 0, 0), none, some (.invokestatic 93, 170, 1, 0), none, none, some (.ifCond .eq 10, 172, 0, 0), none, none, some (.iload 10, 0, 0, 0), none, some (.ifCond .eq 5, 172, 0, 0), none, none, some (.iconst 1, 0, 0, 0), some (.ireturn, 0, 0, 0), some (.iinc 8 1, 0, 0, 0), none, none, some (.goto (-87), 88, 0, 0), none, none, some (.iconst 0, 0, 0, 0), some (.ireturn, 0, 0, 0)]
def sm_H111 : List Nat := [0, 1055, 0, 5055, 0, 1067, 0, 0, 0, 1055, 0, 5055, 0, 0, 0, 0, 1055, 0, 5055, 0, 1072, 0, 0, 0, 0, 5056, 0, 0, 5087, 0, 0, 1055, 0, 5055, 0, 1072, 0, 0, 0, 0, 5056, 0, 0, 5087, 0, 0, 0, 0, 0, 0, 0, 0, 0, 0, 0, 0, 0, 0, 0, 0, 0, 0, 0, 0, 0, 0, 0, 0, 5087, 0, 0, 0, 0, 0, 5087, 0, 0, 0, 0, 0, 0, 0, 5090, 0, 0, 0, 0, 0, 0, 0, 0, 0]
def sm_I111 : sm_I := (yX8_canPunish, cX8_canPunish, 11, some .boolean, sm_T111)
def sm_T112 : sm_T := [some (.aload_n 0, 0, 0, 0), some (.invokespecial 1, 999, 0, 0), none, none, some (.aload_n 0, 0, 0, 0), some (.bipush 8, 0, 0, 0), none, some (.anewarray 9, 3, 0, 0), none, none, some (.putfield 11, 9, 0, 13), none, none, some (.aload_n 0, 0, 0, 0), some (.new 15, 7, 0, 0), none, none, some (.dup, 0, 0, 0), some (.invokespecial 17, 92, 0, 0), none, none, some (.putfield 18, 9, 1, 13), none, none, some (.aload_n 0, 0, 0, 0), some (.new 15, 7, 0, 0), none, none, some (.dup, 0, 0, 0), some (.invokespecial 17, 92, 0, 0), none, none, some (.putfield 22, 9, 2, 13), none, none, some (.aload_n 0, 0, 0, 0), some (.iconst 0, 0, 0, 0), some (.putfield 25, 9, 3, 1), none, none, some (.aload_n 0, 0, 0, 0), some (.new 29, 1, 0, 0), none, none, some (.dup, 0, 0, 0), some (.bipush 8, 0, 0, 0), none, some (.invokespecial 31, 8, 1, 0), none, none, some (.putfield 34, 9, 4, 13), none, none, some (.aload_n 0, 0, 0, 0), some (.iconst (-1), 0, 0, 0), some (.putfield 38, 9, 5, 0), none, none, some (.aload_n 0, 0, 0, 0), some (.new 42, 8, 0, 0), none, none, some (.dup, 0, 0, 0), some (.invokespecial 44, 98, 0, 0), none, none, some (.putfield 45, 9, 6, 13), none, none, some (.aload_n 0, 0, 0, 0), some (.new 49, 2, 0, 0), none, none, some (.dup, 0, 0, 0), some (.invokespecial 51, 13, 0, 0), none, none, some (.putfield 52, 9, 7, 13), none, none, some (.aload_n 0, 0, 0, 0), some (.new 56, 4, 0, 0), none, none, some (.dup, 0, 0, 0), some (.invokespecial 58, 34, 0, 0), none, none, some (.putfield 59, 9, 8, 13), none, none, some (.aload_n 0, 0, 0, 0), some (.new 63, 5, 0, 0), none, none, some (.dup, 0, 0, 0), some (.invokespecial 65, 67, 0, 0), none, none, some (.putfield 66, 9, 9, 13), none, none, some (.aload_n 0, 0, 0, 0), some (.new 70, 0, 0, 0), none, none, some (.dup, 0, 0, 0), some (.invokespecial 72, 0, 0, 0), none, none, some (.putfield 73, 9, 10, 13), none, none, some (.iconst 0, 0, 0, 0), some (.istore_n 1, 0, 0, 0), some (.iload_n 1, 0, 0, 0), some (.aload_n 0, 0, 0, 0), some (.getfield 11, 9, 0, 0), none, none, some (.arraylength, 0, 0, 0), some (.if_icmp .ge 22, 143, 0, 0), none, none, some (.aload_n 0, 0, 0, 0), some (.getfield 11, 9, 0, 0), none, none, some (.iload_n 1, 0, 0, 0), some (.new 9, 6, 0, 0), none, none, some (.dup, 0, 0, 0), some (.invokespecial 77, 79, 0, 0), none, none, some (.aastore, 0, 0, 0), some (.iinc 1 1, 0, 0, 0), none, none, some (.goto (-25), 115, 0, 0), none, none, some (.return_, 0, 0, 0)]
def sm_H112 : List Nat := [0, 1024, 0, 0, 1027, 2087, 0, 1029, 0, 1031, 2088, 0, 1029, 0, 1031, 2089, 0, 0, 2090, 0, 1165, 0, 0, 1166, 2091, 0, 0, 2092, 0, 1167, 0, 1168, 2093, 0, 1169, 0, 1171, 2094, 0, 1193, 0, 1195, 2095, 0, 2009, 0, 2011, 2096, 0, 2036, 0, 2038, 2097, 0, 0, 0, 0, 2087, 0, 0, 0, 2087, 0, 1027, 0, 2062, 0, 0, 0, 0]
def sm_I112 : sm_I := (yX9_init, cX9_init, 2, none, sm_T112)
def sm_T113 : sm_T := [some (.aload_n 0, 0, 0, 0), some (.iload_n 1, 0, 0, 0), some (.invokevirtual 78, 160, 1, 9), none, none, some (.astore 4, 0, 0, 0), none, some (.aload 4, 0, 0, 0), none, some (.ifnonnull 9, 18, 0, 0), none, none, some (.aload_n 0, 0, 0, 0), some (.iconst 1, 0, 0, 0), some (.invokevirtual 82, 157, 1, 9), none, none, some (.ireturn, 0, 0, 0), some (.iload_n 3, 0, 0, 0), some (.ifCond .ge 9, 28, 0, 0), none, none, some (.aload_n 0, 0, 0, 0), some (.iconst 4, 0, 0, 0), some (.invokevirtual 82, 157, 1, 9), none, none, some (.ireturn, 0, 0, 0), some (.iload_n 2, 0, 0, 0), some (.ifCond .lt 8, 37, 0, 0), none, none, some (.iload_n 2, 0, 0, 0), some (.iconst 3, 0, 0, 0), some (.if_icmp .le 10, 44, 0, 0), none, none, some (.aload_n 0, 0, 0, 0), some (.bipush 6, 0, 0, 0), none, some (.invokevirtual 82, 157, 1, 9), none, none, some (.ireturn, 0, 0, 0), some (.iload_n 3, 0, 0, 0), some (.bipush 64, 0, 0, 0), none, some (.if_icmp .le 10, 57, 0, 0), none, none, some (.aload_n 0, 0, 0, 0), some (.bipush 7, 0, 0, 0), none, some (.invokevirtual 82, 157, 1, 9), none, none, some (.ireturn, 0, 0, 0), some (.aload 4, 0, 0, 0), none, some (.iload_n 2, 0, 0, 0), some (.iload_n 3, 0, 0, 0), some (.invokevirtual 86, 82, 2, 6), none, none, some (.iconst 1, 0, 0, 0), some (.ireturn, 0, 0, 0)]
def sm_H113 : List Nat := [0, 0, 2125, 0, 0, 0, 0, 0, 2129, 0, 0, 0, 0, 0, 2129, 0, 0, 0, 0, 0, 0, 0, 0, 2129, 0, 0, 0, 0, 0, 0, 2129, 0, 0, 0, 0, 2141, 0, 0]
def sm_I113 : sm_I := (yX9_row, cX9_row, 5, some .int, sm_T113)
def sm_T114 : sm_T := [some (.aload_n 0, 0, 0, 0), some (.iload_n 1, 0, 0, 0), some (.invokevirtual 90, 161, 1, 9), none, none, some (.istore 5, 0, 0, 0), none, some (.aload_n 0, 0, 0, 0), some (.iload_n 1, 0, 0, 0), some (.invokevirtual 78, 160, 1, 9), none, none, some (.astore 6, 0, 0, 0), none, some (.iload 5, 0, 0, 0), none, some (.ifCond .ne 8, 24, 0, 0), none, none, some (.aload 6, 0, 0, 0), none, some (.ifnonnull 10, 31, 0, 0), none, none, some (.aload_n 0, 0, 0, 0), some (.iload 5, 0, 0, 0), none, some (.invokevirtual 82, 157, 1, 9), none, none, some (.ireturn, 0, 0, 0), some (.aload 6, 0, 0, 0), none, some (.iload_n 2, 0, 0, 0), some (.invokevirtual 93, 85, 1, 6), none, none, some (.ifCond .ne 9, 46, 0, 0), none, none, some (.aload_n 0, 0, 0, 0), some (.iconst 5, 0, 0, 0), some (.invokevirtual 82, 157, 1, 9), none, none, some (.ireturn, 0, 0, 0), some (.aload 6, 0, 0, 0), none, some (.iload_n 2, 0, 0, 0), some (.lload_n 3, 0, 0, 0), some (.invokevirtual 97, 89, 2, 6), none, none, some (.iconst 1, 0, 0, 0), some (.ireturn, 0, 0, 0)]
def sm_H114 : List Nat := [0, 0, 2153, 0, 0, 0, 2125, 0, 0, 0, 0, 0, 0, 0, 2129, 0, 0, 0, 2165, 0, 0, 0, 2129, 0, 0, 0, 0, 2169, 0, 0]
def sm_I114 : sm_I := (yX9_set, cX9_set, 7, some .int, sm_T114)
def sm_T115 : sm_T := [some (.aload_n 0, 0, 0, 0), some (.iload_n 1, 0, 0, 0), some (.invokevirtual 78, 160, 1, 9), none, none, some (.astore 6, 0, 0, 0), none, some (.aload_n 0, 0, 0, 0), some (.iload_n 2, 0, 0, 0), some (.invokevirtual 78, 160, 1, 9), none, none, some (.astore 7, 0, 0, 0), none, some (.aload 6, 0, 0, 0), none, some (.ifnull 8, 24, 0, 0), none, none, some (.aload 7, 0, 0, 0), none, some (.ifnonnull 9, 30, 0, 0), none, none, some (.aload_n 0, 0, 0, 0), some (.iconst 1, 0, 0, 0), some (.invokevirtual 82, 157, 1, 9), none, none, some (.ireturn, 0, 0, 0), some (.aload 6, 0, 0, 0), none, some (.invokevirtual 101, 81, 0, 6), none, none, some (.ifCond .ne 11, 46, 0, 0), none, none, some (.aload 7, 0, 0, 0), none, some (.invokevirtual 101, 81, 0, 6), none, none, some (.ifCond .eq 9, 52, 0, 0), none, none, some (.aload_n 0, 0, 0, 0), some (.iconst 2, 0, 0, 0), some (.invokevirtual 82, 157, 1, 9), none, none, some (.ireturn, 0, 0, 0), some (.aload 6, 0, 0, 0), none, some (.invokevirtual 105, 80, 0, 6), none, none, some (.ifCond .eq 30, 87, 0, 0), none, none, some (.aload 7, 0, 0, 0), none, some (.invokevirtual 105, 80, 0, 6), none, none, some (.ifCond .eq 22, 87, 0, 0), none, none, some (.aload 6, 0, 0, 0), none, some (.getfield 108, 6, 2, 0), none, none, some (.aload 7, 0, 0, 0), none, some (.getfield 108, 6, 2, 0), none, none, some (.if_icmp .eq 9, 87, 0, 0), none, none, some (.aload_n 0, 0, 0, 0), some (.iconst 2, 0, 0, 0), some (.invokevirtual 82, 157, 1, 9), none, none, some (.ireturn, 0, 0, 0), some (.aload 6, 0, 0, 0), none, some (.invokevirtual 105, 80, 0, 6), none, none, some (.ifCond .eq 11, 103, 0, 0), none, none, some (.aload 7, 0, 0, 0), none, some (.invokevirtual 105, 80, 0, 6), none, none, some (.ifCond .ne 9, 109, 0, 0), none, none, some (.aload_n 0, 0, 0, 0), some (.iconst 3, 0, 0, 0), some (.invokevirtual 82, 157, 1, 9), none, none, some (.ireturn, 0, 0, 0), some (.iload 5, 0, 0, 0), none, some (.ifCond .ge 9, 120, 0, 0), none, none, some (.aload_n 0, 0, 0, 0), some (.iconst 4, 0, 0, 0), some (.invokevirtual 82, 157, 1, 9), none, none, some (.ireturn, 0, 0, 0), some (.aload 6, 0, 0, 0), none, some (.iload_n 3, 0, 0, 0), some (.iload 5, 0, 0, 0), none, some (.invokevirtual 111, 86, 2, 6), none, none, some (.ifCond .eq 15, 143, 0, 0), none, none, some (.aload 7, 0, 0, 0), none, some (.iload 4, 0, 0, 0), none, some (.iload 5, 0, 0, 0), none, some (.invokevirtual 111, 86, 2, 6), none, none, some (.ifCond .ne 9, 149, 0, 0), none, none, some (.aload_n 0, 0, 0, 0), some (.iconst 5, 0, 0, 0), some (.invokevirtual 82, 157, 1, 9), none, none, some (.ireturn, 0, 0, 0), some (.aload 7, 0, 0, 0), none, some (.aload 6, 0, 0, 0), none, some (.iload_n 3, 0, 0, 0), some (.iload 4, 0, 0, 0), none, some (.iload 5, 0, 0, 0), none, some (.invokevirtual 115, 91, 4, 6), none, none, some (.iconst 1, 0, 0, 0), some (.ireturn, 0, 0, 0)]
def sm_H115 : List Nat := [0, 0, 2125, 0, 0, 0, 2125, 0, 0, 0, 0, 0, 0, 0, 2129, 0, 0, 2157, 0, 0, 2157, 0, 0, 0, 2129, 0, 0, 2161, 0, 0, 2161, 0, 0, 2069, 0, 2069, 0, 0, 0, 2129, 0, 0, 2161, 0, 0, 2161, 0, 0, 0, 2129, 0, 0, 0, 0, 0, 2129, 0, 0, 0, 0, 2182, 0, 0, 0, 0, 2182, 0, 0, 0, 2129, 0, 0, 0, 0, 0, 0, 2186, 0, 0]
def sm_I115 : sm_I := (yX9_copy, cX9_copy, 8, some .int, sm_T115)
def sm_T116 : sm_T := [some (.aload_n 0, 0, 0, 0), some (.iload_n 1, 0, 0, 0), some (.invokevirtual 78, 160, 1, 9), none, none, some (.astore_n 3, 0, 0, 0), some (.aload_n 3, 0, 0, 0), some (.ifnonnull 7, 14, 0, 0), none, none, some (.lconst 0, 0, 0, 0), some (.goto 8, 19, 0, 0), none, none, some (.aload_n 3, 0, 0, 0), some (.iload_n 2, 0, 0, 0), some (.invokevirtual 119, 87, 1, 6), none, none, some (.lreturn, 0, 0, 0)]
def sm_H116 : List Nat := [0, 0, 2125, 0, 0, 0, 0, 0, 0, 0, 2198, 0]
def sm_I116 : sm_I := (yX9_element, cX9_element, 4, some .long, sm_T116)
def sm_T117 : sm_T := [some (.aload_n 0, 0, 0, 0), some (.iload_n 1, 0, 0, 0), some (.invokevirtual 78, 160, 1, 9), none, none, some (.astore_n 3, 0, 0, 0), some (.aload_n 3, 0, 0, 0), some (.ifnonnull 9, 16, 0, 0), none, none, some (.aload_n 0, 0, 0, 0), some (.iconst 1, 0, 0, 0), some (.invokevirtual 82, 157, 1, 9), none, none, some (.ireturn, 0, 0, 0), some (.iload_n 2, 0, 0, 0), some (.iconst (-1), 0, 0, 0), some (.if_icmp .ne 9, 27, 0, 0), none, none, some (.aload_n 3, 0, 0, 0), some (.invokevirtual 123, 83, 0, 6), none, none, some (.iconst 0, 0, 0, 0), some (.ireturn, 0, 0, 0), some (.aload_n 0, 0, 0, 0), some (.getfield 18, 9, 1, 0), none, none, some (.iload_n 2, 0, 0, 0), some (.invokevirtual 126, 94, 1, 7), none, none, some (.ifnonnull 9, 44, 0, 0), none, none, some (.aload_n 0, 0, 0, 0), some (.iconst 1, 0, 0, 0), some (.invokevirtual 82, 157, 1, 9), none, none, some (.ireturn, 0, 0, 0), some (.aload_n 3, 0, 0, 0), some (.iload_n 2, 0, 0, 0), some (.invokevirtual 130, 84, 1, 6), none, none, some (.iconst 1, 0, 0, 0), some (.ireturn, 0, 0, 0)]
def sm_H117 : List Nat := [0, 0, 2125, 0, 0, 0, 0, 0, 2129, 0, 0, 0, 0, 0, 2206, 0, 0, 0, 2088, 0, 2207, 0, 0, 0, 2129, 0, 0, 0, 2211, 0, 0]
def sm_I117 : sm_I := (yX9_show, cX9_show, 4, some .int, sm_T117)
def sm_T118 : sm_T := [some (.aload_n 0, 0, 0, 0), some (.iload_n 1, 0, 0, 0), some (.invokevirtual 78, 160, 1, 9), none, none, some (.astore_n 2, 0, 0, 0), some (.aload_n 2, 0, 0, 0), some (.ifnonnull 5, 12, 0, 0), none, none, some (.iconst (-1), 0, 0, 0), some (.ireturn, 0, 0, 0), some (.aload_n 2, 0, 0, 0), some (.invokevirtual 105, 80, 0, 6), none, none, some (.ifCond .eq 11, 27, 0, 0), none, none, some (.bipush 100, 0, 0, 0), none, some (.aload_n 2, 0, 0, 0), some (.getfield 108, 6, 2, 0), none, none, some (.iadd, 0, 0, 0), some (.ireturn, 0, 0, 0), some (.aload_n 2, 0, 0, 0), some (.invokevirtual 101, 81, 0, 6), none, none, some (.ifCond .eq 10, 41, 0, 0), none, none, some (.aload_n 2, 0, 0, 0), some (.getfield 133, 6, 4, 0), none, none, some (.goto 4, 42, 0, 0), none, none, some (.iconst (-1), 0, 0, 0), some (.ireturn, 0, 0, 0)]
def sm_H118 : List Nat := [0, 0, 2125, 0, 0, 0, 0, 0, 0, 2161, 0, 0, 0, 2069, 0, 0, 0, 2157, 0, 0, 2074, 0, 0, 0]
def sm_I118 : sm_I := (yX9_holds, cX9_holds, 3, some .int, sm_T118)
def sm_T119 : sm_T := [some (.aload_n 0, 0, 0, 0), some (.iload_n 1, 0, 0, 0), some (.invokevirtual 78, 160, 1, 9), none, none, some (.astore_n 3, 0, 0, 0), some (.aload_n 3, 0, 0, 0), some (.ifnull 10, 17, 0, 0), none, none, some (.iload_n 2, 0, 0, 0), some (.invokestatic 136, 166, 1, 0), none, none, some (.ifCond .ne 9, 23, 0, 0), none, none, some (.aload_n 0, 0, 0, 0), some (.iconst 1, 0, 0, 0), some (.invokevirtual 82, 157, 1, 9), none, none, some (.ireturn, 0, 0, 0), some (.aload_n 3, 0, 0, 0), some (.invokevirtual 105, 80, 0, 6), none, none, some (.ifCond .eq 9, 36, 0, 0), none, none, some (.aload_n 0, 0, 0, 0), some (.iconst 2, 0, 0, 0), some (.invokevirtual 82, 157, 1, 9), none, none, some (.ireturn, 0, 0, 0), some (.aload_n 3, 0, 0, 0), some (.invokevirtual 101, 81, 0, 6), none, none, some (.ifCond .eq 17, 57, 0, 0), none, none, some (.aload_n 0, 0, 0, 0), some (.getfield 18, 9, 1, 0), none, none, some (.aload_n 3, 0, 0, 0), some (.getfield 133, 6, 4, 0), none, none, some (.invokevirtual 126, 94, 1, 7), none, none, some (.goto 4, 58, 0, 0), none, none, some (.aconst_null, 0, 0, 0), some (.astore 4, 0, 0, 0), none, some (.aload 4, 0, 0, 0), none, some (.ifnonnull 9, 71, 0, 0), none, none, some (.aload_n 0, 0, 0, 0), some (.iconst 3, 0, 0, 0), some (.invokevirtual 82, 157, 1, 9), none, none, some (.ireturn, 0, 0, 0), some (.aload 4, 0, 0, 0), none, some (.getfield 139, 3, 2, 0), none, none, some (.iload_n 2, 0, 0, 0), some (.invokestatic 144, 167, 2, 0), none, none, some (.ifCond .ne 9, 89, 0, 0), none, none, some (.aload_n 0, 0, 0, 0), some (.iconst 2, 0, 0, 0), some (.invokevirtual 82, 157, 1, 9), none, none, some (.ireturn, 0, 0, 0), some (.iload_n 2, 0, 0, 0), some (.lookupswitch 56 #[(0, 34), (2, 40), (5, 46)], 0, 0, 0), none, none, none, none, none, none, none, none, none, none, none, none, none, none, none, none, none, none, none, none, none, none, none, none, none, none, none, none, none, none, none, none, none, some (.aload 4, 0, 0, 0), none, some (.getfield 147, 3, 3, 0), none, none, some (.ireturn, 0, 0, 0), some (.aload 4, 0, 0, 0), none, some (.getfield 150, 3, 4, 0), none, none, some (.ireturn, 0, 0, 0), some (.aload 4, 0, 0, 0), none, some (.getfield 153, 3, 1, 0), none, none, some (.iconst 0, 0, 0, 0), some (.invokevirtual 156, 9, 1, 1), none, none, some (.ireturn, 0, 0, 0), some (.aload_n 0, 0, 0, 0), some (.aload 4, 0, 0, 0), none, some (.invokevirtual 159, 164, 1, 9), none, none, some (.invokestatic 163, 282, 1, 0), none, none, some (.ireturn, 0, 0, 0)]
def sm_H119 : List Nat := [0, 0, 2125, 0, 0, 0, 0, 2223, 0, 0, 0, 2129, 0, 0, 2161, 0, 0, 0, 2129, 0, 0, 2157, 0, 0, 2088, 0, 2074, 2207, 0, 0, 0, 0, 0, 0, 0, 2129, 0, 0, 1132, 0, 2226, 0, 0, 0, 2129, 0, 0, 0, 0, 1135, 0, 0, 1138, 0, 0, 1129, 0, 2133, 0, 0, 0, 2229, 2237, 0]
def sm_I119 : sm_I := (yX9_says, cX9_says, 5, some .int, sm_T119)
def sm_T120 : sm_T := [some (.aload_n 0, 0, 0, 0), some (.iload_n 1, 0, 0, 0), some (.invokevirtual 90, 161, 1, 9), none, none, some (.istore_n 2, 0, 0, 0), some (.aload_n 0, 0, 0, 0), some (.iload_n 1, 0, 0, 0), some (.invokevirtual 78, 160, 1, 9), none, none, some (.astore_n 3, 0, 0, 0), some (.iload_n 2, 0, 0, 0), some (.ifCond .ne 7, 20, 0, 0), none, none, some (.aload_n 3, 0, 0, 0), some (.ifnonnull 9, 26, 0, 0), none, none, some (.aload_n 0, 0, 0, 0), some (.iload_n 2, 0, 0, 0), some (.invokevirtual 82, 157, 1, 9), none, none, some (.ireturn, 0, 0, 0), some (.aload_n 0, 0, 0, 0), some (.aload_n 0, 0, 0, 0), some (.getfield 52, 9, 7, 0), none, none, some (.aload_n 3, 0, 0, 0), some (.aload_n 0, 0, 0, 0), some (.getfield 45, 9, 6, 0), none, none, some (.invokevirtual 168, 14, 2, 2), none, none, some (.putfield 38, 9, 5, 0), none, none, some (.aload_n 0, 0, 0, 0), some (.getfield 38, 9, 5, 0), none, none, some (.iconst (-1), 0, 0, 0), some (.if_icmp .eq 10, 57, 0, 0), none, none, some (.aload_n 0, 0, 0, 0), some (.bipush 6, 0, 0, 0), none, some (.invokevirtual 82, 157, 1, 9), none, none, some (.ireturn, 0, 0, 0), some (.aload_n 0, 0, 0, 0), some (.getfield 18, 9, 1, 0), none, none, some (.invokevirtual 172, 95, 0, 7), none, none, some (.astore 4, 0, 0, 0), none, some (.aload 4, 0, 0, 0), none, some (.ifnonnull 10, 78, 0, 0), none, none, some (.aload_n 0, 0, 0, 0), some (.bipush 7, 0, 0, 0), none, some (.invokevirtual 82, 157, 1, 9), none, none, some (.ireturn, 0, 0, 0), some (.aload 4, 0, 0, 0), none, some (.aload_n 0, 0, 0, 0), some (.getfield 45, 9, 6, 0), none, none, some (.invokevirtual 176, 100, 1, 8), none, none, some (.aload_n 0, 0, 0, 0), some (.getfield 18, 9, 1, 0), none, none, some (.dup, 0, 0, 0), some (.getfield 180, 7, 2, 0), none, none, some (.iconst 1, 0, 0, 0), some (.iadd, 0, 0, 0), some (.putfield 180, 7, 2, 0), none, none, some (.aload_n 0, 0, 0, 0), some (.getfield 18, 9, 1, 0), none, none, some (.getfield 180, 7, 2, 0), none, none, some (.iconst 1, 0, 0, 0), some (.isub, 0, 0, 0), some (.ireturn, 0, 0, 0)]
def sm_H120 : List Nat := [0, 0, 2153, 0, 0, 0, 2125, 0, 0, 0, 0, 0, 0, 0, 2129, 0, 0, 0, 2094, 0, 0, 2093, 3007, 2092, 0, 2092, 0, 0, 0, 0, 2129, 0, 0, 2088, 3149, 0, 0, 0, 0, 0, 2129, 0, 0, 0, 2093, 3153, 0, 2088, 0, 1153, 0, 0, 1153, 0, 2088, 1153, 0, 0, 0]
def sm_I120 : sm_I := (yX9_talk, cX9_talk, 5, some .int, sm_T120)
def sm_T121 : sm_T := [some (.aload_n 0, 0, 0, 0), some (.getfield 38, 9, 5, 0), none, none, some (.ireturn, 0, 0, 0)]
def sm_H121 : List Nat := [0, 2092, 0]
def sm_I121 : sm_I := (yX9_fault, cX9_fault, 1, some .int, sm_T121)
def sm_T122 : sm_T := [some (.aload_n 0, 0, 0, 0), some (.getfield 18, 9, 1, 0), none, none, some (.iload_n 1, 0, 0, 0), some (.invokevirtual 183, 93, 1, 7), none, none, some (.astore_n 3, 0, 0, 0), some (.aload_n 3, 0, 0, 0), some (.ifnull 13, 23, 0, 0), none, none, some (.iload_n 2, 0, 0, 0), some (.ifCond .lt 9, 23, 0, 0), none, none, some (.iload_n 2, 0, 0, 0), some (.bipush 7, 0, 0, 0), none, some (.if_icmp .le 9, 29, 0, 0), none, none, some (.aload_n 0, 0, 0, 0), some (.iconst 5, 0, 0, 0), some (.invokevirtual 187, 158, 1, 9), none, none, some (.ireturn, 0, 0, 0), some (.iload_n 2, 0, 0, 0), some (.tableswitch 85 0 6 #[42, 47, 52, 57, 62, 67, 80], 0, 0, 0), none, none, none, none, none, none, none, none, none, none, none, none, none, none, none, none, none, none, none, none, none, none, none, none, none, none, none, none, none, none, none, none, none, none, none, none, none, none, none, none, none, some (.aload_n 3, 0, 0, 0), some (.getfield 190, 8, 2, 0), none, none, some (.ireturn, 0, 0, 0), some (.aload_n 3, 0, 0, 0), some (.getfield 193, 8, 3, 0), none, none, some (.ireturn, 0, 0, 0), some (.aload_n 3, 0, 0, 0), some (.getfield 196, 8, 4, 0), none, none, some (.ireturn, 0, 0, 0), some (.aload_n 3, 0, 0, 0), some (.getfield 199, 8, 5, 0), none, none, some (.ireturn, 0, 0, 0), some (.aload_n 3, 0, 0, 0), some (.getfield 202, 8, 6, 0), none, none, some (.ireturn, 0, 0, 0), some (.aload_n 3, 0, 0, 0), some (.getfield 205, 8, 7, 0), none, none, some (.ifCond .eq 7, 108, 0, 0), none, none, some (.iconst 1, 0, 0, 0), some (.goto 4, 109, 0, 0), none, none, some (.iconst 0, 0, 0, 0), some (.ireturn, 0, 0, 0), some (.aload_n 3, 0, 0, 0), some (.getfield 208, 8, 8, 0), none, none, some (.ireturn, 0, 0, 0), some (.aload_n 3, 0, 0, 0), some (.getfield 211, 8, 9, 0), none, none, some (.ireturn, 0, 0, 0)]
def sm_H122 : List Nat := [0, 2088, 0, 2233, 0, 0, 0, 0, 0, 0, 0, 0, 0, 0, 3171, 0, 0, 0, 0, 1066, 0, 0, 1070, 0, 0, 1075, 0, 0, 1078, 0, 0, 1082, 0, 0, 1086, 0, 0, 0, 0, 0, 0, 1090, 0, 0, 1094, 0]
def sm_I122 : sm_I := (yX9_talkOf, cX9_talkOf, 4, some .int, sm_T122)
def sm_T123 : sm_T := [some (.aload_n 0, 0, 0, 0), some (.getfield 18, 9, 1, 0), none, none, some (.iload_n 1, 0, 0, 0), some (.invokevirtual 183, 93, 1, 7), none, none, some (.astore 4, 0, 0, 0), none, some (.aload 4, 0, 0, 0), none, some (.ifnull 21, 33, 0, 0), none, none, some (.aload 4, 0, 0, 0), none, some (.iload_n 2, 0, 0, 0), some (.invokevirtual 214, 102, 1, 8), none, none, some (.ifCond .eq 12, 33, 0, 0), none, none, some (.iload_n 3, 0, 0, 0), some (.ifCond .lt 8, 33, 0, 0), none, none, some (.iload_n 3, 0, 0, 0), some (.iconst 1, 0, 0, 0), some (.if_icmp .le 9, 39, 0, 0), none, none, some (.aload_n 0, 0, 0, 0), some (.iconst 5, 0, 0, 0), some (.invokevirtual 82, 157, 1, 9), none, none, some (.ireturn, 0, 0, 0), some (.iload_n 3, 0, 0, 0), some (.ifCond .ne 15, 55, 0, 0), none, none, some (.aload 4, 0, 0, 0), none, some (.getfield 217, 8, 0, 0), none, none, some (.iload_n 2, 0, 0, 0), some (.invokevirtual 156, 9, 1, 1), none, none, some (.goto 12, 64, 0, 0), none, none, some (.aload 4, 0, 0, 0), none, some (.getfield 220, 8, 1, 0), none, none, some (.iload_n 2, 0, 0, 0), some (.invokevirtual 156, 9, 1, 1), none, none, some (.ireturn, 0, 0, 0)]
def sm_H123 : List Nat := [0, 2088, 0, 2233, 0, 0, 0, 0, 0, 3180, 0, 0, 0, 0, 0, 0, 0, 0, 2129, 0, 0, 0, 0, 1058, 0, 2133, 0, 0, 1061, 0, 2133, 0]
def sm_I123 : sm_I := (yX9_truth, cX9_truth, 5, some .int, sm_T123)
def sm_T124 : sm_T := [some (.aload_n 0, 0, 0, 0), some (.getfield 18, 9, 1, 0), none, none, some (.iload_n 1, 0, 0, 0), some (.invokevirtual 183, 93, 1, 7), none, none, some (.astore_n 3, 0, 0, 0), some (.aload_n 3, 0, 0, 0), some (.ifnull 12, 22, 0, 0), none, none, some (.iload_n 2, 0, 0, 0), some (.aload_n 3, 0, 0, 0), some (.getfield 190, 8, 2, 0), none, none, some (.ishr, 0, 0, 0), some (.ifCond .eq 9, 28, 0, 0), none, none, some (.aload_n 0, 0, 0, 0), some (.iconst 1, 0, 0, 0), some (.invokevirtual 82, 157, 1, 9), none, none, some (.ireturn, 0, 0, 0), some (.iload_n 2, 0, 0, 0), some (.ifCond .ne 10, 39, 0, 0), none, none, some (.aload_n 0, 0, 0, 0), some (.bipush 6, 0, 0, 0), none, some (.invokevirtual 82, 157, 1, 9), none, none, some (.ireturn, 0, 0, 0), some (.aload_n 0, 0, 0, 0), some (.getfield 59, 9, 8, 0), none, none, some (.aload_n 3, 0, 0, 0), some (.aload_n 3, 0, 0, 0), some (.getfield 196, 8, 4, 0), none, none, some (.aload_n 3, 0, 0, 0), some (.getfield 193, 8, 3, 0), none, none, some (.invokevirtual 223, 35, 3, 4), none, none, some (.iconst 0, 0, 0, 0), some (.istore 4, 0, 0, 0), none, some (.iload 4, 0, 0, 0), none, some (.aload_n 3, 0, 0, 0), some (.getfield 190, 8, 2, 0), none, none, some (.if_icmp .ge 33, 97, 0, 0), none, none, some (.aload_n 0, 0, 0, 0), some (.getfield 59, 9, 8, 0), none, none, some (.iload 4, 0, 0, 0), none, some (.iload_n 2, 0, 0, 0), some (.iload 4, 0, 0, 0), none, some (.ishr, 0, 0, 0), some (.iconst 1, 0, 0, 0), some (.iand, 0, 0, 0), some (.iconst 1, 0, 0, 0), some (.if_icmp .ne 7, 87, 0, 0), none, none, some (.iconst 0, 0, 0, 0), some (.goto 4, 88, 0, 0), none, none, some (.iconst 1, 0, 0, 0), some (.invokevirtual 227, 38, 2, 4), none, none, some (.iinc 4 1, 0, 0, 0), none, none, some (.goto (-36), 58, 0, 0), none, none, some (.aload_n 0, 0, 0, 0), some (.getfield 59, 9, 8, 0), none, none, some (.invokevirtual 229, 41, 0, 4), none, none, some (.aload_n 0, 0, 0, 0), some (.getfield 59, 9, 8, 0), none, none, some (.iconst 0, 0, 0, 0), some (.invokevirtual 232, 46, 1, 4), none, none, some (.ireturn, 0, 0, 0)]
def sm_H124 : List Nat := [0, 2088, 0, 2233, 0, 0, 0, 0, 0, 1066, 0, 0, 0, 0, 2129, 0, 0, 0, 0, 0, 2129, 0, 0, 2095, 0, 0, 1075, 0, 1070, 3188, 0, 0, 0, 0, 1066, 0, 0, 2095, 0, 0, 0, 0, 0, 0, 0, 0, 0, 0, 0, 3196, 0, 0, 0, 2095, 3205, 0, 2095, 0, 3238, 0]
def sm_I124 : sm_I := (yX9_done, cX9_done, 5, some .int, sm_T124)
def sm_T125 : sm_T := [some (.aload_n 0, 0, 0, 0), some (.getfield 18, 9, 1, 0), none, none, some (.iload_n 1, 0, 0, 0), some (.invokevirtual 183, 93, 1, 7), none, none, some (.astore 4, 0, 0, 0), none, some (.aload 4, 0, 0, 0), none, some (.ifnonnull 9, 21, 0, 0), none, none, some (.aload_n 0, 0, 0, 0), some (.iconst 1, 0, 0, 0), some (.invokevirtual 187, 158, 1, 9), none, none, some (.ireturn, 0, 0, 0), some (.iload_n 2, 0, 0, 0), some (.ifCond .lt 15, 37, 0, 0), none, none, some (.iload_n 2, 0, 0, 0), some (.iconst 1, 0, 0, 0), some (.if_icmp .gt 10, 37, 0, 0), none, none, some (.iload_n 3, 0, 0, 0), some (.invokestatic 235, 171, 1, 0), none, none, some (.ifCond .ne 10, 44, 0, 0), none, none, some (.aload_n 0, 0, 0, 0), some (.bipush 6, 0, 0, 0), none, some (.invokevirtual 187, 158, 1, 9), none, none, some (.ireturn, 0, 0, 0), some (.iload_n 2, 0, 0, 0), some (.ifCond .ne 11, 56, 0, 0), none, none, some (.aload 4, 0, 0, 0), none, some (.getfield 193, 8, 3, 0), none, none, some (.goto 8, 61, 0, 0), none, none, some (.aload 4, 0, 0, 0), none, some (.getfield 196, 8, 4, 0), none, none, some (.istore 5, 0, 0, 0), none, some (.iload_n 2, 0, 0, 0), some (.ifCond .ne 12, 76, 0, 0), none, none, some (.aload 4, 0, 0, 0), none, some (.iload_n 3, 0, 0, 0), some (.putfield 193, 8, 3, 0), none, none, some (.goto 9, 82, 0, 0), none, none, some (.aload 4, 0, 0, 0), none, some (.iload_n 3, 0, 0, 0), some (.putfield 196, 8, 4, 0), none, none, some (.iload 5, 0, 0, 0), none, some (.ireturn, 0, 0, 0)]
def sm_H125 : List Nat := [0, 2088, 0, 2233, 0, 0, 0, 0, 0, 3171, 0, 0, 0, 0, 0, 0, 0, 4006, 0, 0, 0, 3171, 0, 0, 0, 0, 1070, 0, 0, 1075, 0, 0, 0, 0, 0, 1070, 0, 0, 0, 1075, 0, 0]
def sm_I125 : sm_I := (yX9_change, cX9_change, 6, some .int, sm_T125)
def sm_T126 : sm_T := [some (.aload_n 0, 0, 0, 0), some (.getfield 18, 9, 1, 0), none, none, some (.iload_n 1, 0, 0, 0), some (.invokevirtual 183, 93, 1, 7), none, none, some (.astore 4, 0, 0, 0), none, some (.aload 4, 0, 0, 0), none, some (.ifnull 12, 24, 0, 0), none, none, some (.aload 4, 0, 0, 0), none, some (.iload_n 2, 0, 0, 0), some (.invokevirtual 214, 102, 1, 8), none, none, some (.ifCond .ne 9, 30, 0, 0), none, none, some (.aload_n 0, 0, 0, 0), some (.iconst 1, 0, 0, 0), some (.invokevirtual 82, 157, 1, 9), none, none, some (.ireturn, 0, 0, 0), some (.iload_n 3, 0, 0, 0), some (.iconst 1, 0, 0, 0), some (.if_icmp .lt 9, 41, 0, 0), none, none, some (.iload_n 3, 0, 0, 0), some (.bipush 99, 0, 0, 0), none, some (.if_icmp .le 10, 48, 0, 0), none, none, some (.aload_n 0, 0, 0, 0), some (.bipush 6, 0, 0, 0), none, some (.invokevirtual 82, 157, 1, 9), none, none, some (.ireturn, 0, 0, 0), some (.aload 4, 0, 0, 0), none, some (.getfield 220, 8, 1, 0), none, none, some (.iload_n 2, 0, 0, 0), some (.invokevirtual 156, 9, 1, 1), none, none, some (.istore 5, 0, 0, 0), none, some (.aload 4, 0, 0, 0), none, some (.getfield 220, 8, 1, 0), none, none, some (.iload_n 2, 0, 0, 0), some (.iload_n 3, 0, 0, 0), some (.invokevirtual 238, 10, 2, 1), none, none, some (.iload 5, 0, 0, 0), none, some (.ireturn, 0, 0, 0)]
def sm_H126 : List Nat := [0, 2088, 0, 2233, 0, 0, 0, 0, 0, 3180, 0, 0, 0, 2129, 0, 0, 0, 0, 0, 0, 0, 0, 0, 2129, 0, 0, 1061, 0, 2133, 0, 0, 1061, 0, 0, 2137, 0, 0]
def sm_I126 : sm_I := (yX9_chance, cX9_chance, 6, some .int, sm_T126)
def sm_T127 : sm_T := [some (.aload_n 0, 0, 0, 0), some (.getfield 18, 9, 1, 0), none, none, some (.iload_n 1, 0, 0, 0), some (.invokevirtual 183, 93, 1, 7), none, none, some (.astore 5, 0, 0, 0), none, some (.aload 5, 0, 0, 0), none, some (.ifnull 10, 22, 0, 0), none, none, some (.iload_n 2, 0, 0, 0), some (.invokestatic 136, 166, 1, 0), none, none, some (.ifCond .ne 9, 28, 0, 0), none, none, some (.aload_n 0, 0, 0, 0), some (.iconst 1, 0, 0, 0), some (.invokevirtual 82, 157, 1, 9), none, none, some (.ireturn, 0, 0, 0), some (.iload_n 2, 0, 0, 0), some (.ifCond .eq 13, 42, 0, 0), none, none, some (.iload_n 2, 0, 0, 0), some (.iconst 2, 0, 0, 0), some (.if_icmp .eq 8, 42, 0, 0), none, none, some (.iload_n 2, 0, 0, 0), some (.iconst 5, 0, 0, 0), some (.if_icmp .ne 7, 46, 0, 0), none, none, some (.iconst 1, 0, 0, 0), some (.goto 4, 47, 0, 0), none, none, some (.iconst 0, 0, 0, 0), some (.istore 6, 0, 0, 0), none, some (.iload_n 2, 0, 0, 0), some (.iconst 1, 0, 0, 0), some (.if_icmp .ne 8, 59, 0, 0), none, none, some (.iload 4, 0, 0, 0), none, some (.goto 19, 75, 0, 0), none, none, some (.iload_n 2, 0, 0, 0), some (.iconst 4, 0, 0, 0), some (.if_icmp .ne 13, 74, 0, 0), none, none, some (.aload 5, 0, 0, 0), none, some (.invokevirtual 239, 103, 0, 8), none, none, some (.iconst 1, 0, 0, 0), some (.isub, 0, 0, 0), some (.goto 4, 75, 0, 0), none, none, some (.iconst 0, 0, 0, 0), some (.istore 7, 0, 0, 0), none, some (.iload 6, 0, 0, 0), none, some (.ifCond .eq 13, 92, 0, 0), none, none, some (.aload_n 0, 0, 0, 0), some (.aload 5, 0, 0, 0), none, some (.iload_n 3, 0, 0, 0), some (.invokevirtual 243, 162, 2, 9), none, none, some (.goto 11, 100, 0, 0), none, none, some (.aload_n 0, 0, 0, 0), some (.aload 5, 0, 0, 0), none, some (.iload 7, 0, 0, 0), none, some (.invokevirtual 247, 163, 2, 9), none, none, some (.istore 8, 0, 0, 0), none, some (.iload 8, 0, 0, 0), none, some (.ifCond .ne 24, 128, 0, 0), none, none, some (.iload_n 2, 0, 0, 0), some (.iconst 2, 0, 0, 0), some (.if_icmp .ne 19, 128, 0, 0), none, none, some (.iload 4, 0, 0, 0), none, some (.ifCond .lt 10, 124, 0, 0), none, none, some (.iload 4, 0, 0, 0), none, some (.bipush 100, 0, 0, 0), none, some (.if_icmp .le 7, 128, 0, 0), none, none, some (.bipush 6, 0, 0, 0), none, some (.istore 8, 0, 0, 0), none, some (.aload_n 0, 0, 0, 0), some (.getfield 18, 9, 1, 0), none, none, some (.invokevirtual 250, 96, 0, 7), none, none, some (.astore 9, 0, 0, 0), none, some (.iload 8, 0, 0, 0), none, some (.ifCond .ne 12, 151, 0, 0), none, none, some (.aload 9, 0, 0, 0), none, some (.ifnonnull 7, 151, 0, 0), none, none, some (.bipush 7, 0, 0, 0), none, some (.istore 8, 0, 0, 0), none, some (.iload 8, 0, 0, 0), none, some (.ifCond .ne 8, 161, 0, 0), none, none, some (.aload 9, 0, 0, 0), none, some (.ifnonnull 10, 168, 0, 0), none, none, some (.aload_n 0, 0, 0, 0), some (.iload 8, 0, 0, 0), none, some (.invokevirtual 82, 157, 1, 9), none, none, some (.ireturn, 0, 0, 0), some (.aload 9, 0, 0, 0), none, some (.iload_n 1, 0, 0, 0), some (.iload_n 2, 0, 0, 0), some (.iload_n 2, 0, 0, 0), some (.iconst 2, 0, 0, 0), some (.if_icmp .ne 8, 182, 0, 0), none, none, some (.iload 4, 0, 0, 0), none, some (.goto 5, 184, 0, 0), none, none, some (.bipush 100, 0, 0, 0), none, some (.invokevirtual 254, 30, 3, 3), none, none, some (.iload 6, 0, 0, 0), none, some (.ifCond .eq 21, 210, 0, 0), none, none, some (.aload 9, 0, 0, 0), none, some (.aload_n 0, 0, 0, 0), some (.iload_n 3, 0, 0, 0), some (.invokevirtual 78, 160, 1, 9), none, none, some (.aload 5, 0, 0, 0), none, some (.getfield 190, 8, 2, 0), none, none, some (.invokevirtual 258, 31, 2, 3), none, none, some (.goto 15, 222, 0, 0), none, none, some (.aload 9, 0, 0, 0), none, some (.iload 7, 0, 0, 0), none, some (.aload 5, 0, 0, 0), none, some (.getfield 190, 8, 2, 0), none, none, some (.invokevirtual 262, 32, 2, 3), none, none, some (.aload_n 0, 0, 0, 0), some (.getfield 18, 9, 1, 0), none, none, some (.dup, 0, 0, 0), some (.getfield 265, 7, 3, 0), none, none, some (.iconst 1, 0, 0, 0), some (.iadd, 0, 0, 0), some (.putfield 265, 7, 3, 0), none, none, some (.aload_n 0, 0, 0, 0), some (.getfield 18, 9, 1, 0), none, none, some (.getfield 265, 7, 3, 0), none, none, some (.iconst 1, 0, 0, 0), some (.isub, 0, 0, 0), some (.ireturn, 0, 0, 0)]
def sm_H127 : List Nat := [0, 2088, 0, 2233, 0, 0, 0, 0, 2223, 0, 0, 0, 2129, 0, 0, 0, 0, 0, 0, 0, 0, 0, 0, 0, 0, 0, 0, 0, 0, 0, 0, 0, 0, 0, 0, 4017, 0, 0, 0, 0, 0, 0, 0, 0, 0, 0, 4021, 0, 0, 0, 0, 4026, 0, 0, 0, 0, 0, 0, 0, 0, 0, 0, 0, 0, 0, 0, 2088, 4035, 0, 0, 0, 0, 0, 0, 0, 0, 0, 0, 0, 0, 0, 2129, 0, 0, 0, 0, 0, 0, 0, 0, 0, 0, 4039, 0, 0, 0, 0, 0, 2125, 0, 1066, 4044, 0, 0, 0, 0, 1066, 4050, 0, 2088, 0, 1155, 0, 0, 1155, 0, 2088, 1155, 0, 0, 0]
def sm_I127 : sm_I := (yX9_meaning, cX9_meaning, 10, some .int, sm_T127)
def sm_T128 : sm_T := [some (.aload_n 0, 0, 0, 0), some (.getfield 18, 9, 1, 0), none, none, some (.iload_n 1, 0, 0, 0), some (.invokevirtual 126, 94, 1, 7), none, none, some (.astore 4, 0, 0, 0), none, some (.aload 4, 0, 0, 0), none, some (.ifnonnull 9, 21, 0, 0), none, none, some (.aload_n 0, 0, 0, 0), some (.iconst 1, 0, 0, 0), some (.invokevirtual 82, 157, 1, 9), none, none, some (.ireturn, 0, 0, 0), some (.aload 4, 0, 0, 0), none, some (.getfield 139, 3, 2, 0), none, none, some (.iconst 5, 0, 0, 0), some (.if_icmp .eq 9, 36, 0, 0), none, none, some (.aload_n 0, 0, 0, 0), some (.iconst 2, 0, 0, 0), some (.invokevirtual 82, 157, 1, 9), none, none, some (.ireturn, 0, 0, 0), some (.iload_n 2, 0, 0, 0), some (.ifCond .lt 16, 53, 0, 0), none, none, some (.iload_n 2, 0, 0, 0), some (.bipush 12, 0, 0, 0), none, some (.if_icmp .ge 10, 53, 0, 0), none, none, some (.iload_n 3, 0, 0, 0), some (.invokestatic 268, 170, 1, 0), none, none, some (.ifCond .ne 10, 60, 0, 0), none, none, some (.aload_n 0, 0, 0, 0), some (.bipush 6, 0, 0, 0), none, some (.invokevirtual 82, 157, 1, 9), none, none, some (.ireturn, 0, 0, 0), some (.aload 4, 0, 0, 0), none, some (.getfield 153, 3, 1, 0), none, none, some (.iload_n 2, 0, 0, 0), some (.invokevirtual 156, 9, 1, 1), none, none, some (.istore 5, 0, 0, 0), none, some (.aload 4, 0, 0, 0), none, some (.getfield 153, 3, 1, 0), none, none, some (.iload_n 2, 0, 0, 0), some (.iload_n 3, 0, 0, 0), some (.invokevirtual 238, 10, 2, 1), none, none, some (.iload 5, 0, 0, 0), none, some (.ireturn, 0, 0, 0)]
def sm_H128 : List Nat := [0, 2088, 0, 2207, 0, 0, 0, 0, 0, 2129, 0, 0, 1132, 0, 0, 0, 0, 2129, 0, 0, 0, 0, 0, 0, 0, 4059, 0, 0, 0, 2129, 0, 0, 1129, 0, 2133, 0, 0, 1129, 0, 0, 2137, 0, 0]
def sm_I128 : sm_I := (yX9_tell, cX9_tell, 6, some .int, sm_T128)
def sm_T129 : sm_T := [some (.aload_n 0, 0, 0, 0), some (.getfield 18, 9, 1, 0), none, none, some (.iload_n 1, 0, 0, 0), some (.invokevirtual 126, 94, 1, 7), none, none, some (.astore_n 3, 0, 0, 0), some (.aload_n 3, 0, 0, 0), some (.ifnull 12, 22, 0, 0), none, none, some (.iload_n 2, 0, 0, 0), some (.ifCond .lt 8, 22, 0, 0), none, none, some (.iload_n 2, 0, 0, 0), some (.iconst 3, 0, 0, 0), some (.if_icmp .le 9, 28, 0, 0), none, none, some (.aload_n 0, 0, 0, 0), some (.iconst 5, 0, 0, 0), some (.invokevirtual 82, 157, 1, 9), none, none, some (.ireturn, 0, 0, 0), some (.iload_n 2, 0, 0, 0), some (.tableswitch 46 0 2 #[27, 32, 37], 0, 0, 0), none, none, none, none, none, none, none, none, none, none, none, none, none, none, none, none, none, none, none, none, none, none, none, none, none, none, some (.aload_n 3, 0, 0, 0), some (.getfield 139, 3, 2, 0), none, none, some (.ireturn, 0, 0, 0), some (.aload_n 3, 0, 0, 0), some (.getfield 147, 3, 3, 0), none, none, some (.ireturn, 0, 0, 0), some (.aload_n 0, 0, 0, 0), some (.aload_n 3, 0, 0, 0), some (.invokevirtual 159, 164, 1, 9), none, none, some (.invokestatic 163, 282, 1, 0), none, none, some (.ireturn, 0, 0, 0), some (.aload_n 0, 0, 0, 0), some (.aload_n 3, 0, 0, 0), some (.invokevirtual 159, 164, 1, 9), none, none, some (.ireturn, 0, 0, 0)]
def sm_H129 : List Nat := [0, 2088, 0, 2207, 0, 0, 0, 0, 0, 0, 0, 0, 0, 0, 2129, 0, 0, 0, 0, 1132, 0, 0, 1135, 0, 0, 0, 2229, 2237, 0, 0, 0, 2229, 0]
def sm_I129 : sm_I := (yX9_meaningOf, cX9_meaningOf, 4, some .int, sm_T129)
def sm_T130 : sm_T := [some (.aload_n 0, 0, 0, 0), some (.getfield 59, 9, 8, 0), none, none, some (.aload_n 0, 0, 0, 0), some (.getfield 18, 9, 1, 0), none, none, some (.iload_n 1, 0, 0, 0), some (.invokevirtual 271, 40, 2, 4), none, none, some (.ifCond .eq 14, 26, 0, 0), none, none, some (.aload_n 0, 0, 0, 0), some (.getfield 59, 9, 8, 0), none, none, some (.iload_n 2, 0, 0, 0), some (.invokevirtual 275, 44, 1, 4), none, none, some (.ifCond .ne 9, 32, 0, 0), none, none, some (.aload_n 0, 0, 0, 0), some (.iconst 5, 0, 0, 0), some (.invokevirtual 82, 157, 1, 9), none, none, some (.ireturn, 0, 0, 0), some (.aload_n 0, 0, 0, 0), some (.getfield 59, 9, 8, 0), none, none, some (.iload_n 2, 0, 0, 0), some (.invokevirtual 276, 45, 1, 4), none, none, some (.ireturn, 0, 0, 0)]
def sm_H130 : List Nat := [0, 2095, 0, 2088, 0, 4070, 0, 0, 2095, 0, 4084, 0, 0, 0, 2129, 0, 0, 2095, 0, 4089, 0]
def sm_I130 : sm_I := (yX9_word, cX9_word, 3, some .int, sm_T130)
def sm_T131 : sm_T := [some (.aload_n 0, 0, 0, 0), some (.getfield 59, 9, 8, 0), none, none, some (.aload_n 0, 0, 0, 0), some (.getfield 18, 9, 1, 0), none, none, some (.iload_n 1, 0, 0, 0), some (.invokevirtual 271, 40, 2, 4), none, none, some (.ifCond .eq 14, 26, 0, 0), none, none, some (.aload_n 0, 0, 0, 0), some (.getfield 59, 9, 8, 0), none, none, some (.iload_n 2, 0, 0, 0), some (.invokevirtual 279, 43, 1, 4), none, none, some (.ifCond .ne 9, 32, 0, 0), none, none, some (.aload_n 0, 0, 0, 0), some (.iconst 5, 0, 0, 0), some (.invokevirtual 82, 157, 1, 9), none, none, some (.ireturn, 0, 0, 0), some (.aload_n 0, 0, 0, 0), some (.getfield 59, 9, 8, 0), none, none, some (.iload_n 2, 0, 0, 0), some (.invokevirtual 282, 47, 1, 4), none, none, some (.ireturn, 0, 0, 0)]
def sm_H131 : List Nat := [0, 2095, 0, 2088, 0, 4070, 0, 0, 2095, 0, 4097, 0, 0, 0, 2129, 0, 0, 2095, 0, 4098, 0]
def sm_I131 : sm_I := (yX9_thought, cX9_thought, 3, some .int, sm_T131)
def sm_T132 : sm_T := [some (.aload_n 0, 0, 0, 0), some (.getfield 59, 9, 8, 0), none, none, some (.aload_n 0, 0, 0, 0), some (.getfield 18, 9, 1, 0), none, none, some (.iload_n 1, 0, 0, 0), some (.invokevirtual 271, 40, 2, 4), none, none, some (.ifCond .eq 14, 26, 0, 0), none, none, some (.aload_n 0, 0, 0, 0), some (.getfield 59, 9, 8, 0), none, none, some (.iload_n 2, 0, 0, 0), some (.invokevirtual 279, 43, 1, 4), none, none, some (.ifCond .ne 9, 32, 0, 0), none, none, some (.aload_n 0, 0, 0, 0), some (.iconst 5, 0, 0, 0), some (.invokevirtual 82, 157, 1, 9), none, none, some (.ireturn, 0, 0, 0), some (.aload_n 0, 0, 0, 0), some (.getfield 59, 9, 8, 0), none, none, some (.iload_n 2, 0, 0, 0), some (.invokevirtual 232, 46, 1, 4), none, none, some (.ireturn, 0, 0, 0)]
def sm_H132 : List Nat := [0, 2095, 0, 2088, 0, 4070, 0, 0, 2095, 0, 4097, 0, 0, 0, 2129, 0, 0, 2095, 0, 3238, 0]
def sm_I132 : sm_I := (yX9_does, cX9_does, 3, some .int, sm_T132)
def sm_T133 : sm_T := [some (.aload_n 0, 0, 0, 0), some (.getfield 59, 9, 8, 0), none, none, some (.aload_n 0, 0, 0, 0), some (.getfield 18, 9, 1, 0), none, none, some (.iload_n 1, 0, 0, 0), some (.invokevirtual 271, 40, 2, 4), none, none, some (.ifCond .ne 9, 21, 0, 0), none, none, some (.aload_n 0, 0, 0, 0), some (.iconst 5, 0, 0, 0), some (.invokevirtual 82, 157, 1, 9), none, none, some (.ireturn, 0, 0, 0), some (.aload_n 0, 0, 0, 0), some (.getfield 59, 9, 8, 0), none, none, some (.invokevirtual 285, 58, 0, 4), none, none, some (.ireturn, 0, 0, 0)]
def sm_H133 : List Nat := [0, 2095, 0, 2088, 0, 4070, 0, 0, 0, 2129, 0, 0, 2095, 4110, 0]
def sm_I133 : sm_I := (yX9_judge, cX9_judge, 2, some .int, sm_T133)
def sm_T134 : sm_T := [some (.aload_n 0, 0, 0, 0), some (.getfield 59, 9, 8, 0), none, none, some (.aload_n 0, 0, 0, 0), some (.getfield 18, 9, 1, 0), none, none, some (.iload_n 1, 0, 0, 0), some (.invokevirtual 271, 40, 2, 4), none, none, some (.ifCond .eq 25, 37, 0, 0), none, none, some (.aload_n 0, 0, 0, 0), some (.getfield 59, 9, 8, 0), none, none, some (.iload_n 2, 0, 0, 0), some (.invokevirtual 275, 44, 1, 4), none, none, some (.ifCond .eq 14, 37, 0, 0), none, none, some (.aload_n 0, 0, 0, 0), some (.getfield 59, 9, 8, 0), none, none, some (.iload_n 3, 0, 0, 0), some (.invokevirtual 279, 43, 1, 4), none, none, some (.ifCond .ne 10, 44, 0, 0), none, none, some (.aload_n 0, 0, 0, 0), some (.iconst 5, 0, 0, 0), some (.invokevirtual 187, 158, 1, 9), none, none, some (.i2l, 0, 0, 0), some (.lreturn, 0, 0, 0), some (.aload_n 0, 0, 0, 0), some (.getfield 59, 9, 8, 0), none, none, some (.iload_n 2, 0, 0, 0), some (.iload_n 3, 0, 0, 0), some (.invokevirtual 288, 54, 2, 4), none, none, some (.lreturn, 0, 0, 0)]
def sm_H134 : List Nat := [0, 2095, 0, 2088, 0, 4070, 0, 0, 2095, 0, 4084, 0, 0, 2095, 0, 4097, 0, 0, 0, 3171, 0, 0, 0, 2095, 0, 0, 4138, 0]
def sm_I134 : sm_I := (yX9_regret, cX9_regret, 4, some .long, sm_T134)
def sm_T135 : sm_T := [some (.iload_n 2, 0, 0, 0), some (.invokestatic 292, 168, 1, 0), none, none, some (.ifCond .eq 18, 22, 0, 0), none, none, some (.aload_n 0, 0, 0, 0), some (.getfield 59, 9, 8, 0), none, none, some (.aload_n 0, 0, 0, 0), some (.getfield 18, 9, 1, 0), none, none, some (.iload_n 1, 0, 0, 0), some (.invokevirtual 271, 40, 2, 4), none, none, some (.ifCond .ne 10, 29, 0, 0), none, none, some (.aload_n 0, 0, 0, 0), some (.iconst 5, 0, 0, 0), some (.invokevirtual 187, 158, 1, 9), none, none, some (.i2l, 0, 0, 0), some (.lreturn, 0, 0, 0), some (.aload_n 0, 0, 0, 0), some (.getfield 59, 9, 8, 0), none, none, some (.iload_n 2, 0, 0, 0), some (.invokevirtual 295, 56, 1, 4), none, none, some (.lreturn, 0, 0, 0)]
def sm_H135 : List Nat := [0, 4150, 0, 0, 2095, 0, 2088, 0, 4070, 0, 0, 0, 3171, 0, 0, 0, 2095, 0, 4153, 0]
def sm_I135 : sm_I := (yX9_worth, cX9_worth, 3, some .long, sm_T135)
def sm_T136 : sm_T := [some (.aload_n 0, 0, 0, 0), some (.getfield 18, 9, 1, 0), none, none, some (.iload_n 1, 0, 0, 0), some (.invokevirtual 183, 93, 1, 7), none, none, some (.astore_n 3, 0, 0, 0), some (.aload_n 3, 0, 0, 0), some (.ifnull 10, 20, 0, 0), none, none, some (.iload_n 2, 0, 0, 0), some (.invokestatic 292, 168, 1, 0), none, none, some (.ifCond .ne 10, 27, 0, 0), none, none, some (.aload_n 0, 0, 0, 0), some (.iconst 5, 0, 0, 0), some (.invokevirtual 187, 158, 1, 9), none, none, some (.i2l, 0, 0, 0), some (.lreturn, 0, 0, 0), some (.aload_n 0, 0, 0, 0), some (.getfield 59, 9, 8, 0), none, none, some (.aload_n 3, 0, 0, 0), some (.aload_n 3, 0, 0, 0), some (.getfield 196, 8, 4, 0), none, none, some (.aload_n 3, 0, 0, 0), some (.getfield 193, 8, 3, 0), none, none, some (.invokevirtual 223, 35, 3, 4), none, none, some (.aload_n 0, 0, 0, 0), some (.getfield 59, 9, 8, 0), none, none, some (.iconst 0, 0, 0, 0), some (.invokevirtual 298, 39, 1, 4), none, none, some (.aload_n 0, 0, 0, 0), some (.getfield 59, 9, 8, 0), none, none, some (.invokevirtual 229, 41, 0, 4), none, none, some (.aload_n 0, 0, 0, 0), some (.getfield 59, 9, 8, 0), none, none, some (.iload_n 2, 0, 0, 0), some (.invokevirtual 295, 56, 1, 4), none, none, some (.lstore 4, 0, 0, 0), none, some (.aload_n 0, 0, 0, 0), some (.getfield 59, 9, 8, 0), none, none, some (.aload_n 3, 0, 0, 0), some (.invokevirtual 239, 103, 0, 8), none, none, some (.iconst 1, 0, 0, 0), some (.isub, 0, 0, 0), some (.invokevirtual 298, 39, 1, 4), none, none, some (.aload_n 0, 0, 0, 0), some (.getfield 59, 9, 8, 0), none, none, some (.invokevirtual 229, 41, 0, 4), none, none, some (.lload 4, 0, 0, 0), none, some (.aload_n 0, 0, 0, 0), some (.getfield 59, 9, 8, 0), none, none, some (.iload_n 2, 0, 0, 0), some (.invokevirtual 295, 56, 1, 4), none, none, some (.lsub, 0, 0, 0), some (.lreturn, 0, 0, 0)]
def sm_H136 : List Nat := [0, 2088, 0, 2233, 0, 0, 0, 0, 4150, 0, 0, 0, 3171, 0, 0, 0, 2095, 0, 0, 1075, 0, 1070, 3188, 0, 2095, 0, 4161, 0, 2095, 3205, 0, 2095, 0, 4153, 0, 0, 2095, 0, 4017, 0, 0, 4161, 0, 2095, 3205, 0, 0, 2095, 0, 4153, 0, 0]
def sm_I136 : sm_I := (yX9_beside, cX9_beside, 6, some .long, sm_T136)
def sm_T137 : sm_T := [some (.aload_n 0, 0, 0, 0), some (.getfield 18, 9, 1, 0), none, none, some (.iload_n 1, 0, 0, 0), some (.invokevirtual 183, 93, 1, 7), none, none, some (.astore_n 2, 0, 0, 0), some (.aload_n 2, 0, 0, 0), some (.ifnonnull 11, 21, 0, 0), none, none, some (.aload_n 0, 0, 0, 0), some (.iconst 1, 0, 0, 0), some (.invokevirtual 82, 157, 1, 9), none, none, some (.goto 11, 29, 0, 0), none, none, some (.aload_n 0, 0, 0, 0), some (.getfield 66, 9, 9, 0), none, none, some (.aload_n 2, 0, 0, 0), some (.invokevirtual 301, 69, 1, 5), none, none, some (.ireturn, 0, 0, 0)]
def sm_H137 : List Nat := [0, 2088, 0, 2233, 0, 0, 0, 0, 0, 2129, 0, 0, 2096, 0, 4169, 0]
def sm_I137 : sm_I := (yX9_runs, cX9_runs, 3, some .int, sm_T137)
def sm_T138 : sm_T := [some (.aload_n 0, 0, 0, 0), some (.getfield 18, 9, 1, 0), none, none, some (.iload_n 1, 0, 0, 0), some (.invokevirtual 183, 93, 1, 7), none, none, some (.astore_n 2, 0, 0, 0), some (.aload_n 2, 0, 0, 0), some (.ifnonnull 11, 21, 0, 0), none, none, some (.aload_n 0, 0, 0, 0), some (.iconst 1, 0, 0, 0), some (.invokevirtual 82, 157, 1, 9), none, none, some (.goto 19, 37, 0, 0), none, none, some (.aload_n 0, 0, 0, 0), some (.getfield 66, 9, 9, 0), none, none, some (.aload_n 2, 0, 0, 0), some (.aload_n 2, 0, 0, 0), some (.getfield 196, 8, 4, 0), none, none, some (.aload_n 2, 0, 0, 0), some (.getfield 193, 8, 3, 0), none, none, some (.invokevirtual 305, 70, 3, 5), none, none, some (.ireturn, 0, 0, 0)]
def sm_H138 : List Nat := [0, 2088, 0, 2233, 0, 0, 0, 0, 0, 2129, 0, 0, 2096, 0, 0, 1075, 0, 1070, 4187, 0]
def sm_I138 : sm_I := (yX9_finest, cX9_finest, 3, some .int, sm_T138)
def sm_T139 : sm_T := [some (.aload_n 0, 0, 0, 0), some (.getfield 18, 9, 1, 0), none, none, some (.iload_n 1, 0, 0, 0), some (.invokevirtual 183, 93, 1, 7), none, none, some (.astore_n 2, 0, 0, 0), some (.aload_n 2, 0, 0, 0), some (.ifnonnull 11, 21, 0, 0), none, none, some (.aload_n 0, 0, 0, 0), some (.iconst 1, 0, 0, 0), some (.invokevirtual 82, 157, 1, 9), none, none, some (.goto 19, 37, 0, 0), none, none, some (.aload_n 0, 0, 0, 0), some (.getfield 66, 9, 9, 0), none, none, some (.aload_n 2, 0, 0, 0), some (.aload_n 2, 0, 0, 0), some (.getfield 196, 8, 4, 0), none, none, some (.aload_n 2, 0, 0, 0), some (.getfield 193, 8, 3, 0), none, none, some (.invokevirtual 309, 71, 3, 5), none, none, some (.ireturn, 0, 0, 0)]
def sm_H139 : List Nat := [0, 2088, 0, 2233, 0, 0, 0, 0, 0, 2129, 0, 0, 2096, 0, 0, 1075, 0, 1070, 4196, 0]
def sm_I139 : sm_I := (yX9_bound, cX9_bound, 3, some .int, sm_T139)
def sm_T140 : sm_T := [some (.aload_n 0, 0, 0, 0), some (.getfield 18, 9, 1, 0), none, none, some (.iload_n 1, 0, 0, 0), some (.invokevirtual 183, 93, 1, 7), none, none, some (.astore_n 3, 0, 0, 0), some (.aload_n 3, 0, 0, 0), some (.ifnonnull 9, 19, 0, 0), none, none, some (.aload_n 0, 0, 0, 0), some (.iconst 1, 0, 0, 0), some (.invokevirtual 82, 157, 1, 9), none, none, some (.ireturn, 0, 0, 0), some (.iload_n 2, 0, 0, 0), some (.invokestatic 292, 168, 1, 0), none, none, some (.ifCond .eq 15, 38, 0, 0), none, none, some (.aload_n 0, 0, 0, 0), some (.getfield 66, 9, 9, 0), none, none, some (.aload_n 3, 0, 0, 0), some (.iload_n 2, 0, 0, 0), some (.invokevirtual 312, 72, 2, 5), none, none, some (.goto 9, 44, 0, 0), none, none, some (.aload_n 0, 0, 0, 0), some (.bipush 6, 0, 0, 0), none, some (.invokevirtual 82, 157, 1, 9), none, none, some (.ireturn, 0, 0, 0)]
def sm_H140 : List Nat := [0, 2088, 0, 2233, 0, 0, 0, 0, 0, 2129, 0, 0, 4150, 0, 0, 2096, 0, 0, 4205, 0, 0, 0, 2129, 0]
def sm_I140 : sm_I := (yX9_best, cX9_best, 4, some .int, sm_T140)
def sm_T141 : sm_T := [some (.aload_n 0, 0, 0, 0), some (.getfield 18, 9, 1, 0), none, none, some (.iload_n 1, 0, 0, 0), some (.invokevirtual 183, 93, 1, 7), none, none, some (.astore_n 2, 0, 0, 0), some (.aload_n 2, 0, 0, 0), some (.ifnonnull 9, 19, 0, 0), none, none, some (.aload_n 0, 0, 0, 0), some (.iconst 1, 0, 0, 0), some (.invokevirtual 82, 157, 1, 9), none, none, some (.ireturn, 0, 0, 0), some (.aload_n 2, 0, 0, 0), some (.getfield 190, 8, 2, 0), none, none, some (.bipush 6, 0, 0, 0), none, some (.if_icmp .le 12, 37, 0, 0), none, none, some (.aload_n 0, 0, 0, 0), some (.bipush 6, 0, 0, 0), none, some (.invokevirtual 82, 157, 1, 9), none, none, some (.goto 11, 45, 0, 0), none, none, some (.aload_n 0, 0, 0, 0), some (.getfield 66, 9, 9, 0), none, none, some (.aload_n 2, 0, 0, 0), some (.invokevirtual 315, 73, 1, 5), none, none, some (.ireturn, 0, 0, 0)]
def sm_H141 : List Nat := [0, 2088, 0, 2233, 0, 0, 0, 0, 0, 2129, 0, 0, 1066, 0, 0, 0, 0, 2129, 0, 0, 2096, 0, 4214, 0]
def sm_I141 : sm_I := (yX9_any, cX9_any, 3, some .int, sm_T141)
def sm_T142 : sm_T := [some (.aload_n 0, 0, 0, 0), some (.getfield 18, 9, 1, 0), none, none, some (.iload_n 1, 0, 0, 0), some (.invokevirtual 183, 93, 1, 7), none, none, some (.astore_n 3, 0, 0, 0), some (.aload_n 3, 0, 0, 0), some (.ifnonnull 9, 19, 0, 0), none, none, some (.aload_n 0, 0, 0, 0), some (.iconst 1, 0, 0, 0), some (.invokevirtual 318, 159, 1, 9), none, none, some (.ireturn, 0, 0, 0), some (.iload_n 2, 0, 0, 0), some (.invokestatic 321, 169, 1, 0), none, none, some (.ifCond .eq 15, 38, 0, 0), none, none, some (.aload_n 0, 0, 0, 0), some (.getfield 66, 9, 9, 0), none, none, some (.aload_n 3, 0, 0, 0), some (.iload_n 2, 0, 0, 0), some (.invokevirtual 324, 75, 2, 5), none, none, some (.goto 9, 44, 0, 0), none, none, some (.aload_n 0, 0, 0, 0), some (.bipush 6, 0, 0, 0), none, some (.invokevirtual 318, 159, 1, 9), none, none, some (.ireturn, 0, 0, 0)]
def sm_H142 : List Nat := [0, 2088, 0, 2233, 0, 0, 0, 0, 0, 4233, 0, 0, 4237, 0, 0, 2096, 0, 0, 5000, 0, 0, 0, 4233, 0]
def sm_I142 : sm_I := (yX9_edge, cX9_edge, 4, some .int, sm_T142)
def sm_T143 : sm_T := [some (.aload_n 0, 0, 0, 0), some (.getfield 18, 9, 1, 0), none, none, some (.iload_n 1, 0, 0, 0), some (.invokevirtual 183, 93, 1, 7), none, none, some (.astore_n 2, 0, 0, 0), some (.aload_n 2, 0, 0, 0), some (.ifnonnull 9, 19, 0, 0), none, none, some (.aload_n 0, 0, 0, 0), some (.iconst 1, 0, 0, 0), some (.invokevirtual 82, 157, 1, 9), none, none, some (.ireturn, 0, 0, 0), some (.aload_n 2, 0, 0, 0), some (.getfield 205, 8, 7, 0), none, none, some (.ifCond .eq 14, 37, 0, 0), none, none, some (.aload_n 0, 0, 0, 0), some (.getfield 66, 9, 9, 0), none, none, some (.aload_n 2, 0, 0, 0), some (.invokevirtual 327, 76, 1, 5), none, none, some (.goto 9, 43, 0, 0), none, none, some (.aload_n 0, 0, 0, 0), some (.bipush 6, 0, 0, 0), none, some (.invokevirtual 82, 157, 1, 9), none, none, some (.ireturn, 0, 0, 0)]
def sm_H143 : List Nat := [0, 2088, 0, 2233, 0, 0, 0, 0, 0, 2129, 0, 0, 1086, 0, 0, 2096, 0, 5022, 0, 0, 0, 2129, 0]
def sm_I143 : sm_I := (yX9_room, cX9_room, 3, some .int, sm_T143)
def sm_T144 : sm_T := [some (.aload_n 0, 0, 0, 0), some (.getfield 18, 9, 1, 0), none, none, some (.iload_n 1, 0, 0, 0), some (.invokevirtual 183, 93, 1, 7), none, none, some (.astore_n 2, 0, 0, 0), some (.aload_n 2, 0, 0, 0), some (.ifnonnull 9, 19, 0, 0), none, none, some (.aload_n 0, 0, 0, 0), some (.iconst 1, 0, 0, 0), some (.invokevirtual 82, 157, 1, 9), none, none, some (.ireturn, 0, 0, 0), some (.aload_n 2, 0, 0, 0), some (.getfield 205, 8, 7, 0), none, none, some (.ifCond .ne 10, 33, 0, 0), none, none, some (.aload_n 0, 0, 0, 0), some (.bipush 6, 0, 0, 0), none, some (.invokevirtual 82, 157, 1, 9), none, none, some (.ireturn, 0, 0, 0), some (.aload_n 0, 0, 0, 0), some (.getfield 66, 9, 9, 0), none, none, some (.aload_n 2, 0, 0, 0), some (.aload_n 2, 0, 0, 0), some (.getfield 208, 8, 8, 0), none, none, some (.aload_n 2, 0, 0, 0), some (.getfield 211, 8, 9, 0), none, none, some (.invokevirtual 309, 71, 3, 5), none, none, some (.istore_n 3, 0, 0, 0), some (.bipush 100, 0, 0, 0), none, some (.iload_n 3, 0, 0, 0), some (.imul, 0, 0, 0), some (.aload_n 0, 0, 0, 0), some (.getfield 66, 9, 9, 0), none, none, some (.aload_n 2, 0, 0, 0), some (.aload_n 2, 0, 0, 0), some (.getfield 196, 8, 4, 0), none, none, some (.aload_n 2, 0, 0, 0), some (.getfield 193, 8, 3, 0), none, none, some (.invokevirtual 309, 71, 3, 5), none, none, some (.iadd, 0, 0, 0), some (.ireturn, 0, 0, 0)]
def sm_H144 : List Nat := [0, 2088, 0, 2233, 0, 0, 0, 0, 0, 2129, 0, 0, 1086, 0, 0, 0, 2129, 0, 0, 2096, 0, 0, 1090, 0, 1094, 4196, 0, 0, 0, 0, 0, 2096, 0, 0, 1075, 0, 1070, 4196, 0, 0]
def sm_I144 : sm_I := (yX9_doors, cX9_doors, 4, some .int, sm_T144)
def sm_T145 : sm_T := [some (.aload_n 0, 0, 0, 0), some (.getfield 18, 9, 1, 0), none, none, some (.iload_n 1, 0, 0, 0), some (.invokevirtual 183, 93, 1, 7), none, none, some (.astore 4, 0, 0, 0), none, some (.aload 4, 0, 0, 0), none, some (.ifnonnull 9, 21, 0, 0), none, none, some (.aload_n 0, 0, 0, 0), some (.iconst 1, 0, 0, 0), some (.invokevirtual 318, 159, 1, 9), none, none, some (.ireturn, 0, 0, 0), some (.iload_n 2, 0, 0, 0), some (.invokestatic 321, 169, 1, 0), none, none, some (.ifCond .eq 12, 37, 0, 0), none, none, some (.iload_n 3, 0, 0, 0), some (.ifCond .lt 8, 37, 0, 0), none, none, some (.iload_n 3, 0, 0, 0), some (.iconst 1, 0, 0, 0), some (.if_icmp .le 10, 44, 0, 0), none, none, some (.aload_n 0, 0, 0, 0), some (.bipush 6, 0, 0, 0), none, some (.invokevirtual 318, 159, 1, 9), none, none, some (.ireturn, 0, 0, 0), some (.aload_n 0, 0, 0, 0), some (.getfield 66, 9, 9, 0), none, none, some (.aload 4, 0, 0, 0), none, some (.iload_n 2, 0, 0, 0), some (.invokevirtual 330, 78, 2, 5), none, none, some (.iload_n 3, 0, 0, 0), some (.ifCond .ne 13, 68, 0, 0), none, none, some (.aload_n 0, 0, 0, 0), some (.getfield 66, 9, 9, 0), none, none, some (.getfield 334, 5, 3, 0), none, none, some (.goto 10, 75, 0, 0), none, none, some (.aload_n 0, 0, 0, 0), some (.getfield 66, 9, 9, 0), none, none, some (.getfield 337, 5, 4, 0), none, none, some (.ireturn, 0, 0, 0)]
def sm_H145 : List Nat := [0, 2088, 0, 2233, 0, 0, 0, 0, 0, 4233, 0, 0, 4237, 0, 0, 0, 0, 0, 0, 0, 0, 4233, 0, 0, 2096, 0, 0, 5041, 0, 0, 0, 2096, 2022, 0, 0, 2096, 2024, 0]
def sm_I145 : sm_I := (yX9_middle, cX9_middle, 5, some .int, sm_T145)
def sm_T146 : sm_T := [some (.aload_n 0, 0, 0, 0), some (.getfield 18, 9, 1, 0), none, none, some (.iload_n 1, 0, 0, 0), some (.invokevirtual 183, 93, 1, 7), none, none, some (.astore 4, 0, 0, 0), none, some (.aload 4, 0, 0, 0), none, some (.ifnull 22, 34, 0, 0), none, none, some (.iload_n 2, 0, 0, 0), some (.invokestatic 268, 170, 1, 0), none, none, some (.ifCond .eq 15, 34, 0, 0), none, none, some (.iload_n 3, 0, 0, 0), some (.invokestatic 268, 170, 1, 0), none, none, some (.ifCond .eq 8, 34, 0, 0), none, none, some (.iload_n 2, 0, 0, 0), some (.iload_n 3, 0, 0, 0), some (.if_icmp .le 10, 41, 0, 0), none, none, some (.aload_n 0, 0, 0, 0), some (.iconst 5, 0, 0, 0), some (.invokevirtual 187, 158, 1, 9), none, none, some (.i2l, 0, 0, 0), some (.lreturn, 0, 0, 0), some (.aload 4, 0, 0, 0), none, some (.iload_n 2, 0, 0, 0), some (.iload_n 3, 0, 0, 0), some (.invokevirtual 340, 107, 2, 8), none, none, some (.lreturn, 0, 0, 0)]
def sm_H146 : List Nat := [0, 2088, 0, 2233, 0, 0, 0, 0, 4059, 0, 0, 4059, 0, 0, 0, 0, 0, 0, 3171, 0, 0, 0, 0, 0, 5051, 0]
def sm_I146 : sm_I := (yX9_ends, cX9_ends, 5, some .long, sm_T146)
def sm_T147 : sm_T := [some (.aload_n 0, 0, 0, 0), some (.getfield 18, 9, 1, 0), none, none, some (.iload_n 1, 0, 0, 0), some (.invokevirtual 183, 93, 1, 7), none, none, some (.astore_n 2, 0, 0, 0), some (.aload_n 2, 0, 0, 0), some (.ifnonnull 11, 21, 0, 0), none, none, some (.aload_n 0, 0, 0, 0), some (.iconst 1, 0, 0, 0), some (.invokevirtual 82, 157, 1, 9), none, none, some (.goto 7, 25, 0, 0), none, none, some (.aload_n 2, 0, 0, 0), some (.invokevirtual 343, 109, 0, 8), none, none, some (.ireturn, 0, 0, 0)]
def sm_H147 : List Nat := [0, 2088, 0, 2233, 0, 0, 0, 0, 0, 2129, 0, 0, 5062, 0]
def sm_I147 : sm_I := (yX9_bestEnds, cX9_bestEnds, 3, some .int, sm_T147)
def sm_T148 : sm_T := [some (.aload_n 0, 0, 0, 0), some (.getfield 18, 9, 1, 0), none, none, some (.iload_n 1, 0, 0, 0), some (.invokevirtual 183, 93, 1, 7), none, none, some (.astore_n 2, 0, 0, 0), some (.aload_n 2, 0, 0, 0), some (.ifnonnull 9, 19, 0, 0), none, none, some (.aload_n 0, 0, 0, 0), some (.iconst 1, 0, 0, 0), some (.invokevirtual 82, 157, 1, 9), none, none, some (.ireturn, 0, 0, 0), some (.aload_n 2, 0, 0, 0), some (.invokevirtual 343, 109, 0, 8), none, none, some (.istore_n 3, 0, 0, 0), some (.aload_n 0, 0, 0, 0), some (.getfield 66, 9, 9, 0), none, none, some (.aload_n 2, 0, 0, 0), some (.iconst 0, 0, 0, 0), some (.invokevirtual 312, 72, 2, 5), none, none, some (.pop, 0, 0, 0), some (.aload_n 2, 0, 0, 0), some (.iload_n 3, 0, 0, 0), some (.sipush 1000, 0, 0, 0), none, none, some (.idiv, 0, 0, 0), some (.iload_n 3, 0, 0, 0), some (.sipush 1000, 0, 0, 0), none, none, some (.irem, 0, 0, 0), some (.invokevirtual 340, 107, 2, 8), none, none, some (.aload_n 0, 0, 0, 0), some (.getfield 66, 9, 9, 0), none, none, some (.getfield 346, 5, 2, 0), none, none, some (.lcmp, 0, 0, 0), some (.ifCond .ge 7, 63, 0, 0), none, none, some (.iconst 1, 0, 0, 0), some (.goto 4, 64, 0, 0), none, none, some (.iconst 0, 0, 0, 0), some (.ireturn, 0, 0, 0)]
def sm_H148 : List Nat := [0, 2088, 0, 2233, 0, 0, 0, 0, 0, 2129, 0, 0, 5062, 0, 0, 2096, 0, 0, 4205, 0, 0, 0, 0, 0, 0, 0, 0, 5051, 0, 2096, 2020, 0, 0, 0, 0, 0, 0]
def sm_I148 : sm_I := (yX9_leave, cX9_leave, 4, some .int, sm_T148)
def sm_T149 : sm_T := [some (.aload_n 0, 0, 0, 0), some (.getfield 18, 9, 1, 0), none, none, some (.iload_n 1, 0, 0, 0), some (.invokevirtual 183, 93, 1, 7), none, none, some (.astore_n 3, 0, 0, 0), some (.aload_n 3, 0, 0, 0), some (.ifnonnull 9, 19, 0, 0), none, none, some (.aload_n 0, 0, 0, 0), some (.iconst 1, 0, 0, 0), some (.invokevirtual 318, 159, 1, 9), none, none, some (.ireturn, 0, 0, 0), some (.iload_n 2, 0, 0, 0), some (.invokestatic 235, 171, 1, 0), none, none, some (.ifCond .eq 11, 34, 0, 0), none, none, some (.aload_n 3, 0, 0, 0), some (.iload_n 2, 0, 0, 0), some (.invokevirtual 350, 110, 1, 8), none, none, some (.goto 9, 40, 0, 0), none, none, some (.aload_n 0, 0, 0, 0), some (.bipush 6, 0, 0, 0), none, some (.invokevirtual 318, 159, 1, 9), none, none, some (.ireturn, 0, 0, 0)]
def sm_H149 : List Nat := [0, 2088, 0, 2233, 0, 0, 0, 0, 0, 4233, 0, 0, 4006, 0, 0, 0, 5079, 0, 0, 0, 4233, 0]
def sm_I149 : sm_I := (yX9_agree, cX9_agree, 4, some .int, sm_T149)
def sm_T150 : sm_T := [some (.aload_n 0, 0, 0, 0), some (.invokevirtual 353, 165, 0, 9), none, none, some (.ireturn, 0, 0, 0)]
def sm_H150 : List Nat := [0, 5095, 0]
def sm_I150 : sm_I := (yX9_still, cX9_still, 1, some .int, sm_T150)
def sm_T151 : sm_T := [some (.iload_n 3, 0, 0, 0), some (.iconst 1, 0, 0, 0), some (.if_icmp .lt 25, 27, 0, 0), none, none, some (.iload_n 3, 0, 0, 0), some (.sipush 200, 0, 0, 0), none, none, some (.if_icmp .gt 18, 27, 0, 0), none, none, some (.aload_n 0, 0, 0, 0), some (.getfield 59, 9, 8, 0), none, none, some (.aload_n 0, 0, 0, 0), some (.getfield 18, 9, 1, 0), none, none, some (.iload_n 1, 0, 0, 0), some (.invokevirtual 271, 40, 2, 4), none, none, some (.ifCond .ne 10, 34, 0, 0), none, none, some (.aload_n 0, 0, 0, 0), some (.iconst 5, 0, 0, 0), some (.invokevirtual 187, 158, 1, 9), none, none, some (.i2l, 0, 0, 0), some (.lreturn, 0, 0, 0), some (.aload_n 0, 0, 0, 0), some (.getfield 59, 9, 8, 0), none, none, some (.iload_n 2, 0, 0, 0), some (.iload_n 3, 0, 0, 0), some (.invokevirtual 356, 63, 2, 4), none, none, some (.lreturn, 0, 0, 0)]
def sm_H151 : List Nat := [0, 0, 0, 0, 0, 0, 0, 2095, 0, 2088, 0, 4070, 0, 0, 0, 3171, 0, 0, 0, 2095, 0, 0, 5103, 0]
def sm_I151 : sm_I := (yX9_draw, cX9_draw, 4, some .long, sm_T151)
def sm_T152 : sm_T := [some (.aload_n 0, 0, 0, 0), some (.getfield 18, 9, 1, 0), none, none, some (.iload_n 1, 0, 0, 0), some (.invokevirtual 126, 94, 1, 7), none, none, some (.astore 4, 0, 0, 0), none, some (.aload 4, 0, 0, 0), none, some (.ifnull 12, 24, 0, 0), none, none, some (.iload_n 2, 0, 0, 0), some (.ifCond .lt 8, 24, 0, 0), none, none, some (.iload_n 2, 0, 0, 0), some (.iconst 2, 0, 0, 0), some (.if_icmp .le 12, 33, 0, 0), none, none, some (.aload_n 0, 0, 0, 0), some (.getfield 73, 9, 10, 0), none, none, some (.invokevirtual 359, 1, 0, 0), none, none, some (.iconst 0, 0, 0, 0), some (.ireturn, 0, 0, 0), some (.aload_n 0, 0, 0, 0), some (.getfield 73, 9, 10, 0), none, none, some (.aload 4, 0, 0, 0), none, some (.getfield 139, 3, 2, 0), none, none, some (.iload_n 1, 0, 0, 0), some (.aload 4, 0, 0, 0), none, some (.getfield 147, 3, 3, 0), none, none, some (.invokevirtual 362, 2, 3, 0), none, none, some (.iload_n 2, 0, 0, 0), some (.lookupswitch 46 #[(0, 28), (1, 37)], 0, 0, 0), none, none, none, none, none, none, none, none, none, none, none, none, none, none, none, none, none, none, none, none, none, none, none, none, none, none, none, some (.aload_n 0, 0, 0, 0), some (.getfield 73, 9, 10, 0), none, none, some (.iload_n 3, 0, 0, 0), some (.invokevirtual 363, 5, 1, 0), none, none, some (.ireturn, 0, 0, 0), some (.aload_n 0, 0, 0, 0), some (.getfield 73, 9, 10, 0), none, none, some (.iload_n 3, 0, 0, 0), some (.invokevirtual 366, 6, 1, 0), none, none, some (.ireturn, 0, 0, 0), some (.aload_n 0, 0, 0, 0), some (.getfield 73, 9, 10, 0), none, none, some (.iload_n 3, 0, 0, 0), some (.invokevirtual 369, 7, 1, 0), none, none, some (.ireturn, 0, 0, 0)]
def sm_H152 : List Nat := [0, 2088, 0, 2207, 0, 0, 0, 0, 0, 0, 0, 0, 0, 2097, 5129, 0, 0, 0, 2097, 0, 1132, 0, 0, 1135, 5133, 0, 0, 0, 2097, 0, 5138, 0, 0, 2097, 0, 5148, 0, 0, 2097, 0, 5153, 0]
def sm_I152 : sm_I := (yX9_act, cX9_act, 5, some .int, sm_T152)
def sm_T153 : sm_T := [some (.aload_n 0, 0, 0, 0), some (.getfield 73, 9, 10, 0), none, none, some (.iload_n 1, 0, 0, 0), some (.invokevirtual 372, 4, 1, 0), none, none, some (.ireturn, 0, 0, 0)]
def sm_H153 : List Nat := [0, 2097, 0, 5162, 0]
def sm_I153 : sm_I := (yX9_trace, cX9_trace, 2, some .int, sm_T153)
def sm_T154 : sm_T := [some (.aload_n 0, 0, 0, 0), some (.getfield 22, 9, 2, 0), none, none, some (.aload_n 0, 0, 0, 0), some (.getfield 18, 9, 1, 0), none, none, some (.invokevirtual 374, 97, 1, 7), none, none, some (.aload_n 0, 0, 0, 0), some (.iconst 1, 0, 0, 0), some (.putfield 25, 9, 3, 1), none, none, some (.aload_n 0, 0, 0, 0), some (.getfield 22, 9, 2, 0), none, none, some (.getfield 265, 7, 3, 0), none, none, some (.ireturn, 0, 0, 0)]
def sm_H154 : List Nat := [0, 2089, 0, 2088, 5171, 0, 0, 2090, 0, 2089, 1155, 0]
def sm_I154 : sm_I := (yX9_image, cX9_image, 1, some .int, sm_T154)
def sm_T155 : sm_T := [some (.aload_n 0, 0, 0, 0), some (.getfield 25, 9, 3, 0), none, none, some (.ifCond .ne 10, 14, 0, 0), none, none, some (.aload_n 0, 0, 0, 0), some (.bipush 6, 0, 0, 0), none, some (.invokevirtual 82, 157, 1, 9), none, none, some (.ireturn, 0, 0, 0), some (.aload_n 0, 0, 0, 0), some (.getfield 18, 9, 1, 0), none, none, some (.aload_n 0, 0, 0, 0), some (.getfield 22, 9, 2, 0), none, none, some (.invokevirtual 374, 97, 1, 7), none, none, some (.aload_n 0, 0, 0, 0), some (.getfield 11, 9, 0, 0), none, none, some (.astore_n 1, 0, 0, 0), some (.aload_n 1, 0, 0, 0), some (.arraylength, 0, 0, 0), some (.istore_n 2, 0, 0, 0), some (.iconst 0, 0, 0, 0), some (.istore_n 3, 0, 0, 0), some (.iload_n 3, 0, 0, 0), some (.iload_n 2, 0, 0, 0), some (.if_icmp .ge 42, 79, 0, 0), none, none, some (.aload_n 1, 0, 0, 0), some (.iload_n 3, 0, 0, 0), some (.aaload, 0, 0, 0), some (.astore 4, 0, 0, 0), none, some (.aload 4, 0, 0, 0), none, some (.invokevirtual 101, 81, 0, 6), none, none, some (.ifCond .eq 23, 73, 0, 0), none, none, some (.aload 4, 0, 0, 0), none, some (.getfield 133, 6, 4, 0), none, none, some (.aload_n 0, 0, 0, 0), some (.getfield 18, 9, 1, 0), none, none, some (.getfield 265, 7, 3, 0), none, none, some (.if_icmp .lt 8, 73, 0, 0), none, none, some (.aload 4, 0, 0, 0), none, some (.invokevirtual 123, 83, 0, 6), none, none, some (.iinc 3 1, 0, 0, 0), none, none, some (.goto (-41), 35, 0, 0), none, none, some (.aload_n 0, 0, 0, 0), some (.getfield 18, 9, 1, 0), none, none, some (.getfield 265, 7, 3, 0), none, none, some (.ireturn, 0, 0, 0)]
def sm_H155 : List Nat := [0, 2090, 0, 0, 0, 2129, 0, 0, 2088, 0, 2089, 5171, 0, 2087, 0, 0, 0, 0, 0, 0, 0, 0, 0, 0, 0, 0, 0, 0, 2157, 0, 0, 2074, 0, 2088, 1155, 0, 0, 2206, 0, 0, 0, 2088, 1155, 0]
def sm_I155 : sm_I := (yX9_restore, cX9_restore, 5, some .int, sm_T155)
def sm_T156 : sm_T := [some (.iload_n 1, 0, 0, 0), some (.bipush 10, 0, 0, 0), none, some (.if_icmp .le 21, 24, 0, 0), none, none, some (.iload_n 1, 0, 0, 0), some (.bipush 17, 0, 0, 0), none, some (.if_icmp .gt 15, 24, 0, 0), none, none, some (.aload_n 0, 0, 0, 0), some (.getfield 34, 9, 4, 0), none, none, some (.iload_n 1, 0, 0, 0), some (.bipush 10, 0, 0, 0), none, some (.isub, 0, 0, 0), some (.invokevirtual 156, 9, 1, 1), none, none, some (.ireturn, 0, 0, 0), some (.iload_n 1, 0, 0, 0), some (.tableswitch 63 0 3 #[31, 39, 47, 55], 0, 0, 0), none, none, none, none, none, none, none, none, none, none, none, none, none, none, none, none, none, none, none, none, none, none, none, none, none, none, none, none, none, none, some (.aload_n 0, 0, 0, 0), some (.getfield 18, 9, 1, 0), none, none, some (.getfield 180, 7, 2, 0), none, none, some (.ireturn, 0, 0, 0), some (.aload_n 0, 0, 0, 0), some (.getfield 18, 9, 1, 0), none, none, some (.getfield 265, 7, 3, 0), none, none, some (.ireturn, 0, 0, 0), some (.aload_n 0, 0, 0, 0), some (.invokevirtual 353, 165, 0, 9), none, none, some (.invokestatic 163, 282, 1, 0), none, none, some (.ireturn, 0, 0, 0), some (.aload_n 0, 0, 0, 0), some (.getfield 73, 9, 10, 0), none, none, some (.getfield 377, 0, 4, 0), none, none, some (.ireturn, 0, 0, 0), some (.iconst (-1), 0, 0, 0), some (.ireturn, 0, 0, 0)]
def sm_H156 : List Nat := [0, 0, 0, 0, 0, 0, 0, 2091, 0, 0, 0, 2133, 0, 0, 0, 0, 2088, 1153, 0, 0, 2088, 1155, 0, 0, 5095, 2237, 0, 0, 2097, 2049, 0, 0, 0]
def sm_I156 : sm_I := (yX9_status, cX9_status, 2, some .int, sm_T156)
def sm_T157 : sm_T := [some (.aload_n 0, 0, 0, 0), some (.getfield 34, 9, 4, 0), none, none, some (.iload_n 1, 0, 0, 0), some (.aload_n 0, 0, 0, 0), some (.getfield 34, 9, 4, 0), none, none, some (.iload_n 1, 0, 0, 0), some (.invokevirtual 156, 9, 1, 1), none, none, some (.iconst 1, 0, 0, 0), some (.iadd, 0, 0, 0), some (.invokevirtual 238, 10, 2, 1), none, none, some (.iload_n 1, 0, 0, 0), some (.ineg, 0, 0, 0), some (.ireturn, 0, 0, 0)]
def sm_H157 : List Nat := [0, 2091, 0, 0, 2091, 0, 2133, 0, 0, 2137, 0, 0, 0]
def sm_I157 : sm_I := (yX9_refuse, cX9_refuse, 2, some .int, sm_T157)
def sm_T158 : sm_T := [some (.aload_n 0, 0, 0, 0), some (.iload_n 1, 0, 0, 0), some (.invokevirtual 82, 157, 1, 9), none, none, some (.ldc_w 380, 2000000000, 0, 0), none, none, some (.isub, 0, 0, 0), some (.ireturn, 0, 0, 0)]
def sm_H158 : List Nat := [0, 0, 2129, 3175, 0, 0]
def sm_I158 : sm_I := (yX9_refuseFar, cX9_refuseFar, 2, some .int, sm_T158)
def sm_T159 : sm_T := [some (.aload_n 0, 0, 0, 0), some (.iload_n 1, 0, 0, 0), some (.invokevirtual 82, 157, 1, 9), none, none, some (.bipush 10, 0, 0, 0), none, some (.isub, 0, 0, 0), some (.ireturn, 0, 0, 0)]
def sm_H159 : List Nat := [0, 0, 2129, 0, 0, 0]
def sm_I159 : sm_I := (yX9_refuseTen, cX9_refuseTen, 2, some .int, sm_T159)
def sm_T160 : sm_T := [some (.iload_n 1, 0, 0, 0), some (.ifCond .lt 21, 22, 0, 0), none, none, some (.iload_n 1, 0, 0, 0), some (.aload_n 0, 0, 0, 0), some (.getfield 11, 9, 0, 0), none, none, some (.arraylength, 0, 0, 0), some (.if_icmp .ge 12, 22, 0, 0), none, none, some (.aload_n 0, 0, 0, 0), some (.getfield 11, 9, 0, 0), none, none, some (.iload_n 1, 0, 0, 0), some (.aaload, 0, 0, 0), some (.goto 4, 23, 0, 0), none, none, some (.aconst_null, 0, 0, 0), some (.areturn, 0, 0, 0)]
def sm_H160 : List Nat := [0, 0, 0, 0, 2087, 0, 0, 0, 2087, 0, 0, 0, 0, 0]
def sm_I160 : sm_I := (yX9_shelfAt, cX9_shelfAt, 2, some (.object "SaidForNothing$Shelf"), sm_T160)
def sm_T161 : sm_T := [some (.aload_n 0, 0, 0, 0), some (.iload_n 1, 0, 0, 0), some (.invokevirtual 78, 160, 1, 9), none, none, some (.astore_n 2, 0, 0, 0), some (.aload_n 2, 0, 0, 0), some (.ifnonnull 5, 12, 0, 0), none, none, some (.iconst 1, 0, 0, 0), some (.ireturn, 0, 0, 0), some (.aload_n 2, 0, 0, 0), some (.invokevirtual 101, 81, 0, 6), none, none, some (.ifCond .eq 5, 21, 0, 0), none, none, some (.iconst 2, 0, 0, 0), some (.ireturn, 0, 0, 0), some (.aload_n 2, 0, 0, 0), some (.invokevirtual 105, 80, 0, 6), none, none, some (.ifCond .eq 7, 32, 0, 0), none, none, some (.iconst 0, 0, 0, 0), some (.goto 4, 33, 0, 0), none, none, some (.iconst 3, 0, 0, 0), some (.ireturn, 0, 0, 0)]
def sm_H161 : List Nat := [0, 0, 2125, 0, 0, 0, 0, 0, 0, 2157, 0, 0, 0, 0, 2161, 0, 0, 0, 0, 0]
def sm_I161 : sm_I := (yX9_rowFlaw, cX9_rowFlaw, 3, some .int, sm_T161)
def sm_T162 : sm_T := [some (.aload_n 0, 0, 0, 0), some (.iload_n 2, 0, 0, 0), some (.invokevirtual 90, 161, 1, 9), none, none, some (.istore_n 3, 0, 0, 0), some (.aload_n 0, 0, 0, 0), some (.iload_n 2, 0, 0, 0), some (.invokevirtual 78, 160, 1, 9), none, none, some (.astore 4, 0, 0, 0), none, some (.iload_n 3, 0, 0, 0), some (.ifCond .ne 8, 22, 0, 0), none, none, some (.aload 4, 0, 0, 0), none, some (.ifnonnull 5, 24, 0, 0), none, none, some (.iload_n 3, 0, 0, 0), some (.ireturn, 0, 0, 0), some (.aload 4, 0, 0, 0), none, some (.getfield 381, 6, 3, 0), none, none, some (.aload_n 1, 0, 0, 0), some (.getfield 190, 8, 2, 0), none, none, some (.if_icmp .ge 5, 38, 0, 0), none, none, some (.iconst 5, 0, 0, 0), some (.ireturn, 0, 0, 0), some (.iconst 0, 0, 0, 0), some (.istore 5, 0, 0, 0), none, some (.iload 5, 0, 0, 0), none, some (.aload_n 1, 0, 0, 0), some (.getfield 190, 8, 2, 0), none, none, some (.if_icmp .ge 36, 83, 0, 0), none, none, some (.aload 4, 0, 0, 0), none, some (.iload 5, 0, 0, 0), none, some (.invokevirtual 384, 88, 1, 6), none, none, some (.ifCond .lt 17, 74, 0, 0), none, none, some (.aload 4, 0, 0, 0), none, some (.iload 5, 0, 0, 0), none, some (.invokevirtual 384, 88, 1, 6), none, none, some (.aload_n 1, 0, 0, 0), some (.getfield 199, 8, 5, 0), none, none, some (.if_icmp .lt 6, 77, 0, 0), none, none, some (.bipush 6, 0, 0, 0), none, some (.ireturn, 0, 0, 0), some (.iinc 5 1, 0, 0, 0), none, none, some (.goto (-39), 41, 0, 0), none, none, some (.iconst 0, 0, 0, 0), some (.ireturn, 0, 0, 0)]
def sm_H162 : List Nat := [0, 0, 2153, 0, 0, 0, 2125, 0, 0, 0, 0, 0, 0, 0, 0, 2072, 0, 1066, 0, 0, 0, 0, 0, 0, 0, 1066, 0, 0, 0, 4025, 0, 0, 0, 4025, 0, 1078, 0, 0, 0, 0, 0, 0, 0]
def sm_I162 : sm_I := (yX9_wordsFlaw, cX9_wordsFlaw, 6, some .int, sm_T162)
def sm_T163 : sm_T := [some (.iload_n 2, 0, 0, 0), some (.ifCond .lt 23, 24, 0, 0), none, none, some (.iload_n 2, 0, 0, 0), some (.aload_n 1, 0, 0, 0), some (.invokevirtual 239, 103, 0, 8), none, none, some (.if_icmp .ge 15, 24, 0, 0), none, none, some (.aload_n 1, 0, 0, 0), some (.iload_n 2, 0, 0, 0), some (.invokevirtual 387, 104, 1, 8), none, none, some (.ifCond .eq 7, 24, 0, 0), none, none, some (.iconst 1, 0, 0, 0), some (.goto 4, 25, 0, 0), none, none, some (.iconst 0, 0, 0, 0), some (.istore_n 3, 0, 0, 0), some (.iload_n 3, 0, 0, 0), some (.ifCond .eq 7, 34, 0, 0), none, none, some (.iconst 0, 0, 0, 0), some (.goto 5, 36, 0, 0), none, none, some (.bipush 6, 0, 0, 0), none, some (.ireturn, 0, 0, 0)]
def sm_H163 : List Nat := [0, 0, 0, 0, 4017, 0, 0, 0, 4030, 0, 0, 0, 0, 0, 0, 0, 0, 0, 0, 0]
def sm_I163 : sm_I := (yX9_cutsFlaw, cX9_cutsFlaw, 4, some .int, sm_T163)
def sm_T164 : sm_T := [some (.aload_n 0, 0, 0, 0), some (.getfield 18, 9, 1, 0), none, none, some (.aload_n 1, 0, 0, 0), some (.getfield 147, 3, 3, 0), none, none, some (.invokevirtual 183, 93, 1, 7), none, none, some (.astore_n 2, 0, 0, 0), some (.iconst 0, 0, 0, 0), some (.istore_n 3, 0, 0, 0), some (.iconst 0, 0, 0, 0), some (.istore 4, 0, 0, 0), none, some (.aload_n 2, 0, 0, 0), some (.ifnull 32, 50, 0, 0), none, none, some (.iload 4, 0, 0, 0), none, some (.aload_n 2, 0, 0, 0), some (.getfield 190, 8, 2, 0), none, none, some (.if_icmp .ge 23, 50, 0, 0), none, none, some (.iload_n 3, 0, 0, 0), some (.iconst 1, 0, 0, 0), some (.aload_n 1, 0, 0, 0), some (.getfield 390, 3, 0, 0), none, none, some (.iload 4, 0, 0, 0), none, some (.invokevirtual 156, 9, 1, 1), none, none, some (.ishl, 0, 0, 0), some (.ior, 0, 0, 0), some (.istore_n 3, 0, 0, 0), some (.iinc 4 1, 0, 0, 0), none, none, some (.goto (-30), 17, 0, 0), none, none, some (.iload_n 3, 0, 0, 0), some (.ireturn, 0, 0, 0)]
def sm_H164 : List Nat := [0, 2088, 0, 1135, 2233, 0, 0, 0, 0, 0, 0, 0, 0, 0, 1066, 0, 0, 0, 0, 1126, 0, 2133, 0, 0, 0, 0, 0, 0, 0]
def sm_I164 : sm_I := (yX9_usedBits, cX9_usedBits, 5, some .int, sm_T164)
def sm_T165 : sm_T := [some (.iconst 0, 0, 0, 0), some (.istore_n 1, 0, 0, 0), some (.iconst 0, 0, 0, 0), some (.istore_n 2, 0, 0, 0), some (.iload_n 2, 0, 0, 0), some (.aload_n 0, 0, 0, 0), some (.getfield 18, 9, 1, 0), none, none, some (.getfield 265, 7, 3, 0), none, none, some (.if_icmp .ge 41, 53, 0, 0), none, none, some (.aload_n 0, 0, 0, 0), some (.getfield 59, 9, 8, 0), none, none, some (.aload_n 0, 0, 0, 0), some (.getfield 18, 9, 1, 0), none, none, some (.iload_n 2, 0, 0, 0), some (.invokevirtual 271, 40, 2, 4), none, none, some (.ifCond .eq 20, 47, 0, 0), none, none, some (.aload_n 0, 0, 0, 0), some (.getfield 59, 9, 8, 0), none, none, some (.invokevirtual 285, 58, 0, 4), none, none, some (.iconst (-1), 0, 0, 0), some (.if_icmp .ne 9, 47, 0, 0), none, none, some (.iload_n 1, 0, 0, 0), some (.iconst 1, 0, 0, 0), some (.iload_n 2, 0, 0, 0), some (.ishl, 0, 0, 0), some (.ior, 0, 0, 0), some (.istore_n 1, 0, 0, 0), some (.iinc 2 1, 0, 0, 0), none, none, some (.goto (-46), 4, 0, 0), none, none, some (.iload_n 1, 0, 0, 0), some (.ireturn, 0, 0, 0)]
def sm_H165 : List Nat := [0, 0, 0, 0, 0, 0, 2088, 1155, 0, 0, 2095, 0, 2088, 0, 4070, 0, 0, 2095, 4110, 0, 0, 0, 0, 0, 0, 0, 0, 0, 0, 0, 0]
def sm_I165 : sm_I := (yX9_holdingBits, cX9_holdingBits, 3, some .int, sm_T165)
def sm_T166 : sm_T := [some (.iload_n 0, 0, 0, 0), some (.ifCond .lt 12, 13, 0, 0), none, none, some (.iload_n 0, 0, 0, 0), some (.iconst 5, 0, 0, 0), some (.if_icmp .gt 7, 13, 0, 0), none, none, some (.iconst 1, 0, 0, 0), some (.goto 4, 14, 0, 0), none, none, some (.iconst 0, 0, 0, 0), some (.ireturn, 0, 0, 0)]
def sm_H166 : List Nat := [0, 0, 0, 0, 0, 0, 0, 0, 0]
def sm_I166 : sm_I := (yX9_isKind, cX9_isKind, 1, some .boolean, sm_T166)
def sm_T167 : sm_T := [some (.iload_n 0, 0, 0, 0), some (.iconst 1, 0, 0, 0), some (.if_icmp .eq 13, 15, 0, 0), none, none, some (.iload_n 0, 0, 0, 0), some (.iconst 3, 0, 0, 0), some (.if_icmp .eq 8, 15, 0, 0), none, none, some (.iload_n 0, 0, 0, 0), some (.iconst 4, 0, 0, 0), some (.if_icmp .ne 7, 19, 0, 0), none, none, some (.iconst 1, 0, 0, 0), some (.goto 4, 20, 0, 0), none, none, some (.iconst 0, 0, 0, 0), some (.istore_n 2, 0, 0, 0), some (.iload_n 1, 0, 0, 0), some (.ifCond .eq 17, 39, 0, 0), none, none, some (.iload_n 1, 0, 0, 0), some (.iload_n 0, 0, 0, 0), some (.if_icmp .eq 12, 39, 0, 0), none, none, some (.iload_n 1, 0, 0, 0), some (.iconst 1, 0, 0, 0), some (.if_icmp .ne 11, 43, 0, 0), none, none, some (.iload_n 2, 0, 0, 0), some (.ifCond .eq 7, 43, 0, 0), none, none, some (.iconst 1, 0, 0, 0), some (.goto 4, 44, 0, 0), none, none, some (.iconst 0, 0, 0, 0), some (.ireturn, 0, 0, 0)]
def sm_H167 : List Nat := [0, 0, 0, 0, 0, 0, 0, 0, 0, 0, 0, 0, 0, 0, 0, 0, 0, 0, 0, 0, 0, 0, 0, 0, 0, 0, 0]
def sm_I167 : sm_I := (yX9_isUnder, cX9_isUnder, 3, some .boolean, sm_T167)
def sm_T168 : sm_T := [some (.iload_n 0, 0, 0, 0), some (.ifCond .eq 8, 9, 0, 0), none, none, some (.iload_n 0, 0, 0, 0), some (.iconst 1, 0, 0, 0), some (.if_icmp .ne 7, 13, 0, 0), none, none, some (.iconst 1, 0, 0, 0), some (.goto 4, 14, 0, 0), none, none, some (.iconst 0, 0, 0, 0), some (.ireturn, 0, 0, 0)]
def sm_H168 : List Nat := [0, 0, 0, 0, 0, 0, 0, 0, 0]
def sm_I168 : sm_I := (yX9_isSide, cX9_isSide, 1, some .boolean, sm_T168)
def sm_T169 : sm_T := [some (.iload_n 0, 0, 0, 0), some (.iconst 1, 0, 0, 0), some (.if_icmp .lt 13, 15, 0, 0), none, none, some (.iload_n 0, 0, 0, 0), some (.bipush 12, 0, 0, 0), none, some (.if_icmp .gt 7, 15, 0, 0), none, none, some (.iconst 1, 0, 0, 0), some (.goto 4, 16, 0, 0), none, none, some (.iconst 0, 0, 0, 0), some (.ireturn, 0, 0, 0)]
def sm_H169 : List Nat := [0, 0, 0, 0, 0, 0, 0, 0, 0, 0]
def sm_I169 : sm_I := (yX9_isCount, cX9_isCount, 1, some .boolean, sm_T169)
def sm_T170 : sm_T := [some (.iload_n 0, 0, 0, 0), some (.ifCond .lt 14, 15, 0, 0), none, none, some (.iload_n 0, 0, 0, 0), some (.sipush 999, 0, 0, 0), none, none, some (.if_icmp .gt 7, 15, 0, 0), none, none, some (.iconst 1, 0, 0, 0), some (.goto 4, 16, 0, 0), none, none, some (.iconst 0, 0, 0, 0), some (.ireturn, 0, 0, 0)]
def sm_H170 : List Nat := [0, 0, 0, 0, 0, 0, 0, 0, 0]
def sm_I170 : sm_I := (yX9_isAct, cX9_isAct, 1, some .boolean, sm_T170)
def sm_T171 : sm_T := [some (.iload_n 0, 0, 0, 0), some (.sipush (-500), 0, 0, 0), none, none, some (.if_icmp .lt 14, 18, 0, 0), none, none, some (.iload_n 0, 0, 0, 0), some (.sipush 500, 0, 0, 0), none, none, some (.if_icmp .gt 7, 18, 0, 0), none, none, some (.iconst 1, 0, 0, 0), some (.goto 4, 19, 0, 0), none, none, some (.iconst 0, 0, 0, 0), some (.ireturn, 0, 0, 0)]
def sm_H171 : List Nat := [0, 0, 0, 0, 0, 0, 0, 0, 0, 0]
def sm_I171 : sm_I := (yX9_isShift, cX9_isShift, 1, some .boolean, sm_T171)
def sm_T172 : sm_T := [some (.lload_n 0, 0, 0, 0), some (.iload_n 2, 0, 0, 0), some (.i2l, 0, 0, 0), some (.lcmp, 0, 0, 0), some (.ifCond .ge 7, 11, 0, 0), none, none, some (.iload_n 2, 0, 0, 0), some (.goto 16, 24, 0, 0), none, none, some (.lload_n 0, 0, 0, 0), some (.iload_n 3, 0, 0, 0), some (.i2l, 0, 0, 0), some (.lcmp, 0, 0, 0), some (.ifCond .le 7, 22, 0, 0), none, none, some (.iload_n 3, 0, 0, 0), some (.goto 5, 24, 0, 0), none, none, some (.lload_n 0, 0, 0, 0), some (.l2i, 0, 0, 0), some (.ireturn, 0, 0, 0)]
def sm_H172 : List Nat := [0, 0, 0, 0, 0, 0, 0, 0, 0, 0, 0, 0, 0, 0, 0, 0, 0]
def sm_I172 : sm_I := (yX9_within, cX9_within, 4, some .int, sm_T172)
def sm_T173 : sm_T := [some (.aload_n 0, 0, 0, 0), some (.invokespecial 1, 999, 0, 0), none, none, some (.aload_n 0, 0, 0, 0), some (.iconst (-1), 0, 0, 0), some (.putfield 9, 10, 2, 0), none, none, some (.aload_n 0, 0, 0, 0), some (.bipush 8, 0, 0, 0), none, some (.newarray .int, 0, 0, 0), none, some (.putfield 13, 10, 3, 13), none, none, some (.aload_n 0, 0, 0, 0), some (.bipush 8, 0, 0, 0), none, some (.newarray .int, 0, 0, 0), none, some (.putfield 17, 10, 4, 13), none, none, some (.aload_n 0, 0, 0, 0), some (.bipush 8, 0, 0, 0), none, some (.newarray .int, 0, 0, 0), none, some (.putfield 20, 10, 5, 13), none, none, some (.aload_n 0, 0, 0, 0), some (.bipush 8, 0, 0, 0), none, some (.newarray .int, 0, 0, 0), none, some (.putfield 23, 10, 6, 13), none, none, some (.aload_n 0, 0, 0, 0), some (.bipush 8, 0, 0, 0), none, some (.newarray .int, 0, 0, 0), none, some (.putfield 26, 10, 7, 13), none, none, some (.aload_n 0, 0, 0, 0), some (.sipush 512, 0, 0, 0), none, none, some (.newarray .long, 1, 0, 0), none, some (.putfield 29, 10, 8, 13), none, none, some (.aload_n 0, 0, 0, 0), some (.bipush 64, 0, 0, 0), none, some (.newarray .long, 1, 0, 0), none, some (.putfield 33, 10, 9, 13), none, none, some (.aload_n 0, 0, 0, 0), some (.bipush 8, 0, 0, 0), none, some (.newarray .int, 0, 0, 0), none, some (.putfield 36, 10, 10, 13), none, none, some (.aload_n 0, 0, 0, 0), some (.bipush 8, 0, 0, 0), none, some (.newarray .int, 0, 0, 0), none, some (.putfield 39, 10, 11, 13), none, none, some (.aload_n 0, 0, 0, 0), some (.bipush 8, 0, 0, 0), none, some (.newarray .int, 0, 0, 0), none, some (.putfield 42, 10, 12, 13), none, none, some (.aload_n 0, 0, 0, 0), some (.bipush 8, 0, 0, 0), none, some (.newarray .int, 0, 0, 0), none, some (.putfield 45, 10, 13, 13), none, none, some (.aload_n 0, 0, 0, 0), some (.bipush 8, 0, 0, 0), none, some (.newarray .int, 0, 0, 0), none, some (.putfield 48, 10, 14, 13), none, none, some (.aload_n 0, 0, 0, 0), some (.bipush 8, 0, 0, 0), none, some (.newarray .int, 0, 0, 0), none, some (.putfield 51, 10, 15, 13), none, none, some (.aload_n 0, 0, 0, 0), some (.bipush 8, 0, 0, 0), none, some (.newarray .int, 0, 0, 0), none, some (.putfield 54, 10, 16, 13), none, none, some (.aload_n 0, 0, 0, 0), some (.bipush 8, 0, 0, 0), none, some (.newarray .int, 0, 0, 0), none, some (.putfield 57, 10, 17, 13), none, none, some (.aload_n 0, 0, 0, 0), some (.bipush 96, 0, 0, 0), none, some (.newarray .int, 0, 0, 0), none, some (.putfield 60, 10, 18, 13), none, none, some (.aload_n 0, 0, 0, 0), some (.bipush 96, 0, 0, 0), none, some (.newarray .int, 0, 0, 0), none, some (.putfield 63, 10, 19, 13), none, none, some (.aload_n 0, 0, 0, 0), some (.bipush 12, 0, 0, 0), none, some (.newarray .int, 0, 0, 0), none, some (.putfield 66, 10, 20, 13), none, none, some (.aload_n 0, 0, 0, 0), some (.bipush 12, 0, 0, 0), none, some (.newarray .int, 0, 0, 0), none, some (.putfield 69, 10, 21, 13), none, none, some (.aload_n 0, 0, 0, 0), some (.bipush 12, 0, 0, 0), none, some (.newarray .int, 0, 0, 0), none, some (.putfield 72, 10, 22, 13), none, none, some (.aload_n 0, 0, 0, 0), some (.sipush 144, 0, 0, 0), none, none, some (.newarray .int, 0, 0, 0), none, some (.putfield 75, 10, 23, 13), none, none, some (.aload_n 0, 0, 0, 0), some (.sipush 144, 0, 0, 0), none, none, some (.newarray .int, 0, 0, 0), none, some (.putfield 78, 10, 24, 13), none, none, some (.aload_n 0, 0, 0, 0), some (.bipush 12, 0, 0, 0), none, some (.newarray .int, 0, 0, 0), none, some (.putfield 81, 10, 39, 13), none, none, some (.aload_n 0, 0, 0, 0), some (.bipush 12, 0, 0, 0), none, some (.newarray .int, 0, 0, 0), none, some (.putfield 84, 10, 40, 13), none, none, some (.aload_n 0, 0, 0, 0), some (.bipush 12, 0, 0, 0), none, some (.newarray .long, 1, 0, 0), none, some (.putfield 87, 10, 41, 13), none, none, some (.aload_n 0, 0, 0, 0), some (.bipush 12, 0, 0, 0), none, some (.newarray .int, 0, 0, 0), none, some (.putfield 90, 10, 42, 13), none, none, some (.aload_n 0, 0, 0, 0), some (.bipush 12, 0, 0, 0), none, some (.newarray .int, 0, 0, 0), none, some (.putfield 93, 10, 45, 13), none, none, some (.aload_n 0, 0, 0, 0), some (.bipush 12, 0, 0, 0), none, some (.newarray .int, 0, 0, 0), none, some (.putfield 96, 10, 46, 13), none, none, some (.aload_n 0, 0, 0, 0), some (.bipush 12, 0, 0, 0), none, some (.newarray .int, 0, 0, 0), none, some (.putfield 99, 10, 47, 13), none, none, some (.aload_n 0, 0, 0, 0), some (.bipush 7, 0, 0, 0), none, some (.newarray .int, 0, 0, 0), none, some (.putfield 102, 10, 49, 13), none, none, some (.aload_n 0, 0, 0, 0), some (.bipush 12, 0, 0, 0), none, some (.newarray .long, 1, 0, 0), none, some (.putfield 105, 10, 50, 13), none, none, some (.aload_n 0, 0, 0, 0), some (.bipush 20, 0, 0, 0), none, some (.newarray .int, 0, 0, 0), none, some (.putfield 108, 10, 52, 13), none, none, some (.aload_n 0, 0, 0, 0), some (.iconst (-1), 0, 0, 0), some (.putfield 111, 10, 54, 0), none, none, some (.aload_n 0, 0, 0, 0), some (.sipush 724, 0, 0, 0), none, none, some (.newarray .int, 0, 0, 0), none, some (.putfield 114, 10, 56, 13), none, none, some (.return_, 0, 0, 0)]
def sm_H173 : List Nat := [0, 5194, 0, 0, 5197, 0, 0, 1054, 5198, 0, 0, 1054, 5199, 0, 0, 1054, 5200, 0, 0, 1054, 5201, 0, 0, 1054, 5202, 0, 0, 2086, 5203, 0, 0, 2086, 5204, 0, 0, 1054, 5205, 0, 0, 1054, 5206, 0, 0, 1054, 5207, 0, 0, 1054, 5208, 0, 0, 1054, 5209, 0, 0, 1054, 5210, 0, 0, 1054, 5211, 0, 0, 1054, 5212, 0, 0, 1054, 5213, 0, 0, 1054, 5214, 0, 0, 1054, 5215, 0, 0, 1054, 5216, 0, 0, 1054, 5217, 0, 0, 1054, 5218, 0, 0, 1054, 5219, 0, 0, 1054, 5234, 0, 0, 1054, 5235, 0, 0, 2086, 5236, 0, 0, 1054, 5237, 0, 0, 1054, 6000, 0, 0, 1054, 6001, 0, 0, 1054, 6002, 0, 0, 1054, 6004, 0, 0, 2086, 6005, 0, 0, 1054, 6007, 0, 0, 6009, 0, 0, 1054, 6011, 0]
def sm_I173 : sm_I := (yX10_init, cX10_init, 1, none, sm_T173)
def sm_T174 : sm_T := [some (.aload_n 0, 0, 0, 0), some (.getfield 13, 10, 3, 0), none, none, some (.iload_n 1, 0, 0, 0), some (.ineg, 0, 0, 0), some (.dup2, 0, 0, 0), some (.iaload, 0, 0, 0), some (.iconst 1, 0, 0, 0), some (.iadd, 0, 0, 0), some (.iastore, 0, 0, 0), some (.iload_n 1, 0, 0, 0), some (.ireturn, 0, 0, 0)]
def sm_H174 : List Nat := [0, 5198, 0, 0, 0, 0, 0, 0, 0, 0, 0]
def sm_I174 : sm_I := (yX10_no, cX10_no, 2, some .int, sm_T174)
def sm_T175 : sm_T := [some (.aload_n 0, 0, 0, 0), some (.getfield 13, 10, 3, 0), none, none, some (.iload_n 1, 0, 0, 0), some (.ineg, 0, 0, 0), some (.dup2, 0, 0, 0), some (.iaload, 0, 0, 0), some (.iconst 1, 0, 0, 0), some (.iadd, 0, 0, 0), some (.iastore, 0, 0, 0), some (.ldc 117, 2294967296, 0, 0), none, some (.iload_n 1, 0, 0, 0), some (.iadd, 0, 0, 0), some (.ireturn, 0, 0, 0)]
def sm_H175 : List Nat := [0, 5198, 0, 0, 0, 0, 0, 0, 0, 7023, 0, 0, 0]
def sm_I175 : sm_I := (yX10_noLow, cX10_noLow, 2, some .int, sm_T175)
def sm_T176 : sm_T := [some (.aload_n 0, 0, 0, 0), some (.getfield 13, 10, 3, 0), none, none, some (.iload_n 1, 0, 0, 0), some (.ineg, 0, 0, 0), some (.dup2, 0, 0, 0), some (.iaload, 0, 0, 0), some (.iconst 1, 0, 0, 0), some (.iadd, 0, 0, 0), some (.iastore, 0, 0, 0), some (.iload_n 1, 0, 0, 0), some (.bipush 10, 0, 0, 0), none, some (.isub, 0, 0, 0), some (.ireturn, 0, 0, 0)]
def sm_H176 : List Nat := [0, 5198, 0, 0, 0, 0, 0, 0, 0, 0, 0, 0, 0]
def sm_I176 : sm_I := (yX10_noTen, cX10_noTen, 2, some .int, sm_T176)
def sm_T177 : sm_T := [some (.iload_n 1, 0, 0, 0), some (.ifCond .lt 13, 14, 0, 0), none, none, some (.iload_n 1, 0, 0, 0), some (.bipush 8, 0, 0, 0), none, some (.if_icmp .ge 7, 14, 0, 0), none, none, some (.iconst 1, 0, 0, 0), some (.goto 4, 15, 0, 0), none, none, some (.iconst 0, 0, 0, 0), some (.ireturn, 0, 0, 0)]
def sm_H177 : List Nat := [0, 0, 0, 0, 0, 0, 0, 0, 0]
def sm_I177 : sm_I := (yX10_isShelf, cX10_isShelf, 2, some .boolean, sm_T177)
def sm_T178 : sm_T := [some (.iload_n 1, 0, 0, 0), some (.ifCond .lt 15, 16, 0, 0), none, none, some (.iload_n 1, 0, 0, 0), some (.aload_n 0, 0, 0, 0), some (.getfield 118, 10, 0, 0), none, none, some (.if_icmp .ge 7, 16, 0, 0), none, none, some (.iconst 1, 0, 0, 0), some (.goto 4, 17, 0, 0), none, none, some (.iconst 0, 0, 0, 0), some (.ireturn, 0, 0, 0)]
def sm_H178 : List Nat := [0, 0, 0, 0, 5195, 0, 0, 0, 0, 0]
def sm_I178 : sm_I := (yX10_isTalk, cX10_isTalk, 2, some .boolean, sm_T178)
def sm_T179 : sm_T := [some (.aload_n 0, 0, 0, 0), some (.iload_n 1, 0, 0, 0), some (.invokevirtual 121, 178, 1, 10), none, none, some (.ifCond .eq 21, 26, 0, 0), none, none, some (.iload_n 2, 0, 0, 0), some (.ifCond .lt 17, 26, 0, 0), none, none, some (.iload_n 2, 0, 0, 0), some (.aload_n 0, 0, 0, 0), some (.getfield 36, 10, 10, 0), none, none, some (.iload_n 1, 0, 0, 0), some (.iaload, 0, 0, 0), some (.if_icmp .ge 7, 26, 0, 0), none, none, some (.iconst 1, 0, 0, 0), some (.goto 4, 27, 0, 0), none, none, some (.iconst 0, 0, 0, 0), some (.ireturn, 0, 0, 0)]
def sm_H179 : List Nat := [0, 0, 7015, 0, 0, 0, 0, 0, 5205, 0, 0, 0, 0, 0, 0, 0]
def sm_I179 : sm_I := (yX10_isTruth, cX10_isTruth, 3, some .boolean, sm_T179)
def sm_T180 : sm_T := [some (.iload_n 1, 0, 0, 0), some (.ifCond .lt 15, 16, 0, 0), none, none, some (.iload_n 1, 0, 0, 0), some (.aload_n 0, 0, 0, 0), some (.getfield 125, 10, 1, 0), none, none, some (.if_icmp .ge 7, 16, 0, 0), none, none, some (.iconst 1, 0, 0, 0), some (.goto 4, 17, 0, 0), none, none, some (.iconst 0, 0, 0, 0), some (.ireturn, 0, 0, 0)]
def sm_H180 : List Nat := [0, 0, 0, 0, 5196, 0, 0, 0, 0, 0]
def sm_I180 : sm_I := (yX10_isMeaning, cX10_isMeaning, 2, some .boolean, sm_T180)
def sm_T181 : sm_T := [some (.aload_n 0, 0, 0, 0), some (.iload_n 1, 0, 0, 0), some (.invokevirtual 128, 177, 1, 10), none, none, some (.ifCond .ne 9, 14, 0, 0), none, none, some (.aload_n 0, 0, 0, 0), some (.iconst (-1), 0, 0, 0), some (.invokevirtual 131, 174, 1, 10), none, none, some (.ireturn, 0, 0, 0), some (.iload_n 3, 0, 0, 0), some (.ifCond .ge 10, 25, 0, 0), none, none, some (.aload_n 0, 0, 0, 0), some (.bipush (-4), 0, 0, 0), none, some (.invokevirtual 131, 174, 1, 10), none, none, some (.ireturn, 0, 0, 0), some (.iload_n 2, 0, 0, 0), some (.ifCond .lt 8, 34, 0, 0), none, none, some (.iload_n 2, 0, 0, 0), some (.iconst 3, 0, 0, 0), some (.if_icmp .le 10, 41, 0, 0), none, none, some (.aload_n 0, 0, 0, 0), some (.bipush (-6), 0, 0, 0), none, some (.invokevirtual 131, 174, 1, 10), none, none, some (.ireturn, 0, 0, 0), some (.iload_n 3, 0, 0, 0), some (.bipush 64, 0, 0, 0), none, some (.if_icmp .le 10, 54, 0, 0), none, none, some (.aload_n 0, 0, 0, 0), some (.bipush (-7), 0, 0, 0), none, some (.invokevirtual 131, 174, 1, 10), none, none, some (.ireturn, 0, 0, 0), some (.aload_n 0, 0, 0, 0), some (.getfield 17, 10, 4, 0), none, none, some (.iload_n 1, 0, 0, 0), some (.iconst 1, 0, 0, 0), some (.iastore, 0, 0, 0), some (.aload_n 0, 0, 0, 0), some (.getfield 20, 10, 5, 0), none, none, some (.iload_n 1, 0, 0, 0), some (.iload_n 2, 0, 0, 0), some (.iastore, 0, 0, 0), some (.aload_n 0, 0, 0, 0), some (.getfield 23, 10, 6, 0), none, none, some (.iload_n 1, 0, 0, 0), some (.iload_n 3, 0, 0, 0), some (.iastore, 0, 0, 0), some (.iconst 0, 0, 0, 0), some (.istore 4, 0, 0, 0), none, some (.iload 4, 0, 0, 0), none, some (.bipush 64, 0, 0, 0), none, some (.if_icmp .ge 22, 104, 0, 0), none, none, some (.aload_n 0, 0, 0, 0), some (.getfield 29, 10, 8, 0), none, none, some (.bipush 64, 0, 0, 0), none, some (.iload_n 1, 0, 0, 0), some (.imul, 0, 0, 0), some (.iload 4, 0, 0, 0), none, some (.iadd, 0, 0, 0), some (.lconst 0, 0, 0, 0), some (.lastore, 0, 0, 0), some (.iinc 4 1, 0, 0, 0), none, none, some (.goto (-23), 78, 0, 0), none, none, some (.iconst 1, 0, 0, 0), some (.ireturn, 0, 0, 0)]
def sm_H181 : List Nat := [0, 0, 6131, 0, 0, 0, 6135, 0, 0, 0, 0, 0, 6135, 0, 0, 0, 0, 0, 0, 0, 0, 6135, 0, 0, 0, 0, 0, 0, 6135, 0, 0, 5199, 0, 0, 0, 0, 5200, 0, 0, 0, 0, 5201, 0, 0, 0, 0, 0, 0, 0, 0, 0, 5203, 0, 0, 0, 0, 0, 0, 0, 0, 0, 0, 0]
def sm_I181 : sm_I := (yX10_row, cX10_row, 5, some .int, sm_T181)
def sm_T182 : sm_T := [some (.aload_n 0, 0, 0, 0), some (.iload_n 1, 0, 0, 0), some (.invokevirtual 128, 177, 1, 10), none, none, some (.ifCond .ne 9, 14, 0, 0), none, none, some (.aload_n 0, 0, 0, 0), some (.iconst (-1), 0, 0, 0), some (.invokevirtual 131, 174, 1, 10), none, none, some (.ireturn, 0, 0, 0), some (.aload_n 0, 0, 0, 0), some (.getfield 17, 10, 4, 0), none, none, some (.iload_n 1, 0, 0, 0), some (.iaload, 0, 0, 0), some (.iconst 2, 0, 0, 0), some (.if_icmp .ne 10, 31, 0, 0), none, none, some (.aload_n 0, 0, 0, 0), some (.bipush (-2), 0, 0, 0), none, some (.invokevirtual 131, 174, 1, 10), none, none, some (.ireturn, 0, 0, 0), some (.aload_n 0, 0, 0, 0), some (.getfield 17, 10, 4, 0), none, none, some (.iload_n 1, 0, 0, 0), some (.iaload, 0, 0, 0), some (.ifCond .ne 10, 47, 0, 0), none, none, some (.aload_n 0, 0, 0, 0), some (.bipush (-3), 0, 0, 0), none, some (.invokevirtual 131, 174, 1, 10), none, none, some (.ireturn, 0, 0, 0), some (.iload_n 2, 0, 0, 0), some (.ifCond .lt 13, 61, 0, 0), none, none, some (.iload_n 2, 0, 0, 0), some (.aload_n 0, 0, 0, 0), some (.getfield 23, 10, 6, 0), none, none, some (.iload_n 1, 0, 0, 0), some (.iaload, 0, 0, 0), some (.if_icmp .lt 10, 68, 0, 0), none, none, some (.aload_n 0, 0, 0, 0), some (.bipush (-5), 0, 0, 0), none, some (.invokevirtual 131, 174, 1, 10), none, none, some (.ireturn, 0, 0, 0), some (.aload_n 0, 0, 0, 0), some (.getfield 29, 10, 8, 0), none, none, some (.bipush 64, 0, 0, 0), none, some (.iload_n 1, 0, 0, 0), some (.imul, 0, 0, 0), some (.iload_n 2, 0, 0, 0), some (.iadd, 0, 0, 0), some (.aload_n 0, 0, 0, 0), some (.getfield 20, 10, 5, 0), none, none, some (.iload_n 1, 0, 0, 0), some (.iaload, 0, 0, 0), some (.ifCond .ne 10, 94, 0, 0), none, none, some (.lload_n 3, 0, 0, 0), some (.l2i, 0, 0, 0), some (.i2b, 0, 0, 0), some (.i2l, 0, 0, 0), some (.goto 37, 128, 0, 0), none, none, some (.aload_n 0, 0, 0, 0), some (.getfield 20, 10, 5, 0), none, none, some (.iload_n 1, 0, 0, 0), some (.iaload, 0, 0, 0), some (.iconst 1, 0, 0, 0), some (.if_icmp .ne 10, 111, 0, 0), none, none, some (.lload_n 3, 0, 0, 0), some (.l2i, 0, 0, 0), some (.i2s, 0, 0, 0), some (.i2l, 0, 0, 0), some (.goto 20, 128, 0, 0), none, none, some (.aload_n 0, 0, 0, 0), some (.getfield 20, 10, 5, 0), none, none, some (.iload_n 1, 0, 0, 0), some (.iaload, 0, 0, 0), some (.iconst 2, 0, 0, 0), some (.if_icmp .ne 9, 127, 0, 0), none, none, some (.lload_n 3, 0, 0, 0), some (.l2i, 0, 0, 0), some (.i2l, 0, 0, 0), some (.goto 4, 128, 0, 0), none, none, some (.lload_n 3, 0, 0, 0), some (.lastore, 0, 0, 0), some (.iconst 1, 0, 0, 0), some (.ireturn, 0, 0, 0)]
def sm_H182 : List Nat := [0, 0, 6131, 0, 0, 0, 6135, 0, 0, 5199, 0, 0, 0, 0, 0, 0, 6135, 0, 0, 5199, 0, 0, 0, 0, 0, 6135, 0, 0, 0, 0, 0, 5201, 0, 0, 0, 0, 0, 6135, 0, 0, 5203, 0, 0, 0, 0, 0, 0, 5200, 0, 0, 0, 0, 0, 0, 0, 0, 0, 5200, 0, 0, 0, 0, 0, 0, 0, 0, 0, 0, 5200, 0, 0, 0, 0, 0, 0, 0, 0, 0, 0, 0, 0]
def sm_I182 : sm_I := (yX10_set, cX10_set, 5, some .int, sm_T182)
def sm_T183 : sm_T := [some (.aload_n 0, 0, 0, 0), some (.iload_n 1, 0, 0, 0), some (.invokevirtual 128, 177, 1, 10), none, none, some (.ifCond .eq 11, 16, 0, 0), none, none, some (.aload_n 0, 0, 0, 0), some (.iload_n 2, 0, 0, 0), some (.invokevirtual 128, 177, 1, 10), none, none, some (.ifCond .ne 9, 22, 0, 0), none, none, some (.aload_n 0, 0, 0, 0), some (.iconst (-1), 0, 0, 0), some (.invokevirtual 131, 174, 1, 10), none, none, some (.ireturn, 0, 0, 0), some (.aload_n 0, 0, 0, 0), some (.getfield 17, 10, 4, 0), none, none, some (.iload_n 1, 0, 0, 0), some (.iaload, 0, 0, 0), some (.iconst 2, 0, 0, 0), some (.if_icmp .eq 48, 77, 0, 0), none, none, some (.aload_n 0, 0, 0, 0), some (.getfield 17, 10, 4, 0), none, none, some (.iload_n 2, 0, 0, 0), some (.iaload, 0, 0, 0), some (.iconst 2, 0, 0, 0), some (.if_icmp .eq 38, 77, 0, 0), none, none, some (.aload_n 0, 0, 0, 0), some (.getfield 17, 10, 4, 0), none, none, some (.iload_n 1, 0, 0, 0), some (.iaload, 0, 0, 0), some (.iconst 1, 0, 0, 0), some (.if_icmp .ne 35, 84, 0, 0), none, none, some (.aload_n 0, 0, 0, 0), some (.getfield 17, 10, 4, 0), none, none, some (.iload_n 2, 0, 0, 0), some (.iaload, 0, 0, 0), some (.iconst 1, 0, 0, 0), some (.if_icmp .ne 25, 84, 0, 0), none, none, some (.aload_n 0, 0, 0, 0), some (.getfield 20, 10, 5, 0), none, none, some (.iload_n 1, 0, 0, 0), some (.iaload, 0, 0, 0), some (.aload_n 0, 0, 0, 0), some (.getfield 20, 10, 5, 0), none, none, some (.iload_n 2, 0, 0, 0), some (.iaload, 0, 0, 0), some (.if_icmp .eq 10, 84, 0, 0), none, none, some (.aload_n 0, 0, 0, 0), some (.bipush (-2), 0, 0, 0), none, some (.invokevirtual 131, 174, 1, 10), none, none, some (.ireturn, 0, 0, 0), some (.aload_n 0, 0, 0, 0), some (.getfield 17, 10, 4, 0), none, none, some (.iload_n 1, 0, 0, 0), some (.iaload, 0, 0, 0), some (.ifCond .eq 12, 102, 0, 0), none, none, some (.aload_n 0, 0, 0, 0), some (.getfield 17, 10, 4, 0), none, none, some (.iload_n 2, 0, 0, 0), some (.iaload, 0, 0, 0), some (.ifCond .ne 10, 109, 0, 0), none, none, some (.aload_n 0, 0, 0, 0), some (.bipush (-3), 0, 0, 0), none, some (.invokevirtual 131, 174, 1, 10), none, none, some (.ireturn, 0, 0, 0), some (.iload 5, 0, 0, 0), none, some (.ifCond .ge 10, 121, 0, 0), none, none, some (.aload_n 0, 0, 0, 0), some (.bipush (-4), 0, 0, 0), none, some (.invokevirtual 131, 174, 1, 10), none, none, some (.ireturn, 0, 0, 0), some (.iload_n 3, 0, 0, 0), some (.ifCond .lt 35, 157, 0, 0), none, none, some (.iload 4, 0, 0, 0), none, some (.ifCond .lt 30, 157, 0, 0), none, none, some (.iload_n 3, 0, 0, 0), some (.aload_n 0, 0, 0, 0), some (.getfield 23, 10, 6, 0), none, none, some (.iload_n 1, 0, 0, 0), some (.iaload, 0, 0, 0), some (.iload 5, 0, 0, 0), none, some (.isub, 0, 0, 0), some (.if_icmp .gt 17, 157, 0, 0), none, none, some (.iload 4, 0, 0, 0), none, some (.aload_n 0, 0, 0, 0), some (.getfield 23, 10, 6, 0), none, none, some (.iload_n 2, 0, 0, 0), some (.iaload, 0, 0, 0), some (.iload 5, 0, 0, 0), none, some (.isub, 0, 0, 0), some (.if_icmp .le 10, 164, 0, 0), none, none, some (.aload_n 0, 0, 0, 0), some (.bipush (-5), 0, 0, 0), none, some (.invokevirtual 131, 174, 1, 10), none, none, some (.ireturn, 0, 0, 0), some (.iconst 0, 0, 0, 0), some (.istore 6, 0, 0, 0), none, some (.iload 6, 0, 0, 0), none, some (.iload 5, 0, 0, 0), none, some (.if_icmp .ge 30, 201, 0, 0), none, none, some (.aload_n 0, 0, 0, 0), some (.getfield 33, 10, 9, 0), none, none, some (.iload 6, 0, 0, 0), none, some (.aload_n 0, 0, 0, 0), some (.getfield 29, 10, 8, 0), none, none, some (.bipush 64, 0, 0, 0), none, some (.iload_n 1, 0, 0, 0), some (.imul, 0, 0, 0), some (.iload_n 3, 0, 0, 0), some (.iadd, 0, 0, 0), some (.iload 6, 0, 0, 0), none, some (.iadd, 0, 0, 0), some (.laload, 0, 0, 0), some (.lastore, 0, 0, 0), some (.iinc 6 1, 0, 0, 0), none, none, some (.goto (-31), 167, 0, 0), none, none, some (.iconst 0, 0, 0, 0), some (.istore 6, 0, 0, 0), none, some (.iload 6, 0, 0, 0), none, some (.iload 5, 0, 0, 0), none, some (.if_icmp .ge 31, 239, 0, 0), none, none, some (.aload_n 0, 0, 0, 0), some (.getfield 29, 10, 8, 0), none, none, some (.bipush 64, 0, 0, 0), none, some (.iload_n 2, 0, 0, 0), some (.imul, 0, 0, 0), some (.iload 4, 0, 0, 0), none, some (.iadd, 0, 0, 0), some (.iload 6, 0, 0, 0), none, some (.iadd, 0, 0, 0), some (.aload_n 0, 0, 0, 0), some (.getfield 33, 10, 9, 0), none, none, some (.iload 6, 0, 0, 0), none, some (.laload, 0, 0, 0), some (.lastore, 0, 0, 0), some (.iinc 6 1, 0, 0, 0), none, none, some (.goto (-32), 204, 0, 0), none, none, some (.iconst 1, 0, 0, 0), some (.ireturn, 0, 0, 0)]
def sm_H183 : List Nat := [0, 0, 6131, 0, 0, 0, 6131, 0, 0, 0, 6135, 0, 0, 5199, 0, 0, 0, 0, 0, 5199, 0, 0, 0, 0, 0, 5199, 0, 0, 0, 0, 0, 5199, 0, 0, 0, 0, 0, 5200, 0, 0, 0, 5200, 0, 0, 0, 0, 0, 6135, 0, 0, 5199, 0, 0, 0, 0, 5199, 0, 0, 0, 0, 0, 6135, 0, 0, 0, 0, 0, 6135, 0, 0, 0, 0, 0, 0, 0, 5201, 0, 0, 0, 0, 0, 0, 0, 5201, 0, 0, 0, 0, 0, 0, 0, 6135, 0, 0, 0, 0, 0, 0, 0, 5204, 0, 0, 5203, 0, 0, 0, 0, 0, 0, 0, 0, 0, 0, 0, 0, 0, 0, 0, 0, 0, 5203, 0, 0, 0, 0, 0, 0, 0, 0, 5204, 0, 0, 0, 0, 0, 0, 0]
def sm_I183 : sm_I := (yX10_copy, cX10_copy, 7, some .int, sm_T183)
def sm_T184 : sm_T := [some (.aload_n 0, 0, 0, 0), some (.iload_n 1, 0, 0, 0), some (.invokevirtual 128, 177, 1, 10), none, none, some (.ifCond .eq 41, 46, 0, 0), none, none, some (.aload_n 0, 0, 0, 0), some (.getfield 17, 10, 4, 0), none, none, some (.iload_n 1, 0, 0, 0), some (.iaload, 0, 0, 0), some (.iconst 1, 0, 0, 0), some (.if_icmp .ne 31, 46, 0, 0), none, none, some (.iload_n 2, 0, 0, 0), some (.ifCond .lt 27, 46, 0, 0), none, none, some (.iload_n 2, 0, 0, 0), some (.aload_n 0, 0, 0, 0), some (.getfield 23, 10, 6, 0), none, none, some (.iload_n 1, 0, 0, 0), some (.iaload, 0, 0, 0), some (.if_icmp .ge 17, 46, 0, 0), none, none, some (.aload_n 0, 0, 0, 0), some (.getfield 29, 10, 8, 0), none, none, some (.bipush 64, 0, 0, 0), none, some (.iload_n 1, 0, 0, 0), some (.imul, 0, 0, 0), some (.iload_n 2, 0, 0, 0), some (.iadd, 0, 0, 0), some (.laload, 0, 0, 0), some (.goto 4, 47, 0, 0), none, none, some (.lconst 0, 0, 0, 0), some (.lreturn, 0, 0, 0)]
def sm_H184 : List Nat := [0, 0, 6131, 0, 0, 5199, 0, 0, 0, 0, 0, 0, 0, 0, 5201, 0, 0, 0, 0, 5203, 0, 0, 0, 0, 0, 0, 0, 0, 0]
def sm_I184 : sm_I := (yX10_element, cX10_element, 3, some .long, sm_T184)
def sm_T185 : sm_T := [some (.aload_n 0, 0, 0, 0), some (.iload_n 1, 0, 0, 0), some (.invokevirtual 128, 177, 1, 10), none, none, some (.ifCond .eq 16, 21, 0, 0), none, none, some (.iload_n 2, 0, 0, 0), some (.iconst (-1), 0, 0, 0), some (.if_icmp .eq 17, 27, 0, 0), none, none, some (.aload_n 0, 0, 0, 0), some (.iload_n 2, 0, 0, 0), some (.invokevirtual 135, 180, 1, 10), none, none, some (.ifCond .ne 9, 27, 0, 0), none, none, some (.aload_n 0, 0, 0, 0), some (.iconst (-1), 0, 0, 0), some (.invokevirtual 131, 174, 1, 10), none, none, some (.ireturn, 0, 0, 0), some (.aload_n 0, 0, 0, 0), some (.getfield 17, 10, 4, 0), none, none, some (.iload_n 1, 0, 0, 0), some (.iload_n 2, 0, 0, 0), some (.iconst (-1), 0, 0, 0), some (.if_icmp .ne 7, 41, 0, 0), none, none, some (.iconst 0, 0, 0, 0), some (.goto 4, 42, 0, 0), none, none, some (.iconst 2, 0, 0, 0), some (.iastore, 0, 0, 0), some (.aload_n 0, 0, 0, 0), some (.getfield 26, 10, 7, 0), none, none, some (.iload_n 1, 0, 0, 0), some (.iload_n 2, 0, 0, 0), some (.iastore, 0, 0, 0), some (.iload_n 2, 0, 0, 0), some (.iconst (-1), 0, 0, 0), some (.if_icmp .ne 7, 59, 0, 0), none, none, some (.iconst 0, 0, 0, 0), some (.goto 4, 60, 0, 0), none, none, some (.iconst 1, 0, 0, 0), some (.ireturn, 0, 0, 0)]
def sm_H185 : List Nat := [0, 0, 6131, 0, 0, 0, 0, 0, 0, 6155, 0, 0, 0, 6135, 0, 0, 5199, 0, 0, 0, 0, 0, 0, 0, 0, 0, 5202, 0, 0, 0, 0, 0, 0, 0, 0, 0, 0]
def sm_I185 : sm_I := (yX10_show, cX10_show, 3, some .int, sm_T185)
def sm_T186 : sm_T := [some (.aload_n 0, 0, 0, 0), some (.iload_n 1, 0, 0, 0), some (.invokevirtual 128, 177, 1, 10), none, none, some (.ifCond .eq 12, 17, 0, 0), none, none, some (.aload_n 0, 0, 0, 0), some (.getfield 17, 10, 4, 0), none, none, some (.iload_n 1, 0, 0, 0), some (.iaload, 0, 0, 0), some (.ifCond .ne 5, 19, 0, 0), none, none, some (.iconst (-1), 0, 0, 0), some (.ireturn, 0, 0, 0), some (.aload_n 0, 0, 0, 0), some (.getfield 17, 10, 4, 0), none, none, some (.iload_n 1, 0, 0, 0), some (.iaload, 0, 0, 0), some (.iconst 1, 0, 0, 0), some (.if_icmp .ne 15, 41, 0, 0), none, none, some (.bipush 100, 0, 0, 0), none, some (.aload_n 0, 0, 0, 0), some (.getfield 20, 10, 5, 0), none, none, some (.iload_n 1, 0, 0, 0), some (.iaload, 0, 0, 0), some (.iadd, 0, 0, 0), some (.goto 9, 47, 0, 0), none, none, some (.aload_n 0, 0, 0, 0), some (.getfield 26, 10, 7, 0), none, none, some (.iload_n 1, 0, 0, 0), some (.iaload, 0, 0, 0), some (.ireturn, 0, 0, 0)]
def sm_H186 : List Nat := [0, 0, 6131, 0, 0, 5199, 0, 0, 0, 0, 0, 0, 5199, 0, 0, 0, 0, 0, 0, 5200, 0, 0, 0, 0, 0, 5202, 0, 0, 0]
def sm_I186 : sm_I := (yX10_holds, cX10_holds, 2, some .int, sm_T186)
def sm_T187 : sm_T := [some (.iload_n 2, 0, 0, 0), some (.ifCond .eq 23, 24, 0, 0), none, none, some (.iload_n 1, 0, 0, 0), some (.iload_n 2, 0, 0, 0), some (.if_icmp .eq 18, 24, 0, 0), none, none, some (.iload_n 2, 0, 0, 0), some (.iconst 1, 0, 0, 0), some (.if_icmp .ne 17, 28, 0, 0), none, none, some (.iload_n 1, 0, 0, 0), some (.iconst 3, 0, 0, 0), some (.if_icmp .eq 8, 24, 0, 0), none, none, some (.iload_n 1, 0, 0, 0), some (.iconst 4, 0, 0, 0), some (.if_icmp .ne 7, 28, 0, 0), none, none, some (.iconst 1, 0, 0, 0), some (.goto 4, 29, 0, 0), none, none, some (.iconst 0, 0, 0, 0), some (.ireturn, 0, 0, 0)]
def sm_H187 : List Nat := [0, 0, 0, 0, 0, 0, 0, 0, 0, 0, 0, 0, 0, 0, 0, 0, 0, 0]
def sm_I187 : sm_I := (yX10_isUnder, cX10_isUnder, 3, some .boolean, sm_T187)
def sm_T188 : sm_T := [some (.aload_n 0, 0, 0, 0), some (.iload_n 1, 0, 0, 0), some (.invokevirtual 128, 177, 1, 10), none, none, some (.ifCond .eq 12, 17, 0, 0), none, none, some (.iload_n 2, 0, 0, 0), some (.ifCond .lt 8, 17, 0, 0), none, none, some (.iload_n 2, 0, 0, 0), some (.iconst 5, 0, 0, 0), some (.if_icmp .le 9, 23, 0, 0), none, none, some (.aload_n 0, 0, 0, 0), some (.iconst (-1), 0, 0, 0), some (.invokevirtual 131, 174, 1, 10), none, none, some (.ireturn, 0, 0, 0), some (.aload_n 0, 0, 0, 0), some (.getfield 17, 10, 4, 0), none, none, some (.iload_n 1, 0, 0, 0), some (.iaload, 0, 0, 0), some (.iconst 1, 0, 0, 0), some (.if_icmp .eq 32, 62, 0, 0), none, none, some (.aload_n 0, 0, 0, 0), some (.getfield 17, 10, 4, 0), none, none, some (.iload_n 1, 0, 0, 0), some (.iaload, 0, 0, 0), some (.iconst 2, 0, 0, 0), some (.if_icmp .ne 29, 69, 0, 0), none, none, some (.aload_n 0, 0, 0, 0), some (.aload_n 0, 0, 0, 0), some (.getfield 69, 10, 21, 0), none, none, some (.aload_n 0, 0, 0, 0), some (.getfield 26, 10, 7, 0), none, none, some (.iload_n 1, 0, 0, 0), some (.iaload, 0, 0, 0), some (.iaload, 0, 0, 0), some (.iload_n 2, 0, 0, 0), some (.invokevirtual 138, 187, 2, 10), none, none, some (.ifCond .ne 10, 69, 0, 0), none, none, some (.aload_n 0, 0, 0, 0), some (.bipush (-2), 0, 0, 0), none, some (.invokevirtual 131, 174, 1, 10), none, none, some (.ireturn, 0, 0, 0), some (.aload_n 0, 0, 0, 0), some (.getfield 17, 10, 4, 0), none, none, some (.iload_n 1, 0, 0, 0), some (.iaload, 0, 0, 0), some (.ifCond .ne 10, 85, 0, 0), none, none, some (.aload_n 0, 0, 0, 0), some (.bipush (-3), 0, 0, 0), none, some (.invokevirtual 131, 174, 1, 10), none, none, some (.ireturn, 0, 0, 0), some (.aload_n 0, 0, 0, 0), some (.getfield 26, 10, 7, 0), none, none, some (.iload_n 1, 0, 0, 0), some (.iaload, 0, 0, 0), some (.istore_n 3, 0, 0, 0), some (.iload_n 2, 0, 0, 0), some (.ifCond .ne 10, 103, 0, 0), none, none, some (.aload_n 0, 0, 0, 0), some (.getfield 66, 10, 20, 0), none, none, some (.iload_n 3, 0, 0, 0), some (.iaload, 0, 0, 0), some (.ireturn, 0, 0, 0), some (.iload_n 2, 0, 0, 0), some (.iconst 2, 0, 0, 0), some (.if_icmp .ne 10, 115, 0, 0), none, none, some (.aload_n 0, 0, 0, 0), some (.getfield 72, 10, 22, 0), none, none, some (.iload_n 3, 0, 0, 0), some (.iaload, 0, 0, 0), some (.ireturn, 0, 0, 0), some (.iload_n 2, 0, 0, 0), some (.iconst 5, 0, 0, 0), some (.if_icmp .ne 13, 130, 0, 0), none, none, some (.aload_n 0, 0, 0, 0), some (.getfield 78, 10, 24, 0), none, none, some (.bipush 12, 0, 0, 0), none, some (.iload_n 3, 0, 0, 0), some (.imul, 0, 0, 0), some (.iaload, 0, 0, 0), some (.ireturn, 0, 0, 0), some (.aload_n 0, 0, 0, 0), some (.iload_n 3, 0, 0, 0), some (.invokevirtual 142, 218, 1, 10), none, none, some (.ireturn, 0, 0, 0)]
def sm_H188 : List Nat := [0, 0, 6131, 0, 0, 0, 0, 0, 0, 0, 0, 6135, 0, 0, 5199, 0, 0, 0, 0, 0, 5199, 0, 0, 0, 0, 0, 0, 5216, 0, 5202, 0, 0, 0, 0, 6167, 0, 0, 0, 6135, 0, 0, 5199, 0, 0, 0, 0, 0, 6135, 0, 0, 5202, 0, 0, 0, 0, 0, 0, 5215, 0, 0, 0, 0, 0, 0, 0, 5217, 0, 0, 0, 0, 0, 0, 0, 5219, 0, 0, 0, 0, 0, 0, 0, 6171, 0]
def sm_I188 : sm_I := (yX10_says, cX10_says, 4, some .int, sm_T188)
def sm_T189 : sm_T := [some (.aload_n 0, 0, 0, 0), some (.iload_n 1, 0, 0, 0), some (.invokevirtual 128, 177, 1, 10), none, none, some (.ifCond .ne 7, 12, 0, 0), none, none, some (.iconst (-1), 0, 0, 0), some (.goto 33, 42, 0, 0), none, none, some (.aload_n 0, 0, 0, 0), some (.getfield 17, 10, 4, 0), none, none, some (.iload_n 1, 0, 0, 0), some (.iaload, 0, 0, 0), some (.iconst 2, 0, 0, 0), some (.if_icmp .ne 8, 27, 0, 0), none, none, some (.bipush (-2), 0, 0, 0), none, some (.goto 18, 42, 0, 0), none, none, some (.aload_n 0, 0, 0, 0), some (.getfield 17, 10, 4, 0), none, none, some (.iload_n 1, 0, 0, 0), some (.iaload, 0, 0, 0), some (.ifCond .ne 8, 41, 0, 0), none, none, some (.bipush (-3), 0, 0, 0), none, some (.goto 4, 42, 0, 0), none, none, some (.iconst 0, 0, 0, 0), some (.ireturn, 0, 0, 0)]
def sm_H189 : List Nat := [0, 0, 6131, 0, 0, 0, 0, 5199, 0, 0, 0, 0, 0, 0, 0, 5199, 0, 0, 0, 0, 0, 0, 0]
def sm_I189 : sm_I := (yX10_wants, cX10_wants, 2, some .int, sm_T189)
def sm_T190 : sm_T := [some (.aload_n 0, 0, 0, 0), some (.getfield 145, 10, 26, 0), none, none, some (.aload_n 0, 0, 0, 0), some (.getfield 148, 10, 27, 0), none, none, some (.if_icmp .ge 21, 29, 0, 0), none, none, some (.aload_n 0, 0, 0, 0), some (.getfield 29, 10, 8, 0), none, none, some (.aload_n 0, 0, 0, 0), some (.getfield 151, 10, 25, 0), none, none, some (.aload_n 0, 0, 0, 0), some (.getfield 145, 10, 26, 0), none, none, some (.iadd, 0, 0, 0), some (.laload, 0, 0, 0), some (.l2i, 0, 0, 0), some (.goto 4, 30, 0, 0), none, none, some (.iconst (-1), 0, 0, 0), some (.ireturn, 0, 0, 0)]
def sm_H190 : List Nat := [0, 5221, 0, 5222, 0, 0, 5203, 0, 5220, 0, 5221, 0, 0, 0, 0, 0, 0]
def sm_I190 : sm_I := (yX10_letter, cX10_letter, 1, some .int, sm_T190)
def sm_T191 : sm_T := [some (.aload_n 0, 0, 0, 0), some (.getfield 145, 10, 26, 0), none, none, some (.aload_n 0, 0, 0, 0), some (.getfield 148, 10, 27, 0), none, none, some (.if_icmp .ge 11, 19, 0, 0), none, none, some (.aload_n 0, 0, 0, 0), some (.invokevirtual 154, 190, 0, 10), none, none, some (.iload_n 1, 0, 0, 0), some (.if_icmp .eq 13, 29, 0, 0), none, none, some (.aload_n 0, 0, 0, 0), some (.aload_n 0, 0, 0, 0), some (.getfield 145, 10, 26, 0), none, none, some (.putfield 158, 10, 30, 0), none, none, some (.iconst 0, 0, 0, 0), some (.ireturn, 0, 0, 0), some (.aload_n 0, 0, 0, 0), some (.dup, 0, 0, 0), some (.getfield 145, 10, 26, 0), none, none, some (.iconst 1, 0, 0, 0), some (.iadd, 0, 0, 0), some (.putfield 145, 10, 26, 0), none, none, some (.iconst 1, 0, 0, 0), some (.ireturn, 0, 0, 0)]
def sm_H191 : List Nat := [0, 5221, 0, 5222, 0, 0, 6199, 0, 0, 0, 0, 5221, 5225, 0, 0, 0, 0, 5221, 0, 0, 5221, 0, 0]
def sm_I191 : sm_I := (yX10_takes, cX10_takes, 2, some .boolean, sm_T191)
def sm_T192 : sm_T := [some (.aload_n 0, 0, 0, 0), some (.getfield 145, 10, 26, 0), none, none, some (.aload_n 0, 0, 0, 0), some (.getfield 148, 10, 27, 0), none, none, some (.if_icmp .ge 25, 33, 0, 0), none, none, some (.aload_n 0, 0, 0, 0), some (.invokevirtual 154, 190, 0, 10), none, none, some (.bipush 48, 0, 0, 0), none, some (.if_icmp .lt 16, 33, 0, 0), none, none, some (.aload_n 0, 0, 0, 0), some (.invokevirtual 154, 190, 0, 10), none, none, some (.bipush 57, 0, 0, 0), none, some (.if_icmp .gt 7, 33, 0, 0), none, none, some (.iconst 1, 0, 0, 0), some (.goto 4, 34, 0, 0), none, none, some (.iconst 0, 0, 0, 0), some (.ireturn, 0, 0, 0)]
def sm_H192 : List Nat := [0, 5221, 0, 5222, 0, 0, 6199, 0, 0, 0, 6199, 0, 0, 0, 0, 0, 0]
def sm_I192 : sm_I := (yX10_isDigit, cX10_isDigit, 1, some .boolean, sm_T192)
def sm_T193 : sm_T := [some (.aload_n 0, 0, 0, 0), some (.aload_n 0, 0, 0, 0), some (.getfield 145, 10, 26, 0), none, none, some (.putfield 161, 10, 29, 0), none, none, some (.aload_n 0, 0, 0, 0), some (.iconst 0, 0, 0, 0), some (.putfield 164, 10, 28, 0), none, none, some (.aload_n 0, 0, 0, 0), some (.invokevirtual 167, 192, 0, 10), none, none, some (.ifCond .ne 13, 30, 0, 0), none, none, some (.aload_n 0, 0, 0, 0), some (.aload_n 0, 0, 0, 0), some (.getfield 145, 10, 26, 0), none, none, some (.putfield 158, 10, 30, 0), none, none, some (.iconst 0, 0, 0, 0), some (.ireturn, 0, 0, 0), some (.iconst 0, 0, 0, 0), some (.istore_n 1, 0, 0, 0), some (.iload_n 1, 0, 0, 0), some (.iconst 3, 0, 0, 0), some (.if_icmp .ge 45, 79, 0, 0), none, none, some (.aload_n 0, 0, 0, 0), some (.invokevirtual 167, 192, 0, 10), none, none, some (.ifCond .eq 38, 79, 0, 0), none, none, some (.aload_n 0, 0, 0, 0), some (.bipush 10, 0, 0, 0), none, some (.aload_n 0, 0, 0, 0), some (.getfield 164, 10, 28, 0), none, none, some (.imul, 0, 0, 0), some (.aload_n 0, 0, 0, 0), some (.invokevirtual 154, 190, 0, 10), none, none, some (.iadd, 0, 0, 0), some (.bipush 48, 0, 0, 0), none, some (.isub, 0, 0, 0), some (.putfield 164, 10, 28, 0), none, none, some (.aload_n 0, 0, 0, 0), some (.dup, 0, 0, 0), some (.getfield 145, 10, 26, 0), none, none, some (.iconst 1, 0, 0, 0), some (.iadd, 0, 0, 0), some (.putfield 145, 10, 26, 0), none, none, some (.iinc 1 1, 0, 0, 0), none, none, some (.goto (-44), 32, 0, 0), none, none, some (.iconst 1, 0, 0, 0), some (.ireturn, 0, 0, 0)]
def sm_H193 : List Nat := [0, 0, 5221, 5224, 0, 0, 5223, 0, 6211, 0, 0, 0, 5221, 5225, 0, 0, 0, 0, 0, 0, 0, 0, 6211, 0, 0, 0, 0, 5223, 0, 0, 6199, 0, 0, 0, 5223, 0, 0, 5221, 0, 0, 5221, 0, 0, 0, 0]
def sm_I193 : sm_I := (yX10_number, cX10_number, 2, some .boolean, sm_T193)
def sm_T194 : sm_T := [some (.aload_n 0, 0, 0, 0), some (.invokevirtual 171, 193, 0, 10), none, none, some (.ifCond .ne 5, 9, 0, 0), none, none, some (.iconst 0, 0, 0, 0), some (.ireturn, 0, 0, 0), some (.aload_n 0, 0, 0, 0), some (.getfield 164, 10, 28, 0), none, none, some (.iload_n 1, 0, 0, 0), some (.if_icmp .lt 11, 25, 0, 0), none, none, some (.aload_n 0, 0, 0, 0), some (.getfield 164, 10, 28, 0), none, none, some (.iload_n 2, 0, 0, 0), some (.if_icmp .le 13, 35, 0, 0), none, none, some (.aload_n 0, 0, 0, 0), some (.aload_n 0, 0, 0, 0), some (.getfield 161, 10, 29, 0), none, none, some (.putfield 158, 10, 30, 0), none, none, some (.iconst 0, 0, 0, 0), some (.ireturn, 0, 0, 0), some (.iconst 1, 0, 0, 0), some (.ireturn, 0, 0, 0)]
def sm_H194 : List Nat := [0, 6207, 0, 0, 0, 0, 5223, 0, 0, 0, 5223, 0, 0, 0, 0, 5224, 5225, 0, 0, 0, 0]
def sm_I194 : sm_I := (yX10_number_, cX10_number_, 3, some .boolean, sm_T194)
def sm_T195 : sm_T := [some (.aload_n 0, 0, 0, 0), some (.getfield 145, 10, 26, 0), none, none, some (.aload_n 0, 0, 0, 0), some (.getfield 148, 10, 27, 0), none, none, some (.if_icmp .ge 16, 24, 0, 0), none, none, some (.aload_n 0, 0, 0, 0), some (.invokevirtual 154, 190, 0, 10), none, none, some (.bipush 45, 0, 0, 0), none, some (.if_icmp .ne 7, 24, 0, 0), none, none, some (.iconst 1, 0, 0, 0), some (.goto 4, 25, 0, 0), none, none, some (.iconst 0, 0, 0, 0), some (.istore_n 1, 0, 0, 0), some (.iload_n 1, 0, 0, 0), some (.ifCond .eq 13, 40, 0, 0), none, none, some (.aload_n 0, 0, 0, 0), some (.dup, 0, 0, 0), some (.getfield 145, 10, 26, 0), none, none, some (.iconst 1, 0, 0, 0), some (.iadd, 0, 0, 0), some (.putfield 145, 10, 26, 0), none, none, some (.aload_n 0, 0, 0, 0), some (.iconst 0, 0, 0, 0), some (.sipush 500, 0, 0, 0), none, none, some (.invokevirtual 173, 194, 2, 10), none, none, some (.ifCond .ne 5, 53, 0, 0), none, none, some (.iconst 0, 0, 0, 0), some (.ireturn, 0, 0, 0), some (.iload_n 1, 0, 0, 0), some (.ifCond .eq 12, 66, 0, 0), none, none, some (.aload_n 0, 0, 0, 0), some (.aload_n 0, 0, 0, 0), some (.getfield 164, 10, 28, 0), none, none, some (.ineg, 0, 0, 0), some (.putfield 164, 10, 28, 0), none, none, some (.iconst 1, 0, 0, 0), some (.ireturn, 0, 0, 0)]
def sm_H195 : List Nat := [0, 5221, 0, 5222, 0, 0, 6199, 0, 0, 0, 0, 0, 0, 0, 0, 0, 0, 5221, 0, 0, 5221, 0, 0, 0, 6215, 0, 0, 0, 0, 0, 0, 0, 5223, 0, 5223, 0, 0]
def sm_I195 : sm_I := (yX10_signed, cX10_signed, 2, some .boolean, sm_T195)
def sm_T196 : sm_T := [some (.aload_n 0, 0, 0, 0), some (.invokevirtual 171, 193, 0, 10), none, none, some (.ifCond .ne 5, 9, 0, 0), none, none, some (.iconst 0, 0, 0, 0), some (.ireturn, 0, 0, 0), some (.aload_n 0, 0, 0, 0), some (.getfield 175, 10, 31, 0), none, none, some (.ifCond .le 31, 44, 0, 0), none, none, some (.aload_n 0, 0, 0, 0), some (.getfield 164, 10, 28, 0), none, none, some (.aload_n 0, 0, 0, 0), some (.getfield 81, 10, 39, 0), none, none, some (.aload_n 0, 0, 0, 0), some (.getfield 175, 10, 31, 0), none, none, some (.iconst 1, 0, 0, 0), some (.isub, 0, 0, 0), some (.iaload, 0, 0, 0), some (.if_icmp .gt 13, 44, 0, 0), none, none, some (.aload_n 0, 0, 0, 0), some (.aload_n 0, 0, 0, 0), some (.getfield 161, 10, 29, 0), none, none, some (.putfield 158, 10, 30, 0), none, none, some (.iconst 0, 0, 0, 0), some (.ireturn, 0, 0, 0), some (.aload_n 0, 0, 0, 0), some (.getfield 81, 10, 39, 0), none, none, some (.aload_n 0, 0, 0, 0), some (.getfield 175, 10, 31, 0), none, none, some (.aload_n 0, 0, 0, 0), some (.getfield 164, 10, 28, 0), none, none, some (.iastore, 0, 0, 0), some (.aload_n 0, 0, 0, 0), some (.getfield 84, 10, 40, 0), none, none, some (.aload_n 0, 0, 0, 0), some (.getfield 175, 10, 31, 0), none, none, some (.iconst 1, 0, 0, 0), some (.iastore, 0, 0, 0), some (.aload_n 0, 0, 0, 0), some (.getfield 145, 10, 26, 0), none, none, some (.aload_n 0, 0, 0, 0), some (.getfield 148, 10, 27, 0), none, none, some (.if_icmp .ge 47, 122, 0, 0), none, none, some (.aload_n 0, 0, 0, 0), some (.invokevirtual 154, 190, 0, 10), none, none, some (.bipush 42, 0, 0, 0), none, some (.if_icmp .ne 38, 122, 0, 0), none, none, some (.aload_n 0, 0, 0, 0), some (.dup, 0, 0, 0), some (.getfield 145, 10, 26, 0), none, none, some (.iconst 1, 0, 0, 0), some (.iadd, 0, 0, 0), some (.putfield 145, 10, 26, 0), none, none, some (.aload_n 0, 0, 0, 0), some (.iconst 1, 0, 0, 0), some (.bipush 99, 0, 0, 0), none, some (.invokevirtual 173, 194, 2, 10), none, none, some (.ifCond .ne 5, 109, 0, 0), none, none, some (.iconst 0, 0, 0, 0), some (.ireturn, 0, 0, 0), some (.aload_n 0, 0, 0, 0), some (.getfield 84, 10, 40, 0), none, none, some (.aload_n 0, 0, 0, 0), some (.getfield 175, 10, 31, 0), none, none, some (.aload_n 0, 0, 0, 0), some (.getfield 164, 10, 28, 0), none, none, some (.iastore, 0, 0, 0), some (.aload_n 0, 0, 0, 0), some (.dup, 0, 0, 0), some (.getfield 175, 10, 31, 0), none, none, some (.iconst 1, 0, 0, 0), some (.iadd, 0, 0, 0), some (.putfield 175, 10, 31, 0), none, none, some (.iconst 1, 0, 0, 0), some (.ireturn, 0, 0, 0)]
def sm_H196 : List Nat := [0, 6207, 0, 0, 0, 0, 5226, 0, 0, 5223, 0, 5234, 0, 5226, 0, 0, 0, 0, 0, 0, 5224, 5225, 0, 0, 0, 5234, 0, 5226, 0, 5223, 0, 0, 5235, 0, 5226, 0, 0, 0, 5221, 0, 5222, 0, 0, 6199, 0, 0, 0, 0, 5221, 0, 0, 5221, 0, 0, 0, 6215, 0, 0, 0, 0, 5235, 0, 5226, 0, 5223, 0, 0, 0, 5226, 0, 0, 5226, 0, 0]
def sm_I196 : sm_I := (yX10_item, cX10_item, 1, some .boolean, sm_T196)
def sm_T197 : sm_T := [some (.aload_n 0, 0, 0, 0), some (.bipush 115, 0, 0, 0), none, some (.invokevirtual 178, 191, 1, 10), none, none, some (.ifCond .eq 28, 34, 0, 0), none, none, some (.aload_n 0, 0, 0, 0), some (.bipush 104, 0, 0, 0), none, some (.invokevirtual 178, 191, 1, 10), none, none, some (.ifCond .eq 19, 34, 0, 0), none, none, some (.aload_n 0, 0, 0, 0), some (.bipush 32, 0, 0, 0), none, some (.invokevirtual 178, 191, 1, 10), none, none, some (.ifCond .eq 10, 34, 0, 0), none, none, some (.aload_n 0, 0, 0, 0), some (.invokevirtual 181, 195, 0, 10), none, none, some (.ifCond .ne 5, 36, 0, 0), none, none, some (.iconst 0, 0, 0, 0), some (.ireturn, 0, 0, 0), some (.aload_n 0, 0, 0, 0), some (.aload_n 0, 0, 0, 0), some (.getfield 164, 10, 28, 0), none, none, some (.putfield 184, 10, 32, 0), none, none, some (.iconst 1, 0, 0, 0), some (.ireturn, 0, 0, 0)]
def sm_H197 : List Nat := [0, 0, 6195, 0, 0, 0, 6195, 0, 0, 0, 6195, 0, 0, 6227, 0, 0, 0, 0, 0, 5223, 5227, 0, 0]
def sm_I197 : sm_I := (yX10_wishPart, cX10_wishPart, 1, some .boolean, sm_T197)
def sm_T198 : sm_T := [some (.aload_n 0, 0, 0, 0), some (.bipush 114, 0, 0, 0), none, some (.invokevirtual 178, 191, 1, 10), none, none, some (.ifCond .eq 40, 46, 0, 0), none, none, some (.aload_n 0, 0, 0, 0), some (.bipush 100, 0, 0, 0), none, some (.invokevirtual 178, 191, 1, 10), none, none, some (.ifCond .eq 31, 46, 0, 0), none, none, some (.aload_n 0, 0, 0, 0), some (.bipush 115, 0, 0, 0), none, some (.invokevirtual 178, 191, 1, 10), none, none, some (.ifCond .eq 22, 46, 0, 0), none, none, some (.aload_n 0, 0, 0, 0), some (.bipush 32, 0, 0, 0), none, some (.invokevirtual 178, 191, 1, 10), none, none, some (.ifCond .eq 13, 46, 0, 0), none, none, some (.aload_n 0, 0, 0, 0), some (.iconst 1, 0, 0, 0), some (.bipush 12, 0, 0, 0), none, some (.invokevirtual 173, 194, 2, 10), none, none, some (.ifCond .ne 5, 48, 0, 0), none, none, some (.iconst 0, 0, 0, 0), some (.ireturn, 0, 0, 0), some (.aload_n 0, 0, 0, 0), some (.aload_n 0, 0, 0, 0), some (.getfield 164, 10, 28, 0), none, none, some (.putfield 187, 10, 34, 0), none, none, some (.iconst 1, 0, 0, 0), some (.ireturn, 0, 0, 0)]
def sm_H198 : List Nat := [0, 0, 6195, 0, 0, 0, 6195, 0, 0, 0, 6195, 0, 0, 0, 6195, 0, 0, 0, 0, 6215, 0, 0, 0, 0, 0, 5223, 5229, 0, 0]
def sm_I198 : sm_I := (yX10_wordsPart, cX10_wordsPart, 1, some .boolean, sm_T198)
def sm_T199 : sm_T := [some (.aload_n 0, 0, 0, 0), some (.bipush 97, 0, 0, 0), none, some (.invokevirtual 178, 191, 1, 10), none, none, some (.ifCond .eq 28, 34, 0, 0), none, none, some (.aload_n 0, 0, 0, 0), some (.bipush 110, 0, 0, 0), none, some (.invokevirtual 178, 191, 1, 10), none, none, some (.ifCond .eq 19, 34, 0, 0), none, none, some (.aload_n 0, 0, 0, 0), some (.bipush 32, 0, 0, 0), none, some (.invokevirtual 178, 191, 1, 10), none, none, some (.ifCond .eq 10, 34, 0, 0), none, none, some (.aload_n 0, 0, 0, 0), some (.invokevirtual 181, 195, 0, 10), none, none, some (.ifCond .ne 5, 36, 0, 0), none, none, some (.iconst 0, 0, 0, 0), some (.ireturn, 0, 0, 0), some (.aload_n 0, 0, 0, 0), some (.aload_n 0, 0, 0, 0), some (.getfield 164, 10, 28, 0), none, none, some (.putfield 190, 10, 33, 0), none, none, some (.iconst 1, 0, 0, 0), some (.ireturn, 0, 0, 0)]
def sm_H199 : List Nat := [0, 0, 6195, 0, 0, 0, 6195, 0, 0, 0, 6195, 0, 0, 6227, 0, 0, 0, 0, 0, 5223, 5228, 0, 0]
def sm_I199 : sm_I := (yX10_leanPart, cX10_leanPart, 1, some .boolean, sm_T199)
def sm_T200 : sm_T := [some (.aload_n 0, 0, 0, 0), some (.bipush 115, 0, 0, 0), none, some (.invokevirtual 178, 191, 1, 10), none, none, some (.ifCond .eq 21, 27, 0, 0), none, none, some (.aload_n 0, 0, 0, 0), some (.bipush 115, 0, 0, 0), none, some (.invokevirtual 178, 191, 1, 10), none, none, some (.ifCond .eq 12, 27, 0, 0), none, none, some (.aload_n 0, 0, 0, 0), some (.bipush 32, 0, 0, 0), none, some (.invokevirtual 178, 191, 1, 10), none, none, some (.ifCond .ne 5, 29, 0, 0), none, none, some (.iconst 0, 0, 0, 0), some (.ireturn, 0, 0, 0), some (.aload_n 0, 0, 0, 0), some (.getfield 145, 10, 26, 0), none, none, some (.aload_n 0, 0, 0, 0), some (.getfield 148, 10, 27, 0), none, none, some (.if_icmp .ge 51, 88, 0, 0), none, none, some (.aload_n 0, 0, 0, 0), some (.invokevirtual 154, 190, 0, 10), none, none, some (.bipush 115, 0, 0, 0), none, some (.if_icmp .eq 12, 58, 0, 0), none, none, some (.aload_n 0, 0, 0, 0), some (.invokevirtual 154, 190, 0, 10), none, none, some (.bipush 97, 0, 0, 0), none, some (.if_icmp .ne 33, 88, 0, 0), none, none, some (.aload_n 0, 0, 0, 0), some (.aload_n 0, 0, 0, 0), some (.invokevirtual 154, 190, 0, 10), none, none, some (.bipush 97, 0, 0, 0), none, some (.if_icmp .ne 7, 72, 0, 0), none, none, some (.iconst 1, 0, 0, 0), some (.goto 4, 73, 0, 0), none, none, some (.iconst 0, 0, 0, 0), some (.putfield 193, 10, 35, 0), none, none, some (.aload_n 0, 0, 0, 0), some (.dup, 0, 0, 0), some (.getfield 145, 10, 26, 0), none, none, some (.iconst 1, 0, 0, 0), some (.iadd, 0, 0, 0), some (.putfield 145, 10, 26, 0), none, none, some (.iconst 1, 0, 0, 0), some (.ireturn, 0, 0, 0), some (.aload_n 0, 0, 0, 0), some (.aload_n 0, 0, 0, 0), some (.getfield 145, 10, 26, 0), none, none, some (.putfield 158, 10, 30, 0), none, none, some (.iconst 0, 0, 0, 0), some (.ireturn, 0, 0, 0)]
def sm_H200 : List Nat := [0, 0, 6195, 0, 0, 0, 6195, 0, 0, 0, 6195, 0, 0, 0, 0, 5221, 0, 5222, 0, 0, 6199, 0, 0, 0, 6199, 0, 0, 0, 0, 6199, 0, 0, 0, 0, 0, 5230, 0, 0, 5221, 0, 0, 5221, 0, 0, 0, 0, 5221, 5225, 0, 0]
def sm_I200 : sm_I := (yX10_lossPart, cX10_lossPart, 1, some .boolean, sm_T200)
def sm_T201 : sm_T := [some (.aload_n 0, 0, 0, 0), some (.bipush 119, 0, 0, 0), none, some (.invokevirtual 178, 191, 1, 10), none, none, some (.ifCond .eq 28, 34, 0, 0), none, none, some (.aload_n 0, 0, 0, 0), some (.bipush 111, 0, 0, 0), none, some (.invokevirtual 178, 191, 1, 10), none, none, some (.ifCond .eq 19, 34, 0, 0), none, none, some (.aload_n 0, 0, 0, 0), some (.bipush 32, 0, 0, 0), none, some (.invokevirtual 178, 191, 1, 10), none, none, some (.ifCond .eq 10, 34, 0, 0), none, none, some (.aload_n 0, 0, 0, 0), some (.invokevirtual 181, 195, 0, 10), none, none, some (.ifCond .ne 5, 36, 0, 0), none, none, some (.iconst 0, 0, 0, 0), some (.ireturn, 0, 0, 0), some (.aload_n 0, 0, 0, 0), some (.getfield 164, 10, 28, 0), none, none, some (.istore_n 1, 0, 0, 0), some (.aload_n 0, 0, 0, 0), some (.bipush 32, 0, 0, 0), none, some (.invokevirtual 178, 191, 1, 10), none, none, some (.ifCond .eq 10, 57, 0, 0), none, none, some (.aload_n 0, 0, 0, 0), some (.invokevirtual 181, 195, 0, 10), none, none, some (.ifCond .ne 5, 59, 0, 0), none, none, some (.iconst 0, 0, 0, 0), some (.ireturn, 0, 0, 0), some (.aload_n 0, 0, 0, 0), some (.iconst 1, 0, 0, 0), some (.putfield 196, 10, 36, 0), none, none, some (.aload_n 0, 0, 0, 0), some (.iload_n 1, 0, 0, 0), some (.putfield 199, 10, 37, 0), none, none, some (.aload_n 0, 0, 0, 0), some (.aload_n 0, 0, 0, 0), some (.getfield 164, 10, 28, 0), none, none, some (.putfield 202, 10, 38, 0), none, none, some (.iconst 1, 0, 0, 0), some (.ireturn, 0, 0, 0)]
def sm_H201 : List Nat := [0, 0, 6195, 0, 0, 0, 6195, 0, 0, 0, 6195, 0, 0, 6227, 0, 0, 0, 0, 5223, 0, 0, 0, 6195, 0, 0, 6227, 0, 0, 0, 0, 0, 5231, 0, 0, 5232, 0, 0, 5223, 5233, 0, 0]
def sm_I201 : sm_I := (yX10_twoPart, cX10_twoPart, 2, some .boolean, sm_T201)
def sm_T202 : sm_T := [some (.aload_n 0, 0, 0, 0), some (.invokevirtual 154, 190, 0, 10), none, none, some (.istore_n 1, 0, 0, 0), some (.aload_n 0, 0, 0, 0), some (.getfield 145, 10, 26, 0), none, none, some (.aload_n 0, 0, 0, 0), some (.getfield 148, 10, 27, 0), none, none, some (.if_icmp .ge 24, 37, 0, 0), none, none, some (.iload_n 1, 0, 0, 0), some (.bipush 116, 0, 0, 0), none, some (.if_icmp .ne 18, 37, 0, 0), none, none, some (.aload_n 0, 0, 0, 0), some (.dup, 0, 0, 0), some (.getfield 145, 10, 26, 0), none, none, some (.iconst 1, 0, 0, 0), some (.iadd, 0, 0, 0), some (.putfield 145, 10, 26, 0), none, none, some (.aload_n 0, 0, 0, 0), some (.invokevirtual 205, 201, 0, 10), none, none, some (.ireturn, 0, 0, 0), some (.aload_n 0, 0, 0, 0), some (.getfield 145, 10, 26, 0), none, none, some (.aload_n 0, 0, 0, 0), some (.getfield 148, 10, 27, 0), none, none, some (.if_icmp .ge 76, 121, 0, 0), none, none, some (.iload_n 1, 0, 0, 0), some (.bipush 119, 0, 0, 0), none, some (.if_icmp .ne 70, 121, 0, 0), none, none, some (.aload_n 0, 0, 0, 0), some (.dup, 0, 0, 0), some (.getfield 145, 10, 26, 0), none, none, some (.iconst 1, 0, 0, 0), some (.iadd, 0, 0, 0), some (.putfield 145, 10, 26, 0), none, none, some (.aload_n 0, 0, 0, 0), some (.getfield 145, 10, 26, 0), none, none, some (.aload_n 0, 0, 0, 0), some (.getfield 148, 10, 27, 0), none, none, some (.if_icmp .ge 27, 99, 0, 0), none, none, some (.aload_n 0, 0, 0, 0), some (.invokevirtual 154, 190, 0, 10), none, none, some (.bipush 105, 0, 0, 0), none, some (.if_icmp .ne 18, 99, 0, 0), none, none, some (.aload_n 0, 0, 0, 0), some (.dup, 0, 0, 0), some (.getfield 145, 10, 26, 0), none, none, some (.iconst 1, 0, 0, 0), some (.iadd, 0, 0, 0), some (.putfield 145, 10, 26, 0), none, none, some (.aload_n 0, 0, 0, 0), some (.invokevirtual 208, 197, 0, 10), none, none, some (.ireturn, 0, 0, 0), some (.aload_n 0, 0, 0, 0), some (.bipush 111, 0, 0, 0), none, some (.invokevirtual 178, 191, 1, 10), none, none, some (.ifCond .eq 14, 119, 0, 0), none, none, some (.aload_n 0, 0, 0, 0), some (.invokevirtual 211, 198, 0, 10), none, none, some (.ifCond .eq 7, 119, 0, 0), none, none, some (.iconst 1, 0, 0, 0), some (.goto 4, 120, 0, 0), none, none, some (.iconst 0, 0, 0, 0), some (.ireturn, 0, 0, 0), some (.aload_n 0, 0, 0, 0), some (.getfield 145, 10, 26, 0), none, none, some (.aload_n 0, 0, 0, 0), some (.getfield 148, 10, 27, 0), none, none, some (.if_icmp .ge 76, 205, 0, 0), none, none, some (.iload_n 1, 0, 0, 0), some (.bipush 108, 0, 0, 0), none, some (.if_icmp .ne 70, 205, 0, 0), none, none, some (.aload_n 0, 0, 0, 0), some (.dup, 0, 0, 0), some (.getfield 145, 10, 26, 0), none, none, some (.iconst 1, 0, 0, 0), some (.iadd, 0, 0, 0), some (.putfield 145, 10, 26, 0), none, none, some (.aload_n 0, 0, 0, 0), some (.getfield 145, 10, 26, 0), none, none, some (.aload_n 0, 0, 0, 0), some (.getfield 148, 10, 27, 0), none, none, some (.if_icmp .ge 27, 183, 0, 0), none, none, some (.aload_n 0, 0, 0, 0), some (.invokevirtual 154, 190, 0, 10), none, none, some (.bipush 101, 0, 0, 0), none, some (.if_icmp .ne 18, 183, 0, 0), none, none, some (.aload_n 0, 0, 0, 0), some (.dup, 0, 0, 0), some (.getfield 145, 10, 26, 0), none, none, some (.iconst 1, 0, 0, 0), some (.iadd, 0, 0, 0), some (.putfield 145, 10, 26, 0), none, none, some (.aload_n 0, 0, 0, 0), some (.invokevirtual 214, 199, 0, 10), none, none, some (.ireturn, 0, 0, 0), some (.aload_n 0, 0, 0, 0), some (.bipush 111, 0, 0, 0), none, some (.invokevirtual 178, 191, 1, 10), none, none, some (.ifCond .eq 14, 203, 0, 0), none, none, some (.aload_n 0, 0, 0, 0), some (.invokevirtual 217, 200, 0, 10), none, none, some (.ifCond .eq 7, 203, 0, 0), none, none, some (.iconst 1, 0, 0, 0), some (.goto 4, 204, 0, 0), none, none, some (.iconst 0, 0, 0, 0), some (.ireturn, 0, 0, 0), some (.aload_n 0, 0, 0, 0), some (.aload_n 0, 0, 0, 0), some (.getfield 145, 10, 26, 0), none, none, some (.putfield 158, 10, 30, 0), none, none, some (.iconst 0, 0, 0, 0), some (.ireturn, 0, 0, 0)]
def sm_H202 : List Nat := [0, 6199, 0, 0, 5221, 0, 5222, 0, 0, 0, 0, 0, 0, 5221, 0, 0, 5221, 0, 6223, 0, 0, 5221, 0, 5222, 0, 0, 0, 0, 0, 0, 5221, 0, 0, 5221, 0, 5221, 0, 5222, 0, 0, 6199, 0, 0, 0, 0, 5221, 0, 0, 5221, 0, 6231, 0, 0, 0, 6195, 0, 0, 6235, 0, 0, 0, 0, 0, 0, 5221, 0, 5222, 0, 0, 0, 0, 0, 0, 5221, 0, 0, 5221, 0, 5221, 0, 5222, 0, 0, 6199, 0, 0, 0, 0, 5221, 0, 0, 5221, 0, 6239, 0, 0, 0, 6195, 0, 0, 7003, 0, 0, 0, 0, 0, 0, 0, 5221, 5225, 0, 0]
def sm_I202 : sm_I := (yX10_part, cX10_part, 2, some .boolean, sm_T202)
def sm_T203 : sm_T := [some (.aload_n 0, 0, 0, 0), some (.iconst 0, 0, 0, 0), some (.putfield 175, 10, 31, 0), none, none, some (.aload_n 0, 0, 0, 0), some (.iconst 0, 0, 0, 0), some (.putfield 184, 10, 32, 0), none, none, some (.aload_n 0, 0, 0, 0), some (.iconst 0, 0, 0, 0), some (.putfield 190, 10, 33, 0), none, none, some (.aload_n 0, 0, 0, 0), some (.bipush 12, 0, 0, 0), none, some (.putfield 187, 10, 34, 0), none, none, some (.aload_n 0, 0, 0, 0), some (.iconst 0, 0, 0, 0), some (.putfield 193, 10, 35, 0), none, none, some (.aload_n 0, 0, 0, 0), some (.iconst 0, 0, 0, 0), some (.putfield 196, 10, 36, 0), none, none, some (.aload_n 0, 0, 0, 0), some (.iconst 0, 0, 0, 0), some (.putfield 199, 10, 37, 0), none, none, some (.aload_n 0, 0, 0, 0), some (.iconst 0, 0, 0, 0), some (.putfield 202, 10, 38, 0), none, none, some (.aload_n 0, 0, 0, 0), some (.bipush 115, 0, 0, 0), none, some (.invokevirtual 178, 191, 1, 10), none, none, some (.ifCond .eq 28, 75, 0, 0), none, none, some (.aload_n 0, 0, 0, 0), some (.bipush 111, 0, 0, 0), none, some (.invokevirtual 178, 191, 1, 10), none, none, some (.ifCond .eq 19, 75, 0, 0), none, none, some (.aload_n 0, 0, 0, 0), some (.bipush 32, 0, 0, 0), none, some (.invokevirtual 178, 191, 1, 10), none, none, some (.ifCond .eq 10, 75, 0, 0), none, none, some (.aload_n 0, 0, 0, 0), some (.invokevirtual 220, 196, 0, 10), none, none, some (.ifCond .ne 5, 77, 0, 0), none, none, some (.iconst 0, 0, 0, 0), some (.ireturn, 0, 0, 0), some (.aload_n 0, 0, 0, 0), some (.getfield 175, 10, 31, 0), none, none, some (.bipush 12, 0, 0, 0), none, some (.if_icmp .ge 42, 125, 0, 0), none, none, some (.aload_n 0, 0, 0, 0), some (.getfield 145, 10, 26, 0), none, none, some (.aload_n 0, 0, 0, 0), some (.getfield 148, 10, 27, 0), none, none, some (.if_icmp .ge 31, 125, 0, 0), none, none, some (.aload_n 0, 0, 0, 0), some (.invokevirtual 154, 190, 0, 10), none, none, some (.bipush 44, 0, 0, 0), none, some (.if_icmp .ne 22, 125, 0, 0), none, none, some (.aload_n 0, 0, 0, 0), some (.dup, 0, 0, 0), some (.getfield 145, 10, 26, 0), none, none, some (.iconst 1, 0, 0, 0), some (.iadd, 0, 0, 0), some (.putfield 145, 10, 26, 0), none, none, some (.aload_n 0, 0, 0, 0), some (.invokevirtual 220, 196, 0, 10), none, none, some (.ifCond .ne (-43), 77, 0, 0), none, none, some (.iconst 0, 0, 0, 0), some (.ireturn, 0, 0, 0), some (.aload_n 0, 0, 0, 0), some (.getfield 145, 10, 26, 0), none, none, some (.aload_n 0, 0, 0, 0), some (.getfield 148, 10, 27, 0), none, none, some (.if_icmp .ge 21, 154, 0, 0), none, none, some (.aload_n 0, 0, 0, 0), some (.bipush 59, 0, 0, 0), none, some (.invokevirtual 178, 191, 1, 10), none, none, some (.ifCond .eq 10, 152, 0, 0), none, none, some (.aload_n 0, 0, 0, 0), some (.invokevirtual 223, 202, 0, 10), none, none, some (.ifCond .ne (-24), 125, 0, 0), none, none, some (.iconst 0, 0, 0, 0), some (.ireturn, 0, 0, 0), some (.iconst 1, 0, 0, 0), some (.ireturn, 0, 0, 0)]
def sm_H203 : List Nat := [0, 0, 5226, 0, 0, 5227, 0, 0, 5228, 0, 0, 5229, 0, 0, 5230, 0, 0, 5231, 0, 0, 5232, 0, 0, 5233, 0, 0, 6195, 0, 0, 0, 6195, 0, 0, 0, 6195, 0, 0, 6203, 0, 0, 0, 0, 5226, 0, 0, 0, 5221, 0, 5222, 0, 0, 6199, 0, 0, 0, 0, 5221, 0, 0, 5221, 0, 6203, 0, 0, 0, 0, 5221, 0, 5222, 0, 0, 0, 6195, 0, 0, 6219, 0, 0, 0, 0, 0]
def sm_I203 : sm_I := (yX10_reads, cX10_reads, 1, some .boolean, sm_T203)
def sm_T204 : sm_T := [some (.aload_n 0, 0, 0, 0), some (.iload_n 1, 0, 0, 0), some (.invokevirtual 226, 189, 1, 10), none, none, some (.istore_n 2, 0, 0, 0), some (.iload_n 2, 0, 0, 0), some (.ifCond .eq 9, 16, 0, 0), none, none, some (.aload_n 0, 0, 0, 0), some (.iload_n 2, 0, 0, 0), some (.invokevirtual 131, 174, 1, 10), none, none, some (.ireturn, 0, 0, 0), some (.aload_n 0, 0, 0, 0), some (.bipush 64, 0, 0, 0), none, some (.iload_n 1, 0, 0, 0), some (.imul, 0, 0, 0), some (.putfield 151, 10, 25, 0), none, none, some (.aload_n 0, 0, 0, 0), some (.iconst 0, 0, 0, 0), some (.putfield 145, 10, 26, 0), none, none, some (.aload_n 0, 0, 0, 0), some (.aload_n 0, 0, 0, 0), some (.getfield 23, 10, 6, 0), none, none, some (.iload_n 1, 0, 0, 0), some (.iaload, 0, 0, 0), some (.putfield 148, 10, 27, 0), none, none, some (.aload_n 0, 0, 0, 0), some (.iconst (-1), 0, 0, 0), some (.putfield 9, 10, 2, 0), none, none, some (.aload_n 0, 0, 0, 0), some (.invokevirtual 229, 203, 0, 10), none, none, some (.ifCond .ne 18, 66, 0, 0), none, none, some (.aload_n 0, 0, 0, 0), some (.aload_n 0, 0, 0, 0), some (.getfield 158, 10, 30, 0), none, none, some (.putfield 9, 10, 2, 0), none, none, some (.aload_n 0, 0, 0, 0), some (.bipush (-6), 0, 0, 0), none, some (.invokevirtual 131, 174, 1, 10), none, none, some (.ireturn, 0, 0, 0), some (.aload_n 0, 0, 0, 0), some (.getfield 118, 10, 0, 0), none, none, some (.bipush 8, 0, 0, 0), none, some (.if_icmp .ne 10, 82, 0, 0), none, none, some (.aload_n 0, 0, 0, 0), some (.bipush (-7), 0, 0, 0), none, some (.invokevirtual 131, 174, 1, 10), none, none, some (.ireturn, 0, 0, 0), some (.aload_n 0, 0, 0, 0), some (.dup, 0, 0, 0), some (.getfield 118, 10, 0, 0), none, none, some (.dup_x1, 0, 0, 0), some (.iconst 1, 0, 0, 0), some (.iadd, 0, 0, 0), some (.putfield 118, 10, 0, 0), none, none, some (.istore_n 3, 0, 0, 0), some (.aload_n 0, 0, 0, 0), some (.getfield 36, 10, 10, 0), none, none, some (.iload_n 3, 0, 0, 0), some (.aload_n 0, 0, 0, 0), some (.getfield 175, 10, 31, 0), none, none, some (.iastore, 0, 0, 0), some (.aload_n 0, 0, 0, 0), some (.getfield 39, 10, 11, 0), none, none, some (.iload_n 3, 0, 0, 0), some (.aload_n 0, 0, 0, 0), some (.getfield 184, 10, 32, 0), none, none, some (.iastore, 0, 0, 0), some (.aload_n 0, 0, 0, 0), some (.getfield 42, 10, 12, 0), none, none, some (.iload_n 3, 0, 0, 0), some (.aload_n 0, 0, 0, 0), some (.getfield 190, 10, 33, 0), none, none, some (.iastore, 0, 0, 0), some (.aload_n 0, 0, 0, 0), some (.getfield 45, 10, 13, 0), none, none, some (.iload_n 3, 0, 0, 0), some (.aload_n 0, 0, 0, 0), some (.getfield 187, 10, 34, 0), none, none, some (.iastore, 0, 0, 0), some (.aload_n 0, 0, 0, 0), some (.getfield 48, 10, 14, 0), none, none, some (.iload_n 3, 0, 0, 0), some (.aload_n 0, 0, 0, 0), some (.getfield 193, 10, 35, 0), none, none, some (.iastore, 0, 0, 0), some (.aload_n 0, 0, 0, 0), some (.getfield 51, 10, 15, 0), none, none, some (.iload_n 3, 0, 0, 0), some (.aload_n 0, 0, 0, 0), some (.getfield 196, 10, 36, 0), none, none, some (.iastore, 0, 0, 0), some (.aload_n 0, 0, 0, 0), some (.getfield 54, 10, 16, 0), none, none, some (.iload_n 3, 0, 0, 0), some (.aload_n 0, 0, 0, 0), some (.getfield 199, 10, 37, 0), none, none, some (.iastore, 0, 0, 0), some (.aload_n 0, 0, 0, 0), some (.getfield 57, 10, 17, 0), none, none, some (.iload_n 3, 0, 0, 0), some (.aload_n 0, 0, 0, 0), some (.getfield 202, 10, 38, 0), none, none, some (.iastore, 0, 0, 0), some (.iconst 0, 0, 0, 0), some (.istore 4, 0, 0, 0), none, some (.iload 4, 0, 0, 0), none, some (.aload_n 0, 0, 0, 0), some (.getfield 175, 10, 31, 0), none, none, some (.if_icmp .ge 47, 230, 0, 0), none, none, some (.aload_n 0, 0, 0, 0), some (.getfield 60, 10, 18, 0), none, none, some (.bipush 12, 0, 0, 0), none, some (.iload_n 3, 0, 0, 0), some (.imul, 0, 0, 0), some (.iload 4, 0, 0, 0), none, some (.iadd, 0, 0, 0), some (.aload_n 0, 0, 0, 0), some (.getfield 81, 10, 39, 0), none, none, some (.iload 4, 0, 0, 0), none, some (.iaload, 0, 0, 0), some (.iastore, 0, 0, 0), some (.aload_n 0, 0, 0, 0), some (.getfield 63, 10, 19, 0), none, none, some (.bipush 12, 0, 0, 0), none, some (.iload_n 3, 0, 0, 0), some (.imul, 0, 0, 0), some (.iload 4, 0, 0, 0), none, some (.iadd, 0, 0, 0), some (.aload_n 0, 0, 0, 0), some (.getfield 84, 10, 40, 0), none, none, some (.iload 4, 0, 0, 0), none, some (.iaload, 0, 0, 0), some (.iastore, 0, 0, 0), some (.iinc 4 1, 0, 0, 0), none, none, some (.goto (-50), 177, 0, 0), none, none, some (.iload_n 3, 0, 0, 0), some (.ireturn, 0, 0, 0)]
def sm_H204 : List Nat := [0, 0, 6187, 0, 0, 0, 0, 0, 6135, 0, 0, 0, 0, 0, 5220, 0, 0, 5221, 0, 0, 5201, 0, 0, 5222, 0, 0, 5197, 0, 6191, 0, 0, 0, 5225, 5197, 0, 0, 6135, 0, 0, 5195, 0, 0, 0, 0, 6135, 0, 0, 0, 5195, 0, 0, 0, 5195, 0, 0, 5205, 0, 0, 5226, 0, 0, 5206, 0, 0, 5227, 0, 0, 5207, 0, 0, 5228, 0, 0, 5208, 0, 0, 5229, 0, 0, 5209, 0, 0, 5230, 0, 0, 5210, 0, 0, 5231, 0, 0, 5211, 0, 0, 5232, 0, 0, 5212, 0, 0, 5233, 0, 0, 0, 0, 0, 5226, 0, 0, 5213, 0, 0, 0, 0, 0, 0, 5234, 0, 0, 0, 0, 5214, 0, 0, 0, 0, 0, 0, 5235, 0, 0, 0, 0, 0, 0, 0]
def sm_I204 : sm_I := (yX10_talk, cX10_talk, 5, some .int, sm_T204)
def sm_T205 : sm_T := [some (.aload_n 0, 0, 0, 0), some (.getfield 9, 10, 2, 0), none, none, some (.ireturn, 0, 0, 0)]
def sm_H205 : List Nat := [0, 5197, 0]
def sm_I205 : sm_I := (yX10_fault, cX10_fault, 1, some .int, sm_T205)
def sm_T206 : sm_T := [some (.aload_n 0, 0, 0, 0), some (.iload_n 1, 0, 0, 0), some (.invokevirtual 121, 178, 1, 10), none, none, some (.ifCond .eq 13, 18, 0, 0), none, none, some (.iload_n 2, 0, 0, 0), some (.ifCond .lt 9, 18, 0, 0), none, none, some (.iload_n 2, 0, 0, 0), some (.bipush 7, 0, 0, 0), none, some (.if_icmp .le 10, 25, 0, 0), none, none, some (.aload_n 0, 0, 0, 0), some (.bipush (-5), 0, 0, 0), none, some (.invokevirtual 232, 175, 1, 10), none, none, some (.ireturn, 0, 0, 0), some (.iload_n 2, 0, 0, 0), some (.tableswitch 91 0 6 #[42, 49, 56, 63, 70, 77, 84], 0, 0, 0), none, none, none, none, none, none, none, none, none, none, none, none, none, none, none, none, none, none, none, none, none, none, none, none, none, none, none, none, none, none, none, none, none, none, none, none, none, none, none, none, none, some (.aload_n 0, 0, 0, 0), some (.getfield 36, 10, 10, 0), none, none, some (.iload_n 1, 0, 0, 0), some (.iaload, 0, 0, 0), some (.ireturn, 0, 0, 0), some (.aload_n 0, 0, 0, 0), some (.getfield 39, 10, 11, 0), none, none, some (.iload_n 1, 0, 0, 0), some (.iaload, 0, 0, 0), some (.ireturn, 0, 0, 0), some (.aload_n 0, 0, 0, 0), some (.getfield 42, 10, 12, 0), none, none, some (.iload_n 1, 0, 0, 0), some (.iaload, 0, 0, 0), some (.ireturn, 0, 0, 0), some (.aload_n 0, 0, 0, 0), some (.getfield 45, 10, 13, 0), none, none, some (.iload_n 1, 0, 0, 0), some (.iaload, 0, 0, 0), some (.ireturn, 0, 0, 0), some (.aload_n 0, 0, 0, 0), some (.getfield 48, 10, 14, 0), none, none, some (.iload_n 1, 0, 0, 0), some (.iaload, 0, 0, 0), some (.ireturn, 0, 0, 0), some (.aload_n 0, 0, 0, 0), some (.getfield 51, 10, 15, 0), none, none, some (.iload_n 1, 0, 0, 0), some (.iaload, 0, 0, 0), some (.ireturn, 0, 0, 0), some (.aload_n 0, 0, 0, 0), some (.getfield 54, 10, 16, 0), none, none, some (.iload_n 1, 0, 0, 0), some (.iaload, 0, 0, 0), some (.ireturn, 0, 0, 0), some (.aload_n 0, 0, 0, 0), some (.getfield 57, 10, 17, 0), none, none, some (.iload_n 1, 0, 0, 0), some (.iaload, 0, 0, 0), some (.ireturn, 0, 0, 0)]
def sm_H206 : List Nat := [0, 0, 7015, 0, 0, 0, 0, 0, 0, 0, 0, 7019, 0, 0, 0, 0, 5205, 0, 0, 0, 0, 5206, 0, 0, 0, 0, 5207, 0, 0, 0, 0, 5208, 0, 0, 0, 0, 5209, 0, 0, 0, 0, 5210, 0, 0, 0, 0, 5211, 0, 0, 0, 0, 5212, 0, 0, 0]
def sm_I206 : sm_I := (yX10_talkOf, cX10_talkOf, 3, some .int, sm_T206)
def sm_T207 : sm_T := [some (.aload_n 0, 0, 0, 0), some (.iload_n 1, 0, 0, 0), some (.iload_n 2, 0, 0, 0), some (.invokevirtual 235, 179, 2, 10), none, none, some (.ifCond .eq 12, 18, 0, 0), none, none, some (.iload_n 3, 0, 0, 0), some (.ifCond .lt 8, 18, 0, 0), none, none, some (.iload_n 3, 0, 0, 0), some (.iconst 1, 0, 0, 0), some (.if_icmp .le 10, 25, 0, 0), none, none, some (.aload_n 0, 0, 0, 0), some (.bipush (-5), 0, 0, 0), none, some (.invokevirtual 131, 174, 1, 10), none, none, some (.ireturn, 0, 0, 0), some (.iload_n 3, 0, 0, 0), some (.ifCond .ne 17, 43, 0, 0), none, none, some (.aload_n 0, 0, 0, 0), some (.getfield 60, 10, 18, 0), none, none, some (.bipush 12, 0, 0, 0), none, some (.iload_n 1, 0, 0, 0), some (.imul, 0, 0, 0), some (.iload_n 2, 0, 0, 0), some (.iadd, 0, 0, 0), some (.iaload, 0, 0, 0), some (.goto 14, 54, 0, 0), none, none, some (.aload_n 0, 0, 0, 0), some (.getfield 63, 10, 19, 0), none, none, some (.bipush 12, 0, 0, 0), none, some (.iload_n 1, 0, 0, 0), some (.imul, 0, 0, 0), some (.iload_n 2, 0, 0, 0), some (.iadd, 0, 0, 0), some (.iaload, 0, 0, 0), some (.ireturn, 0, 0, 0)]
def sm_H207 : List Nat := [0, 0, 0, 7028, 0, 0, 0, 0, 0, 0, 0, 0, 6135, 0, 0, 0, 0, 5213, 0, 0, 0, 0, 0, 0, 0, 0, 5214, 0, 0, 0, 0, 0, 0, 0]
def sm_I207 : sm_I := (yX10_truth, cX10_truth, 4, some .int, sm_T207)
def sm_T208 : sm_T := [some (.aload_n 0, 0, 0, 0), some (.getfield 48, 10, 14, 0), none, none, some (.iload_n 1, 0, 0, 0), some (.iaload, 0, 0, 0), some (.ifCond .ne 9, 15, 0, 0), none, none, some (.lload_n 2, 0, 0, 0), some (.lload_n 2, 0, 0, 0), some (.lmul, 0, 0, 0), some (.goto 15, 27, 0, 0), none, none, some (.lload_n 2, 0, 0, 0), some (.lconst 0, 0, 0, 0), some (.lcmp, 0, 0, 0), some (.ifCond .ge 8, 26, 0, 0), none, none, some (.lload_n 2, 0, 0, 0), some (.lneg, 0, 0, 0), some (.goto 4, 27, 0, 0), none, none, some (.lload_n 2, 0, 0, 0), some (.lreturn, 0, 0, 0)]
def sm_H208 : List Nat := [0, 5209, 0, 0, 0, 0, 0, 0, 0, 0, 0, 0, 0, 0, 0, 0, 0, 0]
def sm_I208 : sm_I := (yX10_loses, cX10_loses, 4, some .long, sm_T208)
def sm_T209 : sm_T := [some (.lconst 0, 0, 0, 0), some (.lstore_n 3, 0, 0, 0), some (.lconst 0, 0, 0, 0), some (.lstore 5, 0, 0, 0), none, some (.iconst 0, 0, 0, 0), some (.istore 7, 0, 0, 0), none, some (.iload 7, 0, 0, 0), none, some (.aload_n 0, 0, 0, 0), some (.getfield 36, 10, 10, 0), none, none, some (.iload_n 1, 0, 0, 0), some (.iaload, 0, 0, 0), some (.if_icmp .ge 47, 63, 0, 0), none, none, some (.lload_n 3, 0, 0, 0), some (.aload_n 0, 0, 0, 0), some (.getfield 87, 10, 41, 0), none, none, some (.iload 7, 0, 0, 0), none, some (.laload, 0, 0, 0), some (.ladd, 0, 0, 0), some (.lstore_n 3, 0, 0, 0), some (.lload 5, 0, 0, 0), none, some (.aload_n 0, 0, 0, 0), some (.getfield 87, 10, 41, 0), none, none, some (.iload 7, 0, 0, 0), none, some (.laload, 0, 0, 0), some (.aload_n 0, 0, 0, 0), some (.getfield 60, 10, 18, 0), none, none, some (.bipush 12, 0, 0, 0), none, some (.iload_n 1, 0, 0, 0), some (.imul, 0, 0, 0), some (.iload 7, 0, 0, 0), none, some (.iadd, 0, 0, 0), some (.iaload, 0, 0, 0), some (.iload_n 2, 0, 0, 0), some (.iadd, 0, 0, 0), some (.i2l, 0, 0, 0), some (.lmul, 0, 0, 0), some (.ladd, 0, 0, 0), some (.lstore 5, 0, 0, 0), none, some (.iinc 7 1, 0, 0, 0), none, none, some (.goto (-52), 8, 0, 0), none, none, some (.aload_n 0, 0, 0, 0), some (.getfield 48, 10, 14, 0), none, none, some (.iload_n 1, 0, 0, 0), some (.iaload, 0, 0, 0), some (.ifCond .ne 50, 119, 0, 0), none, none, some (.lload 5, 0, 0, 0), none, some (.lload_n 3, 0, 0, 0), some (.ldiv, 0, 0, 0), some (.lstore 7, 0, 0, 0), none, some (.lload 7, 0, 0, 0), none, some (.lload_n 3, 0, 0, 0), some (.lmul, 0, 0, 0), some (.lload 5, 0, 0, 0), none, some (.lcmp, 0, 0, 0), some (.ifCond .le 9, 94, 0, 0), none, none, some (.lload 7, 0, 0, 0), none, some (.lconst 1, 0, 0, 0), some (.lsub, 0, 0, 0), some (.lstore 7, 0, 0, 0), none, some (.ldc2_w 238, 2, 0, 0), none, none, some (.lload 5, 0, 0, 0), none, some (.lload 7, 0, 0, 0), none, some (.lload_n 3, 0, 0, 0), some (.lmul, 0, 0, 0), some (.lsub, 0, 0, 0), some (.lmul, 0, 0, 0), some (.lload_n 3, 0, 0, 0), some (.lcmp, 0, 0, 0), some (.ifCond .le 69, 176, 0, 0), none, none, some (.lload 7, 0, 0, 0), none, some (.lconst 1, 0, 0, 0), some (.ladd, 0, 0, 0), some (.lstore 7, 0, 0, 0), none, some (.goto 60, 176, 0, 0), none, none, some (.iconst 0, 0, 0, 0), some (.istore 9, 0, 0, 0), none, some (.aload_n 0, 0, 0, 0), some (.getfield 87, 10, 41, 0), none, none, some (.iconst 0, 0, 0, 0), some (.laload, 0, 0, 0), some (.lstore 10, 0, 0, 0), none, some (.ldc2_w 238, 2, 0, 0), none, none, some (.lload 10, 0, 0, 0), none, some (.lmul, 0, 0, 0), some (.lload_n 3, 0, 0, 0), some (.lcmp, 0, 0, 0), some (.ifCond .ge 21, 159, 0, 0), none, none, some (.iinc 9 1, 0, 0, 0), none, none, some (.lload 10, 0, 0, 0), none, some (.aload_n 0, 0, 0, 0), some (.getfield 87, 10, 41, 0), none, none, some (.iload 9, 0, 0, 0), none, some (.laload, 0, 0, 0), some (.ladd, 0, 0, 0), some (.lstore 10, 0, 0, 0), none, some (.goto (-26), 130, 0, 0), none, none, some (.aload_n 0, 0, 0, 0), some (.getfield 60, 10, 18, 0), none, none, some (.bipush 12, 0, 0, 0), none, some (.iload_n 1, 0, 0, 0), some (.imul, 0, 0, 0), some (.iload 9, 0, 0, 0), none, some (.iadd, 0, 0, 0), some (.iaload, 0, 0, 0), some (.iload_n 2, 0, 0, 0), some (.iadd, 0, 0, 0), some (.i2l, 0, 0, 0), some (.lstore 7, 0, 0, 0), none, some (.lload 7, 0, 0, 0), none, some (.lconst 0, 0, 0, 0), some (.lcmp, 0, 0, 0), some (.ifCond .ge 7, 187, 0, 0), none, none, some (.iconst 0, 0, 0, 0), some (.goto 21, 205, 0, 0), none, none, some (.lload 7, 0, 0, 0), none, some (.ldc2_w 240, 999, 0, 0), none, none, some (.lcmp, 0, 0, 0), some (.ifCond .le 9, 202, 0, 0), none, none, some (.sipush 999, 0, 0, 0), none, none, some (.goto 6, 205, 0, 0), none, none, some (.lload 7, 0, 0, 0), none, some (.l2i, 0, 0, 0), some (.ireturn, 0, 0, 0)]
def sm_H209 : List Nat := [0, 0, 0, 0, 0, 0, 0, 0, 5205, 0, 0, 0, 0, 0, 5236, 0, 0, 0, 0, 0, 0, 5236, 0, 0, 0, 5213, 0, 0, 0, 0, 0, 0, 0, 0, 0, 0, 0, 0, 0, 0, 0, 5209, 0, 0, 0, 0, 0, 0, 0, 0, 0, 0, 0, 0, 0, 0, 0, 0, 0, 7044, 0, 0, 0, 0, 0, 0, 0, 0, 0, 0, 0, 0, 0, 0, 0, 0, 0, 5236, 0, 0, 0, 7044, 0, 0, 0, 0, 0, 0, 0, 0, 5236, 0, 0, 0, 0, 0, 0, 5213, 0, 0, 0, 0, 0, 0, 0, 0, 0, 0, 0, 0, 0, 0, 0, 0, 0, 7045, 0, 0, 0, 0, 0, 0, 0]
def sm_I209 : sm_I := (yX10_least, cX10_least, 12, some .int, sm_T209)
def sm_T210 : sm_T := [some (.iconst 0, 0, 0, 0), some (.istore 4, 0, 0, 0), none, some (.iload 4, 0, 0, 0), none, some (.aload_n 0, 0, 0, 0), some (.getfield 36, 10, 10, 0), none, none, some (.iload_n 1, 0, 0, 0), some (.iaload, 0, 0, 0), some (.if_icmp .ge 43, 54, 0, 0), none, none, some (.aload_n 0, 0, 0, 0), some (.getfield 87, 10, 41, 0), none, none, some (.iload 4, 0, 0, 0), none, some (.iload_n 2, 0, 0, 0), some (.iload 4, 0, 0, 0), none, some (.ishr, 0, 0, 0), some (.iconst 1, 0, 0, 0), some (.iand, 0, 0, 0), some (.iconst 1, 0, 0, 0), some (.if_icmp .ne 19, 46, 0, 0), none, none, some (.aload_n 0, 0, 0, 0), some (.getfield 63, 10, 19, 0), none, none, some (.bipush 12, 0, 0, 0), none, some (.iload_n 1, 0, 0, 0), some (.imul, 0, 0, 0), some (.iload 4, 0, 0, 0), none, some (.iadd, 0, 0, 0), some (.iaload, 0, 0, 0), some (.i2l, 0, 0, 0), some (.goto 4, 47, 0, 0), none, none, some (.lconst 0, 0, 0, 0), some (.lastore, 0, 0, 0), some (.iinc 4 1, 0, 0, 0), none, none, some (.goto (-48), 3, 0, 0), none, none, some (.aload_n 0, 0, 0, 0), some (.iload_n 1, 0, 0, 0), some (.iload_n 3, 0, 0, 0), some (.invokevirtual 242, 209, 2, 10), none, none, some (.ireturn, 0, 0, 0)]
def sm_H210 : List Nat := [0, 0, 0, 0, 5205, 0, 0, 0, 0, 5236, 0, 0, 0, 0, 0, 0, 0, 0, 0, 5214, 0, 0, 0, 0, 0, 0, 0, 0, 0, 0, 0, 0, 0, 0, 0, 7040, 0]
def sm_I210 : sm_I := (yX10_doneAt, cX10_doneAt, 5, some .int, sm_T210)
def sm_T211 : sm_T := [some (.aload_n 0, 0, 0, 0), some (.iload_n 1, 0, 0, 0), some (.invokevirtual 121, 178, 1, 10), none, none, some (.ifCond .eq 19, 24, 0, 0), none, none, some (.iload_n 2, 0, 0, 0), some (.ifCond .lt 15, 24, 0, 0), none, none, some (.iload_n 2, 0, 0, 0), some (.iconst 1, 0, 0, 0), some (.aload_n 0, 0, 0, 0), some (.getfield 36, 10, 10, 0), none, none, some (.iload_n 1, 0, 0, 0), some (.iaload, 0, 0, 0), some (.ishl, 0, 0, 0), some (.if_icmp .lt 9, 30, 0, 0), none, none, some (.aload_n 0, 0, 0, 0), some (.iconst (-1), 0, 0, 0), some (.invokevirtual 131, 174, 1, 10), none, none, some (.ireturn, 0, 0, 0), some (.iload_n 2, 0, 0, 0), some (.ifCond .ne 10, 41, 0, 0), none, none, some (.aload_n 0, 0, 0, 0), some (.bipush (-6), 0, 0, 0), none, some (.invokevirtual 131, 174, 1, 10), none, none, some (.ireturn, 0, 0, 0), some (.aload_n 0, 0, 0, 0), some (.iload_n 1, 0, 0, 0), some (.iload_n 2, 0, 0, 0), some (.aload_n 0, 0, 0, 0), some (.getfield 42, 10, 12, 0), none, none, some (.iload_n 1, 0, 0, 0), some (.iaload, 0, 0, 0), some (.invokevirtual 246, 210, 3, 10), none, none, some (.ireturn, 0, 0, 0)]
def sm_H211 : List Nat := [0, 0, 7015, 0, 0, 0, 0, 0, 0, 5205, 0, 0, 0, 0, 0, 0, 6135, 0, 0, 0, 0, 0, 6135, 0, 0, 0, 0, 0, 5207, 0, 0, 7036, 0]
def sm_I211 : sm_I := (yX10_done, cX10_done, 3, some .int, sm_T211)
def sm_T212 : sm_T := [some (.aload_n 0, 0, 0, 0), some (.iload_n 1, 0, 0, 0), some (.invokevirtual 121, 178, 1, 10), none, none, some (.ifCond .ne 9, 14, 0, 0), none, none, some (.aload_n 0, 0, 0, 0), some (.iconst (-1), 0, 0, 0), some (.invokevirtual 232, 175, 1, 10), none, none, some (.ireturn, 0, 0, 0), some (.iload_n 2, 0, 0, 0), some (.ifCond .lt 22, 37, 0, 0), none, none, some (.iload_n 2, 0, 0, 0), some (.iconst 1, 0, 0, 0), some (.if_icmp .gt 17, 37, 0, 0), none, none, some (.iload_n 3, 0, 0, 0), some (.sipush (-500), 0, 0, 0), none, none, some (.if_icmp .lt 10, 37, 0, 0), none, none, some (.iload_n 3, 0, 0, 0), some (.sipush 500, 0, 0, 0), none, none, some (.if_icmp .le 10, 44, 0, 0), none, none, some (.aload_n 0, 0, 0, 0), some (.bipush (-6), 0, 0, 0), none, some (.invokevirtual 232, 175, 1, 10), none, none, some (.ireturn, 0, 0, 0), some (.iload_n 2, 0, 0, 0), some (.ifCond .ne 12, 57, 0, 0), none, none, some (.aload_n 0, 0, 0, 0), some (.getfield 39, 10, 11, 0), none, none, some (.iload_n 1, 0, 0, 0), some (.iaload, 0, 0, 0), some (.goto 9, 63, 0, 0), none, none, some (.aload_n 0, 0, 0, 0), some (.getfield 42, 10, 12, 0), none, none, some (.iload_n 1, 0, 0, 0), some (.iaload, 0, 0, 0), some (.istore 4, 0, 0, 0), none, some (.iload_n 2, 0, 0, 0), some (.ifCond .ne 13, 79, 0, 0), none, none, some (.aload_n 0, 0, 0, 0), some (.getfield 39, 10, 11, 0), none, none, some (.iload_n 1, 0, 0, 0), some (.iload_n 3, 0, 0, 0), some (.iastore, 0, 0, 0), some (.goto 10, 86, 0, 0), none, none, some (.aload_n 0, 0, 0, 0), some (.getfield 42, 10, 12, 0), none, none, some (.iload_n 1, 0, 0, 0), some (.iload_n 3, 0, 0, 0), some (.iastore, 0, 0, 0), some (.iload 4, 0, 0, 0), none, some (.ireturn, 0, 0, 0)]
def sm_H212 : List Nat := [0, 0, 7015, 0, 0, 0, 7019, 0, 0, 0, 0, 0, 0, 0, 0, 0, 0, 0, 0, 0, 0, 7019, 0, 0, 0, 0, 5206, 0, 0, 0, 0, 5207, 0, 0, 0, 0, 0, 0, 5206, 0, 0, 0, 0, 0, 5207, 0, 0, 0, 0, 0]
def sm_I212 : sm_I := (yX10_change, cX10_change, 5, some .int, sm_T212)
def sm_T213 : sm_T := [some (.aload_n 0, 0, 0, 0), some (.iload_n 1, 0, 0, 0), some (.iload_n 2, 0, 0, 0), some (.invokevirtual 235, 179, 2, 10), none, none, some (.ifCond .ne 9, 15, 0, 0), none, none, some (.aload_n 0, 0, 0, 0), some (.iconst (-1), 0, 0, 0), some (.invokevirtual 131, 174, 1, 10), none, none, some (.ireturn, 0, 0, 0), some (.iload_n 3, 0, 0, 0), some (.iconst 1, 0, 0, 0), some (.if_icmp .lt 9, 26, 0, 0), none, none, some (.iload_n 3, 0, 0, 0), some (.bipush 99, 0, 0, 0), none, some (.if_icmp .le 10, 33, 0, 0), none, none, some (.aload_n 0, 0, 0, 0), some (.bipush (-6), 0, 0, 0), none, some (.invokevirtual 131, 174, 1, 10), none, none, some (.ireturn, 0, 0, 0), some (.aload_n 0, 0, 0, 0), some (.getfield 63, 10, 19, 0), none, none, some (.bipush 12, 0, 0, 0), none, some (.iload_n 1, 0, 0, 0), some (.imul, 0, 0, 0), some (.iload_n 2, 0, 0, 0), some (.iadd, 0, 0, 0), some (.iaload, 0, 0, 0), some (.istore 4, 0, 0, 0), none, some (.aload_n 0, 0, 0, 0), some (.getfield 63, 10, 19, 0), none, none, some (.bipush 12, 0, 0, 0), none, some (.iload_n 1, 0, 0, 0), some (.imul, 0, 0, 0), some (.iload_n 2, 0, 0, 0), some (.iadd, 0, 0, 0), some (.iload_n 3, 0, 0, 0), some (.iastore, 0, 0, 0), some (.iload 4, 0, 0, 0), none, some (.ireturn, 0, 0, 0)]
def sm_H213 : List Nat := [0, 0, 0, 7028, 0, 0, 0, 6135, 0, 0, 0, 0, 0, 0, 0, 0, 0, 6135, 0, 0, 5214, 0, 0, 0, 0, 0, 0, 0, 0, 5214, 0, 0, 0, 0, 0, 0, 0, 0, 0]
def sm_I213 : sm_I := (yX10_chance, cX10_chance, 5, some .int, sm_T213)
def sm_T214 : sm_T := [some (.iconst 0, 0, 0, 0), some (.istore_n 2, 0, 0, 0), some (.iload_n 1, 0, 0, 0), some (.istore_n 3, 0, 0, 0), some (.iload_n 3, 0, 0, 0), some (.ifCond .le 16, 21, 0, 0), none, none, some (.iload_n 2, 0, 0, 0), some (.iload_n 3, 0, 0, 0), some (.iconst 1, 0, 0, 0), some (.iand, 0, 0, 0), some (.iadd, 0, 0, 0), some (.istore_n 2, 0, 0, 0), some (.iload_n 3, 0, 0, 0), some (.iconst 1, 0, 0, 0), some (.ishr, 0, 0, 0), some (.istore_n 3, 0, 0, 0), some (.goto (-14), 4, 0, 0), none, none, some (.iload_n 2, 0, 0, 0), some (.ireturn, 0, 0, 0)]
def sm_H214 : List Nat := [0, 0, 0, 0, 0, 0, 0, 0, 0, 0, 0, 0, 0, 0, 0, 0, 0, 0, 0]
def sm_I214 : sm_I := (yX10_cutsOf, cX10_cutsOf, 4, some .int, sm_T214)
def sm_T215 : sm_T := [some (.iload_n 2, 0, 0, 0), some (.ifCond .eq 13, 14, 0, 0), none, none, some (.iload_n 2, 0, 0, 0), some (.iconst 2, 0, 0, 0), some (.if_icmp .eq 8, 14, 0, 0), none, none, some (.iload_n 2, 0, 0, 0), some (.iconst 5, 0, 0, 0), some (.if_icmp .ne 7, 18, 0, 0), none, none, some (.iconst 1, 0, 0, 0), some (.goto 4, 19, 0, 0), none, none, some (.iconst 0, 0, 0, 0), some (.istore 5, 0, 0, 0), none, some (.aload_n 0, 0, 0, 0), some (.iload_n 1, 0, 0, 0), some (.invokevirtual 121, 178, 1, 10), none, none, some (.ifCond .eq 25, 51, 0, 0), none, none, some (.iload_n 2, 0, 0, 0), some (.ifCond .lt 21, 51, 0, 0), none, none, some (.iload_n 2, 0, 0, 0), some (.iconst 5, 0, 0, 0), some (.if_icmp .gt 16, 51, 0, 0), none, none, some (.iload 5, 0, 0, 0), none, some (.ifCond .eq 17, 57, 0, 0), none, none, some (.aload_n 0, 0, 0, 0), some (.iload_n 3, 0, 0, 0), some (.invokevirtual 128, 177, 1, 10), none, none, some (.ifCond .ne 9, 57, 0, 0), none, none, some (.aload_n 0, 0, 0, 0), some (.iconst (-1), 0, 0, 0), some (.invokevirtual 131, 174, 1, 10), none, none, some (.ireturn, 0, 0, 0), some (.iload 5, 0, 0, 0), none, some (.ifCond .eq 20, 79, 0, 0), none, none, some (.aload_n 0, 0, 0, 0), some (.getfield 17, 10, 4, 0), none, none, some (.iload_n 3, 0, 0, 0), some (.iaload, 0, 0, 0), some (.iconst 2, 0, 0, 0), some (.if_icmp .ne 10, 79, 0, 0), none, none, some (.aload_n 0, 0, 0, 0), some (.bipush (-2), 0, 0, 0), none, some (.invokevirtual 131, 174, 1, 10), none, none, some (.ireturn, 0, 0, 0), some (.iload 5, 0, 0, 0), none, some (.ifCond .eq 19, 100, 0, 0), none, none, some (.aload_n 0, 0, 0, 0), some (.getfield 17, 10, 4, 0), none, none, some (.iload_n 3, 0, 0, 0), some (.iaload, 0, 0, 0), some (.ifCond .ne 10, 100, 0, 0), none, none, some (.aload_n 0, 0, 0, 0), some (.bipush (-3), 0, 0, 0), none, some (.invokevirtual 131, 174, 1, 10), none, none, some (.ireturn, 0, 0, 0), some (.aload_n 0, 0, 0, 0), some (.getfield 36, 10, 10, 0), none, none, some (.iload_n 1, 0, 0, 0), some (.iaload, 0, 0, 0), some (.istore 6, 0, 0, 0), none, some (.iload 5, 0, 0, 0), none, some (.ifCond .eq 21, 131, 0, 0), none, none, some (.aload_n 0, 0, 0, 0), some (.getfield 23, 10, 6, 0), none, none, some (.iload_n 3, 0, 0, 0), some (.iaload, 0, 0, 0), some (.iload 6, 0, 0, 0), none, some (.if_icmp .ge 10, 131, 0, 0), none, none, some (.aload_n 0, 0, 0, 0), some (.bipush (-5), 0, 0, 0), none, some (.invokevirtual 131, 174, 1, 10), none, none, some (.ireturn, 0, 0, 0), some (.iload 5, 0, 0, 0), none, some (.ifCond .eq 57, 190, 0, 0), none, none, some (.iconst 0, 0, 0, 0), some (.istore 7, 0, 0, 0), none, some (.iload 7, 0, 0, 0), none, some (.iload 6, 0, 0, 0), none, some (.if_icmp .ge 47, 190, 0, 0), none, none, some (.aload_n 0, 0, 0, 0), some (.getfield 29, 10, 8, 0), none, none, some (.bipush 64, 0, 0, 0), none, some (.iload_n 3, 0, 0, 0), some (.imul, 0, 0, 0), some (.iload 7, 0, 0, 0), none, some (.iadd, 0, 0, 0), some (.laload, 0, 0, 0), some (.l2i, 0, 0, 0), some (.istore 8, 0, 0, 0), none, some (.iload 8, 0, 0, 0), none, some (.ifCond .lt 14, 177, 0, 0), none, none, some (.iload 8, 0, 0, 0), none, some (.aload_n 0, 0, 0, 0), some (.getfield 45, 10, 13, 0), none, none, some (.iload_n 1, 0, 0, 0), some (.iaload, 0, 0, 0), some (.if_icmp .lt 10, 184, 0, 0), none, none, some (.aload_n 0, 0, 0, 0), some (.bipush (-6), 0, 0, 0), none, some (.invokevirtual 131, 174, 1, 10), none, none, some (.ireturn, 0, 0, 0), some (.iinc 7 1, 0, 0, 0), none, none, some (.goto (-48), 139, 0, 0), none, none, some (.iload_n 2, 0, 0, 0), some (.iconst 2, 0, 0, 0), some (.if_icmp .ne 22, 214, 0, 0), none, none, some (.iload 4, 0, 0, 0), none, some (.ifCond .lt 10, 207, 0, 0), none, none, some (.iload 4, 0, 0, 0), none, some (.bipush 100, 0, 0, 0), none, some (.if_icmp .le 10, 214, 0, 0), none, none, some (.aload_n 0, 0, 0, 0), some (.bipush (-6), 0, 0, 0), none, some (.invokevirtual 131, 174, 1, 10), none, none, some (.ireturn, 0, 0, 0), some (.iload_n 2, 0, 0, 0), some (.iconst 1, 0, 0, 0), some (.if_icmp .ne 43, 259, 0, 0), none, none, some (.iload 4, 0, 0, 0), none, some (.ifCond .lt 31, 252, 0, 0), none, none, some (.iload 4, 0, 0, 0), none, some (.iconst 1, 0, 0, 0), some (.iload 6, 0, 0, 0), none, some (.iconst 1, 0, 0, 0), some (.isub, 0, 0, 0), some (.ishl, 0, 0, 0), some (.if_icmp .ge 20, 252, 0, 0), none, none, some (.aload_n 0, 0, 0, 0), some (.iload 4, 0, 0, 0), none, some (.invokevirtual 250, 214, 1, 10), none, none, some (.iconst 1, 0, 0, 0), some (.iadd, 0, 0, 0), some (.aload_n 0, 0, 0, 0), some (.getfield 45, 10, 13, 0), none, none, some (.iload_n 1, 0, 0, 0), some (.iaload, 0, 0, 0), some (.if_icmp .le 10, 259, 0, 0), none, none, some (.aload_n 0, 0, 0, 0), some (.bipush (-6), 0, 0, 0), none, some (.invokevirtual 131, 174, 1, 10), none, none, some (.ireturn, 0, 0, 0), some (.iload_n 2, 0, 0, 0), some (.iconst 4, 0, 0, 0), some (.if_icmp .ne 21, 282, 0, 0), none, none, some (.iload 6, 0, 0, 0), none, some (.aload_n 0, 0, 0, 0), some (.getfield 45, 10, 13, 0), none, none, some (.iload_n 1, 0, 0, 0), some (.iaload, 0, 0, 0), some (.if_icmp .le 10, 282, 0, 0), none, none, some (.aload_n 0, 0, 0, 0), some (.bipush (-6), 0, 0, 0), none, some (.invokevirtual 131, 174, 1, 10), none, none, some (.ireturn, 0, 0, 0), some (.aload_n 0, 0, 0, 0), some (.getfield 125, 10, 1, 0), none, none, some (.bipush 12, 0, 0, 0), none, some (.if_icmp .ne 10, 298, 0, 0), none, none, some (.aload_n 0, 0, 0, 0), some (.bipush (-7), 0, 0, 0), none, some (.invokevirtual 131, 174, 1, 10), none, none, some (.ireturn, 0, 0, 0), some (.aload_n 0, 0, 0, 0), some (.dup, 0, 0, 0), some (.getfield 125, 10, 1, 0), none, none, some (.dup_x1, 0, 0, 0), some (.iconst 1, 0, 0, 0), some (.iadd, 0, 0, 0), some (.putfield 125, 10, 1, 0), none, none, some (.istore 7, 0, 0, 0), none, some (.aload_n 0, 0, 0, 0), some (.getfield 66, 10, 20, 0), none, none, some (.iload 7, 0, 0, 0), none, some (.iload_n 1, 0, 0, 0), some (.iastore, 0, 0, 0), some (.aload_n 0, 0, 0, 0), some (.getfield 69, 10, 21, 0), none, none, some (.iload 7, 0, 0, 0), none, some (.iload_n 2, 0, 0, 0), some (.iastore, 0, 0, 0), some (.aload_n 0, 0, 0, 0), some (.getfield 72, 10, 22, 0), none, none, some (.iload 7, 0, 0, 0), none, some (.iload_n 2, 0, 0, 0), some (.iconst 2, 0, 0, 0), some (.if_icmp .ne 8, 343, 0, 0), none, none, some (.iload 4, 0, 0, 0), none, some (.goto 4, 344, 0, 0), none, none, some (.iconst 0, 0, 0, 0), some (.iastore, 0, 0, 0), some (.iconst 0, 0, 0, 0), some (.istore 8, 0, 0, 0), none, some (.iconst 0, 0, 0, 0), some (.istore 9, 0, 0, 0), none, some (.iload 9, 0, 0, 0), none, some (.bipush 12, 0, 0, 0), none, some (.if_icmp .ge 37, 392, 0, 0), none, none, some (.aload_n 0, 0, 0, 0), some (.getfield 78, 10, 24, 0), none, none, some (.bipush 12, 0, 0, 0), none, some (.iload 7, 0, 0, 0), none, some (.imul, 0, 0, 0), some (.iload 9, 0, 0, 0), none, some (.iadd, 0, 0, 0), some (.iconst 0, 0, 0, 0), some (.iastore, 0, 0, 0), some (.aload_n 0, 0, 0, 0), some (.getfield 75, 10, 23, 0), none, none, some (.bipush 12, 0, 0, 0), none, some (.iload 7, 0, 0, 0), none, some (.imul, 0, 0, 0), some (.iload 9, 0, 0, 0), none, some (.iadd, 0, 0, 0), some (.iconst 0, 0, 0, 0), some (.iastore, 0, 0, 0), some (.iinc 9 1, 0, 0, 0), none, none, some (.goto (-38), 351, 0, 0), none, none, some (.iconst 0, 0, 0, 0), some (.istore 9, 0, 0, 0), none, some (.iload 9, 0, 0, 0), none, some (.iload 6, 0, 0, 0), none, some (.if_icmp .ge 107, 506, 0, 0), none, none, some (.iload 5, 0, 0, 0), none, some (.ifCond .eq 32, 436, 0, 0), none, none, some (.aload_n 0, 0, 0, 0), some (.getfield 75, 10, 23, 0), none, none, some (.bipush 12, 0, 0, 0), none, some (.iload 7, 0, 0, 0), none, some (.imul, 0, 0, 0), some (.iload 9, 0, 0, 0), none, some (.iadd, 0, 0, 0), some (.aload_n 0, 0, 0, 0), some (.getfield 29, 10, 8, 0), none, none, some (.bipush 64, 0, 0, 0), none, some (.iload_n 3, 0, 0, 0), some (.imul, 0, 0, 0), some (.iload 9, 0, 0, 0), none, some (.iadd, 0, 0, 0), some (.laload, 0, 0, 0), some (.l2i, 0, 0, 0), some (.iastore, 0, 0, 0), some (.goto 67, 500, 0, 0), none, none, some (.iload_n 2, 0, 0, 0), some (.iconst 4, 0, 0, 0), some (.if_icmp .ne 21, 459, 0, 0), none, none, some (.aload_n 0, 0, 0, 0), some (.getfield 75, 10, 23, 0), none, none, some (.bipush 12, 0, 0, 0), none, some (.iload 7, 0, 0, 0), none, some (.imul, 0, 0, 0), some (.iload 9, 0, 0, 0), none, some (.iadd, 0, 0, 0), some (.iload 9, 0, 0, 0), none, some (.iastore, 0, 0, 0), some (.goto 44, 500, 0, 0), none, none, some (.iload_n 2, 0, 0, 0), some (.iconst 1, 0, 0, 0), some (.if_icmp .ne 39, 500, 0, 0), none, none, some (.iload 9, 0, 0, 0), none, some (.ifCond .le 19, 485, 0, 0), none, none, some (.iload 4, 0, 0, 0), none, some (.iload 9, 0, 0, 0), none, some (.iconst 1, 0, 0, 0), some (.isub, 0, 0, 0), some (.ishr, 0, 0, 0), some (.iconst 1, 0, 0, 0), some (.iand, 0, 0, 0), some (.iconst 1, 0, 0, 0), some (.if_icmp .ne 6, 485, 0, 0), none, none, some (.iinc 8 1, 0, 0, 0), none, none, some (.aload_n 0, 0, 0, 0), some (.getfield 75, 10, 23, 0), none, none, some (.bipush 12, 0, 0, 0), none, some (.iload 7, 0, 0, 0), none, some (.imul, 0, 0, 0), some (.iload 9, 0, 0, 0), none, some (.iadd, 0, 0, 0), some (.iload 8, 0, 0, 0), none, some (.iastore, 0, 0, 0), some (.iinc 9 1, 0, 0, 0), none, none, some (.goto (-108), 395, 0, 0), none, none, some (.iload 7, 0, 0, 0), none, some (.ireturn, 0, 0, 0)]
def sm_H215 : List Nat := [0, 0, 0, 0, 0, 0, 0, 0, 0, 0, 0, 0, 0, 0, 7015, 0, 0, 0, 0, 0, 0, 0, 0, 0, 0, 6131, 0, 0, 0, 6135, 0, 0, 0, 0, 5199, 0, 0, 0, 0, 0, 0, 6135, 0, 0, 0, 0, 5199, 0, 0, 0, 0, 0, 6135, 0, 0, 5205, 0, 0, 0, 0, 0, 0, 5201, 0, 0, 0, 0, 0, 0, 6135, 0, 0, 0, 0, 0, 0, 0, 0, 0, 5203, 0, 0, 0, 0, 0, 0, 0, 0, 0, 0, 0, 0, 5208, 0, 0, 0, 0, 0, 6135, 0, 0, 0, 0, 0, 0, 0, 0, 0, 0, 0, 0, 0, 6135, 0, 0, 0, 0, 0, 0, 0, 0, 0, 0, 0, 0, 0, 0, 0, 6179, 0, 0, 0, 5208, 0, 0, 0, 0, 0, 6135, 0, 0, 0, 0, 0, 0, 5208, 0, 0, 0, 0, 0, 6135, 0, 0, 5196, 0, 0, 0, 0, 6135, 0, 0, 0, 5196, 0, 0, 0, 5196, 0, 0, 5215, 0, 0, 0, 0, 5216, 0, 0, 0, 0, 5217, 0, 0, 0, 0, 0, 0, 0, 0, 0, 0, 0, 0, 0, 0, 0, 0, 5219, 0, 0, 0, 0, 0, 0, 0, 0, 5218, 0, 0, 0, 0, 0, 0, 0, 0, 0, 0, 0, 0, 0, 0, 0, 0, 0, 5218, 0, 0, 0, 0, 0, 0, 5203, 0, 0, 0, 0, 0, 0, 0, 0, 0, 0, 0, 0, 0, 5218, 0, 0, 0, 0, 0, 0, 0, 0, 0, 0, 0, 0, 0, 0, 0, 0, 0, 0, 0, 0, 0, 0, 0, 0, 5218, 0, 0, 0, 0, 0, 0, 0, 0, 0, 0, 0]
def sm_I215 : sm_I := (yX10_meaning, cX10_meaning, 10, some .int, sm_T215)
def sm_T216 : sm_T := [some (.aload_n 0, 0, 0, 0), some (.iload_n 1, 0, 0, 0), some (.invokevirtual 135, 180, 1, 10), none, none, some (.ifCond .ne 9, 14, 0, 0), none, none, some (.aload_n 0, 0, 0, 0), some (.iconst (-1), 0, 0, 0), some (.invokevirtual 131, 174, 1, 10), none, none, some (.ireturn, 0, 0, 0), some (.aload_n 0, 0, 0, 0), some (.getfield 69, 10, 21, 0), none, none, some (.iload_n 1, 0, 0, 0), some (.iaload, 0, 0, 0), some (.iconst 5, 0, 0, 0), some (.if_icmp .eq 10, 31, 0, 0), none, none, some (.aload_n 0, 0, 0, 0), some (.bipush (-2), 0, 0, 0), none, some (.invokevirtual 131, 174, 1, 10), none, none, some (.ireturn, 0, 0, 0), some (.iload_n 2, 0, 0, 0), some (.ifCond .lt 20, 52, 0, 0), none, none, some (.iload_n 2, 0, 0, 0), some (.bipush 11, 0, 0, 0), none, some (.if_icmp .gt 14, 52, 0, 0), none, none, some (.iload_n 3, 0, 0, 0), some (.ifCond .lt 10, 52, 0, 0), none, none, some (.iload_n 3, 0, 0, 0), some (.sipush 999, 0, 0, 0), none, none, some (.if_icmp .le 10, 59, 0, 0), none, none, some (.aload_n 0, 0, 0, 0), some (.bipush (-6), 0, 0, 0), none, some (.invokevirtual 131, 174, 1, 10), none, none, some (.ireturn, 0, 0, 0), some (.aload_n 0, 0, 0, 0), some (.getfield 78, 10, 24, 0), none, none, some (.bipush 12, 0, 0, 0), none, some (.iload_n 1, 0, 0, 0), some (.imul, 0, 0, 0), some (.iload_n 2, 0, 0, 0), some (.iadd, 0, 0, 0), some (.iaload, 0, 0, 0), some (.istore 4, 0, 0, 0), none, some (.aload_n 0, 0, 0, 0), some (.getfield 78, 10, 24, 0), none, none, some (.bipush 12, 0, 0, 0), none, some (.iload_n 1, 0, 0, 0), some (.imul, 0, 0, 0), some (.iload_n 2, 0, 0, 0), some (.iadd, 0, 0, 0), some (.iload_n 3, 0, 0, 0), some (.iastore, 0, 0, 0), some (.iload 4, 0, 0, 0), none, some (.ireturn, 0, 0, 0)]
def sm_H216 : List Nat := [0, 0, 6155, 0, 0, 0, 6135, 0, 0, 5216, 0, 0, 0, 0, 0, 0, 6135, 0, 0, 0, 0, 0, 0, 0, 0, 0, 0, 0, 0, 0, 6135, 0, 0, 5219, 0, 0, 0, 0, 0, 0, 0, 0, 5219, 0, 0, 0, 0, 0, 0, 0, 0, 0]
def sm_I216 : sm_I := (yX10_tell, cX10_tell, 5, some .int, sm_T216)
def sm_T217 : sm_T := [some (.iconst 0, 0, 0, 0), some (.istore_n 2, 0, 0, 0), some (.iconst 0, 0, 0, 0), some (.istore_n 3, 0, 0, 0), some (.iload_n 3, 0, 0, 0), some (.aload_n 0, 0, 0, 0), some (.getfield 36, 10, 10, 0), none, none, some (.aload_n 0, 0, 0, 0), some (.getfield 66, 10, 20, 0), none, none, some (.iload_n 1, 0, 0, 0), some (.iaload, 0, 0, 0), some (.iaload, 0, 0, 0), some (.if_icmp .ge 25, 41, 0, 0), none, none, some (.iload_n 2, 0, 0, 0), some (.iconst 1, 0, 0, 0), some (.aload_n 0, 0, 0, 0), some (.getfield 75, 10, 23, 0), none, none, some (.bipush 12, 0, 0, 0), none, some (.iload_n 1, 0, 0, 0), some (.imul, 0, 0, 0), some (.iload_n 3, 0, 0, 0), some (.iadd, 0, 0, 0), some (.iaload, 0, 0, 0), some (.ishl, 0, 0, 0), some (.ior, 0, 0, 0), some (.istore_n 2, 0, 0, 0), some (.iinc 3 1, 0, 0, 0), none, none, some (.goto (-34), 4, 0, 0), none, none, some (.iload_n 2, 0, 0, 0), some (.ireturn, 0, 0, 0)]
def sm_H217 : List Nat := [0, 0, 0, 0, 0, 0, 5205, 0, 5215, 0, 0, 0, 0, 0, 0, 0, 5218, 0, 0, 0, 0, 0, 0, 0, 0, 0, 0, 0, 0, 0]
def sm_I217 : sm_I := (yX10_usedSet, cX10_usedSet, 4, some .int, sm_T217)
def sm_T218 : sm_T := [some (.aload_n 0, 0, 0, 0), some (.aload_n 0, 0, 0, 0), some (.iload_n 1, 0, 0, 0), some (.invokevirtual 253, 217, 1, 10), none, none, some (.invokevirtual 250, 214, 1, 10), none, none, some (.ireturn, 0, 0, 0)]
def sm_H218 : List Nat := [0, 0, 0, 6175, 6179, 0]
def sm_I218 : sm_I := (yX10_usedBy, cX10_usedBy, 2, some .int, sm_T218)
def sm_T219 : sm_T := [some (.iload_n 2, 0, 0, 0), some (.ifCond .lt 26, 27, 0, 0), none, none, some (.iload_n 2, 0, 0, 0), some (.bipush 12, 0, 0, 0), none, some (.if_icmp .ge 20, 27, 0, 0), none, none, some (.aload_n 0, 0, 0, 0), some (.iload_n 1, 0, 0, 0), some (.invokevirtual 253, 217, 1, 10), none, none, some (.iload_n 2, 0, 0, 0), some (.ishr, 0, 0, 0), some (.iconst 1, 0, 0, 0), some (.iand, 0, 0, 0), some (.iconst 1, 0, 0, 0), some (.if_icmp .ne 7, 27, 0, 0), none, none, some (.iconst 1, 0, 0, 0), some (.goto 4, 28, 0, 0), none, none, some (.iconst 0, 0, 0, 0), some (.ireturn, 0, 0, 0)]
def sm_H219 : List Nat := [0, 0, 0, 0, 0, 0, 0, 6175, 0, 0, 0, 0, 0, 0, 0, 0, 0, 0]
def sm_I219 : sm_I := (yX10_isUsed, cX10_isUsed, 3, some .boolean, sm_T219)
def sm_T220 : sm_T := [some (.aload_n 0, 0, 0, 0), some (.iload_n 1, 0, 0, 0), some (.invokevirtual 135, 180, 1, 10), none, none, some (.ifCond .eq 12, 17, 0, 0), none, none, some (.iload_n 2, 0, 0, 0), some (.ifCond .lt 8, 17, 0, 0), none, none, some (.iload_n 2, 0, 0, 0), some (.iconst 3, 0, 0, 0), some (.if_icmp .le 10, 24, 0, 0), none, none, some (.aload_n 0, 0, 0, 0), some (.bipush (-5), 0, 0, 0), none, some (.invokevirtual 131, 174, 1, 10), none, none, some (.ireturn, 0, 0, 0), some (.iload_n 2, 0, 0, 0), some (.ifCond .ne 12, 37, 0, 0), none, none, some (.aload_n 0, 0, 0, 0), some (.getfield 69, 10, 21, 0), none, none, some (.iload_n 1, 0, 0, 0), some (.iaload, 0, 0, 0), some (.goto 35, 69, 0, 0), none, none, some (.iload_n 2, 0, 0, 0), some (.iconst 1, 0, 0, 0), some (.if_icmp .ne 12, 51, 0, 0), none, none, some (.aload_n 0, 0, 0, 0), some (.getfield 66, 10, 20, 0), none, none, some (.iload_n 1, 0, 0, 0), some (.iaload, 0, 0, 0), some (.goto 21, 69, 0, 0), none, none, some (.iload_n 2, 0, 0, 0), some (.iconst 2, 0, 0, 0), some (.if_icmp .ne 11, 64, 0, 0), none, none, some (.aload_n 0, 0, 0, 0), some (.iload_n 1, 0, 0, 0), some (.invokevirtual 142, 218, 1, 10), none, none, some (.goto 8, 69, 0, 0), none, none, some (.aload_n 0, 0, 0, 0), some (.iload_n 1, 0, 0, 0), some (.invokevirtual 253, 217, 1, 10), none, none, some (.ireturn, 0, 0, 0)]
def sm_H220 : List Nat := [0, 0, 6155, 0, 0, 0, 0, 0, 0, 0, 0, 6135, 0, 0, 0, 0, 5216, 0, 0, 0, 0, 0, 0, 0, 5215, 0, 0, 0, 0, 0, 0, 0, 0, 6171, 0, 0, 0, 6175, 0]
def sm_I220 : sm_I := (yX10_meaningOf, cX10_meaningOf, 3, some .int, sm_T220)
def sm_T221 : sm_T := [some (.aload_n 0, 0, 0, 0), some (.iload_n 1, 0, 0, 0), some (.invokevirtual 135, 180, 1, 10), none, none, some (.ifCond .eq 17, 22, 0, 0), none, none, some (.aload_n 0, 0, 0, 0), some (.aload_n 0, 0, 0, 0), some (.getfield 66, 10, 20, 0), none, none, some (.iload_n 1, 0, 0, 0), some (.iaload, 0, 0, 0), some (.iload_n 2, 0, 0, 0), some (.invokevirtual 235, 179, 2, 10), none, none, some (.ifCond .ne 10, 29, 0, 0), none, none, some (.aload_n 0, 0, 0, 0), some (.bipush (-5), 0, 0, 0), none, some (.invokevirtual 131, 174, 1, 10), none, none, some (.ireturn, 0, 0, 0), some (.aload_n 0, 0, 0, 0), some (.getfield 75, 10, 23, 0), none, none, some (.bipush 12, 0, 0, 0), none, some (.iload_n 1, 0, 0, 0), some (.imul, 0, 0, 0), some (.iload_n 2, 0, 0, 0), some (.iadd, 0, 0, 0), some (.iaload, 0, 0, 0), some (.ireturn, 0, 0, 0)]
def sm_H221 : List Nat := [0, 0, 6155, 0, 0, 0, 5215, 0, 0, 0, 7028, 0, 0, 0, 6135, 0, 0, 5218, 0, 0, 0, 0, 0, 0, 0]
def sm_I221 : sm_I := (yX10_word, cX10_word, 3, some .int, sm_T221)
def sm_T222 : sm_T := [some (.aload_n 0, 0, 0, 0), some (.iload_n 1, 0, 0, 0), some (.invokevirtual 135, 180, 1, 10), none, none, some (.ifCond .eq 12, 17, 0, 0), none, none, some (.aload_n 0, 0, 0, 0), some (.iload_n 1, 0, 0, 0), some (.iload_n 2, 0, 0, 0), some (.invokevirtual 256, 219, 2, 10), none, none, some (.ifCond .ne 10, 24, 0, 0), none, none, some (.aload_n 0, 0, 0, 0), some (.bipush (-5), 0, 0, 0), none, some (.invokevirtual 131, 174, 1, 10), none, none, some (.ireturn, 0, 0, 0), some (.iconst 0, 0, 0, 0), some (.istore_n 3, 0, 0, 0), some (.iconst 0, 0, 0, 0), some (.istore 4, 0, 0, 0), none, some (.iload 4, 0, 0, 0), none, some (.aload_n 0, 0, 0, 0), some (.getfield 36, 10, 10, 0), none, none, some (.aload_n 0, 0, 0, 0), some (.getfield 66, 10, 20, 0), none, none, some (.iload_n 1, 0, 0, 0), some (.iaload, 0, 0, 0), some (.iaload, 0, 0, 0), some (.if_icmp .ge 32, 74, 0, 0), none, none, some (.aload_n 0, 0, 0, 0), some (.getfield 75, 10, 23, 0), none, none, some (.bipush 12, 0, 0, 0), none, some (.iload_n 1, 0, 0, 0), some (.imul, 0, 0, 0), some (.iload 4, 0, 0, 0), none, some (.iadd, 0, 0, 0), some (.iaload, 0, 0, 0), some (.iload_n 2, 0, 0, 0), some (.if_icmp .ne 10, 68, 0, 0), none, none, some (.iload_n 3, 0, 0, 0), some (.iconst 1, 0, 0, 0), some (.iload 4, 0, 0, 0), none, some (.ishl, 0, 0, 0), some (.ior, 0, 0, 0), some (.istore_n 3, 0, 0, 0), some (.iinc 4 1, 0, 0, 0), none, none, some (.goto (-42), 29, 0, 0), none, none, some (.iload_n 3, 0, 0, 0), some (.ireturn, 0, 0, 0)]
def sm_H222 : List Nat := [0, 0, 6155, 0, 0, 0, 0, 7074, 0, 0, 0, 6135, 0, 0, 0, 0, 0, 0, 0, 5205, 0, 5215, 0, 0, 0, 0, 0, 5218, 0, 0, 0, 0, 0, 0, 0, 0, 0, 0, 0, 0, 0, 0, 0, 0, 0, 0]
def sm_I222 : sm_I := (yX10_thought, cX10_thought, 5, some .int, sm_T222)
def sm_T223 : sm_T := [some (.aload_n 0, 0, 0, 0), some (.getfield 66, 10, 20, 0), none, none, some (.iload_n 1, 0, 0, 0), some (.iaload, 0, 0, 0), some (.istore_n 3, 0, 0, 0), some (.aload_n 0, 0, 0, 0), some (.iload_n 1, 0, 0, 0), some (.invokevirtual 142, 218, 1, 10), none, none, some (.istore 4, 0, 0, 0), none, some (.iconst 0, 0, 0, 0), some (.istore 5, 0, 0, 0), none, some (.iload 5, 0, 0, 0), none, some (.aload_n 0, 0, 0, 0), some (.getfield 36, 10, 10, 0), none, none, some (.iload_n 3, 0, 0, 0), some (.iaload, 0, 0, 0), some (.if_icmp .ge 110, 135, 0, 0), none, none, some (.aload_n 0, 0, 0, 0), some (.getfield 75, 10, 23, 0), none, none, some (.bipush 12, 0, 0, 0), none, some (.iload_n 1, 0, 0, 0), some (.imul, 0, 0, 0), some (.iload 5, 0, 0, 0), none, some (.iadd, 0, 0, 0), some (.iaload, 0, 0, 0), some (.iload_n 2, 0, 0, 0), some (.if_icmp .ne 7, 48, 0, 0), none, none, some (.iconst 1, 0, 0, 0), some (.goto 4, 49, 0, 0), none, none, some (.iconst 0, 0, 0, 0), some (.istore 6, 0, 0, 0), none, some (.aload_n 0, 0, 0, 0), some (.getfield 63, 10, 19, 0), none, none, some (.bipush 12, 0, 0, 0), none, some (.iload_n 3, 0, 0, 0), some (.imul, 0, 0, 0), some (.iload 5, 0, 0, 0), none, some (.iadd, 0, 0, 0), some (.iaload, 0, 0, 0), some (.i2l, 0, 0, 0), some (.lstore 7, 0, 0, 0), none, some (.aload_n 0, 0, 0, 0), some (.getfield 87, 10, 41, 0), none, none, some (.iload 5, 0, 0, 0), none, some (.aload_n 0, 0, 0, 0), some (.getfield 69, 10, 21, 0), none, none, some (.iload_n 1, 0, 0, 0), some (.iaload, 0, 0, 0), some (.iconst 2, 0, 0, 0), some (.if_icmp .ne 38, 117, 0, 0), none, none, some (.lload 7, 0, 0, 0), none, some (.iload 6, 0, 0, 0), none, some (.ifCond .eq 15, 101, 0, 0), none, none, some (.aload_n 0, 0, 0, 0), some (.getfield 72, 10, 22, 0), none, none, some (.iload_n 1, 0, 0, 0), some (.iaload, 0, 0, 0), some (.iload 4, 0, 0, 0), none, some (.imul, 0, 0, 0), some (.goto 4, 102, 0, 0), none, none, some (.iconst 0, 0, 0, 0), some (.bipush 100, 0, 0, 0), none, some (.iadd, 0, 0, 0), some (.aload_n 0, 0, 0, 0), some (.getfield 72, 10, 22, 0), none, none, some (.iload_n 1, 0, 0, 0), some (.iaload, 0, 0, 0), some (.isub, 0, 0, 0), some (.i2l, 0, 0, 0), some (.lmul, 0, 0, 0), some (.goto 14, 128, 0, 0), none, none, some (.iload 6, 0, 0, 0), none, some (.ifCond .eq 8, 127, 0, 0), none, none, some (.lload 7, 0, 0, 0), none, some (.goto 4, 128, 0, 0), none, none, some (.lconst 0, 0, 0, 0), some (.lastore, 0, 0, 0), some (.iinc 5 1, 0, 0, 0), none, none, some (.goto (-115), 17, 0, 0), none, none, some (.return_, 0, 0, 0)]
def sm_H223 : List Nat := [0, 5215, 0, 0, 0, 0, 0, 6171, 0, 0, 0, 0, 0, 5205, 0, 0, 0, 0, 5218, 0, 0, 0, 0, 0, 0, 0, 0, 0, 0, 0, 0, 0, 5214, 0, 0, 0, 0, 0, 0, 0, 0, 0, 5236, 0, 0, 5216, 0, 0, 0, 0, 0, 0, 0, 0, 5217, 0, 0, 0, 0, 0, 0, 0, 0, 0, 5217, 0, 0, 0, 0, 0, 0, 0, 0, 0, 0, 0, 0, 0, 0, 0]
def sm_I223 : sm_I := (yX10_weighs, cX10_weighs, 9, none, sm_T223)
def sm_T224 : sm_T := [some (.aload_n 0, 0, 0, 0), some (.getfield 69, 10, 21, 0), none, none, some (.iload_n 1, 0, 0, 0), some (.iaload, 0, 0, 0), some (.iconst 5, 0, 0, 0), some (.if_icmp .ne 15, 22, 0, 0), none, none, some (.aload_n 0, 0, 0, 0), some (.getfield 78, 10, 24, 0), none, none, some (.bipush 12, 0, 0, 0), none, some (.iload_n 1, 0, 0, 0), some (.imul, 0, 0, 0), some (.iload_n 2, 0, 0, 0), some (.iadd, 0, 0, 0), some (.iaload, 0, 0, 0), some (.ireturn, 0, 0, 0), some (.aload_n 0, 0, 0, 0), some (.iload_n 1, 0, 0, 0), some (.iload_n 2, 0, 0, 0), some (.invokevirtual 259, 223, 2, 10), none, none, some (.aload_n 0, 0, 0, 0), some (.aload_n 0, 0, 0, 0), some (.getfield 66, 10, 20, 0), none, none, some (.iload_n 1, 0, 0, 0), some (.iaload, 0, 0, 0), some (.aload_n 0, 0, 0, 0), some (.getfield 42, 10, 12, 0), none, none, some (.aload_n 0, 0, 0, 0), some (.getfield 66, 10, 20, 0), none, none, some (.iload_n 1, 0, 0, 0), some (.iaload, 0, 0, 0), some (.iaload, 0, 0, 0), some (.invokevirtual 242, 209, 2, 10), none, none, some (.ireturn, 0, 0, 0)]
def sm_H224 : List Nat := [0, 5216, 0, 0, 0, 0, 0, 5219, 0, 0, 0, 0, 0, 0, 0, 0, 0, 0, 7086, 0, 0, 5215, 0, 0, 0, 5207, 0, 5215, 0, 0, 0, 7040, 0]
def sm_I224 : sm_I := (yX10_actOf, cX10_actOf, 3, some .int, sm_T224)
def sm_T225 : sm_T := [some (.aload_n 0, 0, 0, 0), some (.iload_n 1, 0, 0, 0), some (.invokevirtual 135, 180, 1, 10), none, none, some (.ifCond .eq 12, 17, 0, 0), none, none, some (.aload_n 0, 0, 0, 0), some (.iload_n 1, 0, 0, 0), some (.iload_n 2, 0, 0, 0), some (.invokevirtual 256, 219, 2, 10), none, none, some (.ifCond .ne 10, 24, 0, 0), none, none, some (.aload_n 0, 0, 0, 0), some (.bipush (-5), 0, 0, 0), none, some (.invokevirtual 131, 174, 1, 10), none, none, some (.ireturn, 0, 0, 0), some (.aload_n 0, 0, 0, 0), some (.iload_n 1, 0, 0, 0), some (.iload_n 2, 0, 0, 0), some (.invokevirtual 263, 224, 2, 10), none, none, some (.ireturn, 0, 0, 0)]
def sm_H225 : List Nat := [0, 0, 6155, 0, 0, 0, 0, 7074, 0, 0, 0, 6135, 0, 0, 0, 0, 7082, 0]
def sm_I225 : sm_I := (yX10_does, cX10_does, 3, some .int, sm_T225)
def sm_T226 : sm_T := [some (.aload_n 0, 0, 0, 0), some (.aload_n 0, 0, 0, 0), some (.iload_n 1, 0, 0, 0), some (.invokevirtual 253, 217, 1, 10), none, none, some (.putfield 266, 10, 43, 0), none, none, some (.aload_n 0, 0, 0, 0), some (.aload_n 0, 0, 0, 0), some (.iload_n 1, 0, 0, 0), some (.invokevirtual 142, 218, 1, 10), none, none, some (.putfield 269, 10, 44, 0), none, none, some (.iconst 0, 0, 0, 0), some (.istore_n 2, 0, 0, 0), some (.iload_n 2, 0, 0, 0), some (.bipush 12, 0, 0, 0), none, some (.if_icmp .ge 33, 56, 0, 0), none, none, some (.aload_n 0, 0, 0, 0), some (.getfield 266, 10, 43, 0), none, none, some (.iload_n 2, 0, 0, 0), some (.ishr, 0, 0, 0), some (.iconst 1, 0, 0, 0), some (.iand, 0, 0, 0), some (.iconst 1, 0, 0, 0), some (.if_icmp .ne 15, 50, 0, 0), none, none, some (.aload_n 0, 0, 0, 0), some (.getfield 90, 10, 42, 0), none, none, some (.iload_n 2, 0, 0, 0), some (.aload_n 0, 0, 0, 0), some (.iload_n 1, 0, 0, 0), some (.iload_n 2, 0, 0, 0), some (.invokevirtual 263, 224, 2, 10), none, none, some (.iastore, 0, 0, 0), some (.iinc 2 1, 0, 0, 0), none, none, some (.goto (-33), 20, 0, 0), none, none, some (.return_, 0, 0, 0)]
def sm_H226 : List Nat := [0, 0, 0, 6175, 5238, 0, 0, 0, 6171, 5239, 0, 0, 0, 0, 0, 0, 5238, 0, 0, 0, 0, 0, 0, 0, 5237, 0, 0, 0, 0, 7082, 0, 0, 0, 0]
def sm_I226 : sm_I := (yX10_acts, cX10_acts, 3, none, sm_T226)
def sm_T227 : sm_T := [some (.aload_n 0, 0, 0, 0), some (.getfield 66, 10, 20, 0), none, none, some (.iload_n 1, 0, 0, 0), some (.iaload, 0, 0, 0), some (.istore 5, 0, 0, 0), none, some (.aload_n 0, 0, 0, 0), some (.getfield 60, 10, 18, 0), none, none, some (.bipush 12, 0, 0, 0), none, some (.iload 5, 0, 0, 0), none, some (.imul, 0, 0, 0), some (.iload_n 2, 0, 0, 0), some (.iadd, 0, 0, 0), some (.iaload, 0, 0, 0), some (.iload 4, 0, 0, 0), none, some (.iadd, 0, 0, 0), some (.i2l, 0, 0, 0), some (.lstore 6, 0, 0, 0), none, some (.aload_n 0, 0, 0, 0), some (.iload 5, 0, 0, 0), none, some (.aload_n 0, 0, 0, 0), some (.getfield 90, 10, 42, 0), none, none, some (.iload_n 3, 0, 0, 0), some (.iaload, 0, 0, 0), some (.i2l, 0, 0, 0), some (.lload 6, 0, 0, 0), none, some (.lsub, 0, 0, 0), some (.invokevirtual 272, 208, 2, 10), none, none, some (.lstore 8, 0, 0, 0), none, some (.aload_n 0, 0, 0, 0), some (.getfield 69, 10, 21, 0), none, none, some (.iload_n 1, 0, 0, 0), some (.iaload, 0, 0, 0), some (.iconst 2, 0, 0, 0), some (.if_icmp .eq 6, 57, 0, 0), none, none, some (.lload 8, 0, 0, 0), none, some (.lreturn, 0, 0, 0), some (.lconst 0, 0, 0, 0), some (.lstore 10, 0, 0, 0), none, some (.iconst 0, 0, 0, 0), some (.istore 12, 0, 0, 0), none, some (.iload 12, 0, 0, 0), none, some (.bipush 12, 0, 0, 0), none, some (.if_icmp .ge 44, 111, 0, 0), none, none, some (.aload_n 0, 0, 0, 0), some (.getfield 266, 10, 43, 0), none, none, some (.iload 12, 0, 0, 0), none, some (.ishr, 0, 0, 0), some (.iconst 1, 0, 0, 0), some (.iand, 0, 0, 0), some (.iconst 1, 0, 0, 0), some (.if_icmp .ne 25, 105, 0, 0), none, none, some (.lload 10, 0, 0, 0), none, some (.aload_n 0, 0, 0, 0), some (.iload 5, 0, 0, 0), none, some (.aload_n 0, 0, 0, 0), some (.getfield 90, 10, 42, 0), none, none, some (.iload 12, 0, 0, 0), none, some (.iaload, 0, 0, 0), some (.i2l, 0, 0, 0), some (.lload 6, 0, 0, 0), none, some (.lsub, 0, 0, 0), some (.invokevirtual 272, 208, 2, 10), none, none, some (.ladd, 0, 0, 0), some (.lstore 10, 0, 0, 0), none, some (.iinc 12 1, 0, 0, 0), none, none, some (.goto (-45), 63, 0, 0), none, none, some (.aload_n 0, 0, 0, 0), some (.getfield 72, 10, 22, 0), none, none, some (.iload_n 1, 0, 0, 0), some (.iaload, 0, 0, 0), some (.aload_n 0, 0, 0, 0), some (.getfield 269, 10, 44, 0), none, none, some (.imul, 0, 0, 0), some (.i2l, 0, 0, 0), some (.lload 8, 0, 0, 0), none, some (.lmul, 0, 0, 0), some (.bipush 100, 0, 0, 0), none, some (.aload_n 0, 0, 0, 0), some (.getfield 72, 10, 22, 0), none, none, some (.iload_n 1, 0, 0, 0), some (.iaload, 0, 0, 0), some (.isub, 0, 0, 0), some (.i2l, 0, 0, 0), some (.lload 10, 0, 0, 0), none, some (.lmul, 0, 0, 0), some (.ladd, 0, 0, 0), some (.lreturn, 0, 0, 0)]
def sm_H227 : List Nat := [0, 5215, 0, 0, 0, 0, 5213, 0, 0, 0, 0, 0, 0, 0, 0, 0, 0, 0, 0, 0, 5237, 0, 0, 0, 0, 0, 7106, 0, 0, 5216, 0, 0, 0, 0, 0, 0, 0, 0, 0, 0, 0, 0, 0, 0, 5238, 0, 0, 0, 0, 0, 0, 0, 0, 0, 0, 5237, 0, 0, 0, 0, 0, 7106, 0, 0, 0, 0, 0, 5217, 0, 0, 0, 5239, 0, 0, 0, 0, 0, 0, 5217, 0, 0, 0, 0, 0, 0, 0, 0]
def sm_I227 : sm_I := (yX10_losesBy, cX10_losesBy, 13, some .long, sm_T227)
def sm_T228 : sm_T := [some (.aload_n 0, 0, 0, 0), some (.getfield 66, 10, 20, 0), none, none, some (.iload_n 1, 0, 0, 0), some (.iaload, 0, 0, 0), some (.istore_n 2, 0, 0, 0), some (.aload_n 0, 0, 0, 0), some (.iload_n 1, 0, 0, 0), some (.invokevirtual 276, 226, 1, 10), none, none, some (.iconst 0, 0, 0, 0), some (.istore_n 3, 0, 0, 0), some (.iload_n 3, 0, 0, 0), some (.aload_n 0, 0, 0, 0), some (.getfield 36, 10, 10, 0), none, none, some (.iload_n 2, 0, 0, 0), some (.iaload, 0, 0, 0), some (.if_icmp .ge 91, 112, 0, 0), none, none, some (.aload_n 0, 0, 0, 0), some (.iload_n 1, 0, 0, 0), some (.iload_n 3, 0, 0, 0), some (.aload_n 0, 0, 0, 0), some (.getfield 75, 10, 23, 0), none, none, some (.bipush 12, 0, 0, 0), none, some (.iload_n 1, 0, 0, 0), some (.imul, 0, 0, 0), some (.iload_n 3, 0, 0, 0), some (.iadd, 0, 0, 0), some (.iaload, 0, 0, 0), some (.aload_n 0, 0, 0, 0), some (.getfield 39, 10, 11, 0), none, none, some (.iload_n 2, 0, 0, 0), some (.iaload, 0, 0, 0), some (.invokevirtual 280, 227, 4, 10), none, none, some (.lstore 4, 0, 0, 0), none, some (.iconst 0, 0, 0, 0), some (.istore 6, 0, 0, 0), none, some (.iload 6, 0, 0, 0), none, some (.bipush 12, 0, 0, 0), none, some (.if_icmp .ge 50, 106, 0, 0), none, none, some (.aload_n 0, 0, 0, 0), some (.getfield 266, 10, 43, 0), none, none, some (.iload 6, 0, 0, 0), none, some (.ishr, 0, 0, 0), some (.iconst 1, 0, 0, 0), some (.iand, 0, 0, 0), some (.iconst 1, 0, 0, 0), some (.if_icmp .ne 31, 100, 0, 0), none, none, some (.aload_n 0, 0, 0, 0), some (.iload_n 1, 0, 0, 0), some (.iload_n 3, 0, 0, 0), some (.iload 6, 0, 0, 0), none, some (.aload_n 0, 0, 0, 0), some (.getfield 39, 10, 11, 0), none, none, some (.iload_n 2, 0, 0, 0), some (.iaload, 0, 0, 0), some (.invokevirtual 280, 227, 4, 10), none, none, some (.lload 4, 0, 0, 0), none, some (.lcmp, 0, 0, 0), some (.ifCond .ge 11, 100, 0, 0), none, none, some (.bipush 100, 0, 0, 0), none, some (.iload_n 3, 0, 0, 0), some (.imul, 0, 0, 0), some (.iload 6, 0, 0, 0), none, some (.iadd, 0, 0, 0), some (.ireturn, 0, 0, 0), some (.iinc 6 1, 0, 0, 0), none, none, some (.goto (-51), 52, 0, 0), none, none, some (.iinc 3 1, 0, 0, 0), none, none, some (.goto (-95), 14, 0, 0), none, none, some (.aload_n 0, 0, 0, 0), some (.getfield 69, 10, 21, 0), none, none, some (.iload_n 1, 0, 0, 0), some (.iaload, 0, 0, 0), some (.iconst 5, 0, 0, 0), some (.if_icmp .eq 5, 124, 0, 0), none, none, some (.iconst (-1), 0, 0, 0), some (.ireturn, 0, 0, 0), some (.iconst 0, 0, 0, 0), some (.istore_n 3, 0, 0, 0), some (.iload_n 3, 0, 0, 0), some (.bipush 12, 0, 0, 0), none, some (.if_icmp .ge 36, 165, 0, 0), none, none, some (.aload_n 0, 0, 0, 0), some (.getfield 266, 10, 43, 0), none, none, some (.iload_n 3, 0, 0, 0), some (.ishr, 0, 0, 0), some (.iconst 1, 0, 0, 0), some (.iand, 0, 0, 0), some (.iconst 1, 0, 0, 0), some (.if_icmp .ne 18, 159, 0, 0), none, none, some (.aload_n 0, 0, 0, 0), some (.iload_n 1, 0, 0, 0), some (.iload_n 3, 0, 0, 0), some (.invokevirtual 284, 229, 2, 10), none, none, some (.ifCond .eq 9, 159, 0, 0), none, none, some (.sipush 10000, 0, 0, 0), none, none, some (.iload_n 3, 0, 0, 0), some (.iadd, 0, 0, 0), some (.ireturn, 0, 0, 0), some (.iinc 3 1, 0, 0, 0), none, none, some (.goto (-36), 126, 0, 0), none, none, some (.iconst (-1), 0, 0, 0), some (.ireturn, 0, 0, 0)]
def sm_H228 : List Nat := [0, 5215, 0, 0, 0, 0, 0, 7098, 0, 0, 0, 0, 5205, 0, 0, 0, 0, 0, 0, 0, 5218, 0, 0, 0, 0, 0, 0, 0, 5206, 0, 0, 7102, 0, 0, 0, 0, 0, 0, 0, 5238, 0, 0, 0, 0, 0, 0, 0, 0, 0, 0, 0, 5206, 0, 0, 7102, 0, 0, 0, 0, 0, 0, 0, 0, 0, 0, 0, 0, 0, 0, 5216, 0, 0, 0, 0, 0, 0, 0, 0, 0, 0, 0, 0, 5238, 0, 0, 0, 0, 0, 0, 0, 0, 0, 7110, 0, 0, 0, 0, 0, 0, 0, 0, 0]
def sm_I228 : sm_I := (yX10_failsAt, cX10_failsAt, 7, some .int, sm_T228)
def sm_T229 : sm_T := [some (.aload_n 0, 0, 0, 0), some (.getfield 66, 10, 20, 0), none, none, some (.iload_n 1, 0, 0, 0), some (.iaload, 0, 0, 0), some (.istore_n 3, 0, 0, 0), some (.aload_n 0, 0, 0, 0), some (.iload_n 1, 0, 0, 0), some (.iload_n 2, 0, 0, 0), some (.invokevirtual 259, 223, 2, 10), none, none, some (.aload_n 0, 0, 0, 0), some (.iload_n 3, 0, 0, 0), some (.aload_n 0, 0, 0, 0), some (.getfield 42, 10, 12, 0), none, none, some (.iload_n 3, 0, 0, 0), some (.iaload, 0, 0, 0), some (.invokevirtual 242, 209, 2, 10), none, none, some (.istore 4, 0, 0, 0), none, some (.lconst 0, 0, 0, 0), some (.lstore 5, 0, 0, 0), none, some (.lconst 0, 0, 0, 0), some (.lstore 7, 0, 0, 0), none, some (.iconst 0, 0, 0, 0), some (.istore 9, 0, 0, 0), none, some (.iload 9, 0, 0, 0), none, some (.aload_n 0, 0, 0, 0), some (.getfield 36, 10, 10, 0), none, none, some (.iload_n 3, 0, 0, 0), some (.iaload, 0, 0, 0), some (.if_icmp .ge 95, 138, 0, 0), none, none, some (.lload 5, 0, 0, 0), none, some (.aload_n 0, 0, 0, 0), some (.getfield 87, 10, 41, 0), none, none, some (.iload 9, 0, 0, 0), none, some (.laload, 0, 0, 0), some (.aload_n 0, 0, 0, 0), some (.iload_n 3, 0, 0, 0), some (.iload 4, 0, 0, 0), none, some (.aload_n 0, 0, 0, 0), some (.getfield 60, 10, 18, 0), none, none, some (.bipush 12, 0, 0, 0), none, some (.iload_n 3, 0, 0, 0), some (.imul, 0, 0, 0), some (.iload 9, 0, 0, 0), none, some (.iadd, 0, 0, 0), some (.iaload, 0, 0, 0), some (.isub, 0, 0, 0), some (.aload_n 0, 0, 0, 0), some (.getfield 42, 10, 12, 0), none, none, some (.iload_n 3, 0, 0, 0), some (.iaload, 0, 0, 0), some (.isub, 0, 0, 0), some (.i2l, 0, 0, 0), some (.invokevirtual 272, 208, 2, 10), none, none, some (.lmul, 0, 0, 0), some (.ladd, 0, 0, 0), some (.lstore 5, 0, 0, 0), none, some (.lload 7, 0, 0, 0), none, some (.aload_n 0, 0, 0, 0), some (.getfield 87, 10, 41, 0), none, none, some (.iload 9, 0, 0, 0), none, some (.laload, 0, 0, 0), some (.aload_n 0, 0, 0, 0), some (.iload_n 3, 0, 0, 0), some (.aload_n 0, 0, 0, 0), some (.getfield 90, 10, 42, 0), none, none, some (.iload_n 2, 0, 0, 0), some (.iaload, 0, 0, 0), some (.aload_n 0, 0, 0, 0), some (.getfield 60, 10, 18, 0), none, none, some (.bipush 12, 0, 0, 0), none, some (.iload_n 3, 0, 0, 0), some (.imul, 0, 0, 0), some (.iload 9, 0, 0, 0), none, some (.iadd, 0, 0, 0), some (.iaload, 0, 0, 0), some (.isub, 0, 0, 0), some (.aload_n 0, 0, 0, 0), some (.getfield 42, 10, 12, 0), none, none, some (.iload_n 3, 0, 0, 0), some (.iaload, 0, 0, 0), some (.isub, 0, 0, 0), some (.i2l, 0, 0, 0), some (.invokevirtual 272, 208, 2, 10), none, none, some (.lmul, 0, 0, 0), some (.ladd, 0, 0, 0), some (.lstore 7, 0, 0, 0), none, some (.iinc 9 1, 0, 0, 0), none, none, some (.goto (-100), 35, 0, 0), none, none, some (.lload 5, 0, 0, 0), none, some (.lload 7, 0, 0, 0), none, some (.lcmp, 0, 0, 0), some (.ifCond .ge 7, 150, 0, 0), none, none, some (.iconst 1, 0, 0, 0), some (.goto 4, 151, 0, 0), none, none, some (.iconst 0, 0, 0, 0), some (.ireturn, 0, 0, 0)]
def sm_H229 : List Nat := [0, 5215, 0, 0, 0, 0, 0, 0, 7086, 0, 0, 0, 5207, 0, 0, 7040, 0, 0, 0, 0, 0, 0, 0, 0, 0, 5205, 0, 0, 0, 0, 0, 5236, 0, 0, 0, 0, 0, 0, 5213, 0, 0, 0, 0, 0, 0, 0, 0, 5207, 0, 0, 0, 0, 7106, 0, 0, 0, 0, 0, 5236, 0, 0, 0, 0, 0, 5237, 0, 0, 0, 5213, 0, 0, 0, 0, 0, 0, 0, 0, 5207, 0, 0, 0, 0, 7106, 0, 0, 0, 0, 0, 0, 0, 0, 0, 0, 0, 0, 0]
def sm_I229 : sm_I := (yX10_isWorse, cX10_isWorse, 10, some .boolean, sm_T229)
def sm_T230 : sm_T := [some (.aload_n 0, 0, 0, 0), some (.iload_n 1, 0, 0, 0), some (.invokevirtual 135, 180, 1, 10), none, none, some (.ifCond .eq 11, 16, 0, 0), none, none, some (.aload_n 0, 0, 0, 0), some (.iload_n 1, 0, 0, 0), some (.invokevirtual 287, 228, 1, 10), none, none, some (.goto 9, 22, 0, 0), none, none, some (.aload_n 0, 0, 0, 0), some (.bipush (-5), 0, 0, 0), none, some (.invokevirtual 131, 174, 1, 10), none, none, some (.ireturn, 0, 0, 0)]
def sm_H230 : List Nat := [0, 0, 6155, 0, 0, 0, 7094, 0, 0, 0, 6135, 0]
def sm_I230 : sm_I := (yX10_judge, cX10_judge, 2, some .int, sm_T230)
def sm_T231 : sm_T := [some (.aload_n 0, 0, 0, 0), some (.iload_n 1, 0, 0, 0), some (.invokevirtual 135, 180, 1, 10), none, none, some (.ifCond .eq 26, 31, 0, 0), none, none, some (.aload_n 0, 0, 0, 0), some (.aload_n 0, 0, 0, 0), some (.getfield 66, 10, 20, 0), none, none, some (.iload_n 1, 0, 0, 0), some (.iaload, 0, 0, 0), some (.iload_n 2, 0, 0, 0), some (.invokevirtual 235, 179, 2, 10), none, none, some (.ifCond .eq 12, 31, 0, 0), none, none, some (.aload_n 0, 0, 0, 0), some (.iload_n 1, 0, 0, 0), some (.iload_n 3, 0, 0, 0), some (.invokevirtual 256, 219, 2, 10), none, none, some (.ifCond .ne 11, 39, 0, 0), none, none, some (.aload_n 0, 0, 0, 0), some (.bipush (-5), 0, 0, 0), none, some (.invokevirtual 232, 175, 1, 10), none, none, some (.i2l, 0, 0, 0), some (.lreturn, 0, 0, 0), some (.aload_n 0, 0, 0, 0), some (.iload_n 1, 0, 0, 0), some (.invokevirtual 276, 226, 1, 10), none, none, some (.aload_n 0, 0, 0, 0), some (.iload_n 1, 0, 0, 0), some (.iload_n 2, 0, 0, 0), some (.iload_n 3, 0, 0, 0), some (.aload_n 0, 0, 0, 0), some (.getfield 39, 10, 11, 0), none, none, some (.aload_n 0, 0, 0, 0), some (.getfield 66, 10, 20, 0), none, none, some (.iload_n 1, 0, 0, 0), some (.iaload, 0, 0, 0), some (.iaload, 0, 0, 0), some (.invokevirtual 280, 227, 4, 10), none, none, some (.lreturn, 0, 0, 0)]
def sm_H231 : List Nat := [0, 0, 6155, 0, 0, 0, 5215, 0, 0, 0, 7028, 0, 0, 0, 0, 7074, 0, 0, 0, 7019, 0, 0, 0, 0, 7098, 0, 0, 0, 0, 0, 5206, 0, 5215, 0, 0, 0, 7102, 0]
def sm_I231 : sm_I := (yX10_regret, cX10_regret, 4, some .long, sm_T231)
def sm_T232 : sm_T := [some (.aload_n 0, 0, 0, 0), some (.getfield 66, 10, 20, 0), none, none, some (.iload_n 1, 0, 0, 0), some (.iaload, 0, 0, 0), some (.istore_n 3, 0, 0, 0), some (.aload_n 0, 0, 0, 0), some (.iload_n 1, 0, 0, 0), some (.invokevirtual 276, 226, 1, 10), none, none, some (.lconst 0, 0, 0, 0), some (.lstore 4, 0, 0, 0), none, some (.iconst 0, 0, 0, 0), some (.istore 6, 0, 0, 0), none, some (.iload 6, 0, 0, 0), none, some (.aload_n 0, 0, 0, 0), some (.getfield 36, 10, 10, 0), none, none, some (.iload_n 3, 0, 0, 0), some (.iaload, 0, 0, 0), some (.if_icmp .ge 48, 74, 0, 0), none, none, some (.lload 4, 0, 0, 0), none, some (.aload_n 0, 0, 0, 0), some (.getfield 63, 10, 19, 0), none, none, some (.bipush 12, 0, 0, 0), none, some (.iload_n 3, 0, 0, 0), some (.imul, 0, 0, 0), some (.iload 6, 0, 0, 0), none, some (.iadd, 0, 0, 0), some (.iaload, 0, 0, 0), some (.i2l, 0, 0, 0), some (.aload_n 0, 0, 0, 0), some (.iload_n 1, 0, 0, 0), some (.iload 6, 0, 0, 0), none, some (.aload_n 0, 0, 0, 0), some (.getfield 75, 10, 23, 0), none, none, some (.bipush 12, 0, 0, 0), none, some (.iload_n 1, 0, 0, 0), some (.imul, 0, 0, 0), some (.iload 6, 0, 0, 0), none, some (.iadd, 0, 0, 0), some (.iaload, 0, 0, 0), some (.iload_n 2, 0, 0, 0), some (.invokevirtual 280, 227, 4, 10), none, none, some (.lmul, 0, 0, 0), some (.ladd, 0, 0, 0), some (.lstore 4, 0, 0, 0), none, some (.iinc 6 1, 0, 0, 0), none, none, some (.goto (-53), 18, 0, 0), none, none, some (.lload 4, 0, 0, 0), none, some (.lreturn, 0, 0, 0)]
def sm_H232 : List Nat := [0, 5215, 0, 0, 0, 0, 0, 7098, 0, 0, 0, 0, 0, 0, 5205, 0, 0, 0, 0, 0, 5214, 0, 0, 0, 0, 0, 0, 0, 0, 0, 0, 0, 5218, 0, 0, 0, 0, 0, 0, 0, 7102, 0, 0, 0, 0, 0, 0, 0]
def sm_I232 : sm_I := (yX10_worthOf, cX10_worthOf, 7, some .long, sm_T232)
def sm_T233 : sm_T := [some (.aload_n 0, 0, 0, 0), some (.iload_n 1, 0, 0, 0), some (.invokevirtual 135, 180, 1, 10), none, none, some (.ifCond .eq 12, 17, 0, 0), none, none, some (.iload_n 2, 0, 0, 0), some (.ifCond .lt 8, 17, 0, 0), none, none, some (.iload_n 2, 0, 0, 0), some (.iconst 1, 0, 0, 0), some (.if_icmp .le 11, 25, 0, 0), none, none, some (.aload_n 0, 0, 0, 0), some (.bipush (-5), 0, 0, 0), none, some (.invokevirtual 232, 175, 1, 10), none, none, some (.i2l, 0, 0, 0), some (.lreturn, 0, 0, 0), some (.aload_n 0, 0, 0, 0), some (.iload_n 1, 0, 0, 0), some (.iload_n 2, 0, 0, 0), some (.ifCond .ne 17, 45, 0, 0), none, none, some (.aload_n 0, 0, 0, 0), some (.getfield 42, 10, 12, 0), none, none, some (.aload_n 0, 0, 0, 0), some (.getfield 66, 10, 20, 0), none, none, some (.iload_n 1, 0, 0, 0), some (.iaload, 0, 0, 0), some (.iaload, 0, 0, 0), some (.goto 14, 56, 0, 0), none, none, some (.aload_n 0, 0, 0, 0), some (.getfield 39, 10, 11, 0), none, none, some (.aload_n 0, 0, 0, 0), some (.getfield 66, 10, 20, 0), none, none, some (.iload_n 1, 0, 0, 0), some (.iaload, 0, 0, 0), some (.iaload, 0, 0, 0), some (.invokevirtual 290, 232, 2, 10), none, none, some (.lreturn, 0, 0, 0)]
def sm_H233 : List Nat := [0, 0, 6155, 0, 0, 0, 0, 0, 0, 0, 0, 7019, 0, 0, 0, 0, 0, 0, 0, 5207, 0, 5215, 0, 0, 0, 0, 0, 5206, 0, 5215, 0, 0, 0, 7122, 0]
def sm_I233 : sm_I := (yX10_worth, cX10_worth, 3, some .long, sm_T233)
def sm_T234 : sm_T := [some (.iconst 0, 0, 0, 0), some (.istore_n 3, 0, 0, 0), some (.aload_n 0, 0, 0, 0), some (.getfield 93, 10, 45, 0), none, none, some (.iconst 0, 0, 0, 0), some (.iconst 0, 0, 0, 0), some (.iastore, 0, 0, 0), some (.iconst 1, 0, 0, 0), some (.istore 4, 0, 0, 0), none, some (.iload 4, 0, 0, 0), none, some (.aload_n 0, 0, 0, 0), some (.getfield 36, 10, 10, 0), none, none, some (.iload_n 1, 0, 0, 0), some (.iaload, 0, 0, 0), some (.if_icmp .ge 32, 52, 0, 0), none, none, some (.iload_n 2, 0, 0, 0), some (.iload 4, 0, 0, 0), none, some (.iconst 1, 0, 0, 0), some (.isub, 0, 0, 0), some (.ishr, 0, 0, 0), some (.iconst 1, 0, 0, 0), some (.iand, 0, 0, 0), some (.iconst 1, 0, 0, 0), some (.if_icmp .ne 6, 38, 0, 0), none, none, some (.iinc 3 1, 0, 0, 0), none, none, some (.aload_n 0, 0, 0, 0), some (.getfield 93, 10, 45, 0), none, none, some (.iload 4, 0, 0, 0), none, some (.iload_n 3, 0, 0, 0), some (.iastore, 0, 0, 0), some (.iinc 4 1, 0, 0, 0), none, none, some (.goto (-37), 12, 0, 0), none, none, some (.aload_n 0, 0, 0, 0), some (.iload_n 3, 0, 0, 0), some (.iconst 1, 0, 0, 0), some (.iadd, 0, 0, 0), some (.putfield 294, 10, 48, 0), none, none, some (.return_, 0, 0, 0)]
def sm_H234 : List Nat := [0, 0, 0, 6000, 0, 0, 0, 0, 0, 0, 0, 5205, 0, 0, 0, 0, 0, 0, 0, 0, 0, 0, 0, 0, 0, 0, 6000, 0, 0, 0, 0, 0, 0, 0, 0, 0, 6003, 0]
def sm_I234 : sm_I := (yX10_parts, cX10_parts, 5, none, sm_T234)
def sm_T235 : sm_T := [some (.iconst 0, 0, 0, 0), some (.istore_n 2, 0, 0, 0), some (.iload_n 2, 0, 0, 0), some (.aload_n 0, 0, 0, 0), some (.getfield 294, 10, 48, 0), none, none, some (.if_icmp .ge 99, 106, 0, 0), none, none, some (.iconst 0, 0, 0, 0), some (.istore_n 3, 0, 0, 0), some (.iconst 0, 0, 0, 0), some (.istore 4, 0, 0, 0), none, some (.iload 4, 0, 0, 0), none, some (.aload_n 0, 0, 0, 0), some (.getfield 36, 10, 10, 0), none, none, some (.iload_n 1, 0, 0, 0), some (.iaload, 0, 0, 0), some (.if_icmp .ge 27, 50, 0, 0), none, none, some (.aload_n 0, 0, 0, 0), some (.getfield 93, 10, 45, 0), none, none, some (.iload 4, 0, 0, 0), none, some (.iaload, 0, 0, 0), some (.iload_n 2, 0, 0, 0), some (.if_icmp .ne 10, 44, 0, 0), none, none, some (.iload_n 3, 0, 0, 0), some (.iconst 1, 0, 0, 0), some (.iload 4, 0, 0, 0), none, some (.ishl, 0, 0, 0), some (.ior, 0, 0, 0), some (.istore_n 3, 0, 0, 0), some (.iinc 4 1, 0, 0, 0), none, none, some (.goto (-32), 15, 0, 0), none, none, some (.aload_n 0, 0, 0, 0), some (.getfield 96, 10, 46, 0), none, none, some (.iload_n 2, 0, 0, 0), some (.aload_n 0, 0, 0, 0), some (.iload_n 1, 0, 0, 0), some (.iload_n 3, 0, 0, 0), some (.aload_n 0, 0, 0, 0), some (.getfield 42, 10, 12, 0), none, none, some (.iload_n 1, 0, 0, 0), some (.iaload, 0, 0, 0), some (.invokevirtual 246, 210, 3, 10), none, none, some (.iastore, 0, 0, 0), some (.aload_n 0, 0, 0, 0), some (.getfield 99, 10, 47, 0), none, none, some (.iload_n 2, 0, 0, 0), some (.aload_n 0, 0, 0, 0), some (.getfield 51, 10, 15, 0), none, none, some (.iload_n 1, 0, 0, 0), some (.iaload, 0, 0, 0), some (.iconst 1, 0, 0, 0), some (.if_icmp .ne 18, 98, 0, 0), none, none, some (.aload_n 0, 0, 0, 0), some (.iload_n 1, 0, 0, 0), some (.iload_n 3, 0, 0, 0), some (.aload_n 0, 0, 0, 0), some (.getfield 54, 10, 16, 0), none, none, some (.iload_n 1, 0, 0, 0), some (.iaload, 0, 0, 0), some (.invokevirtual 246, 210, 3, 10), none, none, some (.goto 4, 99, 0, 0), none, none, some (.iconst 0, 0, 0, 0), some (.iastore, 0, 0, 0), some (.iinc 2 1, 0, 0, 0), none, none, some (.goto (-101), 2, 0, 0), none, none, some (.return_, 0, 0, 0)]
def sm_H235 : List Nat := [0, 0, 0, 0, 6003, 0, 0, 0, 0, 0, 0, 0, 5205, 0, 0, 0, 0, 6000, 0, 0, 0, 0, 0, 0, 0, 0, 0, 0, 0, 0, 0, 6001, 0, 0, 0, 0, 0, 5207, 0, 0, 7036, 0, 0, 6002, 0, 0, 5210, 0, 0, 0, 0, 0, 0, 0, 0, 5211, 0, 0, 7036, 0, 0, 0, 0, 0, 0]
def sm_I235 : sm_I := (yX10_hears, cX10_hears, 5, none, sm_T235)
def sm_T236 : sm_T := [some (.aload_n 0, 0, 0, 0), some (.getfield 60, 10, 18, 0), none, none, some (.bipush 12, 0, 0, 0), none, some (.iload_n 1, 0, 0, 0), some (.imul, 0, 0, 0), some (.iload_n 2, 0, 0, 0), some (.iadd, 0, 0, 0), some (.iaload, 0, 0, 0), some (.i2l, 0, 0, 0), some (.lstore 6, 0, 0, 0), none, some (.lconst 0, 0, 0, 0), some (.lstore 8, 0, 0, 0), none, some (.iload 4, 0, 0, 0), none, some (.iconst 1, 0, 0, 0), some (.iand, 0, 0, 0), some (.iconst 1, 0, 0, 0), some (.if_icmp .ne 27, 49, 0, 0), none, none, some (.lload 8, 0, 0, 0), none, some (.aload_n 0, 0, 0, 0), some (.iload_n 1, 0, 0, 0), some (.aload_n 0, 0, 0, 0), some (.getfield 96, 10, 46, 0), none, none, some (.iload_n 3, 0, 0, 0), some (.iaload, 0, 0, 0), some (.i2l, 0, 0, 0), some (.lload 6, 0, 0, 0), none, some (.lsub, 0, 0, 0), some (.iload 5, 0, 0, 0), none, some (.i2l, 0, 0, 0), some (.lsub, 0, 0, 0), some (.invokevirtual 272, 208, 2, 10), none, none, some (.ladd, 0, 0, 0), some (.lstore 8, 0, 0, 0), none, some (.iload 4, 0, 0, 0), none, some (.iconst 2, 0, 0, 0), some (.iand, 0, 0, 0), some (.iconst 2, 0, 0, 0), some (.if_icmp .ne 31, 85, 0, 0), none, none, some (.lload 8, 0, 0, 0), none, some (.aload_n 0, 0, 0, 0), some (.iload_n 1, 0, 0, 0), some (.aload_n 0, 0, 0, 0), some (.getfield 99, 10, 47, 0), none, none, some (.iload_n 3, 0, 0, 0), some (.iaload, 0, 0, 0), some (.i2l, 0, 0, 0), some (.lload 6, 0, 0, 0), none, some (.lsub, 0, 0, 0), some (.aload_n 0, 0, 0, 0), some (.getfield 57, 10, 17, 0), none, none, some (.iload_n 1, 0, 0, 0), some (.iaload, 0, 0, 0), some (.i2l, 0, 0, 0), some (.lsub, 0, 0, 0), some (.invokevirtual 272, 208, 2, 10), none, none, some (.ladd, 0, 0, 0), some (.lstore 8, 0, 0, 0), none, some (.lload 8, 0, 0, 0), none, some (.lreturn, 0, 0, 0)]
def sm_H236 : List Nat := [0, 5213, 0, 0, 0, 0, 0, 0, 0, 0, 0, 0, 0, 0, 0, 0, 0, 0, 0, 0, 0, 6001, 0, 0, 0, 0, 0, 0, 0, 0, 7106, 0, 0, 0, 0, 0, 0, 0, 0, 0, 0, 0, 6002, 0, 0, 0, 0, 0, 0, 5212, 0, 0, 0, 0, 7106, 0, 0, 0, 0]
def sm_I236 : sm_I := (yX10_says_, cX10_says_, 10, some .long, sm_T236)
def sm_T237 : sm_T := [some (.iconst 0, 0, 0, 0), some (.istore 4, 0, 0, 0), none, some (.iload 4, 0, 0, 0), none, some (.aload_n 0, 0, 0, 0), some (.getfield 36, 10, 10, 0), none, none, some (.iload_n 1, 0, 0, 0), some (.iaload, 0, 0, 0), some (.if_icmp .ge 64, 75, 0, 0), none, none, some (.aload_n 0, 0, 0, 0), some (.iload_n 1, 0, 0, 0), some (.iload 4, 0, 0, 0), none, some (.aload_n 0, 0, 0, 0), some (.getfield 93, 10, 45, 0), none, none, some (.iload 4, 0, 0, 0), none, some (.iaload, 0, 0, 0), some (.iload_n 2, 0, 0, 0), some (.iload_n 3, 0, 0, 0), some (.invokevirtual 297, 236, 5, 10), none, none, some (.lstore 5, 0, 0, 0), none, some (.iconst 0, 0, 0, 0), some (.istore 7, 0, 0, 0), none, some (.iload 7, 0, 0, 0), none, some (.aload_n 0, 0, 0, 0), some (.getfield 294, 10, 48, 0), none, none, some (.if_icmp .ge 28, 69, 0, 0), none, none, some (.aload_n 0, 0, 0, 0), some (.iload_n 1, 0, 0, 0), some (.iload 4, 0, 0, 0), none, some (.iload 7, 0, 0, 0), none, some (.iload_n 2, 0, 0, 0), some (.iload_n 3, 0, 0, 0), some (.invokevirtual 297, 236, 5, 10), none, none, some (.lload 5, 0, 0, 0), none, some (.lcmp, 0, 0, 0), some (.ifCond .ge 5, 63, 0, 0), none, none, some (.iconst 0, 0, 0, 0), some (.ireturn, 0, 0, 0), some (.iinc 7 1, 0, 0, 0), none, none, some (.goto (-31), 35, 0, 0), none, none, some (.iinc 4 1, 0, 0, 0), none, none, some (.goto (-69), 3, 0, 0), none, none, some (.iconst 1, 0, 0, 0), some (.ireturn, 0, 0, 0)]
def sm_H237 : List Nat := [0, 0, 0, 0, 5205, 0, 0, 0, 0, 0, 0, 0, 6000, 0, 0, 0, 0, 7162, 0, 0, 0, 0, 0, 6003, 0, 0, 0, 0, 0, 0, 0, 7162, 0, 0, 0, 0, 0, 0, 0, 0, 0, 0, 0]
def sm_I237 : sm_I := (yX10_stands, cX10_stands, 8, some .boolean, sm_T237)
def sm_T238 : sm_T := [some (.aload_n 0, 0, 0, 0), some (.iload_n 2, 0, 0, 0), some (.invokevirtual 250, 214, 1, 10), none, none, some (.iconst 1, 0, 0, 0), some (.iadd, 0, 0, 0), some (.aload_n 0, 0, 0, 0), some (.getfield 45, 10, 13, 0), none, none, some (.iload_n 1, 0, 0, 0), some (.iaload, 0, 0, 0), some (.if_icmp .gt 7, 20, 0, 0), none, none, some (.iconst 1, 0, 0, 0), some (.goto 4, 21, 0, 0), none, none, some (.iconst 0, 0, 0, 0), some (.ireturn, 0, 0, 0)]
def sm_H238 : List Nat := [0, 0, 6179, 0, 0, 0, 5208, 0, 0, 0, 0, 0, 0, 0]
def sm_I238 : sm_I := (yX10_isRun, cX10_isRun, 3, some .boolean, sm_T238)
def sm_T239 : sm_T := [some (.iconst 1, 0, 0, 0), some (.aload_n 0, 0, 0, 0), some (.getfield 36, 10, 10, 0), none, none, some (.iload_n 1, 0, 0, 0), some (.iaload, 0, 0, 0), some (.iconst 1, 0, 0, 0), some (.isub, 0, 0, 0), some (.ishl, 0, 0, 0), some (.ireturn, 0, 0, 0)]
def sm_H239 : List Nat := [0, 0, 5205, 0, 0, 0, 0, 0, 0]
def sm_I239 : sm_I := (yX10_cutsN, cX10_cutsN, 2, some .int, sm_T239)
def sm_T240 : sm_T := [some (.aload_n 0, 0, 0, 0), some (.iload_n 1, 0, 0, 0), some (.iload_n 2, 0, 0, 0), some (.invokevirtual 301, 234, 2, 10), none, none, some (.aload_n 0, 0, 0, 0), some (.iload_n 1, 0, 0, 0), some (.invokevirtual 304, 235, 1, 10), none, none, some (.aload_n 0, 0, 0, 0), some (.iload_n 1, 0, 0, 0), some (.iload_n 3, 0, 0, 0), some (.iload 4, 0, 0, 0), none, some (.invokevirtual 307, 237, 3, 10), none, none, some (.ireturn, 0, 0, 0)]
def sm_H240 : List Nat := [0, 0, 0, 7130, 0, 0, 7134, 0, 0, 0, 0, 7158, 0]
def sm_I240 : sm_I := (yX10_holds_, cX10_holds_, 5, some .boolean, sm_T240)
def sm_T241 : sm_T := [some (.lconst 0, 0, 0, 0), some (.lstore_n 3, 0, 0, 0), some (.iconst 0, 0, 0, 0), some (.istore 5, 0, 0, 0), none, some (.iload 5, 0, 0, 0), none, some (.aload_n 0, 0, 0, 0), some (.getfield 36, 10, 10, 0), none, none, some (.iload_n 1, 0, 0, 0), some (.iaload, 0, 0, 0), some (.if_icmp .ge 59, 72, 0, 0), none, none, some (.lload_n 3, 0, 0, 0), some (.aload_n 0, 0, 0, 0), some (.getfield 63, 10, 19, 0), none, none, some (.bipush 12, 0, 0, 0), none, some (.iload_n 1, 0, 0, 0), some (.imul, 0, 0, 0), some (.iload 5, 0, 0, 0), none, some (.iadd, 0, 0, 0), some (.iaload, 0, 0, 0), some (.i2l, 0, 0, 0), some (.aload_n 0, 0, 0, 0), some (.iload_n 1, 0, 0, 0), some (.aload_n 0, 0, 0, 0), some (.getfield 96, 10, 46, 0), none, none, some (.aload_n 0, 0, 0, 0), some (.getfield 93, 10, 45, 0), none, none, some (.iload 5, 0, 0, 0), none, some (.iaload, 0, 0, 0), some (.iaload, 0, 0, 0), some (.aload_n 0, 0, 0, 0), some (.getfield 60, 10, 18, 0), none, none, some (.bipush 12, 0, 0, 0), none, some (.iload_n 1, 0, 0, 0), some (.imul, 0, 0, 0), some (.iload 5, 0, 0, 0), none, some (.iadd, 0, 0, 0), some (.iaload, 0, 0, 0), some (.isub, 0, 0, 0), some (.iload_n 2, 0, 0, 0), some (.isub, 0, 0, 0), some (.i2l, 0, 0, 0), some (.invokevirtual 272, 208, 2, 10), none, none, some (.lmul, 0, 0, 0), some (.ladd, 0, 0, 0), some (.lstore_n 3, 0, 0, 0), some (.iinc 5 1, 0, 0, 0), none, none, some (.goto (-64), 5, 0, 0), none, none, some (.lload_n 3, 0, 0, 0), some (.lreturn, 0, 0, 0)]
def sm_H241 : List Nat := [0, 0, 0, 0, 0, 0, 5205, 0, 0, 0, 0, 0, 5214, 0, 0, 0, 0, 0, 0, 0, 0, 0, 0, 6001, 0, 6000, 0, 0, 0, 0, 5213, 0, 0, 0, 0, 0, 0, 0, 0, 0, 0, 7106, 0, 0, 0, 0, 0, 0, 0]
def sm_I241 : sm_I := (yX10_runWorth, cX10_runWorth, 6, some .long, sm_T241)
def sm_T242 : sm_T := [some (.aload_n 0, 0, 0, 0), some (.iload_n 1, 0, 0, 0), some (.invokevirtual 121, 178, 1, 10), none, none, some (.ifCond .eq 12, 17, 0, 0), none, none, some (.iload_n 2, 0, 0, 0), some (.ifCond .lt 8, 17, 0, 0), none, none, some (.iload_n 2, 0, 0, 0), some (.iconst 1, 0, 0, 0), some (.if_icmp .le 11, 25, 0, 0), none, none, some (.aload_n 0, 0, 0, 0), some (.bipush (-5), 0, 0, 0), none, some (.invokevirtual 232, 175, 1, 10), none, none, some (.i2l, 0, 0, 0), some (.lreturn, 0, 0, 0), some (.iload_n 2, 0, 0, 0), some (.ifCond .ne 12, 38, 0, 0), none, none, some (.aload_n 0, 0, 0, 0), some (.getfield 42, 10, 12, 0), none, none, some (.iload_n 1, 0, 0, 0), some (.iaload, 0, 0, 0), some (.goto 9, 44, 0, 0), none, none, some (.aload_n 0, 0, 0, 0), some (.getfield 39, 10, 11, 0), none, none, some (.iload_n 1, 0, 0, 0), some (.iaload, 0, 0, 0), some (.istore_n 3, 0, 0, 0), some (.aload_n 0, 0, 0, 0), some (.iload_n 1, 0, 0, 0), some (.iconst 0, 0, 0, 0), some (.invokevirtual 301, 234, 2, 10), none, none, some (.aload_n 0, 0, 0, 0), some (.iload_n 1, 0, 0, 0), some (.invokevirtual 304, 235, 1, 10), none, none, some (.aload_n 0, 0, 0, 0), some (.iload_n 1, 0, 0, 0), some (.iload_n 3, 0, 0, 0), some (.invokevirtual 311, 241, 2, 10), none, none, some (.lstore 4, 0, 0, 0), none, some (.aload_n 0, 0, 0, 0), some (.iload_n 1, 0, 0, 0), some (.aload_n 0, 0, 0, 0), some (.iload_n 1, 0, 0, 0), some (.invokevirtual 314, 239, 1, 10), none, none, some (.iconst 1, 0, 0, 0), some (.isub, 0, 0, 0), some (.invokevirtual 301, 234, 2, 10), none, none, some (.aload_n 0, 0, 0, 0), some (.iload_n 1, 0, 0, 0), some (.invokevirtual 304, 235, 1, 10), none, none, some (.lload 4, 0, 0, 0), none, some (.aload_n 0, 0, 0, 0), some (.iload_n 1, 0, 0, 0), some (.iload_n 3, 0, 0, 0), some (.invokevirtual 311, 241, 2, 10), none, none, some (.lsub, 0, 0, 0), some (.lreturn, 0, 0, 0)]
def sm_H242 : List Nat := [0, 0, 7015, 0, 0, 0, 0, 0, 0, 0, 0, 7019, 0, 0, 0, 0, 0, 5207, 0, 0, 0, 0, 5206, 0, 0, 0, 0, 0, 0, 7130, 0, 0, 7134, 0, 0, 0, 7138, 0, 0, 0, 0, 0, 7142, 0, 0, 7130, 0, 0, 7134, 0, 0, 0, 0, 7138, 0, 0]
def sm_I242 : sm_I := (yX10_beside, cX10_beside, 6, some .long, sm_T242)
def sm_T243 : sm_T := [some (.aload_n 0, 0, 0, 0), some (.iload_n 1, 0, 0, 0), some (.invokevirtual 121, 178, 1, 10), none, none, some (.ifCond .ne 9, 14, 0, 0), none, none, some (.aload_n 0, 0, 0, 0), some (.iconst (-1), 0, 0, 0), some (.invokevirtual 131, 174, 1, 10), none, none, some (.ireturn, 0, 0, 0), some (.iconst 0, 0, 0, 0), some (.istore_n 2, 0, 0, 0), some (.iconst 0, 0, 0, 0), some (.istore_n 3, 0, 0, 0), some (.iload_n 3, 0, 0, 0), some (.aload_n 0, 0, 0, 0), some (.iload_n 1, 0, 0, 0), some (.invokevirtual 314, 239, 1, 10), none, none, some (.if_icmp .ge 37, 61, 0, 0), none, none, some (.aload_n 0, 0, 0, 0), some (.iload_n 1, 0, 0, 0), some (.iload_n 3, 0, 0, 0), some (.invokevirtual 317, 238, 2, 10), none, none, some (.ifCond .eq 22, 55, 0, 0), none, none, some (.aload_n 0, 0, 0, 0), some (.iload_n 1, 0, 0, 0), some (.iload_n 3, 0, 0, 0), some (.iconst 1, 0, 0, 0), some (.aload_n 0, 0, 0, 0), some (.getfield 39, 10, 11, 0), none, none, some (.iload_n 1, 0, 0, 0), some (.iaload, 0, 0, 0), some (.invokevirtual 320, 240, 4, 10), none, none, some (.ifCond .eq 6, 55, 0, 0), none, none, some (.iinc 2 1, 0, 0, 0), none, none, some (.iinc 3 1, 0, 0, 0), none, none, some (.goto (-40), 18, 0, 0), none, none, some (.iload_n 2, 0, 0, 0), some (.ireturn, 0, 0, 0)]
def sm_H243 : List Nat := [0, 0, 7015, 0, 0, 0, 6135, 0, 0, 0, 0, 0, 0, 0, 0, 7142, 0, 0, 0, 0, 7150, 0, 0, 0, 0, 0, 0, 5206, 0, 0, 7154, 0, 0, 0, 0, 0, 0]
def sm_I243 : sm_I := (yX10_runs, cX10_runs, 4, some .int, sm_T243)
def sm_T244 : sm_T := [some (.iconst 0, 0, 0, 0), some (.istore_n 3, 0, 0, 0), some (.iconst (-1), 0, 0, 0), some (.istore 4, 0, 0, 0), none, some (.iconst 0, 0, 0, 0), some (.istore 5, 0, 0, 0), none, some (.iload 5, 0, 0, 0), none, some (.aload_n 0, 0, 0, 0), some (.iload_n 1, 0, 0, 0), some (.invokevirtual 314, 239, 1, 10), none, none, some (.if_icmp .ge 60, 75, 0, 0), none, none, some (.aload_n 0, 0, 0, 0), some (.iload 5, 0, 0, 0), none, some (.invokevirtual 250, 214, 1, 10), none, none, some (.iconst 1, 0, 0, 0), some (.iadd, 0, 0, 0), some (.istore 6, 0, 0, 0), none, some (.iload 6, 0, 0, 0), none, some (.iload_n 3, 0, 0, 0), some (.if_icmp .le 38, 69, 0, 0), none, none, some (.iload 6, 0, 0, 0), none, some (.aload_n 0, 0, 0, 0), some (.getfield 45, 10, 13, 0), none, none, some (.iload_n 1, 0, 0, 0), some (.iaload, 0, 0, 0), some (.if_icmp .gt 27, 69, 0, 0), none, none, some (.aload_n 0, 0, 0, 0), some (.iload_n 1, 0, 0, 0), some (.iload 5, 0, 0, 0), none, some (.iload_n 2, 0, 0, 0), some (.aload_n 0, 0, 0, 0), some (.getfield 39, 10, 11, 0), none, none, some (.iload_n 1, 0, 0, 0), some (.iaload, 0, 0, 0), some (.invokevirtual 320, 240, 4, 10), none, none, some (.ifCond .eq 10, 69, 0, 0), none, none, some (.iload 6, 0, 0, 0), none, some (.istore_n 3, 0, 0, 0), some (.iload 5, 0, 0, 0), none, some (.istore 4, 0, 0, 0), none, some (.iinc 5 1, 0, 0, 0), none, none, some (.goto (-64), 8, 0, 0), none, none, some (.iload 4, 0, 0, 0), none, some (.ireturn, 0, 0, 0)]
def sm_H244 : List Nat := [0, 0, 0, 0, 0, 0, 0, 0, 0, 7142, 0, 0, 0, 6179, 0, 0, 0, 0, 0, 0, 0, 0, 5208, 0, 0, 0, 0, 0, 0, 0, 0, 5206, 0, 0, 7154, 0, 0, 0, 0, 0, 0, 0, 0, 0]
def sm_I244 : sm_I := (yX10_finestCuts, cX10_finestCuts, 7, some .int, sm_T244)
def sm_T245 : sm_T := [some (.aload_n 0, 0, 0, 0), some (.iload_n 1, 0, 0, 0), some (.invokevirtual 121, 178, 1, 10), none, none, some (.ifCond .eq 12, 17, 0, 0), none, none, some (.aload_n 0, 0, 0, 0), some (.iload_n 1, 0, 0, 0), some (.iconst 1, 0, 0, 0), some (.invokevirtual 324, 244, 2, 10), none, none, some (.goto 8, 22, 0, 0), none, none, some (.aload_n 0, 0, 0, 0), some (.iconst (-1), 0, 0, 0), some (.invokevirtual 131, 174, 1, 10), none, none, some (.ireturn, 0, 0, 0)]
def sm_H245 : List Nat := [0, 0, 7015, 0, 0, 0, 0, 7170, 0, 0, 0, 6135, 0]
def sm_I245 : sm_I := (yX10_finest, cX10_finest, 2, some .int, sm_T245)
def sm_T246 : sm_T := [some (.aload_n 0, 0, 0, 0), some (.iload_n 1, 0, 0, 0), some (.invokevirtual 121, 178, 1, 10), none, none, some (.ifCond .eq 18, 23, 0, 0), none, none, some (.aload_n 0, 0, 0, 0), some (.aload_n 0, 0, 0, 0), some (.iload_n 1, 0, 0, 0), some (.iconst 1, 0, 0, 0), some (.invokevirtual 324, 244, 2, 10), none, none, some (.invokevirtual 250, 214, 1, 10), none, none, some (.iconst 1, 0, 0, 0), some (.iadd, 0, 0, 0), some (.goto 8, 28, 0, 0), none, none, some (.aload_n 0, 0, 0, 0), some (.iconst (-1), 0, 0, 0), some (.invokevirtual 131, 174, 1, 10), none, none, some (.ireturn, 0, 0, 0)]
def sm_H246 : List Nat := [0, 0, 7015, 0, 0, 0, 0, 0, 7170, 6179, 0, 0, 0, 0, 0, 6135, 0]
def sm_I246 : sm_I := (yX10_bound, cX10_bound, 2, some .int, sm_T246)
def sm_T247 : sm_T := [some (.lconst 0, 0, 0, 0), some (.lstore_n 3, 0, 0, 0), some (.iconst (-1), 0, 0, 0), some (.istore 5, 0, 0, 0), none, some (.iconst 0, 0, 0, 0), some (.istore 6, 0, 0, 0), none, some (.iload 6, 0, 0, 0), none, some (.aload_n 0, 0, 0, 0), some (.iload_n 1, 0, 0, 0), some (.invokevirtual 314, 239, 1, 10), none, none, some (.if_icmp .ge 64, 79, 0, 0), none, none, some (.aload_n 0, 0, 0, 0), some (.iload_n 1, 0, 0, 0), some (.iload 6, 0, 0, 0), none, some (.invokevirtual 317, 238, 2, 10), none, none, some (.ifCond .eq 48, 73, 0, 0), none, none, some (.aload_n 0, 0, 0, 0), some (.iload_n 1, 0, 0, 0), some (.iload 6, 0, 0, 0), none, some (.iconst 1, 0, 0, 0), some (.aload_n 0, 0, 0, 0), some (.getfield 39, 10, 11, 0), none, none, some (.iload_n 1, 0, 0, 0), some (.iaload, 0, 0, 0), some (.invokevirtual 320, 240, 4, 10), none, none, some (.ifCond .eq 31, 73, 0, 0), none, none, some (.aload_n 0, 0, 0, 0), some (.iload_n 1, 0, 0, 0), some (.iload_n 2, 0, 0, 0), some (.invokevirtual 311, 241, 2, 10), none, none, some (.lstore 7, 0, 0, 0), none, some (.iload 5, 0, 0, 0), none, some (.iconst (-1), 0, 0, 0), some (.if_icmp .eq 10, 66, 0, 0), none, none, some (.lload 7, 0, 0, 0), none, some (.lload_n 3, 0, 0, 0), some (.lcmp, 0, 0, 0), some (.ifCond .ge 10, 73, 0, 0), none, none, some (.lload 7, 0, 0, 0), none, some (.lstore_n 3, 0, 0, 0), some (.iload 6, 0, 0, 0), none, some (.istore 5, 0, 0, 0), none, some (.iinc 6 1, 0, 0, 0), none, none, some (.goto (-68), 8, 0, 0), none, none, some (.iload 5, 0, 0, 0), none, some (.ireturn, 0, 0, 0)]
def sm_H247 : List Nat := [0, 0, 0, 0, 0, 0, 0, 0, 0, 7142, 0, 0, 0, 0, 7150, 0, 0, 0, 0, 0, 0, 5206, 0, 0, 7154, 0, 0, 0, 0, 7138, 0, 0, 0, 0, 0, 0, 0, 0, 0, 0, 0, 0, 0, 0, 0, 0]
def sm_I247 : sm_I := (yX10_bestCuts, cX10_bestCuts, 9, some .int, sm_T247)
def sm_T248 : sm_T := [some (.aload_n 0, 0, 0, 0), some (.iload_n 1, 0, 0, 0), some (.invokevirtual 121, 178, 1, 10), none, none, some (.ifCond .ne 9, 14, 0, 0), none, none, some (.aload_n 0, 0, 0, 0), some (.iconst (-1), 0, 0, 0), some (.invokevirtual 131, 174, 1, 10), none, none, some (.ireturn, 0, 0, 0), some (.iload_n 2, 0, 0, 0), some (.ifCond .lt 8, 23, 0, 0), none, none, some (.iload_n 2, 0, 0, 0), some (.iconst 1, 0, 0, 0), some (.if_icmp .le 10, 30, 0, 0), none, none, some (.aload_n 0, 0, 0, 0), some (.bipush (-6), 0, 0, 0), none, some (.invokevirtual 131, 174, 1, 10), none, none, some (.ireturn, 0, 0, 0), some (.aload_n 0, 0, 0, 0), some (.iload_n 1, 0, 0, 0), some (.iload_n 2, 0, 0, 0), some (.ifCond .ne 12, 45, 0, 0), none, none, some (.aload_n 0, 0, 0, 0), some (.getfield 42, 10, 12, 0), none, none, some (.iload_n 1, 0, 0, 0), some (.iaload, 0, 0, 0), some (.goto 9, 51, 0, 0), none, none, some (.aload_n 0, 0, 0, 0), some (.getfield 39, 10, 11, 0), none, none, some (.iload_n 1, 0, 0, 0), some (.iaload, 0, 0, 0), some (.invokevirtual 327, 247, 2, 10), none, none, some (.ireturn, 0, 0, 0)]
def sm_H248 : List Nat := [0, 0, 7015, 0, 0, 0, 6135, 0, 0, 0, 0, 0, 0, 0, 0, 6135, 0, 0, 0, 0, 0, 0, 5207, 0, 0, 0, 0, 5206, 0, 0, 7182, 0]
def sm_I248 : sm_I := (yX10_best, cX10_best, 3, some .int, sm_T248)
def sm_T249 : sm_T := [some (.aload_n 0, 0, 0, 0), some (.iload_n 1, 0, 0, 0), some (.invokevirtual 121, 178, 1, 10), none, none, some (.ifCond .ne 9, 14, 0, 0), none, none, some (.aload_n 0, 0, 0, 0), some (.iconst (-1), 0, 0, 0), some (.invokevirtual 131, 174, 1, 10), none, none, some (.ireturn, 0, 0, 0), some (.aload_n 0, 0, 0, 0), some (.getfield 36, 10, 10, 0), none, none, some (.iload_n 1, 0, 0, 0), some (.iaload, 0, 0, 0), some (.istore_n 2, 0, 0, 0), some (.iload_n 2, 0, 0, 0), some (.bipush 6, 0, 0, 0), none, some (.if_icmp .le 10, 34, 0, 0), none, none, some (.aload_n 0, 0, 0, 0), some (.bipush (-6), 0, 0, 0), none, some (.invokevirtual 131, 174, 1, 10), none, none, some (.ireturn, 0, 0, 0), some (.iconst 0, 0, 0, 0), some (.istore_n 3, 0, 0, 0), some (.iconst 0, 0, 0, 0), some (.istore 4, 0, 0, 0), none, some (.iload 4, 0, 0, 0), none, some (.iload_n 2, 0, 0, 0), some (.if_icmp .ge 17, 59, 0, 0), none, none, some (.aload_n 0, 0, 0, 0), some (.getfield 93, 10, 45, 0), none, none, some (.iload 4, 0, 0, 0), none, some (.iconst 0, 0, 0, 0), some (.iastore, 0, 0, 0), some (.iinc 4 1, 0, 0, 0), none, none, some (.goto (-17), 39, 0, 0), none, none, some (.iconst 1, 0, 0, 0), some (.istore 4, 0, 0, 0), none, some (.iload 4, 0, 0, 0), none, some (.ifCond .eq 206, 270, 0, 0), none, none, some (.aload_n 0, 0, 0, 0), some (.getfield 102, 10, 49, 0), none, none, some (.iconst 0, 0, 0, 0), some (.iconst 0, 0, 0, 0), some (.iastore, 0, 0, 0), some (.iconst 0, 0, 0, 0), some (.istore 5, 0, 0, 0), none, some (.iload 5, 0, 0, 0), none, some (.iload_n 2, 0, 0, 0), some (.if_icmp .ge 52, 132, 0, 0), none, none, some (.aload_n 0, 0, 0, 0), some (.getfield 102, 10, 49, 0), none, none, some (.iload 5, 0, 0, 0), none, some (.iconst 1, 0, 0, 0), some (.iadd, 0, 0, 0), some (.aload_n 0, 0, 0, 0), some (.getfield 93, 10, 45, 0), none, none, some (.iload 5, 0, 0, 0), none, some (.iaload, 0, 0, 0), some (.aload_n 0, 0, 0, 0), some (.getfield 102, 10, 49, 0), none, none, some (.iload 5, 0, 0, 0), none, some (.iaload, 0, 0, 0), some (.if_icmp .le 13, 118, 0, 0), none, none, some (.aload_n 0, 0, 0, 0), some (.getfield 93, 10, 45, 0), none, none, some (.iload 5, 0, 0, 0), none, some (.iaload, 0, 0, 0), some (.goto 10, 125, 0, 0), none, none, some (.aload_n 0, 0, 0, 0), some (.getfield 102, 10, 49, 0), none, none, some (.iload 5, 0, 0, 0), none, some (.iaload, 0, 0, 0), some (.iastore, 0, 0, 0), some (.iinc 5 1, 0, 0, 0), none, none, some (.goto (-52), 77, 0, 0), none, none, some (.aload_n 0, 0, 0, 0), some (.aload_n 0, 0, 0, 0), some (.getfield 102, 10, 49, 0), none, none, some (.iload_n 2, 0, 0, 0), some (.iaload, 0, 0, 0), some (.iconst 1, 0, 0, 0), some (.iadd, 0, 0, 0), some (.putfield 294, 10, 48, 0), none, none, some (.aload_n 0, 0, 0, 0), some (.getfield 294, 10, 48, 0), none, none, some (.aload_n 0, 0, 0, 0), some (.getfield 45, 10, 13, 0), none, none, some (.iload_n 1, 0, 0, 0), some (.iaload, 0, 0, 0), some (.if_icmp .gt 26, 180, 0, 0), none, none, some (.aload_n 0, 0, 0, 0), some (.iload_n 1, 0, 0, 0), some (.invokevirtual 304, 235, 1, 10), none, none, some (.aload_n 0, 0, 0, 0), some (.iload_n 1, 0, 0, 0), some (.iconst 1, 0, 0, 0), some (.aload_n 0, 0, 0, 0), some (.getfield 39, 10, 11, 0), none, none, some (.iload_n 1, 0, 0, 0), some (.iaload, 0, 0, 0), some (.invokevirtual 307, 237, 3, 10), none, none, some (.ifCond .eq 6, 180, 0, 0), none, none, some (.iinc 3 1, 0, 0, 0), none, none, some (.iload_n 2, 0, 0, 0), some (.iconst 1, 0, 0, 0), some (.isub, 0, 0, 0), some (.istore 5, 0, 0, 0), none, some (.iload 5, 0, 0, 0), none, some (.ifCond .le 26, 213, 0, 0), none, none, some (.aload_n 0, 0, 0, 0), some (.getfield 93, 10, 45, 0), none, none, some (.iload 5, 0, 0, 0), none, some (.iaload, 0, 0, 0), some (.aload_n 0, 0, 0, 0), some (.getfield 102, 10, 49, 0), none, none, some (.iload 5, 0, 0, 0), none, some (.iaload, 0, 0, 0), some (.if_icmp .le 9, 213, 0, 0), none, none, some (.iinc 5 (-1), 0, 0, 0), none, none, some (.goto (-25), 185, 0, 0), none, none, some (.iload 5, 0, 0, 0), none, some (.ifCond .le 7, 222, 0, 0), none, none, some (.iconst 1, 0, 0, 0), some (.goto 4, 223, 0, 0), none, none, some (.iconst 0, 0, 0, 0), some (.istore 4, 0, 0, 0), none, some (.iload 4, 0, 0, 0), none, some (.ifCond .eq 40, 267, 0, 0), none, none, some (.aload_n 0, 0, 0, 0), some (.getfield 93, 10, 45, 0), none, none, some (.iload 5, 0, 0, 0), none, some (.dup2, 0, 0, 0), some (.iaload, 0, 0, 0), some (.iconst 1, 0, 0, 0), some (.iadd, 0, 0, 0), some (.iastore, 0, 0, 0), some (.iload 5, 0, 0, 0), none, some (.iconst 1, 0, 0, 0), some (.iadd, 0, 0, 0), some (.istore 6, 0, 0, 0), none, some (.iload 6, 0, 0, 0), none, some (.iload_n 2, 0, 0, 0), some (.if_icmp .ge 17, 267, 0, 0), none, none, some (.aload_n 0, 0, 0, 0), some (.getfield 93, 10, 45, 0), none, none, some (.iload 6, 0, 0, 0), none, some (.iconst 0, 0, 0, 0), some (.iastore, 0, 0, 0), some (.iinc 6 1, 0, 0, 0), none, none, some (.goto (-17), 247, 0, 0), none, none, some (.goto (-205), 62, 0, 0), none, none, some (.iload_n 3, 0, 0, 0), some (.ireturn, 0, 0, 0)]
def sm_H249 : List Nat := [0, 0, 7015, 0, 0, 0, 6135, 0, 0, 5205, 0, 0, 0, 0, 0, 0, 0, 0, 6135, 0, 0, 0, 0, 0, 0, 0, 0, 0, 6000, 0, 0, 0, 0, 0, 0, 0, 0, 0, 0, 6004, 0, 0, 0, 0, 0, 0, 0, 0, 0, 6004, 0, 0, 0, 0, 6000, 0, 0, 0, 6004, 0, 0, 0, 0, 6000, 0, 0, 0, 0, 6004, 0, 0, 0, 0, 0, 0, 0, 6004, 0, 0, 0, 0, 6003, 0, 6003, 0, 5208, 0, 0, 0, 0, 0, 7134, 0, 0, 0, 0, 5206, 0, 0, 7158, 0, 0, 0, 0, 0, 0, 0, 0, 0, 6000, 0, 0, 0, 6004, 0, 0, 0, 0, 0, 0, 0, 0, 0, 0, 0, 0, 0, 0, 6000, 0, 0, 0, 0, 0, 0, 0, 0, 0, 0, 0, 0, 0, 0, 6000, 0, 0, 0, 0, 0, 0, 0, 0]
def sm_I249 : sm_I := (yX10_any, cX10_any, 7, some .int, sm_T249)
def sm_T250 : sm_T := [some (.aload_n 0, 0, 0, 0), some (.iload_n 1, 0, 0, 0), some (.invokevirtual 121, 178, 1, 10), none, none, some (.ifCond .ne 9, 14, 0, 0), none, none, some (.aload_n 0, 0, 0, 0), some (.iconst (-1), 0, 0, 0), some (.invokevirtual 330, 176, 1, 10), none, none, some (.ireturn, 0, 0, 0), some (.iload_n 2, 0, 0, 0), some (.iconst 1, 0, 0, 0), some (.if_icmp .lt 9, 25, 0, 0), none, none, some (.iload_n 2, 0, 0, 0), some (.bipush 12, 0, 0, 0), none, some (.if_icmp .le 10, 32, 0, 0), none, none, some (.aload_n 0, 0, 0, 0), some (.bipush (-6), 0, 0, 0), none, some (.invokevirtual 330, 176, 1, 10), none, none, some (.ireturn, 0, 0, 0), some (.iload_n 2, 0, 0, 0), some (.aload_n 0, 0, 0, 0), some (.getfield 45, 10, 13, 0), none, none, some (.iload_n 1, 0, 0, 0), some (.iaload, 0, 0, 0), some (.if_icmp .le 5, 44, 0, 0), none, none, some (.iconst (-1), 0, 0, 0), some (.ireturn, 0, 0, 0), some (.iconst (-1), 0, 0, 0), some (.istore_n 3, 0, 0, 0), some (.iconst 0, 0, 0, 0), some (.istore 4, 0, 0, 0), none, some (.iload 4, 0, 0, 0), none, some (.aload_n 0, 0, 0, 0), some (.iload_n 1, 0, 0, 0), some (.invokevirtual 314, 239, 1, 10), none, none, some (.if_icmp .ge 69, 125, 0, 0), none, none, some (.iload_n 3, 0, 0, 0), some (.bipush 63, 0, 0, 0), none, some (.if_icmp .ge 63, 125, 0, 0), none, none, some (.aload_n 0, 0, 0, 0), some (.iload 4, 0, 0, 0), none, some (.invokevirtual 250, 214, 1, 10), none, none, some (.iconst 1, 0, 0, 0), some (.iadd, 0, 0, 0), some (.iload_n 2, 0, 0, 0), some (.if_icmp .ne 45, 119, 0, 0), none, none, some (.aload_n 0, 0, 0, 0), some (.iload_n 1, 0, 0, 0), some (.iload 4, 0, 0, 0), none, some (.invokevirtual 301, 234, 2, 10), none, none, some (.aload_n 0, 0, 0, 0), some (.iload_n 1, 0, 0, 0), some (.invokevirtual 304, 235, 1, 10), none, none, some (.bipush 63, 0, 0, 0), none, some (.istore 5, 0, 0, 0), none, some (.iload 5, 0, 0, 0), none, some (.iload_n 3, 0, 0, 0), some (.if_icmp .le 20, 116, 0, 0), none, none, some (.aload_n 0, 0, 0, 0), some (.iload_n 1, 0, 0, 0), some (.iconst 1, 0, 0, 0), some (.iload 5, 0, 0, 0), none, some (.invokevirtual 307, 237, 3, 10), none, none, some (.ifCond .ne 9, 116, 0, 0), none, none, some (.iinc 5 (-1), 0, 0, 0), none, none, some (.goto (-20), 93, 0, 0), none, none, some (.iload 5, 0, 0, 0), none, some (.istore_n 3, 0, 0, 0), some (.iinc 4 1, 0, 0, 0), none, none, some (.goto (-73), 49, 0, 0), none, none, some (.iload_n 3, 0, 0, 0), some (.ireturn, 0, 0, 0)]
def sm_H250 : List Nat := [0, 0, 7015, 0, 0, 0, 7194, 0, 0, 0, 0, 0, 0, 0, 0, 0, 7194, 0, 0, 0, 5208, 0, 0, 0, 0, 0, 0, 0, 0, 0, 0, 0, 0, 7142, 0, 0, 0, 0, 0, 0, 6179, 0, 0, 0, 0, 0, 0, 0, 7130, 0, 0, 7134, 0, 0, 0, 0, 0, 0, 0, 0, 0, 7158, 0, 0, 0, 0, 0, 0, 0, 0, 0]
def sm_I250 : sm_I := (yX10_edge, cX10_edge, 6, some .int, sm_T250)
def sm_T251 : sm_T := [some (.aload_n 0, 0, 0, 0), some (.iload_n 1, 0, 0, 0), some (.invokevirtual 121, 178, 1, 10), none, none, some (.ifCond .ne 9, 14, 0, 0), none, none, some (.aload_n 0, 0, 0, 0), some (.iconst (-1), 0, 0, 0), some (.invokevirtual 131, 174, 1, 10), none, none, some (.ireturn, 0, 0, 0), some (.aload_n 0, 0, 0, 0), some (.getfield 51, 10, 15, 0), none, none, some (.iload_n 1, 0, 0, 0), some (.iaload, 0, 0, 0), some (.ifCond .ne 10, 30, 0, 0), none, none, some (.aload_n 0, 0, 0, 0), some (.bipush (-6), 0, 0, 0), none, some (.invokevirtual 131, 174, 1, 10), none, none, some (.ireturn, 0, 0, 0), some (.aload_n 0, 0, 0, 0), some (.aload_n 0, 0, 0, 0), some (.iload_n 1, 0, 0, 0), some (.iconst 3, 0, 0, 0), some (.invokevirtual 324, 244, 2, 10), none, none, some (.invokevirtual 250, 214, 1, 10), none, none, some (.iconst 1, 0, 0, 0), some (.iadd, 0, 0, 0), some (.ireturn, 0, 0, 0)]
def sm_H251 : List Nat := [0, 0, 7015, 0, 0, 0, 6135, 0, 0, 5210, 0, 0, 0, 0, 0, 6135, 0, 0, 0, 0, 0, 7170, 6179, 0, 0, 0]
def sm_I251 : sm_I := (yX10_room, cX10_room, 2, some .int, sm_T251)
def sm_T252 : sm_T := [some (.aload_n 0, 0, 0, 0), some (.iload_n 1, 0, 0, 0), some (.invokevirtual 121, 178, 1, 10), none, none, some (.ifCond .ne 9, 14, 0, 0), none, none, some (.aload_n 0, 0, 0, 0), some (.iconst (-1), 0, 0, 0), some (.invokevirtual 131, 174, 1, 10), none, none, some (.ireturn, 0, 0, 0), some (.aload_n 0, 0, 0, 0), some (.getfield 51, 10, 15, 0), none, none, some (.iload_n 1, 0, 0, 0), some (.iaload, 0, 0, 0), some (.ifCond .ne 10, 30, 0, 0), none, none, some (.aload_n 0, 0, 0, 0), some (.bipush (-6), 0, 0, 0), none, some (.invokevirtual 131, 174, 1, 10), none, none, some (.ireturn, 0, 0, 0), some (.bipush 100, 0, 0, 0), none, some (.aload_n 0, 0, 0, 0), some (.aload_n 0, 0, 0, 0), some (.iload_n 1, 0, 0, 0), some (.iconst 2, 0, 0, 0), some (.invokevirtual 324, 244, 2, 10), none, none, some (.invokevirtual 250, 214, 1, 10), none, none, some (.iconst 1, 0, 0, 0), some (.iadd, 0, 0, 0), some (.imul, 0, 0, 0), some (.aload_n 0, 0, 0, 0), some (.aload_n 0, 0, 0, 0), some (.iload_n 1, 0, 0, 0), some (.iconst 1, 0, 0, 0), some (.invokevirtual 324, 244, 2, 10), none, none, some (.invokevirtual 250, 214, 1, 10), none, none, some (.iadd, 0, 0, 0), some (.iconst 1, 0, 0, 0), some (.iadd, 0, 0, 0), some (.ireturn, 0, 0, 0)]
def sm_H252 : List Nat := [0, 0, 7015, 0, 0, 0, 6135, 0, 0, 5210, 0, 0, 0, 0, 0, 6135, 0, 0, 0, 0, 0, 0, 7170, 6179, 0, 0, 0, 0, 0, 0, 0, 7170, 6179, 0, 0, 0, 0]
def sm_I252 : sm_I := (yX10_doors, cX10_doors, 2, some .int, sm_T252)
def sm_T253 : sm_T := [some (.iconst 0, 0, 0, 0), some (.istore_n 3, 0, 0, 0), some (.iload_n 3, 0, 0, 0), some (.aload_n 0, 0, 0, 0), some (.getfield 294, 10, 48, 0), none, none, some (.if_icmp .ge 96, 103, 0, 0), none, none, some (.iconst 0, 0, 0, 0), some (.istore 4, 0, 0, 0), none, some (.iload 4, 0, 0, 0), none, some (.aload_n 0, 0, 0, 0), some (.getfield 36, 10, 10, 0), none, none, some (.iload_n 1, 0, 0, 0), some (.iaload, 0, 0, 0), some (.if_icmp .ge 59, 80, 0, 0), none, none, some (.aload_n 0, 0, 0, 0), some (.getfield 87, 10, 41, 0), none, none, some (.iload 4, 0, 0, 0), none, some (.aload_n 0, 0, 0, 0), some (.getfield 63, 10, 19, 0), none, none, some (.bipush 12, 0, 0, 0), none, some (.iload_n 1, 0, 0, 0), some (.imul, 0, 0, 0), some (.iload 4, 0, 0, 0), none, some (.iadd, 0, 0, 0), some (.iaload, 0, 0, 0), some (.i2l, 0, 0, 0), some (.aload_n 0, 0, 0, 0), some (.getfield 93, 10, 45, 0), none, none, some (.iload 4, 0, 0, 0), none, some (.iaload, 0, 0, 0), some (.iload_n 3, 0, 0, 0), some (.if_icmp .ne 12, 63, 0, 0), none, none, some (.iload_n 2, 0, 0, 0), some (.aload_n 0, 0, 0, 0), some (.getfield 294, 10, 48, 0), none, none, some (.imul, 0, 0, 0), some (.goto 4, 64, 0, 0), none, none, some (.iconst 0, 0, 0, 0), some (.i2l, 0, 0, 0), some (.ldc2_w 333, 100, 0, 0), none, none, some (.ladd, 0, 0, 0), some (.iload_n 2, 0, 0, 0), some (.i2l, 0, 0, 0), some (.lsub, 0, 0, 0), some (.lmul, 0, 0, 0), some (.lastore, 0, 0, 0), some (.iinc 4 1, 0, 0, 0), none, none, some (.goto (-64), 13, 0, 0), none, none, some (.aload_n 0, 0, 0, 0), some (.getfield 96, 10, 46, 0), none, none, some (.iload_n 3, 0, 0, 0), some (.aload_n 0, 0, 0, 0), some (.iload_n 1, 0, 0, 0), some (.aload_n 0, 0, 0, 0), some (.getfield 42, 10, 12, 0), none, none, some (.iload_n 1, 0, 0, 0), some (.iaload, 0, 0, 0), some (.invokevirtual 242, 209, 2, 10), none, none, some (.iastore, 0, 0, 0), some (.iinc 3 1, 0, 0, 0), none, none, some (.goto (-98), 2, 0, 0), none, none, some (.return_, 0, 0, 0)]
def sm_H253 : List Nat := [0, 0, 0, 0, 6003, 0, 0, 0, 0, 0, 5205, 0, 0, 0, 0, 5236, 0, 0, 5214, 0, 0, 0, 0, 0, 0, 0, 0, 6000, 0, 0, 0, 0, 0, 0, 6003, 0, 0, 0, 0, 7214, 0, 0, 0, 0, 0, 0, 0, 0, 0, 6001, 0, 0, 0, 0, 5207, 0, 0, 7040, 0, 0, 0, 0]
def sm_I253 : sm_I := (yX10_blurs, cX10_blurs, 5, none, sm_T253)
def sm_T254 : sm_T := [some (.aload_n 0, 0, 0, 0), some (.getfield 60, 10, 18, 0), none, none, some (.bipush 12, 0, 0, 0), none, some (.iload_n 1, 0, 0, 0), some (.imul, 0, 0, 0), some (.iload_n 2, 0, 0, 0), some (.iadd, 0, 0, 0), some (.iaload, 0, 0, 0), some (.iload 5, 0, 0, 0), none, some (.iadd, 0, 0, 0), some (.i2l, 0, 0, 0), some (.lstore 6, 0, 0, 0), none, some (.iload 4, 0, 0, 0), none, some (.aload_n 0, 0, 0, 0), some (.getfield 294, 10, 48, 0), none, none, some (.imul, 0, 0, 0), some (.i2l, 0, 0, 0), some (.aload_n 0, 0, 0, 0), some (.iload_n 1, 0, 0, 0), some (.aload_n 0, 0, 0, 0), some (.getfield 96, 10, 46, 0), none, none, some (.iload_n 3, 0, 0, 0), some (.iaload, 0, 0, 0), some (.i2l, 0, 0, 0), some (.lload 6, 0, 0, 0), none, some (.lsub, 0, 0, 0), some (.invokevirtual 272, 208, 2, 10), none, none, some (.lmul, 0, 0, 0), some (.bipush 100, 0, 0, 0), none, some (.iload 4, 0, 0, 0), none, some (.isub, 0, 0, 0), some (.i2l, 0, 0, 0), some (.aload_n 0, 0, 0, 0), some (.getfield 105, 10, 50, 0), none, none, some (.iload_n 2, 0, 0, 0), some (.laload, 0, 0, 0), some (.lmul, 0, 0, 0), some (.ladd, 0, 0, 0), some (.lreturn, 0, 0, 0)]
def sm_H254 : List Nat := [0, 5213, 0, 0, 0, 0, 0, 0, 0, 0, 0, 0, 0, 0, 6003, 0, 0, 0, 0, 0, 6001, 0, 0, 0, 0, 0, 7106, 0, 0, 0, 0, 0, 0, 6005, 0, 0, 0, 0, 0]
def sm_I254 : sm_I := (yX10_blurred, cX10_blurred, 8, some .long, sm_T254)
def sm_T255 : sm_T := [some (.iconst 0, 0, 0, 0), some (.istore_n 3, 0, 0, 0), some (.iload_n 3, 0, 0, 0), some (.aload_n 0, 0, 0, 0), some (.getfield 36, 10, 10, 0), none, none, some (.iload_n 1, 0, 0, 0), some (.iaload, 0, 0, 0), some (.if_icmp .ge 70, 79, 0, 0), none, none, some (.aload_n 0, 0, 0, 0), some (.getfield 105, 10, 50, 0), none, none, some (.iload_n 3, 0, 0, 0), some (.lconst 0, 0, 0, 0), some (.lastore, 0, 0, 0), some (.iconst 0, 0, 0, 0), some (.istore 4, 0, 0, 0), none, some (.iload 4, 0, 0, 0), none, some (.aload_n 0, 0, 0, 0), some (.getfield 294, 10, 48, 0), none, none, some (.if_icmp .ge 45, 73, 0, 0), none, none, some (.aload_n 0, 0, 0, 0), some (.getfield 105, 10, 50, 0), none, none, some (.iload_n 3, 0, 0, 0), some (.dup2, 0, 0, 0), some (.laload, 0, 0, 0), some (.aload_n 0, 0, 0, 0), some (.iload_n 1, 0, 0, 0), some (.aload_n 0, 0, 0, 0), some (.getfield 96, 10, 46, 0), none, none, some (.iload 4, 0, 0, 0), none, some (.iaload, 0, 0, 0), some (.aload_n 0, 0, 0, 0), some (.getfield 60, 10, 18, 0), none, none, some (.bipush 12, 0, 0, 0), none, some (.iload_n 1, 0, 0, 0), some (.imul, 0, 0, 0), some (.iload_n 3, 0, 0, 0), some (.iadd, 0, 0, 0), some (.iaload, 0, 0, 0), some (.isub, 0, 0, 0), some (.iload_n 2, 0, 0, 0), some (.isub, 0, 0, 0), some (.i2l, 0, 0, 0), some (.invokevirtual 272, 208, 2, 10), none, none, some (.ladd, 0, 0, 0), some (.lastore, 0, 0, 0), some (.iinc 4 1, 0, 0, 0), none, none, some (.goto (-48), 22, 0, 0), none, none, some (.iinc 3 1, 0, 0, 0), none, none, some (.goto (-74), 2, 0, 0), none, none, some (.return_, 0, 0, 0)]
def sm_H255 : List Nat := [0, 0, 0, 0, 5205, 0, 0, 0, 0, 6005, 0, 0, 0, 0, 0, 0, 0, 6003, 0, 0, 6005, 0, 0, 0, 0, 0, 0, 6001, 0, 0, 0, 5213, 0, 0, 0, 0, 0, 0, 0, 0, 0, 0, 7106, 0, 0, 0, 0, 0, 0, 0]
def sm_I255 : sm_I := (yX10_arounds, cX10_arounds, 5, none, sm_T255)
def sm_T256 : sm_T := [some (.aload_n 0, 0, 0, 0), some (.iload_n 1, 0, 0, 0), some (.aload_n 0, 0, 0, 0), some (.getfield 39, 10, 11, 0), none, none, some (.iload_n 1, 0, 0, 0), some (.iaload, 0, 0, 0), some (.invokevirtual 335, 255, 2, 10), none, none, some (.iconst 0, 0, 0, 0), some (.istore_n 3, 0, 0, 0), some (.iload_n 3, 0, 0, 0), some (.aload_n 0, 0, 0, 0), some (.getfield 36, 10, 10, 0), none, none, some (.iload_n 1, 0, 0, 0), some (.iaload, 0, 0, 0), some (.if_icmp .ge 71, 91, 0, 0), none, none, some (.aload_n 0, 0, 0, 0), some (.iload_n 1, 0, 0, 0), some (.iload_n 3, 0, 0, 0), some (.aload_n 0, 0, 0, 0), some (.getfield 93, 10, 45, 0), none, none, some (.iload_n 3, 0, 0, 0), some (.iaload, 0, 0, 0), some (.iload_n 2, 0, 0, 0), some (.aload_n 0, 0, 0, 0), some (.getfield 39, 10, 11, 0), none, none, some (.iload_n 1, 0, 0, 0), some (.iaload, 0, 0, 0), some (.invokevirtual 338, 254, 5, 10), none, none, some (.lstore 4, 0, 0, 0), none, some (.iconst 0, 0, 0, 0), some (.istore 6, 0, 0, 0), none, some (.iload 6, 0, 0, 0), none, some (.aload_n 0, 0, 0, 0), some (.getfield 294, 10, 48, 0), none, none, some (.if_icmp .ge 32, 85, 0, 0), none, none, some (.aload_n 0, 0, 0, 0), some (.iload_n 1, 0, 0, 0), some (.iload_n 3, 0, 0, 0), some (.iload 6, 0, 0, 0), none, some (.iload_n 2, 0, 0, 0), some (.aload_n 0, 0, 0, 0), some (.getfield 39, 10, 11, 0), none, none, some (.iload_n 1, 0, 0, 0), some (.iaload, 0, 0, 0), some (.invokevirtual 338, 254, 5, 10), none, none, some (.lload 4, 0, 0, 0), none, some (.lcmp, 0, 0, 0), some (.ifCond .ge 5, 79, 0, 0), none, none, some (.iconst 0, 0, 0, 0), some (.ireturn, 0, 0, 0), some (.iinc 6 1, 0, 0, 0), none, none, some (.goto (-35), 47, 0, 0), none, none, some (.iinc 3 1, 0, 0, 0), none, none, some (.goto (-75), 13, 0, 0), none, none, some (.iconst 1, 0, 0, 0), some (.ireturn, 0, 0, 0)]
def sm_H256 : List Nat := [0, 0, 0, 5206, 0, 0, 7219, 0, 0, 0, 0, 5205, 0, 0, 0, 0, 0, 0, 0, 6000, 0, 0, 0, 0, 5206, 0, 0, 7223, 0, 0, 0, 0, 0, 6003, 0, 0, 0, 0, 0, 0, 0, 5206, 0, 0, 7223, 0, 0, 0, 0, 0, 0, 0, 0, 0, 0, 0]
def sm_I256 : sm_I := (yX10_blurStands, cX10_blurStands, 7, some .boolean, sm_T256)
def sm_T257 : sm_T := [some (.aload_n 0, 0, 0, 0), some (.iload_n 1, 0, 0, 0), some (.aload_n 0, 0, 0, 0), some (.getfield 42, 10, 12, 0), none, none, some (.iload_n 1, 0, 0, 0), some (.iaload, 0, 0, 0), some (.invokevirtual 335, 255, 2, 10), none, none, some (.lconst 0, 0, 0, 0), some (.lstore_n 3, 0, 0, 0), some (.iconst 0, 0, 0, 0), some (.istore 5, 0, 0, 0), none, some (.iload 5, 0, 0, 0), none, some (.aload_n 0, 0, 0, 0), some (.getfield 36, 10, 10, 0), none, none, some (.iload_n 1, 0, 0, 0), some (.iaload, 0, 0, 0), some (.if_icmp .ge 47, 71, 0, 0), none, none, some (.lload_n 3, 0, 0, 0), some (.aload_n 0, 0, 0, 0), some (.getfield 63, 10, 19, 0), none, none, some (.bipush 12, 0, 0, 0), none, some (.iload_n 1, 0, 0, 0), some (.imul, 0, 0, 0), some (.iload 5, 0, 0, 0), none, some (.iadd, 0, 0, 0), some (.iaload, 0, 0, 0), some (.i2l, 0, 0, 0), some (.aload_n 0, 0, 0, 0), some (.iload_n 1, 0, 0, 0), some (.iload 5, 0, 0, 0), none, some (.aload_n 0, 0, 0, 0), some (.getfield 93, 10, 45, 0), none, none, some (.iload 5, 0, 0, 0), none, some (.iaload, 0, 0, 0), some (.iload_n 2, 0, 0, 0), some (.aload_n 0, 0, 0, 0), some (.getfield 42, 10, 12, 0), none, none, some (.iload_n 1, 0, 0, 0), some (.iaload, 0, 0, 0), some (.invokevirtual 338, 254, 5, 10), none, none, some (.lmul, 0, 0, 0), some (.ladd, 0, 0, 0), some (.lstore_n 3, 0, 0, 0), some (.iinc 5 1, 0, 0, 0), none, none, some (.goto (-52), 16, 0, 0), none, none, some (.lload_n 3, 0, 0, 0), some (.lreturn, 0, 0, 0)]
def sm_H257 : List Nat := [0, 0, 0, 5207, 0, 0, 7219, 0, 0, 0, 0, 0, 0, 5205, 0, 0, 0, 0, 0, 5214, 0, 0, 0, 0, 0, 0, 0, 0, 0, 0, 0, 6000, 0, 0, 0, 0, 5207, 0, 0, 7223, 0, 0, 0, 0, 0, 0, 0]
def sm_I257 : sm_I := (yX10_blurWorth, cX10_blurWorth, 6, some .long, sm_T257)
def sm_T258 : sm_T := [some (.aload_n 0, 0, 0, 0), some (.iload_n 1, 0, 0, 0), some (.invokevirtual 121, 178, 1, 10), none, none, some (.ifCond .ne 9, 14, 0, 0), none, none, some (.aload_n 0, 0, 0, 0), some (.iconst (-1), 0, 0, 0), some (.invokevirtual 330, 176, 1, 10), none, none, some (.ireturn, 0, 0, 0), some (.iload_n 2, 0, 0, 0), some (.iconst 1, 0, 0, 0), some (.if_icmp .lt 18, 34, 0, 0), none, none, some (.iload_n 2, 0, 0, 0), some (.bipush 12, 0, 0, 0), none, some (.if_icmp .gt 12, 34, 0, 0), none, none, some (.iload_n 3, 0, 0, 0), some (.ifCond .lt 8, 34, 0, 0), none, none, some (.iload_n 3, 0, 0, 0), some (.iconst 1, 0, 0, 0), some (.if_icmp .le 10, 41, 0, 0), none, none, some (.aload_n 0, 0, 0, 0), some (.bipush (-6), 0, 0, 0), none, some (.invokevirtual 330, 176, 1, 10), none, none, some (.ireturn, 0, 0, 0), some (.iconst (-1), 0, 0, 0), some (.istore 4, 0, 0, 0), none, some (.iconst (-1), 0, 0, 0), some (.istore 5, 0, 0, 0), none, some (.lconst 0, 0, 0, 0), some (.lstore 6, 0, 0, 0), none, some (.iload_n 2, 0, 0, 0), some (.aload_n 0, 0, 0, 0), some (.getfield 45, 10, 13, 0), none, none, some (.iload_n 1, 0, 0, 0), some (.iaload, 0, 0, 0), some (.if_icmp .le 5, 62, 0, 0), none, none, some (.iconst (-1), 0, 0, 0), some (.ireturn, 0, 0, 0), some (.bipush 100, 0, 0, 0), none, some (.istore 8, 0, 0, 0), none, some (.iload 8, 0, 0, 0), none, some (.ifCond .lt 112, 180, 0, 0), none, none, some (.iconst 0, 0, 0, 0), some (.istore 9, 0, 0, 0), none, some (.iload 9, 0, 0, 0), none, some (.aload_n 0, 0, 0, 0), some (.iload_n 1, 0, 0, 0), some (.invokevirtual 314, 239, 1, 10), none, none, some (.if_icmp .ge 93, 174, 0, 0), none, none, some (.aload_n 0, 0, 0, 0), some (.iload 9, 0, 0, 0), none, some (.invokevirtual 250, 214, 1, 10), none, none, some (.iconst 1, 0, 0, 0), some (.iadd, 0, 0, 0), some (.iload_n 2, 0, 0, 0), some (.if_icmp .eq 6, 99, 0, 0), none, none, some (.goto 72, 168, 0, 0), none, none, some (.aload_n 0, 0, 0, 0), some (.iload_n 1, 0, 0, 0), some (.iload 9, 0, 0, 0), none, some (.invokevirtual 301, 234, 2, 10), none, none, some (.aload_n 0, 0, 0, 0), some (.iload_n 1, 0, 0, 0), some (.iload 8, 0, 0, 0), none, some (.invokevirtual 341, 253, 2, 10), none, none, some (.aload_n 0, 0, 0, 0), some (.iload_n 1, 0, 0, 0), some (.iload 8, 0, 0, 0), none, some (.invokevirtual 344, 256, 2, 10), none, none, some (.ifCond .ne 6, 126, 0, 0), none, none, some (.goto 45, 168, 0, 0), none, none, some (.aload_n 0, 0, 0, 0), some (.iload_n 1, 0, 0, 0), some (.iload 8, 0, 0, 0), none, some (.invokevirtual 347, 257, 2, 10), none, none, some (.ldc2_w 333, 100, 0, 0), none, none, some (.iload_n 2, 0, 0, 0), some (.i2l, 0, 0, 0), some (.lmul, 0, 0, 0), some (.ldiv, 0, 0, 0), some (.lstore 10, 0, 0, 0), none, some (.iload 5, 0, 0, 0), none, some (.iconst (-1), 0, 0, 0), some (.if_icmp .eq 11, 156, 0, 0), none, none, some (.lload 10, 0, 0, 0), none, some (.lload 6, 0, 0, 0), none, some (.lcmp, 0, 0, 0), some (.ifCond .ge 15, 168, 0, 0), none, none, some (.lload 10, 0, 0, 0), none, some (.lstore 6, 0, 0, 0), none, some (.iload 8, 0, 0, 0), none, some (.istore 4, 0, 0, 0), none, some (.iload 9, 0, 0, 0), none, some (.istore 5, 0, 0, 0), none, some (.iinc 9 1, 0, 0, 0), none, none, some (.goto (-97), 74, 0, 0), none, none, some (.iinc 8 (-5), 0, 0, 0), none, none, some (.goto (-111), 66, 0, 0), none, none, some (.iload_n 3, 0, 0, 0), some (.ifCond .ne 8, 189, 0, 0), none, none, some (.iload 4, 0, 0, 0), none, some (.goto 5, 191, 0, 0), none, none, some (.iload 5, 0, 0, 0), none, some (.ireturn, 0, 0, 0)]
def sm_H258 : List Nat := [0, 0, 7015, 0, 0, 0, 7194, 0, 0, 0, 0, 0, 0, 0, 0, 0, 0, 0, 0, 0, 0, 7194, 0, 0, 0, 0, 0, 0, 0, 0, 0, 5208, 0, 0, 0, 0, 0, 0, 0, 0, 0, 0, 0, 0, 0, 0, 7142, 0, 0, 0, 6179, 0, 0, 0, 0, 0, 0, 0, 0, 7130, 0, 0, 0, 7210, 0, 0, 0, 7215, 0, 0, 0, 0, 0, 7227, 7214, 0, 0, 0, 0, 0, 0, 0, 0, 0, 0, 0, 0, 0, 0, 0, 0, 0, 0, 0, 0, 0, 0, 0, 0, 0, 0, 0, 0]
def sm_I258 : sm_I := (yX10_middle, cX10_middle, 12, some .int, sm_T258)
def sm_T259 : sm_T := [some (.lconst 0, 0, 0, 0), some (.lstore 4, 0, 0, 0), none, some (.iconst 0, 0, 0, 0), some (.istore 6, 0, 0, 0), none, some (.iload 6, 0, 0, 0), none, some (.aload_n 0, 0, 0, 0), some (.getfield 36, 10, 10, 0), none, none, some (.iload_n 1, 0, 0, 0), some (.iaload, 0, 0, 0), some (.if_icmp .ge 105, 119, 0, 0), none, none, some (.aload_n 0, 0, 0, 0), some (.getfield 60, 10, 18, 0), none, none, some (.bipush 12, 0, 0, 0), none, some (.iload_n 1, 0, 0, 0), some (.imul, 0, 0, 0), some (.iload 6, 0, 0, 0), none, some (.iadd, 0, 0, 0), some (.iaload, 0, 0, 0), some (.istore 7, 0, 0, 0), none, some (.iload 7, 0, 0, 0), none, some (.aload_n 0, 0, 0, 0), some (.getfield 39, 10, 11, 0), none, none, some (.iload_n 1, 0, 0, 0), some (.iaload, 0, 0, 0), some (.iadd, 0, 0, 0), some (.iload_n 2, 0, 0, 0), some (.if_icmp .ge 7, 48, 0, 0), none, none, some (.iload_n 2, 0, 0, 0), some (.goto 29, 74, 0, 0), none, none, some (.iload 7, 0, 0, 0), none, some (.aload_n 0, 0, 0, 0), some (.getfield 39, 10, 11, 0), none, none, some (.iload_n 1, 0, 0, 0), some (.iaload, 0, 0, 0), some (.iadd, 0, 0, 0), some (.iload_n 3, 0, 0, 0), some (.if_icmp .le 7, 65, 0, 0), none, none, some (.iload_n 3, 0, 0, 0), some (.goto 12, 74, 0, 0), none, none, some (.iload 7, 0, 0, 0), none, some (.aload_n 0, 0, 0, 0), some (.getfield 39, 10, 11, 0), none, none, some (.iload_n 1, 0, 0, 0), some (.iaload, 0, 0, 0), some (.iadd, 0, 0, 0), some (.istore 8, 0, 0, 0), none, some (.lload 4, 0, 0, 0), none, some (.aload_n 0, 0, 0, 0), some (.getfield 63, 10, 19, 0), none, none, some (.bipush 12, 0, 0, 0), none, some (.iload_n 1, 0, 0, 0), some (.imul, 0, 0, 0), some (.iload 6, 0, 0, 0), none, some (.iadd, 0, 0, 0), some (.iaload, 0, 0, 0), some (.i2l, 0, 0, 0), some (.aload_n 0, 0, 0, 0), some (.iload_n 1, 0, 0, 0), some (.iload 8, 0, 0, 0), none, some (.iload 7, 0, 0, 0), none, some (.isub, 0, 0, 0), some (.aload_n 0, 0, 0, 0), some (.getfield 42, 10, 12, 0), none, none, some (.iload_n 1, 0, 0, 0), some (.iaload, 0, 0, 0), some (.isub, 0, 0, 0), some (.i2l, 0, 0, 0), some (.invokevirtual 272, 208, 2, 10), none, none, some (.lmul, 0, 0, 0), some (.ladd, 0, 0, 0), some (.lstore 4, 0, 0, 0), none, some (.iinc 6 1, 0, 0, 0), none, none, some (.goto (-110), 6, 0, 0), none, none, some (.lload 4, 0, 0, 0), none, some (.lreturn, 0, 0, 0)]
def sm_H259 : List Nat := [0, 0, 0, 0, 0, 0, 5205, 0, 0, 0, 0, 5213, 0, 0, 0, 0, 0, 0, 0, 0, 0, 5206, 0, 0, 0, 0, 0, 0, 0, 0, 0, 5206, 0, 0, 0, 0, 0, 0, 0, 0, 0, 5206, 0, 0, 0, 0, 0, 0, 5214, 0, 0, 0, 0, 0, 0, 0, 0, 0, 0, 0, 0, 0, 5207, 0, 0, 0, 0, 7106, 0, 0, 0, 0, 0, 0, 0]
def sm_I259 : sm_I := (yX10_endsLoss, cX10_endsLoss, 9, some .long, sm_T259)
def sm_T260 : sm_T := [some (.aload_n 0, 0, 0, 0), some (.iload_n 1, 0, 0, 0), some (.invokevirtual 121, 178, 1, 10), none, none, some (.ifCond .eq 19, 24, 0, 0), none, none, some (.iload_n 2, 0, 0, 0), some (.ifCond .lt 15, 24, 0, 0), none, none, some (.iload_n 3, 0, 0, 0), some (.sipush 999, 0, 0, 0), none, none, some (.if_icmp .gt 8, 24, 0, 0), none, none, some (.iload_n 2, 0, 0, 0), some (.iload_n 3, 0, 0, 0), some (.if_icmp .le 11, 32, 0, 0), none, none, some (.aload_n 0, 0, 0, 0), some (.bipush (-5), 0, 0, 0), none, some (.invokevirtual 232, 175, 1, 10), none, none, some (.i2l, 0, 0, 0), some (.lreturn, 0, 0, 0), some (.aload_n 0, 0, 0, 0), some (.iload_n 1, 0, 0, 0), some (.iload_n 2, 0, 0, 0), some (.iload_n 3, 0, 0, 0), some (.invokevirtual 350, 259, 3, 10), none, none, some (.lreturn, 0, 0, 0)]
def sm_H260 : List Nat := [0, 0, 7015, 0, 0, 0, 0, 0, 0, 0, 0, 0, 0, 0, 7019, 0, 0, 0, 0, 0, 0, 7235, 0]
def sm_I260 : sm_I := (yX10_ends, cX10_ends, 4, some .long, sm_T260)
def sm_T261 : sm_T := [some (.iload_n 1, 0, 0, 0), some (.ifCond .ge 7, 8, 0, 0), none, none, some (.iconst 0, 0, 0, 0), some (.goto 17, 22, 0, 0), none, none, some (.iload_n 1, 0, 0, 0), some (.sipush 999, 0, 0, 0), none, none, some (.if_icmp .le 9, 21, 0, 0), none, none, some (.sipush 999, 0, 0, 0), none, none, some (.goto 4, 22, 0, 0), none, none, some (.iload_n 1, 0, 0, 0), some (.ireturn, 0, 0, 0)]
def sm_H261 : List Nat := [0, 0, 0, 0, 0, 0, 0, 0, 0, 0, 0]
def sm_I261 : sm_I := (yX10_within, cX10_within, 2, some .int, sm_T261)
def sm_T262 : sm_T := [some (.aload_n 0, 0, 0, 0), some (.getfield 36, 10, 10, 0), none, none, some (.iload_n 1, 0, 0, 0), some (.iaload, 0, 0, 0), some (.istore_n 3, 0, 0, 0), some (.iload_n 2, 0, 0, 0), some (.iload_n 3, 0, 0, 0), some (.if_icmp .ge 28, 37, 0, 0), none, none, some (.aload_n 0, 0, 0, 0), some (.aload_n 0, 0, 0, 0), some (.getfield 60, 10, 18, 0), none, none, some (.bipush 12, 0, 0, 0), none, some (.iload_n 1, 0, 0, 0), some (.imul, 0, 0, 0), some (.iload_n 2, 0, 0, 0), some (.iadd, 0, 0, 0), some (.iaload, 0, 0, 0), some (.aload_n 0, 0, 0, 0), some (.getfield 39, 10, 11, 0), none, none, some (.iload_n 1, 0, 0, 0), some (.iaload, 0, 0, 0), some (.iadd, 0, 0, 0), some (.invokevirtual 354, 261, 1, 10), none, none, some (.goto 27, 61, 0, 0), none, none, some (.aload_n 0, 0, 0, 0), some (.aload_n 0, 0, 0, 0), some (.getfield 60, 10, 18, 0), none, none, some (.bipush 12, 0, 0, 0), none, some (.iload_n 1, 0, 0, 0), some (.imul, 0, 0, 0), some (.iload_n 2, 0, 0, 0), some (.iadd, 0, 0, 0), some (.iload_n 3, 0, 0, 0), some (.isub, 0, 0, 0), some (.iaload, 0, 0, 0), some (.aload_n 0, 0, 0, 0), some (.getfield 42, 10, 12, 0), none, none, some (.iload_n 1, 0, 0, 0), some (.iaload, 0, 0, 0), some (.iadd, 0, 0, 0), some (.invokevirtual 354, 261, 1, 10), none, none, some (.ireturn, 0, 0, 0)]
def sm_H262 : List Nat := [0, 5205, 0, 0, 0, 0, 0, 0, 0, 0, 5213, 0, 0, 0, 0, 0, 0, 0, 5206, 0, 0, 0, 8011, 0, 0, 0, 5213, 0, 0, 0, 0, 0, 0, 0, 0, 0, 5207, 0, 0, 0, 8011, 0]
def sm_I262 : sm_I := (yX10_liked, cX10_liked, 4, some .int, sm_T262)
def sm_T263 : sm_T := [some (.iconst (-1), 0, 0, 0), some (.istore_n 2, 0, 0, 0), some (.lconst 0, 0, 0, 0), some (.lstore_n 3, 0, 0, 0), some (.iconst 2, 0, 0, 0), some (.aload_n 0, 0, 0, 0), some (.getfield 36, 10, 10, 0), none, none, some (.iload_n 1, 0, 0, 0), some (.iaload, 0, 0, 0), some (.imul, 0, 0, 0), some (.istore 5, 0, 0, 0), none, some (.iconst 0, 0, 0, 0), some (.istore 6, 0, 0, 0), none, some (.iload 6, 0, 0, 0), none, some (.iload 5, 0, 0, 0), none, some (.if_icmp .ge 109, 130, 0, 0), none, none, some (.iconst 0, 0, 0, 0), some (.istore 7, 0, 0, 0), none, some (.iload 7, 0, 0, 0), none, some (.iload 5, 0, 0, 0), none, some (.if_icmp .ge 93, 124, 0, 0), none, none, some (.aload_n 0, 0, 0, 0), some (.iload_n 1, 0, 0, 0), some (.iload 6, 0, 0, 0), none, some (.invokevirtual 357, 262, 2, 10), none, none, some (.istore 8, 0, 0, 0), none, some (.aload_n 0, 0, 0, 0), some (.iload_n 1, 0, 0, 0), some (.iload 7, 0, 0, 0), none, some (.invokevirtual 357, 262, 2, 10), none, none, some (.istore 9, 0, 0, 0), none, some (.iload 8, 0, 0, 0), none, some (.iload 9, 0, 0, 0), none, some (.if_icmp .le 6, 62, 0, 0), none, none, some (.goto 59, 118, 0, 0), none, none, some (.aload_n 0, 0, 0, 0), some (.iload_n 1, 0, 0, 0), some (.iload 8, 0, 0, 0), none, some (.iload 9, 0, 0, 0), none, some (.invokevirtual 350, 259, 3, 10), none, none, some (.lstore 10, 0, 0, 0), none, some (.iload_n 2, 0, 0, 0), some (.iconst (-1), 0, 0, 0), some (.if_icmp .eq 30, 105, 0, 0), none, none, some (.lload 10, 0, 0, 0), none, some (.lload_n 3, 0, 0, 0), some (.lcmp, 0, 0, 0), some (.ifCond .lt 23, 105, 0, 0), none, none, some (.lload 10, 0, 0, 0), none, some (.lload_n 3, 0, 0, 0), some (.lcmp, 0, 0, 0), some (.ifCond .ne 29, 118, 0, 0), none, none, some (.sipush 1000, 0, 0, 0), none, none, some (.iload 8, 0, 0, 0), none, some (.imul, 0, 0, 0), some (.iload 9, 0, 0, 0), none, some (.iadd, 0, 0, 0), some (.iload_n 2, 0, 0, 0), some (.if_icmp .ge 16, 118, 0, 0), none, none, some (.lload 10, 0, 0, 0), none, some (.lstore_n 3, 0, 0, 0), some (.sipush 1000, 0, 0, 0), none, none, some (.iload 8, 0, 0, 0), none, some (.imul, 0, 0, 0), some (.iload 9, 0, 0, 0), none, some (.iadd, 0, 0, 0), some (.istore_n 2, 0, 0, 0), some (.iinc 7 1, 0, 0, 0), none, none, some (.goto (-94), 27, 0, 0), none, none, some (.iinc 6 1, 0, 0, 0), none, none, some (.goto (-110), 17, 0, 0), none, none, some (.iload_n 2, 0, 0, 0), some (.ireturn, 0, 0, 0)]
def sm_H263 : List Nat := [0, 0, 0, 0, 0, 0, 5205, 0, 0, 0, 0, 0, 0, 0, 0, 0, 0, 0, 0, 0, 0, 0, 0, 0, 8007, 0, 0, 0, 0, 8007, 0, 0, 0, 0, 0, 0, 0, 0, 0, 7235, 0, 0, 0, 0, 0, 0, 0, 0, 0, 0, 0, 0, 0, 0, 0, 0, 0, 0, 0, 0, 0, 0, 0, 0, 0, 0, 0, 0, 0, 0, 0, 0, 0]
def sm_I263 : sm_I := (yX10_bestTwo, cX10_bestTwo, 12, some .int, sm_T263)
def sm_T264 : sm_T := [some (.aload_n 0, 0, 0, 0), some (.iload_n 1, 0, 0, 0), some (.invokevirtual 121, 178, 1, 10), none, none, some (.ifCond .eq 11, 16, 0, 0), none, none, some (.aload_n 0, 0, 0, 0), some (.iload_n 1, 0, 0, 0), some (.invokevirtual 360, 263, 1, 10), none, none, some (.goto 8, 21, 0, 0), none, none, some (.aload_n 0, 0, 0, 0), some (.iconst (-1), 0, 0, 0), some (.invokevirtual 131, 174, 1, 10), none, none, some (.ireturn, 0, 0, 0)]
def sm_H264 : List Nat := [0, 0, 7015, 0, 0, 0, 8003, 0, 0, 0, 6135, 0]
def sm_I264 : sm_I := (yX10_bestEnds, cX10_bestEnds, 2, some .int, sm_T264)
def sm_T265 : sm_T := [some (.aload_n 0, 0, 0, 0), some (.iload_n 1, 0, 0, 0), some (.invokevirtual 121, 178, 1, 10), none, none, some (.ifCond .ne 9, 14, 0, 0), none, none, some (.aload_n 0, 0, 0, 0), some (.iconst (-1), 0, 0, 0), some (.invokevirtual 131, 174, 1, 10), none, none, some (.ireturn, 0, 0, 0), some (.aload_n 0, 0, 0, 0), some (.iload_n 1, 0, 0, 0), some (.invokevirtual 360, 263, 1, 10), none, none, some (.istore_n 2, 0, 0, 0), some (.aload_n 0, 0, 0, 0), some (.iload_n 1, 0, 0, 0), some (.iload_n 2, 0, 0, 0), some (.sipush 1000, 0, 0, 0), none, none, some (.idiv, 0, 0, 0), some (.iload_n 2, 0, 0, 0), some (.sipush 1000, 0, 0, 0), none, none, some (.irem, 0, 0, 0), some (.invokevirtual 350, 259, 3, 10), none, none, some (.lstore_n 3, 0, 0, 0), some (.aload_n 0, 0, 0, 0), some (.iload_n 1, 0, 0, 0), some (.aload_n 0, 0, 0, 0), some (.iload_n 1, 0, 0, 0), some (.aload_n 0, 0, 0, 0), some (.getfield 42, 10, 12, 0), none, none, some (.iload_n 1, 0, 0, 0), some (.iaload, 0, 0, 0), some (.invokevirtual 327, 247, 2, 10), none, none, some (.invokevirtual 301, 234, 2, 10), none, none, some (.aload_n 0, 0, 0, 0), some (.iload_n 1, 0, 0, 0), some (.invokevirtual 304, 235, 1, 10), none, none, some (.lload_n 3, 0, 0, 0), some (.aload_n 0, 0, 0, 0), some (.iload_n 1, 0, 0, 0), some (.aload_n 0, 0, 0, 0), some (.getfield 42, 10, 12, 0), none, none, some (.iload_n 1, 0, 0, 0), some (.iaload, 0, 0, 0), some (.invokevirtual 311, 241, 2, 10), none, none, some (.lcmp, 0, 0, 0), some (.ifCond .ge 7, 77, 0, 0), none, none, some (.iconst 1, 0, 0, 0), some (.goto 4, 78, 0, 0), none, none, some (.iconst 0, 0, 0, 0), some (.ireturn, 0, 0, 0)]
def sm_H265 : List Nat := [0, 0, 7015, 0, 0, 0, 6135, 0, 0, 0, 8003, 0, 0, 0, 0, 0, 0, 0, 0, 0, 7235, 0, 0, 0, 0, 0, 0, 5207, 0, 0, 7182, 7130, 0, 0, 7134, 0, 0, 0, 0, 5207, 0, 0, 7138, 0, 0, 0, 0, 0, 0]
def sm_I265 : sm_I := (yX10_leave, cX10_leave, 5, some .int, sm_T265)
def sm_T266 : sm_T := [some (.aload_n 0, 0, 0, 0), some (.getfield 60, 10, 18, 0), none, none, some (.bipush 12, 0, 0, 0), none, some (.iload_n 1, 0, 0, 0), some (.imul, 0, 0, 0), some (.iload_n 2, 0, 0, 0), some (.iadd, 0, 0, 0), some (.iaload, 0, 0, 0), some (.istore 5, 0, 0, 0), none, some (.aload_n 0, 0, 0, 0), some (.getfield 60, 10, 18, 0), none, none, some (.bipush 12, 0, 0, 0), none, some (.iload_n 1, 0, 0, 0), some (.imul, 0, 0, 0), some (.iload_n 3, 0, 0, 0), some (.iadd, 0, 0, 0), some (.iaload, 0, 0, 0), some (.istore 6, 0, 0, 0), none, some (.aload_n 0, 0, 0, 0), some (.iload_n 1, 0, 0, 0), some (.aload_n 0, 0, 0, 0), some (.iload 6, 0, 0, 0), none, some (.aload_n 0, 0, 0, 0), some (.getfield 42, 10, 12, 0), none, none, some (.iload_n 1, 0, 0, 0), some (.iaload, 0, 0, 0), some (.iadd, 0, 0, 0), some (.invokevirtual 354, 261, 1, 10), none, none, some (.iload 6, 0, 0, 0), none, some (.isub, 0, 0, 0), some (.aload_n 0, 0, 0, 0), some (.getfield 39, 10, 11, 0), none, none, some (.iload_n 1, 0, 0, 0), some (.iaload, 0, 0, 0), some (.isub, 0, 0, 0), some (.i2l, 0, 0, 0), some (.invokevirtual 272, 208, 2, 10), none, none, some (.lstore 7, 0, 0, 0), none, some (.aload_n 0, 0, 0, 0), some (.iload_n 1, 0, 0, 0), some (.aload_n 0, 0, 0, 0), some (.iload 5, 0, 0, 0), none, some (.aload_n 0, 0, 0, 0), some (.getfield 42, 10, 12, 0), none, none, some (.iload_n 1, 0, 0, 0), some (.iaload, 0, 0, 0), some (.iadd, 0, 0, 0), some (.invokevirtual 354, 261, 1, 10), none, none, some (.iload 5, 0, 0, 0), none, some (.isub, 0, 0, 0), some (.iload 4, 0, 0, 0), none, some (.isub, 0, 0, 0), some (.i2l, 0, 0, 0), some (.invokevirtual 272, 208, 2, 10), none, none, some (.lstore 9, 0, 0, 0), none, some (.iconst 0, 0, 0, 0), some (.istore 11, 0, 0, 0), none, some (.iload 11, 0, 0, 0), none, some (.sipush 999, 0, 0, 0), none, none, some (.if_icmp .gt 55, 147, 0, 0), none, none, some (.aload_n 0, 0, 0, 0), some (.iload_n 1, 0, 0, 0), some (.iload 11, 0, 0, 0), none, some (.iload 6, 0, 0, 0), none, some (.isub, 0, 0, 0), some (.aload_n 0, 0, 0, 0), some (.getfield 39, 10, 11, 0), none, none, some (.iload_n 1, 0, 0, 0), some (.iaload, 0, 0, 0), some (.isub, 0, 0, 0), some (.i2l, 0, 0, 0), some (.invokevirtual 272, 208, 2, 10), none, none, some (.lload 7, 0, 0, 0), none, some (.lcmp, 0, 0, 0), some (.ifCond .lt 25, 141, 0, 0), none, none, some (.aload_n 0, 0, 0, 0), some (.iload_n 1, 0, 0, 0), some (.iload 11, 0, 0, 0), none, some (.iload 5, 0, 0, 0), none, some (.isub, 0, 0, 0), some (.iload 4, 0, 0, 0), none, some (.isub, 0, 0, 0), some (.i2l, 0, 0, 0), some (.invokevirtual 272, 208, 2, 10), none, none, some (.lload 9, 0, 0, 0), none, some (.lcmp, 0, 0, 0), some (.ifCond .lt 5, 141, 0, 0), none, none, some (.iconst 1, 0, 0, 0), some (.ireturn, 0, 0, 0), some (.iinc 11 1, 0, 0, 0), none, none, some (.goto (-57), 87, 0, 0), none, none, some (.iconst 0, 0, 0, 0), some (.ireturn, 0, 0, 0)]
def sm_H266 : List Nat := [0, 5213, 0, 0, 0, 0, 0, 0, 0, 0, 5213, 0, 0, 0, 0, 0, 0, 0, 0, 0, 0, 0, 0, 5207, 0, 0, 0, 8011, 0, 0, 0, 5206, 0, 0, 0, 0, 7106, 0, 0, 0, 0, 0, 0, 5207, 0, 0, 0, 8011, 0, 0, 0, 0, 0, 7106, 0, 0, 0, 0, 0, 0, 0, 0, 0, 0, 0, 0, 5206, 0, 0, 0, 0, 7106, 0, 0, 0, 0, 0, 0, 0, 0, 0, 0, 0, 7106, 0, 0, 0, 0, 0, 0, 0, 0, 0]
def sm_I266 : sm_I := (yX10_agrees, cX10_agrees, 12, some .boolean, sm_T266)
def sm_T267 : sm_T := [some (.aload_n 0, 0, 0, 0), some (.iload_n 1, 0, 0, 0), some (.invokevirtual 121, 178, 1, 10), none, none, some (.ifCond .ne 9, 14, 0, 0), none, none, some (.aload_n 0, 0, 0, 0), some (.iconst (-1), 0, 0, 0), some (.invokevirtual 330, 176, 1, 10), none, none, some (.ireturn, 0, 0, 0), some (.iload_n 2, 0, 0, 0), some (.sipush (-500), 0, 0, 0), none, none, some (.if_icmp .lt 10, 28, 0, 0), none, none, some (.iload_n 2, 0, 0, 0), some (.sipush 500, 0, 0, 0), none, none, some (.if_icmp .le 10, 35, 0, 0), none, none, some (.aload_n 0, 0, 0, 0), some (.bipush (-6), 0, 0, 0), none, some (.invokevirtual 330, 176, 1, 10), none, none, some (.ireturn, 0, 0, 0), some (.iconst 0, 0, 0, 0), some (.istore_n 3, 0, 0, 0), some (.iload_n 3, 0, 0, 0), some (.aload_n 0, 0, 0, 0), some (.getfield 36, 10, 10, 0), none, none, some (.iload_n 1, 0, 0, 0), some (.iaload, 0, 0, 0), some (.if_icmp .ge 55, 99, 0, 0), none, none, some (.iconst 0, 0, 0, 0), some (.istore 4, 0, 0, 0), none, some (.iload 4, 0, 0, 0), none, some (.aload_n 0, 0, 0, 0), some (.getfield 36, 10, 10, 0), none, none, some (.iload_n 1, 0, 0, 0), some (.iaload, 0, 0, 0), some (.if_icmp .ge 35, 93, 0, 0), none, none, some (.iload 4, 0, 0, 0), none, some (.iload_n 3, 0, 0, 0), some (.if_icmp .eq 23, 87, 0, 0), none, none, some (.aload_n 0, 0, 0, 0), some (.iload_n 1, 0, 0, 0), some (.iload_n 3, 0, 0, 0), some (.iload 4, 0, 0, 0), none, some (.iload_n 2, 0, 0, 0), some (.invokevirtual 363, 266, 4, 10), none, none, some (.ifCond .ne 11, 87, 0, 0), none, none, some (.bipush 100, 0, 0, 0), none, some (.iload_n 3, 0, 0, 0), some (.imul, 0, 0, 0), some (.iload 4, 0, 0, 0), none, some (.iadd, 0, 0, 0), some (.ireturn, 0, 0, 0), some (.iinc 4 1, 0, 0, 0), none, none, some (.goto (-40), 50, 0, 0), none, none, some (.iinc 3 1, 0, 0, 0), none, none, some (.goto (-59), 37, 0, 0), none, none, some (.iconst (-1), 0, 0, 0), some (.ireturn, 0, 0, 0)]
def sm_H267 : List Nat := [0, 0, 7015, 0, 0, 0, 7194, 0, 0, 0, 0, 0, 0, 0, 0, 0, 7194, 0, 0, 0, 0, 0, 5205, 0, 0, 0, 0, 0, 0, 0, 5205, 0, 0, 0, 0, 0, 0, 0, 0, 0, 0, 0, 8023, 0, 0, 0, 0, 0, 0, 0, 0, 0, 0, 0, 0, 0]
def sm_I267 : sm_I := (yX10_agree, cX10_agree, 5, some .int, sm_T267)
def sm_T268 : sm_T := [some (.iconst 0, 0, 0, 0), some (.istore_n 1, 0, 0, 0), some (.iconst 0, 0, 0, 0), some (.istore_n 2, 0, 0, 0), some (.iload_n 2, 0, 0, 0), some (.aload_n 0, 0, 0, 0), some (.getfield 125, 10, 1, 0), none, none, some (.if_icmp .ge 24, 33, 0, 0), none, none, some (.aload_n 0, 0, 0, 0), some (.iload_n 2, 0, 0, 0), some (.invokevirtual 287, 228, 1, 10), none, none, some (.iconst (-1), 0, 0, 0), some (.if_icmp .ne 9, 27, 0, 0), none, none, some (.iload_n 1, 0, 0, 0), some (.iconst 1, 0, 0, 0), some (.iload_n 2, 0, 0, 0), some (.ishl, 0, 0, 0), some (.ior, 0, 0, 0), some (.istore_n 1, 0, 0, 0), some (.iinc 2 1, 0, 0, 0), none, none, some (.goto (-26), 4, 0, 0), none, none, some (.iload_n 1, 0, 0, 0), some (.ireturn, 0, 0, 0)]
def sm_H268 : List Nat := [0, 0, 0, 0, 0, 0, 5196, 0, 0, 0, 7094, 0, 0, 0, 0, 0, 0, 0, 0, 0, 0, 0, 0]
def sm_I268 : sm_I := (yX10_still, cX10_still, 3, some .int, sm_T268)
def sm_T269 : sm_T := [some (.aload_n 0, 0, 0, 0), some (.aload_n 0, 0, 0, 0), some (.getfield 366, 10, 51, 0), none, none, some (.ldc_w 369, 1103515245, 0, 0), none, none, some (.imul, 0, 0, 0), some (.sipush 12345, 0, 0, 0), none, none, some (.iadd, 0, 0, 0), some (.ldc_w 370, 2147483647, 0, 0), none, none, some (.iand, 0, 0, 0), some (.putfield 366, 10, 51, 0), none, none, some (.aload_n 0, 0, 0, 0), some (.getfield 366, 10, 51, 0), none, none, some (.ldc_w 371, 65536, 0, 0), none, none, some (.idiv, 0, 0, 0), some (.iload_n 1, 0, 0, 0), some (.irem, 0, 0, 0), some (.ireturn, 0, 0, 0)]
def sm_H269 : List Nat := [0, 0, 6006, 8040, 0, 0, 0, 8035, 0, 6006, 0, 6006, 8041, 0, 0, 0, 0]
def sm_I269 : sm_I := (yX10_drawn, cX10_drawn, 2, some .int, sm_T269)
def sm_T270 : sm_T := [some (.aload_n 0, 0, 0, 0), some (.iload_n 1, 0, 0, 0), some (.invokevirtual 135, 180, 1, 10), none, none, some (.ifCond .eq 15, 20, 0, 0), none, none, some (.iload_n 3, 0, 0, 0), some (.iconst 1, 0, 0, 0), some (.if_icmp .lt 10, 20, 0, 0), none, none, some (.iload_n 3, 0, 0, 0), some (.sipush 200, 0, 0, 0), none, none, some (.if_icmp .le 11, 28, 0, 0), none, none, some (.aload_n 0, 0, 0, 0), some (.bipush (-5), 0, 0, 0), none, some (.invokevirtual 232, 175, 1, 10), none, none, some (.i2l, 0, 0, 0), some (.lreturn, 0, 0, 0), some (.aload_n 0, 0, 0, 0), some (.getfield 66, 10, 20, 0), none, none, some (.iload_n 1, 0, 0, 0), some (.iaload, 0, 0, 0), some (.istore 4, 0, 0, 0), none, some (.iconst 0, 0, 0, 0), some (.istore 5, 0, 0, 0), none, some (.aload_n 0, 0, 0, 0), some (.iload_n 1, 0, 0, 0), some (.invokevirtual 276, 226, 1, 10), none, none, some (.iconst 0, 0, 0, 0), some (.istore 6, 0, 0, 0), none, some (.iload 6, 0, 0, 0), none, some (.aload_n 0, 0, 0, 0), some (.getfield 36, 10, 10, 0), none, none, some (.iload 4, 0, 0, 0), none, some (.iaload, 0, 0, 0), some (.if_icmp .ge 27, 83, 0, 0), none, none, some (.iload 5, 0, 0, 0), none, some (.aload_n 0, 0, 0, 0), some (.getfield 63, 10, 19, 0), none, none, some (.bipush 12, 0, 0, 0), none, some (.iload 4, 0, 0, 0), none, some (.imul, 0, 0, 0), some (.iload 6, 0, 0, 0), none, some (.iadd, 0, 0, 0), some (.iaload, 0, 0, 0), some (.iadd, 0, 0, 0), some (.istore 5, 0, 0, 0), none, some (.iinc 6 1, 0, 0, 0), none, none, some (.goto (-33), 47, 0, 0), none, none, some (.aload_n 0, 0, 0, 0), some (.iload_n 2, 0, 0, 0), some (.ldc_w 370, 2147483647, 0, 0), none, none, some (.iand, 0, 0, 0), some (.putfield 366, 10, 51, 0), none, none, some (.lconst 0, 0, 0, 0), some (.lstore 6, 0, 0, 0), none, some (.iconst 0, 0, 0, 0), some (.istore 8, 0, 0, 0), none, some (.iload 8, 0, 0, 0), none, some (.iload_n 3, 0, 0, 0), some (.if_icmp .ge 192, 293, 0, 0), none, none, some (.aload_n 0, 0, 0, 0), some (.iload 5, 0, 0, 0), none, some (.invokevirtual 372, 269, 1, 10), none, none, some (.istore 9, 0, 0, 0), none, some (.iconst 0, 0, 0, 0), some (.istore 10, 0, 0, 0), none, some (.iload 9, 0, 0, 0), none, some (.aload_n 0, 0, 0, 0), some (.getfield 63, 10, 19, 0), none, none, some (.bipush 12, 0, 0, 0), none, some (.iload 4, 0, 0, 0), none, some (.imul, 0, 0, 0), some (.iload 10, 0, 0, 0), none, some (.iadd, 0, 0, 0), some (.iaload, 0, 0, 0), some (.if_icmp .lt 27, 157, 0, 0), none, none, some (.iload 9, 0, 0, 0), none, some (.aload_n 0, 0, 0, 0), some (.getfield 63, 10, 19, 0), none, none, some (.bipush 12, 0, 0, 0), none, some (.iload 4, 0, 0, 0), none, some (.imul, 0, 0, 0), some (.iload 10, 0, 0, 0), none, some (.iadd, 0, 0, 0), some (.iaload, 0, 0, 0), some (.isub, 0, 0, 0), some (.istore 9, 0, 0, 0), none, some (.iinc 10 1, 0, 0, 0), none, none, some (.goto (-39), 115, 0, 0), none, none, some (.aload_n 0, 0, 0, 0), some (.getfield 75, 10, 23, 0), none, none, some (.bipush 12, 0, 0, 0), none, some (.iload_n 1, 0, 0, 0), some (.imul, 0, 0, 0), some (.iload 10, 0, 0, 0), none, some (.iadd, 0, 0, 0), some (.iaload, 0, 0, 0), some (.istore 11, 0, 0, 0), none, some (.aload_n 0, 0, 0, 0), some (.getfield 69, 10, 21, 0), none, none, some (.iload_n 1, 0, 0, 0), some (.iaload, 0, 0, 0), some (.iconst 2, 0, 0, 0), some (.if_icmp .ne 68, 246, 0, 0), none, none, some (.aload_n 0, 0, 0, 0), some (.bipush 100, 0, 0, 0), none, some (.invokevirtual 372, 269, 1, 10), none, none, some (.aload_n 0, 0, 0, 0), some (.getfield 72, 10, 22, 0), none, none, some (.iload_n 1, 0, 0, 0), some (.iaload, 0, 0, 0), some (.if_icmp .lt 53, 246, 0, 0), none, none, some (.aload_n 0, 0, 0, 0), some (.aload_n 0, 0, 0, 0), some (.getfield 269, 10, 44, 0), none, none, some (.invokevirtual 372, 269, 1, 10), none, none, some (.istore 12, 0, 0, 0), none, some (.iconst (-1), 0, 0, 0), some (.istore 11, 0, 0, 0), none, some (.iconst 0, 0, 0, 0), some (.istore 13, 0, 0, 0), none, some (.iload 13, 0, 0, 0), none, some (.iload 12, 0, 0, 0), none, some (.if_icmp .gt 30, 246, 0, 0), none, none, some (.iinc 11 1, 0, 0, 0), none, none, some (.aload_n 0, 0, 0, 0), some (.getfield 266, 10, 43, 0), none, none, some (.iload 11, 0, 0, 0), none, some (.ishr, 0, 0, 0), some (.iconst 1, 0, 0, 0), some (.iand, 0, 0, 0), some (.ifCond .ne 9, 240, 0, 0), none, none, some (.iinc 11 1, 0, 0, 0), none, none, some (.goto (-15), 222, 0, 0), none, none, some (.iinc 13 1, 0, 0, 0), none, none, some (.goto (-31), 212, 0, 0), none, none, some (.lload 6, 0, 0, 0), none, some (.aload_n 0, 0, 0, 0), some (.iload 4, 0, 0, 0), none, some (.aload_n 0, 0, 0, 0), some (.getfield 90, 10, 42, 0), none, none, some (.iload 11, 0, 0, 0), none, some (.iaload, 0, 0, 0), some (.aload_n 0, 0, 0, 0), some (.getfield 60, 10, 18, 0), none, none, some (.bipush 12, 0, 0, 0), none, some (.iload 4, 0, 0, 0), none, some (.imul, 0, 0, 0), some (.iload 10, 0, 0, 0), none, some (.iadd, 0, 0, 0), some (.iaload, 0, 0, 0), some (.isub, 0, 0, 0), some (.aload_n 0, 0, 0, 0), some (.getfield 42, 10, 12, 0), none, none, some (.iload 4, 0, 0, 0), none, some (.iaload, 0, 0, 0), some (.isub, 0, 0, 0), some (.i2l, 0, 0, 0), some (.invokevirtual 272, 208, 2, 10), none, none, some (.ladd, 0, 0, 0), some (.lstore 6, 0, 0, 0), none, some (.iinc 8 1, 0, 0, 0), none, none, some (.goto (-192), 98, 0, 0), none, none, some (.lload 6, 0, 0, 0), none, some (.lreturn, 0, 0, 0)]
def sm_H270 : List Nat := [0, 0, 6155, 0, 0, 0, 0, 0, 0, 0, 0, 0, 7019, 0, 0, 0, 5215, 0, 0, 0, 0, 0, 0, 0, 7098, 0, 0, 0, 0, 5205, 0, 0, 0, 0, 0, 5214, 0, 0, 0, 0, 0, 0, 0, 0, 0, 0, 0, 0, 8035, 0, 6006, 0, 0, 0, 0, 0, 0, 0, 0, 0, 8036, 0, 0, 0, 0, 0, 5214, 0, 0, 0, 0, 0, 0, 0, 0, 0, 5214, 0, 0, 0, 0, 0, 0, 0, 0, 0, 0, 0, 5218, 0, 0, 0, 0, 0, 0, 0, 0, 5216, 0, 0, 0, 0, 0, 0, 8036, 0, 5217, 0, 0, 0, 0, 0, 5239, 8036, 0, 0, 0, 0, 0, 0, 0, 0, 0, 0, 5238, 0, 0, 0, 0, 0, 0, 0, 0, 0, 0, 0, 0, 0, 5237, 0, 0, 0, 5213, 0, 0, 0, 0, 0, 0, 0, 0, 5207, 0, 0, 0, 0, 7106, 0, 0, 0, 0, 0, 0]
def sm_I270 : sm_I := (yX10_draw, cX10_draw, 14, some .long, sm_T270)
def sm_T271 : sm_T := [some (.aload_n 0, 0, 0, 0), some (.getfield 375, 10, 53, 0), none, none, some (.bipush 20, 0, 0, 0), none, some (.if_icmp .ge 13, 19, 0, 0), none, none, some (.aload_n 0, 0, 0, 0), some (.getfield 108, 10, 52, 0), none, none, some (.aload_n 0, 0, 0, 0), some (.getfield 375, 10, 53, 0), none, none, some (.iload_n 1, 0, 0, 0), some (.iastore, 0, 0, 0), some (.aload_n 0, 0, 0, 0), some (.dup, 0, 0, 0), some (.getfield 375, 10, 53, 0), none, none, some (.iconst 1, 0, 0, 0), some (.iadd, 0, 0, 0), some (.putfield 375, 10, 53, 0), none, none, some (.return_, 0, 0, 0)]
def sm_H271 : List Nat := [0, 6008, 0, 0, 0, 6007, 0, 6008, 0, 0, 0, 0, 6008, 0, 0, 6008, 0]
def sm_I271 : sm_I := (yX10_body, cX10_body, 2, none, sm_T271)
def sm_T272 : sm_T := [some (.aload_n 0, 0, 0, 0), some (.getfield 69, 10, 21, 0), none, none, some (.iload_n 1, 0, 0, 0), some (.iaload, 0, 0, 0), some (.istore_n 3, 0, 0, 0), some (.iload_n 3, 0, 0, 0), some (.iconst 1, 0, 0, 0), some (.if_icmp .eq 13, 22, 0, 0), none, none, some (.iload_n 3, 0, 0, 0), some (.iconst 3, 0, 0, 0), some (.if_icmp .eq 8, 22, 0, 0), none, none, some (.iload_n 3, 0, 0, 0), some (.iconst 4, 0, 0, 0), some (.if_icmp .ne 9, 28, 0, 0), none, none, some (.aload_n 0, 0, 0, 0), some (.bipush 20, 0, 0, 0), none, some (.invokevirtual 378, 271, 1, 10), none, none, some (.iload_n 3, 0, 0, 0), some (.iconst 5, 0, 0, 0), some (.if_icmp .ne 9, 39, 0, 0), none, none, some (.aload_n 0, 0, 0, 0), some (.bipush 60, 0, 0, 0), none, some (.invokevirtual 378, 271, 1, 10), none, none, some (.aload_n 0, 0, 0, 0), some (.bipush 10, 0, 0, 0), none, some (.invokevirtual 378, 271, 1, 10), none, none, some (.iload_n 2, 0, 0, 0), some (.iload_n 1, 0, 0, 0), some (.iadd, 0, 0, 0), some (.istore 4, 0, 0, 0), none, some (.iload_n 3, 0, 0, 0), some (.iconst 5, 0, 0, 0), some (.if_icmp .ne 10, 62, 0, 0), none, none, some (.iload 4, 0, 0, 0), none, some (.iconst 5, 0, 0, 0), some (.ixor, 0, 0, 0), some (.goto 21, 80, 0, 0), none, none, some (.iload_n 3, 0, 0, 0), some (.ifCond .eq 8, 71, 0, 0), none, none, some (.iload_n 3, 0, 0, 0), some (.iconst 2, 0, 0, 0), some (.if_icmp .ne 8, 76, 0, 0), none, none, some (.iload 4, 0, 0, 0), none, some (.goto 7, 80, 0, 0), none, none, some (.iload 4, 0, 0, 0), none, some (.iconst 3, 0, 0, 0), some (.imul, 0, 0, 0), some (.ireturn, 0, 0, 0)]
def sm_H272 : List Nat := [0, 5216, 0, 0, 0, 0, 0, 0, 0, 0, 0, 0, 0, 0, 0, 0, 8050, 0, 0, 0, 0, 0, 8050, 0, 0, 8050, 0, 0, 0, 0, 0, 0, 0, 0, 0, 0, 0, 0, 0, 0, 0, 0, 0, 0, 0, 0, 0, 0]
def sm_I272 : sm_I := (yX10_thinks, cX10_thinks, 5, some .int, sm_T272)
def sm_T273 : sm_T := [some (.aload_n 0, 0, 0, 0), some (.getfield 69, 10, 21, 0), none, none, some (.iload_n 1, 0, 0, 0), some (.iaload, 0, 0, 0), some (.istore_n 3, 0, 0, 0), some (.iload_n 3, 0, 0, 0), some (.iconst 3, 0, 0, 0), some (.if_icmp .ne 9, 18, 0, 0), none, none, some (.aload_n 0, 0, 0, 0), some (.bipush 30, 0, 0, 0), none, some (.invokevirtual 378, 271, 1, 10), none, none, some (.iload_n 3, 0, 0, 0), some (.iconst 4, 0, 0, 0), some (.if_icmp .ne 9, 29, 0, 0), none, none, some (.aload_n 0, 0, 0, 0), some (.bipush 41, 0, 0, 0), none, some (.invokevirtual 378, 271, 1, 10), none, none, some (.aload_n 0, 0, 0, 0), some (.bipush 11, 0, 0, 0), none, some (.invokevirtual 378, 271, 1, 10), none, none, some (.aload_n 0, 0, 0, 0), some (.iload_n 1, 0, 0, 0), some (.iload_n 2, 0, 0, 0), some (.invokevirtual 381, 272, 2, 10), none, none, some (.iconst 2, 0, 0, 0), some (.imul, 0, 0, 0), some (.istore 4, 0, 0, 0), none, some (.iload_n 3, 0, 0, 0), some (.iconst 3, 0, 0, 0), some (.if_icmp .ne 10, 57, 0, 0), none, none, some (.iload 4, 0, 0, 0), none, some (.iload_n 1, 0, 0, 0), some (.isub, 0, 0, 0), some (.goto 16, 70, 0, 0), none, none, some (.iload_n 3, 0, 0, 0), some (.iconst 4, 0, 0, 0), some (.if_icmp .ne 9, 68, 0, 0), none, none, some (.iload 4, 0, 0, 0), none, some (.ineg, 0, 0, 0), some (.goto 5, 70, 0, 0), none, none, some (.iload 4, 0, 0, 0), none, some (.ireturn, 0, 0, 0)]
def sm_H273 : List Nat := [0, 5216, 0, 0, 0, 0, 0, 0, 0, 0, 8050, 0, 0, 0, 0, 0, 8050, 0, 0, 8050, 0, 0, 0, 8046, 0, 0, 0, 0, 0, 0, 0, 0, 0, 0, 0, 0, 0, 0, 0, 0, 0, 0]
def sm_I273 : sm_I := (yX10_spoken, cX10_spoken, 5, some .int, sm_T273)
def sm_T274 : sm_T := [some (.aload_n 0, 0, 0, 0), some (.getfield 69, 10, 21, 0), none, none, some (.iload_n 1, 0, 0, 0), some (.iaload, 0, 0, 0), some (.istore_n 3, 0, 0, 0), some (.aload_n 0, 0, 0, 0), some (.getfield 66, 10, 20, 0), none, none, some (.iload_n 1, 0, 0, 0), some (.iaload, 0, 0, 0), some (.istore 4, 0, 0, 0), none, some (.iload_n 3, 0, 0, 0), some (.iconst 4, 0, 0, 0), some (.if_icmp .ne 9, 26, 0, 0), none, none, some (.iload_n 2, 0, 0, 0), some (.iconst 1, 0, 0, 0), some (.iadd, 0, 0, 0), some (.goto 4, 27, 0, 0), none, none, some (.iload_n 2, 0, 0, 0), some (.istore 5, 0, 0, 0), none, some (.iload_n 3, 0, 0, 0), some (.iconst 4, 0, 0, 0), some (.if_icmp .ne 9, 40, 0, 0), none, none, some (.aload_n 0, 0, 0, 0), some (.bipush 40, 0, 0, 0), none, some (.invokevirtual 378, 271, 1, 10), none, none, some (.iload_n 3, 0, 0, 0), some (.iconst 2, 0, 0, 0), some (.if_icmp .ne 9, 51, 0, 0), none, none, some (.aload_n 0, 0, 0, 0), some (.bipush 50, 0, 0, 0), none, some (.invokevirtual 378, 271, 1, 10), none, none, some (.iload_n 3, 0, 0, 0), some (.iconst 5, 0, 0, 0), some (.if_icmp .ne 9, 62, 0, 0), none, none, some (.aload_n 0, 0, 0, 0), some (.bipush 61, 0, 0, 0), none, some (.invokevirtual 378, 271, 1, 10), none, none, some (.aload_n 0, 0, 0, 0), some (.bipush 12, 0, 0, 0), none, some (.invokevirtual 378, 271, 1, 10), none, none, some (.aload_n 0, 0, 0, 0), some (.iload_n 1, 0, 0, 0), some (.iload 5, 0, 0, 0), none, some (.invokevirtual 384, 273, 2, 10), none, none, some (.istore 6, 0, 0, 0), none, some (.iload 6, 0, 0, 0), none, some (.aload_n 0, 0, 0, 0), some (.iload_n 1, 0, 0, 0), some (.iload 5, 0, 0, 0), none, some (.iload 4, 0, 0, 0), none, some (.isub, 0, 0, 0), some (.invokevirtual 381, 272, 2, 10), none, none, some (.ixor, 0, 0, 0), some (.istore 7, 0, 0, 0), none, some (.iload_n 3, 0, 0, 0), some (.iconst 2, 0, 0, 0), some (.if_icmp .ne 11, 105, 0, 0), none, none, some (.iload 7, 0, 0, 0), none, some (.iload 4, 0, 0, 0), none, some (.iadd, 0, 0, 0), some (.goto 17, 119, 0, 0), none, none, some (.iload_n 3, 0, 0, 0), some (.iconst 5, 0, 0, 0), some (.if_icmp .ne 10, 117, 0, 0), none, none, some (.iload 7, 0, 0, 0), none, some (.iconst 2, 0, 0, 0), some (.imul, 0, 0, 0), some (.goto 5, 119, 0, 0), none, none, some (.iload 7, 0, 0, 0), none, some (.ireturn, 0, 0, 0)]
def sm_H274 : List Nat := [0, 5216, 0, 0, 0, 0, 5215, 0, 0, 0, 0, 0, 0, 0, 0, 0, 0, 0, 0, 0, 0, 0, 0, 0, 8050, 0, 0, 0, 0, 0, 8050, 0, 0, 0, 0, 0, 8050, 0, 0, 8050, 0, 0, 0, 8054, 0, 0, 0, 0, 0, 0, 0, 8046, 0, 0, 0, 0, 0, 0, 0, 0, 0, 0, 0, 0, 0, 0, 0, 0, 0, 0]
def sm_I274 : sm_I := (yX10_doing, cX10_doing, 8, some .int, sm_T274)
def sm_T275 : sm_T := [some (.aload_n 0, 0, 0, 0), some (.iconst 0, 0, 0, 0), some (.putfield 375, 10, 53, 0), none, none, some (.aload_n 0, 0, 0, 0), some (.iload_n 1, 0, 0, 0), some (.invokevirtual 135, 180, 1, 10), none, none, some (.ifCond .eq 12, 22, 0, 0), none, none, some (.iload_n 2, 0, 0, 0), some (.ifCond .lt 8, 22, 0, 0), none, none, some (.iload_n 2, 0, 0, 0), some (.iconst 2, 0, 0, 0), some (.if_icmp .le 5, 24, 0, 0), none, none, some (.iconst 0, 0, 0, 0), some (.ireturn, 0, 0, 0), some (.iload_n 2, 0, 0, 0), some (.ifCond .ne 12, 37, 0, 0), none, none, some (.aload_n 0, 0, 0, 0), some (.iload_n 1, 0, 0, 0), some (.iload_n 3, 0, 0, 0), some (.invokevirtual 381, 272, 2, 10), none, none, some (.goto 23, 57, 0, 0), none, none, some (.iload_n 2, 0, 0, 0), some (.iconst 1, 0, 0, 0), some (.if_icmp .ne 12, 51, 0, 0), none, none, some (.aload_n 0, 0, 0, 0), some (.iload_n 1, 0, 0, 0), some (.iload_n 3, 0, 0, 0), some (.invokevirtual 384, 273, 2, 10), none, none, some (.goto 9, 57, 0, 0), none, none, some (.aload_n 0, 0, 0, 0), some (.iload_n 1, 0, 0, 0), some (.iload_n 3, 0, 0, 0), some (.invokevirtual 387, 274, 2, 10), none, none, some (.ireturn, 0, 0, 0)]
def sm_H275 : List Nat := [0, 0, 6008, 0, 0, 6155, 0, 0, 0, 0, 0, 0, 0, 0, 0, 0, 0, 0, 0, 8046, 0, 0, 0, 0, 0, 0, 0, 8054, 0, 0, 0, 0, 8058, 0]
def sm_I275 : sm_I := (yX10_act, cX10_act, 4, some .int, sm_T275)
def sm_T276 : sm_T := [some (.iload_n 1, 0, 0, 0), some (.ifCond .lt 26, 27, 0, 0), none, none, some (.iload_n 1, 0, 0, 0), some (.bipush 20, 0, 0, 0), none, some (.if_icmp .ge 20, 27, 0, 0), none, none, some (.iload_n 1, 0, 0, 0), some (.aload_n 0, 0, 0, 0), some (.getfield 375, 10, 53, 0), none, none, some (.if_icmp .ge 12, 27, 0, 0), none, none, some (.aload_n 0, 0, 0, 0), some (.getfield 108, 10, 52, 0), none, none, some (.iload_n 1, 0, 0, 0), some (.iaload, 0, 0, 0), some (.goto 4, 28, 0, 0), none, none, some (.iconst (-1), 0, 0, 0), some (.ireturn, 0, 0, 0)]
def sm_H276 : List Nat := [0, 0, 0, 0, 0, 0, 0, 6008, 0, 0, 6007, 0, 0, 0, 0, 0]
def sm_I276 : sm_I := (yX10_trace, cX10_trace, 2, some .int, sm_T276)
def sm_T277 : sm_T := [some (.iconst 0, 0, 0, 0), some (.istore 5, 0, 0, 0), none, some (.iload 5, 0, 0, 0), none, some (.iload_n 2, 0, 0, 0), some (.if_icmp .ge 43, 49, 0, 0), none, none, some (.iload 4, 0, 0, 0), none, some (.ifCond .eq 19, 30, 0, 0), none, none, some (.aload_n 1, 0, 0, 0), some (.iload 5, 0, 0, 0), none, some (.aload_n 0, 0, 0, 0), some (.getfield 114, 10, 56, 0), none, none, some (.iload_n 3, 0, 0, 0), some (.iload 5, 0, 0, 0), none, some (.iadd, 0, 0, 0), some (.iaload, 0, 0, 0), some (.iastore, 0, 0, 0), some (.goto 16, 43, 0, 0), none, none, some (.aload_n 0, 0, 0, 0), some (.getfield 114, 10, 56, 0), none, none, some (.iload_n 3, 0, 0, 0), some (.iload 5, 0, 0, 0), none, some (.iadd, 0, 0, 0), some (.aload_n 1, 0, 0, 0), some (.iload 5, 0, 0, 0), none, some (.iaload, 0, 0, 0), some (.iastore, 0, 0, 0), some (.iinc 5 1, 0, 0, 0), none, none, some (.goto (-43), 3, 0, 0), none, none, some (.iload_n 3, 0, 0, 0), some (.iload_n 2, 0, 0, 0), some (.iadd, 0, 0, 0), some (.ireturn, 0, 0, 0)]
def sm_H277 : List Nat := [0, 0, 0, 0, 0, 0, 0, 0, 0, 0, 6011, 0, 0, 0, 0, 0, 0, 0, 6011, 0, 0, 0, 0, 0, 0, 0, 0, 0, 0, 0, 0, 0]
def sm_I277 : sm_I := (yX10_keeps, cX10_keeps, 6, some .int, sm_T277)
def sm_T278 : sm_T := [some (.aload_n 0, 0, 0, 0), some (.aload_n 0, 0, 0, 0), some (.getfield 36, 10, 10, 0), none, none, some (.bipush 8, 0, 0, 0), none, some (.iconst 0, 0, 0, 0), some (.iload_n 1, 0, 0, 0), some (.invokevirtual 390, 277, 4, 10), none, none, some (.istore_n 2, 0, 0, 0), some (.aload_n 0, 0, 0, 0), some (.aload_n 0, 0, 0, 0), some (.getfield 39, 10, 11, 0), none, none, some (.bipush 8, 0, 0, 0), none, some (.iload_n 2, 0, 0, 0), some (.iload_n 1, 0, 0, 0), some (.invokevirtual 390, 277, 4, 10), none, none, some (.istore_n 2, 0, 0, 0), some (.aload_n 0, 0, 0, 0), some (.aload_n 0, 0, 0, 0), some (.getfield 42, 10, 12, 0), none, none, some (.bipush 8, 0, 0, 0), none, some (.iload_n 2, 0, 0, 0), some (.iload_n 1, 0, 0, 0), some (.invokevirtual 390, 277, 4, 10), none, none, some (.istore_n 2, 0, 0, 0), some (.aload_n 0, 0, 0, 0), some (.aload_n 0, 0, 0, 0), some (.getfield 45, 10, 13, 0), none, none, some (.bipush 8, 0, 0, 0), none, some (.iload_n 2, 0, 0, 0), some (.iload_n 1, 0, 0, 0), some (.invokevirtual 390, 277, 4, 10), none, none, some (.istore_n 2, 0, 0, 0), some (.aload_n 0, 0, 0, 0), some (.aload_n 0, 0, 0, 0), some (.getfield 48, 10, 14, 0), none, none, some (.bipush 8, 0, 0, 0), none, some (.iload_n 2, 0, 0, 0), some (.iload_n 1, 0, 0, 0), some (.invokevirtual 390, 277, 4, 10), none, none, some (.istore_n 2, 0, 0, 0), some (.aload_n 0, 0, 0, 0), some (.aload_n 0, 0, 0, 0), some (.getfield 51, 10, 15, 0), none, none, some (.bipush 8, 0, 0, 0), none, some (.iload_n 2, 0, 0, 0), some (.iload_n 1, 0, 0, 0), some (.invokevirtual 390, 277, 4, 10), none, none, some (.istore_n 2, 0, 0, 0), some (.aload_n 0, 0, 0, 0), some (.aload_n 0, 0, 0, 0), some (.getfield 54, 10, 16, 0), none, none, some (.bipush 8, 0, 0, 0), none, some (.iload_n 2, 0, 0, 0), some (.iload_n 1, 0, 0, 0), some (.invokevirtual 390, 277, 4, 10), none, none, some (.istore_n 2, 0, 0, 0), some (.aload_n 0, 0, 0, 0), some (.aload_n 0, 0, 0, 0), some (.getfield 57, 10, 17, 0), none, none, some (.bipush 8, 0, 0, 0), none, some (.iload_n 2, 0, 0, 0), some (.iload_n 1, 0, 0, 0), some (.invokevirtual 390, 277, 4, 10), none, none, some (.istore_n 2, 0, 0, 0), some (.aload_n 0, 0, 0, 0), some (.aload_n 0, 0, 0, 0), some (.getfield 60, 10, 18, 0), none, none, some (.bipush 96, 0, 0, 0), none, some (.iload_n 2, 0, 0, 0), some (.iload_n 1, 0, 0, 0), some (.invokevirtual 390, 277, 4, 10), none, none, some (.istore_n 2, 0, 0, 0), some (.aload_n 0, 0, 0, 0), some (.aload_n 0, 0, 0, 0), some (.getfield 63, 10, 19, 0), none, none, some (.bipush 96, 0, 0, 0), none, some (.iload_n 2, 0, 0, 0), some (.iload_n 1, 0, 0, 0), some (.invokevirtual 390, 277, 4, 10), none, none, some (.istore_n 2, 0, 0, 0), some (.aload_n 0, 0, 0, 0), some (.aload_n 0, 0, 0, 0), some (.getfield 66, 10, 20, 0), none, none, some (.bipush 12, 0, 0, 0), none, some (.iload_n 2, 0, 0, 0), some (.iload_n 1, 0, 0, 0), some (.invokevirtual 390, 277, 4, 10), none, none, some (.istore_n 2, 0, 0, 0), some (.aload_n 0, 0, 0, 0), some (.aload_n 0, 0, 0, 0), some (.getfield 69, 10, 21, 0), none, none, some (.bipush 12, 0, 0, 0), none, some (.iload_n 2, 0, 0, 0), some (.iload_n 1, 0, 0, 0), some (.invokevirtual 390, 277, 4, 10), none, none, some (.istore_n 2, 0, 0, 0), some (.aload_n 0, 0, 0, 0), some (.aload_n 0, 0, 0, 0), some (.getfield 72, 10, 22, 0), none, none, some (.bipush 12, 0, 0, 0), none, some (.iload_n 2, 0, 0, 0), some (.iload_n 1, 0, 0, 0), some (.invokevirtual 390, 277, 4, 10), none, none, some (.istore_n 2, 0, 0, 0), some (.aload_n 0, 0, 0, 0), some (.aload_n 0, 0, 0, 0), some (.getfield 75, 10, 23, 0), none, none, some (.sipush 144, 0, 0, 0), none, none, some (.iload_n 2, 0, 0, 0), some (.iload_n 1, 0, 0, 0), some (.invokevirtual 390, 277, 4, 10), none, none, some (.istore_n 2, 0, 0, 0), some (.aload_n 0, 0, 0, 0), some (.aload_n 0, 0, 0, 0), some (.getfield 78, 10, 24, 0), none, none, some (.sipush 144, 0, 0, 0), none, none, some (.iload_n 2, 0, 0, 0), some (.iload_n 1, 0, 0, 0), some (.invokevirtual 390, 277, 4, 10), none, none, some (.pop, 0, 0, 0), some (.return_, 0, 0, 0)]
def sm_H278 : List Nat := [0, 0, 5205, 0, 0, 0, 8074, 0, 0, 0, 5206, 0, 0, 0, 8074, 0, 0, 0, 5207, 0, 0, 0, 8074, 0, 0, 0, 5208, 0, 0, 0, 8074, 0, 0, 0, 5209, 0, 0, 0, 8074, 0, 0, 0, 5210, 0, 0, 0, 8074, 0, 0, 0, 5211, 0, 0, 0, 8074, 0, 0, 0, 5212, 0, 0, 0, 8074, 0, 0, 0, 5213, 0, 0, 0, 8074, 0, 0, 0, 5214, 0, 0, 0, 8074, 0, 0, 0, 5215, 0, 0, 0, 8074, 0, 0, 0, 5216, 0, 0, 0, 8074, 0, 0, 0, 5217, 0, 0, 0, 8074, 0, 0, 0, 5218, 0, 0, 0, 8074, 0, 0, 0, 5219, 0, 0, 0, 8074, 0, 0]
def sm_I278 : sm_I := (yX10_all, cX10_all, 3, none, sm_T278)
def sm_T279 : sm_T := [some (.aload_n 0, 0, 0, 0), some (.aload_n 0, 0, 0, 0), some (.getfield 118, 10, 0, 0), none, none, some (.putfield 111, 10, 54, 0), none, none, some (.aload_n 0, 0, 0, 0), some (.aload_n 0, 0, 0, 0), some (.getfield 125, 10, 1, 0), none, none, some (.putfield 394, 10, 55, 0), none, none, some (.aload_n 0, 0, 0, 0), some (.iconst 0, 0, 0, 0), some (.invokevirtual 397, 278, 1, 10), none, none, some (.aload_n 0, 0, 0, 0), some (.getfield 125, 10, 1, 0), none, none, some (.ireturn, 0, 0, 0)]
def sm_H279 : List Nat := [0, 0, 5195, 6009, 0, 0, 5196, 6010, 0, 0, 8070, 0, 5196, 0]
def sm_I279 : sm_I := (yX10_image, cX10_image, 1, some .int, sm_T279)
def sm_T280 : sm_T := [some (.aload_n 0, 0, 0, 0), some (.getfield 111, 10, 54, 0), none, none, some (.iconst (-1), 0, 0, 0), some (.if_icmp .ne 10, 15, 0, 0), none, none, some (.aload_n 0, 0, 0, 0), some (.bipush (-6), 0, 0, 0), none, some (.invokevirtual 131, 174, 1, 10), none, none, some (.ireturn, 0, 0, 0), some (.aload_n 0, 0, 0, 0), some (.aload_n 0, 0, 0, 0), some (.getfield 111, 10, 54, 0), none, none, some (.putfield 118, 10, 0, 0), none, none, some (.aload_n 0, 0, 0, 0), some (.aload_n 0, 0, 0, 0), some (.getfield 394, 10, 55, 0), none, none, some (.putfield 125, 10, 1, 0), none, none, some (.aload_n 0, 0, 0, 0), some (.iconst 1, 0, 0, 0), some (.invokevirtual 397, 278, 1, 10), none, none, some (.iconst 0, 0, 0, 0), some (.istore_n 1, 0, 0, 0), some (.iload_n 1, 0, 0, 0), some (.bipush 8, 0, 0, 0), none, some (.if_icmp .ge 39, 80, 0, 0), none, none, some (.aload_n 0, 0, 0, 0), some (.getfield 17, 10, 4, 0), none, none, some (.iload_n 1, 0, 0, 0), some (.iaload, 0, 0, 0), some (.iconst 2, 0, 0, 0), some (.if_icmp .ne 23, 74, 0, 0), none, none, some (.aload_n 0, 0, 0, 0), some (.getfield 26, 10, 7, 0), none, none, some (.iload_n 1, 0, 0, 0), some (.iaload, 0, 0, 0), some (.aload_n 0, 0, 0, 0), some (.getfield 125, 10, 1, 0), none, none, some (.if_icmp .lt 10, 74, 0, 0), none, none, some (.aload_n 0, 0, 0, 0), some (.getfield 17, 10, 4, 0), none, none, some (.iload_n 1, 0, 0, 0), some (.iconst 0, 0, 0, 0), some (.iastore, 0, 0, 0), some (.iinc 1 1, 0, 0, 0), none, none, some (.goto (-39), 38, 0, 0), none, none, some (.aload_n 0, 0, 0, 0), some (.getfield 125, 10, 1, 0), none, none, some (.ireturn, 0, 0, 0)]
def sm_H280 : List Nat := [0, 6009, 0, 0, 0, 0, 6135, 0, 0, 0, 6009, 5195, 0, 0, 6010, 5196, 0, 0, 8070, 0, 0, 0, 0, 0, 0, 5199, 0, 0, 0, 0, 0, 5202, 0, 0, 0, 5196, 0, 0, 5199, 0, 0, 0, 0, 0, 0, 5196, 0]
def sm_I280 : sm_I := (yX10_restore, cX10_restore, 2, some .int, sm_T280)
def sm_T281 : sm_T := [some (.iload_n 1, 0, 0, 0), some (.bipush 11, 0, 0, 0), none, some (.if_icmp .lt 19, 22, 0, 0), none, none, some (.iload_n 1, 0, 0, 0), some (.bipush 17, 0, 0, 0), none, some (.if_icmp .gt 13, 22, 0, 0), none, none, some (.aload_n 0, 0, 0, 0), some (.getfield 13, 10, 3, 0), none, none, some (.iload_n 1, 0, 0, 0), some (.bipush 10, 0, 0, 0), none, some (.isub, 0, 0, 0), some (.iaload, 0, 0, 0), some (.ireturn, 0, 0, 0), some (.iload_n 1, 0, 0, 0), some (.ifCond .ne 8, 31, 0, 0), none, none, some (.aload_n 0, 0, 0, 0), some (.getfield 118, 10, 0, 0), none, none, some (.ireturn, 0, 0, 0), some (.iload_n 1, 0, 0, 0), some (.iconst 1, 0, 0, 0), some (.if_icmp .ne 8, 41, 0, 0), none, none, some (.aload_n 0, 0, 0, 0), some (.getfield 125, 10, 1, 0), none, none, some (.ireturn, 0, 0, 0), some (.iload_n 1, 0, 0, 0), some (.iconst 2, 0, 0, 0), some (.if_icmp .ne 12, 55, 0, 0), none, none, some (.aload_n 0, 0, 0, 0), some (.aload_n 0, 0, 0, 0), some (.invokevirtual 401, 268, 0, 10), none, none, some (.invokevirtual 250, 214, 1, 10), none, none, some (.ireturn, 0, 0, 0), some (.iload_n 1, 0, 0, 0), some (.iconst 3, 0, 0, 0), some (.if_icmp .ne 10, 67, 0, 0), none, none, some (.aload_n 0, 0, 0, 0), some (.getfield 375, 10, 53, 0), none, none, some (.goto 4, 68, 0, 0), none, none, some (.iconst (-1), 0, 0, 0), some (.ireturn, 0, 0, 0)]
def sm_H281 : List Nat := [0, 0, 0, 0, 0, 0, 0, 5198, 0, 0, 0, 0, 0, 0, 0, 0, 5195, 0, 0, 0, 0, 0, 5196, 0, 0, 0, 0, 0, 0, 8086, 6179, 0, 0, 0, 0, 0, 6008, 0, 0, 0]
def sm_I281 : sm_I := (yX10_status, cX10_status, 2, some .int, sm_T281)
def sm_T282 : sm_T := [some (.iload_n 0, 0, 0, 0), some (.iload_n 0, 0, 0, 0), some (.iconst 1, 0, 0, 0), some (.iushr, 0, 0, 0), some (.ldc_w 265, 1431655765, 0, 0), none, none, some (.iand, 0, 0, 0), some (.isub, 0, 0, 0), some (.istore_n 0, 0, 0, 0), some (.iload_n 0, 0, 0, 0), some (.ldc_w 266, 858993459, 0, 0), none, none, some (.iand, 0, 0, 0), some (.iload_n 0, 0, 0, 0), some (.iconst 2, 0, 0, 0), some (.iushr, 0, 0, 0), some (.ldc_w 266, 858993459, 0, 0), none, none, some (.iand, 0, 0, 0), some (.iadd, 0, 0, 0), some (.istore_n 0, 0, 0, 0), some (.iload_n 0, 0, 0, 0), some (.iload_n 0, 0, 0, 0), some (.iconst 4, 0, 0, 0), some (.iushr, 0, 0, 0), some (.iadd, 0, 0, 0), some (.ldc_w 267, 252645135, 0, 0), none, none, some (.iand, 0, 0, 0), some (.istore_n 0, 0, 0, 0), some (.iload_n 0, 0, 0, 0), some (.iload_n 0, 0, 0, 0), some (.bipush 8, 0, 0, 0), none, some (.iushr, 0, 0, 0), some (.iadd, 0, 0, 0), some (.istore_n 0, 0, 0, 0), some (.iload_n 0, 0, 0, 0), some (.iload_n 0, 0, 0, 0), some (.bipush 16, 0, 0, 0), none, some (.iushr, 0, 0, 0), some (.iadd, 0, 0, 0), some (.istore_n 0, 0, 0, 0), some (.iload_n 0, 0, 0, 0), some (.bipush 63, 0, 0, 0), none, some (.iand, 0, 0, 0), some (.ireturn, 0, 0, 0)]
def sm_H282 : List Nat := [0, 0, 0, 0, 3000, 0, 0, 0, 0, 3001, 0, 0, 0, 0, 3001, 0, 0, 0, 0, 0, 0, 0, 0, 3002, 0, 0, 0, 0, 0, 0, 0, 0, 0, 0, 0, 0, 0, 0, 0, 0, 0, 0]
def sm_I282 : sm_I := (yJ6_bitCount_0f7a4, cJ6_bitCount_0f7a4, 1, some .int, sm_T282)
def sm_T283 : sm_T := [some (.iload_n 0, 0, 0, 0), some (.iload_n 1, 0, 0, 0), some (.idiv, 0, 0, 0), some (.istore_n 2, 0, 0, 0), some (.iload_n 0, 0, 0, 0), some (.iload_n 1, 0, 0, 0), some (.ixor, 0, 0, 0), some (.ifCond .ge 14, 21, 0, 0), none, none, some (.iload_n 2, 0, 0, 0), some (.iload_n 1, 0, 0, 0), some (.imul, 0, 0, 0), some (.iload_n 0, 0, 0, 0), some (.if_icmp .eq 7, 21, 0, 0), none, none, some (.iload_n 2, 0, 0, 0), some (.iconst 1, 0, 0, 0), some (.isub, 0, 0, 0), some (.ireturn, 0, 0, 0), some (.iload_n 2, 0, 0, 0), some (.ireturn, 0, 0, 0)]
def sm_H283 : List Nat := [0, 0, 0, 0, 0, 0, 0, 0, 0, 0, 0, 0, 0, 0, 0, 0, 0, 0, 0]
def sm_I283 : sm_I := (yJ9_floorDiv_7cf53, cJ9_floorDiv_7cf53, 3, some .int, sm_T283)
def sm_T284 : sm_T := [some (.lload_n 0, 0, 0, 0), some (.lload_n 2, 0, 0, 0), some (.ldiv, 0, 0, 0), some (.lstore 4, 0, 0, 0), none, some (.lload_n 0, 0, 0, 0), some (.lload_n 2, 0, 0, 0), some (.lxor, 0, 0, 0), some (.lconst 0, 0, 0, 0), some (.lcmp, 0, 0, 0), some (.ifCond .ge 17, 27, 0, 0), none, none, some (.lload 4, 0, 0, 0), none, some (.lload_n 2, 0, 0, 0), some (.lmul, 0, 0, 0), some (.lload_n 0, 0, 0, 0), some (.lcmp, 0, 0, 0), some (.ifCond .eq 8, 27, 0, 0), none, none, some (.lload 4, 0, 0, 0), none, some (.lconst 1, 0, 0, 0), some (.lsub, 0, 0, 0), some (.lreturn, 0, 0, 0), some (.lload 4, 0, 0, 0), none, some (.lreturn, 0, 0, 0)]
def sm_H284 : List Nat := [0, 0, 0, 0, 0, 0, 0, 0, 0, 0, 0, 0, 0, 0, 0, 0, 0, 0, 0, 0, 0, 0]
def sm_I284 : sm_I := (yJ9_floorDiv_f86c9, cJ9_floorDiv_f86c9, 6, some .long, sm_T284)
def sm_T285 : sm_T := [some (.iload_n 0, 0, 0, 0), some (.ifCond .ge 8, 9, 0, 0), none, none, some (.iload_n 0, 0, 0, 0), some (.ineg, 0, 0, 0), some (.goto 4, 10, 0, 0), none, none, some (.iload_n 0, 0, 0, 0), some (.ireturn, 0, 0, 0)]
def sm_H285 : List Nat := [0, 0, 0, 0, 0, 0, 0]
def sm_I285 : sm_I := (yJ9_abs_0f7a4, cJ9_abs_0f7a4, 1, some .int, sm_T285)
def sm_T286 : sm_T := [some (.iload_n 0, 0, 0, 0), some (.iload_n 1, 0, 0, 0), some (.if_icmp .lt 7, 9, 0, 0), none, none, some (.iload_n 0, 0, 0, 0), some (.goto 4, 10, 0, 0), none, none, some (.iload_n 1, 0, 0, 0), some (.ireturn, 0, 0, 0)]
def sm_H286 : List Nat := [0, 0, 0, 0, 0, 0, 0]
def sm_I286 : sm_I := (yJ9_max_7cf53, cJ9_max_7cf53, 2, some .int, sm_T286)
def sm_T287 : sm_T := [some (.iload_n 0, 0, 0, 0), some (.iload_n 1, 0, 0, 0), some (.if_icmp .gt 7, 9, 0, 0), none, none, some (.iload_n 0, 0, 0, 0), some (.goto 4, 10, 0, 0), none, none, some (.iload_n 1, 0, 0, 0), some (.ireturn, 0, 0, 0)]
def sm_H287 : List Nat := [0, 0, 0, 0, 0, 0, 0]
def sm_I287 : sm_I := (yJ9_min_7cf53, cJ9_min_7cf53, 2, some .int, sm_T287)
def sm_Ms : List sm_I := [sm_I0, sm_I1, sm_I2, sm_I3, sm_I4, sm_I5, sm_I6, sm_I7, sm_I8, sm_I9, sm_I10, sm_I11, sm_I12, sm_I13, sm_I14, sm_I15, sm_I16, sm_I17, sm_I18, sm_I19, sm_I20, sm_I21, sm_I22, sm_I23, sm_I24, sm_I25, sm_I26, sm_I27, sm_I28, sm_I29, sm_I30, sm_I31, sm_I32, sm_I33, sm_I34, sm_I35, sm_I36, sm_I37, sm_I38, sm_I39, sm_I40, sm_I41, sm_I42, sm_I43, sm_I44, sm_I45, sm_I46, sm_I47, sm_I48, sm_I49, sm_I50, sm_I51, sm_I52, sm_I53, sm_I54, sm_I55, sm_I56, sm_I57, sm_I58, sm_I59, sm_I60, sm_I61, sm_I62, sm_I63, sm_I64, sm_I65, sm_I66, sm_I67, sm_I68, sm_I69, sm_I70, sm_I71, sm_I72, sm_I73, sm_I74, sm_I75, sm_I76, sm_I77, sm_I78, sm_I79, sm_I80, sm_I81, sm_I82, sm_I83, sm_I84, sm_I85, sm_I86, sm_I87, sm_I88, sm_I89, sm_I90, sm_I91, sm_I92, sm_I93, sm_I94, sm_I95, sm_I96, sm_I97, sm_I98, sm_I99, sm_I100, sm_I101, sm_I102, sm_I103, sm_I104, sm_I105, sm_I106, sm_I107, sm_I108, sm_I109, sm_I110, sm_I111, sm_I112, sm_I113, sm_I114, sm_I115, sm_I116, sm_I117, sm_I118, sm_I119, sm_I120, sm_I121, sm_I122, sm_I123, sm_I124, sm_I125, sm_I126, sm_I127, sm_I128, sm_I129, sm_I130, sm_I131, sm_I132, sm_I133, sm_I134, sm_I135, sm_I136, sm_I137, sm_I138, sm_I139, sm_I140, sm_I141, sm_I142, sm_I143, sm_I144, sm_I145, sm_I146, sm_I147, sm_I148, sm_I149, sm_I150, sm_I151, sm_I152, sm_I153, sm_I154, sm_I155, sm_I156, sm_I157, sm_I158, sm_I159, sm_I160, sm_I161, sm_I162, sm_I163, sm_I164, sm_I165, sm_I166, sm_I167, sm_I168, sm_I169, sm_I170, sm_I171, sm_I172, sm_I173, sm_I174, sm_I175, sm_I176, sm_I177, sm_I178, sm_I179, sm_I180, sm_I181, sm_I182, sm_I183, sm_I184, sm_I185, sm_I186, sm_I187, sm_I188, sm_I189, sm_I190, sm_I191, sm_I192, sm_I193, sm_I194, sm_I195, sm_I196, sm_I197, sm_I198, sm_I199, sm_I200, sm_I201, sm_I202, sm_I203, sm_I204, sm_I205, sm_I206, sm_I207, sm_I208, sm_I209, sm_I210, sm_I211, sm_I212, sm_I213, sm_I214, sm_I215, sm_I216, sm_I217, sm_I218, sm_I219, sm_I220, sm_I221, sm_I222, sm_I223, sm_I224, sm_I225, sm_I226, sm_I227, sm_I228, sm_I229, sm_I230, sm_I231, sm_I232, sm_I233, sm_I234, sm_I235, sm_I236, sm_I237, sm_I238, sm_I239, sm_I240, sm_I241, sm_I242, sm_I243, sm_I244, sm_I245, sm_I246, sm_I247, sm_I248, sm_I249, sm_I250, sm_I251, sm_I252, sm_I253, sm_I254, sm_I255, sm_I256, sm_I257, sm_I258, sm_I259, sm_I260, sm_I261, sm_I262, sm_I263, sm_I264, sm_I265, sm_I266, sm_I267, sm_I268, sm_I269, sm_I270, sm_I271, sm_I272, sm_I273, sm_I274, sm_I275, sm_I276, sm_I277, sm_I278, sm_I279, sm_I280, sm_I281, sm_I282, sm_I283, sm_I284, sm_I285, sm_I286, sm_I287]
def sm_M (a : Nat) : Option sm_I := sm_Ms[a]?
def sm_Hs : List (Nat × Nat × Nat × Nat) := [(2040, 1009, 2039, 0), (5132, 1009, 5130, 5131), (5136, 1009, 5134, 5135), (5146, 1009, 5145, 39), (5165, 1009, 5163, 5164), (5141, 1009, 5139, 5140), (5151, 1009, 5149, 5150), (5156, 1009, 5154, 5155), (1048, 1004, 1047, 0), (2136, 1004, 2134, 2135), (2140, 1004, 2138, 2139), (3028, 1004, 3026, 3027), (3160, 1004, 3158, 3159), (1173, 1006, 1172, 0), (3010, 1006, 3008, 3009), (3014, 1006, 3013, 5), (3089, 1006, 3088, 8), (3094, 1006, 3093, 9), (3085, 1006, 3084, 7), (3033, 1006, 3032, 6), (3098, 1006, 3097, 10), (3102, 1006, 3101, 11), (3119, 1006, 3118, 14), (3115, 1006, 3114, 13), (3136, 1006, 3135, 15), (3140, 1006, 3139, 16), (3148, 1006, 3147, 18), (3144, 1006, 3143, 17), (3106, 1006, 3105, 12), (1120, 1005, 1119, 0), (4042, 1005, 4040, 4041), (4047, 1005, 4045, 4046), (4053, 1005, 4051, 4052), (5179, 1005, 5177, 5178), (1197, 1007, 1196, 0), (3191, 1007, 3189, 3190), (4081, 1007, 4079, 4080), (3195, 1007, 3194, 20), (3199, 1007, 3197, 3198), (4164, 1007, 4162, 4163), (4073, 1007, 4071, 4072), (3208, 1007, 3206, 3207), (3212, 1007, 3211, 21), (3204, 1007, 3202, 3203), (4087, 1007, 4085, 4086), (4092, 1007, 4090, 4091), (4001, 1007, 3239, 4000), (4101, 1007, 4099, 4100), (3222, 1007, 3221, 22), (3218, 1007, 3216, 3217), (3226, 1007, 3225, 0), (3237, 1007, 3236, 23), (4125, 1007, 4124, 26), (4145, 1007, 4144, 28), (4141, 1007, 4139, 4140), (4121, 1007, 4119, 4120), (4156, 1007, 4154, 4155), (4117, 1007, 4115, 4116), (4113, 1007, 4111, 4112), (4133, 1007, 4132, 27), (5010, 1007, 5008, 5009), (4221, 1007, 4219, 4220), (4228, 1007, 4227, 30), (5106, 1007, 5104, 5105), (5115, 1007, 5114, 36), (5120, 1007, 5119, 37), (5124, 1007, 5123, 38), (2013, 1008, 2012, 0), (4179, 1008, 4178, 29), (4172, 1008, 4170, 4171), (4190, 1008, 4188, 4189), (4199, 1008, 4197, 4198), (4208, 1008, 4206, 4207), (4217, 1008, 4215, 4216), (5006, 1008, 5005, 0), (5003, 1008, 5001, 5002), (5025, 1008, 5023, 5024), (5029, 1008, 5028, 32), (5044, 1008, 5042, 5043), (2064, 1010, 2063, 0), (2164, 1010, 2162, 2163), (2160, 1010, 2158, 2159), (2144, 1010, 2142, 2143), (2148, 1010, 2146, 2147), (2214, 1010, 2212, 2213), (2168, 1010, 2166, 2167), (2185, 1010, 2183, 2184), (2201, 1010, 2199, 2200), (3018, 1010, 3016, 3017), (2172, 1010, 2170, 2171), (2177, 1010, 2176, 3), (2189, 1010, 2187, 2188), (1033, 1002, 1032, 0), (2236, 1002, 2234, 2235), (2210, 1002, 2208, 2209), (3152, 1002, 3150, 3151), (4038, 1002, 4036, 4037), (5174, 1002, 5172, 5173), (1042, 1003, 1041, 0), (3024, 1003, 3022, 3023), (3156, 1003, 3154, 3155), (3110, 1003, 3108, 3109), (3183, 1003, 3181, 3182), (4020, 1003, 4018, 4019), (4033, 1003, 4031, 4032), (4129, 1003, 4127, 4128), (5111, 1003, 5109, 5110), (5054, 1003, 5052, 5053), (5069, 1003, 5068, 33), (5065, 1003, 5063, 5064), (5082, 1003, 5080, 5081), (5086, 1003, 5085, 34), (1023, 1001, 1022, 0), (2124, 1001, 2122, 2123), (2152, 1001, 2150, 2151), (2181, 1001, 2179, 2180), (2197, 1001, 2195, 2196), (2205, 1001, 2203, 2204), (2218, 1001, 2216, 2217), (2222, 1001, 2220, 2221), (3006, 1001, 3004, 3005), (3166, 1001, 3164, 3165), (3170, 1001, 3168, 3169), (3179, 1001, 3177, 3178), (3187, 1001, 3185, 3186), (4005, 1001, 4003, 4004), (4012, 1001, 4010, 4011), (4016, 1001, 4014, 4015), (4058, 1001, 4056, 4057), (4065, 1001, 4063, 4064), (4069, 1001, 4067, 4068), (4096, 1001, 4094, 4095), (4105, 1001, 4103, 4104), (4109, 1001, 4107, 4108), (4137, 1001, 4135, 4136), (4149, 1001, 4147, 4148), (4160, 1001, 4158, 4159), (4168, 1001, 4166, 4167), (4186, 1001, 4184, 4185), (4195, 1001, 4193, 4194), (4204, 1001, 4202, 4203), (4213, 1001, 4211, 4212), (4232, 1001, 4230, 4231), (5021, 1001, 5019, 5020), (5036, 1001, 5034, 5035), (5040, 1001, 5038, 5039), (5050, 1001, 5048, 5049), (5061, 1001, 5059, 5060), (5074, 1001, 5072, 5073), (5078, 1001, 5076, 5077), (5094, 1001, 5092, 5093), (5102, 1001, 5100, 5101), (5128, 1001, 5126, 5127), (5161, 1001, 5159, 5160), (5170, 1001, 5168, 5169), (5184, 1001, 5182, 5183), (5188, 1001, 5186, 5187), (2132, 1001, 2131, 1), (3174, 1001, 3173, 19), (4236, 1001, 4235, 31), (2128, 1001, 2127, 0), (2156, 1001, 2155, 2), (4024, 1001, 4023, 24), (4029, 1001, 4028, 25), (2232, 1001, 2231, 4), (5098, 1001, 5097, 35), (2225, 1001, 2224, 0), (2228, 1001, 2227, 0), (4152, 1001, 4151, 0), (4239, 1001, 4238, 0), (4061, 1001, 4060, 0), (4008, 1001, 4007, 0), (3233, 1001, 3232, 0), (5193, 1011, 5192, 0), (6138, 1011, 6137, 41), (7022, 1011, 7021, 63), (7197, 1011, 7196, 86), (6134, 1011, 6133, 40), (7018, 1011, 7017, 62), (7031, 1011, 7030, 64), (6158, 1011, 6157, 42), (6130, 1011, 6128, 6129), (6142, 1011, 6140, 6141), (6146, 1011, 6144, 6145), (6150, 1011, 6148, 6149), (6154, 1011, 6152, 6153), (6162, 1011, 6160, 6161), (6170, 1011, 6169, 43), (6166, 1011, 6164, 6165), (6190, 1011, 6189, 47), (6202, 1011, 6201, 50), (6198, 1011, 6197, 49), (6214, 1011, 6213, 53), (6210, 1011, 6209, 52), (6218, 1011, 6217, 54), (6230, 1011, 6229, 57), (6206, 1011, 6205, 51), (6234, 1011, 6233, 58), (6238, 1011, 6237, 59), (7002, 1011, 7001, 60), (7006, 1011, 7005, 61), (6226, 1011, 6225, 56), (6222, 1011, 6221, 55), (6194, 1011, 6193, 48), (6186, 1011, 6184, 6185), (7010, 1011, 7008, 7009), (7014, 1011, 7012, 7013), (7027, 1011, 7025, 7026), (7109, 1011, 7108, 73), (7043, 1011, 7042, 66), (7039, 1011, 7038, 65), (7035, 1011, 7033, 7034), (7049, 1011, 7047, 7048), (7053, 1011, 7051, 7052), (6182, 1011, 6181, 46), (7057, 1011, 7055, 7056), (7061, 1011, 7059, 7060), (6178, 1011, 6177, 45), (6174, 1011, 6173, 44), (7077, 1011, 7076, 67), (7065, 1011, 7063, 7064), (7069, 1011, 7067, 7068), (7073, 1011, 7071, 7072), (7089, 1011, 7088, 69), (7085, 1011, 7084, 68), (7081, 1011, 7079, 7080), (7101, 1011, 7100, 71), (7105, 1011, 7104, 72), (7097, 1011, 7096, 70), (7113, 1011, 7112, 74), (7093, 1011, 7091, 7092), (7117, 1011, 7115, 7116), (7125, 1011, 7124, 75), (7121, 1011, 7119, 7120), (7133, 1011, 7132, 76), (7137, 1011, 7136, 77), (7165, 1011, 7164, 83), (7161, 1011, 7160, 82), (7153, 1011, 7152, 80), (7145, 1011, 7144, 79), (7157, 1011, 7156, 81), (7141, 1011, 7140, 78), (7129, 1011, 7127, 7128), (7149, 1011, 7147, 7148), (7173, 1011, 7172, 84), (7169, 1011, 7167, 7168), (7177, 1011, 7175, 7176), (7185, 1011, 7184, 85), (7181, 1011, 7179, 7180), (7189, 1011, 7187, 7188), (7193, 1011, 7191, 7192), (7201, 1011, 7199, 7200), (7205, 1011, 7203, 7204), (7213, 1011, 7212, 87), (7226, 1011, 7225, 90), (7222, 1011, 7221, 89), (7218, 1011, 7217, 88), (7230, 1011, 7229, 91), (7209, 1011, 7207, 7208), (7238, 1011, 7237, 92), (7234, 1011, 7232, 7233), (8014, 1011, 8013, 95), (8010, 1011, 8009, 94), (8006, 1011, 8005, 93), (8002, 1011, 8000, 8001), (8018, 1011, 8016, 8017), (8026, 1011, 8025, 96), (8022, 1011, 8020, 8021), (8030, 1011, 8028, 8029), (8039, 1011, 8038, 97), (8034, 1011, 8032, 8033), (8053, 1011, 8052, 99), (8049, 1011, 8048, 98), (8057, 1011, 8056, 100), (8061, 1011, 8060, 101), (8045, 1011, 8043, 8044), (8065, 1011, 8063, 8064), (8077, 1011, 8076, 103), (8073, 1011, 8072, 102), (8069, 1011, 8067, 8068), (8081, 1011, 8079, 8080), (8085, 1011, 8083, 8084), (2239, 1013, 2238, 0), (5013, 1018, 5012, 0), (3230, 1018, 3229, 0), (5089, 1018, 5088, 0), (4224, 1018, 4223, 0), (5016, 1018, 5015, 0)]
end
section
/-! the tables are the machine's: a check that the kernel runs -/
def sm_ch (k : Nat) : List Cond := match k with
  | 0 => k2_sels lw_privs
  | 1 => tables_1_1
  | 2 => tables_1_2
  | 3 => tables_1_3
  | 4 => tables_1_4
  | 5 => tables_1_5
  | 6 => tables_1_6
  | 7 => tables_1_7
  | 8 => tables_1_8
  | _ => []
theorem sm_ch_in {w : Cond} : ∀ (k : Nat), w ∈ sm_ch k → w ∈ lw_tbl := by
  intro k h
  unfold lw_tbl tables_1
  simp only [List.mem_append]
  match k, h with
  | 0, h => exact Or.inl h
  | 1, h => exact Or.inr (Or.inl h)
  | 2, h => exact Or.inr (Or.inr (Or.inl h))
  | 3, h => exact Or.inr (Or.inr (Or.inr (Or.inl h)))
  | 4, h => exact Or.inr (Or.inr (Or.inr (Or.inr (Or.inl h))))
  | 5, h => exact Or.inr (Or.inr (Or.inr (Or.inr (Or.inr (Or.inl h)))))
  | 6, h => exact Or.inr (Or.inr (Or.inr (Or.inr (Or.inr (Or.inr (Or.inl h))))))
  | 7, h => exact Or.inr (Or.inr (Or.inr (Or.inr (Or.inr (Or.inr (Or.inr (Or.inl h)))))))
  | 8, h => exact Or.inr (Or.inr (Or.inr (Or.inr (Or.inr (Or.inr (Or.inr (Or.inr h)))))))
  | k + 9, h => exact absurd h List.not_mem_nil
def sm_w (i : Nat) (w : Cond) : Bool := decide ((sm_ch (i / 1000))[i % 1000]? = some w)
theorem sm_w_in {i : Nat} {w : Cond} (h : sm_w i w = true) : w ∈ lw_tbl := sm_ch_in _ (List.mem_of_getElem? (of_decide_eq_true h))
def sm_ckl (own : String) (idx : Nat) (y : MethodName) (i : Nat) : Bool := sm_w i (.methodLink own idx y) || sm_w i (.methodLinkNest own idx y "SaidForNothing")
theorem sm_ckl_ok {own : String} {idx : Nat} {y : MethodName} {i : Nat} (h : sm_ckl own idx y i = true) : sm_link own idx y := by
  rcases (Bool.or_eq_true _ _).mp h with h | h
  · exact Or.inl (sm_w_in h)
  · exact Or.inr ⟨_, sm_w_in h⟩
def sm_ckd (bytes : ByteArray) (pc : Nat) (w : sm_E) : Bool := match decode bytes pc with
  | .ok q => decide (q.1 = w.1) && (sm_sw w.1 || decide (q.2 = sm_len w.1))
  | .error _ => false
theorem sm_ckd_ok {bytes : ByteArray} {pc : Nat} {w : sm_E} (h : sm_ckd bytes pc w = true) : sm_dc bytes pc w := by
  unfold sm_ckd at h
  split at h
  · rename_i q hq
    obtain ⟨i, n⟩ := q
    simp only [Bool.and_eq_true, Bool.or_eq_true, decide_eq_true_eq] at h
    obtain ⟨h1, h2⟩ := h
    subst h1
    exact ⟨n, hq, h2⟩
  · cases h
def sm_cke (own : String) (init : Bool) (w : sm_E) (hi : Nat) : Bool := match w.1 with
  | .getfield idx => match vwCl[w.2.1]? with
    | some q => decide (w.2.2.1 < q.2.2) && sm_w hi (.fieldLink own idx (q.2.1 w.2.2.1).1 (q.2.1 w.2.2.1).2.1 (q.2.1 w.2.2.1).2.2.1)
    | none => false
  | .putfield idx => match vwCl[w.2.1]? with
    | some q => decide (w.2.2.1 < q.2.2) && sm_w hi (.fieldLink own idx (q.2.1 w.2.2.1).1 (q.2.1 w.2.2.1).2.1 (q.2.1 w.2.2.1).2.2.1) && (match parseFieldDescriptor (q.2.1 w.2.2.1).2.2.1 with
        | some ty => decide (w.2.2.2 % 10 = sm_fk ty)
        | none => false) && (decide ((q.2.1 w.2.2.1).2.2.2 = false) || (decide ((q.2.1 w.2.2.1).2.2.2 = true) && init && decide ((q.2.1 w.2.2.1).1 = own)))
    | none => false
  | .new idx => match vwCl[w.2.1]? with
    | some q => sm_w hi (.classLink own idx q.1) && decide (Cond.instantiable q.1 q.2.2 ∈ tables_1_1 ++ tables_1_2) && decide (Cond.initialized q.1 ∈ tables_1_1)
    | none => false
  | .newarray .int => sm_w hi (.arrayClass .int)
  | .newarray .long => sm_w hi (.arrayClass .long)
  | .anewarray idx => match vwCl[sm_ek w.2.1]? with
    | some q => sm_w hi (.classLink own idx q.1) && decide (Cond.arrayOver (.object q.1) ∈ tables_1_1)
    | none => false
  | .ldc idx => (decide (w.2.2.2 = 0) && sm_w hi (.constant own idx (Int32.ofNat w.2.1))) || (decide (w.2.2.2 = 1) && decide (own = RX2) && decide ([42, 106, 108, 110, 112, 114][w.2.1]? = some idx))
  | .ldc_w idx => sm_w hi (.constant own idx (Int32.ofNat w.2.1))
  | .ldc2_w idx => sm_w hi (.constantLong own idx (Int64.ofNat w.2.1))
  | _ => true
theorem sm_cke_ok {own : String} {init : Bool} {w : sm_E} {hi : Nat} (h : sm_cke own init w hi = true) : sm_lk own init w := by
  obtain ⟨ins, a, b, c⟩ := w
  cases ins <;> first | exact trivial | skip
  case getfield idx =>
    unfold sm_cke at h
    dsimp only at h
    split at h
    · rename_i q hq
      simp only [Bool.and_eq_true, decide_eq_true_eq] at h
      exact ⟨q, hq, h.1, sm_w_in h.2⟩
    · cases h
  case putfield idx =>
    unfold sm_cke at h
    dsimp only at h
    split at h
    · rename_i q hq
      simp only [Bool.and_eq_true, Bool.or_eq_true, decide_eq_true_eq] at h
      obtain ⟨⟨⟨h1, h2⟩, h3⟩, h4⟩ := h
      split at h3
      · rename_i ty hty
        refine ⟨q, ty, hq, h1, sm_w_in h2, hty, of_decide_eq_true h3, ?_⟩
        rcases h4 with h4 | ⟨⟨h4, h5⟩, h6⟩
        · exact Or.inl h4
        · exact Or.inr ⟨h4, h5, h6⟩
      · cases h3
    · cases h
  case new idx =>
    unfold sm_cke at h
    dsimp only at h
    split at h
    · rename_i q hq
      simp only [Bool.and_eq_true, decide_eq_true_eq] at h
      exact ⟨q, hq, sm_w_in h.1.1, (List.mem_append.mp h.1.2).elim (sm_ch_in 1) (sm_ch_in 2), sm_ch_in 1 h.2⟩
    · cases h
  case newarray aty =>
    cases aty <;> first | exact trivial | exact sm_w_in h
  case anewarray idx =>
    unfold sm_cke at h
    dsimp only at h
    split at h
    · rename_i q hq
      simp only [Bool.and_eq_true, decide_eq_true_eq] at h
      exact ⟨q, hq, sm_w_in h.1, sm_ch_in 1 h.2⟩
    · cases h
  case ldc idx =>
    unfold sm_cke at h
    simp only [Bool.and_eq_true, Bool.or_eq_true, decide_eq_true_eq] at h
    rcases h with ⟨h1, h2⟩ | ⟨⟨h1, h2⟩, h3⟩
    · exact Or.inl ⟨h1, sm_w_in h2⟩
    · exact Or.inr ⟨h1, h2, h3⟩
  case ldc_w idx => exact sm_w_in h
  case ldc2_w idx => exact sm_w_in h
abbrev sm_h4 : Type := Nat × Nat × Nat × Nat
def sm_ckc (own : String) (w : sm_E) (hi : Nat) : Bool := match w.1 with
  | .invokevirtual idx => if w.2.1 = 900 then sm_w hi (.methodLink own idx yJ0_length_8abf5) else if w.2.1 = 901 then sm_w hi (.methodLink own idx yJ0_charAt_5068e) else if w.2.1 = 902 then sm_w hi (.methodLink own idx yJ0_equals_9ea2d) else match sm_M w.2.1 with
    | some K => (match vwCl[w.2.2.2]? with
      | some q => decide (q.1 = K.1.cls)
      | none => false) && decide (sm_par K.1 = some w.2.2.1) && sm_w (sm_Hs.getD w.2.1 (0, 0, 0, 0)).2.2.1 (.instanceMethod K.1) && sm_w (sm_Hs.getD w.2.1 (0, 0, 0, 0)).2.2.2 (.selects K.1.cls K.1 K.1) && sm_ckl own idx K.1 hi
    | none => false
  | .invokespecial idx => if w.2.1 = 999 then sm_w hi (.methodLink own idx objectInit) else match sm_M w.2.1 with
    | some K => decide (sm_par K.1 = some w.2.2.1) && sm_w (sm_Hs.getD w.2.1 (0, 0, 0, 0)).2.2.1 (.instanceMethod K.1) && decide (K.1.name = "<init>") && decide (K.2.2.2.1 = none) && sm_ckl own idx K.1 hi
    | none => false
  | .invokestatic idx => if w.2.1 = 998 then sm_w hi (.methodLink own idx arraycopyName) else match sm_M w.2.1 with
    | some K => decide (sm_par K.1 = some w.2.2.1) && sm_w (sm_Hs.getD w.2.1 (0, 0, 0, 0)).2.2.1 (.static K.1) && sm_ckl own idx K.1 hi
    | none => false
  | _ => true
theorem sm_M_none : sm_M 900 = none ∧ sm_M 901 = none ∧ sm_M 902 = none ∧ sm_M 998 = none ∧ sm_M 999 = none := ⟨rfl, rfl, rfl, rfl, rfl⟩
theorem sm_ckc_ok {own : String} {w : sm_E} {hi : Nat} (h : sm_ckc own w hi = true) : sm_ck sm_M own w := by
  obtain ⟨m0, m1, m2, m8, m9⟩ := sm_M_none
  obtain ⟨ins, a, b, c⟩ := w
  cases ins <;> first | exact trivial | skip
  case invokevirtual idx =>
    unfold sm_ckc at h
    dsimp only at h
    split at h
    · rename_i e
      subst e
      exact ⟨fun _ => sm_w_in h, fun e => by dsimp only at e; omega, fun e => by dsimp only at e; omega, fun K hK => by rw [m0] at hK; cases hK⟩
    split at h
    · rename_i e
      subst e
      exact ⟨fun e => by dsimp only at e; omega, fun _ => sm_w_in h, fun e => by dsimp only at e; omega, fun K hK => by rw [m1] at hK; cases hK⟩
    split at h
    · rename_i e
      subst e
      exact ⟨fun e => by dsimp only at e; omega, fun e => by dsimp only at e; omega, fun _ => sm_w_in h, fun K hK => by rw [m2] at hK; cases hK⟩
    rename_i n0 n1 n2
    refine ⟨fun e => absurd e n0, fun e => absurd e n1, fun e => absurd e n2, fun K hK => ?_⟩
    dsimp only at hK
    rw [hK] at h
    simp only [Bool.and_eq_true, decide_eq_true_eq] at h
    obtain ⟨⟨⟨⟨h1, h2⟩, h3⟩, h4⟩, h5⟩ := h
    split at h1
    · rename_i q hq
      exact ⟨⟨q, hq, of_decide_eq_true h1⟩, h2, sm_w_in h3, sm_w_in h4, sm_ckl_ok h5⟩
    · cases h1
  case invokespecial idx =>
    unfold sm_ckc at h
    dsimp only at h
    split at h
    · rename_i e
      subst e
      exact ⟨fun _ => sm_w_in h, fun K hK => by rw [m9] at hK; cases hK⟩
    rename_i n0
    refine ⟨fun e => absurd e n0, fun K hK => ?_⟩
    dsimp only at hK
    rw [hK] at h
    simp only [Bool.and_eq_true, decide_eq_true_eq] at h
    obtain ⟨⟨⟨⟨h1, h2⟩, h3⟩, h4⟩, h5⟩ := h
    exact ⟨h1, sm_w_in h2, h3, h4, sm_ckl_ok h5⟩
  case invokestatic idx =>
    unfold sm_ckc at h
    dsimp only at h
    split at h
    · rename_i e
      subst e
      exact ⟨fun _ => sm_w_in h, fun K hK => by rw [m8] at hK; cases hK⟩
    rename_i n0
    refine ⟨fun e => absurd e n0, fun K hK => ?_⟩
    dsimp only at hK
    rw [hK] at h
    simp only [Bool.and_eq_true, decide_eq_true_eq] at h
    obtain ⟨⟨h1, h2⟩, h3⟩ := h
    exact ⟨h1, sm_w_in h2, sm_ckl_ok h3⟩
noncomputable def sm_ckT (own : String) (init : Bool) (bytes : ByteArray) (T : sm_T) : Nat → List UInt8 → List Nat → Bool :=
  List.rec (motive := fun _ => Nat → List UInt8 → List Nat → Bool) (fun _ _ _ => true) (fun x _ ih pc bs hs => match x with
    | none => ih (pc + 1) bs.tail hs
    | some w => match hs with
      | hi :: hs => (if sm_sw w.1 = true then sm_ckd bytes pc w else sm_fb w.1 bs) && sm_jok pc w && sm_cke own init w hi && sm_ckc own w hi && ih (pc + 1) bs.tail hs
      | [] => false) T
theorem sm_ckT_ok {own : String} {init : Bool} {bytes : ByteArray} : ∀ (T : sm_T) (pc : Nat) (hs : List Nat), sm_ckT own init bytes T pc (bytes.data.toList.drop pc) hs = true → ∀ (k : Nat) (w : sm_E), T[k]? = some (some w) → sm_dc bytes (pc + k) w ∧ sm_jok (pc + k) w = true ∧ sm_lk own init w ∧ sm_ck sm_M own w := by
  intro T
  induction T with
  | nil => intro pc hs _ k w hw; simp at hw
  | cons x r ih =>
    intro pc hs h k w hw
    cases x with
    | none =>
      cases k with
      | zero => simp at hw
      | succ k =>
        have h : sm_ckT own init bytes r (pc + 1) (bytes.data.toList.drop pc).tail hs = true := h
        rw [List.tail_drop] at h
        have := ih (pc + 1) hs h k w (by simpa using hw)
        rw [show pc + 1 + k = pc + (k + 1) by omega] at this
        exact this
    | some v =>
      cases hs with
      | nil => cases h
      | cons hi hs =>
        have h : ((if sm_sw v.1 = true then sm_ckd bytes pc v else sm_fb v.1 (bytes.data.toList.drop pc)) && sm_jok pc v && sm_cke own init v hi && sm_ckc own v hi && sm_ckT own init bytes r (pc + 1) (bytes.data.toList.drop pc).tail hs) = true := h
        rw [List.tail_drop] at h
        simp only [Bool.and_eq_true] at h
        obtain ⟨⟨⟨⟨h1, h2⟩, h3⟩, h4⟩, h5⟩ := h
        cases k with
        | zero =>
          have : v = w := by simpa using hw
          subst this
          refine ⟨?_, h2, sm_cke_ok h3, sm_ckc_ok h4⟩
          split at h1
          · exact sm_ckd_ok h1
          · exact ⟨_, sm_fb_ok (fun k b hb => by rw [← hb, List.getElem?_drop]; rfl) h1, Or.inr rfl⟩
        | succ k =>
          have := ih (pc + 1) hs h5 k w (by simpa using hw)
          rw [show pc + 1 + k = pc + (k + 1) by omega] at this
          exact this
noncomputable def sm_ckM (J : sm_I) (hs : List Nat) (hm : sm_h4) : Bool :=
  plainFor J.1 && sm_w hm.2.1 (.initialized J.1.cls) && decide (J.1.cls ≠ "java/lang/invoke/MethodHandle") && decide (J.1.cls ≠ "java/lang/invoke/VarHandle") && decide (J.2.2.1 ≤ 14) && sm_ckT J.1.cls (J.1.name == "<init>") J.2.1 J.2.2.2.2 0 (J.2.1.data.toList.drop 0) hs
theorem sm_ckM_ok {J : sm_I} {hs : List Nat} {hm : sm_h4} (h : sm_ckM J hs hm = true) (hcode : Cond.code J.1 J.2.1 J.2.2.1 J.2.2.2.1 ∈ lw_tbl) : sm_mok sm_M J := by
  unfold sm_ckM at h
  simp only [Bool.and_eq_true, decide_eq_true_eq] at h
  obtain ⟨⟨⟨⟨⟨h1, h3⟩, h4⟩, h5⟩, h6⟩, h7⟩ := h
  refine ⟨h1, hcode, sm_w_in h3, ⟨h4, h5⟩, h6, fun pc w hw => ?_⟩
  have := sm_ckT_ok _ _ _ h7 pc w hw
  rw [Nat.zero_add] at this
  exact this
end
section
set_option maxRecDepth 100000 in
theorem sm_c0 : sm_mok sm_M sm_I0 := sm_ckM_ok (hs := sm_H0) (hm := sm_Hs.getD 0 (0, 0, 0, 0)) (by decide +kernel) (sm_ch_in 2 (List.mem_of_getElem? (i := 40) rfl))
set_option maxRecDepth 100000 in
theorem sm_c1 : sm_mok sm_M sm_I1 := sm_ckM_ok (hs := sm_H1) (hm := sm_Hs.getD 1 (0, 0, 0, 0)) (by decide +kernel) (sm_ch_in 5 (List.mem_of_getElem? (i := 132) rfl))
set_option maxRecDepth 100000 in
theorem sm_c2 : sm_mok sm_M sm_I2 := sm_ckM_ok (hs := sm_H2) (hm := sm_Hs.getD 2 (0, 0, 0, 0)) (by decide +kernel) (sm_ch_in 5 (List.mem_of_getElem? (i := 136) rfl))
set_option maxRecDepth 100000 in
theorem sm_c3 : sm_mok sm_M sm_I3 := sm_ckM_ok (hs := sm_H3) (hm := sm_Hs.getD 3 (0, 0, 0, 0)) (by decide +kernel) (sm_ch_in 5 (List.mem_of_getElem? (i := 146) rfl))
set_option maxRecDepth 100000 in
theorem sm_c4 : sm_mok sm_M sm_I4 := sm_ckM_ok (hs := sm_H4) (hm := sm_Hs.getD 4 (0, 0, 0, 0)) (by decide +kernel) (sm_ch_in 5 (List.mem_of_getElem? (i := 165) rfl))
set_option maxRecDepth 100000 in
theorem sm_c5 : sm_mok sm_M sm_I5 := sm_ckM_ok (hs := sm_H5) (hm := sm_Hs.getD 5 (0, 0, 0, 0)) (by decide +kernel) (sm_ch_in 5 (List.mem_of_getElem? (i := 141) rfl))
set_option maxRecDepth 100000 in
theorem sm_c6 : sm_mok sm_M sm_I6 := sm_ckM_ok (hs := sm_H6) (hm := sm_Hs.getD 6 (0, 0, 0, 0)) (by decide +kernel) (sm_ch_in 5 (List.mem_of_getElem? (i := 151) rfl))
set_option maxRecDepth 100000 in
theorem sm_c7 : sm_mok sm_M sm_I7 := sm_ckM_ok (hs := sm_H7) (hm := sm_Hs.getD 7 (0, 0, 0, 0)) (by decide +kernel) (sm_ch_in 5 (List.mem_of_getElem? (i := 156) rfl))
set_option maxRecDepth 100000 in
theorem sm_c8 : sm_mok sm_M sm_I8 := sm_ckM_ok (hs := sm_H8) (hm := sm_Hs.getD 8 (0, 0, 0, 0)) (by decide +kernel) (sm_ch_in 1 (List.mem_of_getElem? (i := 48) rfl))
set_option maxRecDepth 100000 in
theorem sm_c9 : sm_mok sm_M sm_I9 := sm_ckM_ok (hs := sm_H9) (hm := sm_Hs.getD 9 (0, 0, 0, 0)) (by decide +kernel) (sm_ch_in 2 (List.mem_of_getElem? (i := 136) rfl))
set_option maxRecDepth 100000 in
theorem sm_c10 : sm_mok sm_M sm_I10 := sm_ckM_ok (hs := sm_H10) (hm := sm_Hs.getD 10 (0, 0, 0, 0)) (by decide +kernel) (sm_ch_in 2 (List.mem_of_getElem? (i := 140) rfl))
set_option maxRecDepth 100000 in
theorem sm_c11 : sm_mok sm_M sm_I11 := sm_ckM_ok (hs := sm_H11) (hm := sm_Hs.getD 11 (0, 0, 0, 0)) (by decide +kernel) (sm_ch_in 3 (List.mem_of_getElem? (i := 28) rfl))
set_option maxRecDepth 100000 in
theorem sm_c12 : sm_mok sm_M sm_I12 := sm_ckM_ok (hs := sm_H12) (hm := sm_Hs.getD 12 (0, 0, 0, 0)) (by decide +kernel) (sm_ch_in 3 (List.mem_of_getElem? (i := 160) rfl))
set_option maxRecDepth 100000 in
theorem sm_c13 : sm_mok sm_M sm_I13 := sm_ckM_ok (hs := sm_H13) (hm := sm_Hs.getD 13 (0, 0, 0, 0)) (by decide +kernel) (sm_ch_in 1 (List.mem_of_getElem? (i := 173) rfl))
set_option maxRecDepth 100000 in
theorem sm_c14 : sm_mok sm_M sm_I14 := sm_ckM_ok (hs := sm_H14) (hm := sm_Hs.getD 14 (0, 0, 0, 0)) (by decide +kernel) (sm_ch_in 3 (List.mem_of_getElem? (i := 10) rfl))
set_option maxRecDepth 100000 in
theorem sm_c15 : sm_mok sm_M sm_I15 := sm_ckM_ok (hs := sm_H15) (hm := sm_Hs.getD 15 (0, 0, 0, 0)) (by decide +kernel) (sm_ch_in 3 (List.mem_of_getElem? (i := 14) rfl))
set_option maxRecDepth 100000 in
theorem sm_c16 : sm_mok sm_M sm_I16 := sm_ckM_ok (hs := sm_H16) (hm := sm_Hs.getD 16 (0, 0, 0, 0)) (by decide +kernel) (sm_ch_in 3 (List.mem_of_getElem? (i := 89) rfl))
set_option maxRecDepth 100000 in
theorem sm_c17 : sm_mok sm_M sm_I17 := sm_ckM_ok (hs := sm_H17) (hm := sm_Hs.getD 17 (0, 0, 0, 0)) (by decide +kernel) (sm_ch_in 3 (List.mem_of_getElem? (i := 94) rfl))
set_option maxRecDepth 100000 in
theorem sm_c18 : sm_mok sm_M sm_I18 := sm_ckM_ok (hs := sm_H18) (hm := sm_Hs.getD 18 (0, 0, 0, 0)) (by decide +kernel) (sm_ch_in 3 (List.mem_of_getElem? (i := 85) rfl))
set_option maxRecDepth 100000 in
theorem sm_c19 : sm_mok sm_M sm_I19 := sm_ckM_ok (hs := sm_H19) (hm := sm_Hs.getD 19 (0, 0, 0, 0)) (by decide +kernel) (sm_ch_in 3 (List.mem_of_getElem? (i := 33) rfl))
set_option maxRecDepth 100000 in
theorem sm_c20 : sm_mok sm_M sm_I20 := sm_ckM_ok (hs := sm_H20) (hm := sm_Hs.getD 20 (0, 0, 0, 0)) (by decide +kernel) (sm_ch_in 3 (List.mem_of_getElem? (i := 98) rfl))
set_option maxRecDepth 100000 in
theorem sm_c21 : sm_mok sm_M sm_I21 := sm_ckM_ok (hs := sm_H21) (hm := sm_Hs.getD 21 (0, 0, 0, 0)) (by decide +kernel) (sm_ch_in 3 (List.mem_of_getElem? (i := 102) rfl))
set_option maxRecDepth 100000 in
theorem sm_c22 : sm_mok sm_M sm_I22 := sm_ckM_ok (hs := sm_H22) (hm := sm_Hs.getD 22 (0, 0, 0, 0)) (by decide +kernel) (sm_ch_in 3 (List.mem_of_getElem? (i := 119) rfl))
set_option maxRecDepth 100000 in
theorem sm_c23 : sm_mok sm_M sm_I23 := sm_ckM_ok (hs := sm_H23) (hm := sm_Hs.getD 23 (0, 0, 0, 0)) (by decide +kernel) (sm_ch_in 3 (List.mem_of_getElem? (i := 115) rfl))
set_option maxRecDepth 100000 in
theorem sm_c24 : sm_mok sm_M sm_I24 := sm_ckM_ok (hs := sm_H24) (hm := sm_Hs.getD 24 (0, 0, 0, 0)) (by decide +kernel) (sm_ch_in 3 (List.mem_of_getElem? (i := 136) rfl))
set_option maxRecDepth 100000 in
theorem sm_c25 : sm_mok sm_M sm_I25 := sm_ckM_ok (hs := sm_H25) (hm := sm_Hs.getD 25 (0, 0, 0, 0)) (by decide +kernel) (sm_ch_in 3 (List.mem_of_getElem? (i := 140) rfl))
set_option maxRecDepth 100000 in
theorem sm_c26 : sm_mok sm_M sm_I26 := sm_ckM_ok (hs := sm_H26) (hm := sm_Hs.getD 26 (0, 0, 0, 0)) (by decide +kernel) (sm_ch_in 3 (List.mem_of_getElem? (i := 148) rfl))
set_option maxRecDepth 100000 in
theorem sm_c27 : sm_mok sm_M sm_I27 := sm_ckM_ok (hs := sm_H27) (hm := sm_Hs.getD 27 (0, 0, 0, 0)) (by decide +kernel) (sm_ch_in 3 (List.mem_of_getElem? (i := 144) rfl))
set_option maxRecDepth 100000 in
theorem sm_c28 : sm_mok sm_M sm_I28 := sm_ckM_ok (hs := sm_H28) (hm := sm_Hs.getD 28 (0, 0, 0, 0)) (by decide +kernel) (sm_ch_in 3 (List.mem_of_getElem? (i := 106) rfl))
set_option maxRecDepth 100000 in
theorem sm_c29 : sm_mok sm_M sm_I29 := sm_ckM_ok (hs := sm_H29) (hm := sm_Hs.getD 29 (0, 0, 0, 0)) (by decide +kernel) (sm_ch_in 1 (List.mem_of_getElem? (i := 120) rfl))
set_option maxRecDepth 100000 in
theorem sm_c30 : sm_mok sm_M sm_I30 := sm_ckM_ok (hs := sm_H30) (hm := sm_Hs.getD 30 (0, 0, 0, 0)) (by decide +kernel) (sm_ch_in 4 (List.mem_of_getElem? (i := 42) rfl))
set_option maxRecDepth 100000 in
theorem sm_c31 : sm_mok sm_M sm_I31 := sm_ckM_ok (hs := sm_H31) (hm := sm_Hs.getD 31 (0, 0, 0, 0)) (by decide +kernel) (sm_ch_in 4 (List.mem_of_getElem? (i := 47) rfl))
set_option maxRecDepth 100000 in
theorem sm_c32 : sm_mok sm_M sm_I32 := sm_ckM_ok (hs := sm_H32) (hm := sm_Hs.getD 32 (0, 0, 0, 0)) (by decide +kernel) (sm_ch_in 4 (List.mem_of_getElem? (i := 53) rfl))
set_option maxRecDepth 100000 in
theorem sm_c33 : sm_mok sm_M sm_I33 := sm_ckM_ok (hs := sm_H33) (hm := sm_Hs.getD 33 (0, 0, 0, 0)) (by decide +kernel) (sm_ch_in 5 (List.mem_of_getElem? (i := 179) rfl))
set_option maxRecDepth 100000 in
theorem sm_c34 : sm_mok sm_M sm_I34 := sm_ckM_ok (hs := sm_H34) (hm := sm_Hs.getD 34 (0, 0, 0, 0)) (by decide +kernel) (sm_ch_in 1 (List.mem_of_getElem? (i := 197) rfl))
set_option maxRecDepth 100000 in
theorem sm_c35 : sm_mok sm_M sm_I35 := sm_ckM_ok (hs := sm_H35) (hm := sm_Hs.getD 35 (0, 0, 0, 0)) (by decide +kernel) (sm_ch_in 3 (List.mem_of_getElem? (i := 191) rfl))
set_option maxRecDepth 100000 in
theorem sm_c36 : sm_mok sm_M sm_I36 := sm_ckM_ok (hs := sm_H36) (hm := sm_Hs.getD 36 (0, 0, 0, 0)) (by decide +kernel) (sm_ch_in 4 (List.mem_of_getElem? (i := 81) rfl))
set_option maxRecDepth 100000 in
theorem sm_c37 : sm_mok sm_M sm_I37 := sm_ckM_ok (hs := sm_H37) (hm := sm_Hs.getD 37 (0, 0, 0, 0)) (by decide +kernel) (sm_ch_in 3 (List.mem_of_getElem? (i := 195) rfl))
set_option maxRecDepth 100000 in
theorem sm_c38 : sm_mok sm_M sm_I38 := sm_ckM_ok (hs := sm_H38) (hm := sm_Hs.getD 38 (0, 0, 0, 0)) (by decide +kernel) (sm_ch_in 3 (List.mem_of_getElem? (i := 199) rfl))
set_option maxRecDepth 100000 in
theorem sm_c39 : sm_mok sm_M sm_I39 := sm_ckM_ok (hs := sm_H39) (hm := sm_Hs.getD 39 (0, 0, 0, 0)) (by decide +kernel) (sm_ch_in 4 (List.mem_of_getElem? (i := 164) rfl))
set_option maxRecDepth 100000 in
theorem sm_c40 : sm_mok sm_M sm_I40 := sm_ckM_ok (hs := sm_H40) (hm := sm_Hs.getD 40 (0, 0, 0, 0)) (by decide +kernel) (sm_ch_in 4 (List.mem_of_getElem? (i := 73) rfl))
set_option maxRecDepth 100000 in
theorem sm_c41 : sm_mok sm_M sm_I41 := sm_ckM_ok (hs := sm_H41) (hm := sm_Hs.getD 41 (0, 0, 0, 0)) (by decide +kernel) (sm_ch_in 3 (List.mem_of_getElem? (i := 208) rfl))
set_option maxRecDepth 100000 in
theorem sm_c42 : sm_mok sm_M sm_I42 := sm_ckM_ok (hs := sm_H42) (hm := sm_Hs.getD 42 (0, 0, 0, 0)) (by decide +kernel) (sm_ch_in 3 (List.mem_of_getElem? (i := 212) rfl))
set_option maxRecDepth 100000 in
theorem sm_c43 : sm_mok sm_M sm_I43 := sm_ckM_ok (hs := sm_H43) (hm := sm_Hs.getD 43 (0, 0, 0, 0)) (by decide +kernel) (sm_ch_in 3 (List.mem_of_getElem? (i := 204) rfl))
set_option maxRecDepth 100000 in
theorem sm_c44 : sm_mok sm_M sm_I44 := sm_ckM_ok (hs := sm_H44) (hm := sm_Hs.getD 44 (0, 0, 0, 0)) (by decide +kernel) (sm_ch_in 4 (List.mem_of_getElem? (i := 87) rfl))
set_option maxRecDepth 100000 in
theorem sm_c45 : sm_mok sm_M sm_I45 := sm_ckM_ok (hs := sm_H45) (hm := sm_Hs.getD 45 (0, 0, 0, 0)) (by decide +kernel) (sm_ch_in 4 (List.mem_of_getElem? (i := 92) rfl))
set_option maxRecDepth 100000 in
theorem sm_c46 : sm_mok sm_M sm_I46 := sm_ckM_ok (hs := sm_H46) (hm := sm_Hs.getD 46 (0, 0, 0, 0)) (by decide +kernel) (sm_ch_in 4 (List.mem_of_getElem? (i := 1) rfl))
set_option maxRecDepth 100000 in
theorem sm_c47 : sm_mok sm_M sm_I47 := sm_ckM_ok (hs := sm_H47) (hm := sm_Hs.getD 47 (0, 0, 0, 0)) (by decide +kernel) (sm_ch_in 4 (List.mem_of_getElem? (i := 101) rfl))
set_option maxRecDepth 100000 in
theorem sm_c48 : sm_mok sm_M sm_I48 := sm_ckM_ok (hs := sm_H48) (hm := sm_Hs.getD 48 (0, 0, 0, 0)) (by decide +kernel) (sm_ch_in 3 (List.mem_of_getElem? (i := 222) rfl))
set_option maxRecDepth 100000 in
theorem sm_c49 : sm_mok sm_M sm_I49 := sm_ckM_ok (hs := sm_H49) (hm := sm_Hs.getD 49 (0, 0, 0, 0)) (by decide +kernel) (sm_ch_in 3 (List.mem_of_getElem? (i := 218) rfl))
set_option maxRecDepth 100000 in
theorem sm_c50 : sm_mok sm_M sm_I50 := sm_ckM_ok (hs := sm_H50) (hm := sm_Hs.getD 50 (0, 0, 0, 0)) (by decide +kernel) (sm_ch_in 3 (List.mem_of_getElem? (i := 226) rfl))
set_option maxRecDepth 100000 in
theorem sm_c51 : sm_mok sm_M sm_I51 := sm_ckM_ok (hs := sm_H51) (hm := sm_Hs.getD 51 (0, 0, 0, 0)) (by decide +kernel) (sm_ch_in 3 (List.mem_of_getElem? (i := 237) rfl))
set_option maxRecDepth 100000 in
theorem sm_c52 : sm_mok sm_M sm_I52 := sm_ckM_ok (hs := sm_H52) (hm := sm_Hs.getD 52 (0, 0, 0, 0)) (by decide +kernel) (sm_ch_in 4 (List.mem_of_getElem? (i := 125) rfl))
set_option maxRecDepth 100000 in
theorem sm_c53 : sm_mok sm_M sm_I53 := sm_ckM_ok (hs := sm_H53) (hm := sm_Hs.getD 53 (0, 0, 0, 0)) (by decide +kernel) (sm_ch_in 4 (List.mem_of_getElem? (i := 145) rfl))
set_option maxRecDepth 100000 in
theorem sm_c54 : sm_mok sm_M sm_I54 := sm_ckM_ok (hs := sm_H54) (hm := sm_Hs.getD 54 (0, 0, 0, 0)) (by decide +kernel) (sm_ch_in 4 (List.mem_of_getElem? (i := 141) rfl))
set_option maxRecDepth 100000 in
theorem sm_c55 : sm_mok sm_M sm_I55 := sm_ckM_ok (hs := sm_H55) (hm := sm_Hs.getD 55 (0, 0, 0, 0)) (by decide +kernel) (sm_ch_in 4 (List.mem_of_getElem? (i := 121) rfl))
set_option maxRecDepth 100000 in
theorem sm_c56 : sm_mok sm_M sm_I56 := sm_ckM_ok (hs := sm_H56) (hm := sm_Hs.getD 56 (0, 0, 0, 0)) (by decide +kernel) (sm_ch_in 4 (List.mem_of_getElem? (i := 156) rfl))
set_option maxRecDepth 100000 in
theorem sm_c57 : sm_mok sm_M sm_I57 := sm_ckM_ok (hs := sm_H57) (hm := sm_Hs.getD 57 (0, 0, 0, 0)) (by decide +kernel) (sm_ch_in 4 (List.mem_of_getElem? (i := 117) rfl))
set_option maxRecDepth 100000 in
theorem sm_c58 : sm_mok sm_M sm_I58 := sm_ckM_ok (hs := sm_H58) (hm := sm_Hs.getD 58 (0, 0, 0, 0)) (by decide +kernel) (sm_ch_in 4 (List.mem_of_getElem? (i := 113) rfl))
set_option maxRecDepth 100000 in
theorem sm_c59 : sm_mok sm_M sm_I59 := sm_ckM_ok (hs := sm_H59) (hm := sm_Hs.getD 59 (0, 0, 0, 0)) (by decide +kernel) (sm_ch_in 4 (List.mem_of_getElem? (i := 133) rfl))
set_option maxRecDepth 100000 in
theorem sm_c60 : sm_mok sm_M sm_I60 := sm_ckM_ok (hs := sm_H60) (hm := sm_Hs.getD 60 (0, 0, 0, 0)) (by decide +kernel) (sm_ch_in 5 (List.mem_of_getElem? (i := 10) rfl))
set_option maxRecDepth 100000 in
theorem sm_c61 : sm_mok sm_M sm_I61 := sm_ckM_ok (hs := sm_H61) (hm := sm_Hs.getD 61 (0, 0, 0, 0)) (by decide +kernel) (sm_ch_in 4 (List.mem_of_getElem? (i := 221) rfl))
set_option maxRecDepth 100000 in
theorem sm_c62 : sm_mok sm_M sm_I62 := sm_ckM_ok (hs := sm_H62) (hm := sm_Hs.getD 62 (0, 0, 0, 0)) (by decide +kernel) (sm_ch_in 4 (List.mem_of_getElem? (i := 228) rfl))
set_option maxRecDepth 100000 in
theorem sm_c63 : sm_mok sm_M sm_I63 := sm_ckM_ok (hs := sm_H63) (hm := sm_Hs.getD 63 (0, 0, 0, 0)) (by decide +kernel) (sm_ch_in 5 (List.mem_of_getElem? (i := 106) rfl))
set_option maxRecDepth 100000 in
theorem sm_c64 : sm_mok sm_M sm_I64 := sm_ckM_ok (hs := sm_H64) (hm := sm_Hs.getD 64 (0, 0, 0, 0)) (by decide +kernel) (sm_ch_in 5 (List.mem_of_getElem? (i := 115) rfl))
set_option maxRecDepth 100000 in
theorem sm_c65 : sm_mok sm_M sm_I65 := sm_ckM_ok (hs := sm_H65) (hm := sm_Hs.getD 65 (0, 0, 0, 0)) (by decide +kernel) (sm_ch_in 5 (List.mem_of_getElem? (i := 120) rfl))
set_option maxRecDepth 100000 in
theorem sm_c66 : sm_mok sm_M sm_I66 := sm_ckM_ok (hs := sm_H66) (hm := sm_Hs.getD 66 (0, 0, 0, 0)) (by decide +kernel) (sm_ch_in 5 (List.mem_of_getElem? (i := 124) rfl))
set_option maxRecDepth 100000 in
theorem sm_c67 : sm_mok sm_M sm_I67 := sm_ckM_ok (hs := sm_H67) (hm := sm_Hs.getD 67 (0, 0, 0, 0)) (by decide +kernel) (sm_ch_in 2 (List.mem_of_getElem? (i := 13) rfl))
set_option maxRecDepth 100000 in
theorem sm_c68 : sm_mok sm_M sm_I68 := sm_ckM_ok (hs := sm_H68) (hm := sm_Hs.getD 68 (0, 0, 0, 0)) (by decide +kernel) (sm_ch_in 4 (List.mem_of_getElem? (i := 179) rfl))
set_option maxRecDepth 100000 in
theorem sm_c69 : sm_mok sm_M sm_I69 := sm_ckM_ok (hs := sm_H69) (hm := sm_Hs.getD 69 (0, 0, 0, 0)) (by decide +kernel) (sm_ch_in 4 (List.mem_of_getElem? (i := 172) rfl))
set_option maxRecDepth 100000 in
theorem sm_c70 : sm_mok sm_M sm_I70 := sm_ckM_ok (hs := sm_H70) (hm := sm_Hs.getD 70 (0, 0, 0, 0)) (by decide +kernel) (sm_ch_in 4 (List.mem_of_getElem? (i := 190) rfl))
set_option maxRecDepth 100000 in
theorem sm_c71 : sm_mok sm_M sm_I71 := sm_ckM_ok (hs := sm_H71) (hm := sm_Hs.getD 71 (0, 0, 0, 0)) (by decide +kernel) (sm_ch_in 4 (List.mem_of_getElem? (i := 199) rfl))
set_option maxRecDepth 100000 in
theorem sm_c72 : sm_mok sm_M sm_I72 := sm_ckM_ok (hs := sm_H72) (hm := sm_Hs.getD 72 (0, 0, 0, 0)) (by decide +kernel) (sm_ch_in 4 (List.mem_of_getElem? (i := 208) rfl))
set_option maxRecDepth 100000 in
theorem sm_c73 : sm_mok sm_M sm_I73 := sm_ckM_ok (hs := sm_H73) (hm := sm_Hs.getD 73 (0, 0, 0, 0)) (by decide +kernel) (sm_ch_in 4 (List.mem_of_getElem? (i := 217) rfl))
set_option maxRecDepth 100000 in
theorem sm_c74 : sm_mok sm_M sm_I74 := sm_ckM_ok (hs := sm_H74) (hm := sm_Hs.getD 74 (0, 0, 0, 0)) (by decide +kernel) (sm_ch_in 5 (List.mem_of_getElem? (i := 6) rfl))
set_option maxRecDepth 100000 in
theorem sm_c75 : sm_mok sm_M sm_I75 := sm_ckM_ok (hs := sm_H75) (hm := sm_Hs.getD 75 (0, 0, 0, 0)) (by decide +kernel) (sm_ch_in 5 (List.mem_of_getElem? (i := 3) rfl))
set_option maxRecDepth 100000 in
theorem sm_c76 : sm_mok sm_M sm_I76 := sm_ckM_ok (hs := sm_H76) (hm := sm_Hs.getD 76 (0, 0, 0, 0)) (by decide +kernel) (sm_ch_in 5 (List.mem_of_getElem? (i := 25) rfl))
set_option maxRecDepth 100000 in
theorem sm_c77 : sm_mok sm_M sm_I77 := sm_ckM_ok (hs := sm_H77) (hm := sm_Hs.getD 77 (0, 0, 0, 0)) (by decide +kernel) (sm_ch_in 5 (List.mem_of_getElem? (i := 29) rfl))
set_option maxRecDepth 100000 in
theorem sm_c78 : sm_mok sm_M sm_I78 := sm_ckM_ok (hs := sm_H78) (hm := sm_Hs.getD 78 (0, 0, 0, 0)) (by decide +kernel) (sm_ch_in 5 (List.mem_of_getElem? (i := 44) rfl))
set_option maxRecDepth 100000 in
theorem sm_c79 : sm_mok sm_M sm_I79 := sm_ckM_ok (hs := sm_H79) (hm := sm_Hs.getD 79 (0, 0, 0, 0)) (by decide +kernel) (sm_ch_in 2 (List.mem_of_getElem? (i := 64) rfl))
set_option maxRecDepth 100000 in
theorem sm_c80 : sm_mok sm_M sm_I80 := sm_ckM_ok (hs := sm_H80) (hm := sm_Hs.getD 80 (0, 0, 0, 0)) (by decide +kernel) (sm_ch_in 2 (List.mem_of_getElem? (i := 164) rfl))
set_option maxRecDepth 100000 in
theorem sm_c81 : sm_mok sm_M sm_I81 := sm_ckM_ok (hs := sm_H81) (hm := sm_Hs.getD 81 (0, 0, 0, 0)) (by decide +kernel) (sm_ch_in 2 (List.mem_of_getElem? (i := 160) rfl))
set_option maxRecDepth 100000 in
theorem sm_c82 : sm_mok sm_M sm_I82 := sm_ckM_ok (hs := sm_H82) (hm := sm_Hs.getD 82 (0, 0, 0, 0)) (by decide +kernel) (sm_ch_in 2 (List.mem_of_getElem? (i := 144) rfl))
set_option maxRecDepth 100000 in
theorem sm_c83 : sm_mok sm_M sm_I83 := sm_ckM_ok (hs := sm_H83) (hm := sm_Hs.getD 83 (0, 0, 0, 0)) (by decide +kernel) (sm_ch_in 2 (List.mem_of_getElem? (i := 148) rfl))
set_option maxRecDepth 100000 in
theorem sm_c84 : sm_mok sm_M sm_I84 := sm_ckM_ok (hs := sm_H84) (hm := sm_Hs.getD 84 (0, 0, 0, 0)) (by decide +kernel) (sm_ch_in 2 (List.mem_of_getElem? (i := 214) rfl))
set_option maxRecDepth 100000 in
theorem sm_c85 : sm_mok sm_M sm_I85 := sm_ckM_ok (hs := sm_H85) (hm := sm_Hs.getD 85 (0, 0, 0, 0)) (by decide +kernel) (sm_ch_in 2 (List.mem_of_getElem? (i := 168) rfl))
set_option maxRecDepth 100000 in
theorem sm_c86 : sm_mok sm_M sm_I86 := sm_ckM_ok (hs := sm_H86) (hm := sm_Hs.getD 86 (0, 0, 0, 0)) (by decide +kernel) (sm_ch_in 2 (List.mem_of_getElem? (i := 185) rfl))
set_option maxRecDepth 100000 in
theorem sm_c87 : sm_mok sm_M sm_I87 := sm_ckM_ok (hs := sm_H87) (hm := sm_Hs.getD 87 (0, 0, 0, 0)) (by decide +kernel) (sm_ch_in 2 (List.mem_of_getElem? (i := 201) rfl))
set_option maxRecDepth 100000 in
theorem sm_c88 : sm_mok sm_M sm_I88 := sm_ckM_ok (hs := sm_H88) (hm := sm_Hs.getD 88 (0, 0, 0, 0)) (by decide +kernel) (sm_ch_in 3 (List.mem_of_getElem? (i := 18) rfl))
set_option maxRecDepth 100000 in
theorem sm_c89 : sm_mok sm_M sm_I89 := sm_ckM_ok (hs := sm_H89) (hm := sm_Hs.getD 89 (0, 0, 0, 0)) (by decide +kernel) (sm_ch_in 2 (List.mem_of_getElem? (i := 172) rfl))
set_option maxRecDepth 100000 in
theorem sm_c90 : sm_mok sm_M sm_I90 := sm_ckM_ok (hs := sm_H90) (hm := sm_Hs.getD 90 (0, 0, 0, 0)) (by decide +kernel) (sm_ch_in 2 (List.mem_of_getElem? (i := 177) rfl))
set_option maxRecDepth 100000 in
theorem sm_c91 : sm_mok sm_M sm_I91 := sm_ckM_ok (hs := sm_H91) (hm := sm_Hs.getD 91 (0, 0, 0, 0)) (by decide +kernel) (sm_ch_in 2 (List.mem_of_getElem? (i := 189) rfl))
set_option maxRecDepth 100000 in
theorem sm_c92 : sm_mok sm_M sm_I92 := sm_ckM_ok (hs := sm_H92) (hm := sm_Hs.getD 92 (0, 0, 0, 0)) (by decide +kernel) (sm_ch_in 1 (List.mem_of_getElem? (i := 33) rfl))
set_option maxRecDepth 100000 in
theorem sm_c93 : sm_mok sm_M sm_I93 := sm_ckM_ok (hs := sm_H93) (hm := sm_Hs.getD 93 (0, 0, 0, 0)) (by decide +kernel) (sm_ch_in 2 (List.mem_of_getElem? (i := 236) rfl))
set_option maxRecDepth 100000 in
theorem sm_c94 : sm_mok sm_M sm_I94 := sm_ckM_ok (hs := sm_H94) (hm := sm_Hs.getD 94 (0, 0, 0, 0)) (by decide +kernel) (sm_ch_in 2 (List.mem_of_getElem? (i := 210) rfl))
set_option maxRecDepth 100000 in
theorem sm_c95 : sm_mok sm_M sm_I95 := sm_ckM_ok (hs := sm_H95) (hm := sm_Hs.getD 95 (0, 0, 0, 0)) (by decide +kernel) (sm_ch_in 3 (List.mem_of_getElem? (i := 152) rfl))
set_option maxRecDepth 100000 in
theorem sm_c96 : sm_mok sm_M sm_I96 := sm_ckM_ok (hs := sm_H96) (hm := sm_Hs.getD 96 (0, 0, 0, 0)) (by decide +kernel) (sm_ch_in 4 (List.mem_of_getElem? (i := 38) rfl))
set_option maxRecDepth 100000 in
theorem sm_c97 : sm_mok sm_M sm_I97 := sm_ckM_ok (hs := sm_H97) (hm := sm_Hs.getD 97 (0, 0, 0, 0)) (by decide +kernel) (sm_ch_in 5 (List.mem_of_getElem? (i := 174) rfl))
set_option maxRecDepth 100000 in
theorem sm_c98 : sm_mok sm_M sm_I98 := sm_ckM_ok (hs := sm_H98) (hm := sm_Hs.getD 98 (0, 0, 0, 0)) (by decide +kernel) (sm_ch_in 1 (List.mem_of_getElem? (i := 42) rfl))
set_option maxRecDepth 100000 in
theorem sm_c99 : sm_mok sm_M sm_I99 := sm_ckM_ok (hs := sm_H99) (hm := sm_Hs.getD 99 (0, 0, 0, 0)) (by decide +kernel) (sm_ch_in 3 (List.mem_of_getElem? (i := 24) rfl))
set_option maxRecDepth 100000 in
theorem sm_c100 : sm_mok sm_M sm_I100 := sm_ckM_ok (hs := sm_H100) (hm := sm_Hs.getD 100 (0, 0, 0, 0)) (by decide +kernel) (sm_ch_in 3 (List.mem_of_getElem? (i := 156) rfl))
set_option maxRecDepth 100000 in
theorem sm_c101 : sm_mok sm_M sm_I101 := sm_ckM_ok (hs := sm_H101) (hm := sm_Hs.getD 101 (0, 0, 0, 0)) (by decide +kernel) (sm_ch_in 3 (List.mem_of_getElem? (i := 110) rfl))
set_option maxRecDepth 100000 in
theorem sm_c102 : sm_mok sm_M sm_I102 := sm_ckM_ok (hs := sm_H102) (hm := sm_Hs.getD 102 (0, 0, 0, 0)) (by decide +kernel) (sm_ch_in 3 (List.mem_of_getElem? (i := 183) rfl))
set_option maxRecDepth 100000 in
theorem sm_c103 : sm_mok sm_M sm_I103 := sm_ckM_ok (hs := sm_H103) (hm := sm_Hs.getD 103 (0, 0, 0, 0)) (by decide +kernel) (sm_ch_in 4 (List.mem_of_getElem? (i := 20) rfl))
set_option maxRecDepth 100000 in
theorem sm_c104 : sm_mok sm_M sm_I104 := sm_ckM_ok (hs := sm_H104) (hm := sm_Hs.getD 104 (0, 0, 0, 0)) (by decide +kernel) (sm_ch_in 4 (List.mem_of_getElem? (i := 33) rfl))
set_option maxRecDepth 100000 in
theorem sm_c105 : sm_mok sm_M sm_I105 := sm_ckM_ok (hs := sm_H105) (hm := sm_Hs.getD 105 (0, 0, 0, 0)) (by decide +kernel) (sm_ch_in 4 (List.mem_of_getElem? (i := 129) rfl))
set_option maxRecDepth 100000 in
theorem sm_c106 : sm_mok sm_M sm_I106 := sm_ckM_ok (hs := sm_H106) (hm := sm_Hs.getD 106 (0, 0, 0, 0)) (by decide +kernel) (sm_ch_in 5 (List.mem_of_getElem? (i := 111) rfl))
set_option maxRecDepth 100000 in
theorem sm_c107 : sm_mok sm_M sm_I107 := sm_ckM_ok (hs := sm_H107) (hm := sm_Hs.getD 107 (0, 0, 0, 0)) (by decide +kernel) (sm_ch_in 5 (List.mem_of_getElem? (i := 54) rfl))
set_option maxRecDepth 100000 in
theorem sm_c108 : sm_mok sm_M sm_I108 := sm_ckM_ok (hs := sm_H108) (hm := sm_Hs.getD 108 (0, 0, 0, 0)) (by decide +kernel) (sm_ch_in 5 (List.mem_of_getElem? (i := 69) rfl))
set_option maxRecDepth 100000 in
theorem sm_c109 : sm_mok sm_M sm_I109 := sm_ckM_ok (hs := sm_H109) (hm := sm_Hs.getD 109 (0, 0, 0, 0)) (by decide +kernel) (sm_ch_in 5 (List.mem_of_getElem? (i := 65) rfl))
set_option maxRecDepth 100000 in
theorem sm_c110 : sm_mok sm_M sm_I110 := sm_ckM_ok (hs := sm_H110) (hm := sm_Hs.getD 110 (0, 0, 0, 0)) (by decide +kernel) (sm_ch_in 5 (List.mem_of_getElem? (i := 82) rfl))
set_option maxRecDepth 100000 in
theorem sm_c111 : sm_mok sm_M sm_I111 := sm_ckM_ok (hs := sm_H111) (hm := sm_Hs.getD 111 (0, 0, 0, 0)) (by decide +kernel) (sm_ch_in 5 (List.mem_of_getElem? (i := 86) rfl))
set_option maxRecDepth 100000 in
theorem sm_c112 : sm_mok sm_M sm_I112 := sm_ckM_ok (hs := sm_H112) (hm := sm_Hs.getD 112 (0, 0, 0, 0)) (by decide +kernel) (sm_ch_in 1 (List.mem_of_getElem? (i := 23) rfl))
set_option maxRecDepth 100000 in
theorem sm_c113 : sm_mok sm_M sm_I113 := sm_ckM_ok (hs := sm_H113) (hm := sm_Hs.getD 113 (0, 0, 0, 0)) (by decide +kernel) (sm_ch_in 2 (List.mem_of_getElem? (i := 124) rfl))
set_option maxRecDepth 100000 in
theorem sm_c114 : sm_mok sm_M sm_I114 := sm_ckM_ok (hs := sm_H114) (hm := sm_Hs.getD 114 (0, 0, 0, 0)) (by decide +kernel) (sm_ch_in 2 (List.mem_of_getElem? (i := 152) rfl))
set_option maxRecDepth 100000 in
theorem sm_c115 : sm_mok sm_M sm_I115 := sm_ckM_ok (hs := sm_H115) (hm := sm_Hs.getD 115 (0, 0, 0, 0)) (by decide +kernel) (sm_ch_in 2 (List.mem_of_getElem? (i := 181) rfl))
set_option maxRecDepth 100000 in
theorem sm_c116 : sm_mok sm_M sm_I116 := sm_ckM_ok (hs := sm_H116) (hm := sm_Hs.getD 116 (0, 0, 0, 0)) (by decide +kernel) (sm_ch_in 2 (List.mem_of_getElem? (i := 197) rfl))
set_option maxRecDepth 100000 in
theorem sm_c117 : sm_mok sm_M sm_I117 := sm_ckM_ok (hs := sm_H117) (hm := sm_Hs.getD 117 (0, 0, 0, 0)) (by decide +kernel) (sm_ch_in 2 (List.mem_of_getElem? (i := 205) rfl))
set_option maxRecDepth 100000 in
theorem sm_c118 : sm_mok sm_M sm_I118 := sm_ckM_ok (hs := sm_H118) (hm := sm_Hs.getD 118 (0, 0, 0, 0)) (by decide +kernel) (sm_ch_in 2 (List.mem_of_getElem? (i := 218) rfl))
set_option maxRecDepth 100000 in
theorem sm_c119 : sm_mok sm_M sm_I119 := sm_ckM_ok (hs := sm_H119) (hm := sm_Hs.getD 119 (0, 0, 0, 0)) (by decide +kernel) (sm_ch_in 2 (List.mem_of_getElem? (i := 222) rfl))
set_option maxRecDepth 100000 in
theorem sm_c120 : sm_mok sm_M sm_I120 := sm_ckM_ok (hs := sm_H120) (hm := sm_Hs.getD 120 (0, 0, 0, 0)) (by decide +kernel) (sm_ch_in 3 (List.mem_of_getElem? (i := 6) rfl))
set_option maxRecDepth 100000 in
theorem sm_c121 : sm_mok sm_M sm_I121 := sm_ckM_ok (hs := sm_H121) (hm := sm_Hs.getD 121 (0, 0, 0, 0)) (by decide +kernel) (sm_ch_in 3 (List.mem_of_getElem? (i := 166) rfl))
set_option maxRecDepth 100000 in
theorem sm_c122 : sm_mok sm_M sm_I122 := sm_ckM_ok (hs := sm_H122) (hm := sm_Hs.getD 122 (0, 0, 0, 0)) (by decide +kernel) (sm_ch_in 3 (List.mem_of_getElem? (i := 170) rfl))
set_option maxRecDepth 100000 in
theorem sm_c123 : sm_mok sm_M sm_I123 := sm_ckM_ok (hs := sm_H123) (hm := sm_Hs.getD 123 (0, 0, 0, 0)) (by decide +kernel) (sm_ch_in 3 (List.mem_of_getElem? (i := 179) rfl))
set_option maxRecDepth 100000 in
theorem sm_c124 : sm_mok sm_M sm_I124 := sm_ckM_ok (hs := sm_H124) (hm := sm_Hs.getD 124 (0, 0, 0, 0)) (by decide +kernel) (sm_ch_in 3 (List.mem_of_getElem? (i := 187) rfl))
set_option maxRecDepth 100000 in
theorem sm_c125 : sm_mok sm_M sm_I125 := sm_ckM_ok (hs := sm_H125) (hm := sm_Hs.getD 125 (0, 0, 0, 0)) (by decide +kernel) (sm_ch_in 4 (List.mem_of_getElem? (i := 5) rfl))
set_option maxRecDepth 100000 in
theorem sm_c126 : sm_mok sm_M sm_I126 := sm_ckM_ok (hs := sm_H126) (hm := sm_Hs.getD 126 (0, 0, 0, 0)) (by decide +kernel) (sm_ch_in 4 (List.mem_of_getElem? (i := 12) rfl))
set_option maxRecDepth 100000 in
theorem sm_c127 : sm_mok sm_M sm_I127 := sm_ckM_ok (hs := sm_H127) (hm := sm_Hs.getD 127 (0, 0, 0, 0)) (by decide +kernel) (sm_ch_in 4 (List.mem_of_getElem? (i := 16) rfl))
set_option maxRecDepth 100000 in
theorem sm_c128 : sm_mok sm_M sm_I128 := sm_ckM_ok (hs := sm_H128) (hm := sm_Hs.getD 128 (0, 0, 0, 0)) (by decide +kernel) (sm_ch_in 4 (List.mem_of_getElem? (i := 58) rfl))
set_option maxRecDepth 100000 in
theorem sm_c129 : sm_mok sm_M sm_I129 := sm_ckM_ok (hs := sm_H129) (hm := sm_Hs.getD 129 (0, 0, 0, 0)) (by decide +kernel) (sm_ch_in 4 (List.mem_of_getElem? (i := 65) rfl))
set_option maxRecDepth 100000 in
theorem sm_c130 : sm_mok sm_M sm_I130 := sm_ckM_ok (hs := sm_H130) (hm := sm_Hs.getD 130 (0, 0, 0, 0)) (by decide +kernel) (sm_ch_in 4 (List.mem_of_getElem? (i := 69) rfl))
set_option maxRecDepth 100000 in
theorem sm_c131 : sm_mok sm_M sm_I131 := sm_ckM_ok (hs := sm_H131) (hm := sm_Hs.getD 131 (0, 0, 0, 0)) (by decide +kernel) (sm_ch_in 4 (List.mem_of_getElem? (i := 96) rfl))
set_option maxRecDepth 100000 in
theorem sm_c132 : sm_mok sm_M sm_I132 := sm_ckM_ok (hs := sm_H132) (hm := sm_Hs.getD 132 (0, 0, 0, 0)) (by decide +kernel) (sm_ch_in 4 (List.mem_of_getElem? (i := 105) rfl))
set_option maxRecDepth 100000 in
theorem sm_c133 : sm_mok sm_M sm_I133 := sm_ckM_ok (hs := sm_H133) (hm := sm_Hs.getD 133 (0, 0, 0, 0)) (by decide +kernel) (sm_ch_in 4 (List.mem_of_getElem? (i := 109) rfl))
set_option maxRecDepth 100000 in
theorem sm_c134 : sm_mok sm_M sm_I134 := sm_ckM_ok (hs := sm_H134) (hm := sm_Hs.getD 134 (0, 0, 0, 0)) (by decide +kernel) (sm_ch_in 4 (List.mem_of_getElem? (i := 137) rfl))
set_option maxRecDepth 100000 in
theorem sm_c135 : sm_mok sm_M sm_I135 := sm_ckM_ok (hs := sm_H135) (hm := sm_Hs.getD 135 (0, 0, 0, 0)) (by decide +kernel) (sm_ch_in 4 (List.mem_of_getElem? (i := 149) rfl))
set_option maxRecDepth 100000 in
theorem sm_c136 : sm_mok sm_M sm_I136 := sm_ckM_ok (hs := sm_H136) (hm := sm_Hs.getD 136 (0, 0, 0, 0)) (by decide +kernel) (sm_ch_in 4 (List.mem_of_getElem? (i := 160) rfl))
set_option maxRecDepth 100000 in
theorem sm_c137 : sm_mok sm_M sm_I137 := sm_ckM_ok (hs := sm_H137) (hm := sm_Hs.getD 137 (0, 0, 0, 0)) (by decide +kernel) (sm_ch_in 4 (List.mem_of_getElem? (i := 168) rfl))
set_option maxRecDepth 100000 in
theorem sm_c138 : sm_mok sm_M sm_I138 := sm_ckM_ok (hs := sm_H138) (hm := sm_Hs.getD 138 (0, 0, 0, 0)) (by decide +kernel) (sm_ch_in 4 (List.mem_of_getElem? (i := 186) rfl))
set_option maxRecDepth 100000 in
theorem sm_c139 : sm_mok sm_M sm_I139 := sm_ckM_ok (hs := sm_H139) (hm := sm_Hs.getD 139 (0, 0, 0, 0)) (by decide +kernel) (sm_ch_in 4 (List.mem_of_getElem? (i := 195) rfl))
set_option maxRecDepth 100000 in
theorem sm_c140 : sm_mok sm_M sm_I140 := sm_ckM_ok (hs := sm_H140) (hm := sm_Hs.getD 140 (0, 0, 0, 0)) (by decide +kernel) (sm_ch_in 4 (List.mem_of_getElem? (i := 204) rfl))
set_option maxRecDepth 100000 in
theorem sm_c141 : sm_mok sm_M sm_I141 := sm_ckM_ok (hs := sm_H141) (hm := sm_Hs.getD 141 (0, 0, 0, 0)) (by decide +kernel) (sm_ch_in 4 (List.mem_of_getElem? (i := 213) rfl))
set_option maxRecDepth 100000 in
theorem sm_c142 : sm_mok sm_M sm_I142 := sm_ckM_ok (hs := sm_H142) (hm := sm_Hs.getD 142 (0, 0, 0, 0)) (by decide +kernel) (sm_ch_in 4 (List.mem_of_getElem? (i := 232) rfl))
set_option maxRecDepth 100000 in
theorem sm_c143 : sm_mok sm_M sm_I143 := sm_ckM_ok (hs := sm_H143) (hm := sm_Hs.getD 143 (0, 0, 0, 0)) (by decide +kernel) (sm_ch_in 5 (List.mem_of_getElem? (i := 21) rfl))
set_option maxRecDepth 100000 in
theorem sm_c144 : sm_mok sm_M sm_I144 := sm_ckM_ok (hs := sm_H144) (hm := sm_Hs.getD 144 (0, 0, 0, 0)) (by decide +kernel) (sm_ch_in 5 (List.mem_of_getElem? (i := 36) rfl))
set_option maxRecDepth 100000 in
theorem sm_c145 : sm_mok sm_M sm_I145 := sm_ckM_ok (hs := sm_H145) (hm := sm_Hs.getD 145 (0, 0, 0, 0)) (by decide +kernel) (sm_ch_in 5 (List.mem_of_getElem? (i := 40) rfl))
set_option maxRecDepth 100000 in
theorem sm_c146 : sm_mok sm_M sm_I146 := sm_ckM_ok (hs := sm_H146) (hm := sm_Hs.getD 146 (0, 0, 0, 0)) (by decide +kernel) (sm_ch_in 5 (List.mem_of_getElem? (i := 50) rfl))
set_option maxRecDepth 100000 in
theorem sm_c147 : sm_mok sm_M sm_I147 := sm_ckM_ok (hs := sm_H147) (hm := sm_Hs.getD 147 (0, 0, 0, 0)) (by decide +kernel) (sm_ch_in 5 (List.mem_of_getElem? (i := 61) rfl))
set_option maxRecDepth 100000 in
theorem sm_c148 : sm_mok sm_M sm_I148 := sm_ckM_ok (hs := sm_H148) (hm := sm_Hs.getD 148 (0, 0, 0, 0)) (by decide +kernel) (sm_ch_in 5 (List.mem_of_getElem? (i := 74) rfl))
set_option maxRecDepth 100000 in
theorem sm_c149 : sm_mok sm_M sm_I149 := sm_ckM_ok (hs := sm_H149) (hm := sm_Hs.getD 149 (0, 0, 0, 0)) (by decide +kernel) (sm_ch_in 5 (List.mem_of_getElem? (i := 78) rfl))
set_option maxRecDepth 100000 in
theorem sm_c150 : sm_mok sm_M sm_I150 := sm_ckM_ok (hs := sm_H150) (hm := sm_Hs.getD 150 (0, 0, 0, 0)) (by decide +kernel) (sm_ch_in 5 (List.mem_of_getElem? (i := 94) rfl))
set_option maxRecDepth 100000 in
theorem sm_c151 : sm_mok sm_M sm_I151 := sm_ckM_ok (hs := sm_H151) (hm := sm_Hs.getD 151 (0, 0, 0, 0)) (by decide +kernel) (sm_ch_in 5 (List.mem_of_getElem? (i := 102) rfl))
set_option maxRecDepth 100000 in
theorem sm_c152 : sm_mok sm_M sm_I152 := sm_ckM_ok (hs := sm_H152) (hm := sm_Hs.getD 152 (0, 0, 0, 0)) (by decide +kernel) (sm_ch_in 5 (List.mem_of_getElem? (i := 128) rfl))
set_option maxRecDepth 100000 in
theorem sm_c153 : sm_mok sm_M sm_I153 := sm_ckM_ok (hs := sm_H153) (hm := sm_Hs.getD 153 (0, 0, 0, 0)) (by decide +kernel) (sm_ch_in 5 (List.mem_of_getElem? (i := 161) rfl))
set_option maxRecDepth 100000 in
theorem sm_c154 : sm_mok sm_M sm_I154 := sm_ckM_ok (hs := sm_H154) (hm := sm_Hs.getD 154 (0, 0, 0, 0)) (by decide +kernel) (sm_ch_in 5 (List.mem_of_getElem? (i := 170) rfl))
set_option maxRecDepth 100000 in
theorem sm_c155 : sm_mok sm_M sm_I155 := sm_ckM_ok (hs := sm_H155) (hm := sm_Hs.getD 155 (0, 0, 0, 0)) (by decide +kernel) (sm_ch_in 5 (List.mem_of_getElem? (i := 184) rfl))
set_option maxRecDepth 100000 in
theorem sm_c156 : sm_mok sm_M sm_I156 := sm_ckM_ok (hs := sm_H156) (hm := sm_Hs.getD 156 (0, 0, 0, 0)) (by decide +kernel) (sm_ch_in 5 (List.mem_of_getElem? (i := 188) rfl))
set_option maxRecDepth 100000 in
theorem sm_c157 : sm_mok sm_M sm_I157 := sm_ckM_ok (hs := sm_H157) (hm := sm_Hs.getD 157 (0, 0, 0, 0)) (by decide +kernel) (sm_ch_in 2 (List.mem_of_getElem? (i := 132) rfl))
set_option maxRecDepth 100000 in
theorem sm_c158 : sm_mok sm_M sm_I158 := sm_ckM_ok (hs := sm_H158) (hm := sm_Hs.getD 158 (0, 0, 0, 0)) (by decide +kernel) (sm_ch_in 3 (List.mem_of_getElem? (i := 174) rfl))
set_option maxRecDepth 100000 in
theorem sm_c159 : sm_mok sm_M sm_I159 := sm_ckM_ok (hs := sm_H159) (hm := sm_Hs.getD 159 (0, 0, 0, 0)) (by decide +kernel) (sm_ch_in 4 (List.mem_of_getElem? (i := 236) rfl))
set_option maxRecDepth 100000 in
theorem sm_c160 : sm_mok sm_M sm_I160 := sm_ckM_ok (hs := sm_H160) (hm := sm_Hs.getD 160 (0, 0, 0, 0)) (by decide +kernel) (sm_ch_in 2 (List.mem_of_getElem? (i := 128) rfl))
set_option maxRecDepth 100000 in
theorem sm_c161 : sm_mok sm_M sm_I161 := sm_ckM_ok (hs := sm_H161) (hm := sm_Hs.getD 161 (0, 0, 0, 0)) (by decide +kernel) (sm_ch_in 2 (List.mem_of_getElem? (i := 156) rfl))
set_option maxRecDepth 100000 in
theorem sm_c162 : sm_mok sm_M sm_I162 := sm_ckM_ok (hs := sm_H162) (hm := sm_Hs.getD 162 (0, 0, 0, 0)) (by decide +kernel) (sm_ch_in 4 (List.mem_of_getElem? (i := 24) rfl))
set_option maxRecDepth 100000 in
theorem sm_c163 : sm_mok sm_M sm_I163 := sm_ckM_ok (hs := sm_H163) (hm := sm_Hs.getD 163 (0, 0, 0, 0)) (by decide +kernel) (sm_ch_in 4 (List.mem_of_getElem? (i := 29) rfl))
set_option maxRecDepth 100000 in
theorem sm_c164 : sm_mok sm_M sm_I164 := sm_ckM_ok (hs := sm_H164) (hm := sm_Hs.getD 164 (0, 0, 0, 0)) (by decide +kernel) (sm_ch_in 2 (List.mem_of_getElem? (i := 232) rfl))
set_option maxRecDepth 100000 in
theorem sm_c165 : sm_mok sm_M sm_I165 := sm_ckM_ok (hs := sm_H165) (hm := sm_Hs.getD 165 (0, 0, 0, 0)) (by decide +kernel) (sm_ch_in 5 (List.mem_of_getElem? (i := 98) rfl))
set_option maxRecDepth 100000 in
theorem sm_c166 : sm_mok sm_M sm_I166 := sm_ckM_ok (hs := sm_H166) (hm := sm_Hs.getD 166 (0, 0, 0, 0)) (by decide +kernel) (sm_ch_in 2 (List.mem_of_getElem? (i := 225) rfl))
set_option maxRecDepth 100000 in
theorem sm_c167 : sm_mok sm_M sm_I167 := sm_ckM_ok (hs := sm_H167) (hm := sm_Hs.getD 167 (0, 0, 0, 0)) (by decide +kernel) (sm_ch_in 2 (List.mem_of_getElem? (i := 228) rfl))
set_option maxRecDepth 100000 in
theorem sm_c168 : sm_mok sm_M sm_I168 := sm_ckM_ok (hs := sm_H168) (hm := sm_Hs.getD 168 (0, 0, 0, 0)) (by decide +kernel) (sm_ch_in 4 (List.mem_of_getElem? (i := 152) rfl))
set_option maxRecDepth 100000 in
theorem sm_c169 : sm_mok sm_M sm_I169 := sm_ckM_ok (hs := sm_H169) (hm := sm_Hs.getD 169 (0, 0, 0, 0)) (by decide +kernel) (sm_ch_in 4 (List.mem_of_getElem? (i := 239) rfl))
set_option maxRecDepth 100000 in
theorem sm_c170 : sm_mok sm_M sm_I170 := sm_ckM_ok (hs := sm_H170) (hm := sm_Hs.getD 170 (0, 0, 0, 0)) (by decide +kernel) (sm_ch_in 4 (List.mem_of_getElem? (i := 61) rfl))
set_option maxRecDepth 100000 in
theorem sm_c171 : sm_mok sm_M sm_I171 := sm_ckM_ok (hs := sm_H171) (hm := sm_Hs.getD 171 (0, 0, 0, 0)) (by decide +kernel) (sm_ch_in 4 (List.mem_of_getElem? (i := 8) rfl))
set_option maxRecDepth 100000 in
theorem sm_c172 : sm_mok sm_M sm_I172 := sm_ckM_ok (hs := sm_H172) (hm := sm_Hs.getD 172 (0, 0, 0, 0)) (by decide +kernel) (sm_ch_in 3 (List.mem_of_getElem? (i := 233) rfl))
set_option maxRecDepth 100000 in
theorem sm_c173 : sm_mok sm_M sm_I173 := sm_ckM_ok (hs := sm_H173) (hm := sm_Hs.getD 173 (0, 0, 0, 0)) (by decide +kernel) (sm_ch_in 5 (List.mem_of_getElem? (i := 193) rfl))
set_option maxRecDepth 100000 in
theorem sm_c174 : sm_mok sm_M sm_I174 := sm_ckM_ok (hs := sm_H174) (hm := sm_Hs.getD 174 (0, 0, 0, 0)) (by decide +kernel) (sm_ch_in 6 (List.mem_of_getElem? (i := 138) rfl))
set_option maxRecDepth 100000 in
theorem sm_c175 : sm_mok sm_M sm_I175 := sm_ckM_ok (hs := sm_H175) (hm := sm_Hs.getD 175 (0, 0, 0, 0)) (by decide +kernel) (sm_ch_in 7 (List.mem_of_getElem? (i := 22) rfl))
set_option maxRecDepth 100000 in
theorem sm_c176 : sm_mok sm_M sm_I176 := sm_ckM_ok (hs := sm_H176) (hm := sm_Hs.getD 176 (0, 0, 0, 0)) (by decide +kernel) (sm_ch_in 7 (List.mem_of_getElem? (i := 197) rfl))
set_option maxRecDepth 100000 in
theorem sm_c177 : sm_mok sm_M sm_I177 := sm_ckM_ok (hs := sm_H177) (hm := sm_Hs.getD 177 (0, 0, 0, 0)) (by decide +kernel) (sm_ch_in 6 (List.mem_of_getElem? (i := 134) rfl))
set_option maxRecDepth 100000 in
theorem sm_c178 : sm_mok sm_M sm_I178 := sm_ckM_ok (hs := sm_H178) (hm := sm_Hs.getD 178 (0, 0, 0, 0)) (by decide +kernel) (sm_ch_in 7 (List.mem_of_getElem? (i := 18) rfl))
set_option maxRecDepth 100000 in
theorem sm_c179 : sm_mok sm_M sm_I179 := sm_ckM_ok (hs := sm_H179) (hm := sm_Hs.getD 179 (0, 0, 0, 0)) (by decide +kernel) (sm_ch_in 7 (List.mem_of_getElem? (i := 31) rfl))
set_option maxRecDepth 100000 in
theorem sm_c180 : sm_mok sm_M sm_I180 := sm_ckM_ok (hs := sm_H180) (hm := sm_Hs.getD 180 (0, 0, 0, 0)) (by decide +kernel) (sm_ch_in 6 (List.mem_of_getElem? (i := 158) rfl))
set_option maxRecDepth 100000 in
theorem sm_c181 : sm_mok sm_M sm_I181 := sm_ckM_ok (hs := sm_H181) (hm := sm_Hs.getD 181 (0, 0, 0, 0)) (by decide +kernel) (sm_ch_in 6 (List.mem_of_getElem? (i := 130) rfl))
set_option maxRecDepth 100000 in
theorem sm_c182 : sm_mok sm_M sm_I182 := sm_ckM_ok (hs := sm_H182) (hm := sm_Hs.getD 182 (0, 0, 0, 0)) (by decide +kernel) (sm_ch_in 6 (List.mem_of_getElem? (i := 142) rfl))
set_option maxRecDepth 100000 in
theorem sm_c183 : sm_mok sm_M sm_I183 := sm_ckM_ok (hs := sm_H183) (hm := sm_Hs.getD 183 (0, 0, 0, 0)) (by decide +kernel) (sm_ch_in 6 (List.mem_of_getElem? (i := 146) rfl))
set_option maxRecDepth 100000 in
theorem sm_c184 : sm_mok sm_M sm_I184 := sm_ckM_ok (hs := sm_H184) (hm := sm_Hs.getD 184 (0, 0, 0, 0)) (by decide +kernel) (sm_ch_in 6 (List.mem_of_getElem? (i := 150) rfl))
set_option maxRecDepth 100000 in
theorem sm_c185 : sm_mok sm_M sm_I185 := sm_ckM_ok (hs := sm_H185) (hm := sm_Hs.getD 185 (0, 0, 0, 0)) (by decide +kernel) (sm_ch_in 6 (List.mem_of_getElem? (i := 154) rfl))
set_option maxRecDepth 100000 in
theorem sm_c186 : sm_mok sm_M sm_I186 := sm_ckM_ok (hs := sm_H186) (hm := sm_Hs.getD 186 (0, 0, 0, 0)) (by decide +kernel) (sm_ch_in 6 (List.mem_of_getElem? (i := 162) rfl))
set_option maxRecDepth 100000 in
theorem sm_c187 : sm_mok sm_M sm_I187 := sm_ckM_ok (hs := sm_H187) (hm := sm_Hs.getD 187 (0, 0, 0, 0)) (by decide +kernel) (sm_ch_in 6 (List.mem_of_getElem? (i := 170) rfl))
set_option maxRecDepth 100000 in
theorem sm_c188 : sm_mok sm_M sm_I188 := sm_ckM_ok (hs := sm_H188) (hm := sm_Hs.getD 188 (0, 0, 0, 0)) (by decide +kernel) (sm_ch_in 6 (List.mem_of_getElem? (i := 166) rfl))
set_option maxRecDepth 100000 in
theorem sm_c189 : sm_mok sm_M sm_I189 := sm_ckM_ok (hs := sm_H189) (hm := sm_Hs.getD 189 (0, 0, 0, 0)) (by decide +kernel) (sm_ch_in 6 (List.mem_of_getElem? (i := 190) rfl))
set_option maxRecDepth 100000 in
theorem sm_c190 : sm_mok sm_M sm_I190 := sm_ckM_ok (hs := sm_H190) (hm := sm_Hs.getD 190 (0, 0, 0, 0)) (by decide +kernel) (sm_ch_in 6 (List.mem_of_getElem? (i := 202) rfl))
set_option maxRecDepth 100000 in
theorem sm_c191 : sm_mok sm_M sm_I191 := sm_ckM_ok (hs := sm_H191) (hm := sm_Hs.getD 191 (0, 0, 0, 0)) (by decide +kernel) (sm_ch_in 6 (List.mem_of_getElem? (i := 198) rfl))
set_option maxRecDepth 100000 in
theorem sm_c192 : sm_mok sm_M sm_I192 := sm_ckM_ok (hs := sm_H192) (hm := sm_Hs.getD 192 (0, 0, 0, 0)) (by decide +kernel) (sm_ch_in 6 (List.mem_of_getElem? (i := 214) rfl))
set_option maxRecDepth 100000 in
theorem sm_c193 : sm_mok sm_M sm_I193 := sm_ckM_ok (hs := sm_H193) (hm := sm_Hs.getD 193 (0, 0, 0, 0)) (by decide +kernel) (sm_ch_in 6 (List.mem_of_getElem? (i := 210) rfl))
set_option maxRecDepth 100000 in
theorem sm_c194 : sm_mok sm_M sm_I194 := sm_ckM_ok (hs := sm_H194) (hm := sm_Hs.getD 194 (0, 0, 0, 0)) (by decide +kernel) (sm_ch_in 6 (List.mem_of_getElem? (i := 218) rfl))
set_option maxRecDepth 100000 in
theorem sm_c195 : sm_mok sm_M sm_I195 := sm_ckM_ok (hs := sm_H195) (hm := sm_Hs.getD 195 (0, 0, 0, 0)) (by decide +kernel) (sm_ch_in 6 (List.mem_of_getElem? (i := 230) rfl))
set_option maxRecDepth 100000 in
theorem sm_c196 : sm_mok sm_M sm_I196 := sm_ckM_ok (hs := sm_H196) (hm := sm_Hs.getD 196 (0, 0, 0, 0)) (by decide +kernel) (sm_ch_in 6 (List.mem_of_getElem? (i := 206) rfl))
set_option maxRecDepth 100000 in
theorem sm_c197 : sm_mok sm_M sm_I197 := sm_ckM_ok (hs := sm_H197) (hm := sm_Hs.getD 197 (0, 0, 0, 0)) (by decide +kernel) (sm_ch_in 6 (List.mem_of_getElem? (i := 234) rfl))
set_option maxRecDepth 100000 in
theorem sm_c198 : sm_mok sm_M sm_I198 := sm_ckM_ok (hs := sm_H198) (hm := sm_Hs.getD 198 (0, 0, 0, 0)) (by decide +kernel) (sm_ch_in 6 (List.mem_of_getElem? (i := 238) rfl))
set_option maxRecDepth 100000 in
theorem sm_c199 : sm_mok sm_M sm_I199 := sm_ckM_ok (hs := sm_H199) (hm := sm_Hs.getD 199 (0, 0, 0, 0)) (by decide +kernel) (sm_ch_in 7 (List.mem_of_getElem? (i := 2) rfl))
set_option maxRecDepth 100000 in
theorem sm_c200 : sm_mok sm_M sm_I200 := sm_ckM_ok (hs := sm_H200) (hm := sm_Hs.getD 200 (0, 0, 0, 0)) (by decide +kernel) (sm_ch_in 7 (List.mem_of_getElem? (i := 6) rfl))
set_option maxRecDepth 100000 in
theorem sm_c201 : sm_mok sm_M sm_I201 := sm_ckM_ok (hs := sm_H201) (hm := sm_Hs.getD 201 (0, 0, 0, 0)) (by decide +kernel) (sm_ch_in 6 (List.mem_of_getElem? (i := 226) rfl))
set_option maxRecDepth 100000 in
theorem sm_c202 : sm_mok sm_M sm_I202 := sm_ckM_ok (hs := sm_H202) (hm := sm_Hs.getD 202 (0, 0, 0, 0)) (by decide +kernel) (sm_ch_in 6 (List.mem_of_getElem? (i := 222) rfl))
set_option maxRecDepth 100000 in
theorem sm_c203 : sm_mok sm_M sm_I203 := sm_ckM_ok (hs := sm_H203) (hm := sm_Hs.getD 203 (0, 0, 0, 0)) (by decide +kernel) (sm_ch_in 6 (List.mem_of_getElem? (i := 194) rfl))
set_option maxRecDepth 100000 in
theorem sm_c204 : sm_mok sm_M sm_I204 := sm_ckM_ok (hs := sm_H204) (hm := sm_Hs.getD 204 (0, 0, 0, 0)) (by decide +kernel) (sm_ch_in 6 (List.mem_of_getElem? (i := 186) rfl))
set_option maxRecDepth 100000 in
theorem sm_c205 : sm_mok sm_M sm_I205 := sm_ckM_ok (hs := sm_H205) (hm := sm_Hs.getD 205 (0, 0, 0, 0)) (by decide +kernel) (sm_ch_in 7 (List.mem_of_getElem? (i := 10) rfl))
set_option maxRecDepth 100000 in
theorem sm_c206 : sm_mok sm_M sm_I206 := sm_ckM_ok (hs := sm_H206) (hm := sm_Hs.getD 206 (0, 0, 0, 0)) (by decide +kernel) (sm_ch_in 7 (List.mem_of_getElem? (i := 14) rfl))
set_option maxRecDepth 100000 in
theorem sm_c207 : sm_mok sm_M sm_I207 := sm_ckM_ok (hs := sm_H207) (hm := sm_Hs.getD 207 (0, 0, 0, 0)) (by decide +kernel) (sm_ch_in 7 (List.mem_of_getElem? (i := 27) rfl))
set_option maxRecDepth 100000 in
theorem sm_c208 : sm_mok sm_M sm_I208 := sm_ckM_ok (hs := sm_H208) (hm := sm_Hs.getD 208 (0, 0, 0, 0)) (by decide +kernel) (sm_ch_in 7 (List.mem_of_getElem? (i := 109) rfl))
set_option maxRecDepth 100000 in
theorem sm_c209 : sm_mok sm_M sm_I209 := sm_ckM_ok (hs := sm_H209) (hm := sm_Hs.getD 209 (0, 0, 0, 0)) (by decide +kernel) (sm_ch_in 7 (List.mem_of_getElem? (i := 43) rfl))
set_option maxRecDepth 100000 in
theorem sm_c210 : sm_mok sm_M sm_I210 := sm_ckM_ok (hs := sm_H210) (hm := sm_Hs.getD 210 (0, 0, 0, 0)) (by decide +kernel) (sm_ch_in 7 (List.mem_of_getElem? (i := 39) rfl))
set_option maxRecDepth 100000 in
theorem sm_c211 : sm_mok sm_M sm_I211 := sm_ckM_ok (hs := sm_H211) (hm := sm_Hs.getD 211 (0, 0, 0, 0)) (by decide +kernel) (sm_ch_in 7 (List.mem_of_getElem? (i := 35) rfl))
set_option maxRecDepth 100000 in
theorem sm_c212 : sm_mok sm_M sm_I212 := sm_ckM_ok (hs := sm_H212) (hm := sm_Hs.getD 212 (0, 0, 0, 0)) (by decide +kernel) (sm_ch_in 7 (List.mem_of_getElem? (i := 49) rfl))
set_option maxRecDepth 100000 in
theorem sm_c213 : sm_mok sm_M sm_I213 := sm_ckM_ok (hs := sm_H213) (hm := sm_Hs.getD 213 (0, 0, 0, 0)) (by decide +kernel) (sm_ch_in 7 (List.mem_of_getElem? (i := 53) rfl))
set_option maxRecDepth 100000 in
theorem sm_c214 : sm_mok sm_M sm_I214 := sm_ckM_ok (hs := sm_H214) (hm := sm_Hs.getD 214 (0, 0, 0, 0)) (by decide +kernel) (sm_ch_in 6 (List.mem_of_getElem? (i := 182) rfl))
set_option maxRecDepth 100000 in
theorem sm_c215 : sm_mok sm_M sm_I215 := sm_ckM_ok (hs := sm_H215) (hm := sm_Hs.getD 215 (0, 0, 0, 0)) (by decide +kernel) (sm_ch_in 7 (List.mem_of_getElem? (i := 57) rfl))
set_option maxRecDepth 100000 in
theorem sm_c216 : sm_mok sm_M sm_I216 := sm_ckM_ok (hs := sm_H216) (hm := sm_Hs.getD 216 (0, 0, 0, 0)) (by decide +kernel) (sm_ch_in 7 (List.mem_of_getElem? (i := 61) rfl))
set_option maxRecDepth 100000 in
theorem sm_c217 : sm_mok sm_M sm_I217 := sm_ckM_ok (hs := sm_H217) (hm := sm_Hs.getD 217 (0, 0, 0, 0)) (by decide +kernel) (sm_ch_in 6 (List.mem_of_getElem? (i := 178) rfl))
set_option maxRecDepth 100000 in
theorem sm_c218 : sm_mok sm_M sm_I218 := sm_ckM_ok (hs := sm_H218) (hm := sm_Hs.getD 218 (0, 0, 0, 0)) (by decide +kernel) (sm_ch_in 6 (List.mem_of_getElem? (i := 174) rfl))
set_option maxRecDepth 100000 in
theorem sm_c219 : sm_mok sm_M sm_I219 := sm_ckM_ok (hs := sm_H219) (hm := sm_Hs.getD 219 (0, 0, 0, 0)) (by decide +kernel) (sm_ch_in 7 (List.mem_of_getElem? (i := 77) rfl))
set_option maxRecDepth 100000 in
theorem sm_c220 : sm_mok sm_M sm_I220 := sm_ckM_ok (hs := sm_H220) (hm := sm_Hs.getD 220 (0, 0, 0, 0)) (by decide +kernel) (sm_ch_in 7 (List.mem_of_getElem? (i := 65) rfl))
set_option maxRecDepth 100000 in
theorem sm_c221 : sm_mok sm_M sm_I221 := sm_ckM_ok (hs := sm_H221) (hm := sm_Hs.getD 221 (0, 0, 0, 0)) (by decide +kernel) (sm_ch_in 7 (List.mem_of_getElem? (i := 69) rfl))
set_option maxRecDepth 100000 in
theorem sm_c222 : sm_mok sm_M sm_I222 := sm_ckM_ok (hs := sm_H222) (hm := sm_Hs.getD 222 (0, 0, 0, 0)) (by decide +kernel) (sm_ch_in 7 (List.mem_of_getElem? (i := 73) rfl))
set_option maxRecDepth 100000 in
theorem sm_c223 : sm_mok sm_M sm_I223 := sm_ckM_ok (hs := sm_H223) (hm := sm_Hs.getD 223 (0, 0, 0, 0)) (by decide +kernel) (sm_ch_in 7 (List.mem_of_getElem? (i := 89) rfl))
set_option maxRecDepth 100000 in
theorem sm_c224 : sm_mok sm_M sm_I224 := sm_ckM_ok (hs := sm_H224) (hm := sm_Hs.getD 224 (0, 0, 0, 0)) (by decide +kernel) (sm_ch_in 7 (List.mem_of_getElem? (i := 85) rfl))
set_option maxRecDepth 100000 in
theorem sm_c225 : sm_mok sm_M sm_I225 := sm_ckM_ok (hs := sm_H225) (hm := sm_Hs.getD 225 (0, 0, 0, 0)) (by decide +kernel) (sm_ch_in 7 (List.mem_of_getElem? (i := 81) rfl))
set_option maxRecDepth 100000 in
theorem sm_c226 : sm_mok sm_M sm_I226 := sm_ckM_ok (hs := sm_H226) (hm := sm_Hs.getD 226 (0, 0, 0, 0)) (by decide +kernel) (sm_ch_in 7 (List.mem_of_getElem? (i := 101) rfl))
set_option maxRecDepth 100000 in
theorem sm_c227 : sm_mok sm_M sm_I227 := sm_ckM_ok (hs := sm_H227) (hm := sm_Hs.getD 227 (0, 0, 0, 0)) (by decide +kernel) (sm_ch_in 7 (List.mem_of_getElem? (i := 105) rfl))
set_option maxRecDepth 100000 in
theorem sm_c228 : sm_mok sm_M sm_I228 := sm_ckM_ok (hs := sm_H228) (hm := sm_Hs.getD 228 (0, 0, 0, 0)) (by decide +kernel) (sm_ch_in 7 (List.mem_of_getElem? (i := 97) rfl))
set_option maxRecDepth 100000 in
theorem sm_c229 : sm_mok sm_M sm_I229 := sm_ckM_ok (hs := sm_H229) (hm := sm_Hs.getD 229 (0, 0, 0, 0)) (by decide +kernel) (sm_ch_in 7 (List.mem_of_getElem? (i := 113) rfl))
set_option maxRecDepth 100000 in
theorem sm_c230 : sm_mok sm_M sm_I230 := sm_ckM_ok (hs := sm_H230) (hm := sm_Hs.getD 230 (0, 0, 0, 0)) (by decide +kernel) (sm_ch_in 7 (List.mem_of_getElem? (i := 93) rfl))
set_option maxRecDepth 100000 in
theorem sm_c231 : sm_mok sm_M sm_I231 := sm_ckM_ok (hs := sm_H231) (hm := sm_Hs.getD 231 (0, 0, 0, 0)) (by decide +kernel) (sm_ch_in 7 (List.mem_of_getElem? (i := 117) rfl))
set_option maxRecDepth 100000 in
theorem sm_c232 : sm_mok sm_M sm_I232 := sm_ckM_ok (hs := sm_H232) (hm := sm_Hs.getD 232 (0, 0, 0, 0)) (by decide +kernel) (sm_ch_in 7 (List.mem_of_getElem? (i := 125) rfl))
set_option maxRecDepth 100000 in
theorem sm_c233 : sm_mok sm_M sm_I233 := sm_ckM_ok (hs := sm_H233) (hm := sm_Hs.getD 233 (0, 0, 0, 0)) (by decide +kernel) (sm_ch_in 7 (List.mem_of_getElem? (i := 121) rfl))
set_option maxRecDepth 100000 in
theorem sm_c234 : sm_mok sm_M sm_I234 := sm_ckM_ok (hs := sm_H234) (hm := sm_Hs.getD 234 (0, 0, 0, 0)) (by decide +kernel) (sm_ch_in 7 (List.mem_of_getElem? (i := 133) rfl))
set_option maxRecDepth 100000 in
theorem sm_c235 : sm_mok sm_M sm_I235 := sm_ckM_ok (hs := sm_H235) (hm := sm_Hs.getD 235 (0, 0, 0, 0)) (by decide +kernel) (sm_ch_in 7 (List.mem_of_getElem? (i := 137) rfl))
set_option maxRecDepth 100000 in
theorem sm_c236 : sm_mok sm_M sm_I236 := sm_ckM_ok (hs := sm_H236) (hm := sm_Hs.getD 236 (0, 0, 0, 0)) (by decide +kernel) (sm_ch_in 7 (List.mem_of_getElem? (i := 165) rfl))
set_option maxRecDepth 100000 in
theorem sm_c237 : sm_mok sm_M sm_I237 := sm_ckM_ok (hs := sm_H237) (hm := sm_Hs.getD 237 (0, 0, 0, 0)) (by decide +kernel) (sm_ch_in 7 (List.mem_of_getElem? (i := 161) rfl))
set_option maxRecDepth 100000 in
theorem sm_c238 : sm_mok sm_M sm_I238 := sm_ckM_ok (hs := sm_H238) (hm := sm_Hs.getD 238 (0, 0, 0, 0)) (by decide +kernel) (sm_ch_in 7 (List.mem_of_getElem? (i := 153) rfl))
set_option maxRecDepth 100000 in
theorem sm_c239 : sm_mok sm_M sm_I239 := sm_ckM_ok (hs := sm_H239) (hm := sm_Hs.getD 239 (0, 0, 0, 0)) (by decide +kernel) (sm_ch_in 7 (List.mem_of_getElem? (i := 145) rfl))
set_option maxRecDepth 100000 in
theorem sm_c240 : sm_mok sm_M sm_I240 := sm_ckM_ok (hs := sm_H240) (hm := sm_Hs.getD 240 (0, 0, 0, 0)) (by decide +kernel) (sm_ch_in 7 (List.mem_of_getElem? (i := 157) rfl))
set_option maxRecDepth 100000 in
theorem sm_c241 : sm_mok sm_M sm_I241 := sm_ckM_ok (hs := sm_H241) (hm := sm_Hs.getD 241 (0, 0, 0, 0)) (by decide +kernel) (sm_ch_in 7 (List.mem_of_getElem? (i := 141) rfl))
set_option maxRecDepth 100000 in
theorem sm_c242 : sm_mok sm_M sm_I242 := sm_ckM_ok (hs := sm_H242) (hm := sm_Hs.getD 242 (0, 0, 0, 0)) (by decide +kernel) (sm_ch_in 7 (List.mem_of_getElem? (i := 129) rfl))
set_option maxRecDepth 100000 in
theorem sm_c243 : sm_mok sm_M sm_I243 := sm_ckM_ok (hs := sm_H243) (hm := sm_Hs.getD 243 (0, 0, 0, 0)) (by decide +kernel) (sm_ch_in 7 (List.mem_of_getElem? (i := 149) rfl))
set_option maxRecDepth 100000 in
theorem sm_c244 : sm_mok sm_M sm_I244 := sm_ckM_ok (hs := sm_H244) (hm := sm_Hs.getD 244 (0, 0, 0, 0)) (by decide +kernel) (sm_ch_in 7 (List.mem_of_getElem? (i := 173) rfl))
set_option maxRecDepth 100000 in
theorem sm_c245 : sm_mok sm_M sm_I245 := sm_ckM_ok (hs := sm_H245) (hm := sm_Hs.getD 245 (0, 0, 0, 0)) (by decide +kernel) (sm_ch_in 7 (List.mem_of_getElem? (i := 169) rfl))
set_option maxRecDepth 100000 in
theorem sm_c246 : sm_mok sm_M sm_I246 := sm_ckM_ok (hs := sm_H246) (hm := sm_Hs.getD 246 (0, 0, 0, 0)) (by decide +kernel) (sm_ch_in 7 (List.mem_of_getElem? (i := 177) rfl))
set_option maxRecDepth 100000 in
theorem sm_c247 : sm_mok sm_M sm_I247 := sm_ckM_ok (hs := sm_H247) (hm := sm_Hs.getD 247 (0, 0, 0, 0)) (by decide +kernel) (sm_ch_in 7 (List.mem_of_getElem? (i := 185) rfl))
set_option maxRecDepth 100000 in
theorem sm_c248 : sm_mok sm_M sm_I248 := sm_ckM_ok (hs := sm_H248) (hm := sm_Hs.getD 248 (0, 0, 0, 0)) (by decide +kernel) (sm_ch_in 7 (List.mem_of_getElem? (i := 181) rfl))
set_option maxRecDepth 100000 in
theorem sm_c249 : sm_mok sm_M sm_I249 := sm_ckM_ok (hs := sm_H249) (hm := sm_Hs.getD 249 (0, 0, 0, 0)) (by decide +kernel) (sm_ch_in 7 (List.mem_of_getElem? (i := 189) rfl))
set_option maxRecDepth 100000 in
theorem sm_c250 : sm_mok sm_M sm_I250 := sm_ckM_ok (hs := sm_H250) (hm := sm_Hs.getD 250 (0, 0, 0, 0)) (by decide +kernel) (sm_ch_in 7 (List.mem_of_getElem? (i := 193) rfl))
set_option maxRecDepth 100000 in
theorem sm_c251 : sm_mok sm_M sm_I251 := sm_ckM_ok (hs := sm_H251) (hm := sm_Hs.getD 251 (0, 0, 0, 0)) (by decide +kernel) (sm_ch_in 7 (List.mem_of_getElem? (i := 201) rfl))
set_option maxRecDepth 100000 in
theorem sm_c252 : sm_mok sm_M sm_I252 := sm_ckM_ok (hs := sm_H252) (hm := sm_Hs.getD 252 (0, 0, 0, 0)) (by decide +kernel) (sm_ch_in 7 (List.mem_of_getElem? (i := 205) rfl))
set_option maxRecDepth 100000 in
theorem sm_c253 : sm_mok sm_M sm_I253 := sm_ckM_ok (hs := sm_H253) (hm := sm_Hs.getD 253 (0, 0, 0, 0)) (by decide +kernel) (sm_ch_in 7 (List.mem_of_getElem? (i := 213) rfl))
set_option maxRecDepth 100000 in
theorem sm_c254 : sm_mok sm_M sm_I254 := sm_ckM_ok (hs := sm_H254) (hm := sm_Hs.getD 254 (0, 0, 0, 0)) (by decide +kernel) (sm_ch_in 7 (List.mem_of_getElem? (i := 226) rfl))
set_option maxRecDepth 100000 in
theorem sm_c255 : sm_mok sm_M sm_I255 := sm_ckM_ok (hs := sm_H255) (hm := sm_Hs.getD 255 (0, 0, 0, 0)) (by decide +kernel) (sm_ch_in 7 (List.mem_of_getElem? (i := 222) rfl))
set_option maxRecDepth 100000 in
theorem sm_c256 : sm_mok sm_M sm_I256 := sm_ckM_ok (hs := sm_H256) (hm := sm_Hs.getD 256 (0, 0, 0, 0)) (by decide +kernel) (sm_ch_in 7 (List.mem_of_getElem? (i := 218) rfl))
set_option maxRecDepth 100000 in
theorem sm_c257 : sm_mok sm_M sm_I257 := sm_ckM_ok (hs := sm_H257) (hm := sm_Hs.getD 257 (0, 0, 0, 0)) (by decide +kernel) (sm_ch_in 7 (List.mem_of_getElem? (i := 230) rfl))
set_option maxRecDepth 100000 in
theorem sm_c258 : sm_mok sm_M sm_I258 := sm_ckM_ok (hs := sm_H258) (hm := sm_Hs.getD 258 (0, 0, 0, 0)) (by decide +kernel) (sm_ch_in 7 (List.mem_of_getElem? (i := 209) rfl))
set_option maxRecDepth 100000 in
theorem sm_c259 : sm_mok sm_M sm_I259 := sm_ckM_ok (hs := sm_H259) (hm := sm_Hs.getD 259 (0, 0, 0, 0)) (by decide +kernel) (sm_ch_in 7 (List.mem_of_getElem? (i := 238) rfl))
set_option maxRecDepth 100000 in
theorem sm_c260 : sm_mok sm_M sm_I260 := sm_ckM_ok (hs := sm_H260) (hm := sm_Hs.getD 260 (0, 0, 0, 0)) (by decide +kernel) (sm_ch_in 7 (List.mem_of_getElem? (i := 234) rfl))
set_option maxRecDepth 100000 in
theorem sm_c261 : sm_mok sm_M sm_I261 := sm_ckM_ok (hs := sm_H261) (hm := sm_Hs.getD 261 (0, 0, 0, 0)) (by decide +kernel) (sm_ch_in 8 (List.mem_of_getElem? (i := 14) rfl))
set_option maxRecDepth 100000 in
theorem sm_c262 : sm_mok sm_M sm_I262 := sm_ckM_ok (hs := sm_H262) (hm := sm_Hs.getD 262 (0, 0, 0, 0)) (by decide +kernel) (sm_ch_in 8 (List.mem_of_getElem? (i := 10) rfl))
set_option maxRecDepth 100000 in
theorem sm_c263 : sm_mok sm_M sm_I263 := sm_ckM_ok (hs := sm_H263) (hm := sm_Hs.getD 263 (0, 0, 0, 0)) (by decide +kernel) (sm_ch_in 8 (List.mem_of_getElem? (i := 6) rfl))
set_option maxRecDepth 100000 in
theorem sm_c264 : sm_mok sm_M sm_I264 := sm_ckM_ok (hs := sm_H264) (hm := sm_Hs.getD 264 (0, 0, 0, 0)) (by decide +kernel) (sm_ch_in 8 (List.mem_of_getElem? (i := 2) rfl))
set_option maxRecDepth 100000 in
theorem sm_c265 : sm_mok sm_M sm_I265 := sm_ckM_ok (hs := sm_H265) (hm := sm_Hs.getD 265 (0, 0, 0, 0)) (by decide +kernel) (sm_ch_in 8 (List.mem_of_getElem? (i := 18) rfl))
set_option maxRecDepth 100000 in
theorem sm_c266 : sm_mok sm_M sm_I266 := sm_ckM_ok (hs := sm_H266) (hm := sm_Hs.getD 266 (0, 0, 0, 0)) (by decide +kernel) (sm_ch_in 8 (List.mem_of_getElem? (i := 26) rfl))
set_option maxRecDepth 100000 in
theorem sm_c267 : sm_mok sm_M sm_I267 := sm_ckM_ok (hs := sm_H267) (hm := sm_Hs.getD 267 (0, 0, 0, 0)) (by decide +kernel) (sm_ch_in 8 (List.mem_of_getElem? (i := 22) rfl))
set_option maxRecDepth 100000 in
theorem sm_c268 : sm_mok sm_M sm_I268 := sm_ckM_ok (hs := sm_H268) (hm := sm_Hs.getD 268 (0, 0, 0, 0)) (by decide +kernel) (sm_ch_in 8 (List.mem_of_getElem? (i := 30) rfl))
set_option maxRecDepth 100000 in
theorem sm_c269 : sm_mok sm_M sm_I269 := sm_ckM_ok (hs := sm_H269) (hm := sm_Hs.getD 269 (0, 0, 0, 0)) (by decide +kernel) (sm_ch_in 8 (List.mem_of_getElem? (i := 39) rfl))
set_option maxRecDepth 100000 in
theorem sm_c270 : sm_mok sm_M sm_I270 := sm_ckM_ok (hs := sm_H270) (hm := sm_Hs.getD 270 (0, 0, 0, 0)) (by decide +kernel) (sm_ch_in 8 (List.mem_of_getElem? (i := 34) rfl))
set_option maxRecDepth 100000 in
theorem sm_c271 : sm_mok sm_M sm_I271 := sm_ckM_ok (hs := sm_H271) (hm := sm_Hs.getD 271 (0, 0, 0, 0)) (by decide +kernel) (sm_ch_in 8 (List.mem_of_getElem? (i := 53) rfl))
set_option maxRecDepth 100000 in
theorem sm_c272 : sm_mok sm_M sm_I272 := sm_ckM_ok (hs := sm_H272) (hm := sm_Hs.getD 272 (0, 0, 0, 0)) (by decide +kernel) (sm_ch_in 8 (List.mem_of_getElem? (i := 49) rfl))
set_option maxRecDepth 100000 in
theorem sm_c273 : sm_mok sm_M sm_I273 := sm_ckM_ok (hs := sm_H273) (hm := sm_Hs.getD 273 (0, 0, 0, 0)) (by decide +kernel) (sm_ch_in 8 (List.mem_of_getElem? (i := 57) rfl))
set_option maxRecDepth 100000 in
theorem sm_c274 : sm_mok sm_M sm_I274 := sm_ckM_ok (hs := sm_H274) (hm := sm_Hs.getD 274 (0, 0, 0, 0)) (by decide +kernel) (sm_ch_in 8 (List.mem_of_getElem? (i := 61) rfl))
set_option maxRecDepth 100000 in
theorem sm_c275 : sm_mok sm_M sm_I275 := sm_ckM_ok (hs := sm_H275) (hm := sm_Hs.getD 275 (0, 0, 0, 0)) (by decide +kernel) (sm_ch_in 8 (List.mem_of_getElem? (i := 45) rfl))
set_option maxRecDepth 100000 in
theorem sm_c276 : sm_mok sm_M sm_I276 := sm_ckM_ok (hs := sm_H276) (hm := sm_Hs.getD 276 (0, 0, 0, 0)) (by decide +kernel) (sm_ch_in 8 (List.mem_of_getElem? (i := 65) rfl))
set_option maxRecDepth 100000 in
theorem sm_c277 : sm_mok sm_M sm_I277 := sm_ckM_ok (hs := sm_H277) (hm := sm_Hs.getD 277 (0, 0, 0, 0)) (by decide +kernel) (sm_ch_in 8 (List.mem_of_getElem? (i := 77) rfl))
set_option maxRecDepth 100000 in
theorem sm_c278 : sm_mok sm_M sm_I278 := sm_ckM_ok (hs := sm_H278) (hm := sm_Hs.getD 278 (0, 0, 0, 0)) (by decide +kernel) (sm_ch_in 8 (List.mem_of_getElem? (i := 73) rfl))
set_option maxRecDepth 100000 in
theorem sm_c279 : sm_mok sm_M sm_I279 := sm_ckM_ok (hs := sm_H279) (hm := sm_Hs.getD 279 (0, 0, 0, 0)) (by decide +kernel) (sm_ch_in 8 (List.mem_of_getElem? (i := 69) rfl))
set_option maxRecDepth 100000 in
theorem sm_c280 : sm_mok sm_M sm_I280 := sm_ckM_ok (hs := sm_H280) (hm := sm_Hs.getD 280 (0, 0, 0, 0)) (by decide +kernel) (sm_ch_in 8 (List.mem_of_getElem? (i := 81) rfl))
set_option maxRecDepth 100000 in
theorem sm_c281 : sm_mok sm_M sm_I281 := sm_ckM_ok (hs := sm_H281) (hm := sm_Hs.getD 281 (0, 0, 0, 0)) (by decide +kernel) (sm_ch_in 8 (List.mem_of_getElem? (i := 85) rfl))
set_option maxRecDepth 100000 in
theorem sm_c282 : sm_mok sm_M sm_I282 := sm_ckM_ok (hs := sm_H282) (hm := sm_Hs.getD 282 (0, 0, 0, 0)) (by decide +kernel) (sm_ch_in 2 (List.mem_of_getElem? (i := 239) rfl))
set_option maxRecDepth 100000 in
theorem sm_c283 : sm_mok sm_M sm_I283 := sm_ckM_ok (hs := sm_H283) (hm := sm_Hs.getD 283 (0, 0, 0, 0)) (by decide +kernel) (sm_ch_in 5 (List.mem_of_getElem? (i := 13) rfl))
set_option maxRecDepth 100000 in
theorem sm_c284 : sm_mok sm_M sm_I284 := sm_ckM_ok (hs := sm_H284) (hm := sm_Hs.getD 284 (0, 0, 0, 0)) (by decide +kernel) (sm_ch_in 3 (List.mem_of_getElem? (i := 230) rfl))
set_option maxRecDepth 100000 in
theorem sm_c285 : sm_mok sm_M sm_I285 := sm_ckM_ok (hs := sm_H285) (hm := sm_Hs.getD 285 (0, 0, 0, 0)) (by decide +kernel) (sm_ch_in 5 (List.mem_of_getElem? (i := 89) rfl))
set_option maxRecDepth 100000 in
theorem sm_c286 : sm_mok sm_M sm_I286 := sm_ckM_ok (hs := sm_H286) (hm := sm_Hs.getD 286 (0, 0, 0, 0)) (by decide +kernel) (sm_ch_in 4 (List.mem_of_getElem? (i := 224) rfl))
set_option maxRecDepth 100000 in
theorem sm_c287 : sm_mok sm_M sm_I287 := sm_ckM_ok (hs := sm_H287) (hm := sm_Hs.getD 287 (0, 0, 0, 0)) (by decide +kernel) (sm_ch_in 5 (List.mem_of_getElem? (i := 16) rfl))
end
section
theorem sm_Ms_len : sm_Ms.length = 288 := by decide +kernel
theorem sm_M_ok : ∀ a J, sm_M a = some J → sm_mok sm_M J := by
  intro a J h
  unfold sm_M at h
  match a, h with
  | 0, h => cases h; exact sm_c0
  | 1, h => cases h; exact sm_c1
  | 2, h => cases h; exact sm_c2
  | 3, h => cases h; exact sm_c3
  | 4, h => cases h; exact sm_c4
  | 5, h => cases h; exact sm_c5
  | 6, h => cases h; exact sm_c6
  | 7, h => cases h; exact sm_c7
  | 8, h => cases h; exact sm_c8
  | 9, h => cases h; exact sm_c9
  | 10, h => cases h; exact sm_c10
  | 11, h => cases h; exact sm_c11
  | 12, h => cases h; exact sm_c12
  | 13, h => cases h; exact sm_c13
  | 14, h => cases h; exact sm_c14
  | 15, h => cases h; exact sm_c15
  | 16, h => cases h; exact sm_c16
  | 17, h => cases h; exact sm_c17
  | 18, h => cases h; exact sm_c18
  | 19, h => cases h; exact sm_c19
  | 20, h => cases h; exact sm_c20
  | 21, h => cases h; exact sm_c21
  | 22, h => cases h; exact sm_c22
  | 23, h => cases h; exact sm_c23
  | 24, h => cases h; exact sm_c24
  | 25, h => cases h; exact sm_c25
  | 26, h => cases h; exact sm_c26
  | 27, h => cases h; exact sm_c27
  | 28, h => cases h; exact sm_c28
  | 29, h => cases h; exact sm_c29
  | 30, h => cases h; exact sm_c30
  | 31, h => cases h; exact sm_c31
  | 32, h => cases h; exact sm_c32
  | 33, h => cases h; exact sm_c33
  | 34, h => cases h; exact sm_c34
  | 35, h => cases h; exact sm_c35
  | 36, h => cases h; exact sm_c36
  | 37, h => cases h; exact sm_c37
  | 38, h => cases h; exact sm_c38
  | 39, h => cases h; exact sm_c39
  | 40, h => cases h; exact sm_c40
  | 41, h => cases h; exact sm_c41
  | 42, h => cases h; exact sm_c42
  | 43, h => cases h; exact sm_c43
  | 44, h => cases h; exact sm_c44
  | 45, h => cases h; exact sm_c45
  | 46, h => cases h; exact sm_c46
  | 47, h => cases h; exact sm_c47
  | 48, h => cases h; exact sm_c48
  | 49, h => cases h; exact sm_c49
  | 50, h => cases h; exact sm_c50
  | 51, h => cases h; exact sm_c51
  | 52, h => cases h; exact sm_c52
  | 53, h => cases h; exact sm_c53
  | 54, h => cases h; exact sm_c54
  | 55, h => cases h; exact sm_c55
  | 56, h => cases h; exact sm_c56
  | 57, h => cases h; exact sm_c57
  | 58, h => cases h; exact sm_c58
  | 59, h => cases h; exact sm_c59
  | 60, h => cases h; exact sm_c60
  | 61, h => cases h; exact sm_c61
  | 62, h => cases h; exact sm_c62
  | 63, h => cases h; exact sm_c63
  | 64, h => cases h; exact sm_c64
  | 65, h => cases h; exact sm_c65
  | 66, h => cases h; exact sm_c66
  | 67, h => cases h; exact sm_c67
  | 68, h => cases h; exact sm_c68
  | 69, h => cases h; exact sm_c69
  | 70, h => cases h; exact sm_c70
  | 71, h => cases h; exact sm_c71
  | 72, h => cases h; exact sm_c72
  | 73, h => cases h; exact sm_c73
  | 74, h => cases h; exact sm_c74
  | 75, h => cases h; exact sm_c75
  | 76, h => cases h; exact sm_c76
  | 77, h => cases h; exact sm_c77
  | 78, h => cases h; exact sm_c78
  | 79, h => cases h; exact sm_c79
  | 80, h => cases h; exact sm_c80
  | 81, h => cases h; exact sm_c81
  | 82, h => cases h; exact sm_c82
  | 83, h => cases h; exact sm_c83
  | 84, h => cases h; exact sm_c84
  | 85, h => cases h; exact sm_c85
  | 86, h => cases h; exact sm_c86
  | 87, h => cases h; exact sm_c87
  | 88, h => cases h; exact sm_c88
  | 89, h => cases h; exact sm_c89
  | 90, h => cases h; exact sm_c90
  | 91, h => cases h; exact sm_c91
  | 92, h => cases h; exact sm_c92
  | 93, h => cases h; exact sm_c93
  | 94, h => cases h; exact sm_c94
  | 95, h => cases h; exact sm_c95
  | 96, h => cases h; exact sm_c96
  | 97, h => cases h; exact sm_c97
  | 98, h => cases h; exact sm_c98
  | 99, h => cases h; exact sm_c99
  | 100, h => cases h; exact sm_c100
  | 101, h => cases h; exact sm_c101
  | 102, h => cases h; exact sm_c102
  | 103, h => cases h; exact sm_c103
  | 104, h => cases h; exact sm_c104
  | 105, h => cases h; exact sm_c105
  | 106, h => cases h; exact sm_c106
  | 107, h => cases h; exact sm_c107
  | 108, h => cases h; exact sm_c108
  | 109, h => cases h; exact sm_c109
  | 110, h => cases h; exact sm_c110
  | 111, h => cases h; exact sm_c111
  | 112, h => cases h; exact sm_c112
  | 113, h => cases h; exact sm_c113
  | 114, h => cases h; exact sm_c114
  | 115, h => cases h; exact sm_c115
  | 116, h => cases h; exact sm_c116
  | 117, h => cases h; exact sm_c117
  | 118, h => cases h; exact sm_c118
  | 119, h => cases h; exact sm_c119
  | 120, h => cases h; exact sm_c120
  | 121, h => cases h; exact sm_c121
  | 122, h => cases h; exact sm_c122
  | 123, h => cases h; exact sm_c123
  | 124, h => cases h; exact sm_c124
  | 125, h => cases h; exact sm_c125
  | 126, h => cases h; exact sm_c126
  | 127, h => cases h; exact sm_c127
  | 128, h => cases h; exact sm_c128
  | 129, h => cases h; exact sm_c129
  | 130, h => cases h; exact sm_c130
  | 131, h => cases h; exact sm_c131
  | 132, h => cases h; exact sm_c132
  | 133, h => cases h; exact sm_c133
  | 134, h => cases h; exact sm_c134
  | 135, h => cases h; exact sm_c135
  | 136, h => cases h; exact sm_c136
  | 137, h => cases h; exact sm_c137
  | 138, h => cases h; exact sm_c138
  | 139, h => cases h; exact sm_c139
  | 140, h => cases h; exact sm_c140
  | 141, h => cases h; exact sm_c141
  | 142, h => cases h; exact sm_c142
  | 143, h => cases h; exact sm_c143
  | 144, h => cases h; exact sm_c144
  | 145, h => cases h; exact sm_c145
  | 146, h => cases h; exact sm_c146
  | 147, h => cases h; exact sm_c147
  | 148, h => cases h; exact sm_c148
  | 149, h => cases h; exact sm_c149
  | 150, h => cases h; exact sm_c150
  | 151, h => cases h; exact sm_c151
  | 152, h => cases h; exact sm_c152
  | 153, h => cases h; exact sm_c153
  | 154, h => cases h; exact sm_c154
  | 155, h => cases h; exact sm_c155
  | 156, h => cases h; exact sm_c156
  | 157, h => cases h; exact sm_c157
  | 158, h => cases h; exact sm_c158
  | 159, h => cases h; exact sm_c159
  | 160, h => cases h; exact sm_c160
  | 161, h => cases h; exact sm_c161
  | 162, h => cases h; exact sm_c162
  | 163, h => cases h; exact sm_c163
  | 164, h => cases h; exact sm_c164
  | 165, h => cases h; exact sm_c165
  | 166, h => cases h; exact sm_c166
  | 167, h => cases h; exact sm_c167
  | 168, h => cases h; exact sm_c168
  | 169, h => cases h; exact sm_c169
  | 170, h => cases h; exact sm_c170
  | 171, h => cases h; exact sm_c171
  | 172, h => cases h; exact sm_c172
  | 173, h => cases h; exact sm_c173
  | 174, h => cases h; exact sm_c174
  | 175, h => cases h; exact sm_c175
  | 176, h => cases h; exact sm_c176
  | 177, h => cases h; exact sm_c177
  | 178, h => cases h; exact sm_c178
  | 179, h => cases h; exact sm_c179
  | 180, h => cases h; exact sm_c180
  | 181, h => cases h; exact sm_c181
  | 182, h => cases h; exact sm_c182
  | 183, h => cases h; exact sm_c183
  | 184, h => cases h; exact sm_c184
  | 185, h => cases h; exact sm_c185
  | 186, h => cases h; exact sm_c186
  | 187, h => cases h; exact sm_c187
  | 188, h => cases h; exact sm_c188
  | 189, h => cases h; exact sm_c189
  | 190, h => cases h; exact sm_c190
  | 191, h => cases h; exact sm_c191
  | 192, h => cases h; exact sm_c192
  | 193, h => cases h; exact sm_c193
  | 194, h => cases h; exact sm_c194
  | 195, h => cases h; exact sm_c195
  | 196, h => cases h; exact sm_c196
  | 197, h => cases h; exact sm_c197
  | 198, h => cases h; exact sm_c198
  | 199, h => cases h; exact sm_c199
  | 200, h => cases h; exact sm_c200
  | 201, h => cases h; exact sm_c201
  | 202, h => cases h; exact sm_c202
  | 203, h => cases h; exact sm_c203
  | 204, h => cases h; exact sm_c204
  | 205, h => cases h; exact sm_c205
  | 206, h => cases h; exact sm_c206
  | 207, h => cases h; exact sm_c207
  | 208, h => cases h; exact sm_c208
  | 209, h => cases h; exact sm_c209
  | 210, h => cases h; exact sm_c210
  | 211, h => cases h; exact sm_c211
  | 212, h => cases h; exact sm_c212
  | 213, h => cases h; exact sm_c213
  | 214, h => cases h; exact sm_c214
  | 215, h => cases h; exact sm_c215
  | 216, h => cases h; exact sm_c216
  | 217, h => cases h; exact sm_c217
  | 218, h => cases h; exact sm_c218
  | 219, h => cases h; exact sm_c219
  | 220, h => cases h; exact sm_c220
  | 221, h => cases h; exact sm_c221
  | 222, h => cases h; exact sm_c222
  | 223, h => cases h; exact sm_c223
  | 224, h => cases h; exact sm_c224
  | 225, h => cases h; exact sm_c225
  | 226, h => cases h; exact sm_c226
  | 227, h => cases h; exact sm_c227
  | 228, h => cases h; exact sm_c228
  | 229, h => cases h; exact sm_c229
  | 230, h => cases h; exact sm_c230
  | 231, h => cases h; exact sm_c231
  | 232, h => cases h; exact sm_c232
  | 233, h => cases h; exact sm_c233
  | 234, h => cases h; exact sm_c234
  | 235, h => cases h; exact sm_c235
  | 236, h => cases h; exact sm_c236
  | 237, h => cases h; exact sm_c237
  | 238, h => cases h; exact sm_c238
  | 239, h => cases h; exact sm_c239
  | 240, h => cases h; exact sm_c240
  | 241, h => cases h; exact sm_c241
  | 242, h => cases h; exact sm_c242
  | 243, h => cases h; exact sm_c243
  | 244, h => cases h; exact sm_c244
  | 245, h => cases h; exact sm_c245
  | 246, h => cases h; exact sm_c246
  | 247, h => cases h; exact sm_c247
  | 248, h => cases h; exact sm_c248
  | 249, h => cases h; exact sm_c249
  | 250, h => cases h; exact sm_c250
  | 251, h => cases h; exact sm_c251
  | 252, h => cases h; exact sm_c252
  | 253, h => cases h; exact sm_c253
  | 254, h => cases h; exact sm_c254
  | 255, h => cases h; exact sm_c255
  | 256, h => cases h; exact sm_c256
  | 257, h => cases h; exact sm_c257
  | 258, h => cases h; exact sm_c258
  | 259, h => cases h; exact sm_c259
  | 260, h => cases h; exact sm_c260
  | 261, h => cases h; exact sm_c261
  | 262, h => cases h; exact sm_c262
  | 263, h => cases h; exact sm_c263
  | 264, h => cases h; exact sm_c264
  | 265, h => cases h; exact sm_c265
  | 266, h => cases h; exact sm_c266
  | 267, h => cases h; exact sm_c267
  | 268, h => cases h; exact sm_c268
  | 269, h => cases h; exact sm_c269
  | 270, h => cases h; exact sm_c270
  | 271, h => cases h; exact sm_c271
  | 272, h => cases h; exact sm_c272
  | 273, h => cases h; exact sm_c273
  | 274, h => cases h; exact sm_c274
  | 275, h => cases h; exact sm_c275
  | 276, h => cases h; exact sm_c276
  | 277, h => cases h; exact sm_c277
  | 278, h => cases h; exact sm_c278
  | 279, h => cases h; exact sm_c279
  | 280, h => cases h; exact sm_c280
  | 281, h => cases h; exact sm_c281
  | 282, h => cases h; exact sm_c282
  | 283, h => cases h; exact sm_c283
  | 284, h => cases h; exact sm_c284
  | 285, h => cases h; exact sm_c285
  | 286, h => cases h; exact sm_c286
  | 287, h => cases h; exact sm_c287
  | a + 288, h => rw [List.getElem?_eq_none (by rw [sm_Ms_len]; exact Nat.le_add_left _ _)] at h; cases h
end
section
/-! the heap of the two objects, once they are made: where each cell lies is known; what it holds is a store of numbers -/
abbrev sU : Type := (Nat → Nat → Int32) × (Nat → Nat → Int64) × (Nat → Nat)
def sm_shape : List (Nat × Nat) := [(9, 0), (14, 8), (7, 0), (15, 8), (13, 12), (8, 0), (1, 0), (11, 12), (1, 0), (11, 12), (8, 0), (1, 0), (11, 12), (1, 0), (11, 12), (8, 0), (1, 0), (11, 12), (1, 0), (11, 12), (8, 0), (1, 0), (11, 12), (1, 0), (11, 12), (8, 0), (1, 0), (11, 12), (1, 0), (11, 12), (8, 0), (1, 0), (11, 12), (1, 0), (11, 12), (8, 0), (1, 0), (11, 12), (1, 0), (11, 12), (8, 0), (1, 0), (11, 12), (1, 0), (11, 12), (3, 0), (1, 0), (11, 12), (1, 0), (11, 12), (3, 0), (1, 0), (11, 12), (1, 0), (11, 12), (3, 0), (1, 0), (11, 12), (1, 0), (11, 12), (3, 0), (1, 0), (11, 12), (1, 0), (11, 12), (3, 0), (1, 0), (11, 12), (1, 0), (11, 12), (3, 0), (1, 0), (11, 12), (1, 0), (11, 12), (3, 0), (1, 0), (11, 12), (1, 0), (11, 12), (3, 0), (1, 0), (11, 12), (1, 0), (11, 12), (3, 0), (1, 0), (11, 12), (1, 0), (11, 12), (3, 0), (1, 0), (11, 12), (1, 0), (11, 12), (3, 0), (1, 0), (11, 12), (1, 0), (11, 12), (3, 0), (1, 0), (11, 12), (1, 0), (11, 12), (7, 0), (15, 8), (13, 12), (8, 0), (1, 0), (11, 12), (1, 0), (11, 12), (8, 0), (1, 0), (11, 12), (1, 0), (11, 12), (8, 0), (1, 0), (11, 12), (1, 0), (11, 12), (8, 0), (1, 0), (11, 12), (1, 0), (11, 12), (8, 0), (1, 0), (11, 12), (1, 0), (11, 12), (8, 0), (1, 0), (11, 12), (1, 0), (11, 12), (8, 0), (1, 0), (11, 12), (1, 0), (11, 12), (8, 0), (1, 0), (11, 12), (1, 0), (11, 12), (3, 0), (1, 0), (11, 12), (1, 0), (11, 12), (3, 0), (1, 0), (11, 12), (1, 0), (11, 12), (3, 0), (1, 0), (11, 12), (1, 0), (11, 12), (3, 0), (1, 0), (11, 12), (1, 0), (11, 12), (3, 0), (1, 0), (11, 12), (1, 0), (11, 12), (3, 0), (1, 0), (11, 12), (1, 0), (11, 12), (3, 0), (1, 0), (11, 12), (1, 0), (11, 12), (3, 0), (1, 0), (11, 12), (1, 0), (11, 12), (3, 0), (1, 0), (11, 12), (1, 0), (11, 12), (3, 0), (1, 0), (11, 12), (1, 0), (11, 12), (3, 0), (1, 0), (11, 12), (1, 0), (11, 12), (3, 0), (1, 0), (11, 12), (1, 0), (11, 12), (1, 0), (11, 8), (8, 0), (1, 0), (11, 12), (1, 0), (11, 12), (2, 0), (1, 0), (11, 64), (4, 0), (1, 0), (11, 12), (1, 0), (11, 12), (1, 0), (11, 12), (1, 0), (11, 12), (8, 0), (1, 0), (11, 12), (1, 0), (11, 12), (5, 0), (4, 0), (1, 0), (11, 12), (1, 0), (11, 12), (1, 0), (11, 12), (1, 0), (11, 12), (8, 0), (1, 0), (11, 12), (1, 0), (11, 12), (4, 0), (1, 0), (11, 12), (1, 0), (11, 12), (1, 0), (11, 12), (1, 0), (11, 12), (8, 0), (1, 0), (11, 12), (1, 0), (11, 12), (0, 0), (1, 0), (11, 20), (6, 0), (12, 64), (6, 0), (12, 64), (6, 0), (12, 64), (6, 0), (12, 64), (6, 0), (12, 64), (6, 0), (12, 64), (6, 0), (12, 64), (6, 0), (12, 64), (10, 0), (11, 8), (11, 8), (11, 8), (11, 8), (11, 8), (12, 512), (12, 64), (11, 8), (11, 8), (11, 8), (11, 8), (11, 8), (11, 8), (11, 8), (11, 8), (11, 96), (11, 96), (11, 12), (11, 12), (11, 12), (11, 144), (11, 144), (11, 12), (11, 12), (12, 12), (11, 12), (11, 12), (11, 12), (11, 12), (11, 7), (12, 12), (11, 20), (11, 724)]
def sh (a : Nat) : Nat := (sm_shape.getD a (99, 0)).1
def ln (a : Nat) : Nat := (sm_shape.getD a (99, 0)).2
def sI (U : sU) (a i : Nat) (v : Int32) : sU := (fun b j => if b = a then (if j = i then v else U.1 b j) else U.1 b j, U.2.1, U.2.2)
def sJ (U : sU) (a i : Nat) (v : Int64) : sU := (U.1, fun b j => if b = a then (if j = i then v else U.2.1 b j) else U.2.1 b j, U.2.2)
def sK (U : sU) (a t : Nat) : sU := (U.1, U.2.1, fun b => if b = a then t else U.2.2 b)
/-- the talk that a reading reads -/
def tk (U : sU) (a : Nat) : Nat := if sh (U.2.2 a) = 8 then U.2.2 a else 210
def fdU (U : sU) (a c : Nat) : List Value := match c with
  | 0 => [.ref (a + 1), .int (U.1 a 1), .int (U.1 a 2), .int (U.1 a 3), .int (U.1 a 4)]
  | 1 => [.ref (a + 1)]
  | 2 => [.ref (a + 1), .int (U.1 a 1), .int (U.1 a 2), .int (U.1 a 3), .int (U.1 a 4)]
  | 3 => [.ref (a + 1), .ref (a + 3), .int (U.1 a 2), .int (U.1 a 3), .int (U.1 a 4)]
  | 4 => [.ref (a + 1), .ref (a + 3), .ref (a + 5), .ref (a + 7), .int (U.1 a 4), .int (U.1 a 5), .ref (tk U a), .int (U.1 a 7), .int (U.1 a 8), .int (U.1 a 9), .int (U.1 a 10), .int (U.1 a 11), .int (U.1 a 12), .int (U.1 a 13), .int (U.1 a 14)]
  | 5 => [.ref (a + 1), .ref (a + 15), .long (U.2.1 a 2), .int (U.1 a 3), .int (U.1 a 4)]
  | 6 => [.ref (a + 1), .int (U.1 a 1), .int (U.1 a 2), .int (U.1 a 3), .int (U.1 a 4)]
  | 7 => [.ref (a + 1), .ref (a + 2), .int (U.1 a 2), .int (U.1 a 3)]
  | 8 => [.ref (a + 1), .ref (a + 3), .int (U.1 a 2), .int (U.1 a 3), .int (U.1 a 4), .int (U.1 a 5), .int (U.1 a 6), .int (U.1 a 7), .int (U.1 a 8), .int (U.1 a 9)]
  | 9 => [.ref (1), .ref (2), .ref (105), .int (U.1 a 3), .ref (208), .int (U.1 a 5), .ref (210), .ref (215), .ref (218), .ref (232), .ref (261)]
  | 10 => [.int (U.1 a 0), .int (U.1 a 1), .int (U.1 a 2), .ref (281), .ref (282), .ref (283), .ref (284), .ref (285), .ref (286), .ref (287), .ref (288), .ref (289), .ref (290), .ref (291), .ref (292), .ref (293), .ref (294), .ref (295), .ref (296), .ref (297), .ref (298), .ref (299), .ref (300), .ref (301), .ref (302), .int (U.1 a 25), .int (U.1 a 26), .int (U.1 a 27), .int (U.1 a 28), .int (U.1 a 29), .int (U.1 a 30), .int (U.1 a 31), .int (U.1 a 32), .int (U.1 a 33), .int (U.1 a 34), .int (U.1 a 35), .int (U.1 a 36), .int (U.1 a 37), .int (U.1 a 38), .ref (303), .ref (304), .ref (305), .ref (306), .int (U.1 a 43), .int (U.1 a 44), .ref (307), .ref (308), .ref (309), .int (U.1 a 48), .ref (310), .ref (311), .int (U.1 a 51), .ref (312), .int (U.1 a 53), .int (U.1 a 54), .int (U.1 a 55), .ref (313)]
  | _ => []
/-- the place of the i-th object in an array of references at a -/
def rfA (a c i : Nat) : Nat := match c with
  | 13 => a + 41 + 5 * i
  | 14 => 264 + 2 * i
  | _ => a + 2 + 5 * i
def ceU (U : sU) (a : Nat) (q : Nat × Nat) : va_E := match q.1 with
  | 11 => .inl (0, q.2, .inl (U.1 a))
  | 12 => .inl (1, q.2, .inr (.inl (U.2.1 a)))
  | 13 => .inl (2, q.2, .inr (.inr (.inr (.inr (fun i => if i < q.2 then some (rfA a 13 i) else none)))))
  | 14 => .inl (3, q.2, .inr (.inr (.inr (.inr (fun i => if i < q.2 then some (rfA a 14 i) else none)))))
  | 15 => .inl (4, q.2, .inr (.inr (.inr (.inr (fun i => if i < q.2 then some (rfA a 15 i) else none)))))
  | c => .inr (c, fdU U a c)
def lay (U : sU) : sm_H := sm_shape.mapIdx (fun a q => ceU U a q)
theorem lay_len (U : sU) : (lay U).length = 314 := by unfold lay; rw [List.length_mapIdx]; decide +kernel
theorem sh_at {a c : Nat} (h : sh a = c) (hc : c ≠ 99) : sm_shape[a]? = some (c, ln a) := by
  unfold sh at h
  unfold ln
  rw [List.getD_eq_getElem?_getD] at h ⊢
  cases hq : sm_shape[a]? with
  | none => rw [hq] at h; exact absurd h.symm hc
  | some q => rw [hq] at h; dsimp only [Option.getD_some] at h ⊢; rw [← h]
theorem lay_at {U : sU} {a c : Nat} (h : sh a = c) (hc : c ≠ 99) : (lay U)[a]? = some (ceU U a (c, ln a)) := by
  unfold lay
  rw [List.getElem?_mapIdx, sh_at h hc]
  rfl
theorem lay_o {U : sU} {a c : Nat} (h : sh a = c) (hc : c < 11) : (lay U)[a]? = some (.inr (c, fdU U a c)) := by
  rw [lay_at h (by omega)]
  unfold ceU
  dsimp only
  split <;> first | omega | rfl
theorem lay_set {U U1 : sU} {a c : Nat} {e : va_E} (h : sh a = c) (hc : c ≠ 99) (he : ceU U1 a (c, ln a) = e) (ho : ∀ b q, b ≠ a → ceU U1 b q = ceU U b q) : (lay U).set a e = lay U1 := by
  apply List.ext_getElem?
  intro i
  by_cases hi : i = a
  · subst hi
    rw [lay_at h hc, he, List.getElem?_set_self (by
      have := (List.getElem?_eq_some_iff.mp (lay_at (U := U) h hc)).1
      exact this)]
  · rw [List.getElem?_set_ne (fun q => hi q.symm)]
    unfold lay
    rw [List.getElem?_mapIdx, List.getElem?_mapIdx]
    cases sm_shape[i]? with
    | none => rfl
    | some q => dsimp only [Option.map_some]; rw [ho i q hi]
theorem fdU_sI {U : sU} {a b c i : Nat} {v : Int32} (h : b ≠ a) : fdU (sI U a i v) b c = fdU U b c := by
  have e : (sI U a i v).1 b = U.1 b := by funext j; exact if_neg h
  unfold fdU
  rw [e]
  rfl
theorem ceU_sI {U : sU} {a i : Nat} {v : Int32} (b : Nat) (q : Nat × Nat) (h : b ≠ a) : ceU (sI U a i v) b q = ceU U b q := by
  have e : (sI U a i v).1 b = U.1 b := by funext j; exact if_neg h
  unfold ceU
  rw [e]
  simp only [fdU_sI h]
  rfl
theorem fdU_sJ {U : sU} {a b c i : Nat} {v : Int64} (h : b ≠ a) : fdU (sJ U a i v) b c = fdU U b c := by
  have e : (sJ U a i v).2.1 b = U.2.1 b := by funext j; exact if_neg h
  unfold fdU
  rw [e]
  rfl
theorem ceU_sJ {U : sU} {a i : Nat} {v : Int64} (b : Nat) (q : Nat × Nat) (h : b ≠ a) : ceU (sJ U a i v) b q = ceU U b q := by
  have e : (sJ U a i v).2.1 b = U.2.1 b := by funext j; exact if_neg h
  unfold ceU
  rw [e]
  simp only [fdU_sJ h]
  rfl
theorem tk_sI (U : sU) (a i : Nat) (v : Int32) (b : Nat) : tk (sI U a i v) b = tk U b := rfl
theorem tk_sJ (U : sU) (a i : Nat) (v : Int64) (b : Nat) : tk (sJ U a i v) b = tk U b := rfl
theorem tk_sK {U : sU} {a b t : Nat} (h : b ≠ a) : tk (sK U a t) b = tk U b := by
  have e : (sK U a t).2.2 b = U.2.2 b := if_neg h
  unfold tk
  rw [e]
theorem tk_same {U : sU} {a t : Nat} (h : sh t = 8) : tk (sK U a t) a = t := by
  have e : (sK U a t).2.2 a = t := if_pos rfl
  unfold tk
  rw [e, if_pos h]
theorem tk_sh (U : sU) (a : Nat) : sh (tk U a) = 8 := by
  unfold tk
  split
  · assumption
  · decide +kernel
theorem fdU_sK {U : sU} {a b c t : Nat} (h : b ≠ a) : fdU (sK U a t) b c = fdU U b c := by
  unfold fdU
  rw [tk_sK h]
  rfl
theorem ceU_sK {U : sU} {a t : Nat} (b : Nat) (q : Nat × Nat) (h : b ≠ a) : ceU (sK U a t) b q = ceU U b q := by
  unfold ceU
  simp only [fdU_sK h]
  rfl
theorem fs_0_1 {U : sU} {a : Nat} {v : Int32} : fdU (sI U a 1 v) a 0 = (fdU U a 0).set 1 (.int v) := by simp only [fdU, tk_sI]; simp [sI]
theorem fs_0_2 {U : sU} {a : Nat} {v : Int32} : fdU (sI U a 2 v) a 0 = (fdU U a 0).set 2 (.int v) := by simp only [fdU, tk_sI]; simp [sI]
theorem fs_0_3 {U : sU} {a : Nat} {v : Int32} : fdU (sI U a 3 v) a 0 = (fdU U a 0).set 3 (.int v) := by simp only [fdU, tk_sI]; simp [sI]
theorem fs_0_4 {U : sU} {a : Nat} {v : Int32} : fdU (sI U a 4 v) a 0 = (fdU U a 0).set 4 (.int v) := by simp only [fdU, tk_sI]; simp [sI]
theorem fs_2_1 {U : sU} {a : Nat} {v : Int32} : fdU (sI U a 1 v) a 2 = (fdU U a 2).set 1 (.int v) := by simp only [fdU, tk_sI]; simp [sI]
theorem fs_2_2 {U : sU} {a : Nat} {v : Int32} : fdU (sI U a 2 v) a 2 = (fdU U a 2).set 2 (.int v) := by simp only [fdU, tk_sI]; simp [sI]
theorem fs_2_3 {U : sU} {a : Nat} {v : Int32} : fdU (sI U a 3 v) a 2 = (fdU U a 2).set 3 (.int v) := by simp only [fdU, tk_sI]; simp [sI]
theorem fs_2_4 {U : sU} {a : Nat} {v : Int32} : fdU (sI U a 4 v) a 2 = (fdU U a 2).set 4 (.int v) := by simp only [fdU, tk_sI]; simp [sI]
theorem fs_3_2 {U : sU} {a : Nat} {v : Int32} : fdU (sI U a 2 v) a 3 = (fdU U a 3).set 2 (.int v) := by simp only [fdU, tk_sI]; simp [sI]
theorem fs_3_3 {U : sU} {a : Nat} {v : Int32} : fdU (sI U a 3 v) a 3 = (fdU U a 3).set 3 (.int v) := by simp only [fdU, tk_sI]; simp [sI]
theorem fs_3_4 {U : sU} {a : Nat} {v : Int32} : fdU (sI U a 4 v) a 3 = (fdU U a 3).set 4 (.int v) := by simp only [fdU, tk_sI]; simp [sI]
theorem fs_4_4 {U : sU} {a : Nat} {v : Int32} : fdU (sI U a 4 v) a 4 = (fdU U a 4).set 4 (.int v) := by simp only [fdU, tk_sI]; simp [sI]
theorem fs_4_5 {U : sU} {a : Nat} {v : Int32} : fdU (sI U a 5 v) a 4 = (fdU U a 4).set 5 (.int v) := by simp only [fdU, tk_sI]; simp [sI]
theorem fs_4_7 {U : sU} {a : Nat} {v : Int32} : fdU (sI U a 7 v) a 4 = (fdU U a 4).set 7 (.int v) := by simp only [fdU, tk_sI]; simp [sI]
theorem fs_4_8 {U : sU} {a : Nat} {v : Int32} : fdU (sI U a 8 v) a 4 = (fdU U a 4).set 8 (.int v) := by simp only [fdU, tk_sI]; simp [sI]
theorem fs_4_9 {U : sU} {a : Nat} {v : Int32} : fdU (sI U a 9 v) a 4 = (fdU U a 4).set 9 (.int v) := by simp only [fdU, tk_sI]; simp [sI]
theorem fs_4_10 {U : sU} {a : Nat} {v : Int32} : fdU (sI U a 10 v) a 4 = (fdU U a 4).set 10 (.int v) := by simp only [fdU, tk_sI]; simp [sI]
theorem fs_4_11 {U : sU} {a : Nat} {v : Int32} : fdU (sI U a 11 v) a 4 = (fdU U a 4).set 11 (.int v) := by simp only [fdU, tk_sI]; simp [sI]
theorem fs_4_12 {U : sU} {a : Nat} {v : Int32} : fdU (sI U a 12 v) a 4 = (fdU U a 4).set 12 (.int v) := by simp only [fdU, tk_sI]; simp [sI]
theorem fs_4_13 {U : sU} {a : Nat} {v : Int32} : fdU (sI U a 13 v) a 4 = (fdU U a 4).set 13 (.int v) := by simp only [fdU, tk_sI]; simp [sI]
theorem fs_4_14 {U : sU} {a : Nat} {v : Int32} : fdU (sI U a 14 v) a 4 = (fdU U a 4).set 14 (.int v) := by simp only [fdU, tk_sI]; simp [sI]
theorem fs_5_2 {U : sU} {a : Nat} {v : Int64} : fdU (sJ U a 2 v) a 5 = (fdU U a 5).set 2 (.long v) := by simp only [fdU, tk_sJ]; simp [sJ]
theorem fs_5_3 {U : sU} {a : Nat} {v : Int32} : fdU (sI U a 3 v) a 5 = (fdU U a 5).set 3 (.int v) := by simp only [fdU, tk_sI]; simp [sI]
theorem fs_5_4 {U : sU} {a : Nat} {v : Int32} : fdU (sI U a 4 v) a 5 = (fdU U a 5).set 4 (.int v) := by simp only [fdU, tk_sI]; simp [sI]
theorem fs_6_1 {U : sU} {a : Nat} {v : Int32} : fdU (sI U a 1 v) a 6 = (fdU U a 6).set 1 (.int v) := by simp only [fdU, tk_sI]; simp [sI]
theorem fs_6_2 {U : sU} {a : Nat} {v : Int32} : fdU (sI U a 2 v) a 6 = (fdU U a 6).set 2 (.int v) := by simp only [fdU, tk_sI]; simp [sI]
theorem fs_6_3 {U : sU} {a : Nat} {v : Int32} : fdU (sI U a 3 v) a 6 = (fdU U a 6).set 3 (.int v) := by simp only [fdU, tk_sI]; simp [sI]
theorem fs_6_4 {U : sU} {a : Nat} {v : Int32} : fdU (sI U a 4 v) a 6 = (fdU U a 6).set 4 (.int v) := by simp only [fdU, tk_sI]; simp [sI]
theorem fs_7_2 {U : sU} {a : Nat} {v : Int32} : fdU (sI U a 2 v) a 7 = (fdU U a 7).set 2 (.int v) := by simp only [fdU, tk_sI]; simp [sI]
theorem fs_7_3 {U : sU} {a : Nat} {v : Int32} : fdU (sI U a 3 v) a 7 = (fdU U a 7).set 3 (.int v) := by simp only [fdU, tk_sI]; simp [sI]
theorem fs_8_2 {U : sU} {a : Nat} {v : Int32} : fdU (sI U a 2 v) a 8 = (fdU U a 8).set 2 (.int v) := by simp only [fdU, tk_sI]; simp [sI]
theorem fs_8_3 {U : sU} {a : Nat} {v : Int32} : fdU (sI U a 3 v) a 8 = (fdU U a 8).set 3 (.int v) := by simp only [fdU, tk_sI]; simp [sI]
theorem fs_8_4 {U : sU} {a : Nat} {v : Int32} : fdU (sI U a 4 v) a 8 = (fdU U a 8).set 4 (.int v) := by simp only [fdU, tk_sI]; simp [sI]
theorem fs_8_5 {U : sU} {a : Nat} {v : Int32} : fdU (sI U a 5 v) a 8 = (fdU U a 8).set 5 (.int v) := by simp only [fdU, tk_sI]; simp [sI]
theorem fs_8_6 {U : sU} {a : Nat} {v : Int32} : fdU (sI U a 6 v) a 8 = (fdU U a 8).set 6 (.int v) := by simp only [fdU, tk_sI]; simp [sI]
theorem fs_8_7 {U : sU} {a : Nat} {v : Int32} : fdU (sI U a 7 v) a 8 = (fdU U a 8).set 7 (.int v) := by simp only [fdU, tk_sI]; simp [sI]
theorem fs_8_8 {U : sU} {a : Nat} {v : Int32} : fdU (sI U a 8 v) a 8 = (fdU U a 8).set 8 (.int v) := by simp only [fdU, tk_sI]; simp [sI]
theorem fs_8_9 {U : sU} {a : Nat} {v : Int32} : fdU (sI U a 9 v) a 8 = (fdU U a 8).set 9 (.int v) := by simp only [fdU, tk_sI]; simp [sI]
theorem fs_9_3 {U : sU} {a : Nat} {v : Int32} : fdU (sI U a 3 v) a 9 = (fdU U a 9).set 3 (.int v) := by simp only [fdU, tk_sI]; simp [sI]
theorem fs_9_5 {U : sU} {a : Nat} {v : Int32} : fdU (sI U a 5 v) a 9 = (fdU U a 9).set 5 (.int v) := by simp only [fdU, tk_sI]; simp [sI]
theorem fs_10_0 {U : sU} {a : Nat} {v : Int32} : fdU (sI U a 0 v) a 10 = (fdU U a 10).set 0 (.int v) := by simp only [fdU, tk_sI]; simp [sI]
theorem fs_10_1 {U : sU} {a : Nat} {v : Int32} : fdU (sI U a 1 v) a 10 = (fdU U a 10).set 1 (.int v) := by simp only [fdU, tk_sI]; simp [sI]
theorem fs_10_2 {U : sU} {a : Nat} {v : Int32} : fdU (sI U a 2 v) a 10 = (fdU U a 10).set 2 (.int v) := by simp only [fdU, tk_sI]; simp [sI]
theorem fs_10_25 {U : sU} {a : Nat} {v : Int32} : fdU (sI U a 25 v) a 10 = (fdU U a 10).set 25 (.int v) := by simp only [fdU, tk_sI]; simp [sI]
theorem fs_10_26 {U : sU} {a : Nat} {v : Int32} : fdU (sI U a 26 v) a 10 = (fdU U a 10).set 26 (.int v) := by simp only [fdU, tk_sI]; simp [sI]
theorem fs_10_27 {U : sU} {a : Nat} {v : Int32} : fdU (sI U a 27 v) a 10 = (fdU U a 10).set 27 (.int v) := by simp only [fdU, tk_sI]; simp [sI]
theorem fs_10_28 {U : sU} {a : Nat} {v : Int32} : fdU (sI U a 28 v) a 10 = (fdU U a 10).set 28 (.int v) := by simp only [fdU, tk_sI]; simp [sI]
theorem fs_10_29 {U : sU} {a : Nat} {v : Int32} : fdU (sI U a 29 v) a 10 = (fdU U a 10).set 29 (.int v) := by simp only [fdU, tk_sI]; simp [sI]
theorem fs_10_30 {U : sU} {a : Nat} {v : Int32} : fdU (sI U a 30 v) a 10 = (fdU U a 10).set 30 (.int v) := by simp only [fdU, tk_sI]; simp [sI]
theorem fs_10_31 {U : sU} {a : Nat} {v : Int32} : fdU (sI U a 31 v) a 10 = (fdU U a 10).set 31 (.int v) := by simp only [fdU, tk_sI]; simp [sI]
theorem fs_10_32 {U : sU} {a : Nat} {v : Int32} : fdU (sI U a 32 v) a 10 = (fdU U a 10).set 32 (.int v) := by simp only [fdU, tk_sI]; simp [sI]
theorem fs_10_33 {U : sU} {a : Nat} {v : Int32} : fdU (sI U a 33 v) a 10 = (fdU U a 10).set 33 (.int v) := by simp only [fdU, tk_sI]; simp [sI]
theorem fs_10_34 {U : sU} {a : Nat} {v : Int32} : fdU (sI U a 34 v) a 10 = (fdU U a 10).set 34 (.int v) := by simp only [fdU, tk_sI]; simp [sI]
theorem fs_10_35 {U : sU} {a : Nat} {v : Int32} : fdU (sI U a 35 v) a 10 = (fdU U a 10).set 35 (.int v) := by simp only [fdU, tk_sI]; simp [sI]
theorem fs_10_36 {U : sU} {a : Nat} {v : Int32} : fdU (sI U a 36 v) a 10 = (fdU U a 10).set 36 (.int v) := by simp only [fdU, tk_sI]; simp [sI]
theorem fs_10_37 {U : sU} {a : Nat} {v : Int32} : fdU (sI U a 37 v) a 10 = (fdU U a 10).set 37 (.int v) := by simp only [fdU, tk_sI]; simp [sI]
theorem fs_10_38 {U : sU} {a : Nat} {v : Int32} : fdU (sI U a 38 v) a 10 = (fdU U a 10).set 38 (.int v) := by simp only [fdU, tk_sI]; simp [sI]
theorem fs_10_43 {U : sU} {a : Nat} {v : Int32} : fdU (sI U a 43 v) a 10 = (fdU U a 10).set 43 (.int v) := by simp only [fdU, tk_sI]; simp [sI]
theorem fs_10_44 {U : sU} {a : Nat} {v : Int32} : fdU (sI U a 44 v) a 10 = (fdU U a 10).set 44 (.int v) := by simp only [fdU, tk_sI]; simp [sI]
theorem fs_10_48 {U : sU} {a : Nat} {v : Int32} : fdU (sI U a 48 v) a 10 = (fdU U a 10).set 48 (.int v) := by simp only [fdU, tk_sI]; simp [sI]
theorem fs_10_51 {U : sU} {a : Nat} {v : Int32} : fdU (sI U a 51 v) a 10 = (fdU U a 10).set 51 (.int v) := by simp only [fdU, tk_sI]; simp [sI]
theorem fs_10_53 {U : sU} {a : Nat} {v : Int32} : fdU (sI U a 53 v) a 10 = (fdU U a 10).set 53 (.int v) := by simp only [fdU, tk_sI]; simp [sI]
theorem fs_10_54 {U : sU} {a : Nat} {v : Int32} : fdU (sI U a 54 v) a 10 = (fdU U a 10).set 54 (.int v) := by simp only [fdU, tk_sI]; simp [sI]
theorem fs_10_55 {U : sU} {a : Nat} {v : Int32} : fdU (sI U a 55 v) a 10 = (fdU U a 10).set 55 (.int v) := by simp only [fdU, tk_sI]; simp [sI]
theorem fs_4_6 {U : sU} {a t : Nat} (h : sh t = 8) : fdU (sK U a t) a 4 = (fdU U a 4).set 6 (.ref t) := by
  have e := tk_same (U := U) (a := a) h
  simp [fdU, e]
  simp [sK]
theorem sm_shape_len : sm_shape.length = 314 := by decide +kernel
theorem sh_lt {a c : Nat} (h : sh a = c) (hc : c ≠ 99) : a < 314 := by
  have := (List.getElem?_eq_some_iff.mp (sh_at h hc)).1
  rw [sm_shape_len] at this
  exact this
theorem sh_0_1 {a : Nat} (h : sh a = 0) : sh (a + 1) = 1 := (by decide +kernel : ∀ a, a < 314 → sh a = 0 → sh (a + 1) = 1) a (sh_lt h (by decide)) h
theorem sh_1_1 {a : Nat} (h : sh a = 1) : sh (a + 1) = 11 := (by decide +kernel : ∀ a, a < 314 → sh a = 1 → sh (a + 1) = 11) a (sh_lt h (by decide)) h
theorem sh_2_1 {a : Nat} (h : sh a = 2) : sh (a + 1) = 1 := (by decide +kernel : ∀ a, a < 314 → sh a = 2 → sh (a + 1) = 1) a (sh_lt h (by decide)) h
theorem sh_3_1 {a : Nat} (h : sh a = 3) : sh (a + 1) = 1 := (by decide +kernel : ∀ a, a < 314 → sh a = 3 → sh (a + 1) = 1) a (sh_lt h (by decide)) h
theorem sh_3_3 {a : Nat} (h : sh a = 3) : sh (a + 3) = 1 := (by decide +kernel : ∀ a, a < 314 → sh a = 3 → sh (a + 3) = 1) a (sh_lt h (by decide)) h
theorem sh_4_1 {a : Nat} (h : sh a = 4) : sh (a + 1) = 1 := (by decide +kernel : ∀ a, a < 314 → sh a = 4 → sh (a + 1) = 1) a (sh_lt h (by decide)) h
theorem sh_4_3 {a : Nat} (h : sh a = 4) : sh (a + 3) = 1 := (by decide +kernel : ∀ a, a < 314 → sh a = 4 → sh (a + 3) = 1) a (sh_lt h (by decide)) h
theorem sh_4_5 {a : Nat} (h : sh a = 4) : sh (a + 5) = 1 := (by decide +kernel : ∀ a, a < 314 → sh a = 4 → sh (a + 5) = 1) a (sh_lt h (by decide)) h
theorem sh_4_7 {a : Nat} (h : sh a = 4) : sh (a + 7) = 1 := (by decide +kernel : ∀ a, a < 314 → sh a = 4 → sh (a + 7) = 1) a (sh_lt h (by decide)) h
theorem sh_5_1 {a : Nat} (h : sh a = 5) : sh (a + 1) = 4 := (by decide +kernel : ∀ a, a < 314 → sh a = 5 → sh (a + 1) = 4) a (sh_lt h (by decide)) h
theorem sh_5_15 {a : Nat} (h : sh a = 5) : sh (a + 15) = 4 := (by decide +kernel : ∀ a, a < 314 → sh a = 5 → sh (a + 15) = 4) a (sh_lt h (by decide)) h
theorem sh_6_1 {a : Nat} (h : sh a = 6) : sh (a + 1) = 12 := (by decide +kernel : ∀ a, a < 314 → sh a = 6 → sh (a + 1) = 12) a (sh_lt h (by decide)) h
theorem sh_7_1 {a : Nat} (h : sh a = 7) : sh (a + 1) = 15 := (by decide +kernel : ∀ a, a < 314 → sh a = 7 → sh (a + 1) = 15) a (sh_lt h (by decide)) h
theorem sh_7_2 {a : Nat} (h : sh a = 7) : sh (a + 2) = 13 := (by decide +kernel : ∀ a, a < 314 → sh a = 7 → sh (a + 2) = 13) a (sh_lt h (by decide)) h
theorem sh_8_1 {a : Nat} (h : sh a = 8) : sh (a + 1) = 1 := (by decide +kernel : ∀ a, a < 314 → sh a = 8 → sh (a + 1) = 1) a (sh_lt h (by decide)) h
theorem sh_8_3 {a : Nat} (h : sh a = 8) : sh (a + 3) = 1 := (by decide +kernel : ∀ a, a < 314 → sh a = 8 → sh (a + 3) = 1) a (sh_lt h (by decide)) h
end
section
/-! a run of the small machine over the store; rows for its instructions -/
/-- what the locals lv say stands in X -/
def Sub (lv X : sm_L) : Prop := ∀ q ∈ lv, sm_ld X q.1 = some q.2
theorem Sn (X : sm_L) : Sub [] X := fun q h => by cases h
theorem Sc {i : Nat} {v : Value} {r X : sm_L} (h : sm_ld X i = some v) (k : Sub r X) : Sub ((i, v) :: r) X := by
  intro q hq
  rcases List.mem_cons.mp hq with rfl | hq
  · exact h
  · exact k q hq
theorem Sub.ld {lv X : sm_L} (h : Sub lv X) {i : Nat} {v : Value} (hl : sm_ld lv i = some v) : sm_ld X i = some v := h _ (sm_ld_mem hl)
theorem Sub.tr {a b c : sm_L} (h : Sub a b) (k : Sub b c) : Sub a c := fun q hq => k.ld (h q hq)
theorem sm_ld_filter {f : Nat × Value → Bool} {k : Nat} {v : Value} (hf : f (k, v) = true) : ∀ {lv : sm_L}, sm_ld lv k = some v → sm_ld (lv.filter f) k = some v := by
  intro lv
  induction lv with
  | nil => intro h; cases h
  | cons q r ih =>
    intro h
    unfold sm_ld at h
    split at h
    · rename_i hq
      obtain ⟨a, b⟩ := q
      cases h
      dsimp only at hq
      subst hq
      rw [List.filter_cons, if_pos hf]
      unfold sm_ld
      rw [if_pos rfl]
    · rename_i hq
      rw [List.filter_cons]
      split
      · unfold sm_ld
        rw [if_neg hq]
        exact ih h
      · exact ih h
theorem Sub.st1 {lv X : sm_L} (h : Sub lv X) (i : Nat) (v : Value) : Sub (sm_st1 lv i v) (sm_st1 X i v) := by
  intro q hq
  unfold sm_st1 at hq ⊢
  rcases List.mem_cons.mp hq with rfl | hq
  · unfold sm_ld; rw [if_pos rfl]
  · obtain ⟨h1, h2⟩ := List.mem_filter.mp hq
    have hne : ¬ i = q.1 := by
      intro e
      simp [e] at h2
    unfold sm_ld
    rw [if_neg hne]
    exact sm_ld_filter h2 (h q h1)
theorem Sub.st2 {lv X : sm_L} (h : Sub lv X) (i : Nat) (v : Value) : Sub (sm_st2 lv i v) (sm_st2 X i v) := by
  intro q hq
  unfold sm_st2 at hq ⊢
  rcases List.mem_cons.mp hq with rfl | hq
  · unfold sm_ld; rw [if_pos rfl]
  · obtain ⟨h1, h2⟩ := List.mem_filter.mp hq
    have hne : ¬ i = q.1 := by
      intro e
      simp [e] at h2
    unfold sm_ld
    rw [if_neg hne]
    exact sm_ld_filter h2 (h q h1)
def G (d : Nat) (I : sm_I) (pc : Nat) (lv : sm_L) (st : List Value) (U : sU) (r : Option Value) (U' : sU) : Prop := ∀ X, Sub lv X → ∃ n, sm_run sm_M n d I pc X st (lay U) = some (r, lay U')
def Rn (d : Nat) (J : sm_I) (as : List Value) (U : sU) (r : Option Value) (U' : sU) : Prop := sm_cat as ≤ J.2.2.1 ∧ ∃ n, sm_run sm_M n d J 0 (lv_args 0 as) [] (lay U) = some (r, lay U')
abbrev ib (i : Int32) (n : Nat) : Prop := ¬ (i < 0 ∨ n ≤ i.toNatClampNeg)
section GR
variable {d : Nat} {I : sm_I} {pc : Nat} {lv : sm_L} {st : List Value} {U U' : sU} {r : Option Value}
theorem Rn_of {J : sm_I} {as : List Value} (lv : sm_L) (hc : sm_cat as ≤ J.2.2.1) (hs : Sub lv (lv_args 0 as)) (h : G d J 0 lv [] U r U') : Rn d J as U r U' := ⟨hc, h _ hs⟩
/-- fewer locals, in another order -/
theorem g_sub {lv' : sm_L} (hs : Sub lv' lv) (h : G d I pc lv' st U r U') : G d I pc lv st U r U' := fun X hX => h X (hs.tr hX)
theorem g_U {U1 : sU} (e : U = U1) (h : G d I pc lv st U1 r U') : G d I pc lv st U r U' := by rw [e]; exact h
theorem g_p {w : sm_E} {q : Nat} {lv' : sm_L} {st' : List Value} (hw : I.2.2.2.2[pc]? = some (some w)) (hp : ∀ X, Sub lv X → ∃ X', sm_p w I.2.2.1 pc X st = some (q, X', st') ∧ Sub lv' X') (K : G d I q lv' st' U r U') : G d I pc lv st U r U' := by
  intro X hX
  obtain ⟨X', h1, h2⟩ := hp X hX
  obtain ⟨n, hn⟩ := K X' h2
  exact ⟨n + 1, by unfold sm_run; rw [hw]; dsimp only; rw [h1]; exact hn⟩
theorem g_h {w : sm_E} {k : Nat} {st' : List Value} {U1 : sU} (hw : I.2.2.2.2[pc]? = some (some w)) (hn : ∀ X, sm_p w I.2.2.1 pc X st = none) (hh : sm_h w st (lay U) = some (k, st', lay U1)) (K : G d I (pc + k) lv st' U1 r U') : G d I pc lv st U r U' := by
  intro X hX
  obtain ⟨n, hn'⟩ := K X hX
  exact ⟨n + 1, by unfold sm_run; rw [hw]; dsimp only; rw [hn X]; dsimp only; rw [hh]; dsimp only; exact hn'⟩
theorem g_k {w : sm_E} {k : Nat} {st' : List Value} {U1 : sU} (hw : I.2.2.2.2[pc]? = some (some w)) (hn : ∀ X, sm_p w I.2.2.1 pc X st = none) (hn2 : sm_h w st (lay U) = none) (hh : sm_k w d st (lay U) = some (k, st', lay U1)) (K : G d I (pc + k) lv st' U1 r U') : G d I pc lv st U r U' := by
  intro X hX
  obtain ⟨n, hn'⟩ := K X hX
  exact ⟨n + 1, by unfold sm_run; rw [hw]; dsimp only; rw [hn X]; dsimp only; rw [hn2]; dsimp only; rw [hh]; dsimp only; exact hn'⟩
theorem g_x {w : sm_E} {st' : List Value} (hw : I.2.2.2.2[pc]? = some (some w)) (hn : ∀ X, sm_p w I.2.2.1 pc X st = none) (hn2 : sm_h w st (lay U) = none) (hn3 : sm_k w d st (lay U) = none) (hh : sm_x w d st = some st') (K : G d I (pc + 3) lv st' U r U') : G d I pc lv st U r U' := by
  intro X hX
  obtain ⟨n, hn'⟩ := K X hX
  exact ⟨n + 1, by unfold sm_run; rw [hw]; dsimp only; rw [hn X]; dsimp only; rw [hn2]; dsimp only; rw [hn3]; dsimp only; rw [hh]; dsimp only; exact hn'⟩
theorem g_r {w : sm_E} (hw : I.2.2.2.2[pc]? = some (some w)) (hn : ∀ X, sm_p w I.2.2.1 pc X st = none) (hn2 : sm_h w st (lay U) = none) (hn3 : sm_k w d st (lay U) = none) (hn4 : sm_x w d st = none) (hh : sm_rt w I.2.2.2.1 st = some r) : G d I pc lv st U r U := by
  intro X hX
  exact ⟨1, by unfold sm_run; rw [hw]; dsimp only; rw [hn X]; dsimp only; rw [hn2]; dsimp only; rw [hn3]; dsimp only; rw [hn4]; dsimp only; rw [hh]⟩
theorem g_c {w : sm_E} {J : sm_I} {y : Nat} {as rest : List Value} {rv : Option Value} {U1 : sU} (hw : I.2.2.2.2[pc]? = some (some w)) (hn : ∀ X, sm_p w I.2.2.1 pc X st = none) (hn2 : sm_h w st (lay U) = none) (hn3 : sm_k w (d + 1) st (lay U) = none) (hn4 : sm_x w (d + 1) st = none) (hn5 : sm_rt w I.2.2.2.1 st = none) (hc : sm_cl w st (lay U) = some (y, as, rest)) (hJ : sm_M y = some J)
    (run : Rn d J as U rv U1) (K : G (d + 1) I (pc + 3) lv (rv.toList ++ rest) U1 r U') : G (d + 1) I pc lv st U r U' := by
  intro X hX
  obtain ⟨n, hn'⟩ := K X hX
  obtain ⟨hcat, k, hk⟩ := run
  refine ⟨n + k + 1, ?_⟩
  unfold sm_run
  rw [hw]; dsimp only; rw [hn X]; dsimp only; rw [hn2]; dsimp only; rw [hn3]; dsimp only; rw [hn4]; dsimp only; rw [hn5]; dsimp only; rw [hc]; dsimp only; rw [hJ]; dsimp only
  rw [if_pos hcat, sm_run_le _ (Nat.le_add_left k n) hk]
  dsimp only
  exact sm_run_le _ (Nat.le_add_right n k) hn' 
theorem g_iload_n {n : Fin 4} {x : Int32} {w1 w2 w3 : Nat} (q : Nat) (hw : I.2.2.2.2[pc]? = some (some (.iload_n n, w1, w2, w3))) (hl : sm_ld lv n.val = some (.int x)) (hq : pc + 1 = q) (K : G d I q lv (.int x :: st) U r U') : G d I pc lv st U r U' := by
  subst hq
  exact g_p hw (fun X hX => ⟨X, by unfold sm_p sm_lod; dsimp only; rw [hX.ld hl]; rfl, hX⟩) K
theorem g_iload {n : Nat} {x : Int32} {w1 w2 w3 : Nat} (q : Nat) (hw : I.2.2.2.2[pc]? = some (some (.iload n, w1, w2, w3))) (hl : sm_ld lv n = some (.int x)) (hq : pc + 2 = q) (K : G d I q lv (.int x :: st) U r U') : G d I pc lv st U r U' := by
  subst hq
  exact g_p hw (fun X hX => ⟨X, by unfold sm_p sm_lod; dsimp only; rw [hX.ld hl]; rfl, hX⟩) K
theorem g_lload_n {n : Fin 4} {x : Int64} {w1 w2 w3 : Nat} (q : Nat) (hw : I.2.2.2.2[pc]? = some (some (.lload_n n, w1, w2, w3))) (hl : sm_ld lv n.val = some (.long x)) (hq : pc + 1 = q) (K : G d I q lv (.long x :: st) U r U') : G d I pc lv st U r U' := by
  subst hq
  exact g_p hw (fun X hX => ⟨X, by unfold sm_p sm_lod; dsimp only; rw [hX.ld hl]; rfl, hX⟩) K
theorem g_lload {n : Nat} {x : Int64} {w1 w2 w3 : Nat} (q : Nat) (hw : I.2.2.2.2[pc]? = some (some (.lload n, w1, w2, w3))) (hl : sm_ld lv n = some (.long x)) (hq : pc + 2 = q) (K : G d I q lv (.long x :: st) U r U') : G d I pc lv st U r U' := by
  subst hq
  exact g_p hw (fun X hX => ⟨X, by unfold sm_p sm_lod; dsimp only; rw [hX.ld hl]; rfl, hX⟩) K
theorem g_aload_n {n : Fin 4} {x : Nat} {w1 w2 w3 : Nat} (q : Nat) (hw : I.2.2.2.2[pc]? = some (some (.aload_n n, w1, w2, w3))) (hl : sm_ld lv n.val = some (.ref x)) (hq : pc + 1 = q) (K : G d I q lv (.ref x :: st) U r U') : G d I pc lv st U r U' := by
  subst hq
  exact g_p hw (fun X hX => ⟨X, by unfold sm_p sm_lod; dsimp only; rw [hX.ld hl]; rfl, hX⟩) K
theorem g_aload {n : Nat} {x : Nat} {w1 w2 w3 : Nat} (q : Nat) (hw : I.2.2.2.2[pc]? = some (some (.aload n, w1, w2, w3))) (hl : sm_ld lv n = some (.ref x)) (hq : pc + 2 = q) (K : G d I q lv (.ref x :: st) U r U') : G d I pc lv st U r U' := by
  subst hq
  exact g_p hw (fun X hX => ⟨X, by unfold sm_p sm_lod; dsimp only; rw [hX.ld hl]; rfl, hX⟩) K
theorem g_aload_nq {n : Fin 4} {x : Option Nat} {w1 w2 w3 : Nat} (q : Nat) (hw : I.2.2.2.2[pc]? = some (some (.aload_n n, w1, w2, w3))) (hl : sm_ld lv n.val = some (va_rf x)) (hq : pc + 1 = q) (K : G d I q lv (va_rf x :: st) U r U') : G d I pc lv st U r U' := by
  subst hq
  refine g_p hw (fun X hX => ⟨X, ?_, hX⟩) K
  unfold sm_p sm_lod
  dsimp only
  rw [hX.ld hl]
  cases x <;> rfl
theorem g_aloadq {n : Nat} {x : Option Nat} {w1 w2 w3 : Nat} (q : Nat) (hw : I.2.2.2.2[pc]? = some (some (.aload n, w1, w2, w3))) (hl : sm_ld lv n = some (va_rf x)) (hq : pc + 2 = q) (K : G d I q lv (va_rf x :: st) U r U') : G d I pc lv st U r U' := by
  subst hq
  refine g_p hw (fun X hX => ⟨X, ?_, hX⟩) K
  unfold sm_p sm_lod
  dsimp only
  rw [hX.ld hl]
  cases x <;> rfl
theorem g_istore_n {n : Fin 4} {x : Int32} {w1 w2 w3 : Nat} (q : Nat) (lv' : sm_L) (hw : I.2.2.2.2[pc]? = some (some (.istore_n n, w1, w2, w3))) (hn : n.val < I.2.2.1) (hv : sm_st1 lv n.val (.int x) = lv') (hq : pc + 1 = q) (K : G d I q lv' st U r U') : G d I pc lv (.int x :: st) U r U' := by
  subst hq
  subst hv
  refine g_p hw (fun X hX => ⟨sm_st1 X n.val (.int x), ?_, hX.st1 n.val (.int x)⟩) K
  unfold sm_p sm_sto
  dsimp only
  rw [if_pos ⟨rfl, hn⟩]
theorem g_istore {n : Nat} {x : Int32} {w1 w2 w3 : Nat} (q : Nat) (lv' : sm_L) (hw : I.2.2.2.2[pc]? = some (some (.istore n, w1, w2, w3))) (hn : n < I.2.2.1) (hv : sm_st1 lv n (.int x) = lv') (hq : pc + 2 = q) (K : G d I q lv' st U r U') : G d I pc lv (.int x :: st) U r U' := by
  subst hq
  subst hv
  refine g_p hw (fun X hX => ⟨sm_st1 X n (.int x), ?_, hX.st1 n (.int x)⟩) K
  unfold sm_p sm_sto
  dsimp only
  rw [if_pos ⟨rfl, hn⟩]
theorem g_lstore_n {n : Fin 4} {x : Int64} {w1 w2 w3 : Nat} (q : Nat) (lv' : sm_L) (hw : I.2.2.2.2[pc]? = some (some (.lstore_n n, w1, w2, w3))) (hn : n.val + 1 < I.2.2.1) (hv : sm_st2 lv n.val (.long x) = lv') (hq : pc + 1 = q) (K : G d I q lv' st U r U') : G d I pc lv (.long x :: st) U r U' := by
  subst hq
  subst hv
  refine g_p hw (fun X hX => ⟨sm_st2 X n.val (.long x), ?_, hX.st2 n.val (.long x)⟩) K
  unfold sm_p sm_sto
  dsimp only
  rw [if_pos ⟨rfl, hn⟩]
theorem g_lstore {n : Nat} {x : Int64} {w1 w2 w3 : Nat} (q : Nat) (lv' : sm_L) (hw : I.2.2.2.2[pc]? = some (some (.lstore n, w1, w2, w3))) (hn : n + 1 < I.2.2.1) (hv : sm_st2 lv n (.long x) = lv') (hq : pc + 2 = q) (K : G d I q lv' st U r U') : G d I pc lv (.long x :: st) U r U' := by
  subst hq
  subst hv
  refine g_p hw (fun X hX => ⟨sm_st2 X n (.long x), ?_, hX.st2 n (.long x)⟩) K
  unfold sm_p sm_sto
  dsimp only
  rw [if_pos ⟨rfl, hn⟩]
theorem g_astore_n {n : Fin 4} {x : Nat} {w1 w2 w3 : Nat} (q : Nat) (lv' : sm_L) (hw : I.2.2.2.2[pc]? = some (some (.astore_n n, w1, w2, w3))) (hn : n.val < I.2.2.1) (hv : sm_st1 lv n.val (.ref x) = lv') (hq : pc + 1 = q) (K : G d I q lv' st U r U') : G d I pc lv (.ref x :: st) U r U' := by
  subst hq
  subst hv
  refine g_p hw (fun X hX => ⟨sm_st1 X n.val (.ref x), ?_, hX.st1 n.val (.ref x)⟩) K
  unfold sm_p sm_sto
  dsimp only
  rw [if_pos ⟨rfl, hn⟩]
theorem g_astore {n : Nat} {x : Nat} {w1 w2 w3 : Nat} (q : Nat) (lv' : sm_L) (hw : I.2.2.2.2[pc]? = some (some (.astore n, w1, w2, w3))) (hn : n < I.2.2.1) (hv : sm_st1 lv n (.ref x) = lv') (hq : pc + 2 = q) (K : G d I q lv' st U r U') : G d I pc lv (.ref x :: st) U r U' := by
  subst hq
  subst hv
  refine g_p hw (fun X hX => ⟨sm_st1 X n (.ref x), ?_, hX.st1 n (.ref x)⟩) K
  unfold sm_p sm_sto
  dsimp only
  rw [if_pos ⟨rfl, hn⟩]
/-- storing a reference or null -/
def sm_L1q (lv : sm_L) (i : Nat) (x : Option Nat) : sm_L := (i, va_rf x) :: lv.filter (fun q => !(q.1 == i) && !(q.1 + 1 == i && q.2.category == 2))
theorem sm_L1q_eq (lv : sm_L) (i : Nat) (x : Option Nat) : sm_L1q lv i x = sm_st1 lv i (va_rf x) := rfl
theorem g_astore_nq {n : Fin 4} {x : Option Nat} {w1 w2 w3 : Nat} (q : Nat) (lv' : sm_L) (hw : I.2.2.2.2[pc]? = some (some (.astore_n n, w1, w2, w3))) (hn : n.val < I.2.2.1) (hv : sm_L1q lv n.val x = lv') (hq : pc + 1 = q) (K : G d I q lv' st U r U') : G d I pc lv (va_rf x :: st) U r U' := by
  subst hq
  subst hv
  have K := (sm_L1q_eq lv n.val x) ▸ K
  refine g_p hw (fun X hX => ⟨sm_st1 X n.val (va_rf x), ?_, hX.st1 n.val (va_rf x)⟩) K
  unfold sm_p sm_sto
  dsimp only
  cases x <;> exact if_pos ⟨rfl, hn⟩
theorem g_astoreq {n : Nat} {x : Option Nat} {w1 w2 w3 : Nat} (q : Nat) (lv' : sm_L) (hw : I.2.2.2.2[pc]? = some (some (.astore n, w1, w2, w3))) (hn : n < I.2.2.1) (hv : sm_L1q lv n x = lv') (hq : pc + 2 = q) (K : G d I q lv' st U r U') : G d I pc lv (va_rf x :: st) U r U' := by
  subst hq
  subst hv
  have K := (sm_L1q_eq lv n x) ▸ K
  refine g_p hw (fun X hX => ⟨sm_st1 X n (va_rf x), ?_, hX.st1 n (va_rf x)⟩) K
  unfold sm_p sm_sto
  dsimp only
  cases x <;> exact if_pos ⟨rfl, hn⟩
theorem g_iconst {n : Int} {v : Int32} {w1 w2 w3 : Nat} (q : Nat) (hw : I.2.2.2.2[pc]? = some (some (.iconst n, w1, w2, w3))) (hv : Int32.ofInt n = v) (hq : pc + 1 = q) (K : G d I q lv (.int v :: st) U r U') : G d I pc lv st U r U' := by
  subst hq
  exact g_p hw (fun X hX => ⟨X, by rw [← hv]; rfl, hX⟩) K
theorem g_bipush {n : Int} {v : Int32} {w1 w2 w3 : Nat} (q : Nat) (hw : I.2.2.2.2[pc]? = some (some (.bipush n, w1, w2, w3))) (hv : (Int8.ofInt n).toInt32 = v) (hq : pc + 2 = q) (K : G d I q lv (.int v :: st) U r U') : G d I pc lv st U r U' := by
  subst hq
  exact g_p hw (fun X hX => ⟨X, by rw [← hv]; rfl, hX⟩) K
theorem g_sipush {n : Int} {v : Int32} {w1 w2 w3 : Nat} (q : Nat) (hw : I.2.2.2.2[pc]? = some (some (.sipush n, w1, w2, w3))) (hv : (Int16.ofInt n).toInt32 = v) (hq : pc + 3 = q) (K : G d I q lv (.int v :: st) U r U') : G d I pc lv st U r U' := by
  subst hq
  exact g_p hw (fun X hX => ⟨X, by rw [← hv]; rfl, hX⟩) K
theorem g_lconst {n : Fin 2} {v : Int64} {w1 w2 w3 : Nat} (q : Nat) (hw : I.2.2.2.2[pc]? = some (some (.lconst n, w1, w2, w3))) (hv : Int64.ofNat (n : Nat) = v) (hq : pc + 1 = q) (K : G d I q lv (.long v :: st) U r U') : G d I pc lv st U r U' := by
  subst hq
  exact g_p hw (fun X hX => ⟨X, by rw [← hv]; rfl, hX⟩) K
theorem g_aconst_null {w1 w2 w3 : Nat} (q : Nat) (hw : I.2.2.2.2[pc]? = some (some (.aconst_null, w1, w2, w3))) (hq : pc + 1 = q) (K : G d I q lv (va_rf none :: st) U r U') : G d I pc lv st U r U' := by
  subst hq
  exact g_p hw (fun X hX => ⟨X, rfl, hX⟩) K
theorem g_iadd {x y : Int32} {w1 w2 w3 : Nat} (q : Nat) (hw : I.2.2.2.2[pc]? = some (some (.iadd, w1, w2, w3))) (hq : pc + 1 = q) (K : G d I q lv (.int (x + y) :: st) U r U') : G d I pc lv (.int y :: .int x :: st) U r U' := by
  subst hq
  exact g_p hw (fun X hX => ⟨X, rfl, hX⟩) K
theorem g_isub {x y : Int32} {w1 w2 w3 : Nat} (q : Nat) (hw : I.2.2.2.2[pc]? = some (some (.isub, w1, w2, w3))) (hq : pc + 1 = q) (K : G d I q lv (.int (x - y) :: st) U r U') : G d I pc lv (.int y :: .int x :: st) U r U' := by
  subst hq
  exact g_p hw (fun X hX => ⟨X, rfl, hX⟩) K
theorem g_imul {x y : Int32} {w1 w2 w3 : Nat} (q : Nat) (hw : I.2.2.2.2[pc]? = some (some (.imul, w1, w2, w3))) (hq : pc + 1 = q) (K : G d I q lv (.int (x * y) :: st) U r U') : G d I pc lv (.int y :: .int x :: st) U r U' := by
  subst hq
  exact g_p hw (fun X hX => ⟨X, rfl, hX⟩) K
theorem g_iand {x y : Int32} {w1 w2 w3 : Nat} (q : Nat) (hw : I.2.2.2.2[pc]? = some (some (.iand, w1, w2, w3))) (hq : pc + 1 = q) (K : G d I q lv (.int (x &&& y) :: st) U r U') : G d I pc lv (.int y :: .int x :: st) U r U' := by
  subst hq
  exact g_p hw (fun X hX => ⟨X, rfl, hX⟩) K
theorem g_ior {x y : Int32} {w1 w2 w3 : Nat} (q : Nat) (hw : I.2.2.2.2[pc]? = some (some (.ior, w1, w2, w3))) (hq : pc + 1 = q) (K : G d I q lv (.int (x ||| y) :: st) U r U') : G d I pc lv (.int y :: .int x :: st) U r U' := by
  subst hq
  exact g_p hw (fun X hX => ⟨X, rfl, hX⟩) K
theorem g_ixor {x y : Int32} {w1 w2 w3 : Nat} (q : Nat) (hw : I.2.2.2.2[pc]? = some (some (.ixor, w1, w2, w3))) (hq : pc + 1 = q) (K : G d I q lv (.int (x ^^^ y) :: st) U r U') : G d I pc lv (.int y :: .int x :: st) U r U' := by
  subst hq
  exact g_p hw (fun X hX => ⟨X, rfl, hX⟩) K
theorem g_ishl {x y : Int32} {w1 w2 w3 : Nat} (q : Nat) (hw : I.2.2.2.2[pc]? = some (some (.ishl, w1, w2, w3))) (hq : pc + 1 = q) (K : G d I q lv (.int (x <<< (y &&& 31)) :: st) U r U') : G d I pc lv (.int y :: .int x :: st) U r U' := by
  subst hq
  exact g_p hw (fun X hX => ⟨X, rfl, hX⟩) K
theorem g_ishr {x y : Int32} {w1 w2 w3 : Nat} (q : Nat) (hw : I.2.2.2.2[pc]? = some (some (.ishr, w1, w2, w3))) (hq : pc + 1 = q) (K : G d I q lv (.int (x >>> (y &&& 31)) :: st) U r U') : G d I pc lv (.int y :: .int x :: st) U r U' := by
  subst hq
  exact g_p hw (fun X hX => ⟨X, rfl, hX⟩) K
theorem g_iushr {x y : Int32} {w1 w2 w3 : Nat} (q : Nat) (hw : I.2.2.2.2[pc]? = some (some (.iushr, w1, w2, w3))) (hq : pc + 1 = q) (K : G d I q lv (.int ((x.toUInt32 >>> (y.toUInt32 &&& Int32.toUInt32 31)).toInt32) :: st) U r U') : G d I pc lv (.int y :: .int x :: st) U r U' := by
  subst hq
  exact g_p hw (fun X hX => ⟨X, rfl, hX⟩) K
theorem g_ladd {x y : Int64} {w1 w2 w3 : Nat} (q : Nat) (hw : I.2.2.2.2[pc]? = some (some (.ladd, w1, w2, w3))) (hq : pc + 1 = q) (K : G d I q lv (.long (x + y) :: st) U r U') : G d I pc lv (.long y :: .long x :: st) U r U' := by
  subst hq
  exact g_p hw (fun X hX => ⟨X, rfl, hX⟩) K
theorem g_lsub {x y : Int64} {w1 w2 w3 : Nat} (q : Nat) (hw : I.2.2.2.2[pc]? = some (some (.lsub, w1, w2, w3))) (hq : pc + 1 = q) (K : G d I q lv (.long (x - y) :: st) U r U') : G d I pc lv (.long y :: .long x :: st) U r U' := by
  subst hq
  exact g_p hw (fun X hX => ⟨X, rfl, hX⟩) K
theorem g_lmul {x y : Int64} {w1 w2 w3 : Nat} (q : Nat) (hw : I.2.2.2.2[pc]? = some (some (.lmul, w1, w2, w3))) (hq : pc + 1 = q) (K : G d I q lv (.long (x * y) :: st) U r U') : G d I pc lv (.long y :: .long x :: st) U r U' := by
  subst hq
  exact g_p hw (fun X hX => ⟨X, rfl, hX⟩) K
theorem g_land {x y : Int64} {w1 w2 w3 : Nat} (q : Nat) (hw : I.2.2.2.2[pc]? = some (some (.land, w1, w2, w3))) (hq : pc + 1 = q) (K : G d I q lv (.long (x &&& y) :: st) U r U') : G d I pc lv (.long y :: .long x :: st) U r U' := by
  subst hq
  exact g_p hw (fun X hX => ⟨X, rfl, hX⟩) K
theorem g_lor {x y : Int64} {w1 w2 w3 : Nat} (q : Nat) (hw : I.2.2.2.2[pc]? = some (some (.lor, w1, w2, w3))) (hq : pc + 1 = q) (K : G d I q lv (.long (x ||| y) :: st) U r U') : G d I pc lv (.long y :: .long x :: st) U r U' := by
  subst hq
  exact g_p hw (fun X hX => ⟨X, rfl, hX⟩) K
theorem g_lxor {x y : Int64} {w1 w2 w3 : Nat} (q : Nat) (hw : I.2.2.2.2[pc]? = some (some (.lxor, w1, w2, w3))) (hq : pc + 1 = q) (K : G d I q lv (.long (x ^^^ y) :: st) U r U') : G d I pc lv (.long y :: .long x :: st) U r U' := by
  subst hq
  exact g_p hw (fun X hX => ⟨X, rfl, hX⟩) K
theorem g_ineg {x : Int32} {w1 w2 w3 : Nat} (q : Nat) (hw : I.2.2.2.2[pc]? = some (some (.ineg, w1, w2, w3))) (hq : pc + 1 = q) (K : G d I q lv (.int (-x) :: st) U r U') : G d I pc lv (.int x :: st) U r U' := by
  subst hq
  exact g_p hw (fun X hX => ⟨X, rfl, hX⟩) K
theorem g_lneg {x : Int64} {w1 w2 w3 : Nat} (q : Nat) (hw : I.2.2.2.2[pc]? = some (some (.lneg, w1, w2, w3))) (hq : pc + 1 = q) (K : G d I q lv (.long (-x) :: st) U r U') : G d I pc lv (.long x :: st) U r U' := by
  subst hq
  exact g_p hw (fun X hX => ⟨X, rfl, hX⟩) K
theorem g_i2l {x : Int32} {w1 w2 w3 : Nat} (q : Nat) (hw : I.2.2.2.2[pc]? = some (some (.i2l, w1, w2, w3))) (hq : pc + 1 = q) (K : G d I q lv (.long x.toInt64 :: st) U r U') : G d I pc lv (.int x :: st) U r U' := by
  subst hq
  exact g_p hw (fun X hX => ⟨X, rfl, hX⟩) K
theorem g_l2i {x : Int64} {w1 w2 w3 : Nat} (q : Nat) (hw : I.2.2.2.2[pc]? = some (some (.l2i, w1, w2, w3))) (hq : pc + 1 = q) (K : G d I q lv (.int x.toInt32 :: st) U r U') : G d I pc lv (.long x :: st) U r U' := by
  subst hq
  exact g_p hw (fun X hX => ⟨X, rfl, hX⟩) K
theorem g_i2b {x : Int32} {w1 w2 w3 : Nat} (q : Nat) (hw : I.2.2.2.2[pc]? = some (some (.i2b, w1, w2, w3))) (hq : pc + 1 = q) (K : G d I q lv (.int x.toInt8.toInt32 :: st) U r U') : G d I pc lv (.int x :: st) U r U' := by
  subst hq
  exact g_p hw (fun X hX => ⟨X, rfl, hX⟩) K
theorem g_i2s {x : Int32} {w1 w2 w3 : Nat} (q : Nat) (hw : I.2.2.2.2[pc]? = some (some (.i2s, w1, w2, w3))) (hq : pc + 1 = q) (K : G d I q lv (.int x.toInt16.toInt32 :: st) U r U') : G d I pc lv (.int x :: st) U r U' := by
  subst hq
  exact g_p hw (fun X hX => ⟨X, rfl, hX⟩) K
theorem g_lcmp {x y : Int64} {w1 w2 w3 : Nat} (q : Nat) (hw : I.2.2.2.2[pc]? = some (some (.lcmp, w1, w2, w3))) (hq : pc + 1 = q) (K : G d I q lv (.int (lg_cmp x y) :: st) U r U') : G d I pc lv (.long y :: .long x :: st) U r U' := by
  subst hq
  exact g_p hw (fun X hX => ⟨X, rfl, hX⟩) K
theorem g_lshl {x : Int64} {y : Int32} {w1 w2 w3 : Nat} (q : Nat) (hw : I.2.2.2.2[pc]? = some (some (.lshl, w1, w2, w3))) (hq : pc + 1 = q) (K : G d I q lv (.long (x <<< (y.toInt64 &&& 63)) :: st) U r U') : G d I pc lv (.int y :: .long x :: st) U r U' := by
  subst hq
  exact g_p hw (fun X hX => ⟨X, rfl, hX⟩) K
theorem g_idiv {x y : Int32} {w1 w2 w3 : Nat} (q : Nat) (hw : I.2.2.2.2[pc]? = some (some (.idiv, w1, w2, w3))) (hy : ¬ y = 0) (hq : pc + 1 = q) (K : G d I q lv (.int (x / y) :: st) U r U') : G d I pc lv (.int y :: .int x :: st) U r U' := by
  subst hq
  exact g_p hw (fun X hX => ⟨X, by unfold sm_p; dsimp only; rw [if_pos hy], hX⟩) K
theorem g_irem {x y : Int32} {w1 w2 w3 : Nat} (q : Nat) (hw : I.2.2.2.2[pc]? = some (some (.irem, w1, w2, w3))) (hy : ¬ y = 0) (hq : pc + 1 = q) (K : G d I q lv (.int (x - x / y * y) :: st) U r U') : G d I pc lv (.int y :: .int x :: st) U r U' := by
  subst hq
  exact g_p hw (fun X hX => ⟨X, by unfold sm_p; dsimp only; rw [if_pos hy], hX⟩) K
theorem g_ldiv {x y : Int64} {w1 w2 w3 : Nat} (q : Nat) (hw : I.2.2.2.2[pc]? = some (some (.ldiv, w1, w2, w3))) (hy : ¬ y = 0) (hq : pc + 1 = q) (K : G d I q lv (.long (x / y) :: st) U r U') : G d I pc lv (.long y :: .long x :: st) U r U' := by
  subst hq
  exact g_p hw (fun X hX => ⟨X, by unfold sm_p; dsimp only; rw [if_pos hy], hX⟩) K
theorem g_dup {v : Value} {w1 w2 w3 : Nat} (q : Nat) (hw : I.2.2.2.2[pc]? = some (some (.dup, w1, w2, w3))) (hv : v.category = 1) (hq : pc + 1 = q) (K : G d I q lv (v :: v :: st) U r U') : G d I pc lv (v :: st) U r U' := by
  subst hq
  exact g_p hw (fun X hX => ⟨X, by unfold sm_p; dsimp only; rw [if_pos hv], hX⟩) K
theorem g_pop {v : Value} {w1 w2 w3 : Nat} (q : Nat) (hw : I.2.2.2.2[pc]? = some (some (.pop, w1, w2, w3))) (hv : v.category = 1) (hq : pc + 1 = q) (K : G d I q lv st U r U') : G d I pc lv (v :: st) U r U' := by
  subst hq
  exact g_p hw (fun X hX => ⟨X, by unfold sm_p; dsimp only; rw [if_pos hv], hX⟩) K
theorem g_dup_x1 {v z : Value} {w1 w2 w3 : Nat} (q : Nat) (hw : I.2.2.2.2[pc]? = some (some (.dup_x1, w1, w2, w3))) (hv : v.category = 1) (hz : z.category = 1) (hq : pc + 1 = q) (K : G d I q lv (v :: z :: v :: st) U r U') : G d I pc lv (v :: z :: st) U r U' := by
  subst hq
  exact g_p hw (fun X hX => ⟨X, by unfold sm_p; dsimp only; rw [if_pos ⟨hv, hz⟩], hX⟩) K
theorem g_dup2 {v z : Value} {w1 w2 w3 : Nat} (q : Nat) (hw : I.2.2.2.2[pc]? = some (some (.dup2, w1, w2, w3))) (hv : v.category = 1) (hz : z.category = 1) (hq : pc + 1 = q) (K : G d I q lv (v :: z :: v :: z :: st) U r U') : G d I pc lv (v :: z :: st) U r U' := by
  subst hq
  exact g_p hw (fun X hX => ⟨X, by unfold sm_p; dsimp only; rw [if_pos ⟨hv, hz⟩], hX⟩) K
theorem g_iinc {i : Nat} {n : Int} {x v : Int32} {w1 w2 w3 : Nat} (q : Nat) (lv' : sm_L) (hw : I.2.2.2.2[pc]? = some (some (.iinc i n, w1, w2, w3))) (hl : sm_ld lv i = some (.int x)) (hn : i < I.2.2.1) (hx : x + Int32.ofInt n = v) (hv : sm_st1 lv i (.int v) = lv') (hq : pc + 3 = q) (K : G d I q lv' st U r U') : G d I pc lv st U r U' := by
  subst hq
  subst hx
  subst hv
  refine g_p hw (fun X hX => ⟨sm_st1 X i (.int (x + Int32.ofInt n)), ?_, hX.st1 i _⟩) K
  unfold sm_p
  dsimp only
  rw [hX.ld hl]
  dsimp only
  rw [if_pos hn]
theorem g_goto {n : Int} {w2 w3 : Nat} (q : Nat) (hw : I.2.2.2.2[pc]? = some (some (.goto n, q, w2, w3))) (K : G d I q lv st U r U') : G d I pc lv st U r U' := g_p hw (fun X hX => ⟨X, rfl, hX⟩) K
theorem g_if_eq {x : Int32} {n : Int} {w2 w3 : Nat} (t q : Nat) (hw : I.2.2.2.2[pc]? = some (some (.ifCond .eq n, t, w2, w3))) (hq : pc + 3 = q) (kt : x = 0 → G d I t lv st U r U') (kf : ¬ x = 0 → G d I q lv st U r U') : G d I pc lv (.int x :: st) U r U' := by
  subst hq
  by_cases h : sm_cmp .eq x 0
  · exact g_p hw (fun X hX => ⟨X, by unfold sm_p; dsimp only; rw [sm_if_t h], hX⟩) (kt h)
  · exact g_p hw (fun X hX => ⟨X, by unfold sm_p; dsimp only; rw [sm_if_f h], hX⟩) (kf h)
theorem g_icmp_eq {x y : Int32} {n : Int} {w2 w3 : Nat} (t q : Nat) (hw : I.2.2.2.2[pc]? = some (some (.if_icmp .eq n, t, w2, w3))) (hq : pc + 3 = q) (kt : x = y → G d I t lv st U r U') (kf : ¬ x = y → G d I q lv st U r U') : G d I pc lv (.int y :: .int x :: st) U r U' := by
  subst hq
  by_cases h : sm_cmp .eq x y
  · exact g_p hw (fun X hX => ⟨X, by unfold sm_p; dsimp only; rw [sm_if_t h], hX⟩) (kt h)
  · exact g_p hw (fun X hX => ⟨X, by unfold sm_p; dsimp only; rw [sm_if_f h], hX⟩) (kf h)
theorem g_if_ne {x : Int32} {n : Int} {w2 w3 : Nat} (t q : Nat) (hw : I.2.2.2.2[pc]? = some (some (.ifCond .ne n, t, w2, w3))) (hq : pc + 3 = q) (kt : ¬ x = 0 → G d I t lv st U r U') (kf : x = 0 → G d I q lv st U r U') : G d I pc lv (.int x :: st) U r U' := by
  subst hq
  by_cases h : sm_cmp .ne x 0
  · exact g_p hw (fun X hX => ⟨X, by unfold sm_p; dsimp only; rw [sm_if_t h], hX⟩) (kt h)
  · exact g_p hw (fun X hX => ⟨X, by unfold sm_p; dsimp only; rw [sm_if_f h], hX⟩) (kf (Decidable.not_not.mp h))
theorem g_icmp_ne {x y : Int32} {n : Int} {w2 w3 : Nat} (t q : Nat) (hw : I.2.2.2.2[pc]? = some (some (.if_icmp .ne n, t, w2, w3))) (hq : pc + 3 = q) (kt : ¬ x = y → G d I t lv st U r U') (kf : x = y → G d I q lv st U r U') : G d I pc lv (.int y :: .int x :: st) U r U' := by
  subst hq
  by_cases h : sm_cmp .ne x y
  · exact g_p hw (fun X hX => ⟨X, by unfold sm_p; dsimp only; rw [sm_if_t h], hX⟩) (kt h)
  · exact g_p hw (fun X hX => ⟨X, by unfold sm_p; dsimp only; rw [sm_if_f h], hX⟩) (kf (Decidable.not_not.mp h))
theorem g_if_lt {x : Int32} {n : Int} {w2 w3 : Nat} (t q : Nat) (hw : I.2.2.2.2[pc]? = some (some (.ifCond .lt n, t, w2, w3))) (hq : pc + 3 = q) (kt : x < 0 → G d I t lv st U r U') (kf : ¬ x < 0 → G d I q lv st U r U') : G d I pc lv (.int x :: st) U r U' := by
  subst hq
  by_cases h : sm_cmp .lt x 0
  · exact g_p hw (fun X hX => ⟨X, by unfold sm_p; dsimp only; rw [sm_if_t h], hX⟩) (kt h)
  · exact g_p hw (fun X hX => ⟨X, by unfold sm_p; dsimp only; rw [sm_if_f h], hX⟩) (kf h)
theorem g_icmp_lt {x y : Int32} {n : Int} {w2 w3 : Nat} (t q : Nat) (hw : I.2.2.2.2[pc]? = some (some (.if_icmp .lt n, t, w2, w3))) (hq : pc + 3 = q) (kt : x < y → G d I t lv st U r U') (kf : ¬ x < y → G d I q lv st U r U') : G d I pc lv (.int y :: .int x :: st) U r U' := by
  subst hq
  by_cases h : sm_cmp .lt x y
  · exact g_p hw (fun X hX => ⟨X, by unfold sm_p; dsimp only; rw [sm_if_t h], hX⟩) (kt h)
  · exact g_p hw (fun X hX => ⟨X, by unfold sm_p; dsimp only; rw [sm_if_f h], hX⟩) (kf h)
theorem g_if_ge {x : Int32} {n : Int} {w2 w3 : Nat} (t q : Nat) (hw : I.2.2.2.2[pc]? = some (some (.ifCond .ge n, t, w2, w3))) (hq : pc + 3 = q) (kt : 0 ≤ x → G d I t lv st U r U') (kf : ¬ 0 ≤ x → G d I q lv st U r U') : G d I pc lv (.int x :: st) U r U' := by
  subst hq
  by_cases h : sm_cmp .ge x 0
  · exact g_p hw (fun X hX => ⟨X, by unfold sm_p; dsimp only; rw [sm_if_t h], hX⟩) (kt h)
  · exact g_p hw (fun X hX => ⟨X, by unfold sm_p; dsimp only; rw [sm_if_f h], hX⟩) (kf h)
theorem g_icmp_ge {x y : Int32} {n : Int} {w2 w3 : Nat} (t q : Nat) (hw : I.2.2.2.2[pc]? = some (some (.if_icmp .ge n, t, w2, w3))) (hq : pc + 3 = q) (kt : y ≤ x → G d I t lv st U r U') (kf : ¬ y ≤ x → G d I q lv st U r U') : G d I pc lv (.int y :: .int x :: st) U r U' := by
  subst hq
  by_cases h : sm_cmp .ge x y
  · exact g_p hw (fun X hX => ⟨X, by unfold sm_p; dsimp only; rw [sm_if_t h], hX⟩) (kt h)
  · exact g_p hw (fun X hX => ⟨X, by unfold sm_p; dsimp only; rw [sm_if_f h], hX⟩) (kf h)
theorem g_if_gt {x : Int32} {n : Int} {w2 w3 : Nat} (t q : Nat) (hw : I.2.2.2.2[pc]? = some (some (.ifCond .gt n, t, w2, w3))) (hq : pc + 3 = q) (kt : 0 < x → G d I t lv st U r U') (kf : ¬ 0 < x → G d I q lv st U r U') : G d I pc lv (.int x :: st) U r U' := by
  subst hq
  by_cases h : sm_cmp .gt x 0
  · exact g_p hw (fun X hX => ⟨X, by unfold sm_p; dsimp only; rw [sm_if_t h], hX⟩) (kt h)
  · exact g_p hw (fun X hX => ⟨X, by unfold sm_p; dsimp only; rw [sm_if_f h], hX⟩) (kf h)
theorem g_icmp_gt {x y : Int32} {n : Int} {w2 w3 : Nat} (t q : Nat) (hw : I.2.2.2.2[pc]? = some (some (.if_icmp .gt n, t, w2, w3))) (hq : pc + 3 = q) (kt : y < x → G d I t lv st U r U') (kf : ¬ y < x → G d I q lv st U r U') : G d I pc lv (.int y :: .int x :: st) U r U' := by
  subst hq
  by_cases h : sm_cmp .gt x y
  · exact g_p hw (fun X hX => ⟨X, by unfold sm_p; dsimp only; rw [sm_if_t h], hX⟩) (kt h)
  · exact g_p hw (fun X hX => ⟨X, by unfold sm_p; dsimp only; rw [sm_if_f h], hX⟩) (kf h)
theorem g_if_le {x : Int32} {n : Int} {w2 w3 : Nat} (t q : Nat) (hw : I.2.2.2.2[pc]? = some (some (.ifCond .le n, t, w2, w3))) (hq : pc + 3 = q) (kt : x ≤ 0 → G d I t lv st U r U') (kf : ¬ x ≤ 0 → G d I q lv st U r U') : G d I pc lv (.int x :: st) U r U' := by
  subst hq
  by_cases h : sm_cmp .le x 0
  · exact g_p hw (fun X hX => ⟨X, by unfold sm_p; dsimp only; rw [sm_if_t h], hX⟩) (kt h)
  · exact g_p hw (fun X hX => ⟨X, by unfold sm_p; dsimp only; rw [sm_if_f h], hX⟩) (kf h)
theorem g_icmp_le {x y : Int32} {n : Int} {w2 w3 : Nat} (t q : Nat) (hw : I.2.2.2.2[pc]? = some (some (.if_icmp .le n, t, w2, w3))) (hq : pc + 3 = q) (kt : x ≤ y → G d I t lv st U r U') (kf : ¬ x ≤ y → G d I q lv st U r U') : G d I pc lv (.int y :: .int x :: st) U r U' := by
  subst hq
  by_cases h : sm_cmp .le x y
  · exact g_p hw (fun X hX => ⟨X, by unfold sm_p; dsimp only; rw [sm_if_t h], hX⟩) (kt h)
  · exact g_p hw (fun X hX => ⟨X, by unfold sm_p; dsimp only; rw [sm_if_f h], hX⟩) (kf h)
theorem g_ifnull {x : Nat} {n : Int} {t w2 w3 : Nat} (q : Nat) (hw : I.2.2.2.2[pc]? = some (some (.ifnull n, t, w2, w3))) (hq : pc + 3 = q) (K : G d I q lv st U r U') : G d I pc lv (.ref x :: st) U r U' := by
  subst hq
  exact g_p hw (fun X hX => ⟨X, rfl, hX⟩) K
theorem g_ifnullN {n : Int} {t w2 w3 : Nat} (q : Nat) (hw : I.2.2.2.2[pc]? = some (some (.ifnull n, t, w2, w3))) (hq : t = q) (K : G d I q lv st U r U') : G d I pc lv (.null :: st) U r U' := by
  subst hq
  exact g_p hw (fun X hX => ⟨X, rfl, hX⟩) K
theorem g_ifnonnull {x : Nat} {n : Int} {t w2 w3 : Nat} (q : Nat) (hw : I.2.2.2.2[pc]? = some (some (.ifnonnull n, t, w2, w3))) (hq : t = q) (K : G d I q lv st U r U') : G d I pc lv (.ref x :: st) U r U' := by
  subst hq
  exact g_p hw (fun X hX => ⟨X, rfl, hX⟩) K
theorem g_ifnonnullN {n : Int} {t w2 w3 : Nat} (q : Nat) (hw : I.2.2.2.2[pc]? = some (some (.ifnonnull n, t, w2, w3))) (hq : pc + 3 = q) (K : G d I q lv st U r U') : G d I pc lv (.null :: st) U r U' := by
  subst hq
  exact g_p hw (fun X hX => ⟨X, rfl, hX⟩) K
theorem g_tsw {dflt lo hi : Int} {offs : Array Int} {x : Int32} {w1 w2 w3 : Nat} (q : Nat) (hw : I.2.2.2.2[pc]? = some (some (.tableswitch dflt lo hi offs, w1, w2, w3))) (hq : (if x.toInt < lo ∨ hi < x.toInt then sm_tgt pc dflt else (offs[(x.toInt - lo).toNat]?).bind (sm_tgt pc)) = some q) (K : G d I q lv st U r U') : G d I pc lv (.int x :: st) U r U' := by
  refine g_p hw (fun X hX => ⟨X, ?_, hX⟩) K
  unfold sm_p
  dsimp only
  split at hq
  · rename_i h
    rw [if_pos h, hq]
    rfl
  · rename_i h
    rw [if_neg h]
    cases ho : offs[(x.toInt - lo).toNat]? with
    | none => rw [ho] at hq; cases hq
    | some off => rw [ho] at hq; dsimp only [Option.bind_some] at hq; dsimp only; rw [hq]; rfl
theorem g_lsw {dflt : Int} {ps : Array (Int × Int)} {x : Int32} {w1 w2 w3 : Nat} (q : Nat) (hw : I.2.2.2.2[pc]? = some (some (.lookupswitch dflt ps, w1, w2, w3))) (hs : (ps.toList.zip (ps.toList.drop 1)).all (fun (a, next) => a.1 < next.1) = true) (hq : sm_tgt pc (Op.lookupswitch.offset ps.toList dflt x.toInt) = some q) (K : G d I q lv st U r U') : G d I pc lv (.int x :: st) U r U' := by
  refine g_p hw (fun X hX => ⟨X, ?_, hX⟩) K
  unfold sm_p
  dsimp only
  rw [if_pos hs, hq]
  rfl
theorem g_get {idx c i z a : Nat} {v : Value} (q : Nat) (hw : I.2.2.2.2[pc]? = some (some (.getfield idx, c, i, z))) (hs : sh a = c) (hc : c < 11) (hv : (fdU U a c)[i]? = some v) (hq : pc + 3 = q) (K : G d I q lv (v :: st) U r U') : G d I pc lv (.ref a :: st) U r U' := by
  subst hq
  refine g_h hw (fun X => rfl) ?_ K
  unfold sm_h
  dsimp only
  rw [lay_o hs hc]
  dsimp only
  rw [if_pos rfl, hv]
theorem g_put {idx c i z a : Nat} {v : Value} {U1 : sU} (q : Nat) (hw : I.2.2.2.2[pc]? = some (some (.putfield idx, c, i, z))) (hs : sh a = c) (hc : c < 11) (hl : i < (fdU U a c).length) (hok : sm_fok (z % 10) v = true) (hf : fdU U1 a c = (fdU U a c).set i v) (ho : ∀ b q, b ≠ a → ceU U1 b q = ceU U b q) (hq : pc + 3 = q) (K : G d I q lv st U1 r U') : G d I pc lv (v :: .ref a :: st) U r U' := by
  subst hq
  refine g_h hw (fun X => rfl) ?_ K
  unfold sm_h
  dsimp only
  rw [lay_o hs hc]
  dsimp only
  rw [if_pos ⟨rfl, hl, hok⟩, lay_set (U1 := U1) hs (by omega) ?_ ho]
  rw [← hf]
  unfold ceU
  dsimp only
  split <;> first | omega | rfl
theorem g_putI {idx c i z a : Nat} {x : Int32} (q : Nat) (hw : I.2.2.2.2[pc]? = some (some (.putfield idx, c, i, z))) (hs : sh a = c) (hc : c < 11) (hl : i < (fdU U a c).length) (hz : z % 10 = 0) (hf : fdU (sI U a i x) a c = (fdU U a c).set i (.int x)) (hq : pc + 3 = q) (K : G d I q lv st (sI U a i x) r U') : G d I pc lv (.int x :: .ref a :: st) U r U' :=
  g_put q hw hs hc hl (by rw [hz]; rfl) hf ceU_sI hq K
theorem g_putZ {idx c i z a : Nat} {x : Int32} (q : Nat) (hw : I.2.2.2.2[pc]? = some (some (.putfield idx, c, i, z))) (hs : sh a = c) (hc : c < 11) (hl : i < (fdU U a c).length) (hz : z % 10 = 1) (hx : x = 0 ∨ x = 1) (hf : fdU (sI U a i x) a c = (fdU U a c).set i (.int x)) (hq : pc + 3 = q) (K : G d I q lv st (sI U a i x) r U') : G d I pc lv (.int x :: .ref a :: st) U r U' :=
  g_put q hw hs hc hl (by rw [hz]; rcases hx with rfl | rfl <;> rfl) hf ceU_sI hq K
theorem g_putJ {idx c i z a : Nat} {x : Int64} (q : Nat) (hw : I.2.2.2.2[pc]? = some (some (.putfield idx, c, i, z))) (hs : sh a = c) (hc : c < 11) (hl : i < (fdU U a c).length) (hz : z % 10 = 2) (hf : fdU (sJ U a i x) a c = (fdU U a c).set i (.long x)) (hq : pc + 3 = q) (K : G d I q lv st (sJ U a i x) r U') : G d I pc lv (.long x :: .ref a :: st) U r U' :=
  g_put q hw hs hc hl (by rw [hz]; rfl) hf ceU_sJ hq K
theorem g_putK {idx z a t : Nat} (q : Nat) (hw : I.2.2.2.2[pc]? = some (some (.putfield idx, 4, 6, z))) (hs : sh a = 4) (hz : z % 10 = 3) (ht : sh t = 8) (hq : pc + 3 = q) (K : G d I q lv st (sK U a t) r U') : G d I pc lv (.ref t :: .ref a :: st) U r U' :=
  g_put q hw hs (by decide) (Nat.le_of_ble_eq_true rfl) (by rw [hz]; rfl) (fs_4_6 ht) ceU_sK hq K
theorem g_iald {i : Int32} {a n w1 w2 w3 : Nat} (q : Nat) (hw : I.2.2.2.2[pc]? = some (some (.iaload, w1, w2, w3))) (hs : sh a = 11) (hn : ln a = n) (hi : ib i n) (hq : pc + 1 = q) (K : G d I q lv (.int (U.1 a i.toNatClampNeg) :: st) U r U') : G d I pc lv (.int i :: .ref a :: st) U r U' := by
  subst hq
  subst hn
  refine g_h hw (fun X => rfl) ?_ K
  unfold sm_h
  dsimp only
  rw [lay_at hs (by decide)]
  exact if_pos ⟨rfl, hi⟩
theorem g_lald {i : Int32} {a n w1 w2 w3 : Nat} (q : Nat) (hw : I.2.2.2.2[pc]? = some (some (.laload, w1, w2, w3))) (hs : sh a = 12) (hn : ln a = n) (hi : ib i n) (hq : pc + 1 = q) (K : G d I q lv (.long (U.2.1 a i.toNatClampNeg) :: st) U r U') : G d I pc lv (.int i :: .ref a :: st) U r U' := by
  subst hq
  subst hn
  refine g_h hw (fun X => rfl) ?_ K
  unfold sm_h
  dsimp only
  rw [lay_at hs (by decide)]
  exact if_pos ⟨rfl, hi⟩
theorem g_iast {i x : Int32} {a n w1 w2 w3 : Nat} (q : Nat) (hw : I.2.2.2.2[pc]? = some (some (.iastore, w1, w2, w3))) (hs : sh a = 11) (hn : ln a = n) (hi : ib i n) (hq : pc + 1 = q) (K : G d I q lv st (sI U a i.toNatClampNeg x) r U') : G d I pc lv (.int x :: .int i :: .ref a :: st) U r U' := by
  subst hq
  subst hn
  refine g_h hw (fun X => rfl) ?_ K
  unfold sm_h
  dsimp only
  rw [lay_at hs (by decide)]
  refine (if_pos ⟨rfl, hi⟩).trans ?_
  rw [lay_set (U1 := sI U a i.toNatClampNeg x) hs (by decide) ?_ ceU_sI]
  show Sum.inl (0, ln a, Sum.inl ((sI U a i.toNatClampNeg x).1 a)) = _
  have e : (sI U a i.toNatClampNeg x).1 a = upd (U.1 a) i.toNatClampNeg x := by funext j; exact if_pos rfl
  rw [e]
theorem g_last {i : Int32} {x : Int64} {a n w1 w2 w3 : Nat} (q : Nat) (hw : I.2.2.2.2[pc]? = some (some (.lastore, w1, w2, w3))) (hs : sh a = 12) (hn : ln a = n) (hi : ib i n) (hq : pc + 1 = q) (K : G d I q lv st (sJ U a i.toNatClampNeg x) r U') : G d I pc lv (.long x :: .int i :: .ref a :: st) U r U' := by
  subst hq
  subst hn
  refine g_h hw (fun X => rfl) ?_ K
  unfold sm_h
  dsimp only
  rw [lay_at hs (by decide)]
  refine (if_pos ⟨rfl, hi⟩).trans ?_
  rw [lay_set (U1 := sJ U a i.toNatClampNeg x) hs (by decide) ?_ ceU_sJ]
  show Sum.inl (1, ln a, Sum.inr (Sum.inl ((sJ U a i.toNatClampNeg x).2.1 a))) = _
  have e : (sJ U a i.toNatClampNeg x).2.1 a = vp_updL (U.2.1 a) i.toNatClampNeg x := by funext j; exact if_pos rfl
  rw [e]
theorem g_alen {a c n w1 w2 w3 : Nat} (q : Nat) (hw : I.2.2.2.2[pc]? = some (some (.arraylength, w1, w2, w3))) (hs : sh a = c) (hc : c = 11 ∨ c = 12 ∨ c = 13 ∨ c = 14 ∨ c = 15) (hn : ln a = n) (hq : pc + 1 = q) (K : G d I q lv (.int (Int32.ofNat n) :: st) U r U') : G d I pc lv (.ref a :: st) U r U' := by
  subst hq
  subst hn
  refine g_h hw (fun X => rfl) ?_ K
  unfold sm_h
  dsimp only
  rcases hc with rfl | rfl | rfl | rfl | rfl <;> (rw [lay_at hs (by decide)]; rfl)
theorem g_aald {i : Int32} {a c n w1 w2 w3 : Nat} (q : Nat) (hw : I.2.2.2.2[pc]? = some (some (.aaload, w1, w2, w3))) (hs : sh a = c) (hc : c = 13 ∨ c = 14 ∨ c = 15) (hn : ln a = n) (hi : ib i n) (hq : pc + 1 = q) (K : G d I q lv (.ref (rfA a c i.toNatClampNeg) :: st) U r U') : G d I pc lv (.int i :: .ref a :: st) U r U' := by
  subst hq
  subst hn
  refine g_h hw (fun X => rfl) ?_ K
  have hlt : i.toNatClampNeg < ln a := Nat.not_le.mp fun q => hi (Or.inr q)
  unfold sm_h
  dsimp only
  rcases hc with rfl | rfl | rfl <;> (rw [lay_at hs (by decide)]; refine (if_pos ⟨by decide, hi⟩).trans ?_; dsimp only; rw [if_pos hlt]; rfl)
theorem g_ldc {idx : Nat} {w1 w2 : Nat} {v : Int32} (q : Nat) (hw : I.2.2.2.2[pc]? = some (some (.ldc idx, w1, w2, 0))) (hv : Int32.ofNat w1 = v) (hq : pc + 2 = q) (K : G d I q lv (.int v :: st) U r U') : G d I pc lv st U r U' := by
  subst hq
  subst hv
  exact g_k hw (fun X => rfl) rfl rfl K
theorem g_ldcS {idx w1 w2 : Nat} (q : Nat) (hw : I.2.2.2.2[pc]? = some (some (.ldc idx, w1, w2, 1))) (h6 : w1 < 6) (hq : pc + 2 = q) (K : G d I q lv (.ref (1000 + w1) :: st) U r U') : G d I pc lv st U r U' := by
  subst hq
  refine g_k hw (fun X => rfl) rfl ?_ K
  unfold sm_k
  dsimp only
  rw [if_neg (by decide), if_pos ⟨rfl, h6⟩]
theorem g_ldc_w {idx : Nat} {w1 w2 w3 : Nat} {v : Int32} (q : Nat) (hw : I.2.2.2.2[pc]? = some (some (.ldc_w idx, w1, w2, w3))) (hv : Int32.ofNat w1 = v) (hq : pc + 3 = q) (K : G d I q lv (.int v :: st) U r U') : G d I pc lv st U r U' := by
  subst hq
  subst hv
  exact g_k hw (fun X => rfl) rfl rfl K
theorem g_ldc2_w {idx : Nat} {w1 w2 w3 : Nat} {v : Int64} (q : Nat) (hw : I.2.2.2.2[pc]? = some (some (.ldc2_w idx, w1, w2, w3))) (hv : Int64.ofNat w1 = v) (hq : pc + 3 = q) (K : G d I q lv (.long v :: st) U r U') : G d I pc lv st U r U' := by
  subst hq
  subst hv
  exact g_k hw (fun X => rfl) rfl rfl K
theorem g_vret {w1 w2 w3 : Nat} (hw : I.2.2.2.2[pc]? = some (some (.return_, w1, w2, w3))) (hr : I.2.2.2.1 = none) : G d I pc lv [] U none U :=
  g_r hw (fun X => rfl) rfl rfl rfl (by rw [hr]; rfl)
theorem g_iret {x : Int32} {w1 w2 w3 : Nat} (hw : I.2.2.2.2[pc]? = some (some (.ireturn, w1, w2, w3))) (hr : I.2.2.2.1 = some .int) : G d I pc lv [.int x] U (some (.int x)) U :=
  g_r hw (fun X => rfl) rfl rfl rfl (by rw [hr]; rfl)
theorem g_zret {x : Int32} {w1 w2 w3 : Nat} (hw : I.2.2.2.2[pc]? = some (some (.ireturn, w1, w2, w3))) (hr : I.2.2.2.1 = some .boolean) (hx : x = 0 ∨ x = 1) : G d I pc lv [.int x] U (some (.int x)) U :=
  g_r hw (fun X => rfl) rfl rfl rfl (by rw [hr]; exact if_pos hx)
theorem g_lret {x : Int64} {w1 w2 w3 : Nat} (hw : I.2.2.2.2[pc]? = some (some (.lreturn, w1, w2, w3))) (hr : I.2.2.2.1 = some .long) : G d I pc lv [.long x] U (some (.long x)) U :=
  g_r hw (fun X => rfl) rfl rfl rfl (by rw [hr]; rfl)
theorem g_aret {x : Option Nat} {C : String} {w1 w2 w3 : Nat} (hw : I.2.2.2.2[pc]? = some (some (.areturn, w1, w2, w3))) (hr : I.2.2.2.1 = some (.object C)) : G d I pc lv [va_rf x] U (some (va_rf x)) U := by
  cases x <;> exact g_r hw (fun X => rfl) rfl rfl rfl (by rw [hr]; rfl)
theorem g_callV {idx y n c b : Nat} {as rest : List Value} {J : sm_I} {rv : Option Value} {U1 : sU} (q : Nat) (hw : I.2.2.2.2[pc]? = some (some (.invokevirtual idx, y, n, c))) (hy : y < 900) (hst : st.drop n = .ref b :: rest) (has : (st.take n).reverse = as) (hln : n ≤ st.length) (hs : sh b = c) (hc : c < 11) (hcat : sm_cat rest ≤ 8) (hJ : sm_M y = some J) (hq : pc + 3 = q)
    (run : Rn d J (.ref b :: as) U rv U1) (K : G (d + 1) I q lv (rv.toList ++ rest) U1 r U') : G (d + 1) I pc lv st U r U' := by
  subst hq
  subst has
  have h1 : ¬ y = 900 := by omega
  have h2 : ¬ y = 901 := by omega
  have h3 : ¬ y = 902 := by omega
  refine g_c hw (fun X => rfl) rfl rfl ?_ rfl ?_ hJ run K
  · unfold sm_x
    dsimp only
    rw [if_neg h1, if_neg h2, if_neg h3]
  · unfold sm_cl
    dsimp only
    rw [hst]
    dsimp only
    rw [lay_o hs hc]
    exact if_pos ⟨rfl, hcat, hln⟩
theorem g_callS {idx y n c : Nat} {as rest : List Value} {J : sm_I} {rv : Option Value} {U1 : sU} (q : Nat) (hw : I.2.2.2.2[pc]? = some (some (.invokestatic idx, y, n, c))) (hy : ¬ y = 998) (hst : st.drop n = rest) (has : (st.take n).reverse = as) (hln : n ≤ st.length) (hcat : sm_cat rest ≤ 8) (hJ : sm_M y = some J) (hq : pc + 3 = q)
    (run : Rn d J as U rv U1) (K : G (d + 1) I q lv (rv.toList ++ rest) U1 r U') : G (d + 1) I pc lv st U r U' := by
  subst hq
  subst has
  subst hst
  refine g_c hw (fun X => rfl) rfl ?_ rfl rfl ?_ hJ run K
  · unfold sm_k
    dsimp only
    split
    · split
      · rw [if_neg (fun h => hy h.1)]
      · rfl
    · rfl
  · unfold sm_cl
    dsimp only
    exact if_pos ⟨hcat, hln⟩
theorem g_cpy {idx w2 w3 a b na nb : Nat} {sp dp n : Int32} {U1 : sU} (q : Nat) (hw : I.2.2.2.2[pc]? = some (some (.invokestatic idx, 998, w2, w3))) (hd : 1 ≤ d) (hcat : sm_cat st ≤ 8) (ha : sh a = 12) (hb : sh b = 12) (hna : ln a = na) (hnb : ln b = nb) (h : ¬ sp < 0 ∧ ¬ dp < 0 ∧ ¬ n < 0 ∧ sp.toNatClampNeg + n.toNatClampNeg ≤ na ∧ dp.toNatClampNeg + n.toNatClampNeg ≤ nb) (hU : U1 = (U.1, fun c j => if c = b then va_cpy (U.2.1 a) (U.2.1 b) sp.toNatClampNeg dp.toNatClampNeg n.toNatClampNeg j else U.2.1 c j, U.2.2)) (hq : pc + 3 = q)
    (K : G d I q lv st U1 r U') : G d I pc lv (.int n :: .int dp :: .ref b :: .int sp :: .ref a :: st) U r U' := by
  subst hq
  subst hna
  subst hnb
  refine g_k hw (fun X => rfl) rfl ?_ K
  have ho : ∀ c q, c ≠ b → ceU U1 c q = ceU U c q := by
    intro c q hc
    have e : U1.2.1 c = U.2.1 c := by rw [hU]; funext j; exact if_neg hc
    have e2 : fdU U1 c = fdU U c := by
      funext k
      unfold fdU tk
      rw [e, hU]
    unfold ceU
    rw [e, e2, hU]
  have he : ceU U1 b (12, ln b) = .inl (1, ln b, .inr (.inl (va_cpy (U.2.1 a) (U.2.1 b) sp.toNatClampNeg dp.toNatClampNeg n.toNatClampNeg))) := by
    have e : U1.2.1 b = va_cpy (U.2.1 a) (U.2.1 b) sp.toNatClampNeg dp.toNatClampNeg n.toNatClampNeg := by rw [hU]; funext j; exact if_pos rfl
    unfold ceU
    dsimp only
    rw [e]
    rfl
  unfold sm_k
  dsimp only
  rw [lay_at ha (by decide), lay_at hb (by decide)]
  refine (if_pos ⟨rfl, hd, hcat, rfl, rfl, h.1, h.2.1, h.2.2.1, h.2.2.2.1, h.2.2.2.2⟩).trans ?_
  rw [lay_set (U1 := U1) hb (by decide) he ho]
theorem g_slen {idx w2 w3 a : Nat} (q : Nat) (hw : I.2.2.2.2[pc]? = some (some (.invokevirtual idx, 900, w2, w3))) (hd : 6 ≤ d) (hcat : sm_cat st ≤ 8) (h1 : 1000 ≤ a) (h2 : a < 1006) (hq : pc + 3 = q) (K : G d I q lv (.int (Int32.ofNat (sm_tx (a - 1000)).length) :: st) U r U') : G d I pc lv (.ref a :: st) U r U' := by
  subst hq
  refine g_x hw (fun X => rfl) rfl rfl ?_ K
  unfold sm_x
  dsimp only
  rw [if_pos rfl, if_pos ⟨hd, hcat, h1, h2⟩]
theorem g_sch {idx w2 w3 a : Nat} {i : Int32} (q : Nat) (hw : I.2.2.2.2[pc]? = some (some (.invokevirtual idx, 901, w2, w3))) (hd : 6 ≤ d) (hcat : sm_cat st ≤ 8) (h1 : 1000 ≤ a) (h2 : a < 1006) (hi : ib i (sm_tx (a - 1000)).length) (hq : pc + 3 = q) (K : G d I q lv (.int (Int32.ofNat ((sm_tx (a - 1000)).getD i.toNatClampNeg 0)) :: st) U r U') : G d I pc lv (.int i :: .ref a :: st) U r U' := by
  subst hq
  refine g_x hw (fun X => rfl) rfl rfl ?_ K
  unfold sm_x
  dsimp only
  rw [if_neg (by decide), if_pos rfl, if_pos ⟨hd, hcat, h1, h2, hi⟩]
theorem g_seq {idx w2 w3 a b : Nat} (q : Nat) (hw : I.2.2.2.2[pc]? = some (some (.invokevirtual idx, 902, w2, w3))) (hd : 6 ≤ d) (hcat : sm_cat st ≤ 8) (h1 : 1000 ≤ a) (h2 : a < 1006) (h3 : 1000 ≤ b) (h4 : b < 1006) (hq : pc + 3 = q) (K : G d I q lv (.int (if a = b then 1 else 0) :: st) U r U') : G d I pc lv (.ref b :: .ref a :: st) U r U' := by
  subst hq
  refine g_x hw (fun X => rfl) rfl rfl ?_ K
  unfold sm_x
  dsimp only
  rw [if_neg (by decide), if_neg (by decide), if_pos rfl, if_pos ⟨hd, hcat, h1, h2, h3, h4⟩]
end GR
end
