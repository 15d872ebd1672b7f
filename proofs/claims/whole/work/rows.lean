section
-- ===== PART A: goes FIRST, ahead of the names: the tables' words, and 'selects' of the private methods out of them =====
/-- a private method of a class that the tables say can be made, by its rows of tables_1 -/
def lw_okq (q : MethodName × Nat) : Prop := (q.1.cls ≠ "java/lang/invoke/MethodHandle" ∧ q.1.cls ≠ "java/lang/invoke/VarHandle") ∧ Cond.instantiable q.1.cls q.2 ∈ tables_1 ∧ Cond.privateMethod q.1 ∈ tables_1 ∧ Cond.instanceMethod q.1 ∈ tables_1
theorem lw_p0 : lw_okq (⟨"WhoSpeaks$Paragraph", "forgetAll", "()V"⟩, 14) := ⟨⟨by decide +kernel, by decide +kernel⟩, List.mem_of_getElem? (i := 53) (by decide +kernel), List.mem_of_getElem? (i := 59) (by decide +kernel), List.mem_of_getElem? (i := 60) (by decide +kernel)⟩
theorem lw_p1 : lw_okq (⟨"WhoSpeaks", "fillChain", "()V"⟩, 9) := ⟨⟨by decide +kernel, by decide +kernel⟩, List.mem_of_getElem? (i := 11) (by decide +kernel), List.mem_of_getElem? (i := 225) (by decide +kernel), List.mem_of_getElem? (i := 226) (by decide +kernel)⟩
theorem lw_p2 : lw_okq (⟨"WhoSpeaks$Chain", "holds", "(I)Z"⟩, 9) := ⟨⟨by decide +kernel, by decide +kernel⟩, List.mem_of_getElem? (i := 116) (by decide +kernel), List.mem_of_getElem? (i := 280) (by decide +kernel), List.mem_of_getElem? (i := 281) (by decide +kernel)⟩
theorem lw_p3 : lw_okq (⟨"WhoSpeaks$Tape", "mayStand", "(ILWhoSpeaks$People;Z)Z"⟩, 2) := ⟨⟨by decide +kernel, by decide +kernel⟩, List.mem_of_getElem? (i := 33) (by decide +kernel), List.mem_of_getElem? (i := 340) (by decide +kernel), List.mem_of_getElem? (i := 341) (by decide +kernel)⟩
theorem lw_p4 : lw_okq (⟨"WhoSpeaks$Paragraph", "noteSpokenTo", "(I)V"⟩, 14) := ⟨⟨by decide +kernel, by decide +kernel⟩, List.mem_of_getElem? (i := 53) (by decide +kernel), List.mem_of_getElem? (i := 363) (by decide +kernel), List.mem_of_getElem? (i := 364) (by decide +kernel)⟩
theorem lw_p5 : lw_okq (⟨"WhoSpeaks$Paragraph", "addItem", "(I)V"⟩, 14) := ⟨⟨by decide +kernel, by decide +kernel⟩, List.mem_of_getElem? (i := 53) (by decide +kernel), List.mem_of_getElem? (i := 367) (by decide +kernel), List.mem_of_getElem? (i := 368) (by decide +kernel)⟩
theorem lw_p6 : lw_okq (⟨"WhoSpeaks$Paragraph", "noteVerbs", "()V"⟩, 14) := ⟨⟨by decide +kernel, by decide +kernel⟩, List.mem_of_getElem? (i := 53) (by decide +kernel), List.mem_of_getElem? (i := 372) (by decide +kernel), List.mem_of_getElem? (i := 373) (by decide +kernel)⟩
theorem lw_p7 : lw_okq (⟨"WhoSpeaks$Paragraph", "whoPlace", "(I)I"⟩, 14) := ⟨⟨by decide +kernel, by decide +kernel⟩, List.mem_of_getElem? (i := 53) (by decide +kernel), List.mem_of_getElem? (i := 376) (by decide +kernel), List.mem_of_getElem? (i := 377) (by decide +kernel)⟩
theorem lw_p8 : lw_okq (⟨"WhoSpeaks$Paragraph", "kindAt", "(I)I"⟩, 14) := ⟨⟨by decide +kernel, by decide +kernel⟩, List.mem_of_getElem? (i := 53) (by decide +kernel), List.mem_of_getElem? (i := 380) (by decide +kernel), List.mem_of_getElem? (i := 381) (by decide +kernel)⟩
theorem lw_p9 : lw_okq (⟨"WhoSpeaks$Paragraph", "verbCounts", "(II)Z"⟩, 14) := ⟨⟨by decide +kernel, by decide +kernel⟩, List.mem_of_getElem? (i := 53) (by decide +kernel), List.mem_of_getElem? (i := 387) (by decide +kernel), List.mem_of_getElem? (i := 388) (by decide +kernel)⟩
theorem lw_p10 : lw_okq (⟨"WhoSpeaks$Paragraph", "noteWho", "(I)V"⟩, 14) := ⟨⟨by decide +kernel, by decide +kernel⟩, List.mem_of_getElem? (i := 53) (by decide +kernel), List.mem_of_getElem? (i := 397) (by decide +kernel), List.mem_of_getElem? (i := 398) (by decide +kernel)⟩
theorem lw_p11 : lw_okq (⟨"WhoSpeaks$Paragraph", "personAt", "(I)I"⟩, 14) := ⟨⟨by decide +kernel, by decide +kernel⟩, List.mem_of_getElem? (i := 53) (by decide +kernel), List.mem_of_getElem? (i := 401) (by decide +kernel), List.mem_of_getElem? (i := 402) (by decide +kernel)⟩
theorem lw_p12 : lw_okq (⟨"WhoSpeaks$Paragraph", "noteDoer", "()V"⟩, 14) := ⟨⟨by decide +kernel, by decide +kernel⟩, List.mem_of_getElem? (i := 53) (by decide +kernel), List.mem_of_getElem? (i := 405) (by decide +kernel), List.mem_of_getElem? (i := 406) (by decide +kernel)⟩
theorem lw_p13 : lw_okq (⟨"WhoSpeaks$Chain", "narrowOnce", "()Z"⟩, 9) := ⟨⟨by decide +kernel, by decide +kernel⟩, List.mem_of_getElem? (i := 116) (by decide +kernel), List.mem_of_getElem? (i := 452) (by decide +kernel), List.mem_of_getElem? (i := 453) (by decide +kernel)⟩
theorem lw_p14 : lw_okq (⟨"WhoSpeaks$Chain", "earlierSet", "(I)I"⟩, 9) := ⟨⟨by decide +kernel, by decide +kernel⟩, List.mem_of_getElem? (i := 116) (by decide +kernel), List.mem_of_getElem? (i := 456) (by decide +kernel), List.mem_of_getElem? (i := 457) (by decide +kernel)⟩
theorem lw_p15 : lw_okq (⟨"WhoSpeaks$Chain", "linkAt", "(I)I"⟩, 9) := ⟨⟨by decide +kernel, by decide +kernel⟩, List.mem_of_getElem? (i := 116) (by decide +kernel), List.mem_of_getElem? (i := 460) (by decide +kernel), List.mem_of_getElem? (i := 461) (by decide +kernel)⟩
def lw_privs_1 : List (MethodName × Nat) := [(⟨"WhoSpeaks$Paragraph", "forgetAll", "()V"⟩, 14), (⟨"WhoSpeaks", "fillChain", "()V"⟩, 9), (⟨"WhoSpeaks$Chain", "holds", "(I)Z"⟩, 9), (⟨"WhoSpeaks$Tape", "mayStand", "(ILWhoSpeaks$People;Z)Z"⟩, 2), (⟨"WhoSpeaks$Paragraph", "noteSpokenTo", "(I)V"⟩, 14), (⟨"WhoSpeaks$Paragraph", "addItem", "(I)V"⟩, 14), (⟨"WhoSpeaks$Paragraph", "noteVerbs", "()V"⟩, 14), (⟨"WhoSpeaks$Paragraph", "whoPlace", "(I)I"⟩, 14), (⟨"WhoSpeaks$Paragraph", "kindAt", "(I)I"⟩, 14), (⟨"WhoSpeaks$Paragraph", "verbCounts", "(II)Z"⟩, 14), (⟨"WhoSpeaks$Paragraph", "noteWho", "(I)V"⟩, 14), (⟨"WhoSpeaks$Paragraph", "personAt", "(I)I"⟩, 14), (⟨"WhoSpeaks$Paragraph", "noteDoer", "()V"⟩, 14), (⟨"WhoSpeaks$Chain", "narrowOnce", "()Z"⟩, 9), (⟨"WhoSpeaks$Chain", "earlierSet", "(I)I"⟩, 9), (⟨"WhoSpeaks$Chain", "linkAt", "(I)I"⟩, 9)]
theorem lw_r1 : ∀ q ∈ lw_privs_1, lw_okq q := List.forall_mem_cons.mpr ⟨lw_p0, List.forall_mem_cons.mpr ⟨lw_p1, List.forall_mem_cons.mpr ⟨lw_p2, List.forall_mem_cons.mpr ⟨lw_p3, List.forall_mem_cons.mpr ⟨lw_p4, List.forall_mem_cons.mpr ⟨lw_p5, List.forall_mem_cons.mpr ⟨lw_p6, List.forall_mem_cons.mpr ⟨lw_p7, List.forall_mem_cons.mpr ⟨lw_p8, List.forall_mem_cons.mpr ⟨lw_p9, List.forall_mem_cons.mpr ⟨lw_p10, List.forall_mem_cons.mpr ⟨lw_p11, List.forall_mem_cons.mpr ⟨lw_p12, List.forall_mem_cons.mpr ⟨lw_p13, List.forall_mem_cons.mpr ⟨lw_p14, List.forall_mem_cons.mpr ⟨lw_p15, fun _ h => absurd h List.not_mem_nil⟩⟩⟩⟩⟩⟩⟩⟩⟩⟩⟩⟩⟩⟩⟩⟩
theorem lw_p16 : lw_okq (⟨"WhoSpeaks$Chain", "stepOver", "([JIIIJ)J"⟩, 9) := ⟨⟨by decide +kernel, by decide +kernel⟩, List.mem_of_getElem? (i := 116) (by decide +kernel), List.mem_of_getElem? (i := 481) (by decide +kernel), List.mem_of_getElem? (i := 482) (by decide +kernel)⟩
theorem lw_p17 : lw_okq (⟨"WhoSpeaks$Chain", "waysWithin", "(II)J"⟩, 9) := ⟨⟨by decide +kernel, by decide +kernel⟩, List.mem_of_getElem? (i := 116) (by decide +kernel), List.mem_of_getElem? (i := 491) (by decide +kernel), List.mem_of_getElem? (i := 492) (by decide +kernel)⟩
theorem lw_p18 : lw_okq (⟨"WhoSpeaks$Chain", "setThrough", "(I)I"⟩, 9) := ⟨⟨by decide +kernel, by decide +kernel⟩, List.mem_of_getElem? (i := 116) (by decide +kernel), List.mem_of_getElem? (i := 495) (by decide +kernel), List.mem_of_getElem? (i := 496) (by decide +kernel)⟩
theorem lw_p19 : lw_okq (⟨"WhoSpeaks", "keepNarrowedSets", "()V"⟩, 9) := ⟨⟨by decide +kernel, by decide +kernel⟩, List.mem_of_getElem? (i := 11) (by decide +kernel), List.mem_of_getElem? (i := 511) (by decide +kernel), List.mem_of_getElem? (i := 512) (by decide +kernel)⟩
theorem lw_p20 : lw_okq (⟨"WhoSpeaks", "changedNarrowedSets", "()I"⟩, 9) := ⟨⟨by decide +kernel, by decide +kernel⟩, List.mem_of_getElem? (i := 11) (by decide +kernel), List.mem_of_getElem? (i := 519) (by decide +kernel), List.mem_of_getElem? (i := 520) (by decide +kernel)⟩
theorem lw_p21 : lw_okq (⟨"WhoSpeaks$Story", "beginsRun", "(I)Z"⟩, 3) := ⟨⟨by decide +kernel, by decide +kernel⟩, List.mem_of_getElem? (i := 46) (by decide +kernel), List.mem_of_getElem? (i := 569) (by decide +kernel), List.mem_of_getElem? (i := 570) (by decide +kernel)⟩
theorem lw_p22 : lw_okq (⟨"WhoSpeaks$Chain", "isHadBy", "(II)Z"⟩, 9) := ⟨⟨by decide +kernel, by decide +kernel⟩, List.mem_of_getElem? (i := 116) (by decide +kernel), List.mem_of_getElem? (i := 589) (by decide +kernel), List.mem_of_getElem? (i := 590) (by decide +kernel)⟩
theorem lw_p23 : lw_okq (⟨"WhoSpeaks", "placeByRank", "(I)I"⟩, 9) := ⟨⟨by decide +kernel, by decide +kernel⟩, List.mem_of_getElem? (i := 11) (by decide +kernel), List.mem_of_getElem? (i := 610) (by decide +kernel), List.mem_of_getElem? (i := 611) (by decide +kernel)⟩
theorem lw_p24 : lw_okq (⟨"WhoSpeaks", "ranksAhead", "(II)Z"⟩, 9) := ⟨⟨by decide +kernel, by decide +kernel⟩, List.mem_of_getElem? (i := 11) (by decide +kernel), List.mem_of_getElem? (i := 614) (by decide +kernel), List.mem_of_getElem? (i := 615) (by decide +kernel)⟩
theorem lw_p25 : lw_okq (⟨"WhoSpeaksModel", "isThere", "(I)Z"⟩, 21) := ⟨⟨by decide +kernel, by decide +kernel⟩, List.mem_of_getElem? (i := 652) (by decide +kernel), List.mem_of_getElem? (i := 733) (by decide +kernel), List.mem_of_getElem? (i := 734) (by decide +kernel)⟩
theorem lw_p26 : lw_okq (⟨"WhoSpeaksModel", "isNamed", "(I)Z"⟩, 21) := ⟨⟨by decide +kernel, by decide +kernel⟩, List.mem_of_getElem? (i := 652) (by decide +kernel), List.mem_of_getElem? (i := 737) (by decide +kernel), List.mem_of_getElem? (i := 738) (by decide +kernel)⟩
theorem lw_p27 : lw_okq (⟨"WhoSpeaksModel", "speaks", "(I)Z"⟩, 21) := ⟨⟨by decide +kernel, by decide +kernel⟩, List.mem_of_getElem? (i := 652) (by decide +kernel), List.mem_of_getElem? (i := 741) (by decide +kernel), List.mem_of_getElem? (i := 742) (by decide +kernel)⟩
theorem lw_p28 : lw_okq (⟨"WhoSpeaksModel", "manyOf", "(II)I"⟩, 21) := ⟨⟨by decide +kernel, by decide +kernel⟩, List.mem_of_getElem? (i := 652) (by decide +kernel), List.mem_of_getElem? (i := 745) (by decide +kernel), List.mem_of_getElem? (i := 746) (by decide +kernel)⟩
theorem lw_p29 : lw_okq (⟨"WhoSpeaksModel", "ownOf", "(I)I"⟩, 21) := ⟨⟨by decide +kernel, by decide +kernel⟩, List.mem_of_getElem? (i := 652) (by decide +kernel), List.mem_of_getElem? (i := 749) (by decide +kernel), List.mem_of_getElem? (i := 750) (by decide +kernel)⟩
theorem lw_p30 : lw_okq (⟨"WhoSpeaksModel", "there", "()I"⟩, 21) := ⟨⟨by decide +kernel, by decide +kernel⟩, List.mem_of_getElem? (i := 652) (by decide +kernel), List.mem_of_getElem? (i := 753) (by decide +kernel), List.mem_of_getElem? (i := 754) (by decide +kernel)⟩
theorem lw_p31 : lw_okq (⟨"WhoSpeaksModel", "isItem", "(III)Z"⟩, 21) := ⟨⟨by decide +kernel, by decide +kernel⟩, List.mem_of_getElem? (i := 652) (by decide +kernel), List.mem_of_getElem? (i := 757) (by decide +kernel), List.mem_of_getElem? (i := 758) (by decide +kernel)⟩
def lw_privs_2 : List (MethodName × Nat) := [(⟨"WhoSpeaks$Chain", "stepOver", "([JIIIJ)J"⟩, 9), (⟨"WhoSpeaks$Chain", "waysWithin", "(II)J"⟩, 9), (⟨"WhoSpeaks$Chain", "setThrough", "(I)I"⟩, 9), (⟨"WhoSpeaks", "keepNarrowedSets", "()V"⟩, 9), (⟨"WhoSpeaks", "changedNarrowedSets", "()I"⟩, 9), (⟨"WhoSpeaks$Story", "beginsRun", "(I)Z"⟩, 3), (⟨"WhoSpeaks$Chain", "isHadBy", "(II)Z"⟩, 9), (⟨"WhoSpeaks", "placeByRank", "(I)I"⟩, 9), (⟨"WhoSpeaks", "ranksAhead", "(II)Z"⟩, 9), (⟨"WhoSpeaksModel", "isThere", "(I)Z"⟩, 21), (⟨"WhoSpeaksModel", "isNamed", "(I)Z"⟩, 21), (⟨"WhoSpeaksModel", "speaks", "(I)Z"⟩, 21), (⟨"WhoSpeaksModel", "manyOf", "(II)I"⟩, 21), (⟨"WhoSpeaksModel", "ownOf", "(I)I"⟩, 21), (⟨"WhoSpeaksModel", "there", "()I"⟩, 21), (⟨"WhoSpeaksModel", "isItem", "(III)Z"⟩, 21)]
theorem lw_r2 : ∀ q ∈ lw_privs_2, lw_okq q := List.forall_mem_cons.mpr ⟨lw_p16, List.forall_mem_cons.mpr ⟨lw_p17, List.forall_mem_cons.mpr ⟨lw_p18, List.forall_mem_cons.mpr ⟨lw_p19, List.forall_mem_cons.mpr ⟨lw_p20, List.forall_mem_cons.mpr ⟨lw_p21, List.forall_mem_cons.mpr ⟨lw_p22, List.forall_mem_cons.mpr ⟨lw_p23, List.forall_mem_cons.mpr ⟨lw_p24, List.forall_mem_cons.mpr ⟨lw_p25, List.forall_mem_cons.mpr ⟨lw_p26, List.forall_mem_cons.mpr ⟨lw_p27, List.forall_mem_cons.mpr ⟨lw_p28, List.forall_mem_cons.mpr ⟨lw_p29, List.forall_mem_cons.mpr ⟨lw_p30, List.forall_mem_cons.mpr ⟨lw_p31, fun _ h => absurd h List.not_mem_nil⟩⟩⟩⟩⟩⟩⟩⟩⟩⟩⟩⟩⟩⟩⟩⟩
theorem lw_p32 : lw_okq (⟨"WhoSpeaksModel", "counts", "(II)Z"⟩, 21) := ⟨⟨by decide +kernel, by decide +kernel⟩, List.mem_of_getElem? (i := 652) (by decide +kernel), List.mem_of_getElem? (i := 764) (by decide +kernel), List.mem_of_getElem? (i := 765) (by decide +kernel)⟩
theorem lw_p33 : lw_okq (⟨"WhoSpeaksModel", "whoOf", "(II)I"⟩, 21) := ⟨⟨by decide +kernel, by decide +kernel⟩, List.mem_of_getElem? (i := 652) (by decide +kernel), List.mem_of_getElem? (i := 768) (by decide +kernel), List.mem_of_getElem? (i := 769) (by decide +kernel)⟩
theorem lw_p34 : lw_okq (⟨"WhoSpeaksModel", "isWho", "(II)Z"⟩, 21) := ⟨⟨by decide +kernel, by decide +kernel⟩, List.mem_of_getElem? (i := 652) (by decide +kernel), List.mem_of_getElem? (i := 772) (by decide +kernel), List.mem_of_getElem? (i := 773) (by decide +kernel)⟩
theorem lw_p35 : lw_okq (⟨"WhoSpeaksModel", "byWho", "(II)I"⟩, 21) := ⟨⟨by decide +kernel, by decide +kernel⟩, List.mem_of_getElem? (i := 652) (by decide +kernel), List.mem_of_getElem? (i := 776) (by decide +kernel), List.mem_of_getElem? (i := 777) (by decide +kernel)⟩
theorem lw_p36 : lw_okq (⟨"WhoSpeaksModel", "ofSort", "(I)I"⟩, 21) := ⟨⟨by decide +kernel, by decide +kernel⟩, List.mem_of_getElem? (i := 652) (by decide +kernel), List.mem_of_getElem? (i := 780) (by decide +kernel), List.mem_of_getElem? (i := 781) (by decide +kernel)⟩
theorem lw_p37 : lw_okq (⟨"WhoSpeaksModel", "manyCounting", "(I)I"⟩, 21) := ⟨⟨by decide +kernel, by decide +kernel⟩, List.mem_of_getElem? (i := 652) (by decide +kernel), List.mem_of_getElem? (i := 784) (by decide +kernel), List.mem_of_getElem? (i := 785) (by decide +kernel)⟩
theorem lw_p38 : lw_okq (⟨"WhoSpeaksModel", "readsText", "(I)Z"⟩, 21) := ⟨⟨by decide +kernel, by decide +kernel⟩, List.mem_of_getElem? (i := 652) (by decide +kernel), List.mem_of_getElem? (i := 808) (by decide +kernel), List.mem_of_getElem? (i := 809) (by decide +kernel)⟩
theorem lw_p39 : lw_okq (⟨"WhoSpeaksModel", "readsItem", "(I)Z"⟩, 21) := ⟨⟨by decide +kernel, by decide +kernel⟩, List.mem_of_getElem? (i := 652) (by decide +kernel), List.mem_of_getElem? (i := 812) (by decide +kernel), List.mem_of_getElem? (i := 813) (by decide +kernel)⟩
theorem lw_p40 : lw_okq (⟨"WhoSpeaksModel", "isNameHere", "()Z"⟩, 21) := ⟨⟨by decide +kernel, by decide +kernel⟩, List.mem_of_getElem? (i := 652) (by decide +kernel), List.mem_of_getElem? (i := 819) (by decide +kernel), List.mem_of_getElem? (i := 820) (by decide +kernel)⟩
theorem lw_p41 : lw_okq (⟨"WhoSpeaksModel", "isParagraph", "(I)Z"⟩, 21) := ⟨⟨by decide +kernel, by decide +kernel⟩, List.mem_of_getElem? (i := 652) (by decide +kernel), List.mem_of_getElem? (i := 831) (by decide +kernel), List.mem_of_getElem? (i := 832) (by decide +kernel)⟩
theorem lw_p42 : lw_okq (⟨"WhoSpeaksModel", "linkAt", "(I)I"⟩, 21) := ⟨⟨by decide +kernel, by decide +kernel⟩, List.mem_of_getElem? (i := 652) (by decide +kernel), List.mem_of_getElem? (i := 839) (by decide +kernel), List.mem_of_getElem? (i := 840) (by decide +kernel)⟩
theorem lw_p43 : lw_okq (⟨"WhoSpeaksModel", "findNarrowed", "()V"⟩, 21) := ⟨⟨by decide +kernel, by decide +kernel⟩, List.mem_of_getElem? (i := 652) (by decide +kernel), List.mem_of_getElem? (i := 847) (by decide +kernel), List.mem_of_getElem? (i := 848) (by decide +kernel)⟩
theorem lw_p44 : lw_okq (⟨"WhoSpeaksModel", "findOwn", "()V"⟩, 21) := ⟨⟨by decide +kernel, by decide +kernel⟩, List.mem_of_getElem? (i := 652) (by decide +kernel), List.mem_of_getElem? (i := 851) (by decide +kernel), List.mem_of_getElem? (i := 852) (by decide +kernel)⟩
theorem lw_p45 : lw_okq (⟨"WhoSpeaksModel", "narrows", "()Z"⟩, 21) := ⟨⟨by decide +kernel, by decide +kernel⟩, List.mem_of_getElem? (i := 652) (by decide +kernel), List.mem_of_getElem? (i := 855) (by decide +kernel), List.mem_of_getElem? (i := 856) (by decide +kernel)⟩
theorem lw_p46 : lw_okq (⟨"WhoSpeaksModel", "by", "(III)I"⟩, 21) := ⟨⟨by decide +kernel, by decide +kernel⟩, List.mem_of_getElem? (i := 652) (by decide +kernel), List.mem_of_getElem? (i := 859) (by decide +kernel), List.mem_of_getElem? (i := 860) (by decide +kernel)⟩
theorem lw_p47 : lw_okq (⟨"WhoSpeaksModel", "findSure", "()V"⟩, 21) := ⟨⟨by decide +kernel, by decide +kernel⟩, List.mem_of_getElem? (i := 652) (by decide +kernel), List.mem_of_getElem? (i := 866) (by decide +kernel), List.mem_of_getElem? (i := 867) (by decide +kernel)⟩
def lw_privs_3 : List (MethodName × Nat) := [(⟨"WhoSpeaksModel", "counts", "(II)Z"⟩, 21), (⟨"WhoSpeaksModel", "whoOf", "(II)I"⟩, 21), (⟨"WhoSpeaksModel", "isWho", "(II)Z"⟩, 21), (⟨"WhoSpeaksModel", "byWho", "(II)I"⟩, 21), (⟨"WhoSpeaksModel", "ofSort", "(I)I"⟩, 21), (⟨"WhoSpeaksModel", "manyCounting", "(I)I"⟩, 21), (⟨"WhoSpeaksModel", "readsText", "(I)Z"⟩, 21), (⟨"WhoSpeaksModel", "readsItem", "(I)Z"⟩, 21), (⟨"WhoSpeaksModel", "isNameHere", "()Z"⟩, 21), (⟨"WhoSpeaksModel", "isParagraph", "(I)Z"⟩, 21), (⟨"WhoSpeaksModel", "linkAt", "(I)I"⟩, 21), (⟨"WhoSpeaksModel", "findNarrowed", "()V"⟩, 21), (⟨"WhoSpeaksModel", "findOwn", "()V"⟩, 21), (⟨"WhoSpeaksModel", "narrows", "()Z"⟩, 21), (⟨"WhoSpeaksModel", "by", "(III)I"⟩, 21), (⟨"WhoSpeaksModel", "findSure", "()V"⟩, 21)]
theorem lw_r3 : ∀ q ∈ lw_privs_3, lw_okq q := List.forall_mem_cons.mpr ⟨lw_p32, List.forall_mem_cons.mpr ⟨lw_p33, List.forall_mem_cons.mpr ⟨lw_p34, List.forall_mem_cons.mpr ⟨lw_p35, List.forall_mem_cons.mpr ⟨lw_p36, List.forall_mem_cons.mpr ⟨lw_p37, List.forall_mem_cons.mpr ⟨lw_p38, List.forall_mem_cons.mpr ⟨lw_p39, List.forall_mem_cons.mpr ⟨lw_p40, List.forall_mem_cons.mpr ⟨lw_p41, List.forall_mem_cons.mpr ⟨lw_p42, List.forall_mem_cons.mpr ⟨lw_p43, List.forall_mem_cons.mpr ⟨lw_p44, List.forall_mem_cons.mpr ⟨lw_p45, List.forall_mem_cons.mpr ⟨lw_p46, List.forall_mem_cons.mpr ⟨lw_p47, fun _ h => absurd h List.not_mem_nil⟩⟩⟩⟩⟩⟩⟩⟩⟩⟩⟩⟩⟩⟩⟩⟩
theorem lw_p48 : lw_okq (⟨"WhoSpeaksModel", "findWays", "()J"⟩, 21) := ⟨⟨by decide +kernel, by decide +kernel⟩, List.mem_of_getElem? (i := 652) (by decide +kernel), List.mem_of_getElem? (i := 870) (by decide +kernel), List.mem_of_getElem? (i := 871) (by decide +kernel)⟩
theorem lw_p49 : lw_okq (⟨"WhoSpeaksModel", "countDown", "()V"⟩, 21) := ⟨⟨by decide +kernel, by decide +kernel⟩, List.mem_of_getElem? (i := 652) (by decide +kernel), List.mem_of_getElem? (i := 874) (by decide +kernel), List.mem_of_getElem? (i := 875) (by decide +kernel)⟩
theorem lw_p50 : lw_okq (⟨"WhoSpeaksModel", "isAllowed", "(II)Z"⟩, 21) := ⟨⟨by decide +kernel, by decide +kernel⟩, List.mem_of_getElem? (i := 652) (by decide +kernel), List.mem_of_getElem? (i := 881) (by decide +kernel), List.mem_of_getElem? (i := 882) (by decide +kernel)⟩
theorem lw_p51 : lw_okq (⟨"WhoSpeaksModel", "countUp", "(II)J"⟩, 21) := ⟨⟨by decide +kernel, by decide +kernel⟩, List.mem_of_getElem? (i := 652) (by decide +kernel), List.mem_of_getElem? (i := 885) (by decide +kernel), List.mem_of_getElem? (i := 886) (by decide +kernel)⟩
theorem lw_p52 : lw_okq (⟨"WhoSpeaksModel", "waysWith", "(II)J"⟩, 21) := ⟨⟨by decide +kernel, by decide +kernel⟩, List.mem_of_getElem? (i := 652) (by decide +kernel), List.mem_of_getElem? (i := 889) (by decide +kernel), List.mem_of_getElem? (i := 890) (by decide +kernel)⟩
theorem lw_p53 : lw_okq (⟨"WhoSpeaksModel", "runs", "()I"⟩, 21) := ⟨⟨by decide +kernel, by decide +kernel⟩, List.mem_of_getElem? (i := 652) (by decide +kernel), List.mem_of_getElem? (i := 918) (by decide +kernel), List.mem_of_getElem? (i := 919) (by decide +kernel)⟩
theorem lw_p54 : lw_okq (⟨"WhoSpeaksModel", "beginsRun", "(I)Z"⟩, 21) := ⟨⟨by decide +kernel, by decide +kernel⟩, List.mem_of_getElem? (i := 652) (by decide +kernel), List.mem_of_getElem? (i := 922) (by decide +kernel), List.mem_of_getElem? (i := 923) (by decide +kernel)⟩
theorem lw_p55 : lw_okq (⟨"WhoSpeaksModel", "manyHad", "(IZ)I"⟩, 21) := ⟨⟨by decide +kernel, by decide +kernel⟩, List.mem_of_getElem? (i := 652) (by decide +kernel), List.mem_of_getElem? (i := 930) (by decide +kernel), List.mem_of_getElem? (i := 931) (by decide +kernel)⟩
theorem lw_p56 : lw_okq (⟨"WhoSpeaksModel", "firstHad", "(IZ)I"⟩, 21) := ⟨⟨by decide +kernel, by decide +kernel⟩, List.mem_of_getElem? (i := 652) (by decide +kernel), List.mem_of_getElem? (i := 934) (by decide +kernel), List.mem_of_getElem? (i := 935) (by decide +kernel)⟩
theorem lw_p57 : lw_okq (⟨"WhoSpeaksModel", "aheadOf", "(I)I"⟩, 21) := ⟨⟨by decide +kernel, by decide +kernel⟩, List.mem_of_getElem? (i := 652) (by decide +kernel), List.mem_of_getElem? (i := 942) (by decide +kernel), List.mem_of_getElem? (i := 943) (by decide +kernel)⟩
theorem lw_p58 : lw_okq (⟨"WhoSpeaksModel", "writes", "(I)I"⟩, 21) := ⟨⟨by decide +kernel, by decide +kernel⟩, List.mem_of_getElem? (i := 652) (by decide +kernel), List.mem_of_getElem? (i := 950) (by decide +kernel), List.mem_of_getElem? (i := 951) (by decide +kernel)⟩
theorem lw_p59 : lw_okq (⟨"WhoSpeaksModel", "manySpeak", "()I"⟩, 21) := ⟨⟨by decide +kernel, by decide +kernel⟩, List.mem_of_getElem? (i := 652) (by decide +kernel), List.mem_of_getElem? (i := 958) (by decide +kernel), List.mem_of_getElem? (i := 959) (by decide +kernel)⟩
theorem lw_p60 : lw_okq (⟨"WhoSpeaksModel", "manySure", "()I"⟩, 21) := ⟨⟨by decide +kernel, by decide +kernel⟩, List.mem_of_getElem? (i := 652) (by decide +kernel), List.mem_of_getElem? (i := 962) (by decide +kernel), List.mem_of_getElem? (i := 963) (by decide +kernel)⟩
theorem lw_p61 : lw_okq (⟨"WhoSpeaksModel", "manyHints", "()I"⟩, 21) := ⟨⟨by decide +kernel, by decide +kernel⟩, List.mem_of_getElem? (i := 652) (by decide +kernel), List.mem_of_getElem? (i := 966) (by decide +kernel), List.mem_of_getElem? (i := 967) (by decide +kernel)⟩
def lw_privs_4 : List (MethodName × Nat) := [(⟨"WhoSpeaksModel", "findWays", "()J"⟩, 21), (⟨"WhoSpeaksModel", "countDown", "()V"⟩, 21), (⟨"WhoSpeaksModel", "isAllowed", "(II)Z"⟩, 21), (⟨"WhoSpeaksModel", "countUp", "(II)J"⟩, 21), (⟨"WhoSpeaksModel", "waysWith", "(II)J"⟩, 21), (⟨"WhoSpeaksModel", "runs", "()I"⟩, 21), (⟨"WhoSpeaksModel", "beginsRun", "(I)Z"⟩, 21), (⟨"WhoSpeaksModel", "manyHad", "(IZ)I"⟩, 21), (⟨"WhoSpeaksModel", "firstHad", "(IZ)I"⟩, 21), (⟨"WhoSpeaksModel", "aheadOf", "(I)I"⟩, 21), (⟨"WhoSpeaksModel", "writes", "(I)I"⟩, 21), (⟨"WhoSpeaksModel", "manySpeak", "()I"⟩, 21), (⟨"WhoSpeaksModel", "manySure", "()I"⟩, 21), (⟨"WhoSpeaksModel", "manyHints", "()I"⟩, 21)]
theorem lw_r4 : ∀ q ∈ lw_privs_4, lw_okq q := List.forall_mem_cons.mpr ⟨lw_p48, List.forall_mem_cons.mpr ⟨lw_p49, List.forall_mem_cons.mpr ⟨lw_p50, List.forall_mem_cons.mpr ⟨lw_p51, List.forall_mem_cons.mpr ⟨lw_p52, List.forall_mem_cons.mpr ⟨lw_p53, List.forall_mem_cons.mpr ⟨lw_p54, List.forall_mem_cons.mpr ⟨lw_p55, List.forall_mem_cons.mpr ⟨lw_p56, List.forall_mem_cons.mpr ⟨lw_p57, List.forall_mem_cons.mpr ⟨lw_p58, List.forall_mem_cons.mpr ⟨lw_p59, List.forall_mem_cons.mpr ⟨lw_p60, List.forall_mem_cons.mpr ⟨lw_p61, fun _ h => absurd h List.not_mem_nil⟩⟩⟩⟩⟩⟩⟩⟩⟩⟩⟩⟩⟩⟩
def lw_privs : List (MethodName × Nat) := lw_privs_1 ++ (lw_privs_2 ++ (lw_privs_3 ++ (lw_privs_4)))
def lw_tbl : List Cond := k2_sels lw_privs ++ tables_1
theorem lw_privs_ok : ∀ q ∈ lw_privs, lw_okq q := by
  show ∀ q ∈ lw_privs_1 ++ (lw_privs_2 ++ (lw_privs_3 ++ (lw_privs_4))), lw_okq q
  exact List.forall_mem_append.mpr ⟨lw_r1, List.forall_mem_append.mpr ⟨lw_r2, List.forall_mem_append.mpr ⟨lw_r3, lw_r4⟩⟩⟩
end
section
/-! ===== BEGIN words of one list among another's, by their places ===== -/
theorem goodIn_r {big : List Cond} (ws : List Cond) (ps : List Nat) (hp : ws = ps.filterMap (fun i => big[i]?)) (h : ws.all goodWord = true) : GoodIn big ws := by
  intro w hw
  have h1 := List.all_eq_true.mp h w hw
  rw [hp] at hw
  obtain ⟨i, -, hi⟩ := List.mem_filterMap.mp hw
  have hm : w ∈ big := by first | exact List.mem_of_getElem? hi | exact List.getElem?_mem hi
  exact ⟨hm, good_of_word h1⟩
theorem goodIn_app {big a b : List Cond} (ha : GoodIn big a) (hb : GoodIn big b) : GoodIn big (a ++ b) := fun w h => (List.mem_append.mp h).elim (ha w) (hb w)
theorem goodIn_ca {big a b : List Cond} {c : Cond} (ha : GoodIn big (c :: a)) (hb : GoodIn big b) : GoodIn big (c :: (a ++ b)) := fun w h => (List.mem_cons.mp h).elim (fun e => ha w (List.mem_cons.mpr (Or.inl e))) (fun h => (List.mem_append.mp h).elim (fun h => ha w (List.mem_cons.mpr (Or.inr h))) (hb w))
theorem goodIn_sub {big ws : List Cond} (hm : ∀ w ∈ ws, w ∈ big) (h : ws.all goodWord = true) : GoodIn big ws := fun w hw => ⟨hm w hw, good_of_word (List.all_eq_true.mp h w hw)⟩
/-! ===== END ===== -/

/-! ===== BEGIN printed: names, fields, word lists, decode rows ===== -/
def RX0 : String := "WhoSpeaks$Chain"
def TX0 : u_T := fun k => match k with
  | 0 => ("WhoSpeaks$Chain", "speaking", "[Z", true)
  | 1 => ("WhoSpeaks$Chain", "owns", "[I", true)
  | 2 => ("WhoSpeaks$Chain", "links", "[I", true)
  | 3 => ("WhoSpeaks$Chain", "narrowed", "[I", true)
  | 4 => ("WhoSpeaks$Chain", "earlier", "[I", true)
  | 5 => ("WhoSpeaks$Chain", "heads", "[J", true)
  | 6 => ("WhoSpeaks$Chain", "tails", "[J", true)
  | 7 => ("WhoSpeaks$Chain", "sures", "[I", true)
  | _ => ("WhoSpeaks$Chain", "count", "I", false)
def tyX0 : Nat → FieldType := fun k => match k with
  | 0 => .array .boolean
  | 1 => .array .int
  | 2 => .array .int
  | 3 => .array .int
  | 4 => .array .int
  | 5 => .array .long
  | 6 => .array .long
  | 7 => .array .int
  | _ => .int
abbrev wsX00 : List Cond := u_ws RX0 TX0 9
theorem nmX0 : ∀ a, a < 9 → ∀ b, b < 9 → a ≠ b → (TX0 a).2.1 ≠ (TX0 b).2.1 := by decide +kernel
theorem tyX0_ok : ∀ k, k < 9 → parseFieldDescriptor (TX0 k).2.2.1 = some (tyX0 k) := by decide +kernel
abbrev cX0_init : ByteArray := prog_2_method_1_code
def yX0_init : MethodName := ⟨RX0, "<init>", "()V"⟩
abbrev cX0_clear : ByteArray := prog_2_method_2_code
def yX0_clear : MethodName := ⟨RX0, "clear", "()V"⟩
abbrev cX0_append : ByteArray := prog_2_method_3_code
def yX0_append : MethodName := ⟨RX0, "append", "(ZII)V"⟩
abbrev cX0_holds : ByteArray := prog_2_method_4_code
def yX0_holds : MethodName := ⟨RX0, "holds", "(I)Z"⟩
abbrev cX0_ownSet : ByteArray := prog_2_method_5_code
def yX0_ownSet : MethodName := ⟨RX0, "ownSet", "(I)I"⟩
abbrev cX0_linkAt : ByteArray := prog_2_method_6_code
def yX0_linkAt : MethodName := ⟨RX0, "linkAt", "(I)I"⟩
abbrev cX0_ownSetsWith : ByteArray := prog_2_method_7_code
def yX0_ownSetsWith : MethodName := ⟨RX0, "ownSetsWith", "(I)I"⟩
abbrev cX0_ownSetsJoined : ByteArray := prog_2_method_8_code
def yX0_ownSetsJoined : MethodName := ⟨RX0, "ownSetsJoined", "(II)I"⟩
abbrev cX0_narrowedSet : ByteArray := prog_2_method_9_code
def yX0_narrowedSet : MethodName := ⟨RX0, "narrowedSet", "(I)I"⟩
abbrev cX0_narrow : ByteArray := prog_2_method_10_code
def yX0_narrow : MethodName := ⟨RX0, "narrow", "()V"⟩
abbrev cX0_narrowOnce : ByteArray := prog_2_method_11_code
def yX0_narrowOnce : MethodName := ⟨RX0, "narrowOnce", "()Z"⟩
abbrev cX0_earlierSet : ByteArray := prog_2_method_12_code
def yX0_earlierSet : MethodName := ⟨RX0, "earlierSet", "(I)I"⟩
abbrev cX0_leftBy : ByteArray := prog_2_method_13_code
def yX0_leftBy : MethodName := ⟨RX0, "leftBy", "(II)I"⟩
abbrev cX0_countWays : ByteArray := prog_2_method_14_code
def yX0_countWays : MethodName := ⟨RX0, "countWays", "()J"⟩
abbrev cX0_waysWithin : ByteArray := prog_2_method_15_code
def yX0_waysWithin : MethodName := ⟨RX0, "waysWithin", "(II)J"⟩
abbrev cX0_stepOver : ByteArray := prog_2_method_16_code
def yX0_stepOver : MethodName := ⟨RX0, "stepOver", "([JIIIJ)J"⟩
abbrev cX0_fitting : ByteArray := prog_2_method_17_code
def yX0_fitting : MethodName := ⟨RX0, "fitting", "(JIJ)J"⟩
abbrev cX0_countAt : ByteArray := prog_2_method_18_code
def yX0_countAt : MethodName := ⟨RX0, "countAt", "([JII)J"⟩
abbrev cX0_waysThrough : ByteArray := prog_2_method_19_code
def yX0_waysThrough : MethodName := ⟨RX0, "waysThrough", "(II)J"⟩
abbrev cX0_sureSet : ByteArray := prog_2_method_20_code
def yX0_sureSet : MethodName := ⟨RX0, "sureSet", "(I)I"⟩
abbrev cX0_setThrough : ByteArray := prog_2_method_21_code
def yX0_setThrough : MethodName := ⟨RX0, "setThrough", "(I)I"⟩
abbrev cX0_mostWaysLeft : ByteArray := prog_2_method_22_code
def yX0_mostWaysLeft : MethodName := ⟨RX0, "mostWaysLeft", "(I)J"⟩
abbrev cX0_conflictEnd : ByteArray := prog_2_method_23_code
def yX0_conflictEnd : MethodName := ⟨RX0, "conflictEnd", "()I"⟩
abbrev cX0_conflictBeginning : ByteArray := prog_2_method_24_code
def yX0_conflictBeginning : MethodName := ⟨RX0, "conflictBeginning", "(I)I"⟩
abbrev cX0_isHadBy : ByteArray := prog_2_method_25_code
def yX0_isHadBy : MethodName := ⟨RX0, "isHadBy", "(II)Z"⟩
abbrev cX0_hadBy : ByteArray := prog_2_method_26_code
def yX0_hadBy : MethodName := ⟨RX0, "hadBy", "(I)I"⟩
abbrev cX0_maybeHadBy : ByteArray := prog_2_method_27_code
def yX0_maybeHadBy : MethodName := ⟨RX0, "maybeHadBy", "(I)I"⟩
abbrev cX0_firstHadBy : ByteArray := prog_2_method_28_code
def yX0_firstHadBy : MethodName := ⟨RX0, "firstHadBy", "(I)I"⟩
abbrev cX0_lastHadBy : ByteArray := prog_2_method_29_code
def yX0_lastHadBy : MethodName := ⟨RX0, "lastHadBy", "(I)I"⟩
abbrev cX0_setsSureOfOne : ByteArray := prog_2_method_30_code
def yX0_setsSureOfOne : MethodName := ⟨RX0, "setsSureOfOne", "()I"⟩
def RX1 : String := "WhoSpeaks$Paragraph"
def TX1 : u_T := fun k => match k with
  | 0 => ("WhoSpeaks$Paragraph", "kinds", "[I", true)
  | 1 => ("WhoSpeaks$Paragraph", "persons", "[I", true)
  | 2 => ("WhoSpeaks$Paragraph", "count", "I", false)
  | 3 => ("WhoSpeaks$Paragraph", "on", "Z", false)
  | 4 => ("WhoSpeaks$Paragraph", "here", "I", false)
  | 5 => ("WhoSpeaks$Paragraph", "hint", "I", false)
  | 6 => ("WhoSpeaks$Paragraph", "quoteCount", "I", false)
  | 7 => ("WhoSpeaks$Paragraph", "mentioned", "I", false)
  | 8 => ("WhoSpeaks$Paragraph", "spokenTo", "I", false)
  | 9 => ("WhoSpeaks$Paragraph", "verbCount", "I", false)
  | 10 => ("WhoSpeaks$Paragraph", "verbNames", "I", false)
  | 11 => ("WhoSpeaks$Paragraph", "heSpeaks", "Z", false)
  | 12 => ("WhoSpeaks$Paragraph", "sheSpeaks", "Z", false)
  | _ => ("WhoSpeaks$Paragraph", "doers", "I", false)
def tyX1 : Nat → FieldType := fun k => match k with
  | 0 => .array .int
  | 1 => .array .int
  | 2 => .int
  | 3 => .boolean
  | 4 => .int
  | 5 => .int
  | 6 => .int
  | 7 => .int
  | 8 => .int
  | 9 => .int
  | 10 => .int
  | 11 => .boolean
  | 12 => .boolean
  | _ => .int
abbrev wsX10 : List Cond := u_ws RX1 TX1 14
theorem nmX1 : ∀ a, a < 14 → ∀ b, b < 14 → a ≠ b → (TX1 a).2.1 ≠ (TX1 b).2.1 := by decide +kernel
theorem tyX1_ok : ∀ k, k < 14 → parseFieldDescriptor (TX1 k).2.2.1 = some (tyX1 k) := by decide +kernel
abbrev cX1_init : ByteArray := prog_3_method_1_code
def yX1_init : MethodName := ⟨RX1, "<init>", "()V"⟩
abbrev cX1_forgetAll : ByteArray := prog_3_method_2_code
def yX1_forgetAll : MethodName := ⟨RX1, "forgetAll", "()V"⟩
abbrev cX1_read : ByteArray := prog_3_method_3_code
def yX1_read : MethodName := ⟨RX1, "read", "(LWhoSpeaks$Tape;I)V"⟩
abbrev cX1_addItem : ByteArray := prog_3_method_4_code
def yX1_addItem : MethodName := ⟨RX1, "addItem", "(I)V"⟩
abbrev cX1_noteSpokenTo : ByteArray := prog_3_method_5_code
def yX1_noteSpokenTo : MethodName := ⟨RX1, "noteSpokenTo", "(I)V"⟩
abbrev cX1_noteVerbs : ByteArray := prog_3_method_6_code
def yX1_noteVerbs : MethodName := ⟨RX1, "noteVerbs", "()V"⟩
abbrev cX1_noteWho : ByteArray := prog_3_method_7_code
def yX1_noteWho : MethodName := ⟨RX1, "noteWho", "(I)V"⟩
abbrev cX1_noteDoer : ByteArray := prog_3_method_8_code
def yX1_noteDoer : MethodName := ⟨RX1, "noteDoer", "()V"⟩
abbrev cX1_verbCounts : ByteArray := prog_3_method_9_code
def yX1_verbCounts : MethodName := ⟨RX1, "verbCounts", "(II)Z"⟩
abbrev cX1_whoPlace : ByteArray := prog_3_method_10_code
def yX1_whoPlace : MethodName := ⟨RX1, "whoPlace", "(I)I"⟩
abbrev cX1_isWho : ByteArray := prog_3_method_11_code
def yX1_isWho : MethodName := ⟨RX1, "isWho", "(I)Z"⟩
abbrev cX1_kindAt : ByteArray := prog_3_method_12_code
def yX1_kindAt : MethodName := ⟨RX1, "kindAt", "(I)I"⟩
abbrev cX1_personAt : ByteArray := prog_3_method_13_code
def yX1_personAt : MethodName := ⟨RX1, "personAt", "(I)I"⟩
abbrev cX1_takeHint : ByteArray := prog_3_method_14_code
def yX1_takeHint : MethodName := ⟨RX1, "takeHint", "(I)V"⟩
abbrev cX1_length : ByteArray := prog_3_method_15_code
def yX1_length : MethodName := ⟨RX1, "length", "()I"⟩
abbrev cX1_goesOn : ByteArray := prog_3_method_16_code
def yX1_goesOn : MethodName := ⟨RX1, "goesOn", "()Z"⟩
abbrev cX1_hereThen : ByteArray := prog_3_method_17_code
def yX1_hereThen : MethodName := ⟨RX1, "hereThen", "()I"⟩
abbrev cX1_hintSet : ByteArray := prog_3_method_18_code
def yX1_hintSet : MethodName := ⟨RX1, "hintSet", "()I"⟩
abbrev cX1_quotes : ByteArray := prog_3_method_19_code
def yX1_quotes : MethodName := ⟨RX1, "quotes", "()I"⟩
abbrev cX1_speaks : ByteArray := prog_3_method_20_code
def yX1_speaks : MethodName := ⟨RX1, "speaks", "()Z"⟩
abbrev cX1_countingVerbs : ByteArray := prog_3_method_21_code
def yX1_countingVerbs : MethodName := ⟨RX1, "countingVerbs", "()I"⟩
abbrev cX1_mentions : ByteArray := prog_3_method_22_code
def yX1_mentions : MethodName := ⟨RX1, "mentions", "(I)Z"⟩
abbrev cX1_ownSet : ByteArray := prog_3_method_23_code
def yX1_ownSet : MethodName := ⟨RX1, "ownSet", "(LWhoSpeaks$People;I)I"⟩
def RX2 : String := "WhoSpeaks$People"
def TX2 : u_T := fun k => match k with
  | 0 => ("WhoSpeaks$People", "sorts", "[I", true)
  | _ => ("WhoSpeaks$People", "there", "I", false)
def tyX2 : Nat → FieldType := fun k => match k with
  | 0 => .array .int
  | _ => .int
abbrev wsX20 : List Cond := u_ws RX2 TX2 2
theorem nmX2 : ∀ a, a < 2 → ∀ b, b < 2 → a ≠ b → (TX2 a).2.1 ≠ (TX2 b).2.1 := by decide +kernel
theorem tyX2_ok : ∀ k, k < 2 → parseFieldDescriptor (TX2 k).2.2.1 = some (tyX2 k) := by decide +kernel
abbrev cX2_init : ByteArray := prog_4_method_1_code
def yX2_init : MethodName := ⟨RX2, "<init>", "()V"⟩
abbrev cX2_thereSet : ByteArray := prog_4_method_2_code
def yX2_thereSet : MethodName := ⟨RX2, "thereSet", "()I"⟩
abbrev cX2_isThere : ByteArray := prog_4_method_3_code
def yX2_isThere : MethodName := ⟨RX2, "isThere", "(I)Z"⟩
abbrev cX2_sortOf : ByteArray := prog_4_method_4_code
def yX2_sortOf : MethodName := ⟨RX2, "sortOf", "(I)I"⟩
abbrev cX2_allOfSort : ByteArray := prog_4_method_5_code
def yX2_allOfSort : MethodName := ⟨RX2, "allOfSort", "(I)I"⟩
abbrev cX2_isName : ByteArray := prog_4_method_6_code
def yX2_isName : MethodName := ⟨RX2, "isName", "(I)Z"⟩
abbrev cX2_bring : ByteArray := prog_4_method_7_code
def yX2_bring : MethodName := ⟨RX2, "bring", "(II)V"⟩
abbrev cX2_takeAway : ByteArray := prog_4_method_8_code
def yX2_takeAway : MethodName := ⟨RX2, "takeAway", "(I)V"⟩
def RX3 : String := "WhoSpeaks$Story"
def TX3 : u_T := fun k => match k with
  | 0 => ("WhoSpeaks$Story", "paragraphs", "[LWhoSpeaks$Paragraph;", true)
  | 1 => ("WhoSpeaks$Story", "blank", "LWhoSpeaks$Paragraph;", true)
  | _ => ("WhoSpeaks$Story", "count", "I", false)
def tyX3 : Nat → FieldType := fun k => match k with
  | 0 => .array (.object "WhoSpeaks$Paragraph")
  | 1 => .object "WhoSpeaks$Paragraph"
  | _ => .int
abbrev wsX30 : List Cond := u_ws RX3 TX3 3
theorem nmX3 : ∀ a, a < 3 → ∀ b, b < 3 → a ≠ b → (TX3 a).2.1 ≠ (TX3 b).2.1 := by decide +kernel
theorem tyX3_ok : ∀ k, k < 3 → parseFieldDescriptor (TX3 k).2.2.1 = some (tyX3 k) := by decide +kernel
abbrev cX3_init : ByteArray := prog_5_method_1_code
def yX3_init : MethodName := ⟨RX3, "<init>", "()V"⟩
abbrev cX3_length : ByteArray := prog_5_method_2_code
def yX3_length : MethodName := ⟨RX3, "length", "()I"⟩
abbrev cX3_isFull : ByteArray := prog_5_method_3_code
def yX3_isFull : MethodName := ⟨RX3, "isFull", "()Z"⟩
abbrev cX3_holds : ByteArray := prog_5_method_4_code
def yX3_holds : MethodName := ⟨RX3, "holds", "(I)Z"⟩
abbrev cX3_paragraphAt : ByteArray := prog_5_method_5_code
def yX3_paragraphAt : MethodName := ⟨RX3, "paragraphAt", "(I)LWhoSpeaks$Paragraph;"⟩
abbrev cX3_speaksAt : ByteArray := prog_5_method_6_code
def yX3_speaksAt : MethodName := ⟨RX3, "speaksAt", "(I)Z"⟩
abbrev cX3_mayGoOn : ByteArray := prog_5_method_7_code
def yX3_mayGoOn : MethodName := ⟨RX3, "mayGoOn", "()Z"⟩
abbrev cX3_append : ByteArray := prog_5_method_8_code
def yX3_append : MethodName := ⟨RX3, "append", "(LWhoSpeaks$Tape;I)V"⟩
abbrev cX3_dropLast : ByteArray := prog_5_method_9_code
def yX3_dropLast : MethodName := ⟨RX3, "dropLast", "()V"⟩
abbrev cX3_namesAnywhere : ByteArray := prog_5_method_10_code
def yX3_namesAnywhere : MethodName := ⟨RX3, "namesAnywhere", "(I)Z"⟩
abbrev cX3_linkAhead : ByteArray := prog_5_method_11_code
def yX3_linkAhead : MethodName := ⟨RX3, "linkAhead", "(II)I"⟩
abbrev cX3_speaking : ByteArray := prog_5_method_12_code
def yX3_speaking : MethodName := ⟨RX3, "speaking", "()I"⟩
abbrev cX3_hints : ByteArray := prog_5_method_13_code
def yX3_hints : MethodName := ⟨RX3, "hints", "()I"⟩
abbrev cX3_runs : ByteArray := prog_5_method_14_code
def yX3_runs : MethodName := ⟨RX3, "runs", "()I"⟩
abbrev cX3_beginsRun : ByteArray := prog_5_method_15_code
def yX3_beginsRun : MethodName := ⟨RX3, "beginsRun", "(I)Z"⟩
abbrev cX3_firstOfRun : ByteArray := prog_5_method_16_code
def yX3_firstOfRun : MethodName := ⟨RX3, "firstOfRun", "(I)I"⟩
abbrev cX3_runLength : ByteArray := prog_5_method_17_code
def yX3_runLength : MethodName := ⟨RX3, "runLength", "(I)I"⟩
def RX4 : String := "WhoSpeaks$Tape"
def TX4 : u_T := fun k => match k with
  | 0 => ("WhoSpeaks$Tape", "codes", "[I", true)
  | _ => ("WhoSpeaks$Tape", "count", "I", false)
def tyX4 : Nat → FieldType := fun k => match k with
  | 0 => .array .int
  | _ => .int
abbrev wsX40 : List Cond := u_ws RX4 TX4 2
theorem nmX4 : ∀ a, a < 2 → ∀ b, b < 2 → a ≠ b → (TX4 a).2.1 ≠ (TX4 b).2.1 := by decide +kernel
theorem tyX4_ok : ∀ k, k < 2 → parseFieldDescriptor (TX4 k).2.2.1 = some (tyX4 k) := by decide +kernel
abbrev cX4_init : ByteArray := prog_6_method_1_code
def yX4_init : MethodName := ⟨RX4, "<init>", "()V"⟩
abbrev cX4_length : ByteArray := prog_6_method_2_code
def yX4_length : MethodName := ⟨RX4, "length", "()I"⟩
abbrev cX4_isFull : ByteArray := prog_6_method_3_code
def yX4_isFull : MethodName := ⟨RX4, "isFull", "()Z"⟩
abbrev cX4_codeAt : ByteArray := prog_6_method_4_code
def yX4_codeAt : MethodName := ⟨RX4, "codeAt", "(I)I"⟩
abbrev cX4_put : ByteArray := prog_6_method_5_code
def yX4_put : MethodName := ⟨RX4, "put", "(I)V"⟩
abbrev cX4_clear : ByteArray := prog_6_method_6_code
def yX4_clear : MethodName := ⟨RX4, "clear", "()V"⟩
abbrev cX4_firstFault : ByteArray := prog_6_method_7_code
def yX4_firstFault : MethodName := ⟨RX4, "firstFault", "(LWhoSpeaks$People;Z)I"⟩
abbrev cX4_mayStand : ByteArray := prog_6_method_8_code
def yX4_mayStand : MethodName := ⟨RX4, "mayStand", "(ILWhoSpeaks$People;Z)Z"⟩
def RX5 : String := "WhoSpeaks"
def TX5 : u_T := fun k => match k with
  | 0 => ("WhoSpeaks", "people", "LWhoSpeaks$People;", true)
  | 1 => ("WhoSpeaks", "tape", "LWhoSpeaks$Tape;", true)
  | 2 => ("WhoSpeaks", "story", "LWhoSpeaks$Story;", true)
  | 3 => ("WhoSpeaks", "chain", "LWhoSpeaks$Chain;", true)
  | 4 => ("WhoSpeaks", "narrowedBefore", "[I", true)
  | 5 => ("WhoSpeaks", "hasCounts", "[I", true)
  | 6 => ("WhoSpeaks", "mayCounts", "[I", true)
  | 7 => ("WhoSpeaks", "hereSet", "I", false)
  | _ => ("WhoSpeaks", "ruleSet", "I", false)
def tyX5 : Nat → FieldType := fun k => match k with
  | 0 => .object "WhoSpeaks$People"
  | 1 => .object "WhoSpeaks$Tape"
  | 2 => .object "WhoSpeaks$Story"
  | 3 => .object "WhoSpeaks$Chain"
  | 4 => .array .int
  | 5 => .array .int
  | 6 => .array .int
  | 7 => .int
  | _ => .int
abbrev wsX50 : List Cond := u_ws RX5 TX5 9
theorem nmX5 : ∀ a, a < 9 → ∀ b, b < 9 → a ≠ b → (TX5 a).2.1 ≠ (TX5 b).2.1 := by decide +kernel
theorem tyX5_ok : ∀ k, k < 9 → parseFieldDescriptor (TX5 k).2.2.1 = some (tyX5 k) := by decide +kernel
abbrev cX5_init : ByteArray := prog_1_method_1_code
def yX5_init : MethodName := ⟨RX5, "<init>", "()V"⟩
abbrev cX5_person : ByteArray := prog_1_method_2_code
def yX5_person : MethodName := ⟨RX5, "person", "(II)I"⟩
abbrev cX5_away : ByteArray := prog_1_method_3_code
def yX5_away : MethodName := ⟨RX5, "away", "(I)I"⟩
abbrev cX5_here : ByteArray := prog_1_method_4_code
def yX5_here : MethodName := ⟨RX5, "here", "(I)I"⟩
abbrev cX5_rules : ByteArray := prog_1_method_5_code
def yX5_rules : MethodName := ⟨RX5, "rules", "(I)I"⟩
abbrev cX5_key : ByteArray := prog_1_method_6_code
def yX5_key : MethodName := ⟨RX5, "key", "(I)I"⟩
abbrev cX5_wipe : ByteArray := prog_1_method_7_code
def yX5_wipe : MethodName := ⟨RX5, "wipe", "()I"⟩
abbrev cX5_paragraph : ByteArray := prog_1_method_8_code
def yX5_paragraph : MethodName := ⟨RX5, "paragraph", "()I"⟩
abbrev cX5_cut : ByteArray := prog_1_method_9_code
def yX5_cut : MethodName := ⟨RX5, "cut", "()I"⟩
abbrev cX5_ofParagraph : ByteArray := prog_1_method_10_code
def yX5_ofParagraph : MethodName := ⟨RX5, "ofParagraph", "(II)I"⟩
abbrev cX5_set : ByteArray := prog_1_method_11_code
def yX5_set : MethodName := ⟨RX5, "set", "(II)I"⟩
abbrev cX5_hint : ByteArray := prog_1_method_12_code
def yX5_hint : MethodName := ⟨RX5, "hint", "(II)I"⟩
abbrev cX5_link : ByteArray := prog_1_method_13_code
def yX5_link : MethodName := ⟨RX5, "link", "(I)I"⟩
abbrev cX5_ways : ByteArray := prog_1_method_14_code
def yX5_ways : MethodName := ⟨RX5, "ways", "()J"⟩
abbrev cX5_would : ByteArray := prog_1_method_15_code
def yX5_would : MethodName := ⟨RX5, "would", "(II)J"⟩
abbrev cX5_conflict : ByteArray := prog_1_method_16_code
def yX5_conflict : MethodName := ⟨RX5, "conflict", "(I)I"⟩
abbrev cX5_asked : ByteArray := prog_1_method_17_code
def yX5_asked : MethodName := ⟨RX5, "asked", "()I"⟩
abbrev cX5_run : ByteArray := prog_1_method_18_code
def yX5_run : MethodName := ⟨RX5, "run", "(II)I"⟩
abbrev cX5_ofPerson : ByteArray := prog_1_method_19_code
def yX5_ofPerson : MethodName := ⟨RX5, "ofPerson", "(II)I"⟩
abbrev cX5_rank : ByteArray := prog_1_method_20_code
def yX5_rank : MethodName := ⟨RX5, "rank", "(I)I"⟩
abbrev cX5_written : ByteArray := prog_1_method_21_code
def yX5_written : MethodName := ⟨RX5, "written", "(II)I"⟩
abbrev cX5_many : ByteArray := prog_1_method_22_code
def yX5_many : MethodName := ⟨RX5, "many", "(I)I"⟩
abbrev cX5_isWithin : ByteArray := prog_1_method_23_code
def yX5_isWithin : MethodName := ⟨RX5, "isWithin", "(II)Z"⟩
abbrev cX5_bitOf : ByteArray := prog_1_method_24_code
def yX5_bitOf : MethodName := ⟨RX5, "bitOf", "(I)I"⟩
abbrev cX5_fillChain : ByteArray := prog_1_method_25_code
def yX5_fillChain : MethodName := ⟨RX5, "fillChain", "()V"⟩
abbrev cX5_keepNarrowedSets : ByteArray := prog_1_method_26_code
def yX5_keepNarrowedSets : MethodName := ⟨RX5, "keepNarrowedSets", "()V"⟩
abbrev cX5_changedNarrowedSets : ByteArray := prog_1_method_27_code
def yX5_changedNarrowedSets : MethodName := ⟨RX5, "changedNarrowedSets", "()I"⟩
abbrev cX5_placeByRank : ByteArray := prog_1_method_28_code
def yX5_placeByRank : MethodName := ⟨RX5, "placeByRank", "(I)I"⟩
abbrev cX5_ranksAhead : ByteArray := prog_1_method_29_code
def yX5_ranksAhead : MethodName := ⟨RX5, "ranksAhead", "(II)Z"⟩
abbrev cX5_signOfOne : ByteArray := prog_1_method_30_code
def yX5_signOfOne : MethodName := ⟨RX5, "signOfOne", "(II)I"⟩
abbrev cX5_signOfSet : ByteArray := prog_1_method_31_code
def yX5_signOfSet : MethodName := ⟨RX5, "signOfSet", "(II)I"⟩
abbrev cX5_memberOf : ByteArray := prog_1_method_32_code
def yX5_memberOf : MethodName := ⟨RX5, "memberOf", "(II)I"⟩
def RX6 : String := "WhoSpeaksModel"
def TX6 : u_T := fun k => match k with
  | 0 => ("WhoSpeaksModel", "sortOf", "[I", true)
  | 1 => ("WhoSpeaksModel", "here", "I", false)
  | 2 => ("WhoSpeaksModel", "rules", "I", false)
  | 3 => ("WhoSpeaksModel", "tape", "[I", true)
  | 4 => ("WhoSpeaksModel", "taped", "I", false)
  | 5 => ("WhoSpeaksModel", "paragraphs", "I", false)
  | 6 => ("WhoSpeaksModel", "itemsOf", "[I", true)
  | 7 => ("WhoSpeaksModel", "item", "[I", true)
  | 8 => ("WhoSpeaksModel", "whom", "[I", true)
  | 9 => ("WhoSpeaksModel", "goesOn", "[Z", true)
  | 10 => ("WhoSpeaksModel", "wereHere", "[I", true)
  | 11 => ("WhoSpeaksModel", "hintOf", "[I", true)
  | 12 => ("WhoSpeaksModel", "place", "I", false)
  | 13 => ("WhoSpeaksModel", "own", "[I", true)
  | 14 => ("WhoSpeaksModel", "narrowed", "[I", true)
  | 15 => ("WhoSpeaksModel", "then", "[I", true)
  | 16 => ("WhoSpeaksModel", "ahead", "[I", true)
  | 17 => ("WhoSpeaksModel", "upTo", "[J", true)
  | 18 => ("WhoSpeaksModel", "from", "[J", true)
  | 19 => ("WhoSpeaksModel", "sure", "[I", true)
  | _ => ("WhoSpeaksModel", "text", "[I", true)
def tyX6 : Nat → FieldType := fun k => match k with
  | 0 => .array .int
  | 1 => .int
  | 2 => .int
  | 3 => .array .int
  | 4 => .int
  | 5 => .int
  | 6 => .array .int
  | 7 => .array .int
  | 8 => .array .int
  | 9 => .array .boolean
  | 10 => .array .int
  | 11 => .array .int
  | 12 => .int
  | 13 => .array .int
  | 14 => .array .int
  | 15 => .array .int
  | 16 => .array .int
  | 17 => .array .long
  | 18 => .array .long
  | 19 => .array .int
  | _ => .array .int
abbrev wsX60 : List Cond := u_ws RX6 TX6 21
theorem nmX6 : ∀ a, a < 21 → ∀ b, b < 21 → a ≠ b → (TX6 a).2.1 ≠ (TX6 b).2.1 := by decide +kernel
theorem tyX6_ok : ∀ k, k < 21 → parseFieldDescriptor (TX6 k).2.2.1 = some (tyX6 k) := by decide +kernel
abbrev cX6_init : ByteArray := prog_8_method_1_code
def yX6_init : MethodName := ⟨RX6, "<init>", "()V"⟩
abbrev cX6_within : ByteArray := prog_8_method_2_code
def yX6_within : MethodName := ⟨RX6, "within", "(III)Z"⟩
abbrev cX6_has : ByteArray := prog_8_method_3_code
def yX6_has : MethodName := ⟨RX6, "has", "(II)Z"⟩
abbrev cX6_size : ByteArray := prog_8_method_4_code
def yX6_size : MethodName := ⟨RX6, "size", "(I)I"⟩
abbrev cX6_isThere : ByteArray := prog_8_method_5_code
def yX6_isThere : MethodName := ⟨RX6, "isThere", "(I)Z"⟩
abbrev cX6_there : ByteArray := prog_8_method_6_code
def yX6_there : MethodName := ⟨RX6, "there", "()I"⟩
abbrev cX6_person : ByteArray := prog_8_method_7_code
def yX6_person : MethodName := ⟨RX6, "person", "(II)I"⟩
abbrev cX6_isNamed : ByteArray := prog_8_method_8_code
def yX6_isNamed : MethodName := ⟨RX6, "isNamed", "(I)Z"⟩
abbrev cX6_away : ByteArray := prog_8_method_9_code
def yX6_away : MethodName := ⟨RX6, "away", "(I)I"⟩
abbrev cX6_here : ByteArray := prog_8_method_10_code
def yX6_here : MethodName := ⟨RX6, "here", "(I)I"⟩
abbrev cX6_rules : ByteArray := prog_8_method_11_code
def yX6_rules : MethodName := ⟨RX6, "rules", "(I)I"⟩
abbrev cX6_key : ByteArray := prog_8_method_12_code
def yX6_key : MethodName := ⟨RX6, "key", "(I)I"⟩
abbrev cX6_wipe : ByteArray := prog_8_method_13_code
def yX6_wipe : MethodName := ⟨RX6, "wipe", "()I"⟩
abbrev cX6_isParagraph : ByteArray := prog_8_method_14_code
def yX6_isParagraph : MethodName := ⟨RX6, "isParagraph", "(I)Z"⟩
abbrev cX6_manyOf : ByteArray := prog_8_method_15_code
def yX6_manyOf : MethodName := ⟨RX6, "manyOf", "(II)I"⟩
abbrev cX6_speaks : ByteArray := prog_8_method_16_code
def yX6_speaks : MethodName := ⟨RX6, "speaks", "(I)Z"⟩
abbrev cX6_sortOfItem : ByteArray := prog_8_method_17_code
def yX6_sortOfItem : MethodName := ⟨RX6, "sortOfItem", "(I)I"⟩
abbrev cX6_isNameHere : ByteArray := prog_8_method_18_code
def yX6_isNameHere : MethodName := ⟨RX6, "isNameHere", "()Z"⟩
abbrev cX6_readsItem : ByteArray := prog_8_method_19_code
def yX6_readsItem : MethodName := ⟨RX6, "readsItem", "(I)Z"⟩
abbrev cX6_readsText : ByteArray := prog_8_method_20_code
def yX6_readsText : MethodName := ⟨RX6, "readsText", "(I)Z"⟩
abbrev cX6_paragraph : ByteArray := prog_8_method_21_code
def yX6_paragraph : MethodName := ⟨RX6, "paragraph", "()I"⟩
abbrev cX6_cut : ByteArray := prog_8_method_22_code
def yX6_cut : MethodName := ⟨RX6, "cut", "()I"⟩
abbrev cX6_isItem : ByteArray := prog_8_method_23_code
def yX6_isItem : MethodName := ⟨RX6, "isItem", "(III)Z"⟩
abbrev cX6_isWho : ByteArray := prog_8_method_24_code
def yX6_isWho : MethodName := ⟨RX6, "isWho", "(II)Z"⟩
abbrev cX6_whoOf : ByteArray := prog_8_method_25_code
def yX6_whoOf : MethodName := ⟨RX6, "whoOf", "(II)I"⟩
abbrev cX6_counts : ByteArray := prog_8_method_26_code
def yX6_counts : MethodName := ⟨RX6, "counts", "(II)Z"⟩
abbrev cX6_manyCounting : ByteArray := prog_8_method_27_code
def yX6_manyCounting : MethodName := ⟨RX6, "manyCounting", "(I)I"⟩
abbrev cX6_ofParagraph : ByteArray := prog_8_method_28_code
def yX6_ofParagraph : MethodName := ⟨RX6, "ofParagraph", "(II)I"⟩
abbrev cX6_ofSort : ByteArray := prog_8_method_29_code
def yX6_ofSort : MethodName := ⟨RX6, "ofSort", "(I)I"⟩
abbrev cX6_byWho : ByteArray := prog_8_method_30_code
def yX6_byWho : MethodName := ⟨RX6, "byWho", "(II)I"⟩
abbrev cX6_ownOf : ByteArray := prog_8_method_31_code
def yX6_ownOf : MethodName := ⟨RX6, "ownOf", "(I)I"⟩
abbrev cX6_linkAt : ByteArray := prog_8_method_32_code
def yX6_linkAt : MethodName := ⟨RX6, "linkAt", "(I)I"⟩
abbrev cX6_link : ByteArray := prog_8_method_33_code
def yX6_link : MethodName := ⟨RX6, "link", "(I)I"⟩
abbrev cX6_findOwn : ByteArray := prog_8_method_34_code
def yX6_findOwn : MethodName := ⟨RX6, "findOwn", "()V"⟩
abbrev cX6_by : ByteArray := prog_8_method_35_code
def yX6_by : MethodName := ⟨RX6, "by", "(III)I"⟩
abbrev cX6_narrows : ByteArray := prog_8_method_36_code
def yX6_narrows : MethodName := ⟨RX6, "narrows", "()Z"⟩
abbrev cX6_findNarrowed : ByteArray := prog_8_method_37_code
def yX6_findNarrowed : MethodName := ⟨RX6, "findNarrowed", "()V"⟩
abbrev cX6_set : ByteArray := prog_8_method_38_code
def yX6_set : MethodName := ⟨RX6, "set", "(II)I"⟩
abbrev cX6_hint : ByteArray := prog_8_method_39_code
def yX6_hint : MethodName := ⟨RX6, "hint", "(II)I"⟩
abbrev cX6_isAllowed : ByteArray := prog_8_method_40_code
def yX6_isAllowed : MethodName := ⟨RX6, "isAllowed", "(II)Z"⟩
abbrev cX6_may : ByteArray := prog_8_method_41_code
def yX6_may : MethodName := ⟨RX6, "may", "(III)Z"⟩
abbrev cX6_countUp : ByteArray := prog_8_method_42_code
def yX6_countUp : MethodName := ⟨RX6, "countUp", "(II)J"⟩
abbrev cX6_countDown : ByteArray := prog_8_method_43_code
def yX6_countDown : MethodName := ⟨RX6, "countDown", "()V"⟩
abbrev cX6_findWays : ByteArray := prog_8_method_44_code
def yX6_findWays : MethodName := ⟨RX6, "findWays", "()J"⟩
abbrev cX6_waysWith : ByteArray := prog_8_method_45_code
def yX6_waysWith : MethodName := ⟨RX6, "waysWith", "(II)J"⟩
abbrev cX6_ways : ByteArray := prog_8_method_46_code
def yX6_ways : MethodName := ⟨RX6, "ways", "()J"⟩
abbrev cX6_would : ByteArray := prog_8_method_47_code
def yX6_would : MethodName := ⟨RX6, "would", "(II)J"⟩
abbrev cX6_findSure : ByteArray := prog_8_method_48_code
def yX6_findSure : MethodName := ⟨RX6, "findSure", "()V"⟩
abbrev cX6_conflict : ByteArray := prog_8_method_49_code
def yX6_conflict : MethodName := ⟨RX6, "conflict", "(I)I"⟩
abbrev cX6_asked : ByteArray := prog_8_method_50_code
def yX6_asked : MethodName := ⟨RX6, "asked", "()I"⟩
abbrev cX6_beginsRun : ByteArray := prog_8_method_51_code
def yX6_beginsRun : MethodName := ⟨RX6, "beginsRun", "(I)Z"⟩
abbrev cX6_runs : ByteArray := prog_8_method_52_code
def yX6_runs : MethodName := ⟨RX6, "runs", "()I"⟩
abbrev cX6_run : ByteArray := prog_8_method_53_code
def yX6_run : MethodName := ⟨RX6, "run", "(II)I"⟩
abbrev cX6_manyHad : ByteArray := prog_8_method_54_code
def yX6_manyHad : MethodName := ⟨RX6, "manyHad", "(IZ)I"⟩
abbrev cX6_firstHad : ByteArray := prog_8_method_55_code
def yX6_firstHad : MethodName := ⟨RX6, "firstHad", "(IZ)I"⟩
abbrev cX6_ofPerson : ByteArray := prog_8_method_56_code
def yX6_ofPerson : MethodName := ⟨RX6, "ofPerson", "(II)I"⟩
abbrev cX6_aheadOf : ByteArray := prog_8_method_57_code
def yX6_aheadOf : MethodName := ⟨RX6, "aheadOf", "(I)I"⟩
abbrev cX6_rank : ByteArray := prog_8_method_58_code
def yX6_rank : MethodName := ⟨RX6, "rank", "(I)I"⟩
abbrev cX6_writes : ByteArray := prog_8_method_59_code
def yX6_writes : MethodName := ⟨RX6, "writes", "(I)I"⟩
abbrev cX6_written : ByteArray := prog_8_method_60_code
def yX6_written : MethodName := ⟨RX6, "written", "(II)I"⟩
abbrev cX6_manySpeak : ByteArray := prog_8_method_61_code
def yX6_manySpeak : MethodName := ⟨RX6, "manySpeak", "()I"⟩
abbrev cX6_manySure : ByteArray := prog_8_method_62_code
def yX6_manySure : MethodName := ⟨RX6, "manySure", "()I"⟩
abbrev cX6_manyHints : ByteArray := prog_8_method_63_code
def yX6_manyHints : MethodName := ⟨RX6, "manyHints", "()I"⟩
abbrev cX6_many : ByteArray := prog_8_method_64_code
def yX6_many : MethodName := ⟨RX6, "many", "(I)I"⟩
def RJ6 : String := "java/lang/Integer"
def TJ6 : u_T := fun k => match k with
  | _ => ("", "", "", false)
def tyJ6 : Nat → FieldType := fun k => match k with
  | _ => .int
abbrev wsJ60 : List Cond := u_ws RJ6 TJ6 0
theorem nmJ6 : ∀ a, a < 0 → ∀ b, b < 0 → a ≠ b → (TJ6 a).2.1 ≠ (TJ6 b).2.1 := by decide +kernel
theorem tyJ6_ok : ∀ k, k < 0 → parseFieldDescriptor (TJ6 k).2.2.1 = some (tyJ6 k) := by decide +kernel
abbrev cJ6_bitCount_0f7a4 : ByteArray := prog_9_method_49_code
def yJ6_bitCount_0f7a4 : MethodName := ⟨RJ6, "bitCount", "(I)I"⟩
def RJ9 : String := "java/lang/Math"
def TJ9 : u_T := fun k => match k with
  | _ => ("", "", "", false)
def tyJ9 : Nat → FieldType := fun k => match k with
  | _ => .int
abbrev wsJ90 : List Cond := u_ws RJ9 TJ9 0
theorem nmJ9 : ∀ a, a < 0 → ∀ b, b < 0 → a ≠ b → (TJ9 a).2.1 ≠ (TJ9 b).2.1 := by decide +kernel
theorem tyJ9_ok : ∀ k, k < 0 → parseFieldDescriptor (TJ9 k).2.2.1 = some (tyJ9 k) := by decide +kernel
abbrev cJ9_max_7cf53 : ByteArray := prog_10_method_65_code
def yJ9_max_7cf53 : MethodName := ⟨RJ9, "max", "(II)I"⟩
abbrev cJ9_max_f86c9 : ByteArray := prog_10_method_66_code
def yJ9_max_f86c9 : MethodName := ⟨RJ9, "max", "(JJ)J"⟩
abbrev cJ9_min_7cf53 : ByteArray := prog_10_method_69_code
def yJ9_min_7cf53 : MethodName := ⟨RJ9, "min", "(II)I"⟩
def RL : String := "WhoSpeaksLaw"
abbrev cL_law : ByteArray := code
def yL_law : MethodName := ⟨RL, "law", "([I)Z"⟩
def wsX0_init : List Cond := .code yX0_init cX0_init 1 none :: ([.methodLink RX0 3 objectInit, .instanceMethod objectInit, .code objectInit ⟨#[0xb1]⟩ 1 none, .arrayClass .boolean, .fieldLink RX0 9 "WhoSpeaks$Chain" "speaking" "[Z", .arrayClass .int, .fieldLink RX0 15 "WhoSpeaks$Chain" "owns" "[I", .fieldLink RX0 19 "WhoSpeaks$Chain" "links" "[I", .fieldLink RX0 22 "WhoSpeaks$Chain" "narrowed" "[I", .fieldLink RX0 25 "WhoSpeaks$Chain" "earlier" "[I", .arrayClass .long, .fieldLink RX0 28 "WhoSpeaks$Chain" "heads" "[J", .fieldLink RX0 32 "WhoSpeaks$Chain" "tails" "[J", .fieldLink RX0 35 "WhoSpeaks$Chain" "sures" "[I", .fieldLink RX0 38 "WhoSpeaks$Chain" "count" "I"] ++ wsX00)
def wsX0_clear : List Cond := .code yX0_clear cX0_clear 1 none :: ([.fieldLink RX0 38 "WhoSpeaks$Chain" "count" "I"] ++ wsX00)
def wsX5_isWithin : List Cond := .code yX5_isWithin cX5_isWithin 2 (some .boolean) :: ([])
def wsX0_append : List Cond := .code yX0_append cX0_append 4 none :: ([.fieldLink RX0 38 "WhoSpeaks$Chain" "count" "I", .fieldLink RX0 9 "WhoSpeaks$Chain" "speaking" "[Z", .fieldLink RX0 15 "WhoSpeaks$Chain" "owns" "[I", .fieldLink RX0 19 "WhoSpeaks$Chain" "links" "[I", .static yX5_isWithin, .initialized RX5, .code yX5_isWithin cX5_isWithin 2 (some .boolean)] ++ wsX00)
def wsX0_holds : List Cond := .code yX0_holds cX0_holds 2 (some .boolean) :: ([.fieldLink RX0 38 "WhoSpeaks$Chain" "count" "I", .static yX5_isWithin, .initialized RX5, .code yX5_isWithin cX5_isWithin 2 (some .boolean)] ++ wsX00)
def wsX0_ownSet : List Cond := .code yX0_ownSet cX0_ownSet 2 (some .int) :: ([.fieldLink RX0 15 "WhoSpeaks$Chain" "owns" "[I", .methodLink RX0 46 yX0_holds, .instanceMethod yX0_holds, .selects RX0 yX0_holds yX0_holds, .initialized RX0, .code yX0_holds cX0_holds 2 (some .boolean), .fieldLink RX0 38 "WhoSpeaks$Chain" "count" "I", .static yX5_isWithin, .initialized RX5, .code yX5_isWithin cX5_isWithin 2 (some .boolean)] ++ wsX00)
def wsX0_linkAt : List Cond := .code yX0_linkAt cX0_linkAt 2 (some .int) :: ([.fieldLink RX0 19 "WhoSpeaks$Chain" "links" "[I", .methodLink RX0 46 yX0_holds, .instanceMethod yX0_holds, .selects RX0 yX0_holds yX0_holds, .initialized RX0, .code yX0_holds cX0_holds 2 (some .boolean), .fieldLink RX0 38 "WhoSpeaks$Chain" "count" "I", .static yX5_isWithin, .initialized RX5, .code yX5_isWithin cX5_isWithin 2 (some .boolean)] ++ wsX00)
def wsX5_bitOf : List Cond := .code yX5_bitOf cX5_bitOf 1 (some .int) :: ([])
def wsX0_ownSetsWith : List Cond := .code yX0_ownSetsWith cX0_ownSetsWith 4 (some .int) :: ([.fieldLink RX0 38 "WhoSpeaks$Chain" "count" "I", .methodLink RX0 50 yX0_ownSet, .instanceMethod yX0_ownSet, .selects RX0 yX0_ownSet yX0_ownSet, .initialized RX0, .code yX0_ownSet cX0_ownSet 2 (some .int), .fieldLink RX0 15 "WhoSpeaks$Chain" "owns" "[I", .methodLink RX0 46 yX0_holds, .instanceMethod yX0_holds, .selects RX0 yX0_holds yX0_holds, .code yX0_holds cX0_holds 2 (some .boolean), .static yX5_isWithin, .initialized RX5, .code yX5_isWithin cX5_isWithin 2 (some .boolean), .static yX5_bitOf, .code yX5_bitOf cX5_bitOf 1 (some .int)] ++ wsX00)
def wsX0_ownSetsJoined : List Cond := .code yX0_ownSetsJoined cX0_ownSetsJoined 5 (some .int) :: ([.methodLink RX0 50 yX0_ownSet, .instanceMethod yX0_ownSet, .selects RX0 yX0_ownSet yX0_ownSet, .initialized RX0, .code yX0_ownSet cX0_ownSet 2 (some .int), .fieldLink RX0 15 "WhoSpeaks$Chain" "owns" "[I", .methodLink RX0 46 yX0_holds, .instanceMethod yX0_holds, .selects RX0 yX0_holds yX0_holds, .code yX0_holds cX0_holds 2 (some .boolean), .fieldLink RX0 38 "WhoSpeaks$Chain" "count" "I", .static yX5_isWithin, .initialized RX5, .code yX5_isWithin cX5_isWithin 2 (some .boolean)] ++ wsX00)
def wsX0_narrowedSet : List Cond := .code yX0_narrowedSet cX0_narrowedSet 2 (some .int) :: ([.fieldLink RX0 22 "WhoSpeaks$Chain" "narrowed" "[I", .methodLink RX0 46 yX0_holds, .instanceMethod yX0_holds, .selects RX0 yX0_holds yX0_holds, .initialized RX0, .code yX0_holds cX0_holds 2 (some .boolean), .fieldLink RX0 38 "WhoSpeaks$Chain" "count" "I", .static yX5_isWithin, .initialized RX5, .code yX5_isWithin cX5_isWithin 2 (some .boolean)] ++ wsX00)
def wsX0_earlierSet : List Cond := .code yX0_earlierSet cX0_earlierSet 2 (some .int) :: ([.fieldLink RX0 25 "WhoSpeaks$Chain" "earlier" "[I", .methodLink RX0 46 yX0_holds, .instanceMethod yX0_holds, .selects RX0 yX0_holds yX0_holds, .initialized RX0, .code yX0_holds cX0_holds 2 (some .boolean), .fieldLink RX0 38 "WhoSpeaks$Chain" "count" "I", .static yX5_isWithin, .initialized RX5, .code yX5_isWithin cX5_isWithin 2 (some .boolean)] ++ wsX00)
def wsJ6_bitCount_0f7a4 : List Cond := .code yJ6_bitCount_0f7a4 cJ6_bitCount_0f7a4 1 (some .int) :: ([.constant RJ6 265 (1431655765), .constant RJ6 266 (858993459), .constant RJ6 267 (252645135)])
def wsX0_leftBy : List Cond := .code yX0_leftBy cX0_leftBy 3 (some .int) :: ([.methodLink RX0 71 yJ6_bitCount_0f7a4, .static yJ6_bitCount_0f7a4, .initialized RJ6, .code yJ6_bitCount_0f7a4 cJ6_bitCount_0f7a4 1 (some .int), .constant RJ6 265 (1431655765), .constant RJ6 266 (858993459), .constant RJ6 267 (252645135)])
def wsX0_narrowOnce_r1 : List Cond := [Cond.fieldLink RX0 25 "WhoSpeaks$Chain" "earlier" "[I", Cond.fieldLink RX0 22 "WhoSpeaks$Chain" "narrowed" "[I", Cond.methodLink RX0 61 yX0_earlierSet, Cond.instanceMethod yX0_earlierSet, Cond.selects RX0 yX0_earlierSet yX0_earlierSet, Cond.initialized RX0, Cond.code yX0_earlierSet cX0_earlierSet 2 (some .int), Cond.methodLink RX0 46 yX0_holds, Cond.instanceMethod yX0_holds, Cond.selects RX0 yX0_holds yX0_holds, Cond.code yX0_holds cX0_holds 2 (some .boolean), Cond.fieldLink RX0 38 "WhoSpeaks$Chain" "count" "I", Cond.static yX5_isWithin, Cond.initialized RX5, Cond.code yX5_isWithin cX5_isWithin 2 (some .boolean), Cond.methodLink RX0 64 yX0_linkAt, Cond.instanceMethod yX0_linkAt, Cond.selects RX0 yX0_linkAt yX0_linkAt, Cond.code yX0_linkAt cX0_linkAt 2 (some .int), Cond.fieldLink RX0 19 "WhoSpeaks$Chain" "links" "[I", Cond.methodLink RX0 67 yX0_leftBy, Cond.static yX0_leftBy, Cond.code yX0_leftBy cX0_leftBy 3 (some .int), Cond.methodLink RX0 71 yJ6_bitCount_0f7a4]
def wsX0_narrowOnce_r2 : List Cond := [Cond.static yJ6_bitCount_0f7a4, Cond.initialized RJ6, Cond.code yJ6_bitCount_0f7a4 cJ6_bitCount_0f7a4 1 (some .int), Cond.constant RJ6 265 (1431655765), Cond.constant RJ6 266 (858993459), Cond.constant RJ6 267 (252645135)]
def wsX0_narrowOnce : List Cond := .code yX0_narrowOnce cX0_narrowOnce 3 (some .boolean) :: ((wsX0_narrowOnce_r1 ++ wsX0_narrowOnce_r2) ++ wsX00)
def wsX0_narrow_r1 : List Cond := [Cond.fieldLink RX0 22 "WhoSpeaks$Chain" "narrowed" "[I", Cond.methodLink RX0 50 yX0_ownSet, Cond.instanceMethod yX0_ownSet, Cond.selects RX0 yX0_ownSet yX0_ownSet, Cond.initialized RX0, Cond.code yX0_ownSet cX0_ownSet 2 (some .int), Cond.fieldLink RX0 15 "WhoSpeaks$Chain" "owns" "[I", Cond.methodLink RX0 46 yX0_holds, Cond.instanceMethod yX0_holds, Cond.selects RX0 yX0_holds yX0_holds, Cond.code yX0_holds cX0_holds 2 (some .boolean), Cond.fieldLink RX0 38 "WhoSpeaks$Chain" "count" "I", Cond.static yX5_isWithin, Cond.initialized RX5, Cond.code yX5_isWithin cX5_isWithin 2 (some .boolean), Cond.methodLink RX0 57 yX0_narrowOnce, Cond.instanceMethod yX0_narrowOnce, Cond.selects RX0 yX0_narrowOnce yX0_narrowOnce, Cond.code yX0_narrowOnce cX0_narrowOnce 3 (some .boolean), Cond.fieldLink RX0 25 "WhoSpeaks$Chain" "earlier" "[I", Cond.methodLink RX0 61 yX0_earlierSet, Cond.instanceMethod yX0_earlierSet, Cond.selects RX0 yX0_earlierSet yX0_earlierSet, Cond.code yX0_earlierSet cX0_earlierSet 2 (some .int)]
def wsX0_narrow_r2 : List Cond := [Cond.methodLink RX0 64 yX0_linkAt, Cond.instanceMethod yX0_linkAt, Cond.selects RX0 yX0_linkAt yX0_linkAt, Cond.code yX0_linkAt cX0_linkAt 2 (some .int), Cond.fieldLink RX0 19 "WhoSpeaks$Chain" "links" "[I", Cond.methodLink RX0 67 yX0_leftBy, Cond.static yX0_leftBy, Cond.code yX0_leftBy cX0_leftBy 3 (some .int), Cond.methodLink RX0 71 yJ6_bitCount_0f7a4, Cond.static yJ6_bitCount_0f7a4, Cond.initialized RJ6, Cond.code yJ6_bitCount_0f7a4 cJ6_bitCount_0f7a4 1 (some .int), Cond.constant RJ6 265 (1431655765), Cond.constant RJ6 266 (858993459), Cond.constant RJ6 267 (252645135)]
def wsX0_narrow : List Cond := .code yX0_narrow cX0_narrow 4 none :: ((wsX0_narrow_r1 ++ wsX0_narrow_r2) ++ wsX00)
def wsX0_countAt : List Cond := .code yX0_countAt cX0_countAt 4 (some .long) :: ([.static yX5_isWithin, .initialized RX5, .code yX5_isWithin cX5_isWithin 2 (some .boolean)])
def wsX0_fitting : List Cond := .code yX0_fitting cX0_fitting 5 (some .long) :: ([])
def wsX0_stepOver : List Cond := .code yX0_stepOver cX0_stepOver 13 (some .long) :: ([.fieldLink RX0 9 "WhoSpeaks$Chain" "speaking" "[Z", .methodLink RX0 46 yX0_holds, .instanceMethod yX0_holds, .selects RX0 yX0_holds yX0_holds, .initialized RX0, .code yX0_holds cX0_holds 2 (some .boolean), .fieldLink RX0 38 "WhoSpeaks$Chain" "count" "I", .static yX5_isWithin, .initialized RX5, .code yX5_isWithin cX5_isWithin 2 (some .boolean), .methodLink RX0 50 yX0_ownSet, .instanceMethod yX0_ownSet, .selects RX0 yX0_ownSet yX0_ownSet, .code yX0_ownSet cX0_ownSet 2 (some .int), .fieldLink RX0 15 "WhoSpeaks$Chain" "owns" "[I", .static yX5_bitOf, .code yX5_bitOf cX5_bitOf 1 (some .int), .methodLink RX0 87 yX0_countAt, .static yX0_countAt, .code yX0_countAt cX0_countAt 4 (some .long), .methodLink RX0 91 yX0_fitting, .static yX0_fitting, .code yX0_fitting cX0_fitting 5 (some .long)] ++ wsX00)
def wsX0_waysWithin_r1 : List Cond := [Cond.fieldLink RX0 28 "WhoSpeaks$Chain" "heads" "[J", Cond.methodLink RX0 64 yX0_linkAt, Cond.instanceMethod yX0_linkAt, Cond.selects RX0 yX0_linkAt yX0_linkAt, Cond.initialized RX0, Cond.code yX0_linkAt cX0_linkAt 2 (some .int), Cond.fieldLink RX0 19 "WhoSpeaks$Chain" "links" "[I", Cond.methodLink RX0 46 yX0_holds, Cond.instanceMethod yX0_holds, Cond.selects RX0 yX0_holds yX0_holds, Cond.code yX0_holds cX0_holds 2 (some .boolean), Cond.fieldLink RX0 38 "WhoSpeaks$Chain" "count" "I", Cond.static yX5_isWithin, Cond.initialized RX5, Cond.code yX5_isWithin cX5_isWithin 2 (some .boolean), Cond.methodLink RX0 76 yX0_stepOver, Cond.instanceMethod yX0_stepOver, Cond.selects RX0 yX0_stepOver yX0_stepOver, Cond.code yX0_stepOver cX0_stepOver 13 (some .long), Cond.fieldLink RX0 9 "WhoSpeaks$Chain" "speaking" "[Z", Cond.methodLink RX0 50 yX0_ownSet, Cond.instanceMethod yX0_ownSet, Cond.selects RX0 yX0_ownSet yX0_ownSet, Cond.code yX0_ownSet cX0_ownSet 2 (some .int)]
def wsX0_waysWithin_r2 : List Cond := [Cond.fieldLink RX0 15 "WhoSpeaks$Chain" "owns" "[I", Cond.static yX5_bitOf, Cond.code yX5_bitOf cX5_bitOf 1 (some .int), Cond.methodLink RX0 87 yX0_countAt, Cond.static yX0_countAt, Cond.code yX0_countAt cX0_countAt 4 (some .long), Cond.methodLink RX0 91 yX0_fitting, Cond.static yX0_fitting, Cond.code yX0_fitting cX0_fitting 5 (some .long)]
def wsX0_waysWithin : List Cond := .code yX0_waysWithin cX0_waysWithin 7 (some .long) :: ((wsX0_waysWithin_r1 ++ wsX0_waysWithin_r2) ++ wsX00)
def wsX0_waysThrough : List Cond := .code yX0_waysThrough cX0_waysThrough 3 (some .long) :: ([.fieldLink RX0 9 "WhoSpeaks$Chain" "speaking" "[Z", .fieldLink RX0 28 "WhoSpeaks$Chain" "heads" "[J", .fieldLink RX0 32 "WhoSpeaks$Chain" "tails" "[J", .methodLink RX0 46 yX0_holds, .instanceMethod yX0_holds, .selects RX0 yX0_holds yX0_holds, .initialized RX0, .code yX0_holds cX0_holds 2 (some .boolean), .fieldLink RX0 38 "WhoSpeaks$Chain" "count" "I", .static yX5_isWithin, .initialized RX5, .code yX5_isWithin cX5_isWithin 2 (some .boolean), .methodLink RX0 87 yX0_countAt, .static yX0_countAt, .code yX0_countAt cX0_countAt 4 (some .long)] ++ wsX00)
def wsX0_setThrough : List Cond := .code yX0_setThrough cX0_setThrough 4 (some .int) :: ([.methodLink RX0 95 yX0_waysThrough, .instanceMethod yX0_waysThrough, .selects RX0 yX0_waysThrough yX0_waysThrough, .initialized RX0, .code yX0_waysThrough cX0_waysThrough 3 (some .long), .fieldLink RX0 9 "WhoSpeaks$Chain" "speaking" "[Z", .fieldLink RX0 28 "WhoSpeaks$Chain" "heads" "[J", .fieldLink RX0 32 "WhoSpeaks$Chain" "tails" "[J", .methodLink RX0 46 yX0_holds, .instanceMethod yX0_holds, .selects RX0 yX0_holds yX0_holds, .code yX0_holds cX0_holds 2 (some .boolean), .fieldLink RX0 38 "WhoSpeaks$Chain" "count" "I", .static yX5_isWithin, .initialized RX5, .code yX5_isWithin cX5_isWithin 2 (some .boolean), .methodLink RX0 87 yX0_countAt, .static yX0_countAt, .code yX0_countAt cX0_countAt 4 (some .long), .static yX5_bitOf, .code yX5_bitOf cX5_bitOf 1 (some .int)] ++ wsX00)
def wsX0_countWays_r1 : List Cond := [Cond.fieldLink RX0 38 "WhoSpeaks$Chain" "count" "I", Cond.fieldLink RX0 32 "WhoSpeaks$Chain" "tails" "[J", Cond.fieldLink RX0 35 "WhoSpeaks$Chain" "sures" "[I", Cond.methodLink RX0 64 yX0_linkAt, Cond.instanceMethod yX0_linkAt, Cond.selects RX0 yX0_linkAt yX0_linkAt, Cond.initialized RX0, Cond.code yX0_linkAt cX0_linkAt 2 (some .int), Cond.fieldLink RX0 19 "WhoSpeaks$Chain" "links" "[I", Cond.methodLink RX0 46 yX0_holds, Cond.instanceMethod yX0_holds, Cond.selects RX0 yX0_holds yX0_holds, Cond.code yX0_holds cX0_holds 2 (some .boolean), Cond.static yX5_isWithin, Cond.initialized RX5, Cond.code yX5_isWithin cX5_isWithin 2 (some .boolean), Cond.methodLink RX0 76 yX0_stepOver, Cond.instanceMethod yX0_stepOver, Cond.selects RX0 yX0_stepOver yX0_stepOver, Cond.code yX0_stepOver cX0_stepOver 13 (some .long), Cond.fieldLink RX0 9 "WhoSpeaks$Chain" "speaking" "[Z", Cond.methodLink RX0 50 yX0_ownSet, Cond.instanceMethod yX0_ownSet, Cond.selects RX0 yX0_ownSet yX0_ownSet]
def wsX0_countWays_r2 : List Cond := [Cond.code yX0_ownSet cX0_ownSet 2 (some .int), Cond.fieldLink RX0 15 "WhoSpeaks$Chain" "owns" "[I", Cond.static yX5_bitOf, Cond.code yX5_bitOf cX5_bitOf 1 (some .int), Cond.methodLink RX0 87 yX0_countAt, Cond.static yX0_countAt, Cond.code yX0_countAt cX0_countAt 4 (some .long), Cond.methodLink RX0 91 yX0_fitting, Cond.static yX0_fitting, Cond.code yX0_fitting cX0_fitting 5 (some .long), Cond.methodLink RX0 80 yX0_waysWithin, Cond.instanceMethod yX0_waysWithin, Cond.selects RX0 yX0_waysWithin yX0_waysWithin, Cond.code yX0_waysWithin cX0_waysWithin 7 (some .long), Cond.fieldLink RX0 28 "WhoSpeaks$Chain" "heads" "[J", Cond.methodLink RX0 84 yX0_setThrough, Cond.instanceMethod yX0_setThrough, Cond.selects RX0 yX0_setThrough yX0_setThrough, Cond.code yX0_setThrough cX0_setThrough 4 (some .int), Cond.methodLink RX0 95 yX0_waysThrough, Cond.instanceMethod yX0_waysThrough, Cond.selects RX0 yX0_waysThrough yX0_waysThrough, Cond.code yX0_waysThrough cX0_waysThrough 3 (some .long)]
def wsX0_countWays : List Cond := .code yX0_countWays cX0_countWays 6 (some .long) :: ((wsX0_countWays_r1 ++ wsX0_countWays_r2) ++ wsX00)
def wsX0_sureSet : List Cond := .code yX0_sureSet cX0_sureSet 2 (some .int) :: ([.fieldLink RX0 35 "WhoSpeaks$Chain" "sures" "[I", .methodLink RX0 46 yX0_holds, .instanceMethod yX0_holds, .selects RX0 yX0_holds yX0_holds, .initialized RX0, .code yX0_holds cX0_holds 2 (some .boolean), .fieldLink RX0 38 "WhoSpeaks$Chain" "count" "I", .static yX5_isWithin, .initialized RX5, .code yX5_isWithin cX5_isWithin 2 (some .boolean)] ++ wsX00)
def wsX0_mostWaysLeft : List Cond := .code yX0_mostWaysLeft cX0_mostWaysLeft 5 (some .long) :: ([.methodLink RX0 98 Lib.MathLoose.max_long.x, .static Lib.MathLoose.max_long.x, .initialized "java/lang/Math", .code Lib.MathLoose.max_long.x Lib.MathLoose.max_long.code 4 (some .long), .methodLink RX0 95 yX0_waysThrough, .instanceMethod yX0_waysThrough, .selects RX0 yX0_waysThrough yX0_waysThrough, .initialized RX0, .code yX0_waysThrough cX0_waysThrough 3 (some .long), .fieldLink RX0 9 "WhoSpeaks$Chain" "speaking" "[Z", .fieldLink RX0 28 "WhoSpeaks$Chain" "heads" "[J", .fieldLink RX0 32 "WhoSpeaks$Chain" "tails" "[J", .methodLink RX0 46 yX0_holds, .instanceMethod yX0_holds, .selects RX0 yX0_holds yX0_holds, .code yX0_holds cX0_holds 2 (some .boolean), .fieldLink RX0 38 "WhoSpeaks$Chain" "count" "I", .static yX5_isWithin, .initialized RX5, .code yX5_isWithin cX5_isWithin 2 (some .boolean), .methodLink RX0 87 yX0_countAt, .static yX0_countAt, .code yX0_countAt cX0_countAt 4 (some .long)] ++ wsX00)
def wsX0_conflictEnd_r1 : List Cond := [Cond.fieldLink RX0 38 "WhoSpeaks$Chain" "count" "I", Cond.methodLink RX0 80 yX0_waysWithin, Cond.instanceMethod yX0_waysWithin, Cond.selects RX0 yX0_waysWithin yX0_waysWithin, Cond.initialized RX0, Cond.code yX0_waysWithin cX0_waysWithin 7 (some .long), Cond.fieldLink RX0 28 "WhoSpeaks$Chain" "heads" "[J", Cond.methodLink RX0 64 yX0_linkAt, Cond.instanceMethod yX0_linkAt, Cond.selects RX0 yX0_linkAt yX0_linkAt, Cond.code yX0_linkAt cX0_linkAt 2 (some .int), Cond.fieldLink RX0 19 "WhoSpeaks$Chain" "links" "[I", Cond.methodLink RX0 46 yX0_holds, Cond.instanceMethod yX0_holds, Cond.selects RX0 yX0_holds yX0_holds, Cond.code yX0_holds cX0_holds 2 (some .boolean), Cond.static yX5_isWithin, Cond.initialized RX5, Cond.code yX5_isWithin cX5_isWithin 2 (some .boolean), Cond.methodLink RX0 76 yX0_stepOver, Cond.instanceMethod yX0_stepOver, Cond.selects RX0 yX0_stepOver yX0_stepOver, Cond.code yX0_stepOver cX0_stepOver 13 (some .long), Cond.fieldLink RX0 9 "WhoSpeaks$Chain" "speaking" "[Z"]
def wsX0_conflictEnd_r2 : List Cond := [Cond.methodLink RX0 50 yX0_ownSet, Cond.instanceMethod yX0_ownSet, Cond.selects RX0 yX0_ownSet yX0_ownSet, Cond.code yX0_ownSet cX0_ownSet 2 (some .int), Cond.fieldLink RX0 15 "WhoSpeaks$Chain" "owns" "[I", Cond.static yX5_bitOf, Cond.code yX5_bitOf cX5_bitOf 1 (some .int), Cond.methodLink RX0 87 yX0_countAt, Cond.static yX0_countAt, Cond.code yX0_countAt cX0_countAt 4 (some .long), Cond.methodLink RX0 91 yX0_fitting, Cond.static yX0_fitting, Cond.code yX0_fitting cX0_fitting 5 (some .long)]
def wsX0_conflictEnd : List Cond := .code yX0_conflictEnd cX0_conflictEnd 2 (some .int) :: ((wsX0_conflictEnd_r1 ++ wsX0_conflictEnd_r2) ++ wsX00)
def wsX0_conflictBeginning_r1 : List Cond := [Cond.methodLink RX0 80 yX0_waysWithin, Cond.instanceMethod yX0_waysWithin, Cond.selects RX0 yX0_waysWithin yX0_waysWithin, Cond.initialized RX0, Cond.code yX0_waysWithin cX0_waysWithin 7 (some .long), Cond.fieldLink RX0 28 "WhoSpeaks$Chain" "heads" "[J", Cond.methodLink RX0 64 yX0_linkAt, Cond.instanceMethod yX0_linkAt, Cond.selects RX0 yX0_linkAt yX0_linkAt, Cond.code yX0_linkAt cX0_linkAt 2 (some .int), Cond.fieldLink RX0 19 "WhoSpeaks$Chain" "links" "[I", Cond.methodLink RX0 46 yX0_holds, Cond.instanceMethod yX0_holds, Cond.selects RX0 yX0_holds yX0_holds, Cond.code yX0_holds cX0_holds 2 (some .boolean), Cond.fieldLink RX0 38 "WhoSpeaks$Chain" "count" "I", Cond.static yX5_isWithin, Cond.initialized RX5, Cond.code yX5_isWithin cX5_isWithin 2 (some .boolean), Cond.methodLink RX0 76 yX0_stepOver, Cond.instanceMethod yX0_stepOver, Cond.selects RX0 yX0_stepOver yX0_stepOver, Cond.code yX0_stepOver cX0_stepOver 13 (some .long), Cond.fieldLink RX0 9 "WhoSpeaks$Chain" "speaking" "[Z"]
def wsX0_conflictBeginning_r2 : List Cond := [Cond.methodLink RX0 50 yX0_ownSet, Cond.instanceMethod yX0_ownSet, Cond.selects RX0 yX0_ownSet yX0_ownSet, Cond.code yX0_ownSet cX0_ownSet 2 (some .int), Cond.fieldLink RX0 15 "WhoSpeaks$Chain" "owns" "[I", Cond.static yX5_bitOf, Cond.code yX5_bitOf cX5_bitOf 1 (some .int), Cond.methodLink RX0 87 yX0_countAt, Cond.static yX0_countAt, Cond.code yX0_countAt cX0_countAt 4 (some .long), Cond.methodLink RX0 91 yX0_fitting, Cond.static yX0_fitting, Cond.code yX0_fitting cX0_fitting 5 (some .long)]
def wsX0_conflictBeginning : List Cond := .code yX0_conflictBeginning cX0_conflictBeginning 3 (some .int) :: ((wsX0_conflictBeginning_r1 ++ wsX0_conflictBeginning_r2) ++ wsX00)
def wsX0_isHadBy : List Cond := .code yX0_isHadBy cX0_isHadBy 3 (some .boolean) :: ([.static yX5_isWithin, .initialized RX5, .code yX5_isWithin cX5_isWithin 2 (some .boolean), .methodLink RX0 104 yX0_sureSet, .instanceMethod yX0_sureSet, .selects RX0 yX0_sureSet yX0_sureSet, .initialized RX0, .code yX0_sureSet cX0_sureSet 2 (some .int), .fieldLink RX0 35 "WhoSpeaks$Chain" "sures" "[I", .methodLink RX0 46 yX0_holds, .instanceMethod yX0_holds, .selects RX0 yX0_holds yX0_holds, .code yX0_holds cX0_holds 2 (some .boolean), .fieldLink RX0 38 "WhoSpeaks$Chain" "count" "I", .static yX5_bitOf, .code yX5_bitOf cX5_bitOf 1 (some .int)] ++ wsX00)
def wsX0_hadBy : List Cond := .code yX0_hadBy cX0_hadBy 4 (some .int) :: ([.fieldLink RX0 38 "WhoSpeaks$Chain" "count" "I", .methodLink RX0 107 yX0_isHadBy, .instanceMethod yX0_isHadBy, .selects RX0 yX0_isHadBy yX0_isHadBy, .initialized RX0, .code yX0_isHadBy cX0_isHadBy 3 (some .boolean), .static yX5_isWithin, .initialized RX5, .code yX5_isWithin cX5_isWithin 2 (some .boolean), .methodLink RX0 104 yX0_sureSet, .instanceMethod yX0_sureSet, .selects RX0 yX0_sureSet yX0_sureSet, .code yX0_sureSet cX0_sureSet 2 (some .int), .fieldLink RX0 35 "WhoSpeaks$Chain" "sures" "[I", .methodLink RX0 46 yX0_holds, .instanceMethod yX0_holds, .selects RX0 yX0_holds yX0_holds, .code yX0_holds cX0_holds 2 (some .boolean), .static yX5_bitOf, .code yX5_bitOf cX5_bitOf 1 (some .int)] ++ wsX00)
def wsX0_maybeHadBy : List Cond := .code yX0_maybeHadBy cX0_maybeHadBy 4 (some .int) :: ([.fieldLink RX0 38 "WhoSpeaks$Chain" "count" "I", .methodLink RX0 104 yX0_sureSet, .instanceMethod yX0_sureSet, .selects RX0 yX0_sureSet yX0_sureSet, .initialized RX0, .code yX0_sureSet cX0_sureSet 2 (some .int), .fieldLink RX0 35 "WhoSpeaks$Chain" "sures" "[I", .methodLink RX0 46 yX0_holds, .instanceMethod yX0_holds, .selects RX0 yX0_holds yX0_holds, .code yX0_holds cX0_holds 2 (some .boolean), .static yX5_isWithin, .initialized RX5, .code yX5_isWithin cX5_isWithin 2 (some .boolean), .static yX5_bitOf, .code yX5_bitOf cX5_bitOf 1 (some .int)] ++ wsX00)
def wsX0_firstHadBy : List Cond := .code yX0_firstHadBy cX0_firstHadBy 3 (some .int) :: ([.fieldLink RX0 38 "WhoSpeaks$Chain" "count" "I", .methodLink RX0 107 yX0_isHadBy, .instanceMethod yX0_isHadBy, .selects RX0 yX0_isHadBy yX0_isHadBy, .initialized RX0, .code yX0_isHadBy cX0_isHadBy 3 (some .boolean), .static yX5_isWithin, .initialized RX5, .code yX5_isWithin cX5_isWithin 2 (some .boolean), .methodLink RX0 104 yX0_sureSet, .instanceMethod yX0_sureSet, .selects RX0 yX0_sureSet yX0_sureSet, .code yX0_sureSet cX0_sureSet 2 (some .int), .fieldLink RX0 35 "WhoSpeaks$Chain" "sures" "[I", .methodLink RX0 46 yX0_holds, .instanceMethod yX0_holds, .selects RX0 yX0_holds yX0_holds, .code yX0_holds cX0_holds 2 (some .boolean), .static yX5_bitOf, .code yX5_bitOf cX5_bitOf 1 (some .int)] ++ wsX00)
def wsX0_lastHadBy : List Cond := .code yX0_lastHadBy cX0_lastHadBy 3 (some .int) :: ([.fieldLink RX0 38 "WhoSpeaks$Chain" "count" "I", .methodLink RX0 107 yX0_isHadBy, .instanceMethod yX0_isHadBy, .selects RX0 yX0_isHadBy yX0_isHadBy, .initialized RX0, .code yX0_isHadBy cX0_isHadBy 3 (some .boolean), .static yX5_isWithin, .initialized RX5, .code yX5_isWithin cX5_isWithin 2 (some .boolean), .methodLink RX0 104 yX0_sureSet, .instanceMethod yX0_sureSet, .selects RX0 yX0_sureSet yX0_sureSet, .code yX0_sureSet cX0_sureSet 2 (some .int), .fieldLink RX0 35 "WhoSpeaks$Chain" "sures" "[I", .methodLink RX0 46 yX0_holds, .instanceMethod yX0_holds, .selects RX0 yX0_holds yX0_holds, .code yX0_holds cX0_holds 2 (some .boolean), .static yX5_bitOf, .code yX5_bitOf cX5_bitOf 1 (some .int)] ++ wsX00)
def wsX0_setsSureOfOne : List Cond := .code yX0_setsSureOfOne cX0_setsSureOfOne 3 (some .int) :: ([.fieldLink RX0 38 "WhoSpeaks$Chain" "count" "I", .methodLink RX0 104 yX0_sureSet, .instanceMethod yX0_sureSet, .selects RX0 yX0_sureSet yX0_sureSet, .initialized RX0, .code yX0_sureSet cX0_sureSet 2 (some .int), .fieldLink RX0 35 "WhoSpeaks$Chain" "sures" "[I", .methodLink RX0 46 yX0_holds, .instanceMethod yX0_holds, .selects RX0 yX0_holds yX0_holds, .code yX0_holds cX0_holds 2 (some .boolean), .static yX5_isWithin, .initialized RX5, .code yX5_isWithin cX5_isWithin 2 (some .boolean), .methodLink RX0 71 yJ6_bitCount_0f7a4, .static yJ6_bitCount_0f7a4, .initialized RJ6, .code yJ6_bitCount_0f7a4 cJ6_bitCount_0f7a4 1 (some .int), .constant RJ6 265 (1431655765), .constant RJ6 266 (858993459), .constant RJ6 267 (252645135)] ++ wsX00)
def wsX1_forgetAll : List Cond := .code yX1_forgetAll cX1_forgetAll 1 none :: ([.fieldLink RX1 21 "WhoSpeaks$Paragraph" "count" "I", .fieldLink RX1 25 "WhoSpeaks$Paragraph" "on" "Z", .fieldLink RX1 29 "WhoSpeaks$Paragraph" "here" "I", .fieldLink RX1 32 "WhoSpeaks$Paragraph" "hint" "I", .fieldLink RX1 35 "WhoSpeaks$Paragraph" "quoteCount" "I", .fieldLink RX1 38 "WhoSpeaks$Paragraph" "mentioned" "I", .fieldLink RX1 41 "WhoSpeaks$Paragraph" "spokenTo" "I", .fieldLink RX1 44 "WhoSpeaks$Paragraph" "verbCount" "I", .fieldLink RX1 47 "WhoSpeaks$Paragraph" "verbNames" "I", .fieldLink RX1 50 "WhoSpeaks$Paragraph" "heSpeaks" "Z", .fieldLink RX1 53 "WhoSpeaks$Paragraph" "sheSpeaks" "Z", .fieldLink RX1 56 "WhoSpeaks$Paragraph" "doers" "I"] ++ wsX10)
def wsX1_init : List Cond := .code yX1_init cX1_init 1 none :: ([.methodLink RX1 3 objectInit, .instanceMethod objectInit, .code objectInit ⟨#[0xb1]⟩ 1 none, .arrayClass .int, .fieldLink RX1 9 "WhoSpeaks$Paragraph" "kinds" "[I", .fieldLink RX1 15 "WhoSpeaks$Paragraph" "persons" "[I", .methodLink RX1 18 yX1_forgetAll, .instanceMethod yX1_forgetAll, .selects RX1 yX1_forgetAll yX1_forgetAll, .initialized RX1, .code yX1_forgetAll cX1_forgetAll 1 none, .fieldLink RX1 21 "WhoSpeaks$Paragraph" "count" "I", .fieldLink RX1 25 "WhoSpeaks$Paragraph" "on" "Z", .fieldLink RX1 29 "WhoSpeaks$Paragraph" "here" "I", .fieldLink RX1 32 "WhoSpeaks$Paragraph" "hint" "I", .fieldLink RX1 35 "WhoSpeaks$Paragraph" "quoteCount" "I", .fieldLink RX1 38 "WhoSpeaks$Paragraph" "mentioned" "I", .fieldLink RX1 41 "WhoSpeaks$Paragraph" "spokenTo" "I", .fieldLink RX1 44 "WhoSpeaks$Paragraph" "verbCount" "I", .fieldLink RX1 47 "WhoSpeaks$Paragraph" "verbNames" "I", .fieldLink RX1 50 "WhoSpeaks$Paragraph" "heSpeaks" "Z", .fieldLink RX1 53 "WhoSpeaks$Paragraph" "sheSpeaks" "Z", .fieldLink RX1 56 "WhoSpeaks$Paragraph" "doers" "I"] ++ wsX10)
def wsX4_codeAt : List Cond := .code yX4_codeAt cX4_codeAt 2 (some .int) :: ([.fieldLink RX4 15 "WhoSpeaks$Tape" "count" "I", .fieldLink RX4 9 "WhoSpeaks$Tape" "codes" "[I", .static yX5_isWithin, .initialized RX5, .code yX5_isWithin cX5_isWithin 2 (some .boolean)] ++ wsX40)
def wsX4_length : List Cond := .code yX4_length cX4_length 1 (some .int) :: ([.fieldLink RX4 15 "WhoSpeaks$Tape" "count" "I"] ++ wsX40)
def wsX1_noteSpokenTo : List Cond := .code yX1_noteSpokenTo cX1_noteSpokenTo 2 none :: ([.fieldLink RX1 38 "WhoSpeaks$Paragraph" "mentioned" "I", .fieldLink RX1 41 "WhoSpeaks$Paragraph" "spokenTo" "I", .static yX5_bitOf, .initialized RX5, .code yX5_bitOf cX5_bitOf 1 (some .int)] ++ wsX10)
def wsX1_addItem : List Cond := .code yX1_addItem cX1_addItem 4 none :: ([.fieldLink RX1 21 "WhoSpeaks$Paragraph" "count" "I", .fieldLink RX1 9 "WhoSpeaks$Paragraph" "kinds" "[I", .fieldLink RX1 15 "WhoSpeaks$Paragraph" "persons" "[I", .fieldLink RX1 38 "WhoSpeaks$Paragraph" "mentioned" "I", .fieldLink RX1 35 "WhoSpeaks$Paragraph" "quoteCount" "I", .static yX5_isWithin, .initialized RX5, .code yX5_isWithin cX5_isWithin 2 (some .boolean), .static yX5_bitOf, .code yX5_bitOf cX5_bitOf 1 (some .int)] ++ wsX10)
def wsX1_kindAt : List Cond := .code yX1_kindAt cX1_kindAt 2 (some .int) :: ([.fieldLink RX1 21 "WhoSpeaks$Paragraph" "count" "I", .fieldLink RX1 9 "WhoSpeaks$Paragraph" "kinds" "[I", .static yX5_isWithin, .initialized RX5, .code yX5_isWithin cX5_isWithin 2 (some .boolean)] ++ wsX10)
def wsX1_isWho : List Cond := .code yX1_isWho cX1_isWho 1 (some .boolean) :: ([])
def wsX1_whoPlace : List Cond := .code yX1_whoPlace cX1_whoPlace 2 (some .int) :: ([.methodLink RX1 98 yX1_kindAt, .instanceMethod yX1_kindAt, .selects RX1 yX1_kindAt yX1_kindAt, .initialized RX1, .code yX1_kindAt cX1_kindAt 2 (some .int), .fieldLink RX1 21 "WhoSpeaks$Paragraph" "count" "I", .fieldLink RX1 9 "WhoSpeaks$Paragraph" "kinds" "[I", .static yX5_isWithin, .initialized RX5, .code yX5_isWithin cX5_isWithin 2 (some .boolean), .methodLink RX1 113 yX1_isWho, .static yX1_isWho, .code yX1_isWho cX1_isWho 1 (some .boolean)] ++ wsX10)
def wsX1_verbCounts : List Cond := .code yX1_verbCounts cX1_verbCounts 5 (some .boolean) :: ([.methodLink RX1 104 Lib.Math.min.name, .static Lib.Math.min.name, .initialized "java/lang/Math", .code Lib.Math.min.name Lib.Math.min.code 2 (some .int), .methodLink RX1 110 Lib.Math.max.name, .static Lib.Math.max.name, .code Lib.Math.max.name Lib.Math.max.code 2 (some .int), .methodLink RX1 98 yX1_kindAt, .instanceMethod yX1_kindAt, .selects RX1 yX1_kindAt yX1_kindAt, .initialized RX1, .code yX1_kindAt cX1_kindAt 2 (some .int), .fieldLink RX1 21 "WhoSpeaks$Paragraph" "count" "I", .fieldLink RX1 9 "WhoSpeaks$Paragraph" "kinds" "[I", .static yX5_isWithin, .initialized RX5, .code yX5_isWithin cX5_isWithin 2 (some .boolean)] ++ wsX10)
def wsX1_personAt : List Cond := .code yX1_personAt cX1_personAt 2 (some .int) :: ([.fieldLink RX1 21 "WhoSpeaks$Paragraph" "count" "I", .fieldLink RX1 15 "WhoSpeaks$Paragraph" "persons" "[I", .static yX5_isWithin, .initialized RX5, .code yX5_isWithin cX5_isWithin 2 (some .boolean)] ++ wsX10)
def wsX1_noteWho : List Cond := .code yX1_noteWho cX1_noteWho 2 none :: ([.fieldLink RX1 47 "WhoSpeaks$Paragraph" "verbNames" "I", .fieldLink RX1 50 "WhoSpeaks$Paragraph" "heSpeaks" "Z", .fieldLink RX1 53 "WhoSpeaks$Paragraph" "sheSpeaks" "Z", .methodLink RX1 98 yX1_kindAt, .instanceMethod yX1_kindAt, .selects RX1 yX1_kindAt yX1_kindAt, .initialized RX1, .code yX1_kindAt cX1_kindAt 2 (some .int), .fieldLink RX1 21 "WhoSpeaks$Paragraph" "count" "I", .fieldLink RX1 9 "WhoSpeaks$Paragraph" "kinds" "[I", .static yX5_isWithin, .initialized RX5, .code yX5_isWithin cX5_isWithin 2 (some .boolean), .methodLink RX1 101 yX1_personAt, .instanceMethod yX1_personAt, .selects RX1 yX1_personAt yX1_personAt, .code yX1_personAt cX1_personAt 2 (some .int), .fieldLink RX1 15 "WhoSpeaks$Paragraph" "persons" "[I", .static yX5_bitOf, .code yX5_bitOf cX5_bitOf 1 (some .int)] ++ wsX10)
def wsX1_noteVerbs_r1 : List Cond := [Cond.fieldLink RX1 21 "WhoSpeaks$Paragraph" "count" "I", Cond.fieldLink RX1 44 "WhoSpeaks$Paragraph" "verbCount" "I", Cond.methodLink RX1 89 yX1_whoPlace, Cond.instanceMethod yX1_whoPlace, Cond.selects RX1 yX1_whoPlace yX1_whoPlace, Cond.initialized RX1, Cond.code yX1_whoPlace cX1_whoPlace 2 (some .int), Cond.methodLink RX1 98 yX1_kindAt, Cond.instanceMethod yX1_kindAt, Cond.selects RX1 yX1_kindAt yX1_kindAt, Cond.code yX1_kindAt cX1_kindAt 2 (some .int), Cond.fieldLink RX1 9 "WhoSpeaks$Paragraph" "kinds" "[I", Cond.static yX5_isWithin, Cond.initialized RX5, Cond.code yX5_isWithin cX5_isWithin 2 (some .boolean), Cond.methodLink RX1 113 yX1_isWho, Cond.static yX1_isWho, Cond.code yX1_isWho cX1_isWho 1 (some .boolean), Cond.methodLink RX1 92 yX1_verbCounts, Cond.instanceMethod yX1_verbCounts, Cond.selects RX1 yX1_verbCounts yX1_verbCounts, Cond.code yX1_verbCounts cX1_verbCounts 5 (some .boolean), Cond.methodLink RX1 104 Lib.Math.min.name, Cond.static Lib.Math.min.name]
def wsX1_noteVerbs_r2 : List Cond := [Cond.initialized "java/lang/Math", Cond.code Lib.Math.min.name Lib.Math.min.code 2 (some .int), Cond.methodLink RX1 110 Lib.Math.max.name, Cond.static Lib.Math.max.name, Cond.code Lib.Math.max.name Lib.Math.max.code 2 (some .int), Cond.methodLink RX1 95 yX1_noteWho, Cond.instanceMethod yX1_noteWho, Cond.selects RX1 yX1_noteWho yX1_noteWho, Cond.code yX1_noteWho cX1_noteWho 2 none, Cond.fieldLink RX1 47 "WhoSpeaks$Paragraph" "verbNames" "I", Cond.fieldLink RX1 50 "WhoSpeaks$Paragraph" "heSpeaks" "Z", Cond.fieldLink RX1 53 "WhoSpeaks$Paragraph" "sheSpeaks" "Z", Cond.methodLink RX1 101 yX1_personAt, Cond.instanceMethod yX1_personAt, Cond.selects RX1 yX1_personAt yX1_personAt, Cond.code yX1_personAt cX1_personAt 2 (some .int), Cond.fieldLink RX1 15 "WhoSpeaks$Paragraph" "persons" "[I", Cond.static yX5_bitOf, Cond.code yX5_bitOf cX5_bitOf 1 (some .int)]
def wsX1_noteVerbs : List Cond := .code yX1_noteVerbs cX1_noteVerbs 3 none :: ((wsX1_noteVerbs_r1 ++ wsX1_noteVerbs_r2) ++ wsX10)
def wsX1_noteDoer : List Cond := .code yX1_noteDoer cX1_noteDoer 1 none :: ([.fieldLink RX1 44 "WhoSpeaks$Paragraph" "verbCount" "I", .fieldLink RX1 56 "WhoSpeaks$Paragraph" "doers" "I", .methodLink RX1 98 yX1_kindAt, .instanceMethod yX1_kindAt, .selects RX1 yX1_kindAt yX1_kindAt, .initialized RX1, .code yX1_kindAt cX1_kindAt 2 (some .int), .fieldLink RX1 21 "WhoSpeaks$Paragraph" "count" "I", .fieldLink RX1 9 "WhoSpeaks$Paragraph" "kinds" "[I", .static yX5_isWithin, .initialized RX5, .code yX5_isWithin cX5_isWithin 2 (some .boolean), .methodLink RX1 101 yX1_personAt, .instanceMethod yX1_personAt, .selects RX1 yX1_personAt yX1_personAt, .code yX1_personAt cX1_personAt 2 (some .int), .fieldLink RX1 15 "WhoSpeaks$Paragraph" "persons" "[I", .static yX5_bitOf, .code yX5_bitOf cX5_bitOf 1 (some .int)] ++ wsX10)
def wsX1_read_r1 : List Cond := [Cond.fieldLink RX1 29 "WhoSpeaks$Paragraph" "here" "I", Cond.fieldLink RX1 25 "WhoSpeaks$Paragraph" "on" "Z", Cond.methodLink RX1 18 yX1_forgetAll, Cond.instanceMethod yX1_forgetAll, Cond.selects RX1 yX1_forgetAll yX1_forgetAll, Cond.initialized RX1, Cond.code yX1_forgetAll cX1_forgetAll 1 none, Cond.fieldLink RX1 21 "WhoSpeaks$Paragraph" "count" "I", Cond.fieldLink RX1 32 "WhoSpeaks$Paragraph" "hint" "I", Cond.fieldLink RX1 35 "WhoSpeaks$Paragraph" "quoteCount" "I", Cond.fieldLink RX1 38 "WhoSpeaks$Paragraph" "mentioned" "I", Cond.fieldLink RX1 41 "WhoSpeaks$Paragraph" "spokenTo" "I", Cond.fieldLink RX1 44 "WhoSpeaks$Paragraph" "verbCount" "I", Cond.fieldLink RX1 47 "WhoSpeaks$Paragraph" "verbNames" "I", Cond.fieldLink RX1 50 "WhoSpeaks$Paragraph" "heSpeaks" "Z", Cond.fieldLink RX1 53 "WhoSpeaks$Paragraph" "sheSpeaks" "Z", Cond.fieldLink RX1 56 "WhoSpeaks$Paragraph" "doers" "I", Cond.methodLink RX1 59 yX4_codeAt, Cond.instanceMethod yX4_codeAt, Cond.selects RX4 yX4_codeAt yX4_codeAt, Cond.initialized RX4, Cond.code yX4_codeAt cX4_codeAt 2 (some .int), Cond.fieldLink RX4 15 "WhoSpeaks$Tape" "count" "I", Cond.fieldLink RX4 9 "WhoSpeaks$Tape" "codes" "[I"]
def wsX1_read_r2 : List Cond := [Cond.static yX5_isWithin, Cond.initialized RX5, Cond.code yX5_isWithin cX5_isWithin 2 (some .boolean), Cond.methodLink RX1 65 yX4_length, Cond.instanceMethod yX4_length, Cond.selects RX4 yX4_length yX4_length, Cond.code yX4_length cX4_length 1 (some .int), Cond.methodLink RX1 69 yX1_noteSpokenTo, Cond.instanceMethod yX1_noteSpokenTo, Cond.selects RX1 yX1_noteSpokenTo yX1_noteSpokenTo, Cond.code yX1_noteSpokenTo cX1_noteSpokenTo 2 none, Cond.static yX5_bitOf, Cond.code yX5_bitOf cX5_bitOf 1 (some .int), Cond.methodLink RX1 73 yX1_addItem, Cond.instanceMethod yX1_addItem, Cond.selects RX1 yX1_addItem yX1_addItem, Cond.code yX1_addItem cX1_addItem 4 none, Cond.fieldLink RX1 9 "WhoSpeaks$Paragraph" "kinds" "[I", Cond.fieldLink RX1 15 "WhoSpeaks$Paragraph" "persons" "[I", Cond.methodLink RX1 76 yX1_noteVerbs, Cond.instanceMethod yX1_noteVerbs, Cond.selects RX1 yX1_noteVerbs yX1_noteVerbs, Cond.code yX1_noteVerbs cX1_noteVerbs 3 none, Cond.methodLink RX1 89 yX1_whoPlace]
def wsX1_read_r3 : List Cond := [Cond.instanceMethod yX1_whoPlace, Cond.selects RX1 yX1_whoPlace yX1_whoPlace, Cond.code yX1_whoPlace cX1_whoPlace 2 (some .int), Cond.methodLink RX1 98 yX1_kindAt, Cond.instanceMethod yX1_kindAt, Cond.selects RX1 yX1_kindAt yX1_kindAt, Cond.code yX1_kindAt cX1_kindAt 2 (some .int), Cond.methodLink RX1 113 yX1_isWho, Cond.static yX1_isWho, Cond.code yX1_isWho cX1_isWho 1 (some .boolean), Cond.methodLink RX1 92 yX1_verbCounts, Cond.instanceMethod yX1_verbCounts, Cond.selects RX1 yX1_verbCounts yX1_verbCounts, Cond.code yX1_verbCounts cX1_verbCounts 5 (some .boolean), Cond.methodLink RX1 104 Lib.Math.min.name, Cond.static Lib.Math.min.name, Cond.initialized "java/lang/Math", Cond.code Lib.Math.min.name Lib.Math.min.code 2 (some .int), Cond.methodLink RX1 110 Lib.Math.max.name, Cond.static Lib.Math.max.name, Cond.code Lib.Math.max.name Lib.Math.max.code 2 (some .int), Cond.methodLink RX1 95 yX1_noteWho, Cond.instanceMethod yX1_noteWho, Cond.selects RX1 yX1_noteWho yX1_noteWho]
def wsX1_read_r4 : List Cond := [Cond.code yX1_noteWho cX1_noteWho 2 none, Cond.methodLink RX1 101 yX1_personAt, Cond.instanceMethod yX1_personAt, Cond.selects RX1 yX1_personAt yX1_personAt, Cond.code yX1_personAt cX1_personAt 2 (some .int), Cond.methodLink RX1 79 yX1_noteDoer, Cond.instanceMethod yX1_noteDoer, Cond.selects RX1 yX1_noteDoer yX1_noteDoer, Cond.code yX1_noteDoer cX1_noteDoer 1 none]
def wsX1_read : List Cond := .code yX1_read cX1_read 5 none :: ((wsX1_read_r1 ++ (wsX1_read_r2 ++ (wsX1_read_r3 ++ wsX1_read_r4))) ++ wsX10 ++ wsX40)
def wsX1_takeHint : List Cond := .code yX1_takeHint cX1_takeHint 2 none :: ([.fieldLink RX1 32 "WhoSpeaks$Paragraph" "hint" "I"] ++ wsX10)
def wsX1_length : List Cond := .code yX1_length cX1_length 1 (some .int) :: ([.fieldLink RX1 21 "WhoSpeaks$Paragraph" "count" "I"] ++ wsX10)
def wsX1_goesOn : List Cond := .code yX1_goesOn cX1_goesOn 1 (some .boolean) :: ([.fieldLink RX1 25 "WhoSpeaks$Paragraph" "on" "Z"] ++ wsX10)
def wsX1_hereThen : List Cond := .code yX1_hereThen cX1_hereThen 1 (some .int) :: ([.fieldLink RX1 29 "WhoSpeaks$Paragraph" "here" "I"] ++ wsX10)
def wsX1_hintSet : List Cond := .code yX1_hintSet cX1_hintSet 1 (some .int) :: ([.fieldLink RX1 32 "WhoSpeaks$Paragraph" "hint" "I"] ++ wsX10)
def wsX1_quotes : List Cond := .code yX1_quotes cX1_quotes 1 (some .int) :: ([.fieldLink RX1 35 "WhoSpeaks$Paragraph" "quoteCount" "I"] ++ wsX10)
def wsX1_speaks : List Cond := .code yX1_speaks cX1_speaks 1 (some .boolean) :: ([.fieldLink RX1 35 "WhoSpeaks$Paragraph" "quoteCount" "I"] ++ wsX10)
def wsX1_countingVerbs : List Cond := .code yX1_countingVerbs cX1_countingVerbs 1 (some .int) :: ([.fieldLink RX1 44 "WhoSpeaks$Paragraph" "verbCount" "I"] ++ wsX10)
def wsX1_mentions : List Cond := .code yX1_mentions cX1_mentions 2 (some .boolean) :: ([.fieldLink RX1 38 "WhoSpeaks$Paragraph" "mentioned" "I", .static yX5_bitOf, .initialized RX5, .code yX5_bitOf cX5_bitOf 1 (some .int)] ++ wsX10)
def wsX2_thereSet : List Cond := .code yX2_thereSet cX2_thereSet 1 (some .int) :: ([.fieldLink RX2 15 "WhoSpeaks$People" "there" "I"] ++ wsX20)
def wsX2_allOfSort : List Cond := .code yX2_allOfSort cX2_allOfSort 4 (some .int) :: ([.fieldLink RX2 9 "WhoSpeaks$People" "sorts" "[I", .fieldLink RX2 15 "WhoSpeaks$People" "there" "I", .static yX5_bitOf, .initialized RX5, .code yX5_bitOf cX5_bitOf 1 (some .int)] ++ wsX20)
def wsX1_ownSet : List Cond := .code yX1_ownSet cX1_ownSet 4 (some .int) :: ([.fieldLink RX1 29 "WhoSpeaks$Paragraph" "here" "I", .fieldLink RX1 41 "WhoSpeaks$Paragraph" "spokenTo" "I", .fieldLink RX1 47 "WhoSpeaks$Paragraph" "verbNames" "I", .fieldLink RX1 50 "WhoSpeaks$Paragraph" "heSpeaks" "Z", .fieldLink RX1 53 "WhoSpeaks$Paragraph" "sheSpeaks" "Z", .fieldLink RX1 56 "WhoSpeaks$Paragraph" "doers" "I", .fieldLink RX1 32 "WhoSpeaks$Paragraph" "hint" "I", .methodLink RX1 117 yX2_thereSet, .instanceMethod yX2_thereSet, .selects RX2 yX2_thereSet yX2_thereSet, .initialized RX2, .code yX2_thereSet cX2_thereSet 1 (some .int), .fieldLink RX2 15 "WhoSpeaks$People" "there" "I", .methodLink RX1 122 yX2_allOfSort, .instanceMethod yX2_allOfSort, .selects RX2 yX2_allOfSort yX2_allOfSort, .code yX2_allOfSort cX2_allOfSort 4 (some .int), .fieldLink RX2 9 "WhoSpeaks$People" "sorts" "[I", .static yX5_bitOf, .initialized RX5, .code yX5_bitOf cX5_bitOf 1 (some .int)] ++ wsX10 ++ wsX20)
def wsX2_init : List Cond := .code yX2_init cX2_init 1 none :: ([.methodLink RX2 3 objectInit, .instanceMethod objectInit, .code objectInit ⟨#[0xb1]⟩ 1 none, .arrayClass .int, .fieldLink RX2 9 "WhoSpeaks$People" "sorts" "[I", .fieldLink RX2 15 "WhoSpeaks$People" "there" "I"] ++ wsX20)
def wsX2_isThere : List Cond := .code yX2_isThere cX2_isThere 2 (some .boolean) :: ([.fieldLink RX2 15 "WhoSpeaks$People" "there" "I", .static yX5_bitOf, .initialized RX5, .code yX5_bitOf cX5_bitOf 1 (some .int)] ++ wsX20)
def wsX2_sortOf : List Cond := .code yX2_sortOf cX2_sortOf 2 (some .int) :: ([.fieldLink RX2 9 "WhoSpeaks$People" "sorts" "[I", .static yX5_isWithin, .initialized RX5, .code yX5_isWithin cX5_isWithin 2 (some .boolean), .methodLink RX2 27 yX2_isThere, .instanceMethod yX2_isThere, .selects RX2 yX2_isThere yX2_isThere, .initialized RX2, .code yX2_isThere cX2_isThere 2 (some .boolean), .fieldLink RX2 15 "WhoSpeaks$People" "there" "I", .static yX5_bitOf, .code yX5_bitOf cX5_bitOf 1 (some .int)] ++ wsX20)
def wsX2_isName : List Cond := .code yX2_isName cX2_isName 2 (some .boolean) :: ([.methodLink RX2 27 yX2_isThere, .instanceMethod yX2_isThere, .selects RX2 yX2_isThere yX2_isThere, .initialized RX2, .code yX2_isThere cX2_isThere 2 (some .boolean), .fieldLink RX2 15 "WhoSpeaks$People" "there" "I", .static yX5_bitOf, .initialized RX5, .code yX5_bitOf cX5_bitOf 1 (some .int)] ++ wsX20)
def wsX2_bring : List Cond := .code yX2_bring cX2_bring 3 none :: ([.fieldLink RX2 9 "WhoSpeaks$People" "sorts" "[I", .fieldLink RX2 15 "WhoSpeaks$People" "there" "I", .static yX5_isWithin, .initialized RX5, .code yX5_isWithin cX5_isWithin 2 (some .boolean), .static yX5_bitOf, .code yX5_bitOf cX5_bitOf 1 (some .int)] ++ wsX20)
def wsX2_takeAway : List Cond := .code yX2_takeAway cX2_takeAway 2 none :: ([.fieldLink RX2 15 "WhoSpeaks$People" "there" "I", .static yX5_bitOf, .initialized RX5, .code yX5_bitOf cX5_bitOf 1 (some .int)] ++ wsX20)
def wsX3_init_r1 : List Cond := [Cond.methodLink RX3 3 objectInit, Cond.instanceMethod objectInit, Cond.code objectInit ⟨#[0xb1]⟩ 1 none, Cond.classLink RX3 9 RX1, Cond.fieldLink RX3 11 "WhoSpeaks$Story" "paragraphs" "[LWhoSpeaks$Paragraph;", Cond.instantiable RX1 14, Cond.initialized RX1, Cond.fieldLink RX3 18 "WhoSpeaks$Story" "blank" "LWhoSpeaks$Paragraph;", Cond.fieldLink RX3 22 "WhoSpeaks$Story" "count" "I", Cond.methodLink RX3 17 yX1_init, Cond.instanceMethod yX1_init, Cond.code yX1_init cX1_init 1 none, Cond.methodLink RX1 3 objectInit, Cond.arrayClass .int, Cond.fieldLink RX1 9 "WhoSpeaks$Paragraph" "kinds" "[I", Cond.fieldLink RX1 15 "WhoSpeaks$Paragraph" "persons" "[I", Cond.methodLink RX1 18 yX1_forgetAll, Cond.instanceMethod yX1_forgetAll, Cond.selects RX1 yX1_forgetAll yX1_forgetAll, Cond.code yX1_forgetAll cX1_forgetAll 1 none, Cond.fieldLink RX1 21 "WhoSpeaks$Paragraph" "count" "I", Cond.fieldLink RX1 25 "WhoSpeaks$Paragraph" "on" "Z", Cond.fieldLink RX1 29 "WhoSpeaks$Paragraph" "here" "I", Cond.fieldLink RX1 32 "WhoSpeaks$Paragraph" "hint" "I"]
def wsX3_init_r2 : List Cond := [Cond.fieldLink RX1 35 "WhoSpeaks$Paragraph" "quoteCount" "I", Cond.fieldLink RX1 38 "WhoSpeaks$Paragraph" "mentioned" "I", Cond.fieldLink RX1 41 "WhoSpeaks$Paragraph" "spokenTo" "I", Cond.fieldLink RX1 44 "WhoSpeaks$Paragraph" "verbCount" "I", Cond.fieldLink RX1 47 "WhoSpeaks$Paragraph" "verbNames" "I", Cond.fieldLink RX1 50 "WhoSpeaks$Paragraph" "heSpeaks" "Z", Cond.fieldLink RX1 53 "WhoSpeaks$Paragraph" "sheSpeaks" "Z", Cond.fieldLink RX1 56 "WhoSpeaks$Paragraph" "doers" "I"]
def wsX3_init : List Cond := .code yX3_init cX3_init 2 none :: ((wsX3_init_r1 ++ wsX3_init_r2) ++ wsX30 ++ wsX10)
def wsX3_length : List Cond := .code yX3_length cX3_length 1 (some .int) :: ([.fieldLink RX3 22 "WhoSpeaks$Story" "count" "I"] ++ wsX30)
def wsX3_isFull : List Cond := .code yX3_isFull cX3_isFull 1 (some .boolean) :: ([.fieldLink RX3 22 "WhoSpeaks$Story" "count" "I", .fieldLink RX3 11 "WhoSpeaks$Story" "paragraphs" "[LWhoSpeaks$Paragraph;"] ++ wsX30)
def wsX3_holds : List Cond := .code yX3_holds cX3_holds 2 (some .boolean) :: ([.fieldLink RX3 22 "WhoSpeaks$Story" "count" "I"] ++ wsX30)
def wsX3_paragraphAt : List Cond := .code yX3_paragraphAt cX3_paragraphAt 2 (some (.object "WhoSpeaks$Paragraph")) :: ([.fieldLink RX3 11 "WhoSpeaks$Story" "paragraphs" "[LWhoSpeaks$Paragraph;", .fieldLink RX3 18 "WhoSpeaks$Story" "blank" "LWhoSpeaks$Paragraph;", .methodLink RX3 26 yX3_holds, .instanceMethod yX3_holds, .selects RX3 yX3_holds yX3_holds, .initialized RX3, .code yX3_holds cX3_holds 2 (some .boolean), .fieldLink RX3 22 "WhoSpeaks$Story" "count" "I"] ++ wsX30)
def wsX3_speaksAt : List Cond := .code yX3_speaksAt cX3_speaksAt 2 (some .boolean) :: ([.methodLink RX3 30 yX3_paragraphAt, .instanceMethod yX3_paragraphAt, .selects RX3 yX3_paragraphAt yX3_paragraphAt, .initialized RX3, .code yX3_paragraphAt cX3_paragraphAt 2 (some (.object "WhoSpeaks$Paragraph")), .fieldLink RX3 11 "WhoSpeaks$Story" "paragraphs" "[LWhoSpeaks$Paragraph;", .fieldLink RX3 18 "WhoSpeaks$Story" "blank" "LWhoSpeaks$Paragraph;", .methodLink RX3 26 yX3_holds, .instanceMethod yX3_holds, .selects RX3 yX3_holds yX3_holds, .code yX3_holds cX3_holds 2 (some .boolean), .fieldLink RX3 22 "WhoSpeaks$Story" "count" "I", .methodLink RX3 34 yX1_speaks, .instanceMethod yX1_speaks, .selects RX1 yX1_speaks yX1_speaks, .initialized RX1, .code yX1_speaks cX1_speaks 1 (some .boolean), .fieldLink RX1 35 "WhoSpeaks$Paragraph" "quoteCount" "I"] ++ wsX30 ++ wsX10)
def wsX3_mayGoOn : List Cond := .code yX3_mayGoOn cX3_mayGoOn 1 (some .boolean) :: ([.fieldLink RX3 22 "WhoSpeaks$Story" "count" "I", .methodLink RX3 38 yX3_speaksAt, .instanceMethod yX3_speaksAt, .selects RX3 yX3_speaksAt yX3_speaksAt, .initialized RX3, .code yX3_speaksAt cX3_speaksAt 2 (some .boolean), .methodLink RX3 30 yX3_paragraphAt, .instanceMethod yX3_paragraphAt, .selects RX3 yX3_paragraphAt yX3_paragraphAt, .code yX3_paragraphAt cX3_paragraphAt 2 (some (.object "WhoSpeaks$Paragraph")), .fieldLink RX3 11 "WhoSpeaks$Story" "paragraphs" "[LWhoSpeaks$Paragraph;", .fieldLink RX3 18 "WhoSpeaks$Story" "blank" "LWhoSpeaks$Paragraph;", .methodLink RX3 26 yX3_holds, .instanceMethod yX3_holds, .selects RX3 yX3_holds yX3_holds, .code yX3_holds cX3_holds 2 (some .boolean), .methodLink RX3 34 yX1_speaks, .instanceMethod yX1_speaks, .selects RX1 yX1_speaks yX1_speaks, .initialized RX1, .code yX1_speaks cX1_speaks 1 (some .boolean), .fieldLink RX1 35 "WhoSpeaks$Paragraph" "quoteCount" "I"] ++ wsX30 ++ wsX10)
def wsX3_append_r1 : List Cond := [Cond.fieldLink RX3 22 "WhoSpeaks$Story" "count" "I", Cond.methodLink RX3 41 yX3_isFull, Cond.instanceMethod yX3_isFull, Cond.selects RX3 yX3_isFull yX3_isFull, Cond.initialized RX3, Cond.code yX3_isFull cX3_isFull 1 (some .boolean), Cond.fieldLink RX3 11 "WhoSpeaks$Story" "paragraphs" "[LWhoSpeaks$Paragraph;", Cond.methodLink RX3 30 yX3_paragraphAt, Cond.instanceMethod yX3_paragraphAt, Cond.selects RX3 yX3_paragraphAt yX3_paragraphAt, Cond.code yX3_paragraphAt cX3_paragraphAt 2 (some (.object "WhoSpeaks$Paragraph")), Cond.fieldLink RX3 18 "WhoSpeaks$Story" "blank" "LWhoSpeaks$Paragraph;", Cond.methodLink RX3 26 yX3_holds, Cond.instanceMethod yX3_holds, Cond.selects RX3 yX3_holds yX3_holds, Cond.code yX3_holds cX3_holds 2 (some .boolean), Cond.methodLink RX3 44 yX1_read, Cond.instanceMethod yX1_read, Cond.selects RX1 yX1_read yX1_read, Cond.initialized RX1, Cond.code yX1_read cX1_read 5 none, Cond.fieldLink RX1 29 "WhoSpeaks$Paragraph" "here" "I", Cond.fieldLink RX1 25 "WhoSpeaks$Paragraph" "on" "Z", Cond.methodLink RX1 18 yX1_forgetAll]
def wsX3_append_r2 : List Cond := [Cond.instanceMethod yX1_forgetAll, Cond.selects RX1 yX1_forgetAll yX1_forgetAll, Cond.code yX1_forgetAll cX1_forgetAll 1 none, Cond.fieldLink RX1 21 "WhoSpeaks$Paragraph" "count" "I", Cond.fieldLink RX1 32 "WhoSpeaks$Paragraph" "hint" "I", Cond.fieldLink RX1 35 "WhoSpeaks$Paragraph" "quoteCount" "I", Cond.fieldLink RX1 38 "WhoSpeaks$Paragraph" "mentioned" "I", Cond.fieldLink RX1 41 "WhoSpeaks$Paragraph" "spokenTo" "I", Cond.fieldLink RX1 44 "WhoSpeaks$Paragraph" "verbCount" "I", Cond.fieldLink RX1 47 "WhoSpeaks$Paragraph" "verbNames" "I", Cond.fieldLink RX1 50 "WhoSpeaks$Paragraph" "heSpeaks" "Z", Cond.fieldLink RX1 53 "WhoSpeaks$Paragraph" "sheSpeaks" "Z", Cond.fieldLink RX1 56 "WhoSpeaks$Paragraph" "doers" "I", Cond.methodLink RX1 59 yX4_codeAt, Cond.instanceMethod yX4_codeAt, Cond.selects RX4 yX4_codeAt yX4_codeAt, Cond.initialized RX4, Cond.code yX4_codeAt cX4_codeAt 2 (some .int), Cond.fieldLink RX4 15 "WhoSpeaks$Tape" "count" "I", Cond.fieldLink RX4 9 "WhoSpeaks$Tape" "codes" "[I", Cond.static yX5_isWithin, Cond.initialized RX5, Cond.code yX5_isWithin cX5_isWithin 2 (some .boolean), Cond.methodLink RX1 65 yX4_length]
def wsX3_append_r3 : List Cond := [Cond.instanceMethod yX4_length, Cond.selects RX4 yX4_length yX4_length, Cond.code yX4_length cX4_length 1 (some .int), Cond.methodLink RX1 69 yX1_noteSpokenTo, Cond.instanceMethod yX1_noteSpokenTo, Cond.selects RX1 yX1_noteSpokenTo yX1_noteSpokenTo, Cond.code yX1_noteSpokenTo cX1_noteSpokenTo 2 none, Cond.static yX5_bitOf, Cond.code yX5_bitOf cX5_bitOf 1 (some .int), Cond.methodLink RX1 73 yX1_addItem, Cond.instanceMethod yX1_addItem, Cond.selects RX1 yX1_addItem yX1_addItem, Cond.code yX1_addItem cX1_addItem 4 none, Cond.fieldLink RX1 9 "WhoSpeaks$Paragraph" "kinds" "[I", Cond.fieldLink RX1 15 "WhoSpeaks$Paragraph" "persons" "[I", Cond.methodLink RX1 76 yX1_noteVerbs, Cond.instanceMethod yX1_noteVerbs, Cond.selects RX1 yX1_noteVerbs yX1_noteVerbs, Cond.code yX1_noteVerbs cX1_noteVerbs 3 none, Cond.methodLink RX1 89 yX1_whoPlace, Cond.instanceMethod yX1_whoPlace, Cond.selects RX1 yX1_whoPlace yX1_whoPlace, Cond.code yX1_whoPlace cX1_whoPlace 2 (some .int), Cond.methodLink RX1 98 yX1_kindAt]
def wsX3_append_r4 : List Cond := [Cond.instanceMethod yX1_kindAt, Cond.selects RX1 yX1_kindAt yX1_kindAt, Cond.code yX1_kindAt cX1_kindAt 2 (some .int), Cond.methodLink RX1 113 yX1_isWho, Cond.static yX1_isWho, Cond.code yX1_isWho cX1_isWho 1 (some .boolean), Cond.methodLink RX1 92 yX1_verbCounts, Cond.instanceMethod yX1_verbCounts, Cond.selects RX1 yX1_verbCounts yX1_verbCounts, Cond.code yX1_verbCounts cX1_verbCounts 5 (some .boolean), Cond.methodLink RX1 104 Lib.Math.min.name, Cond.static Lib.Math.min.name, Cond.initialized "java/lang/Math", Cond.code Lib.Math.min.name Lib.Math.min.code 2 (some .int), Cond.methodLink RX1 110 Lib.Math.max.name, Cond.static Lib.Math.max.name, Cond.code Lib.Math.max.name Lib.Math.max.code 2 (some .int), Cond.methodLink RX1 95 yX1_noteWho, Cond.instanceMethod yX1_noteWho, Cond.selects RX1 yX1_noteWho yX1_noteWho, Cond.code yX1_noteWho cX1_noteWho 2 none, Cond.methodLink RX1 101 yX1_personAt, Cond.instanceMethod yX1_personAt, Cond.selects RX1 yX1_personAt yX1_personAt]
def wsX3_append_r5 : List Cond := [Cond.code yX1_personAt cX1_personAt 2 (some .int), Cond.methodLink RX1 79 yX1_noteDoer, Cond.instanceMethod yX1_noteDoer, Cond.selects RX1 yX1_noteDoer yX1_noteDoer, Cond.code yX1_noteDoer cX1_noteDoer 1 none]
def wsX3_append : List Cond := .code yX3_append cX3_append 3 none :: ((wsX3_append_r1 ++ (wsX3_append_r2 ++ (wsX3_append_r3 ++ (wsX3_append_r4 ++ wsX3_append_r5)))) ++ wsX30 ++ wsX10 ++ wsX40)
def wsX3_dropLast : List Cond := .code yX3_dropLast cX3_dropLast 1 none :: ([.fieldLink RX3 22 "WhoSpeaks$Story" "count" "I"] ++ wsX30)
def wsX3_namesAnywhere : List Cond := .code yX3_namesAnywhere cX3_namesAnywhere 3 (some .boolean) :: ([.fieldLink RX3 22 "WhoSpeaks$Story" "count" "I", .methodLink RX3 30 yX3_paragraphAt, .instanceMethod yX3_paragraphAt, .selects RX3 yX3_paragraphAt yX3_paragraphAt, .initialized RX3, .code yX3_paragraphAt cX3_paragraphAt 2 (some (.object "WhoSpeaks$Paragraph")), .fieldLink RX3 11 "WhoSpeaks$Story" "paragraphs" "[LWhoSpeaks$Paragraph;", .fieldLink RX3 18 "WhoSpeaks$Story" "blank" "LWhoSpeaks$Paragraph;", .methodLink RX3 26 yX3_holds, .instanceMethod yX3_holds, .selects RX3 yX3_holds yX3_holds, .code yX3_holds cX3_holds 2 (some .boolean), .methodLink RX3 48 yX1_mentions, .instanceMethod yX1_mentions, .selects RX1 yX1_mentions yX1_mentions, .initialized RX1, .code yX1_mentions cX1_mentions 2 (some .boolean), .fieldLink RX1 38 "WhoSpeaks$Paragraph" "mentioned" "I", .static yX5_bitOf, .initialized RX5, .code yX5_bitOf cX5_bitOf 1 (some .int)] ++ wsX30 ++ wsX10)
def wsX3_linkAhead_r1 : List Cond := [Cond.methodLink RX3 38 yX3_speaksAt, Cond.instanceMethod yX3_speaksAt, Cond.selects RX3 yX3_speaksAt yX3_speaksAt, Cond.initialized RX3, Cond.code yX3_speaksAt cX3_speaksAt 2 (some .boolean), Cond.methodLink RX3 30 yX3_paragraphAt, Cond.instanceMethod yX3_paragraphAt, Cond.selects RX3 yX3_paragraphAt yX3_paragraphAt, Cond.code yX3_paragraphAt cX3_paragraphAt 2 (some (.object "WhoSpeaks$Paragraph")), Cond.fieldLink RX3 11 "WhoSpeaks$Story" "paragraphs" "[LWhoSpeaks$Paragraph;", Cond.fieldLink RX3 18 "WhoSpeaks$Story" "blank" "LWhoSpeaks$Paragraph;", Cond.methodLink RX3 26 yX3_holds, Cond.instanceMethod yX3_holds, Cond.selects RX3 yX3_holds yX3_holds, Cond.code yX3_holds cX3_holds 2 (some .boolean), Cond.fieldLink RX3 22 "WhoSpeaks$Story" "count" "I", Cond.methodLink RX3 34 yX1_speaks, Cond.instanceMethod yX1_speaks, Cond.selects RX1 yX1_speaks yX1_speaks, Cond.initialized RX1, Cond.code yX1_speaks cX1_speaks 1 (some .boolean), Cond.fieldLink RX1 35 "WhoSpeaks$Paragraph" "quoteCount" "I", Cond.methodLink RX3 51 yX1_goesOn, Cond.instanceMethod yX1_goesOn]
def wsX3_linkAhead_r2 : List Cond := [Cond.selects RX1 yX1_goesOn yX1_goesOn, Cond.code yX1_goesOn cX1_goesOn 1 (some .boolean), Cond.fieldLink RX1 25 "WhoSpeaks$Paragraph" "on" "Z"]
def wsX3_linkAhead : List Cond := .code yX3_linkAhead cX3_linkAhead 3 (some .int) :: ((wsX3_linkAhead_r1 ++ wsX3_linkAhead_r2) ++ wsX30 ++ wsX10)
def wsX3_speaking : List Cond := .code yX3_speaking cX3_speaking 3 (some .int) :: ([.fieldLink RX3 22 "WhoSpeaks$Story" "count" "I", .methodLink RX3 38 yX3_speaksAt, .instanceMethod yX3_speaksAt, .selects RX3 yX3_speaksAt yX3_speaksAt, .initialized RX3, .code yX3_speaksAt cX3_speaksAt 2 (some .boolean), .methodLink RX3 30 yX3_paragraphAt, .instanceMethod yX3_paragraphAt, .selects RX3 yX3_paragraphAt yX3_paragraphAt, .code yX3_paragraphAt cX3_paragraphAt 2 (some (.object "WhoSpeaks$Paragraph")), .fieldLink RX3 11 "WhoSpeaks$Story" "paragraphs" "[LWhoSpeaks$Paragraph;", .fieldLink RX3 18 "WhoSpeaks$Story" "blank" "LWhoSpeaks$Paragraph;", .methodLink RX3 26 yX3_holds, .instanceMethod yX3_holds, .selects RX3 yX3_holds yX3_holds, .code yX3_holds cX3_holds 2 (some .boolean), .methodLink RX3 34 yX1_speaks, .instanceMethod yX1_speaks, .selects RX1 yX1_speaks yX1_speaks, .initialized RX1, .code yX1_speaks cX1_speaks 1 (some .boolean), .fieldLink RX1 35 "WhoSpeaks$Paragraph" "quoteCount" "I"] ++ wsX30 ++ wsX10)
def wsX3_hints : List Cond := .code yX3_hints cX3_hints 3 (some .int) :: ([.fieldLink RX3 22 "WhoSpeaks$Story" "count" "I", .methodLink RX3 30 yX3_paragraphAt, .instanceMethod yX3_paragraphAt, .selects RX3 yX3_paragraphAt yX3_paragraphAt, .initialized RX3, .code yX3_paragraphAt cX3_paragraphAt 2 (some (.object "WhoSpeaks$Paragraph")), .fieldLink RX3 11 "WhoSpeaks$Story" "paragraphs" "[LWhoSpeaks$Paragraph;", .fieldLink RX3 18 "WhoSpeaks$Story" "blank" "LWhoSpeaks$Paragraph;", .methodLink RX3 26 yX3_holds, .instanceMethod yX3_holds, .selects RX3 yX3_holds yX3_holds, .code yX3_holds cX3_holds 2 (some .boolean), .methodLink RX3 54 yX1_hintSet, .instanceMethod yX1_hintSet, .selects RX1 yX1_hintSet yX1_hintSet, .initialized RX1, .code yX1_hintSet cX1_hintSet 1 (some .int), .fieldLink RX1 32 "WhoSpeaks$Paragraph" "hint" "I"] ++ wsX30 ++ wsX10)
def wsX3_beginsRun : List Cond := .code yX3_beginsRun cX3_beginsRun 2 (some .boolean) :: ([.methodLink RX3 38 yX3_speaksAt, .instanceMethod yX3_speaksAt, .selects RX3 yX3_speaksAt yX3_speaksAt, .initialized RX3, .code yX3_speaksAt cX3_speaksAt 2 (some .boolean), .methodLink RX3 30 yX3_paragraphAt, .instanceMethod yX3_paragraphAt, .selects RX3 yX3_paragraphAt yX3_paragraphAt, .code yX3_paragraphAt cX3_paragraphAt 2 (some (.object "WhoSpeaks$Paragraph")), .fieldLink RX3 11 "WhoSpeaks$Story" "paragraphs" "[LWhoSpeaks$Paragraph;", .fieldLink RX3 18 "WhoSpeaks$Story" "blank" "LWhoSpeaks$Paragraph;", .methodLink RX3 26 yX3_holds, .instanceMethod yX3_holds, .selects RX3 yX3_holds yX3_holds, .code yX3_holds cX3_holds 2 (some .boolean), .fieldLink RX3 22 "WhoSpeaks$Story" "count" "I", .methodLink RX3 34 yX1_speaks, .instanceMethod yX1_speaks, .selects RX1 yX1_speaks yX1_speaks, .initialized RX1, .code yX1_speaks cX1_speaks 1 (some .boolean), .fieldLink RX1 35 "WhoSpeaks$Paragraph" "quoteCount" "I"] ++ wsX30 ++ wsX10)
def wsX3_runs_r1 : List Cond := [Cond.fieldLink RX3 22 "WhoSpeaks$Story" "count" "I", Cond.methodLink RX3 58 yX3_beginsRun, Cond.instanceMethod yX3_beginsRun, Cond.selects RX3 yX3_beginsRun yX3_beginsRun, Cond.initialized RX3, Cond.code yX3_beginsRun cX3_beginsRun 2 (some .boolean), Cond.methodLink RX3 38 yX3_speaksAt, Cond.instanceMethod yX3_speaksAt, Cond.selects RX3 yX3_speaksAt yX3_speaksAt, Cond.code yX3_speaksAt cX3_speaksAt 2 (some .boolean), Cond.methodLink RX3 30 yX3_paragraphAt, Cond.instanceMethod yX3_paragraphAt, Cond.selects RX3 yX3_paragraphAt yX3_paragraphAt, Cond.code yX3_paragraphAt cX3_paragraphAt 2 (some (.object "WhoSpeaks$Paragraph")), Cond.fieldLink RX3 11 "WhoSpeaks$Story" "paragraphs" "[LWhoSpeaks$Paragraph;", Cond.fieldLink RX3 18 "WhoSpeaks$Story" "blank" "LWhoSpeaks$Paragraph;", Cond.methodLink RX3 26 yX3_holds, Cond.instanceMethod yX3_holds, Cond.selects RX3 yX3_holds yX3_holds, Cond.code yX3_holds cX3_holds 2 (some .boolean), Cond.methodLink RX3 34 yX1_speaks, Cond.instanceMethod yX1_speaks, Cond.selects RX1 yX1_speaks yX1_speaks, Cond.initialized RX1]
def wsX3_runs_r2 : List Cond := [Cond.code yX1_speaks cX1_speaks 1 (some .boolean), Cond.fieldLink RX1 35 "WhoSpeaks$Paragraph" "quoteCount" "I"]
def wsX3_runs : List Cond := .code yX3_runs cX3_runs 3 (some .int) :: ((wsX3_runs_r1 ++ wsX3_runs_r2) ++ wsX30 ++ wsX10)
def wsX3_firstOfRun_r1 : List Cond := [Cond.fieldLink RX3 22 "WhoSpeaks$Story" "count" "I", Cond.methodLink RX3 58 yX3_beginsRun, Cond.instanceMethod yX3_beginsRun, Cond.selects RX3 yX3_beginsRun yX3_beginsRun, Cond.initialized RX3, Cond.code yX3_beginsRun cX3_beginsRun 2 (some .boolean), Cond.methodLink RX3 38 yX3_speaksAt, Cond.instanceMethod yX3_speaksAt, Cond.selects RX3 yX3_speaksAt yX3_speaksAt, Cond.code yX3_speaksAt cX3_speaksAt 2 (some .boolean), Cond.methodLink RX3 30 yX3_paragraphAt, Cond.instanceMethod yX3_paragraphAt, Cond.selects RX3 yX3_paragraphAt yX3_paragraphAt, Cond.code yX3_paragraphAt cX3_paragraphAt 2 (some (.object "WhoSpeaks$Paragraph")), Cond.fieldLink RX3 11 "WhoSpeaks$Story" "paragraphs" "[LWhoSpeaks$Paragraph;", Cond.fieldLink RX3 18 "WhoSpeaks$Story" "blank" "LWhoSpeaks$Paragraph;", Cond.methodLink RX3 26 yX3_holds, Cond.instanceMethod yX3_holds, Cond.selects RX3 yX3_holds yX3_holds, Cond.code yX3_holds cX3_holds 2 (some .boolean), Cond.methodLink RX3 34 yX1_speaks, Cond.instanceMethod yX1_speaks, Cond.selects RX1 yX1_speaks yX1_speaks, Cond.initialized RX1]
def wsX3_firstOfRun_r2 : List Cond := [Cond.code yX1_speaks cX1_speaks 1 (some .boolean), Cond.fieldLink RX1 35 "WhoSpeaks$Paragraph" "quoteCount" "I"]
def wsX3_firstOfRun : List Cond := .code yX3_firstOfRun cX3_firstOfRun 4 (some .int) :: ((wsX3_firstOfRun_r1 ++ wsX3_firstOfRun_r2) ++ wsX30 ++ wsX10)
def wsX3_runLength : List Cond := .code yX3_runLength cX3_runLength 4 (some .int) :: ([.fieldLink RX3 22 "WhoSpeaks$Story" "count" "I", .methodLink RX3 38 yX3_speaksAt, .instanceMethod yX3_speaksAt, .selects RX3 yX3_speaksAt yX3_speaksAt, .initialized RX3, .code yX3_speaksAt cX3_speaksAt 2 (some .boolean), .methodLink RX3 30 yX3_paragraphAt, .instanceMethod yX3_paragraphAt, .selects RX3 yX3_paragraphAt yX3_paragraphAt, .code yX3_paragraphAt cX3_paragraphAt 2 (some (.object "WhoSpeaks$Paragraph")), .fieldLink RX3 11 "WhoSpeaks$Story" "paragraphs" "[LWhoSpeaks$Paragraph;", .fieldLink RX3 18 "WhoSpeaks$Story" "blank" "LWhoSpeaks$Paragraph;", .methodLink RX3 26 yX3_holds, .instanceMethod yX3_holds, .selects RX3 yX3_holds yX3_holds, .code yX3_holds cX3_holds 2 (some .boolean), .methodLink RX3 34 yX1_speaks, .instanceMethod yX1_speaks, .selects RX1 yX1_speaks yX1_speaks, .initialized RX1, .code yX1_speaks cX1_speaks 1 (some .boolean), .fieldLink RX1 35 "WhoSpeaks$Paragraph" "quoteCount" "I"] ++ wsX30 ++ wsX10)
def wsX4_init : List Cond := .code yX4_init cX4_init 1 none :: ([.methodLink RX4 3 objectInit, .instanceMethod objectInit, .code objectInit ⟨#[0xb1]⟩ 1 none, .arrayClass .int, .fieldLink RX4 9 "WhoSpeaks$Tape" "codes" "[I", .fieldLink RX4 15 "WhoSpeaks$Tape" "count" "I"] ++ wsX40)
def wsX4_isFull : List Cond := .code yX4_isFull cX4_isFull 1 (some .boolean) :: ([.fieldLink RX4 15 "WhoSpeaks$Tape" "count" "I", .fieldLink RX4 9 "WhoSpeaks$Tape" "codes" "[I"] ++ wsX40)
def wsX4_put : List Cond := .code yX4_put cX4_put 2 none :: ([.fieldLink RX4 15 "WhoSpeaks$Tape" "count" "I", .fieldLink RX4 9 "WhoSpeaks$Tape" "codes" "[I", .static yX5_isWithin, .initialized RX5, .code yX5_isWithin cX5_isWithin 2 (some .boolean)] ++ wsX40)
def wsX4_clear : List Cond := .code yX4_clear cX4_clear 1 none :: ([.fieldLink RX4 15 "WhoSpeaks$Tape" "count" "I"] ++ wsX40)
def wsX4_mayStand : List Cond := .code yX4_mayStand cX4_mayStand 6 (some .boolean) :: ([.methodLink RX4 27 yX4_codeAt, .instanceMethod yX4_codeAt, .selects RX4 yX4_codeAt yX4_codeAt, .initialized RX4, .code yX4_codeAt cX4_codeAt 2 (some .int), .fieldLink RX4 15 "WhoSpeaks$Tape" "count" "I", .fieldLink RX4 9 "WhoSpeaks$Tape" "codes" "[I", .static yX5_isWithin, .initialized RX5, .code yX5_isWithin cX5_isWithin 2 (some .boolean), .methodLink RX4 31 yX2_isName, .instanceMethod yX2_isName, .selects RX2 yX2_isName yX2_isName, .initialized RX2, .code yX2_isName cX2_isName 2 (some .boolean), .methodLink RX2 27 yX2_isThere, .instanceMethod yX2_isThere, .selects RX2 yX2_isThere yX2_isThere, .code yX2_isThere cX2_isThere 2 (some .boolean), .fieldLink RX2 15 "WhoSpeaks$People" "there" "I", .static yX5_bitOf, .code yX5_bitOf cX5_bitOf 1 (some .int)] ++ wsX40 ++ wsX20)
def wsX4_firstFault_r1 : List Cond := [Cond.fieldLink RX4 15 "WhoSpeaks$Tape" "count" "I", Cond.methodLink RX4 23 yX4_mayStand, Cond.instanceMethod yX4_mayStand, Cond.selects RX4 yX4_mayStand yX4_mayStand, Cond.initialized RX4, Cond.code yX4_mayStand cX4_mayStand 6 (some .boolean), Cond.methodLink RX4 27 yX4_codeAt, Cond.instanceMethod yX4_codeAt, Cond.selects RX4 yX4_codeAt yX4_codeAt, Cond.code yX4_codeAt cX4_codeAt 2 (some .int), Cond.fieldLink RX4 9 "WhoSpeaks$Tape" "codes" "[I", Cond.static yX5_isWithin, Cond.initialized RX5, Cond.code yX5_isWithin cX5_isWithin 2 (some .boolean), Cond.methodLink RX4 31 yX2_isName, Cond.instanceMethod yX2_isName, Cond.selects RX2 yX2_isName yX2_isName, Cond.initialized RX2, Cond.code yX2_isName cX2_isName 2 (some .boolean), Cond.methodLink RX2 27 yX2_isThere, Cond.instanceMethod yX2_isThere, Cond.selects RX2 yX2_isThere yX2_isThere, Cond.code yX2_isThere cX2_isThere 2 (some .boolean), Cond.fieldLink RX2 15 "WhoSpeaks$People" "there" "I"]
def wsX4_firstFault_r2 : List Cond := [Cond.static yX5_bitOf, Cond.code yX5_bitOf cX5_bitOf 1 (some .int)]
def wsX4_firstFault : List Cond := .code yX4_firstFault cX4_firstFault 6 (some .int) :: ((wsX4_firstFault_r1 ++ wsX4_firstFault_r2) ++ wsX40 ++ wsX20)
def wsX5_init_r1 : List Cond := [Cond.methodLink RX5 3 objectInit, Cond.instanceMethod objectInit, Cond.code objectInit ⟨#[0xb1]⟩ 1 none, Cond.classLink RX5 9 RX2, Cond.instantiable RX2 2, Cond.initialized RX2, Cond.fieldLink RX5 12 "WhoSpeaks" "people" "LWhoSpeaks$People;", Cond.classLink RX5 16 RX4, Cond.instantiable RX4 2, Cond.initialized RX4, Cond.fieldLink RX5 19 "WhoSpeaks" "tape" "LWhoSpeaks$Tape;", Cond.classLink RX5 23 RX3, Cond.instantiable RX3 3, Cond.initialized RX3, Cond.fieldLink RX5 26 "WhoSpeaks" "story" "LWhoSpeaks$Story;", Cond.classLink RX5 30 RX0, Cond.instantiable RX0 9, Cond.initialized RX0, Cond.fieldLink RX5 33 "WhoSpeaks" "chain" "LWhoSpeaks$Chain;", Cond.arrayClass .int, Cond.fieldLink RX5 37 "WhoSpeaks" "narrowedBefore" "[I", Cond.fieldLink RX5 41 "WhoSpeaks" "hasCounts" "[I", Cond.fieldLink RX5 44 "WhoSpeaks" "mayCounts" "[I", Cond.fieldLink RX5 47 "WhoSpeaks" "hereSet" "I"]
def wsX5_init_r2 : List Cond := [Cond.fieldLink RX5 51 "WhoSpeaks" "ruleSet" "I", Cond.methodLink RX5 11 yX2_init, Cond.instanceMethod yX2_init, Cond.code yX2_init cX2_init 1 none, Cond.methodLink RX2 3 objectInit, Cond.fieldLink RX2 9 "WhoSpeaks$People" "sorts" "[I", Cond.fieldLink RX2 15 "WhoSpeaks$People" "there" "I", Cond.methodLink RX5 18 yX4_init, Cond.instanceMethod yX4_init, Cond.code yX4_init cX4_init 1 none, Cond.methodLink RX4 3 objectInit, Cond.fieldLink RX4 9 "WhoSpeaks$Tape" "codes" "[I", Cond.fieldLink RX4 15 "WhoSpeaks$Tape" "count" "I", Cond.methodLink RX5 25 yX3_init, Cond.instanceMethod yX3_init, Cond.code yX3_init cX3_init 2 none, Cond.methodLink RX3 3 objectInit, Cond.classLink RX3 9 RX1, Cond.fieldLink RX3 11 "WhoSpeaks$Story" "paragraphs" "[LWhoSpeaks$Paragraph;", Cond.instantiable RX1 14, Cond.initialized RX1, Cond.fieldLink RX3 18 "WhoSpeaks$Story" "blank" "LWhoSpeaks$Paragraph;", Cond.fieldLink RX3 22 "WhoSpeaks$Story" "count" "I", Cond.methodLink RX3 17 yX1_init]
def wsX5_init_r3 : List Cond := [Cond.instanceMethod yX1_init, Cond.code yX1_init cX1_init 1 none, Cond.methodLink RX1 3 objectInit, Cond.fieldLink RX1 9 "WhoSpeaks$Paragraph" "kinds" "[I", Cond.fieldLink RX1 15 "WhoSpeaks$Paragraph" "persons" "[I", Cond.methodLink RX1 18 yX1_forgetAll, Cond.instanceMethod yX1_forgetAll, Cond.selects RX1 yX1_forgetAll yX1_forgetAll, Cond.code yX1_forgetAll cX1_forgetAll 1 none, Cond.fieldLink RX1 21 "WhoSpeaks$Paragraph" "count" "I", Cond.fieldLink RX1 25 "WhoSpeaks$Paragraph" "on" "Z", Cond.fieldLink RX1 29 "WhoSpeaks$Paragraph" "here" "I", Cond.fieldLink RX1 32 "WhoSpeaks$Paragraph" "hint" "I", Cond.fieldLink RX1 35 "WhoSpeaks$Paragraph" "quoteCount" "I", Cond.fieldLink RX1 38 "WhoSpeaks$Paragraph" "mentioned" "I", Cond.fieldLink RX1 41 "WhoSpeaks$Paragraph" "spokenTo" "I", Cond.fieldLink RX1 44 "WhoSpeaks$Paragraph" "verbCount" "I", Cond.fieldLink RX1 47 "WhoSpeaks$Paragraph" "verbNames" "I", Cond.fieldLink RX1 50 "WhoSpeaks$Paragraph" "heSpeaks" "Z", Cond.fieldLink RX1 53 "WhoSpeaks$Paragraph" "sheSpeaks" "Z", Cond.fieldLink RX1 56 "WhoSpeaks$Paragraph" "doers" "I", Cond.methodLink RX5 32 yX0_init, Cond.instanceMethod yX0_init, Cond.code yX0_init cX0_init 1 none]
def wsX5_init_r4 : List Cond := [Cond.methodLink RX0 3 objectInit, Cond.arrayClass .boolean, Cond.fieldLink RX0 9 "WhoSpeaks$Chain" "speaking" "[Z", Cond.fieldLink RX0 15 "WhoSpeaks$Chain" "owns" "[I", Cond.fieldLink RX0 19 "WhoSpeaks$Chain" "links" "[I", Cond.fieldLink RX0 22 "WhoSpeaks$Chain" "narrowed" "[I", Cond.fieldLink RX0 25 "WhoSpeaks$Chain" "earlier" "[I", Cond.arrayClass .long, Cond.fieldLink RX0 28 "WhoSpeaks$Chain" "heads" "[J", Cond.fieldLink RX0 32 "WhoSpeaks$Chain" "tails" "[J", Cond.fieldLink RX0 35 "WhoSpeaks$Chain" "sures" "[I", Cond.fieldLink RX0 38 "WhoSpeaks$Chain" "count" "I"]
def wsX5_init : List Cond := .code yX5_init cX5_init 1 none :: ((wsX5_init_r1 ++ (wsX5_init_r2 ++ (wsX5_init_r3 ++ wsX5_init_r4))) ++ wsX20 ++ wsX50 ++ wsX40 ++ wsX30 ++ wsX00 ++ wsX10)
def wsX5_person : List Cond := .code yX5_person cX5_person 4 (some .int) :: ([.fieldLink RX5 12 "WhoSpeaks" "people" "LWhoSpeaks$People;", .methodLink RX5 54 yX5_isWithin, .static yX5_isWithin, .initialized RX5, .code yX5_isWithin cX5_isWithin 2 (some .boolean), .methodLink RX5 58 yX2_sortOf, .instanceMethod yX2_sortOf, .selects RX2 yX2_sortOf yX2_sortOf, .initialized RX2, .code yX2_sortOf cX2_sortOf 2 (some .int), .fieldLink RX2 9 "WhoSpeaks$People" "sorts" "[I", .methodLink RX2 27 yX2_isThere, .instanceMethod yX2_isThere, .selects RX2 yX2_isThere yX2_isThere, .code yX2_isThere cX2_isThere 2 (some .boolean), .fieldLink RX2 15 "WhoSpeaks$People" "there" "I", .static yX5_bitOf, .code yX5_bitOf cX5_bitOf 1 (some .int), .methodLink RX5 62 yX2_bring, .instanceMethod yX2_bring, .selects RX2 yX2_bring yX2_bring, .code yX2_bring cX2_bring 3 none] ++ wsX50 ++ wsX20)
def wsX5_fillChain_r1 : List Cond := [Cond.fieldLink RX5 33 "WhoSpeaks" "chain" "LWhoSpeaks$Chain;", Cond.fieldLink RX5 26 "WhoSpeaks" "story" "LWhoSpeaks$Story;", Cond.fieldLink RX5 12 "WhoSpeaks" "people" "LWhoSpeaks$People;", Cond.fieldLink RX5 51 "WhoSpeaks" "ruleSet" "I", Cond.methodLink RX5 239 yX0_clear, Cond.instanceMethod yX0_clear, Cond.selects RX0 yX0_clear yX0_clear, Cond.initialized RX0, Cond.code yX0_clear cX0_clear 1 none, Cond.fieldLink RX0 38 "WhoSpeaks$Chain" "count" "I", Cond.methodLink RX5 115 yX3_length, Cond.instanceMethod yX3_length, Cond.selects RX3 yX3_length yX3_length, Cond.initialized RX3, Cond.code yX3_length cX3_length 1 (some .int), Cond.fieldLink RX3 22 "WhoSpeaks$Story" "count" "I", Cond.methodLink RX5 122 yX3_paragraphAt, Cond.instanceMethod yX3_paragraphAt, Cond.selects RX3 yX3_paragraphAt yX3_paragraphAt, Cond.code yX3_paragraphAt cX3_paragraphAt 2 (some (.object "WhoSpeaks$Paragraph")), Cond.fieldLink RX3 11 "WhoSpeaks$Story" "paragraphs" "[LWhoSpeaks$Paragraph;", Cond.fieldLink RX3 18 "WhoSpeaks$Story" "blank" "LWhoSpeaks$Paragraph;", Cond.methodLink RX3 26 yX3_holds, Cond.instanceMethod yX3_holds]
def wsX5_fillChain_r2 : List Cond := [Cond.selects RX3 yX3_holds yX3_holds, Cond.code yX3_holds cX3_holds 2 (some .boolean), Cond.methodLink RX5 144 yX1_speaks, Cond.instanceMethod yX1_speaks, Cond.selects RX1 yX1_speaks yX1_speaks, Cond.initialized RX1, Cond.code yX1_speaks cX1_speaks 1 (some .boolean), Cond.fieldLink RX1 35 "WhoSpeaks$Paragraph" "quoteCount" "I", Cond.methodLink RX5 240 yX1_ownSet, Cond.instanceMethod yX1_ownSet, Cond.selects RX1 yX1_ownSet yX1_ownSet, Cond.code yX1_ownSet cX1_ownSet 4 (some .int), Cond.fieldLink RX1 29 "WhoSpeaks$Paragraph" "here" "I", Cond.fieldLink RX1 41 "WhoSpeaks$Paragraph" "spokenTo" "I", Cond.fieldLink RX1 47 "WhoSpeaks$Paragraph" "verbNames" "I", Cond.fieldLink RX1 50 "WhoSpeaks$Paragraph" "heSpeaks" "Z", Cond.fieldLink RX1 53 "WhoSpeaks$Paragraph" "sheSpeaks" "Z", Cond.fieldLink RX1 56 "WhoSpeaks$Paragraph" "doers" "I", Cond.fieldLink RX1 32 "WhoSpeaks$Paragraph" "hint" "I", Cond.methodLink RX1 117 yX2_thereSet, Cond.instanceMethod yX2_thereSet, Cond.selects RX2 yX2_thereSet yX2_thereSet, Cond.initialized RX2, Cond.code yX2_thereSet cX2_thereSet 1 (some .int)]
def wsX5_fillChain_r3 : List Cond := [Cond.fieldLink RX2 15 "WhoSpeaks$People" "there" "I", Cond.methodLink RX1 122 yX2_allOfSort, Cond.instanceMethod yX2_allOfSort, Cond.selects RX2 yX2_allOfSort yX2_allOfSort, Cond.code yX2_allOfSort cX2_allOfSort 4 (some .int), Cond.fieldLink RX2 9 "WhoSpeaks$People" "sorts" "[I", Cond.static yX5_bitOf, Cond.initialized RX5, Cond.code yX5_bitOf cX5_bitOf 1 (some .int), Cond.methodLink RX5 172 yX3_linkAhead, Cond.instanceMethod yX3_linkAhead, Cond.selects RX3 yX3_linkAhead yX3_linkAhead, Cond.code yX3_linkAhead cX3_linkAhead 3 (some .int), Cond.methodLink RX3 38 yX3_speaksAt, Cond.instanceMethod yX3_speaksAt, Cond.selects RX3 yX3_speaksAt yX3_speaksAt, Cond.code yX3_speaksAt cX3_speaksAt 2 (some .boolean), Cond.methodLink RX3 30 yX3_paragraphAt, Cond.methodLink RX3 34 yX1_speaks, Cond.methodLink RX3 51 yX1_goesOn, Cond.instanceMethod yX1_goesOn, Cond.selects RX1 yX1_goesOn yX1_goesOn, Cond.code yX1_goesOn cX1_goesOn 1 (some .boolean), Cond.fieldLink RX1 25 "WhoSpeaks$Paragraph" "on" "Z"]
def wsX5_fillChain_r4 : List Cond := [Cond.methodLink RX5 243 yX0_append, Cond.instanceMethod yX0_append, Cond.selects RX0 yX0_append yX0_append, Cond.code yX0_append cX0_append 4 none, Cond.fieldLink RX0 9 "WhoSpeaks$Chain" "speaking" "[Z", Cond.fieldLink RX0 15 "WhoSpeaks$Chain" "owns" "[I", Cond.fieldLink RX0 19 "WhoSpeaks$Chain" "links" "[I", Cond.static yX5_isWithin, Cond.code yX5_isWithin cX5_isWithin 2 (some .boolean)]
def wsX5_fillChain : List Cond := .code yX5_fillChain cX5_fillChain 5 none :: ((wsX5_fillChain_r1 ++ (wsX5_fillChain_r2 ++ (wsX5_fillChain_r3 ++ wsX5_fillChain_r4))) ++ wsX50 ++ wsX00 ++ wsX30 ++ wsX10 ++ wsX20)
def wsX5_away_r1 : List Cond := [Cond.fieldLink RX5 12 "WhoSpeaks" "people" "LWhoSpeaks$People;", Cond.fieldLink RX5 26 "WhoSpeaks" "story" "LWhoSpeaks$Story;", Cond.fieldLink RX5 33 "WhoSpeaks" "chain" "LWhoSpeaks$Chain;", Cond.fieldLink RX5 47 "WhoSpeaks" "hereSet" "I", Cond.methodLink RX5 66 yX2_isThere, Cond.instanceMethod yX2_isThere, Cond.selects RX2 yX2_isThere yX2_isThere, Cond.initialized RX2, Cond.code yX2_isThere cX2_isThere 2 (some .boolean), Cond.fieldLink RX2 15 "WhoSpeaks$People" "there" "I", Cond.static yX5_bitOf, Cond.initialized RX5, Cond.code yX5_bitOf cX5_bitOf 1 (some .int), Cond.methodLink RX5 70 yX3_namesAnywhere, Cond.instanceMethod yX3_namesAnywhere, Cond.selects RX3 yX3_namesAnywhere yX3_namesAnywhere, Cond.initialized RX3, Cond.code yX3_namesAnywhere cX3_namesAnywhere 3 (some .boolean), Cond.fieldLink RX3 22 "WhoSpeaks$Story" "count" "I", Cond.methodLink RX3 30 yX3_paragraphAt, Cond.instanceMethod yX3_paragraphAt, Cond.selects RX3 yX3_paragraphAt yX3_paragraphAt, Cond.code yX3_paragraphAt cX3_paragraphAt 2 (some (.object "WhoSpeaks$Paragraph")), Cond.fieldLink RX3 11 "WhoSpeaks$Story" "paragraphs" "[LWhoSpeaks$Paragraph;"]
def wsX5_away_r2 : List Cond := [Cond.fieldLink RX3 18 "WhoSpeaks$Story" "blank" "LWhoSpeaks$Paragraph;", Cond.methodLink RX3 26 yX3_holds, Cond.instanceMethod yX3_holds, Cond.selects RX3 yX3_holds yX3_holds, Cond.code yX3_holds cX3_holds 2 (some .boolean), Cond.methodLink RX3 48 yX1_mentions, Cond.instanceMethod yX1_mentions, Cond.selects RX1 yX1_mentions yX1_mentions, Cond.initialized RX1, Cond.code yX1_mentions cX1_mentions 2 (some .boolean), Cond.fieldLink RX1 38 "WhoSpeaks$Paragraph" "mentioned" "I", Cond.methodLink RX5 73 yX5_fillChain, Cond.instanceMethod yX5_fillChain, Cond.selects RX5 yX5_fillChain yX5_fillChain, Cond.code yX5_fillChain cX5_fillChain 5 none, Cond.fieldLink RX5 51 "WhoSpeaks" "ruleSet" "I", Cond.methodLink RX5 239 yX0_clear, Cond.instanceMethod yX0_clear, Cond.selects RX0 yX0_clear yX0_clear, Cond.initialized RX0, Cond.code yX0_clear cX0_clear 1 none, Cond.fieldLink RX0 38 "WhoSpeaks$Chain" "count" "I", Cond.methodLink RX5 115 yX3_length, Cond.instanceMethod yX3_length]
def wsX5_away_r3 : List Cond := [Cond.selects RX3 yX3_length yX3_length, Cond.code yX3_length cX3_length 1 (some .int), Cond.methodLink RX5 122 yX3_paragraphAt, Cond.methodLink RX5 144 yX1_speaks, Cond.instanceMethod yX1_speaks, Cond.selects RX1 yX1_speaks yX1_speaks, Cond.code yX1_speaks cX1_speaks 1 (some .boolean), Cond.fieldLink RX1 35 "WhoSpeaks$Paragraph" "quoteCount" "I", Cond.methodLink RX5 240 yX1_ownSet, Cond.instanceMethod yX1_ownSet, Cond.selects RX1 yX1_ownSet yX1_ownSet, Cond.code yX1_ownSet cX1_ownSet 4 (some .int), Cond.fieldLink RX1 29 "WhoSpeaks$Paragraph" "here" "I", Cond.fieldLink RX1 41 "WhoSpeaks$Paragraph" "spokenTo" "I", Cond.fieldLink RX1 47 "WhoSpeaks$Paragraph" "verbNames" "I", Cond.fieldLink RX1 50 "WhoSpeaks$Paragraph" "heSpeaks" "Z", Cond.fieldLink RX1 53 "WhoSpeaks$Paragraph" "sheSpeaks" "Z", Cond.fieldLink RX1 56 "WhoSpeaks$Paragraph" "doers" "I", Cond.fieldLink RX1 32 "WhoSpeaks$Paragraph" "hint" "I", Cond.methodLink RX1 117 yX2_thereSet, Cond.instanceMethod yX2_thereSet, Cond.selects RX2 yX2_thereSet yX2_thereSet, Cond.code yX2_thereSet cX2_thereSet 1 (some .int), Cond.methodLink RX1 122 yX2_allOfSort]
def wsX5_away_r4 : List Cond := [Cond.instanceMethod yX2_allOfSort, Cond.selects RX2 yX2_allOfSort yX2_allOfSort, Cond.code yX2_allOfSort cX2_allOfSort 4 (some .int), Cond.fieldLink RX2 9 "WhoSpeaks$People" "sorts" "[I", Cond.methodLink RX5 172 yX3_linkAhead, Cond.instanceMethod yX3_linkAhead, Cond.selects RX3 yX3_linkAhead yX3_linkAhead, Cond.code yX3_linkAhead cX3_linkAhead 3 (some .int), Cond.methodLink RX3 38 yX3_speaksAt, Cond.instanceMethod yX3_speaksAt, Cond.selects RX3 yX3_speaksAt yX3_speaksAt, Cond.code yX3_speaksAt cX3_speaksAt 2 (some .boolean), Cond.methodLink RX3 34 yX1_speaks, Cond.methodLink RX3 51 yX1_goesOn, Cond.instanceMethod yX1_goesOn, Cond.selects RX1 yX1_goesOn yX1_goesOn, Cond.code yX1_goesOn cX1_goesOn 1 (some .boolean), Cond.fieldLink RX1 25 "WhoSpeaks$Paragraph" "on" "Z", Cond.methodLink RX5 243 yX0_append, Cond.instanceMethod yX0_append, Cond.selects RX0 yX0_append yX0_append, Cond.code yX0_append cX0_append 4 none, Cond.fieldLink RX0 9 "WhoSpeaks$Chain" "speaking" "[Z", Cond.fieldLink RX0 15 "WhoSpeaks$Chain" "owns" "[I"]
def wsX5_away_r5 : List Cond := [Cond.fieldLink RX0 19 "WhoSpeaks$Chain" "links" "[I", Cond.static yX5_isWithin, Cond.code yX5_isWithin cX5_isWithin 2 (some .boolean), Cond.methodLink RX5 76 yX0_ownSetsWith, Cond.instanceMethod yX0_ownSetsWith, Cond.selects RX0 yX0_ownSetsWith yX0_ownSetsWith, Cond.code yX0_ownSetsWith cX0_ownSetsWith 4 (some .int), Cond.methodLink RX0 50 yX0_ownSet, Cond.instanceMethod yX0_ownSet, Cond.selects RX0 yX0_ownSet yX0_ownSet, Cond.code yX0_ownSet cX0_ownSet 2 (some .int), Cond.methodLink RX0 46 yX0_holds, Cond.instanceMethod yX0_holds, Cond.selects RX0 yX0_holds yX0_holds, Cond.code yX0_holds cX0_holds 2 (some .boolean), Cond.methodLink RX5 79 yX2_takeAway, Cond.instanceMethod yX2_takeAway, Cond.selects RX2 yX2_takeAway yX2_takeAway, Cond.code yX2_takeAway cX2_takeAway 2 none, Cond.methodLink RX5 83 yX5_bitOf]
def wsX5_away : List Cond := .code yX5_away cX5_away 3 (some .int) :: ((wsX5_away_r1 ++ (wsX5_away_r2 ++ (wsX5_away_r3 ++ (wsX5_away_r4 ++ wsX5_away_r5)))) ++ wsX50 ++ wsX20 ++ wsX30 ++ wsX10 ++ wsX00)
def wsX5_here : List Cond := .code yX5_here cX5_here 3 (some .int) :: ([.fieldLink RX5 12 "WhoSpeaks" "people" "LWhoSpeaks$People;", .fieldLink RX5 47 "WhoSpeaks" "hereSet" "I", .methodLink RX5 86 yX2_thereSet, .instanceMethod yX2_thereSet, .selects RX2 yX2_thereSet yX2_thereSet, .initialized RX2, .code yX2_thereSet cX2_thereSet 1 (some .int), .fieldLink RX2 15 "WhoSpeaks$People" "there" "I"] ++ wsX50 ++ wsX20)
def wsX5_rules : List Cond := .code yX5_rules cX5_rules 3 (some .int) :: ([.fieldLink RX5 51 "WhoSpeaks" "ruleSet" "I"] ++ wsX50)
def wsX5_key : List Cond := .code yX5_key cX5_key 2 (some .int) :: ([.fieldLink RX5 19 "WhoSpeaks" "tape" "LWhoSpeaks$Tape;", .methodLink RX5 90 yX4_isFull, .instanceMethod yX4_isFull, .selects RX4 yX4_isFull yX4_isFull, .initialized RX4, .code yX4_isFull cX4_isFull 1 (some .boolean), .fieldLink RX4 15 "WhoSpeaks$Tape" "count" "I", .fieldLink RX4 9 "WhoSpeaks$Tape" "codes" "[I", .methodLink RX5 94 yX4_put, .instanceMethod yX4_put, .selects RX4 yX4_put yX4_put, .code yX4_put cX4_put 2 none, .static yX5_isWithin, .initialized RX5, .code yX5_isWithin cX5_isWithin 2 (some .boolean), .methodLink RX5 97 yX4_length, .instanceMethod yX4_length, .selects RX4 yX4_length yX4_length, .code yX4_length cX4_length 1 (some .int)] ++ wsX50 ++ wsX40)
def wsX5_wipe : List Cond := .code yX5_wipe cX5_wipe 2 (some .int) :: ([.fieldLink RX5 19 "WhoSpeaks" "tape" "LWhoSpeaks$Tape;", .methodLink RX5 97 yX4_length, .instanceMethod yX4_length, .selects RX4 yX4_length yX4_length, .initialized RX4, .code yX4_length cX4_length 1 (some .int), .fieldLink RX4 15 "WhoSpeaks$Tape" "count" "I", .methodLink RX5 100 yX4_clear, .instanceMethod yX4_clear, .selects RX4 yX4_clear yX4_clear, .code yX4_clear cX4_clear 1 none] ++ wsX50 ++ wsX40)
def wsX5_paragraph_r1 : List Cond := [Cond.fieldLink RX5 26 "WhoSpeaks" "story" "LWhoSpeaks$Story;", Cond.fieldLink RX5 19 "WhoSpeaks" "tape" "LWhoSpeaks$Tape;", Cond.fieldLink RX5 12 "WhoSpeaks" "people" "LWhoSpeaks$People;", Cond.fieldLink RX5 47 "WhoSpeaks" "hereSet" "I", Cond.methodLink RX5 103 yX3_isFull, Cond.instanceMethod yX3_isFull, Cond.selects RX3 yX3_isFull yX3_isFull, Cond.initialized RX3, Cond.code yX3_isFull cX3_isFull 1 (some .boolean), Cond.fieldLink RX3 22 "WhoSpeaks$Story" "count" "I", Cond.fieldLink RX3 11 "WhoSpeaks$Story" "paragraphs" "[LWhoSpeaks$Paragraph;", Cond.methodLink RX5 104 yX3_mayGoOn, Cond.instanceMethod yX3_mayGoOn, Cond.selects RX3 yX3_mayGoOn yX3_mayGoOn, Cond.code yX3_mayGoOn cX3_mayGoOn 1 (some .boolean), Cond.methodLink RX3 38 yX3_speaksAt, Cond.instanceMethod yX3_speaksAt, Cond.selects RX3 yX3_speaksAt yX3_speaksAt, Cond.code yX3_speaksAt cX3_speaksAt 2 (some .boolean), Cond.methodLink RX3 30 yX3_paragraphAt, Cond.instanceMethod yX3_paragraphAt, Cond.selects RX3 yX3_paragraphAt yX3_paragraphAt, Cond.code yX3_paragraphAt cX3_paragraphAt 2 (some (.object "WhoSpeaks$Paragraph")), Cond.fieldLink RX3 18 "WhoSpeaks$Story" "blank" "LWhoSpeaks$Paragraph;"]
def wsX5_paragraph_r2 : List Cond := [Cond.methodLink RX3 26 yX3_holds, Cond.instanceMethod yX3_holds, Cond.selects RX3 yX3_holds yX3_holds, Cond.code yX3_holds cX3_holds 2 (some .boolean), Cond.methodLink RX3 34 yX1_speaks, Cond.instanceMethod yX1_speaks, Cond.selects RX1 yX1_speaks yX1_speaks, Cond.initialized RX1, Cond.code yX1_speaks cX1_speaks 1 (some .boolean), Cond.fieldLink RX1 35 "WhoSpeaks$Paragraph" "quoteCount" "I", Cond.methodLink RX5 107 yX4_firstFault, Cond.instanceMethod yX4_firstFault, Cond.selects RX4 yX4_firstFault yX4_firstFault, Cond.initialized RX4, Cond.code yX4_firstFault cX4_firstFault 6 (some .int), Cond.fieldLink RX4 15 "WhoSpeaks$Tape" "count" "I", Cond.methodLink RX4 23 yX4_mayStand, Cond.instanceMethod yX4_mayStand, Cond.selects RX4 yX4_mayStand yX4_mayStand, Cond.code yX4_mayStand cX4_mayStand 6 (some .boolean), Cond.methodLink RX4 27 yX4_codeAt, Cond.instanceMethod yX4_codeAt, Cond.selects RX4 yX4_codeAt yX4_codeAt, Cond.code yX4_codeAt cX4_codeAt 2 (some .int)]
def wsX5_paragraph_r3 : List Cond := [Cond.fieldLink RX4 9 "WhoSpeaks$Tape" "codes" "[I", Cond.static yX5_isWithin, Cond.initialized RX5, Cond.code yX5_isWithin cX5_isWithin 2 (some .boolean), Cond.methodLink RX4 31 yX2_isName, Cond.instanceMethod yX2_isName, Cond.selects RX2 yX2_isName yX2_isName, Cond.initialized RX2, Cond.code yX2_isName cX2_isName 2 (some .boolean), Cond.methodLink RX2 27 yX2_isThere, Cond.instanceMethod yX2_isThere, Cond.selects RX2 yX2_isThere yX2_isThere, Cond.code yX2_isThere cX2_isThere 2 (some .boolean), Cond.fieldLink RX2 15 "WhoSpeaks$People" "there" "I", Cond.static yX5_bitOf, Cond.code yX5_bitOf cX5_bitOf 1 (some .int), Cond.methodLink RX5 111 yX3_append, Cond.instanceMethod yX3_append, Cond.selects RX3 yX3_append yX3_append, Cond.code yX3_append cX3_append 3 none, Cond.methodLink RX3 41 yX3_isFull, Cond.methodLink RX3 44 yX1_read, Cond.instanceMethod yX1_read, Cond.selects RX1 yX1_read yX1_read]
def wsX5_paragraph_r4 : List Cond := [Cond.code yX1_read cX1_read 5 none, Cond.fieldLink RX1 29 "WhoSpeaks$Paragraph" "here" "I", Cond.fieldLink RX1 25 "WhoSpeaks$Paragraph" "on" "Z", Cond.methodLink RX1 18 yX1_forgetAll, Cond.instanceMethod yX1_forgetAll, Cond.selects RX1 yX1_forgetAll yX1_forgetAll, Cond.code yX1_forgetAll cX1_forgetAll 1 none, Cond.fieldLink RX1 21 "WhoSpeaks$Paragraph" "count" "I", Cond.fieldLink RX1 32 "WhoSpeaks$Paragraph" "hint" "I", Cond.fieldLink RX1 38 "WhoSpeaks$Paragraph" "mentioned" "I", Cond.fieldLink RX1 41 "WhoSpeaks$Paragraph" "spokenTo" "I", Cond.fieldLink RX1 44 "WhoSpeaks$Paragraph" "verbCount" "I", Cond.fieldLink RX1 47 "WhoSpeaks$Paragraph" "verbNames" "I", Cond.fieldLink RX1 50 "WhoSpeaks$Paragraph" "heSpeaks" "Z", Cond.fieldLink RX1 53 "WhoSpeaks$Paragraph" "sheSpeaks" "Z", Cond.fieldLink RX1 56 "WhoSpeaks$Paragraph" "doers" "I", Cond.methodLink RX1 59 yX4_codeAt, Cond.methodLink RX1 65 yX4_length, Cond.instanceMethod yX4_length, Cond.selects RX4 yX4_length yX4_length, Cond.code yX4_length cX4_length 1 (some .int), Cond.methodLink RX1 69 yX1_noteSpokenTo, Cond.instanceMethod yX1_noteSpokenTo, Cond.selects RX1 yX1_noteSpokenTo yX1_noteSpokenTo]
def wsX5_paragraph_r5 : List Cond := [Cond.code yX1_noteSpokenTo cX1_noteSpokenTo 2 none, Cond.methodLink RX1 73 yX1_addItem, Cond.instanceMethod yX1_addItem, Cond.selects RX1 yX1_addItem yX1_addItem, Cond.code yX1_addItem cX1_addItem 4 none, Cond.fieldLink RX1 9 "WhoSpeaks$Paragraph" "kinds" "[I", Cond.fieldLink RX1 15 "WhoSpeaks$Paragraph" "persons" "[I", Cond.methodLink RX1 76 yX1_noteVerbs, Cond.instanceMethod yX1_noteVerbs, Cond.selects RX1 yX1_noteVerbs yX1_noteVerbs, Cond.code yX1_noteVerbs cX1_noteVerbs 3 none, Cond.methodLink RX1 89 yX1_whoPlace, Cond.instanceMethod yX1_whoPlace, Cond.selects RX1 yX1_whoPlace yX1_whoPlace, Cond.code yX1_whoPlace cX1_whoPlace 2 (some .int), Cond.methodLink RX1 98 yX1_kindAt, Cond.instanceMethod yX1_kindAt, Cond.selects RX1 yX1_kindAt yX1_kindAt, Cond.code yX1_kindAt cX1_kindAt 2 (some .int), Cond.methodLink RX1 113 yX1_isWho, Cond.static yX1_isWho, Cond.code yX1_isWho cX1_isWho 1 (some .boolean), Cond.methodLink RX1 92 yX1_verbCounts, Cond.instanceMethod yX1_verbCounts]
def wsX5_paragraph_r6 : List Cond := [Cond.selects RX1 yX1_verbCounts yX1_verbCounts, Cond.code yX1_verbCounts cX1_verbCounts 5 (some .boolean), Cond.methodLink RX1 104 Lib.Math.min.name, Cond.static Lib.Math.min.name, Cond.initialized "java/lang/Math", Cond.code Lib.Math.min.name Lib.Math.min.code 2 (some .int), Cond.methodLink RX1 110 Lib.Math.max.name, Cond.static Lib.Math.max.name, Cond.code Lib.Math.max.name Lib.Math.max.code 2 (some .int), Cond.methodLink RX1 95 yX1_noteWho, Cond.instanceMethod yX1_noteWho, Cond.selects RX1 yX1_noteWho yX1_noteWho, Cond.code yX1_noteWho cX1_noteWho 2 none, Cond.methodLink RX1 101 yX1_personAt, Cond.instanceMethod yX1_personAt, Cond.selects RX1 yX1_personAt yX1_personAt, Cond.code yX1_personAt cX1_personAt 2 (some .int), Cond.methodLink RX1 79 yX1_noteDoer, Cond.instanceMethod yX1_noteDoer, Cond.selects RX1 yX1_noteDoer yX1_noteDoer, Cond.code yX1_noteDoer cX1_noteDoer 1 none, Cond.methodLink RX5 100 yX4_clear, Cond.instanceMethod yX4_clear, Cond.selects RX4 yX4_clear yX4_clear]
def wsX5_paragraph_r7 : List Cond := [Cond.code yX4_clear cX4_clear 1 none, Cond.methodLink RX5 115 yX3_length, Cond.instanceMethod yX3_length, Cond.selects RX3 yX3_length yX3_length, Cond.code yX3_length cX3_length 1 (some .int)]
def wsX5_paragraph : List Cond := .code yX5_paragraph cX5_paragraph 2 (some .int) :: ((wsX5_paragraph_r1 ++ (wsX5_paragraph_r2 ++ (wsX5_paragraph_r3 ++ (wsX5_paragraph_r4 ++ (wsX5_paragraph_r5 ++ (wsX5_paragraph_r6 ++ wsX5_paragraph_r7)))))) ++ wsX50 ++ wsX30 ++ wsX10 ++ wsX40 ++ wsX20)
def wsX5_cut : List Cond := .code yX5_cut cX5_cut 1 (some .int) :: ([.fieldLink RX5 26 "WhoSpeaks" "story" "LWhoSpeaks$Story;", .methodLink RX5 115 yX3_length, .instanceMethod yX3_length, .selects RX3 yX3_length yX3_length, .initialized RX3, .code yX3_length cX3_length 1 (some .int), .fieldLink RX3 22 "WhoSpeaks$Story" "count" "I", .methodLink RX5 116 yX3_dropLast, .instanceMethod yX3_dropLast, .selects RX3 yX3_dropLast yX3_dropLast, .code yX3_dropLast cX3_dropLast 1 none] ++ wsX50 ++ wsX30)
def wsX5_ofParagraph_r1 : List Cond := [Cond.fieldLink RX5 26 "WhoSpeaks" "story" "LWhoSpeaks$Story;", Cond.methodLink RX5 119 yX3_holds, Cond.instanceMethod yX3_holds, Cond.selects RX3 yX3_holds yX3_holds, Cond.initialized RX3, Cond.code yX3_holds cX3_holds 2 (some .boolean), Cond.fieldLink RX3 22 "WhoSpeaks$Story" "count" "I", Cond.methodLink RX5 122 yX3_paragraphAt, Cond.instanceMethod yX3_paragraphAt, Cond.selects RX3 yX3_paragraphAt yX3_paragraphAt, Cond.code yX3_paragraphAt cX3_paragraphAt 2 (some (.object "WhoSpeaks$Paragraph")), Cond.fieldLink RX3 11 "WhoSpeaks$Story" "paragraphs" "[LWhoSpeaks$Paragraph;", Cond.fieldLink RX3 18 "WhoSpeaks$Story" "blank" "LWhoSpeaks$Paragraph;", Cond.methodLink RX3 26 yX3_holds, Cond.methodLink RX5 126 yX1_length, Cond.instanceMethod yX1_length, Cond.selects RX1 yX1_length yX1_length, Cond.initialized RX1, Cond.code yX1_length cX1_length 1 (some .int), Cond.fieldLink RX1 21 "WhoSpeaks$Paragraph" "count" "I", Cond.methodLink RX5 129 yX1_quotes, Cond.instanceMethod yX1_quotes, Cond.selects RX1 yX1_quotes yX1_quotes, Cond.code yX1_quotes cX1_quotes 1 (some .int)]
def wsX5_ofParagraph_r2 : List Cond := [Cond.fieldLink RX1 35 "WhoSpeaks$Paragraph" "quoteCount" "I", Cond.methodLink RX5 132 yX1_goesOn, Cond.instanceMethod yX1_goesOn, Cond.selects RX1 yX1_goesOn yX1_goesOn, Cond.code yX1_goesOn cX1_goesOn 1 (some .boolean), Cond.fieldLink RX1 25 "WhoSpeaks$Paragraph" "on" "Z", Cond.methodLink RX5 135 yX1_hereThen, Cond.instanceMethod yX1_hereThen, Cond.selects RX1 yX1_hereThen yX1_hereThen, Cond.code yX1_hereThen cX1_hereThen 1 (some .int), Cond.fieldLink RX1 29 "WhoSpeaks$Paragraph" "here" "I", Cond.methodLink RX5 138 yX1_countingVerbs, Cond.instanceMethod yX1_countingVerbs, Cond.selects RX1 yX1_countingVerbs yX1_countingVerbs, Cond.code yX1_countingVerbs cX1_countingVerbs 1 (some .int), Cond.fieldLink RX1 44 "WhoSpeaks$Paragraph" "verbCount" "I", Cond.methodLink RX5 141 yX1_hintSet, Cond.instanceMethod yX1_hintSet, Cond.selects RX1 yX1_hintSet yX1_hintSet, Cond.code yX1_hintSet cX1_hintSet 1 (some .int), Cond.fieldLink RX1 32 "WhoSpeaks$Paragraph" "hint" "I"]
def wsX5_ofParagraph : List Cond := .code yX5_ofParagraph cX5_ofParagraph 4 (some .int) :: ((wsX5_ofParagraph_r1 ++ wsX5_ofParagraph_r2) ++ wsX50 ++ wsX30 ++ wsX10)
def wsX5_set_r1 : List Cond := [Cond.fieldLink RX5 26 "WhoSpeaks" "story" "LWhoSpeaks$Story;", Cond.fieldLink RX5 33 "WhoSpeaks" "chain" "LWhoSpeaks$Chain;", Cond.methodLink RX5 119 yX3_holds, Cond.instanceMethod yX3_holds, Cond.selects RX3 yX3_holds yX3_holds, Cond.initialized RX3, Cond.code yX3_holds cX3_holds 2 (some .boolean), Cond.fieldLink RX3 22 "WhoSpeaks$Story" "count" "I", Cond.methodLink RX5 122 yX3_paragraphAt, Cond.instanceMethod yX3_paragraphAt, Cond.selects RX3 yX3_paragraphAt yX3_paragraphAt, Cond.code yX3_paragraphAt cX3_paragraphAt 2 (some (.object "WhoSpeaks$Paragraph")), Cond.fieldLink RX3 11 "WhoSpeaks$Story" "paragraphs" "[LWhoSpeaks$Paragraph;", Cond.fieldLink RX3 18 "WhoSpeaks$Story" "blank" "LWhoSpeaks$Paragraph;", Cond.methodLink RX3 26 yX3_holds, Cond.methodLink RX5 144 yX1_speaks, Cond.instanceMethod yX1_speaks, Cond.selects RX1 yX1_speaks yX1_speaks, Cond.initialized RX1, Cond.code yX1_speaks cX1_speaks 1 (some .boolean), Cond.fieldLink RX1 35 "WhoSpeaks$Paragraph" "quoteCount" "I", Cond.methodLink RX5 73 yX5_fillChain, Cond.instanceMethod yX5_fillChain, Cond.selects RX5 yX5_fillChain yX5_fillChain]
def wsX5_set_r2 : List Cond := [Cond.initialized RX5, Cond.code yX5_fillChain cX5_fillChain 5 none, Cond.fieldLink RX5 12 "WhoSpeaks" "people" "LWhoSpeaks$People;", Cond.fieldLink RX5 51 "WhoSpeaks" "ruleSet" "I", Cond.methodLink RX5 239 yX0_clear, Cond.instanceMethod yX0_clear, Cond.selects RX0 yX0_clear yX0_clear, Cond.initialized RX0, Cond.code yX0_clear cX0_clear 1 none, Cond.fieldLink RX0 38 "WhoSpeaks$Chain" "count" "I", Cond.methodLink RX5 115 yX3_length, Cond.instanceMethod yX3_length, Cond.selects RX3 yX3_length yX3_length, Cond.code yX3_length cX3_length 1 (some .int), Cond.methodLink RX5 240 yX1_ownSet, Cond.instanceMethod yX1_ownSet, Cond.selects RX1 yX1_ownSet yX1_ownSet, Cond.code yX1_ownSet cX1_ownSet 4 (some .int), Cond.fieldLink RX1 29 "WhoSpeaks$Paragraph" "here" "I", Cond.fieldLink RX1 41 "WhoSpeaks$Paragraph" "spokenTo" "I", Cond.fieldLink RX1 47 "WhoSpeaks$Paragraph" "verbNames" "I", Cond.fieldLink RX1 50 "WhoSpeaks$Paragraph" "heSpeaks" "Z", Cond.fieldLink RX1 53 "WhoSpeaks$Paragraph" "sheSpeaks" "Z", Cond.fieldLink RX1 56 "WhoSpeaks$Paragraph" "doers" "I"]
def wsX5_set_r3 : List Cond := [Cond.fieldLink RX1 32 "WhoSpeaks$Paragraph" "hint" "I", Cond.methodLink RX1 117 yX2_thereSet, Cond.instanceMethod yX2_thereSet, Cond.selects RX2 yX2_thereSet yX2_thereSet, Cond.initialized RX2, Cond.code yX2_thereSet cX2_thereSet 1 (some .int), Cond.fieldLink RX2 15 "WhoSpeaks$People" "there" "I", Cond.methodLink RX1 122 yX2_allOfSort, Cond.instanceMethod yX2_allOfSort, Cond.selects RX2 yX2_allOfSort yX2_allOfSort, Cond.code yX2_allOfSort cX2_allOfSort 4 (some .int), Cond.fieldLink RX2 9 "WhoSpeaks$People" "sorts" "[I", Cond.static yX5_bitOf, Cond.code yX5_bitOf cX5_bitOf 1 (some .int), Cond.methodLink RX5 172 yX3_linkAhead, Cond.instanceMethod yX3_linkAhead, Cond.selects RX3 yX3_linkAhead yX3_linkAhead, Cond.code yX3_linkAhead cX3_linkAhead 3 (some .int), Cond.methodLink RX3 38 yX3_speaksAt, Cond.instanceMethod yX3_speaksAt, Cond.selects RX3 yX3_speaksAt yX3_speaksAt, Cond.code yX3_speaksAt cX3_speaksAt 2 (some .boolean), Cond.methodLink RX3 30 yX3_paragraphAt, Cond.methodLink RX3 34 yX1_speaks]
def wsX5_set_r4 : List Cond := [Cond.methodLink RX3 51 yX1_goesOn, Cond.instanceMethod yX1_goesOn, Cond.selects RX1 yX1_goesOn yX1_goesOn, Cond.code yX1_goesOn cX1_goesOn 1 (some .boolean), Cond.fieldLink RX1 25 "WhoSpeaks$Paragraph" "on" "Z", Cond.methodLink RX5 243 yX0_append, Cond.instanceMethod yX0_append, Cond.selects RX0 yX0_append yX0_append, Cond.code yX0_append cX0_append 4 none, Cond.fieldLink RX0 9 "WhoSpeaks$Chain" "speaking" "[Z", Cond.fieldLink RX0 15 "WhoSpeaks$Chain" "owns" "[I", Cond.fieldLink RX0 19 "WhoSpeaks$Chain" "links" "[I", Cond.static yX5_isWithin, Cond.code yX5_isWithin cX5_isWithin 2 (some .boolean), Cond.methodLink RX5 147 yX0_ownSet, Cond.instanceMethod yX0_ownSet, Cond.selects RX0 yX0_ownSet yX0_ownSet, Cond.code yX0_ownSet cX0_ownSet 2 (some .int), Cond.methodLink RX0 46 yX0_holds, Cond.instanceMethod yX0_holds, Cond.selects RX0 yX0_holds yX0_holds, Cond.code yX0_holds cX0_holds 2 (some .boolean), Cond.methodLink RX5 150 yX0_narrow, Cond.instanceMethod yX0_narrow]
def wsX5_set_r5 : List Cond := [Cond.selects RX0 yX0_narrow yX0_narrow, Cond.code yX0_narrow cX0_narrow 4 none, Cond.fieldLink RX0 22 "WhoSpeaks$Chain" "narrowed" "[I", Cond.methodLink RX0 50 yX0_ownSet, Cond.methodLink RX0 57 yX0_narrowOnce, Cond.instanceMethod yX0_narrowOnce, Cond.selects RX0 yX0_narrowOnce yX0_narrowOnce, Cond.code yX0_narrowOnce cX0_narrowOnce 3 (some .boolean), Cond.fieldLink RX0 25 "WhoSpeaks$Chain" "earlier" "[I", Cond.methodLink RX0 61 yX0_earlierSet, Cond.instanceMethod yX0_earlierSet, Cond.selects RX0 yX0_earlierSet yX0_earlierSet, Cond.code yX0_earlierSet cX0_earlierSet 2 (some .int), Cond.methodLink RX0 64 yX0_linkAt, Cond.instanceMethod yX0_linkAt, Cond.selects RX0 yX0_linkAt yX0_linkAt, Cond.code yX0_linkAt cX0_linkAt 2 (some .int), Cond.methodLink RX0 67 yX0_leftBy, Cond.static yX0_leftBy, Cond.code yX0_leftBy cX0_leftBy 3 (some .int), Cond.methodLink RX0 71 yJ6_bitCount_0f7a4, Cond.static yJ6_bitCount_0f7a4, Cond.initialized RJ6, Cond.code yJ6_bitCount_0f7a4 cJ6_bitCount_0f7a4 1 (some .int)]
def wsX5_set_r6 : List Cond := [Cond.constant RJ6 265 (1431655765), Cond.constant RJ6 266 (858993459), Cond.constant RJ6 267 (252645135), Cond.methodLink RX5 153 yX0_narrowedSet, Cond.instanceMethod yX0_narrowedSet, Cond.selects RX0 yX0_narrowedSet yX0_narrowedSet, Cond.code yX0_narrowedSet cX0_narrowedSet 2 (some .int), Cond.methodLink RX5 156 yX0_countWays, Cond.instanceMethod yX0_countWays, Cond.selects RX0 yX0_countWays yX0_countWays, Cond.code yX0_countWays cX0_countWays 6 (some .long), Cond.fieldLink RX0 32 "WhoSpeaks$Chain" "tails" "[J", Cond.fieldLink RX0 35 "WhoSpeaks$Chain" "sures" "[I", Cond.methodLink RX0 76 yX0_stepOver, Cond.instanceMethod yX0_stepOver, Cond.selects RX0 yX0_stepOver yX0_stepOver, Cond.code yX0_stepOver cX0_stepOver 13 (some .long), Cond.methodLink RX0 87 yX0_countAt, Cond.static yX0_countAt, Cond.code yX0_countAt cX0_countAt 4 (some .long), Cond.methodLink RX0 91 yX0_fitting, Cond.static yX0_fitting, Cond.code yX0_fitting cX0_fitting 5 (some .long), Cond.methodLink RX0 80 yX0_waysWithin]
def wsX5_set_r7 : List Cond := [Cond.instanceMethod yX0_waysWithin, Cond.selects RX0 yX0_waysWithin yX0_waysWithin, Cond.code yX0_waysWithin cX0_waysWithin 7 (some .long), Cond.fieldLink RX0 28 "WhoSpeaks$Chain" "heads" "[J", Cond.methodLink RX0 84 yX0_setThrough, Cond.instanceMethod yX0_setThrough, Cond.selects RX0 yX0_setThrough yX0_setThrough, Cond.code yX0_setThrough cX0_setThrough 4 (some .int), Cond.methodLink RX0 95 yX0_waysThrough, Cond.instanceMethod yX0_waysThrough, Cond.selects RX0 yX0_waysThrough yX0_waysThrough, Cond.code yX0_waysThrough cX0_waysThrough 3 (some .long), Cond.methodLink RX5 160 yX0_sureSet, Cond.instanceMethod yX0_sureSet, Cond.selects RX0 yX0_sureSet yX0_sureSet, Cond.code yX0_sureSet cX0_sureSet 2 (some .int)]
def wsX5_set : List Cond := .code yX5_set cX5_set 3 (some .int) :: ((wsX5_set_r1 ++ (wsX5_set_r2 ++ (wsX5_set_r3 ++ (wsX5_set_r4 ++ (wsX5_set_r5 ++ (wsX5_set_r6 ++ wsX5_set_r7)))))) ++ wsX50 ++ wsX30 ++ wsX10 ++ wsX00 ++ wsX20)
def wsX5_keepNarrowedSets_r1 : List Cond := [Cond.fieldLink RX5 33 "WhoSpeaks" "chain" "LWhoSpeaks$Chain;", Cond.fieldLink RX5 37 "WhoSpeaks" "narrowedBefore" "[I", Cond.methodLink RX5 73 yX5_fillChain, Cond.instanceMethod yX5_fillChain, Cond.selects RX5 yX5_fillChain yX5_fillChain, Cond.initialized RX5, Cond.code yX5_fillChain cX5_fillChain 5 none, Cond.fieldLink RX5 26 "WhoSpeaks" "story" "LWhoSpeaks$Story;", Cond.fieldLink RX5 12 "WhoSpeaks" "people" "LWhoSpeaks$People;", Cond.fieldLink RX5 51 "WhoSpeaks" "ruleSet" "I", Cond.methodLink RX5 239 yX0_clear, Cond.instanceMethod yX0_clear, Cond.selects RX0 yX0_clear yX0_clear, Cond.initialized RX0, Cond.code yX0_clear cX0_clear 1 none, Cond.fieldLink RX0 38 "WhoSpeaks$Chain" "count" "I", Cond.methodLink RX5 115 yX3_length, Cond.instanceMethod yX3_length, Cond.selects RX3 yX3_length yX3_length, Cond.initialized RX3, Cond.code yX3_length cX3_length 1 (some .int), Cond.fieldLink RX3 22 "WhoSpeaks$Story" "count" "I", Cond.methodLink RX5 122 yX3_paragraphAt, Cond.instanceMethod yX3_paragraphAt]
def wsX5_keepNarrowedSets_r2 : List Cond := [Cond.selects RX3 yX3_paragraphAt yX3_paragraphAt, Cond.code yX3_paragraphAt cX3_paragraphAt 2 (some (.object "WhoSpeaks$Paragraph")), Cond.fieldLink RX3 11 "WhoSpeaks$Story" "paragraphs" "[LWhoSpeaks$Paragraph;", Cond.fieldLink RX3 18 "WhoSpeaks$Story" "blank" "LWhoSpeaks$Paragraph;", Cond.methodLink RX3 26 yX3_holds, Cond.instanceMethod yX3_holds, Cond.selects RX3 yX3_holds yX3_holds, Cond.code yX3_holds cX3_holds 2 (some .boolean), Cond.methodLink RX5 144 yX1_speaks, Cond.instanceMethod yX1_speaks, Cond.selects RX1 yX1_speaks yX1_speaks, Cond.initialized RX1, Cond.code yX1_speaks cX1_speaks 1 (some .boolean), Cond.fieldLink RX1 35 "WhoSpeaks$Paragraph" "quoteCount" "I", Cond.methodLink RX5 240 yX1_ownSet, Cond.instanceMethod yX1_ownSet, Cond.selects RX1 yX1_ownSet yX1_ownSet, Cond.code yX1_ownSet cX1_ownSet 4 (some .int), Cond.fieldLink RX1 29 "WhoSpeaks$Paragraph" "here" "I", Cond.fieldLink RX1 41 "WhoSpeaks$Paragraph" "spokenTo" "I", Cond.fieldLink RX1 47 "WhoSpeaks$Paragraph" "verbNames" "I", Cond.fieldLink RX1 50 "WhoSpeaks$Paragraph" "heSpeaks" "Z", Cond.fieldLink RX1 53 "WhoSpeaks$Paragraph" "sheSpeaks" "Z", Cond.fieldLink RX1 56 "WhoSpeaks$Paragraph" "doers" "I"]
def wsX5_keepNarrowedSets_r3 : List Cond := [Cond.fieldLink RX1 32 "WhoSpeaks$Paragraph" "hint" "I", Cond.methodLink RX1 117 yX2_thereSet, Cond.instanceMethod yX2_thereSet, Cond.selects RX2 yX2_thereSet yX2_thereSet, Cond.initialized RX2, Cond.code yX2_thereSet cX2_thereSet 1 (some .int), Cond.fieldLink RX2 15 "WhoSpeaks$People" "there" "I", Cond.methodLink RX1 122 yX2_allOfSort, Cond.instanceMethod yX2_allOfSort, Cond.selects RX2 yX2_allOfSort yX2_allOfSort, Cond.code yX2_allOfSort cX2_allOfSort 4 (some .int), Cond.fieldLink RX2 9 "WhoSpeaks$People" "sorts" "[I", Cond.static yX5_bitOf, Cond.code yX5_bitOf cX5_bitOf 1 (some .int), Cond.methodLink RX5 172 yX3_linkAhead, Cond.instanceMethod yX3_linkAhead, Cond.selects RX3 yX3_linkAhead yX3_linkAhead, Cond.code yX3_linkAhead cX3_linkAhead 3 (some .int), Cond.methodLink RX3 38 yX3_speaksAt, Cond.instanceMethod yX3_speaksAt, Cond.selects RX3 yX3_speaksAt yX3_speaksAt, Cond.code yX3_speaksAt cX3_speaksAt 2 (some .boolean), Cond.methodLink RX3 30 yX3_paragraphAt, Cond.methodLink RX3 34 yX1_speaks]
def wsX5_keepNarrowedSets_r4 : List Cond := [Cond.methodLink RX3 51 yX1_goesOn, Cond.instanceMethod yX1_goesOn, Cond.selects RX1 yX1_goesOn yX1_goesOn, Cond.code yX1_goesOn cX1_goesOn 1 (some .boolean), Cond.fieldLink RX1 25 "WhoSpeaks$Paragraph" "on" "Z", Cond.methodLink RX5 243 yX0_append, Cond.instanceMethod yX0_append, Cond.selects RX0 yX0_append yX0_append, Cond.code yX0_append cX0_append 4 none, Cond.fieldLink RX0 9 "WhoSpeaks$Chain" "speaking" "[Z", Cond.fieldLink RX0 15 "WhoSpeaks$Chain" "owns" "[I", Cond.fieldLink RX0 19 "WhoSpeaks$Chain" "links" "[I", Cond.static yX5_isWithin, Cond.code yX5_isWithin cX5_isWithin 2 (some .boolean), Cond.methodLink RX5 150 yX0_narrow, Cond.instanceMethod yX0_narrow, Cond.selects RX0 yX0_narrow yX0_narrow, Cond.code yX0_narrow cX0_narrow 4 none, Cond.fieldLink RX0 22 "WhoSpeaks$Chain" "narrowed" "[I", Cond.methodLink RX0 50 yX0_ownSet, Cond.instanceMethod yX0_ownSet, Cond.selects RX0 yX0_ownSet yX0_ownSet, Cond.code yX0_ownSet cX0_ownSet 2 (some .int), Cond.methodLink RX0 46 yX0_holds]
def wsX5_keepNarrowedSets_r5 : List Cond := [Cond.instanceMethod yX0_holds, Cond.selects RX0 yX0_holds yX0_holds, Cond.code yX0_holds cX0_holds 2 (some .boolean), Cond.methodLink RX0 57 yX0_narrowOnce, Cond.instanceMethod yX0_narrowOnce, Cond.selects RX0 yX0_narrowOnce yX0_narrowOnce, Cond.code yX0_narrowOnce cX0_narrowOnce 3 (some .boolean), Cond.fieldLink RX0 25 "WhoSpeaks$Chain" "earlier" "[I", Cond.methodLink RX0 61 yX0_earlierSet, Cond.instanceMethod yX0_earlierSet, Cond.selects RX0 yX0_earlierSet yX0_earlierSet, Cond.code yX0_earlierSet cX0_earlierSet 2 (some .int), Cond.methodLink RX0 64 yX0_linkAt, Cond.instanceMethod yX0_linkAt, Cond.selects RX0 yX0_linkAt yX0_linkAt, Cond.code yX0_linkAt cX0_linkAt 2 (some .int), Cond.methodLink RX0 67 yX0_leftBy, Cond.static yX0_leftBy, Cond.code yX0_leftBy cX0_leftBy 3 (some .int), Cond.methodLink RX0 71 yJ6_bitCount_0f7a4, Cond.static yJ6_bitCount_0f7a4, Cond.initialized RJ6, Cond.code yJ6_bitCount_0f7a4 cJ6_bitCount_0f7a4 1 (some .int), Cond.constant RJ6 265 (1431655765)]
def wsX5_keepNarrowedSets_r6 : List Cond := [Cond.constant RJ6 266 (858993459), Cond.constant RJ6 267 (252645135), Cond.methodLink RX5 153 yX0_narrowedSet, Cond.instanceMethod yX0_narrowedSet, Cond.selects RX0 yX0_narrowedSet yX0_narrowedSet, Cond.code yX0_narrowedSet cX0_narrowedSet 2 (some .int)]
def wsX5_keepNarrowedSets : List Cond := .code yX5_keepNarrowedSets cX5_keepNarrowedSets 2 none :: ((wsX5_keepNarrowedSets_r1 ++ (wsX5_keepNarrowedSets_r2 ++ (wsX5_keepNarrowedSets_r3 ++ (wsX5_keepNarrowedSets_r4 ++ (wsX5_keepNarrowedSets_r5 ++ wsX5_keepNarrowedSets_r6))))) ++ wsX50 ++ wsX00 ++ wsX30 ++ wsX10 ++ wsX20)
def wsX5_changedNarrowedSets_r1 : List Cond := [Cond.fieldLink RX5 33 "WhoSpeaks" "chain" "LWhoSpeaks$Chain;", Cond.fieldLink RX5 37 "WhoSpeaks" "narrowedBefore" "[I", Cond.methodLink RX5 73 yX5_fillChain, Cond.instanceMethod yX5_fillChain, Cond.selects RX5 yX5_fillChain yX5_fillChain, Cond.initialized RX5, Cond.code yX5_fillChain cX5_fillChain 5 none, Cond.fieldLink RX5 26 "WhoSpeaks" "story" "LWhoSpeaks$Story;", Cond.fieldLink RX5 12 "WhoSpeaks" "people" "LWhoSpeaks$People;", Cond.fieldLink RX5 51 "WhoSpeaks" "ruleSet" "I", Cond.methodLink RX5 239 yX0_clear, Cond.instanceMethod yX0_clear, Cond.selects RX0 yX0_clear yX0_clear, Cond.initialized RX0, Cond.code yX0_clear cX0_clear 1 none, Cond.fieldLink RX0 38 "WhoSpeaks$Chain" "count" "I", Cond.methodLink RX5 115 yX3_length, Cond.instanceMethod yX3_length, Cond.selects RX3 yX3_length yX3_length, Cond.initialized RX3, Cond.code yX3_length cX3_length 1 (some .int), Cond.fieldLink RX3 22 "WhoSpeaks$Story" "count" "I", Cond.methodLink RX5 122 yX3_paragraphAt, Cond.instanceMethod yX3_paragraphAt]
def wsX5_changedNarrowedSets_r2 : List Cond := [Cond.selects RX3 yX3_paragraphAt yX3_paragraphAt, Cond.code yX3_paragraphAt cX3_paragraphAt 2 (some (.object "WhoSpeaks$Paragraph")), Cond.fieldLink RX3 11 "WhoSpeaks$Story" "paragraphs" "[LWhoSpeaks$Paragraph;", Cond.fieldLink RX3 18 "WhoSpeaks$Story" "blank" "LWhoSpeaks$Paragraph;", Cond.methodLink RX3 26 yX3_holds, Cond.instanceMethod yX3_holds, Cond.selects RX3 yX3_holds yX3_holds, Cond.code yX3_holds cX3_holds 2 (some .boolean), Cond.methodLink RX5 144 yX1_speaks, Cond.instanceMethod yX1_speaks, Cond.selects RX1 yX1_speaks yX1_speaks, Cond.initialized RX1, Cond.code yX1_speaks cX1_speaks 1 (some .boolean), Cond.fieldLink RX1 35 "WhoSpeaks$Paragraph" "quoteCount" "I", Cond.methodLink RX5 240 yX1_ownSet, Cond.instanceMethod yX1_ownSet, Cond.selects RX1 yX1_ownSet yX1_ownSet, Cond.code yX1_ownSet cX1_ownSet 4 (some .int), Cond.fieldLink RX1 29 "WhoSpeaks$Paragraph" "here" "I", Cond.fieldLink RX1 41 "WhoSpeaks$Paragraph" "spokenTo" "I", Cond.fieldLink RX1 47 "WhoSpeaks$Paragraph" "verbNames" "I", Cond.fieldLink RX1 50 "WhoSpeaks$Paragraph" "heSpeaks" "Z", Cond.fieldLink RX1 53 "WhoSpeaks$Paragraph" "sheSpeaks" "Z", Cond.fieldLink RX1 56 "WhoSpeaks$Paragraph" "doers" "I"]
def wsX5_changedNarrowedSets_r3 : List Cond := [Cond.fieldLink RX1 32 "WhoSpeaks$Paragraph" "hint" "I", Cond.methodLink RX1 117 yX2_thereSet, Cond.instanceMethod yX2_thereSet, Cond.selects RX2 yX2_thereSet yX2_thereSet, Cond.initialized RX2, Cond.code yX2_thereSet cX2_thereSet 1 (some .int), Cond.fieldLink RX2 15 "WhoSpeaks$People" "there" "I", Cond.methodLink RX1 122 yX2_allOfSort, Cond.instanceMethod yX2_allOfSort, Cond.selects RX2 yX2_allOfSort yX2_allOfSort, Cond.code yX2_allOfSort cX2_allOfSort 4 (some .int), Cond.fieldLink RX2 9 "WhoSpeaks$People" "sorts" "[I", Cond.static yX5_bitOf, Cond.code yX5_bitOf cX5_bitOf 1 (some .int), Cond.methodLink RX5 172 yX3_linkAhead, Cond.instanceMethod yX3_linkAhead, Cond.selects RX3 yX3_linkAhead yX3_linkAhead, Cond.code yX3_linkAhead cX3_linkAhead 3 (some .int), Cond.methodLink RX3 38 yX3_speaksAt, Cond.instanceMethod yX3_speaksAt, Cond.selects RX3 yX3_speaksAt yX3_speaksAt, Cond.code yX3_speaksAt cX3_speaksAt 2 (some .boolean), Cond.methodLink RX3 30 yX3_paragraphAt, Cond.methodLink RX3 34 yX1_speaks]
def wsX5_changedNarrowedSets_r4 : List Cond := [Cond.methodLink RX3 51 yX1_goesOn, Cond.instanceMethod yX1_goesOn, Cond.selects RX1 yX1_goesOn yX1_goesOn, Cond.code yX1_goesOn cX1_goesOn 1 (some .boolean), Cond.fieldLink RX1 25 "WhoSpeaks$Paragraph" "on" "Z", Cond.methodLink RX5 243 yX0_append, Cond.instanceMethod yX0_append, Cond.selects RX0 yX0_append yX0_append, Cond.code yX0_append cX0_append 4 none, Cond.fieldLink RX0 9 "WhoSpeaks$Chain" "speaking" "[Z", Cond.fieldLink RX0 15 "WhoSpeaks$Chain" "owns" "[I", Cond.fieldLink RX0 19 "WhoSpeaks$Chain" "links" "[I", Cond.static yX5_isWithin, Cond.code yX5_isWithin cX5_isWithin 2 (some .boolean), Cond.methodLink RX5 150 yX0_narrow, Cond.instanceMethod yX0_narrow, Cond.selects RX0 yX0_narrow yX0_narrow, Cond.code yX0_narrow cX0_narrow 4 none, Cond.fieldLink RX0 22 "WhoSpeaks$Chain" "narrowed" "[I", Cond.methodLink RX0 50 yX0_ownSet, Cond.instanceMethod yX0_ownSet, Cond.selects RX0 yX0_ownSet yX0_ownSet, Cond.code yX0_ownSet cX0_ownSet 2 (some .int), Cond.methodLink RX0 46 yX0_holds]
def wsX5_changedNarrowedSets_r5 : List Cond := [Cond.instanceMethod yX0_holds, Cond.selects RX0 yX0_holds yX0_holds, Cond.code yX0_holds cX0_holds 2 (some .boolean), Cond.methodLink RX0 57 yX0_narrowOnce, Cond.instanceMethod yX0_narrowOnce, Cond.selects RX0 yX0_narrowOnce yX0_narrowOnce, Cond.code yX0_narrowOnce cX0_narrowOnce 3 (some .boolean), Cond.fieldLink RX0 25 "WhoSpeaks$Chain" "earlier" "[I", Cond.methodLink RX0 61 yX0_earlierSet, Cond.instanceMethod yX0_earlierSet, Cond.selects RX0 yX0_earlierSet yX0_earlierSet, Cond.code yX0_earlierSet cX0_earlierSet 2 (some .int), Cond.methodLink RX0 64 yX0_linkAt, Cond.instanceMethod yX0_linkAt, Cond.selects RX0 yX0_linkAt yX0_linkAt, Cond.code yX0_linkAt cX0_linkAt 2 (some .int), Cond.methodLink RX0 67 yX0_leftBy, Cond.static yX0_leftBy, Cond.code yX0_leftBy cX0_leftBy 3 (some .int), Cond.methodLink RX0 71 yJ6_bitCount_0f7a4, Cond.static yJ6_bitCount_0f7a4, Cond.initialized RJ6, Cond.code yJ6_bitCount_0f7a4 cJ6_bitCount_0f7a4 1 (some .int), Cond.constant RJ6 265 (1431655765)]
def wsX5_changedNarrowedSets_r6 : List Cond := [Cond.constant RJ6 266 (858993459), Cond.constant RJ6 267 (252645135), Cond.methodLink RX5 153 yX0_narrowedSet, Cond.instanceMethod yX0_narrowedSet, Cond.selects RX0 yX0_narrowedSet yX0_narrowedSet, Cond.code yX0_narrowedSet cX0_narrowedSet 2 (some .int)]
def wsX5_changedNarrowedSets : List Cond := .code yX5_changedNarrowedSets cX5_changedNarrowedSets 3 (some .int) :: ((wsX5_changedNarrowedSets_r1 ++ (wsX5_changedNarrowedSets_r2 ++ (wsX5_changedNarrowedSets_r3 ++ (wsX5_changedNarrowedSets_r4 ++ (wsX5_changedNarrowedSets_r5 ++ wsX5_changedNarrowedSets_r6))))) ++ wsX50 ++ wsX00 ++ wsX30 ++ wsX10 ++ wsX20)
def wsX5_hint_r1 : List Cond := [Cond.fieldLink RX5 26 "WhoSpeaks" "story" "LWhoSpeaks$Story;", Cond.methodLink RX5 119 yX3_holds, Cond.instanceMethod yX3_holds, Cond.selects RX3 yX3_holds yX3_holds, Cond.initialized RX3, Cond.code yX3_holds cX3_holds 2 (some .boolean), Cond.fieldLink RX3 22 "WhoSpeaks$Story" "count" "I", Cond.methodLink RX5 122 yX3_paragraphAt, Cond.instanceMethod yX3_paragraphAt, Cond.selects RX3 yX3_paragraphAt yX3_paragraphAt, Cond.code yX3_paragraphAt cX3_paragraphAt 2 (some (.object "WhoSpeaks$Paragraph")), Cond.fieldLink RX3 11 "WhoSpeaks$Story" "paragraphs" "[LWhoSpeaks$Paragraph;", Cond.fieldLink RX3 18 "WhoSpeaks$Story" "blank" "LWhoSpeaks$Paragraph;", Cond.methodLink RX3 26 yX3_holds, Cond.methodLink RX5 144 yX1_speaks, Cond.instanceMethod yX1_speaks, Cond.selects RX1 yX1_speaks yX1_speaks, Cond.initialized RX1, Cond.code yX1_speaks cX1_speaks 1 (some .boolean), Cond.fieldLink RX1 35 "WhoSpeaks$Paragraph" "quoteCount" "I", Cond.methodLink RX5 163 yX5_keepNarrowedSets, Cond.instanceMethod yX5_keepNarrowedSets, Cond.selects RX5 yX5_keepNarrowedSets yX5_keepNarrowedSets, Cond.initialized RX5]
def wsX5_hint_r2 : List Cond := [Cond.code yX5_keepNarrowedSets cX5_keepNarrowedSets 2 none, Cond.fieldLink RX5 33 "WhoSpeaks" "chain" "LWhoSpeaks$Chain;", Cond.fieldLink RX5 37 "WhoSpeaks" "narrowedBefore" "[I", Cond.methodLink RX5 73 yX5_fillChain, Cond.instanceMethod yX5_fillChain, Cond.selects RX5 yX5_fillChain yX5_fillChain, Cond.code yX5_fillChain cX5_fillChain 5 none, Cond.fieldLink RX5 12 "WhoSpeaks" "people" "LWhoSpeaks$People;", Cond.fieldLink RX5 51 "WhoSpeaks" "ruleSet" "I", Cond.methodLink RX5 239 yX0_clear, Cond.instanceMethod yX0_clear, Cond.selects RX0 yX0_clear yX0_clear, Cond.initialized RX0, Cond.code yX0_clear cX0_clear 1 none, Cond.fieldLink RX0 38 "WhoSpeaks$Chain" "count" "I", Cond.methodLink RX5 115 yX3_length, Cond.instanceMethod yX3_length, Cond.selects RX3 yX3_length yX3_length, Cond.code yX3_length cX3_length 1 (some .int), Cond.methodLink RX5 240 yX1_ownSet, Cond.instanceMethod yX1_ownSet, Cond.selects RX1 yX1_ownSet yX1_ownSet, Cond.code yX1_ownSet cX1_ownSet 4 (some .int), Cond.fieldLink RX1 29 "WhoSpeaks$Paragraph" "here" "I"]
def wsX5_hint_r3 : List Cond := [Cond.fieldLink RX1 41 "WhoSpeaks$Paragraph" "spokenTo" "I", Cond.fieldLink RX1 47 "WhoSpeaks$Paragraph" "verbNames" "I", Cond.fieldLink RX1 50 "WhoSpeaks$Paragraph" "heSpeaks" "Z", Cond.fieldLink RX1 53 "WhoSpeaks$Paragraph" "sheSpeaks" "Z", Cond.fieldLink RX1 56 "WhoSpeaks$Paragraph" "doers" "I", Cond.fieldLink RX1 32 "WhoSpeaks$Paragraph" "hint" "I", Cond.methodLink RX1 117 yX2_thereSet, Cond.instanceMethod yX2_thereSet, Cond.selects RX2 yX2_thereSet yX2_thereSet, Cond.initialized RX2, Cond.code yX2_thereSet cX2_thereSet 1 (some .int), Cond.fieldLink RX2 15 "WhoSpeaks$People" "there" "I", Cond.methodLink RX1 122 yX2_allOfSort, Cond.instanceMethod yX2_allOfSort, Cond.selects RX2 yX2_allOfSort yX2_allOfSort, Cond.code yX2_allOfSort cX2_allOfSort 4 (some .int), Cond.fieldLink RX2 9 "WhoSpeaks$People" "sorts" "[I", Cond.static yX5_bitOf, Cond.code yX5_bitOf cX5_bitOf 1 (some .int), Cond.methodLink RX5 172 yX3_linkAhead, Cond.instanceMethod yX3_linkAhead, Cond.selects RX3 yX3_linkAhead yX3_linkAhead, Cond.code yX3_linkAhead cX3_linkAhead 3 (some .int), Cond.methodLink RX3 38 yX3_speaksAt]
def wsX5_hint_r4 : List Cond := [Cond.instanceMethod yX3_speaksAt, Cond.selects RX3 yX3_speaksAt yX3_speaksAt, Cond.code yX3_speaksAt cX3_speaksAt 2 (some .boolean), Cond.methodLink RX3 30 yX3_paragraphAt, Cond.methodLink RX3 34 yX1_speaks, Cond.methodLink RX3 51 yX1_goesOn, Cond.instanceMethod yX1_goesOn, Cond.selects RX1 yX1_goesOn yX1_goesOn, Cond.code yX1_goesOn cX1_goesOn 1 (some .boolean), Cond.fieldLink RX1 25 "WhoSpeaks$Paragraph" "on" "Z", Cond.methodLink RX5 243 yX0_append, Cond.instanceMethod yX0_append, Cond.selects RX0 yX0_append yX0_append, Cond.code yX0_append cX0_append 4 none, Cond.fieldLink RX0 9 "WhoSpeaks$Chain" "speaking" "[Z", Cond.fieldLink RX0 15 "WhoSpeaks$Chain" "owns" "[I", Cond.fieldLink RX0 19 "WhoSpeaks$Chain" "links" "[I", Cond.static yX5_isWithin, Cond.code yX5_isWithin cX5_isWithin 2 (some .boolean), Cond.methodLink RX5 150 yX0_narrow, Cond.instanceMethod yX0_narrow, Cond.selects RX0 yX0_narrow yX0_narrow, Cond.code yX0_narrow cX0_narrow 4 none, Cond.fieldLink RX0 22 "WhoSpeaks$Chain" "narrowed" "[I"]
def wsX5_hint_r5 : List Cond := [Cond.methodLink RX0 50 yX0_ownSet, Cond.instanceMethod yX0_ownSet, Cond.selects RX0 yX0_ownSet yX0_ownSet, Cond.code yX0_ownSet cX0_ownSet 2 (some .int), Cond.methodLink RX0 46 yX0_holds, Cond.instanceMethod yX0_holds, Cond.selects RX0 yX0_holds yX0_holds, Cond.code yX0_holds cX0_holds 2 (some .boolean), Cond.methodLink RX0 57 yX0_narrowOnce, Cond.instanceMethod yX0_narrowOnce, Cond.selects RX0 yX0_narrowOnce yX0_narrowOnce, Cond.code yX0_narrowOnce cX0_narrowOnce 3 (some .boolean), Cond.fieldLink RX0 25 "WhoSpeaks$Chain" "earlier" "[I", Cond.methodLink RX0 61 yX0_earlierSet, Cond.instanceMethod yX0_earlierSet, Cond.selects RX0 yX0_earlierSet yX0_earlierSet, Cond.code yX0_earlierSet cX0_earlierSet 2 (some .int), Cond.methodLink RX0 64 yX0_linkAt, Cond.instanceMethod yX0_linkAt, Cond.selects RX0 yX0_linkAt yX0_linkAt, Cond.code yX0_linkAt cX0_linkAt 2 (some .int), Cond.methodLink RX0 67 yX0_leftBy, Cond.static yX0_leftBy, Cond.code yX0_leftBy cX0_leftBy 3 (some .int)]
def wsX5_hint_r6 : List Cond := [Cond.methodLink RX0 71 yJ6_bitCount_0f7a4, Cond.static yJ6_bitCount_0f7a4, Cond.initialized RJ6, Cond.code yJ6_bitCount_0f7a4 cJ6_bitCount_0f7a4 1 (some .int), Cond.constant RJ6 265 (1431655765), Cond.constant RJ6 266 (858993459), Cond.constant RJ6 267 (252645135), Cond.methodLink RX5 153 yX0_narrowedSet, Cond.instanceMethod yX0_narrowedSet, Cond.selects RX0 yX0_narrowedSet yX0_narrowedSet, Cond.code yX0_narrowedSet cX0_narrowedSet 2 (some .int), Cond.methodLink RX5 166 yX1_takeHint, Cond.instanceMethod yX1_takeHint, Cond.selects RX1 yX1_takeHint yX1_takeHint, Cond.code yX1_takeHint cX1_takeHint 2 none, Cond.methodLink RX5 169 yX5_changedNarrowedSets, Cond.instanceMethod yX5_changedNarrowedSets, Cond.selects RX5 yX5_changedNarrowedSets yX5_changedNarrowedSets, Cond.code yX5_changedNarrowedSets cX5_changedNarrowedSets 3 (some .int)]
def wsX5_hint : List Cond := .code yX5_hint cX5_hint 4 (some .int) :: ((wsX5_hint_r1 ++ (wsX5_hint_r2 ++ (wsX5_hint_r3 ++ (wsX5_hint_r4 ++ (wsX5_hint_r5 ++ wsX5_hint_r6))))) ++ wsX50 ++ wsX30 ++ wsX10 ++ wsX00 ++ wsX20)
def wsX5_link_r1 : List Cond := [Cond.fieldLink RX5 26 "WhoSpeaks" "story" "LWhoSpeaks$Story;", Cond.fieldLink RX5 51 "WhoSpeaks" "ruleSet" "I", Cond.methodLink RX5 119 yX3_holds, Cond.instanceMethod yX3_holds, Cond.selects RX3 yX3_holds yX3_holds, Cond.initialized RX3, Cond.code yX3_holds cX3_holds 2 (some .boolean), Cond.fieldLink RX3 22 "WhoSpeaks$Story" "count" "I", Cond.methodLink RX5 172 yX3_linkAhead, Cond.instanceMethod yX3_linkAhead, Cond.selects RX3 yX3_linkAhead yX3_linkAhead, Cond.code yX3_linkAhead cX3_linkAhead 3 (some .int), Cond.methodLink RX3 38 yX3_speaksAt, Cond.instanceMethod yX3_speaksAt, Cond.selects RX3 yX3_speaksAt yX3_speaksAt, Cond.code yX3_speaksAt cX3_speaksAt 2 (some .boolean), Cond.methodLink RX3 30 yX3_paragraphAt, Cond.instanceMethod yX3_paragraphAt, Cond.selects RX3 yX3_paragraphAt yX3_paragraphAt, Cond.code yX3_paragraphAt cX3_paragraphAt 2 (some (.object "WhoSpeaks$Paragraph")), Cond.fieldLink RX3 11 "WhoSpeaks$Story" "paragraphs" "[LWhoSpeaks$Paragraph;", Cond.fieldLink RX3 18 "WhoSpeaks$Story" "blank" "LWhoSpeaks$Paragraph;", Cond.methodLink RX3 26 yX3_holds, Cond.methodLink RX3 34 yX1_speaks]
def wsX5_link_r2 : List Cond := [Cond.instanceMethod yX1_speaks, Cond.selects RX1 yX1_speaks yX1_speaks, Cond.initialized RX1, Cond.code yX1_speaks cX1_speaks 1 (some .boolean), Cond.fieldLink RX1 35 "WhoSpeaks$Paragraph" "quoteCount" "I", Cond.methodLink RX3 51 yX1_goesOn, Cond.instanceMethod yX1_goesOn, Cond.selects RX1 yX1_goesOn yX1_goesOn, Cond.code yX1_goesOn cX1_goesOn 1 (some .boolean), Cond.fieldLink RX1 25 "WhoSpeaks$Paragraph" "on" "Z"]
def wsX5_link : List Cond := .code yX5_link cX5_link 2 (some .int) :: ((wsX5_link_r1 ++ wsX5_link_r2) ++ wsX50 ++ wsX30 ++ wsX10)
def wsX5_ways_r1 : List Cond := [Cond.fieldLink RX5 33 "WhoSpeaks" "chain" "LWhoSpeaks$Chain;", Cond.methodLink RX5 73 yX5_fillChain, Cond.instanceMethod yX5_fillChain, Cond.selects RX5 yX5_fillChain yX5_fillChain, Cond.initialized RX5, Cond.code yX5_fillChain cX5_fillChain 5 none, Cond.fieldLink RX5 26 "WhoSpeaks" "story" "LWhoSpeaks$Story;", Cond.fieldLink RX5 12 "WhoSpeaks" "people" "LWhoSpeaks$People;", Cond.fieldLink RX5 51 "WhoSpeaks" "ruleSet" "I", Cond.methodLink RX5 239 yX0_clear, Cond.instanceMethod yX0_clear, Cond.selects RX0 yX0_clear yX0_clear, Cond.initialized RX0, Cond.code yX0_clear cX0_clear 1 none, Cond.fieldLink RX0 38 "WhoSpeaks$Chain" "count" "I", Cond.methodLink RX5 115 yX3_length, Cond.instanceMethod yX3_length, Cond.selects RX3 yX3_length yX3_length, Cond.initialized RX3, Cond.code yX3_length cX3_length 1 (some .int), Cond.fieldLink RX3 22 "WhoSpeaks$Story" "count" "I", Cond.methodLink RX5 122 yX3_paragraphAt, Cond.instanceMethod yX3_paragraphAt, Cond.selects RX3 yX3_paragraphAt yX3_paragraphAt]
def wsX5_ways_r2 : List Cond := [Cond.code yX3_paragraphAt cX3_paragraphAt 2 (some (.object "WhoSpeaks$Paragraph")), Cond.fieldLink RX3 11 "WhoSpeaks$Story" "paragraphs" "[LWhoSpeaks$Paragraph;", Cond.fieldLink RX3 18 "WhoSpeaks$Story" "blank" "LWhoSpeaks$Paragraph;", Cond.methodLink RX3 26 yX3_holds, Cond.instanceMethod yX3_holds, Cond.selects RX3 yX3_holds yX3_holds, Cond.code yX3_holds cX3_holds 2 (some .boolean), Cond.methodLink RX5 144 yX1_speaks, Cond.instanceMethod yX1_speaks, Cond.selects RX1 yX1_speaks yX1_speaks, Cond.initialized RX1, Cond.code yX1_speaks cX1_speaks 1 (some .boolean), Cond.fieldLink RX1 35 "WhoSpeaks$Paragraph" "quoteCount" "I", Cond.methodLink RX5 240 yX1_ownSet, Cond.instanceMethod yX1_ownSet, Cond.selects RX1 yX1_ownSet yX1_ownSet, Cond.code yX1_ownSet cX1_ownSet 4 (some .int), Cond.fieldLink RX1 29 "WhoSpeaks$Paragraph" "here" "I", Cond.fieldLink RX1 41 "WhoSpeaks$Paragraph" "spokenTo" "I", Cond.fieldLink RX1 47 "WhoSpeaks$Paragraph" "verbNames" "I", Cond.fieldLink RX1 50 "WhoSpeaks$Paragraph" "heSpeaks" "Z", Cond.fieldLink RX1 53 "WhoSpeaks$Paragraph" "sheSpeaks" "Z", Cond.fieldLink RX1 56 "WhoSpeaks$Paragraph" "doers" "I", Cond.fieldLink RX1 32 "WhoSpeaks$Paragraph" "hint" "I"]
def wsX5_ways_r3 : List Cond := [Cond.methodLink RX1 117 yX2_thereSet, Cond.instanceMethod yX2_thereSet, Cond.selects RX2 yX2_thereSet yX2_thereSet, Cond.initialized RX2, Cond.code yX2_thereSet cX2_thereSet 1 (some .int), Cond.fieldLink RX2 15 "WhoSpeaks$People" "there" "I", Cond.methodLink RX1 122 yX2_allOfSort, Cond.instanceMethod yX2_allOfSort, Cond.selects RX2 yX2_allOfSort yX2_allOfSort, Cond.code yX2_allOfSort cX2_allOfSort 4 (some .int), Cond.fieldLink RX2 9 "WhoSpeaks$People" "sorts" "[I", Cond.static yX5_bitOf, Cond.code yX5_bitOf cX5_bitOf 1 (some .int), Cond.methodLink RX5 172 yX3_linkAhead, Cond.instanceMethod yX3_linkAhead, Cond.selects RX3 yX3_linkAhead yX3_linkAhead, Cond.code yX3_linkAhead cX3_linkAhead 3 (some .int), Cond.methodLink RX3 38 yX3_speaksAt, Cond.instanceMethod yX3_speaksAt, Cond.selects RX3 yX3_speaksAt yX3_speaksAt, Cond.code yX3_speaksAt cX3_speaksAt 2 (some .boolean), Cond.methodLink RX3 30 yX3_paragraphAt, Cond.methodLink RX3 34 yX1_speaks, Cond.methodLink RX3 51 yX1_goesOn]
def wsX5_ways_r4 : List Cond := [Cond.instanceMethod yX1_goesOn, Cond.selects RX1 yX1_goesOn yX1_goesOn, Cond.code yX1_goesOn cX1_goesOn 1 (some .boolean), Cond.fieldLink RX1 25 "WhoSpeaks$Paragraph" "on" "Z", Cond.methodLink RX5 243 yX0_append, Cond.instanceMethod yX0_append, Cond.selects RX0 yX0_append yX0_append, Cond.code yX0_append cX0_append 4 none, Cond.fieldLink RX0 9 "WhoSpeaks$Chain" "speaking" "[Z", Cond.fieldLink RX0 15 "WhoSpeaks$Chain" "owns" "[I", Cond.fieldLink RX0 19 "WhoSpeaks$Chain" "links" "[I", Cond.static yX5_isWithin, Cond.code yX5_isWithin cX5_isWithin 2 (some .boolean), Cond.methodLink RX5 156 yX0_countWays, Cond.instanceMethod yX0_countWays, Cond.selects RX0 yX0_countWays yX0_countWays, Cond.code yX0_countWays cX0_countWays 6 (some .long), Cond.fieldLink RX0 32 "WhoSpeaks$Chain" "tails" "[J", Cond.fieldLink RX0 35 "WhoSpeaks$Chain" "sures" "[I", Cond.methodLink RX0 64 yX0_linkAt, Cond.instanceMethod yX0_linkAt, Cond.selects RX0 yX0_linkAt yX0_linkAt, Cond.code yX0_linkAt cX0_linkAt 2 (some .int), Cond.methodLink RX0 46 yX0_holds]
def wsX5_ways_r5 : List Cond := [Cond.instanceMethod yX0_holds, Cond.selects RX0 yX0_holds yX0_holds, Cond.code yX0_holds cX0_holds 2 (some .boolean), Cond.methodLink RX0 76 yX0_stepOver, Cond.instanceMethod yX0_stepOver, Cond.selects RX0 yX0_stepOver yX0_stepOver, Cond.code yX0_stepOver cX0_stepOver 13 (some .long), Cond.methodLink RX0 50 yX0_ownSet, Cond.instanceMethod yX0_ownSet, Cond.selects RX0 yX0_ownSet yX0_ownSet, Cond.code yX0_ownSet cX0_ownSet 2 (some .int), Cond.methodLink RX0 87 yX0_countAt, Cond.static yX0_countAt, Cond.code yX0_countAt cX0_countAt 4 (some .long), Cond.methodLink RX0 91 yX0_fitting, Cond.static yX0_fitting, Cond.code yX0_fitting cX0_fitting 5 (some .long), Cond.methodLink RX0 80 yX0_waysWithin, Cond.instanceMethod yX0_waysWithin, Cond.selects RX0 yX0_waysWithin yX0_waysWithin, Cond.code yX0_waysWithin cX0_waysWithin 7 (some .long), Cond.fieldLink RX0 28 "WhoSpeaks$Chain" "heads" "[J", Cond.methodLink RX0 84 yX0_setThrough, Cond.instanceMethod yX0_setThrough]
def wsX5_ways_r6 : List Cond := [Cond.selects RX0 yX0_setThrough yX0_setThrough, Cond.code yX0_setThrough cX0_setThrough 4 (some .int), Cond.methodLink RX0 95 yX0_waysThrough, Cond.instanceMethod yX0_waysThrough, Cond.selects RX0 yX0_waysThrough yX0_waysThrough, Cond.code yX0_waysThrough cX0_waysThrough 3 (some .long)]
def wsX5_ways : List Cond := .code yX5_ways cX5_ways 1 (some .long) :: ((wsX5_ways_r1 ++ (wsX5_ways_r2 ++ (wsX5_ways_r3 ++ (wsX5_ways_r4 ++ (wsX5_ways_r5 ++ wsX5_ways_r6))))) ++ wsX50 ++ wsX00 ++ wsX30 ++ wsX10 ++ wsX20)
def wsX5_would_r1 : List Cond := [Cond.fieldLink RX5 26 "WhoSpeaks" "story" "LWhoSpeaks$Story;", Cond.fieldLink RX5 12 "WhoSpeaks" "people" "LWhoSpeaks$People;", Cond.constantLong RX5 176 (-1), Cond.fieldLink RX5 33 "WhoSpeaks" "chain" "LWhoSpeaks$Chain;", Cond.methodLink RX5 119 yX3_holds, Cond.instanceMethod yX3_holds, Cond.selects RX3 yX3_holds yX3_holds, Cond.initialized RX3, Cond.code yX3_holds cX3_holds 2 (some .boolean), Cond.fieldLink RX3 22 "WhoSpeaks$Story" "count" "I", Cond.methodLink RX5 66 yX2_isThere, Cond.instanceMethod yX2_isThere, Cond.selects RX2 yX2_isThere yX2_isThere, Cond.initialized RX2, Cond.code yX2_isThere cX2_isThere 2 (some .boolean), Cond.fieldLink RX2 15 "WhoSpeaks$People" "there" "I", Cond.static yX5_bitOf, Cond.initialized RX5, Cond.code yX5_bitOf cX5_bitOf 1 (some .int), Cond.methodLink RX5 73 yX5_fillChain, Cond.instanceMethod yX5_fillChain, Cond.selects RX5 yX5_fillChain yX5_fillChain, Cond.code yX5_fillChain cX5_fillChain 5 none, Cond.fieldLink RX5 51 "WhoSpeaks" "ruleSet" "I"]
def wsX5_would_r2 : List Cond := [Cond.methodLink RX5 239 yX0_clear, Cond.instanceMethod yX0_clear, Cond.selects RX0 yX0_clear yX0_clear, Cond.initialized RX0, Cond.code yX0_clear cX0_clear 1 none, Cond.fieldLink RX0 38 "WhoSpeaks$Chain" "count" "I", Cond.methodLink RX5 115 yX3_length, Cond.instanceMethod yX3_length, Cond.selects RX3 yX3_length yX3_length, Cond.code yX3_length cX3_length 1 (some .int), Cond.methodLink RX5 122 yX3_paragraphAt, Cond.instanceMethod yX3_paragraphAt, Cond.selects RX3 yX3_paragraphAt yX3_paragraphAt, Cond.code yX3_paragraphAt cX3_paragraphAt 2 (some (.object "WhoSpeaks$Paragraph")), Cond.fieldLink RX3 11 "WhoSpeaks$Story" "paragraphs" "[LWhoSpeaks$Paragraph;", Cond.fieldLink RX3 18 "WhoSpeaks$Story" "blank" "LWhoSpeaks$Paragraph;", Cond.methodLink RX3 26 yX3_holds, Cond.methodLink RX5 144 yX1_speaks, Cond.instanceMethod yX1_speaks, Cond.selects RX1 yX1_speaks yX1_speaks, Cond.initialized RX1, Cond.code yX1_speaks cX1_speaks 1 (some .boolean), Cond.fieldLink RX1 35 "WhoSpeaks$Paragraph" "quoteCount" "I", Cond.methodLink RX5 240 yX1_ownSet]
def wsX5_would_r3 : List Cond := [Cond.instanceMethod yX1_ownSet, Cond.selects RX1 yX1_ownSet yX1_ownSet, Cond.code yX1_ownSet cX1_ownSet 4 (some .int), Cond.fieldLink RX1 29 "WhoSpeaks$Paragraph" "here" "I", Cond.fieldLink RX1 41 "WhoSpeaks$Paragraph" "spokenTo" "I", Cond.fieldLink RX1 47 "WhoSpeaks$Paragraph" "verbNames" "I", Cond.fieldLink RX1 50 "WhoSpeaks$Paragraph" "heSpeaks" "Z", Cond.fieldLink RX1 53 "WhoSpeaks$Paragraph" "sheSpeaks" "Z", Cond.fieldLink RX1 56 "WhoSpeaks$Paragraph" "doers" "I", Cond.fieldLink RX1 32 "WhoSpeaks$Paragraph" "hint" "I", Cond.methodLink RX1 117 yX2_thereSet, Cond.instanceMethod yX2_thereSet, Cond.selects RX2 yX2_thereSet yX2_thereSet, Cond.code yX2_thereSet cX2_thereSet 1 (some .int), Cond.methodLink RX1 122 yX2_allOfSort, Cond.instanceMethod yX2_allOfSort, Cond.selects RX2 yX2_allOfSort yX2_allOfSort, Cond.code yX2_allOfSort cX2_allOfSort 4 (some .int), Cond.fieldLink RX2 9 "WhoSpeaks$People" "sorts" "[I", Cond.methodLink RX5 172 yX3_linkAhead, Cond.instanceMethod yX3_linkAhead, Cond.selects RX3 yX3_linkAhead yX3_linkAhead, Cond.code yX3_linkAhead cX3_linkAhead 3 (some .int), Cond.methodLink RX3 38 yX3_speaksAt]
def wsX5_would_r4 : List Cond := [Cond.instanceMethod yX3_speaksAt, Cond.selects RX3 yX3_speaksAt yX3_speaksAt, Cond.code yX3_speaksAt cX3_speaksAt 2 (some .boolean), Cond.methodLink RX3 30 yX3_paragraphAt, Cond.methodLink RX3 34 yX1_speaks, Cond.methodLink RX3 51 yX1_goesOn, Cond.instanceMethod yX1_goesOn, Cond.selects RX1 yX1_goesOn yX1_goesOn, Cond.code yX1_goesOn cX1_goesOn 1 (some .boolean), Cond.fieldLink RX1 25 "WhoSpeaks$Paragraph" "on" "Z", Cond.methodLink RX5 243 yX0_append, Cond.instanceMethod yX0_append, Cond.selects RX0 yX0_append yX0_append, Cond.code yX0_append cX0_append 4 none, Cond.fieldLink RX0 9 "WhoSpeaks$Chain" "speaking" "[Z", Cond.fieldLink RX0 15 "WhoSpeaks$Chain" "owns" "[I", Cond.fieldLink RX0 19 "WhoSpeaks$Chain" "links" "[I", Cond.static yX5_isWithin, Cond.code yX5_isWithin cX5_isWithin 2 (some .boolean), Cond.methodLink RX5 156 yX0_countWays, Cond.instanceMethod yX0_countWays, Cond.selects RX0 yX0_countWays yX0_countWays, Cond.code yX0_countWays cX0_countWays 6 (some .long), Cond.fieldLink RX0 32 "WhoSpeaks$Chain" "tails" "[J"]
def wsX5_would_r5 : List Cond := [Cond.fieldLink RX0 35 "WhoSpeaks$Chain" "sures" "[I", Cond.methodLink RX0 64 yX0_linkAt, Cond.instanceMethod yX0_linkAt, Cond.selects RX0 yX0_linkAt yX0_linkAt, Cond.code yX0_linkAt cX0_linkAt 2 (some .int), Cond.methodLink RX0 46 yX0_holds, Cond.instanceMethod yX0_holds, Cond.selects RX0 yX0_holds yX0_holds, Cond.code yX0_holds cX0_holds 2 (some .boolean), Cond.methodLink RX0 76 yX0_stepOver, Cond.instanceMethod yX0_stepOver, Cond.selects RX0 yX0_stepOver yX0_stepOver, Cond.code yX0_stepOver cX0_stepOver 13 (some .long), Cond.methodLink RX0 50 yX0_ownSet, Cond.instanceMethod yX0_ownSet, Cond.selects RX0 yX0_ownSet yX0_ownSet, Cond.code yX0_ownSet cX0_ownSet 2 (some .int), Cond.methodLink RX0 87 yX0_countAt, Cond.static yX0_countAt, Cond.code yX0_countAt cX0_countAt 4 (some .long), Cond.methodLink RX0 91 yX0_fitting, Cond.static yX0_fitting, Cond.code yX0_fitting cX0_fitting 5 (some .long), Cond.methodLink RX0 80 yX0_waysWithin]
def wsX5_would_r6 : List Cond := [Cond.instanceMethod yX0_waysWithin, Cond.selects RX0 yX0_waysWithin yX0_waysWithin, Cond.code yX0_waysWithin cX0_waysWithin 7 (some .long), Cond.fieldLink RX0 28 "WhoSpeaks$Chain" "heads" "[J", Cond.methodLink RX0 84 yX0_setThrough, Cond.instanceMethod yX0_setThrough, Cond.selects RX0 yX0_setThrough yX0_setThrough, Cond.code yX0_setThrough cX0_setThrough 4 (some .int), Cond.methodLink RX0 95 yX0_waysThrough, Cond.instanceMethod yX0_waysThrough, Cond.selects RX0 yX0_waysThrough yX0_waysThrough, Cond.code yX0_waysThrough cX0_waysThrough 3 (some .long), Cond.methodLink RX5 178 yX0_waysThrough]
def wsX5_would : List Cond := .code yX5_would cX5_would 3 (some .long) :: ((wsX5_would_r1 ++ (wsX5_would_r2 ++ (wsX5_would_r3 ++ (wsX5_would_r4 ++ (wsX5_would_r5 ++ wsX5_would_r6))))) ++ wsX50 ++ wsX30 ++ wsX20 ++ wsX00 ++ wsX10)
def wsX5_conflict_r1 : List Cond := [Cond.fieldLink RX5 33 "WhoSpeaks" "chain" "LWhoSpeaks$Chain;", Cond.methodLink RX5 73 yX5_fillChain, Cond.instanceMethod yX5_fillChain, Cond.selects RX5 yX5_fillChain yX5_fillChain, Cond.initialized RX5, Cond.code yX5_fillChain cX5_fillChain 5 none, Cond.fieldLink RX5 26 "WhoSpeaks" "story" "LWhoSpeaks$Story;", Cond.fieldLink RX5 12 "WhoSpeaks" "people" "LWhoSpeaks$People;", Cond.fieldLink RX5 51 "WhoSpeaks" "ruleSet" "I", Cond.methodLink RX5 239 yX0_clear, Cond.instanceMethod yX0_clear, Cond.selects RX0 yX0_clear yX0_clear, Cond.initialized RX0, Cond.code yX0_clear cX0_clear 1 none, Cond.fieldLink RX0 38 "WhoSpeaks$Chain" "count" "I", Cond.methodLink RX5 115 yX3_length, Cond.instanceMethod yX3_length, Cond.selects RX3 yX3_length yX3_length, Cond.initialized RX3, Cond.code yX3_length cX3_length 1 (some .int), Cond.fieldLink RX3 22 "WhoSpeaks$Story" "count" "I", Cond.methodLink RX5 122 yX3_paragraphAt, Cond.instanceMethod yX3_paragraphAt, Cond.selects RX3 yX3_paragraphAt yX3_paragraphAt]
def wsX5_conflict_r2 : List Cond := [Cond.code yX3_paragraphAt cX3_paragraphAt 2 (some (.object "WhoSpeaks$Paragraph")), Cond.fieldLink RX3 11 "WhoSpeaks$Story" "paragraphs" "[LWhoSpeaks$Paragraph;", Cond.fieldLink RX3 18 "WhoSpeaks$Story" "blank" "LWhoSpeaks$Paragraph;", Cond.methodLink RX3 26 yX3_holds, Cond.instanceMethod yX3_holds, Cond.selects RX3 yX3_holds yX3_holds, Cond.code yX3_holds cX3_holds 2 (some .boolean), Cond.methodLink RX5 144 yX1_speaks, Cond.instanceMethod yX1_speaks, Cond.selects RX1 yX1_speaks yX1_speaks, Cond.initialized RX1, Cond.code yX1_speaks cX1_speaks 1 (some .boolean), Cond.fieldLink RX1 35 "WhoSpeaks$Paragraph" "quoteCount" "I", Cond.methodLink RX5 240 yX1_ownSet, Cond.instanceMethod yX1_ownSet, Cond.selects RX1 yX1_ownSet yX1_ownSet, Cond.code yX1_ownSet cX1_ownSet 4 (some .int), Cond.fieldLink RX1 29 "WhoSpeaks$Paragraph" "here" "I", Cond.fieldLink RX1 41 "WhoSpeaks$Paragraph" "spokenTo" "I", Cond.fieldLink RX1 47 "WhoSpeaks$Paragraph" "verbNames" "I", Cond.fieldLink RX1 50 "WhoSpeaks$Paragraph" "heSpeaks" "Z", Cond.fieldLink RX1 53 "WhoSpeaks$Paragraph" "sheSpeaks" "Z", Cond.fieldLink RX1 56 "WhoSpeaks$Paragraph" "doers" "I", Cond.fieldLink RX1 32 "WhoSpeaks$Paragraph" "hint" "I"]
def wsX5_conflict_r3 : List Cond := [Cond.methodLink RX1 117 yX2_thereSet, Cond.instanceMethod yX2_thereSet, Cond.selects RX2 yX2_thereSet yX2_thereSet, Cond.initialized RX2, Cond.code yX2_thereSet cX2_thereSet 1 (some .int), Cond.fieldLink RX2 15 "WhoSpeaks$People" "there" "I", Cond.methodLink RX1 122 yX2_allOfSort, Cond.instanceMethod yX2_allOfSort, Cond.selects RX2 yX2_allOfSort yX2_allOfSort, Cond.code yX2_allOfSort cX2_allOfSort 4 (some .int), Cond.fieldLink RX2 9 "WhoSpeaks$People" "sorts" "[I", Cond.static yX5_bitOf, Cond.code yX5_bitOf cX5_bitOf 1 (some .int), Cond.methodLink RX5 172 yX3_linkAhead, Cond.instanceMethod yX3_linkAhead, Cond.selects RX3 yX3_linkAhead yX3_linkAhead, Cond.code yX3_linkAhead cX3_linkAhead 3 (some .int), Cond.methodLink RX3 38 yX3_speaksAt, Cond.instanceMethod yX3_speaksAt, Cond.selects RX3 yX3_speaksAt yX3_speaksAt, Cond.code yX3_speaksAt cX3_speaksAt 2 (some .boolean), Cond.methodLink RX3 30 yX3_paragraphAt, Cond.methodLink RX3 34 yX1_speaks, Cond.methodLink RX3 51 yX1_goesOn]
def wsX5_conflict_r4 : List Cond := [Cond.instanceMethod yX1_goesOn, Cond.selects RX1 yX1_goesOn yX1_goesOn, Cond.code yX1_goesOn cX1_goesOn 1 (some .boolean), Cond.fieldLink RX1 25 "WhoSpeaks$Paragraph" "on" "Z", Cond.methodLink RX5 243 yX0_append, Cond.instanceMethod yX0_append, Cond.selects RX0 yX0_append yX0_append, Cond.code yX0_append cX0_append 4 none, Cond.fieldLink RX0 9 "WhoSpeaks$Chain" "speaking" "[Z", Cond.fieldLink RX0 15 "WhoSpeaks$Chain" "owns" "[I", Cond.fieldLink RX0 19 "WhoSpeaks$Chain" "links" "[I", Cond.static yX5_isWithin, Cond.code yX5_isWithin cX5_isWithin 2 (some .boolean), Cond.methodLink RX5 182 yX0_conflictEnd, Cond.instanceMethod yX0_conflictEnd, Cond.selects RX0 yX0_conflictEnd yX0_conflictEnd, Cond.code yX0_conflictEnd cX0_conflictEnd 2 (some .int), Cond.methodLink RX0 80 yX0_waysWithin, Cond.instanceMethod yX0_waysWithin, Cond.selects RX0 yX0_waysWithin yX0_waysWithin, Cond.code yX0_waysWithin cX0_waysWithin 7 (some .long), Cond.fieldLink RX0 28 "WhoSpeaks$Chain" "heads" "[J", Cond.methodLink RX0 64 yX0_linkAt, Cond.instanceMethod yX0_linkAt]
def wsX5_conflict_r5 : List Cond := [Cond.selects RX0 yX0_linkAt yX0_linkAt, Cond.code yX0_linkAt cX0_linkAt 2 (some .int), Cond.methodLink RX0 46 yX0_holds, Cond.instanceMethod yX0_holds, Cond.selects RX0 yX0_holds yX0_holds, Cond.code yX0_holds cX0_holds 2 (some .boolean), Cond.methodLink RX0 76 yX0_stepOver, Cond.instanceMethod yX0_stepOver, Cond.selects RX0 yX0_stepOver yX0_stepOver, Cond.code yX0_stepOver cX0_stepOver 13 (some .long), Cond.methodLink RX0 50 yX0_ownSet, Cond.instanceMethod yX0_ownSet, Cond.selects RX0 yX0_ownSet yX0_ownSet, Cond.code yX0_ownSet cX0_ownSet 2 (some .int), Cond.methodLink RX0 87 yX0_countAt, Cond.static yX0_countAt, Cond.code yX0_countAt cX0_countAt 4 (some .long), Cond.methodLink RX0 91 yX0_fitting, Cond.static yX0_fitting, Cond.code yX0_fitting cX0_fitting 5 (some .long), Cond.methodLink RX5 185 yX0_conflictBeginning, Cond.instanceMethod yX0_conflictBeginning, Cond.selects RX0 yX0_conflictBeginning yX0_conflictBeginning, Cond.code yX0_conflictBeginning cX0_conflictBeginning 3 (some .int)]
def wsX5_conflict : List Cond := .code yX5_conflict cX5_conflict 3 (some .int) :: ((wsX5_conflict_r1 ++ (wsX5_conflict_r2 ++ (wsX5_conflict_r3 ++ (wsX5_conflict_r4 ++ wsX5_conflict_r5)))) ++ wsX50 ++ wsX00 ++ wsX30 ++ wsX10 ++ wsX20)
def wsX5_asked_r1 : List Cond := [Cond.fieldLink RX5 33 "WhoSpeaks" "chain" "LWhoSpeaks$Chain;", Cond.fieldLink RX5 26 "WhoSpeaks" "story" "LWhoSpeaks$Story;", Cond.methodLink RX5 73 yX5_fillChain, Cond.instanceMethod yX5_fillChain, Cond.selects RX5 yX5_fillChain yX5_fillChain, Cond.initialized RX5, Cond.code yX5_fillChain cX5_fillChain 5 none, Cond.fieldLink RX5 12 "WhoSpeaks" "people" "LWhoSpeaks$People;", Cond.fieldLink RX5 51 "WhoSpeaks" "ruleSet" "I", Cond.methodLink RX5 239 yX0_clear, Cond.instanceMethod yX0_clear, Cond.selects RX0 yX0_clear yX0_clear, Cond.initialized RX0, Cond.code yX0_clear cX0_clear 1 none, Cond.fieldLink RX0 38 "WhoSpeaks$Chain" "count" "I", Cond.methodLink RX5 115 yX3_length, Cond.instanceMethod yX3_length, Cond.selects RX3 yX3_length yX3_length, Cond.initialized RX3, Cond.code yX3_length cX3_length 1 (some .int), Cond.fieldLink RX3 22 "WhoSpeaks$Story" "count" "I", Cond.methodLink RX5 122 yX3_paragraphAt, Cond.instanceMethod yX3_paragraphAt, Cond.selects RX3 yX3_paragraphAt yX3_paragraphAt]
def wsX5_asked_r2 : List Cond := [Cond.code yX3_paragraphAt cX3_paragraphAt 2 (some (.object "WhoSpeaks$Paragraph")), Cond.fieldLink RX3 11 "WhoSpeaks$Story" "paragraphs" "[LWhoSpeaks$Paragraph;", Cond.fieldLink RX3 18 "WhoSpeaks$Story" "blank" "LWhoSpeaks$Paragraph;", Cond.methodLink RX3 26 yX3_holds, Cond.instanceMethod yX3_holds, Cond.selects RX3 yX3_holds yX3_holds, Cond.code yX3_holds cX3_holds 2 (some .boolean), Cond.methodLink RX5 144 yX1_speaks, Cond.instanceMethod yX1_speaks, Cond.selects RX1 yX1_speaks yX1_speaks, Cond.initialized RX1, Cond.code yX1_speaks cX1_speaks 1 (some .boolean), Cond.fieldLink RX1 35 "WhoSpeaks$Paragraph" "quoteCount" "I", Cond.methodLink RX5 240 yX1_ownSet, Cond.instanceMethod yX1_ownSet, Cond.selects RX1 yX1_ownSet yX1_ownSet, Cond.code yX1_ownSet cX1_ownSet 4 (some .int), Cond.fieldLink RX1 29 "WhoSpeaks$Paragraph" "here" "I", Cond.fieldLink RX1 41 "WhoSpeaks$Paragraph" "spokenTo" "I", Cond.fieldLink RX1 47 "WhoSpeaks$Paragraph" "verbNames" "I", Cond.fieldLink RX1 50 "WhoSpeaks$Paragraph" "heSpeaks" "Z", Cond.fieldLink RX1 53 "WhoSpeaks$Paragraph" "sheSpeaks" "Z", Cond.fieldLink RX1 56 "WhoSpeaks$Paragraph" "doers" "I", Cond.fieldLink RX1 32 "WhoSpeaks$Paragraph" "hint" "I"]
def wsX5_asked_r3 : List Cond := [Cond.methodLink RX1 117 yX2_thereSet, Cond.instanceMethod yX2_thereSet, Cond.selects RX2 yX2_thereSet yX2_thereSet, Cond.initialized RX2, Cond.code yX2_thereSet cX2_thereSet 1 (some .int), Cond.fieldLink RX2 15 "WhoSpeaks$People" "there" "I", Cond.methodLink RX1 122 yX2_allOfSort, Cond.instanceMethod yX2_allOfSort, Cond.selects RX2 yX2_allOfSort yX2_allOfSort, Cond.code yX2_allOfSort cX2_allOfSort 4 (some .int), Cond.fieldLink RX2 9 "WhoSpeaks$People" "sorts" "[I", Cond.static yX5_bitOf, Cond.code yX5_bitOf cX5_bitOf 1 (some .int), Cond.methodLink RX5 172 yX3_linkAhead, Cond.instanceMethod yX3_linkAhead, Cond.selects RX3 yX3_linkAhead yX3_linkAhead, Cond.code yX3_linkAhead cX3_linkAhead 3 (some .int), Cond.methodLink RX3 38 yX3_speaksAt, Cond.instanceMethod yX3_speaksAt, Cond.selects RX3 yX3_speaksAt yX3_speaksAt, Cond.code yX3_speaksAt cX3_speaksAt 2 (some .boolean), Cond.methodLink RX3 30 yX3_paragraphAt, Cond.methodLink RX3 34 yX1_speaks, Cond.methodLink RX3 51 yX1_goesOn]
def wsX5_asked_r4 : List Cond := [Cond.instanceMethod yX1_goesOn, Cond.selects RX1 yX1_goesOn yX1_goesOn, Cond.code yX1_goesOn cX1_goesOn 1 (some .boolean), Cond.fieldLink RX1 25 "WhoSpeaks$Paragraph" "on" "Z", Cond.methodLink RX5 243 yX0_append, Cond.instanceMethod yX0_append, Cond.selects RX0 yX0_append yX0_append, Cond.code yX0_append cX0_append 4 none, Cond.fieldLink RX0 9 "WhoSpeaks$Chain" "speaking" "[Z", Cond.fieldLink RX0 15 "WhoSpeaks$Chain" "owns" "[I", Cond.fieldLink RX0 19 "WhoSpeaks$Chain" "links" "[I", Cond.static yX5_isWithin, Cond.code yX5_isWithin cX5_isWithin 2 (some .boolean), Cond.methodLink RX5 156 yX0_countWays, Cond.instanceMethod yX0_countWays, Cond.selects RX0 yX0_countWays yX0_countWays, Cond.code yX0_countWays cX0_countWays 6 (some .long), Cond.fieldLink RX0 32 "WhoSpeaks$Chain" "tails" "[J", Cond.fieldLink RX0 35 "WhoSpeaks$Chain" "sures" "[I", Cond.methodLink RX0 64 yX0_linkAt, Cond.instanceMethod yX0_linkAt, Cond.selects RX0 yX0_linkAt yX0_linkAt, Cond.code yX0_linkAt cX0_linkAt 2 (some .int), Cond.methodLink RX0 46 yX0_holds]
def wsX5_asked_r5 : List Cond := [Cond.instanceMethod yX0_holds, Cond.selects RX0 yX0_holds yX0_holds, Cond.code yX0_holds cX0_holds 2 (some .boolean), Cond.methodLink RX0 76 yX0_stepOver, Cond.instanceMethod yX0_stepOver, Cond.selects RX0 yX0_stepOver yX0_stepOver, Cond.code yX0_stepOver cX0_stepOver 13 (some .long), Cond.methodLink RX0 50 yX0_ownSet, Cond.instanceMethod yX0_ownSet, Cond.selects RX0 yX0_ownSet yX0_ownSet, Cond.code yX0_ownSet cX0_ownSet 2 (some .int), Cond.methodLink RX0 87 yX0_countAt, Cond.static yX0_countAt, Cond.code yX0_countAt cX0_countAt 4 (some .long), Cond.methodLink RX0 91 yX0_fitting, Cond.static yX0_fitting, Cond.code yX0_fitting cX0_fitting 5 (some .long), Cond.methodLink RX0 80 yX0_waysWithin, Cond.instanceMethod yX0_waysWithin, Cond.selects RX0 yX0_waysWithin yX0_waysWithin, Cond.code yX0_waysWithin cX0_waysWithin 7 (some .long), Cond.fieldLink RX0 28 "WhoSpeaks$Chain" "heads" "[J", Cond.methodLink RX0 84 yX0_setThrough, Cond.instanceMethod yX0_setThrough]
def wsX5_asked_r6 : List Cond := [Cond.selects RX0 yX0_setThrough yX0_setThrough, Cond.code yX0_setThrough cX0_setThrough 4 (some .int), Cond.methodLink RX0 95 yX0_waysThrough, Cond.instanceMethod yX0_waysThrough, Cond.selects RX0 yX0_waysThrough yX0_waysThrough, Cond.code yX0_waysThrough cX0_waysThrough 3 (some .long), Cond.methodLink RX5 160 yX0_sureSet, Cond.instanceMethod yX0_sureSet, Cond.selects RX0 yX0_sureSet yX0_sureSet, Cond.code yX0_sureSet cX0_sureSet 2 (some .int), Cond.methodLink RX5 188 yJ6_bitCount_0f7a4, Cond.static yJ6_bitCount_0f7a4, Cond.initialized RJ6, Cond.code yJ6_bitCount_0f7a4 cJ6_bitCount_0f7a4 1 (some .int), Cond.constant RJ6 265 (1431655765), Cond.constant RJ6 266 (858993459), Cond.constant RJ6 267 (252645135), Cond.methodLink RX5 193 yX0_mostWaysLeft, Cond.instanceMethod yX0_mostWaysLeft, Cond.selects RX0 yX0_mostWaysLeft yX0_mostWaysLeft, Cond.code yX0_mostWaysLeft cX0_mostWaysLeft 5 (some .long), Cond.methodLink RX0 98 Lib.MathLoose.max_long.x, Cond.static Lib.MathLoose.max_long.x, Cond.initialized "java/lang/Math"]
def wsX5_asked_r7 : List Cond := [Cond.code Lib.MathLoose.max_long.x Lib.MathLoose.max_long.code 4 (some .long)]
def wsX5_asked : List Cond := .code yX5_asked cX5_asked 7 (some .int) :: ((wsX5_asked_r1 ++ (wsX5_asked_r2 ++ (wsX5_asked_r3 ++ (wsX5_asked_r4 ++ (wsX5_asked_r5 ++ (wsX5_asked_r6 ++ wsX5_asked_r7)))))) ++ wsX50 ++ wsX00 ++ wsX30 ++ wsX10 ++ wsX20)
def wsX5_run_r1 : List Cond := [Cond.fieldLink RX5 26 "WhoSpeaks" "story" "LWhoSpeaks$Story;", Cond.fieldLink RX5 33 "WhoSpeaks" "chain" "LWhoSpeaks$Chain;", Cond.methodLink RX5 197 yX3_firstOfRun, Cond.instanceMethod yX3_firstOfRun, Cond.selects RX3 yX3_firstOfRun yX3_firstOfRun, Cond.initialized RX3, Cond.code yX3_firstOfRun cX3_firstOfRun 4 (some .int), Cond.fieldLink RX3 22 "WhoSpeaks$Story" "count" "I", Cond.methodLink RX3 58 yX3_beginsRun, Cond.instanceMethod yX3_beginsRun, Cond.selects RX3 yX3_beginsRun yX3_beginsRun, Cond.code yX3_beginsRun cX3_beginsRun 2 (some .boolean), Cond.methodLink RX3 38 yX3_speaksAt, Cond.instanceMethod yX3_speaksAt, Cond.selects RX3 yX3_speaksAt yX3_speaksAt, Cond.code yX3_speaksAt cX3_speaksAt 2 (some .boolean), Cond.methodLink RX3 30 yX3_paragraphAt, Cond.instanceMethod yX3_paragraphAt, Cond.selects RX3 yX3_paragraphAt yX3_paragraphAt, Cond.code yX3_paragraphAt cX3_paragraphAt 2 (some (.object "WhoSpeaks$Paragraph")), Cond.fieldLink RX3 11 "WhoSpeaks$Story" "paragraphs" "[LWhoSpeaks$Paragraph;", Cond.fieldLink RX3 18 "WhoSpeaks$Story" "blank" "LWhoSpeaks$Paragraph;", Cond.methodLink RX3 26 yX3_holds, Cond.instanceMethod yX3_holds]
def wsX5_run_r2 : List Cond := [Cond.selects RX3 yX3_holds yX3_holds, Cond.code yX3_holds cX3_holds 2 (some .boolean), Cond.methodLink RX3 34 yX1_speaks, Cond.instanceMethod yX1_speaks, Cond.selects RX1 yX1_speaks yX1_speaks, Cond.initialized RX1, Cond.code yX1_speaks cX1_speaks 1 (some .boolean), Cond.fieldLink RX1 35 "WhoSpeaks$Paragraph" "quoteCount" "I", Cond.methodLink RX5 200 yX3_runLength, Cond.instanceMethod yX3_runLength, Cond.selects RX3 yX3_runLength yX3_runLength, Cond.code yX3_runLength cX3_runLength 4 (some .int), Cond.methodLink RX5 73 yX5_fillChain, Cond.instanceMethod yX5_fillChain, Cond.selects RX5 yX5_fillChain yX5_fillChain, Cond.initialized RX5, Cond.code yX5_fillChain cX5_fillChain 5 none, Cond.fieldLink RX5 12 "WhoSpeaks" "people" "LWhoSpeaks$People;", Cond.fieldLink RX5 51 "WhoSpeaks" "ruleSet" "I", Cond.methodLink RX5 239 yX0_clear, Cond.instanceMethod yX0_clear, Cond.selects RX0 yX0_clear yX0_clear, Cond.initialized RX0, Cond.code yX0_clear cX0_clear 1 none]
def wsX5_run_r3 : List Cond := [Cond.fieldLink RX0 38 "WhoSpeaks$Chain" "count" "I", Cond.methodLink RX5 115 yX3_length, Cond.instanceMethod yX3_length, Cond.selects RX3 yX3_length yX3_length, Cond.code yX3_length cX3_length 1 (some .int), Cond.methodLink RX5 122 yX3_paragraphAt, Cond.methodLink RX5 144 yX1_speaks, Cond.methodLink RX5 240 yX1_ownSet, Cond.instanceMethod yX1_ownSet, Cond.selects RX1 yX1_ownSet yX1_ownSet, Cond.code yX1_ownSet cX1_ownSet 4 (some .int), Cond.fieldLink RX1 29 "WhoSpeaks$Paragraph" "here" "I", Cond.fieldLink RX1 41 "WhoSpeaks$Paragraph" "spokenTo" "I", Cond.fieldLink RX1 47 "WhoSpeaks$Paragraph" "verbNames" "I", Cond.fieldLink RX1 50 "WhoSpeaks$Paragraph" "heSpeaks" "Z", Cond.fieldLink RX1 53 "WhoSpeaks$Paragraph" "sheSpeaks" "Z", Cond.fieldLink RX1 56 "WhoSpeaks$Paragraph" "doers" "I", Cond.fieldLink RX1 32 "WhoSpeaks$Paragraph" "hint" "I", Cond.methodLink RX1 117 yX2_thereSet, Cond.instanceMethod yX2_thereSet, Cond.selects RX2 yX2_thereSet yX2_thereSet, Cond.initialized RX2, Cond.code yX2_thereSet cX2_thereSet 1 (some .int), Cond.fieldLink RX2 15 "WhoSpeaks$People" "there" "I"]
def wsX5_run_r4 : List Cond := [Cond.methodLink RX1 122 yX2_allOfSort, Cond.instanceMethod yX2_allOfSort, Cond.selects RX2 yX2_allOfSort yX2_allOfSort, Cond.code yX2_allOfSort cX2_allOfSort 4 (some .int), Cond.fieldLink RX2 9 "WhoSpeaks$People" "sorts" "[I", Cond.static yX5_bitOf, Cond.code yX5_bitOf cX5_bitOf 1 (some .int), Cond.methodLink RX5 172 yX3_linkAhead, Cond.instanceMethod yX3_linkAhead, Cond.selects RX3 yX3_linkAhead yX3_linkAhead, Cond.code yX3_linkAhead cX3_linkAhead 3 (some .int), Cond.methodLink RX3 51 yX1_goesOn, Cond.instanceMethod yX1_goesOn, Cond.selects RX1 yX1_goesOn yX1_goesOn, Cond.code yX1_goesOn cX1_goesOn 1 (some .boolean), Cond.fieldLink RX1 25 "WhoSpeaks$Paragraph" "on" "Z", Cond.methodLink RX5 243 yX0_append, Cond.instanceMethod yX0_append, Cond.selects RX0 yX0_append yX0_append, Cond.code yX0_append cX0_append 4 none, Cond.fieldLink RX0 9 "WhoSpeaks$Chain" "speaking" "[Z", Cond.fieldLink RX0 15 "WhoSpeaks$Chain" "owns" "[I", Cond.fieldLink RX0 19 "WhoSpeaks$Chain" "links" "[I", Cond.static yX5_isWithin]
def wsX5_run_r5 : List Cond := [Cond.code yX5_isWithin cX5_isWithin 2 (some .boolean), Cond.methodLink RX5 203 yX0_ownSetsJoined, Cond.instanceMethod yX0_ownSetsJoined, Cond.selects RX0 yX0_ownSetsJoined yX0_ownSetsJoined, Cond.code yX0_ownSetsJoined cX0_ownSetsJoined 5 (some .int), Cond.methodLink RX0 50 yX0_ownSet, Cond.instanceMethod yX0_ownSet, Cond.selects RX0 yX0_ownSet yX0_ownSet, Cond.code yX0_ownSet cX0_ownSet 2 (some .int), Cond.methodLink RX0 46 yX0_holds, Cond.instanceMethod yX0_holds, Cond.selects RX0 yX0_holds yX0_holds, Cond.code yX0_holds cX0_holds 2 (some .boolean), Cond.methodLink RX5 188 yJ6_bitCount_0f7a4, Cond.static yJ6_bitCount_0f7a4, Cond.initialized RJ6, Cond.code yJ6_bitCount_0f7a4 cJ6_bitCount_0f7a4 1 (some .int), Cond.constant RJ6 265 (1431655765), Cond.constant RJ6 266 (858993459), Cond.constant RJ6 267 (252645135)]
def wsX5_run : List Cond := .code yX5_run cX5_run 5 (some .int) :: ((wsX5_run_r1 ++ (wsX5_run_r2 ++ (wsX5_run_r3 ++ (wsX5_run_r4 ++ wsX5_run_r5)))) ++ wsX50 ++ wsX30 ++ wsX10 ++ wsX00 ++ wsX20)
def wsX5_ofPerson_r1 : List Cond := [Cond.fieldLink RX5 12 "WhoSpeaks" "people" "LWhoSpeaks$People;", Cond.fieldLink RX5 47 "WhoSpeaks" "hereSet" "I", Cond.fieldLink RX5 33 "WhoSpeaks" "chain" "LWhoSpeaks$Chain;", Cond.methodLink RX5 66 yX2_isThere, Cond.instanceMethod yX2_isThere, Cond.selects RX2 yX2_isThere yX2_isThere, Cond.initialized RX2, Cond.code yX2_isThere cX2_isThere 2 (some .boolean), Cond.fieldLink RX2 15 "WhoSpeaks$People" "there" "I", Cond.static yX5_bitOf, Cond.initialized RX5, Cond.code yX5_bitOf cX5_bitOf 1 (some .int), Cond.methodLink RX5 58 yX2_sortOf, Cond.instanceMethod yX2_sortOf, Cond.selects RX2 yX2_sortOf yX2_sortOf, Cond.code yX2_sortOf cX2_sortOf 2 (some .int), Cond.fieldLink RX2 9 "WhoSpeaks$People" "sorts" "[I", Cond.static yX5_isWithin, Cond.code yX5_isWithin cX5_isWithin 2 (some .boolean), Cond.methodLink RX2 27 yX2_isThere, Cond.methodLink RX5 83 yX5_bitOf, Cond.methodLink RX5 73 yX5_fillChain, Cond.instanceMethod yX5_fillChain, Cond.selects RX5 yX5_fillChain yX5_fillChain]
def wsX5_ofPerson_r2 : List Cond := [Cond.code yX5_fillChain cX5_fillChain 5 none, Cond.fieldLink RX5 26 "WhoSpeaks" "story" "LWhoSpeaks$Story;", Cond.fieldLink RX5 51 "WhoSpeaks" "ruleSet" "I", Cond.methodLink RX5 239 yX0_clear, Cond.instanceMethod yX0_clear, Cond.selects RX0 yX0_clear yX0_clear, Cond.initialized RX0, Cond.code yX0_clear cX0_clear 1 none, Cond.fieldLink RX0 38 "WhoSpeaks$Chain" "count" "I", Cond.methodLink RX5 115 yX3_length, Cond.instanceMethod yX3_length, Cond.selects RX3 yX3_length yX3_length, Cond.initialized RX3, Cond.code yX3_length cX3_length 1 (some .int), Cond.fieldLink RX3 22 "WhoSpeaks$Story" "count" "I", Cond.methodLink RX5 122 yX3_paragraphAt, Cond.instanceMethod yX3_paragraphAt, Cond.selects RX3 yX3_paragraphAt yX3_paragraphAt, Cond.code yX3_paragraphAt cX3_paragraphAt 2 (some (.object "WhoSpeaks$Paragraph")), Cond.fieldLink RX3 11 "WhoSpeaks$Story" "paragraphs" "[LWhoSpeaks$Paragraph;", Cond.fieldLink RX3 18 "WhoSpeaks$Story" "blank" "LWhoSpeaks$Paragraph;", Cond.methodLink RX3 26 yX3_holds, Cond.instanceMethod yX3_holds, Cond.selects RX3 yX3_holds yX3_holds]
def wsX5_ofPerson_r3 : List Cond := [Cond.code yX3_holds cX3_holds 2 (some .boolean), Cond.methodLink RX5 144 yX1_speaks, Cond.instanceMethod yX1_speaks, Cond.selects RX1 yX1_speaks yX1_speaks, Cond.initialized RX1, Cond.code yX1_speaks cX1_speaks 1 (some .boolean), Cond.fieldLink RX1 35 "WhoSpeaks$Paragraph" "quoteCount" "I", Cond.methodLink RX5 240 yX1_ownSet, Cond.instanceMethod yX1_ownSet, Cond.selects RX1 yX1_ownSet yX1_ownSet, Cond.code yX1_ownSet cX1_ownSet 4 (some .int), Cond.fieldLink RX1 29 "WhoSpeaks$Paragraph" "here" "I", Cond.fieldLink RX1 41 "WhoSpeaks$Paragraph" "spokenTo" "I", Cond.fieldLink RX1 47 "WhoSpeaks$Paragraph" "verbNames" "I", Cond.fieldLink RX1 50 "WhoSpeaks$Paragraph" "heSpeaks" "Z", Cond.fieldLink RX1 53 "WhoSpeaks$Paragraph" "sheSpeaks" "Z", Cond.fieldLink RX1 56 "WhoSpeaks$Paragraph" "doers" "I", Cond.fieldLink RX1 32 "WhoSpeaks$Paragraph" "hint" "I", Cond.methodLink RX1 117 yX2_thereSet, Cond.instanceMethod yX2_thereSet, Cond.selects RX2 yX2_thereSet yX2_thereSet, Cond.code yX2_thereSet cX2_thereSet 1 (some .int), Cond.methodLink RX1 122 yX2_allOfSort, Cond.instanceMethod yX2_allOfSort]
def wsX5_ofPerson_r4 : List Cond := [Cond.selects RX2 yX2_allOfSort yX2_allOfSort, Cond.code yX2_allOfSort cX2_allOfSort 4 (some .int), Cond.methodLink RX5 172 yX3_linkAhead, Cond.instanceMethod yX3_linkAhead, Cond.selects RX3 yX3_linkAhead yX3_linkAhead, Cond.code yX3_linkAhead cX3_linkAhead 3 (some .int), Cond.methodLink RX3 38 yX3_speaksAt, Cond.instanceMethod yX3_speaksAt, Cond.selects RX3 yX3_speaksAt yX3_speaksAt, Cond.code yX3_speaksAt cX3_speaksAt 2 (some .boolean), Cond.methodLink RX3 30 yX3_paragraphAt, Cond.methodLink RX3 34 yX1_speaks, Cond.methodLink RX3 51 yX1_goesOn, Cond.instanceMethod yX1_goesOn, Cond.selects RX1 yX1_goesOn yX1_goesOn, Cond.code yX1_goesOn cX1_goesOn 1 (some .boolean), Cond.fieldLink RX1 25 "WhoSpeaks$Paragraph" "on" "Z", Cond.methodLink RX5 243 yX0_append, Cond.instanceMethod yX0_append, Cond.selects RX0 yX0_append yX0_append, Cond.code yX0_append cX0_append 4 none, Cond.fieldLink RX0 9 "WhoSpeaks$Chain" "speaking" "[Z", Cond.fieldLink RX0 15 "WhoSpeaks$Chain" "owns" "[I", Cond.fieldLink RX0 19 "WhoSpeaks$Chain" "links" "[I"]
def wsX5_ofPerson_r5 : List Cond := [Cond.methodLink RX5 156 yX0_countWays, Cond.instanceMethod yX0_countWays, Cond.selects RX0 yX0_countWays yX0_countWays, Cond.code yX0_countWays cX0_countWays 6 (some .long), Cond.fieldLink RX0 32 "WhoSpeaks$Chain" "tails" "[J", Cond.fieldLink RX0 35 "WhoSpeaks$Chain" "sures" "[I", Cond.methodLink RX0 64 yX0_linkAt, Cond.instanceMethod yX0_linkAt, Cond.selects RX0 yX0_linkAt yX0_linkAt, Cond.code yX0_linkAt cX0_linkAt 2 (some .int), Cond.methodLink RX0 46 yX0_holds, Cond.instanceMethod yX0_holds, Cond.selects RX0 yX0_holds yX0_holds, Cond.code yX0_holds cX0_holds 2 (some .boolean), Cond.methodLink RX0 76 yX0_stepOver, Cond.instanceMethod yX0_stepOver, Cond.selects RX0 yX0_stepOver yX0_stepOver, Cond.code yX0_stepOver cX0_stepOver 13 (some .long), Cond.methodLink RX0 50 yX0_ownSet, Cond.instanceMethod yX0_ownSet, Cond.selects RX0 yX0_ownSet yX0_ownSet, Cond.code yX0_ownSet cX0_ownSet 2 (some .int), Cond.methodLink RX0 87 yX0_countAt, Cond.static yX0_countAt]
def wsX5_ofPerson_r6 : List Cond := [Cond.code yX0_countAt cX0_countAt 4 (some .long), Cond.methodLink RX0 91 yX0_fitting, Cond.static yX0_fitting, Cond.code yX0_fitting cX0_fitting 5 (some .long), Cond.methodLink RX0 80 yX0_waysWithin, Cond.instanceMethod yX0_waysWithin, Cond.selects RX0 yX0_waysWithin yX0_waysWithin, Cond.code yX0_waysWithin cX0_waysWithin 7 (some .long), Cond.fieldLink RX0 28 "WhoSpeaks$Chain" "heads" "[J", Cond.methodLink RX0 84 yX0_setThrough, Cond.instanceMethod yX0_setThrough, Cond.selects RX0 yX0_setThrough yX0_setThrough, Cond.code yX0_setThrough cX0_setThrough 4 (some .int), Cond.methodLink RX0 95 yX0_waysThrough, Cond.instanceMethod yX0_waysThrough, Cond.selects RX0 yX0_waysThrough yX0_waysThrough, Cond.code yX0_waysThrough cX0_waysThrough 3 (some .long), Cond.methodLink RX5 206 yX0_hadBy, Cond.instanceMethod yX0_hadBy, Cond.selects RX0 yX0_hadBy yX0_hadBy, Cond.code yX0_hadBy cX0_hadBy 4 (some .int), Cond.methodLink RX0 107 yX0_isHadBy, Cond.instanceMethod yX0_isHadBy, Cond.selects RX0 yX0_isHadBy yX0_isHadBy]
def wsX5_ofPerson_r7 : List Cond := [Cond.code yX0_isHadBy cX0_isHadBy 3 (some .boolean), Cond.methodLink RX0 104 yX0_sureSet, Cond.instanceMethod yX0_sureSet, Cond.selects RX0 yX0_sureSet yX0_sureSet, Cond.code yX0_sureSet cX0_sureSet 2 (some .int), Cond.methodLink RX5 209 yX0_maybeHadBy, Cond.instanceMethod yX0_maybeHadBy, Cond.selects RX0 yX0_maybeHadBy yX0_maybeHadBy, Cond.code yX0_maybeHadBy cX0_maybeHadBy 4 (some .int), Cond.methodLink RX5 212 yX0_firstHadBy, Cond.instanceMethod yX0_firstHadBy, Cond.selects RX0 yX0_firstHadBy yX0_firstHadBy, Cond.code yX0_firstHadBy cX0_firstHadBy 3 (some .int), Cond.methodLink RX5 215 yX0_lastHadBy, Cond.instanceMethod yX0_lastHadBy, Cond.selects RX0 yX0_lastHadBy yX0_lastHadBy, Cond.code yX0_lastHadBy cX0_lastHadBy 3 (some .int)]
def wsX5_ofPerson : List Cond := .code yX5_ofPerson cX5_ofPerson 3 (some .int) :: ((wsX5_ofPerson_r1 ++ (wsX5_ofPerson_r2 ++ (wsX5_ofPerson_r3 ++ (wsX5_ofPerson_r4 ++ (wsX5_ofPerson_r5 ++ (wsX5_ofPerson_r6 ++ wsX5_ofPerson_r7)))))) ++ wsX50 ++ wsX20 ++ wsX00 ++ wsX30 ++ wsX10)
def wsX5_ranksAhead : List Cond := .code yX5_ranksAhead cX5_ranksAhead 3 (some .boolean) :: ([.fieldLink RX5 41 "WhoSpeaks" "hasCounts" "[I", .fieldLink RX5 44 "WhoSpeaks" "mayCounts" "[I", .methodLink RX5 54 yX5_isWithin, .static yX5_isWithin, .initialized RX5, .code yX5_isWithin cX5_isWithin 2 (some .boolean)] ++ wsX50)
def wsX5_placeByRank : List Cond := .code yX5_placeByRank cX5_placeByRank 4 (some .int) :: ([.fieldLink RX5 12 "WhoSpeaks" "people" "LWhoSpeaks$People;", .methodLink RX5 66 yX2_isThere, .instanceMethod yX2_isThere, .selects RX2 yX2_isThere yX2_isThere, .initialized RX2, .code yX2_isThere cX2_isThere 2 (some .boolean), .fieldLink RX2 15 "WhoSpeaks$People" "there" "I", .static yX5_bitOf, .initialized RX5, .code yX5_bitOf cX5_bitOf 1 (some .int), .methodLink RX5 246 yX5_ranksAhead, .instanceMethod yX5_ranksAhead, .selects RX5 yX5_ranksAhead yX5_ranksAhead, .code yX5_ranksAhead cX5_ranksAhead 3 (some .boolean), .fieldLink RX5 41 "WhoSpeaks" "hasCounts" "[I", .fieldLink RX5 44 "WhoSpeaks" "mayCounts" "[I", .methodLink RX5 54 yX5_isWithin, .static yX5_isWithin, .code yX5_isWithin cX5_isWithin 2 (some .boolean)] ++ wsX50 ++ wsX20)
def wsX5_rank_r1 : List Cond := [Cond.fieldLink RX5 33 "WhoSpeaks" "chain" "LWhoSpeaks$Chain;", Cond.fieldLink RX5 41 "WhoSpeaks" "hasCounts" "[I", Cond.fieldLink RX5 44 "WhoSpeaks" "mayCounts" "[I", Cond.fieldLink RX5 12 "WhoSpeaks" "people" "LWhoSpeaks$People;", Cond.methodLink RX5 54 yX5_isWithin, Cond.static yX5_isWithin, Cond.initialized RX5, Cond.code yX5_isWithin cX5_isWithin 2 (some .boolean), Cond.methodLink RX5 73 yX5_fillChain, Cond.instanceMethod yX5_fillChain, Cond.selects RX5 yX5_fillChain yX5_fillChain, Cond.code yX5_fillChain cX5_fillChain 5 none, Cond.fieldLink RX5 26 "WhoSpeaks" "story" "LWhoSpeaks$Story;", Cond.fieldLink RX5 51 "WhoSpeaks" "ruleSet" "I", Cond.methodLink RX5 239 yX0_clear, Cond.instanceMethod yX0_clear, Cond.selects RX0 yX0_clear yX0_clear, Cond.initialized RX0, Cond.code yX0_clear cX0_clear 1 none, Cond.fieldLink RX0 38 "WhoSpeaks$Chain" "count" "I", Cond.methodLink RX5 115 yX3_length, Cond.instanceMethod yX3_length, Cond.selects RX3 yX3_length yX3_length, Cond.initialized RX3]
def wsX5_rank_r2 : List Cond := [Cond.code yX3_length cX3_length 1 (some .int), Cond.fieldLink RX3 22 "WhoSpeaks$Story" "count" "I", Cond.methodLink RX5 122 yX3_paragraphAt, Cond.instanceMethod yX3_paragraphAt, Cond.selects RX3 yX3_paragraphAt yX3_paragraphAt, Cond.code yX3_paragraphAt cX3_paragraphAt 2 (some (.object "WhoSpeaks$Paragraph")), Cond.fieldLink RX3 11 "WhoSpeaks$Story" "paragraphs" "[LWhoSpeaks$Paragraph;", Cond.fieldLink RX3 18 "WhoSpeaks$Story" "blank" "LWhoSpeaks$Paragraph;", Cond.methodLink RX3 26 yX3_holds, Cond.instanceMethod yX3_holds, Cond.selects RX3 yX3_holds yX3_holds, Cond.code yX3_holds cX3_holds 2 (some .boolean), Cond.methodLink RX5 144 yX1_speaks, Cond.instanceMethod yX1_speaks, Cond.selects RX1 yX1_speaks yX1_speaks, Cond.initialized RX1, Cond.code yX1_speaks cX1_speaks 1 (some .boolean), Cond.fieldLink RX1 35 "WhoSpeaks$Paragraph" "quoteCount" "I", Cond.methodLink RX5 240 yX1_ownSet, Cond.instanceMethod yX1_ownSet, Cond.selects RX1 yX1_ownSet yX1_ownSet, Cond.code yX1_ownSet cX1_ownSet 4 (some .int), Cond.fieldLink RX1 29 "WhoSpeaks$Paragraph" "here" "I", Cond.fieldLink RX1 41 "WhoSpeaks$Paragraph" "spokenTo" "I"]
def wsX5_rank_r3 : List Cond := [Cond.fieldLink RX1 47 "WhoSpeaks$Paragraph" "verbNames" "I", Cond.fieldLink RX1 50 "WhoSpeaks$Paragraph" "heSpeaks" "Z", Cond.fieldLink RX1 53 "WhoSpeaks$Paragraph" "sheSpeaks" "Z", Cond.fieldLink RX1 56 "WhoSpeaks$Paragraph" "doers" "I", Cond.fieldLink RX1 32 "WhoSpeaks$Paragraph" "hint" "I", Cond.methodLink RX1 117 yX2_thereSet, Cond.instanceMethod yX2_thereSet, Cond.selects RX2 yX2_thereSet yX2_thereSet, Cond.initialized RX2, Cond.code yX2_thereSet cX2_thereSet 1 (some .int), Cond.fieldLink RX2 15 "WhoSpeaks$People" "there" "I", Cond.methodLink RX1 122 yX2_allOfSort, Cond.instanceMethod yX2_allOfSort, Cond.selects RX2 yX2_allOfSort yX2_allOfSort, Cond.code yX2_allOfSort cX2_allOfSort 4 (some .int), Cond.fieldLink RX2 9 "WhoSpeaks$People" "sorts" "[I", Cond.static yX5_bitOf, Cond.code yX5_bitOf cX5_bitOf 1 (some .int), Cond.methodLink RX5 172 yX3_linkAhead, Cond.instanceMethod yX3_linkAhead, Cond.selects RX3 yX3_linkAhead yX3_linkAhead, Cond.code yX3_linkAhead cX3_linkAhead 3 (some .int), Cond.methodLink RX3 38 yX3_speaksAt, Cond.instanceMethod yX3_speaksAt]
def wsX5_rank_r4 : List Cond := [Cond.selects RX3 yX3_speaksAt yX3_speaksAt, Cond.code yX3_speaksAt cX3_speaksAt 2 (some .boolean), Cond.methodLink RX3 30 yX3_paragraphAt, Cond.methodLink RX3 34 yX1_speaks, Cond.methodLink RX3 51 yX1_goesOn, Cond.instanceMethod yX1_goesOn, Cond.selects RX1 yX1_goesOn yX1_goesOn, Cond.code yX1_goesOn cX1_goesOn 1 (some .boolean), Cond.fieldLink RX1 25 "WhoSpeaks$Paragraph" "on" "Z", Cond.methodLink RX5 243 yX0_append, Cond.instanceMethod yX0_append, Cond.selects RX0 yX0_append yX0_append, Cond.code yX0_append cX0_append 4 none, Cond.fieldLink RX0 9 "WhoSpeaks$Chain" "speaking" "[Z", Cond.fieldLink RX0 15 "WhoSpeaks$Chain" "owns" "[I", Cond.fieldLink RX0 19 "WhoSpeaks$Chain" "links" "[I", Cond.methodLink RX5 156 yX0_countWays, Cond.instanceMethod yX0_countWays, Cond.selects RX0 yX0_countWays yX0_countWays, Cond.code yX0_countWays cX0_countWays 6 (some .long), Cond.fieldLink RX0 32 "WhoSpeaks$Chain" "tails" "[J", Cond.fieldLink RX0 35 "WhoSpeaks$Chain" "sures" "[I", Cond.methodLink RX0 64 yX0_linkAt, Cond.instanceMethod yX0_linkAt]
def wsX5_rank_r5 : List Cond := [Cond.selects RX0 yX0_linkAt yX0_linkAt, Cond.code yX0_linkAt cX0_linkAt 2 (some .int), Cond.methodLink RX0 46 yX0_holds, Cond.instanceMethod yX0_holds, Cond.selects RX0 yX0_holds yX0_holds, Cond.code yX0_holds cX0_holds 2 (some .boolean), Cond.methodLink RX0 76 yX0_stepOver, Cond.instanceMethod yX0_stepOver, Cond.selects RX0 yX0_stepOver yX0_stepOver, Cond.code yX0_stepOver cX0_stepOver 13 (some .long), Cond.methodLink RX0 50 yX0_ownSet, Cond.instanceMethod yX0_ownSet, Cond.selects RX0 yX0_ownSet yX0_ownSet, Cond.code yX0_ownSet cX0_ownSet 2 (some .int), Cond.methodLink RX0 87 yX0_countAt, Cond.static yX0_countAt, Cond.code yX0_countAt cX0_countAt 4 (some .long), Cond.methodLink RX0 91 yX0_fitting, Cond.static yX0_fitting, Cond.code yX0_fitting cX0_fitting 5 (some .long), Cond.methodLink RX0 80 yX0_waysWithin, Cond.instanceMethod yX0_waysWithin, Cond.selects RX0 yX0_waysWithin yX0_waysWithin, Cond.code yX0_waysWithin cX0_waysWithin 7 (some .long)]
def wsX5_rank_r6 : List Cond := [Cond.fieldLink RX0 28 "WhoSpeaks$Chain" "heads" "[J", Cond.methodLink RX0 84 yX0_setThrough, Cond.instanceMethod yX0_setThrough, Cond.selects RX0 yX0_setThrough yX0_setThrough, Cond.code yX0_setThrough cX0_setThrough 4 (some .int), Cond.methodLink RX0 95 yX0_waysThrough, Cond.instanceMethod yX0_waysThrough, Cond.selects RX0 yX0_waysThrough yX0_waysThrough, Cond.code yX0_waysThrough cX0_waysThrough 3 (some .long), Cond.methodLink RX5 206 yX0_hadBy, Cond.instanceMethod yX0_hadBy, Cond.selects RX0 yX0_hadBy yX0_hadBy, Cond.code yX0_hadBy cX0_hadBy 4 (some .int), Cond.methodLink RX0 107 yX0_isHadBy, Cond.instanceMethod yX0_isHadBy, Cond.selects RX0 yX0_isHadBy yX0_isHadBy, Cond.code yX0_isHadBy cX0_isHadBy 3 (some .boolean), Cond.methodLink RX0 104 yX0_sureSet, Cond.instanceMethod yX0_sureSet, Cond.selects RX0 yX0_sureSet yX0_sureSet, Cond.code yX0_sureSet cX0_sureSet 2 (some .int), Cond.methodLink RX5 209 yX0_maybeHadBy, Cond.instanceMethod yX0_maybeHadBy, Cond.selects RX0 yX0_maybeHadBy yX0_maybeHadBy]
def wsX5_rank_r7 : List Cond := [Cond.code yX0_maybeHadBy cX0_maybeHadBy 4 (some .int), Cond.methodLink RX5 66 yX2_isThere, Cond.instanceMethod yX2_isThere, Cond.selects RX2 yX2_isThere yX2_isThere, Cond.code yX2_isThere cX2_isThere 2 (some .boolean), Cond.methodLink RX5 218 yX5_placeByRank, Cond.instanceMethod yX5_placeByRank, Cond.selects RX5 yX5_placeByRank yX5_placeByRank, Cond.code yX5_placeByRank cX5_placeByRank 4 (some .int), Cond.methodLink RX5 246 yX5_ranksAhead, Cond.instanceMethod yX5_ranksAhead, Cond.selects RX5 yX5_ranksAhead yX5_ranksAhead, Cond.code yX5_ranksAhead cX5_ranksAhead 3 (some .boolean)]
def wsX5_rank : List Cond := .code yX5_rank cX5_rank 3 (some .int) :: ((wsX5_rank_r1 ++ (wsX5_rank_r2 ++ (wsX5_rank_r3 ++ (wsX5_rank_r4 ++ (wsX5_rank_r5 ++ (wsX5_rank_r6 ++ wsX5_rank_r7)))))) ++ wsX50 ++ wsX00 ++ wsX30 ++ wsX10 ++ wsX20)
def wsX5_signOfOne : List Cond := .code yX5_signOfOne cX5_signOfOne 2 (some .int) :: ([])
def wsX5_memberOf : List Cond := .code yX5_memberOf cX5_memberOf 4 (some .int) :: ([.methodLink RX5 83 yX5_bitOf, .static yX5_bitOf, .initialized RX5, .code yX5_bitOf cX5_bitOf 1 (some .int)])
def wsX5_signOfSet : List Cond := .code yX5_signOfSet cX5_signOfSet 3 (some .int) :: ([.methodLink RX5 188 yJ6_bitCount_0f7a4, .static yJ6_bitCount_0f7a4, .initialized RJ6, .code yJ6_bitCount_0f7a4 cJ6_bitCount_0f7a4 1 (some .int), .constant RJ6 265 (1431655765), .constant RJ6 266 (858993459), .constant RJ6 267 (252645135), .methodLink RX5 249 yX5_memberOf, .static yX5_memberOf, .initialized RX5, .code yX5_memberOf cX5_memberOf 4 (some .int), .methodLink RX5 83 yX5_bitOf, .static yX5_bitOf, .code yX5_bitOf cX5_bitOf 1 (some .int)])
def wsX5_written_r1 : List Cond := [Cond.fieldLink RX5 26 "WhoSpeaks" "story" "LWhoSpeaks$Story;", Cond.fieldLink RX5 33 "WhoSpeaks" "chain" "LWhoSpeaks$Chain;", Cond.methodLink RX5 119 yX3_holds, Cond.instanceMethod yX3_holds, Cond.selects RX3 yX3_holds yX3_holds, Cond.initialized RX3, Cond.code yX3_holds cX3_holds 2 (some .boolean), Cond.fieldLink RX3 22 "WhoSpeaks$Story" "count" "I", Cond.methodLink RX5 122 yX3_paragraphAt, Cond.instanceMethod yX3_paragraphAt, Cond.selects RX3 yX3_paragraphAt yX3_paragraphAt, Cond.code yX3_paragraphAt cX3_paragraphAt 2 (some (.object "WhoSpeaks$Paragraph")), Cond.fieldLink RX3 11 "WhoSpeaks$Story" "paragraphs" "[LWhoSpeaks$Paragraph;", Cond.fieldLink RX3 18 "WhoSpeaks$Story" "blank" "LWhoSpeaks$Paragraph;", Cond.methodLink RX3 26 yX3_holds, Cond.methodLink RX5 144 yX1_speaks, Cond.instanceMethod yX1_speaks, Cond.selects RX1 yX1_speaks yX1_speaks, Cond.initialized RX1, Cond.code yX1_speaks cX1_speaks 1 (some .boolean), Cond.fieldLink RX1 35 "WhoSpeaks$Paragraph" "quoteCount" "I", Cond.methodLink RX5 221 yX5_signOfOne, Cond.static yX5_signOfOne, Cond.initialized RX5]
def wsX5_written_r2 : List Cond := [Cond.code yX5_signOfOne cX5_signOfOne 2 (some .int), Cond.methodLink RX5 73 yX5_fillChain, Cond.instanceMethod yX5_fillChain, Cond.selects RX5 yX5_fillChain yX5_fillChain, Cond.code yX5_fillChain cX5_fillChain 5 none, Cond.fieldLink RX5 12 "WhoSpeaks" "people" "LWhoSpeaks$People;", Cond.fieldLink RX5 51 "WhoSpeaks" "ruleSet" "I", Cond.methodLink RX5 239 yX0_clear, Cond.instanceMethod yX0_clear, Cond.selects RX0 yX0_clear yX0_clear, Cond.initialized RX0, Cond.code yX0_clear cX0_clear 1 none, Cond.fieldLink RX0 38 "WhoSpeaks$Chain" "count" "I", Cond.methodLink RX5 115 yX3_length, Cond.instanceMethod yX3_length, Cond.selects RX3 yX3_length yX3_length, Cond.code yX3_length cX3_length 1 (some .int), Cond.methodLink RX5 240 yX1_ownSet, Cond.instanceMethod yX1_ownSet, Cond.selects RX1 yX1_ownSet yX1_ownSet, Cond.code yX1_ownSet cX1_ownSet 4 (some .int), Cond.fieldLink RX1 29 "WhoSpeaks$Paragraph" "here" "I", Cond.fieldLink RX1 41 "WhoSpeaks$Paragraph" "spokenTo" "I", Cond.fieldLink RX1 47 "WhoSpeaks$Paragraph" "verbNames" "I"]
def wsX5_written_r3 : List Cond := [Cond.fieldLink RX1 50 "WhoSpeaks$Paragraph" "heSpeaks" "Z", Cond.fieldLink RX1 53 "WhoSpeaks$Paragraph" "sheSpeaks" "Z", Cond.fieldLink RX1 56 "WhoSpeaks$Paragraph" "doers" "I", Cond.fieldLink RX1 32 "WhoSpeaks$Paragraph" "hint" "I", Cond.methodLink RX1 117 yX2_thereSet, Cond.instanceMethod yX2_thereSet, Cond.selects RX2 yX2_thereSet yX2_thereSet, Cond.initialized RX2, Cond.code yX2_thereSet cX2_thereSet 1 (some .int), Cond.fieldLink RX2 15 "WhoSpeaks$People" "there" "I", Cond.methodLink RX1 122 yX2_allOfSort, Cond.instanceMethod yX2_allOfSort, Cond.selects RX2 yX2_allOfSort yX2_allOfSort, Cond.code yX2_allOfSort cX2_allOfSort 4 (some .int), Cond.fieldLink RX2 9 "WhoSpeaks$People" "sorts" "[I", Cond.static yX5_bitOf, Cond.code yX5_bitOf cX5_bitOf 1 (some .int), Cond.methodLink RX5 172 yX3_linkAhead, Cond.instanceMethod yX3_linkAhead, Cond.selects RX3 yX3_linkAhead yX3_linkAhead, Cond.code yX3_linkAhead cX3_linkAhead 3 (some .int), Cond.methodLink RX3 38 yX3_speaksAt, Cond.instanceMethod yX3_speaksAt, Cond.selects RX3 yX3_speaksAt yX3_speaksAt]
def wsX5_written_r4 : List Cond := [Cond.code yX3_speaksAt cX3_speaksAt 2 (some .boolean), Cond.methodLink RX3 30 yX3_paragraphAt, Cond.methodLink RX3 34 yX1_speaks, Cond.methodLink RX3 51 yX1_goesOn, Cond.instanceMethod yX1_goesOn, Cond.selects RX1 yX1_goesOn yX1_goesOn, Cond.code yX1_goesOn cX1_goesOn 1 (some .boolean), Cond.fieldLink RX1 25 "WhoSpeaks$Paragraph" "on" "Z", Cond.methodLink RX5 243 yX0_append, Cond.instanceMethod yX0_append, Cond.selects RX0 yX0_append yX0_append, Cond.code yX0_append cX0_append 4 none, Cond.fieldLink RX0 9 "WhoSpeaks$Chain" "speaking" "[Z", Cond.fieldLink RX0 15 "WhoSpeaks$Chain" "owns" "[I", Cond.fieldLink RX0 19 "WhoSpeaks$Chain" "links" "[I", Cond.static yX5_isWithin, Cond.code yX5_isWithin cX5_isWithin 2 (some .boolean), Cond.methodLink RX5 150 yX0_narrow, Cond.instanceMethod yX0_narrow, Cond.selects RX0 yX0_narrow yX0_narrow, Cond.code yX0_narrow cX0_narrow 4 none, Cond.fieldLink RX0 22 "WhoSpeaks$Chain" "narrowed" "[I", Cond.methodLink RX0 50 yX0_ownSet, Cond.instanceMethod yX0_ownSet]
def wsX5_written_r5 : List Cond := [Cond.selects RX0 yX0_ownSet yX0_ownSet, Cond.code yX0_ownSet cX0_ownSet 2 (some .int), Cond.methodLink RX0 46 yX0_holds, Cond.instanceMethod yX0_holds, Cond.selects RX0 yX0_holds yX0_holds, Cond.code yX0_holds cX0_holds 2 (some .boolean), Cond.methodLink RX0 57 yX0_narrowOnce, Cond.instanceMethod yX0_narrowOnce, Cond.selects RX0 yX0_narrowOnce yX0_narrowOnce, Cond.code yX0_narrowOnce cX0_narrowOnce 3 (some .boolean), Cond.fieldLink RX0 25 "WhoSpeaks$Chain" "earlier" "[I", Cond.methodLink RX0 61 yX0_earlierSet, Cond.instanceMethod yX0_earlierSet, Cond.selects RX0 yX0_earlierSet yX0_earlierSet, Cond.code yX0_earlierSet cX0_earlierSet 2 (some .int), Cond.methodLink RX0 64 yX0_linkAt, Cond.instanceMethod yX0_linkAt, Cond.selects RX0 yX0_linkAt yX0_linkAt, Cond.code yX0_linkAt cX0_linkAt 2 (some .int), Cond.methodLink RX0 67 yX0_leftBy, Cond.static yX0_leftBy, Cond.code yX0_leftBy cX0_leftBy 3 (some .int), Cond.methodLink RX0 71 yJ6_bitCount_0f7a4, Cond.static yJ6_bitCount_0f7a4]
def wsX5_written_r6 : List Cond := [Cond.initialized RJ6, Cond.code yJ6_bitCount_0f7a4 cJ6_bitCount_0f7a4 1 (some .int), Cond.constant RJ6 265 (1431655765), Cond.constant RJ6 266 (858993459), Cond.constant RJ6 267 (252645135), Cond.methodLink RX5 153 yX0_narrowedSet, Cond.instanceMethod yX0_narrowedSet, Cond.selects RX0 yX0_narrowedSet yX0_narrowedSet, Cond.code yX0_narrowedSet cX0_narrowedSet 2 (some .int), Cond.methodLink RX5 224 yX5_signOfSet, Cond.static yX5_signOfSet, Cond.code yX5_signOfSet cX5_signOfSet 3 (some .int), Cond.methodLink RX5 188 yJ6_bitCount_0f7a4, Cond.methodLink RX5 249 yX5_memberOf, Cond.static yX5_memberOf, Cond.code yX5_memberOf cX5_memberOf 4 (some .int), Cond.methodLink RX5 83 yX5_bitOf]
def wsX5_written : List Cond := .code yX5_written cX5_written 4 (some .int) :: ((wsX5_written_r1 ++ (wsX5_written_r2 ++ (wsX5_written_r3 ++ (wsX5_written_r4 ++ (wsX5_written_r5 ++ wsX5_written_r6))))) ++ wsX50 ++ wsX30 ++ wsX10 ++ wsX00 ++ wsX20)
def wsX5_many_r1 : List Cond := [Cond.fieldLink RX5 12 "WhoSpeaks" "people" "LWhoSpeaks$People;", Cond.fieldLink RX5 26 "WhoSpeaks" "story" "LWhoSpeaks$Story;", Cond.fieldLink RX5 33 "WhoSpeaks" "chain" "LWhoSpeaks$Chain;", Cond.fieldLink RX5 19 "WhoSpeaks" "tape" "LWhoSpeaks$Tape;", Cond.fieldLink RX5 47 "WhoSpeaks" "hereSet" "I", Cond.fieldLink RX5 51 "WhoSpeaks" "ruleSet" "I", Cond.methodLink RX5 86 yX2_thereSet, Cond.instanceMethod yX2_thereSet, Cond.selects RX2 yX2_thereSet yX2_thereSet, Cond.initialized RX2, Cond.code yX2_thereSet cX2_thereSet 1 (some .int), Cond.fieldLink RX2 15 "WhoSpeaks$People" "there" "I", Cond.methodLink RX5 188 yJ6_bitCount_0f7a4, Cond.static yJ6_bitCount_0f7a4, Cond.initialized RJ6, Cond.code yJ6_bitCount_0f7a4 cJ6_bitCount_0f7a4 1 (some .int), Cond.constant RJ6 265 (1431655765), Cond.constant RJ6 266 (858993459), Cond.constant RJ6 267 (252645135), Cond.methodLink RX5 115 yX3_length, Cond.instanceMethod yX3_length, Cond.selects RX3 yX3_length yX3_length, Cond.initialized RX3, Cond.code yX3_length cX3_length 1 (some .int)]
def wsX5_many_r2 : List Cond := [Cond.fieldLink RX3 22 "WhoSpeaks$Story" "count" "I", Cond.methodLink RX5 227 yX3_speaking, Cond.instanceMethod yX3_speaking, Cond.selects RX3 yX3_speaking yX3_speaking, Cond.code yX3_speaking cX3_speaking 3 (some .int), Cond.methodLink RX3 38 yX3_speaksAt, Cond.instanceMethod yX3_speaksAt, Cond.selects RX3 yX3_speaksAt yX3_speaksAt, Cond.code yX3_speaksAt cX3_speaksAt 2 (some .boolean), Cond.methodLink RX3 30 yX3_paragraphAt, Cond.instanceMethod yX3_paragraphAt, Cond.selects RX3 yX3_paragraphAt yX3_paragraphAt, Cond.code yX3_paragraphAt cX3_paragraphAt 2 (some (.object "WhoSpeaks$Paragraph")), Cond.fieldLink RX3 11 "WhoSpeaks$Story" "paragraphs" "[LWhoSpeaks$Paragraph;", Cond.fieldLink RX3 18 "WhoSpeaks$Story" "blank" "LWhoSpeaks$Paragraph;", Cond.methodLink RX3 26 yX3_holds, Cond.instanceMethod yX3_holds, Cond.selects RX3 yX3_holds yX3_holds, Cond.code yX3_holds cX3_holds 2 (some .boolean), Cond.methodLink RX3 34 yX1_speaks, Cond.instanceMethod yX1_speaks, Cond.selects RX1 yX1_speaks yX1_speaks, Cond.initialized RX1, Cond.code yX1_speaks cX1_speaks 1 (some .boolean)]
def wsX5_many_r3 : List Cond := [Cond.fieldLink RX1 35 "WhoSpeaks$Paragraph" "quoteCount" "I", Cond.methodLink RX5 230 yX3_runs, Cond.instanceMethod yX3_runs, Cond.selects RX3 yX3_runs yX3_runs, Cond.code yX3_runs cX3_runs 3 (some .int), Cond.methodLink RX3 58 yX3_beginsRun, Cond.instanceMethod yX3_beginsRun, Cond.selects RX3 yX3_beginsRun yX3_beginsRun, Cond.code yX3_beginsRun cX3_beginsRun 2 (some .boolean), Cond.methodLink RX5 73 yX5_fillChain, Cond.instanceMethod yX5_fillChain, Cond.selects RX5 yX5_fillChain yX5_fillChain, Cond.initialized RX5, Cond.code yX5_fillChain cX5_fillChain 5 none, Cond.methodLink RX5 239 yX0_clear, Cond.instanceMethod yX0_clear, Cond.selects RX0 yX0_clear yX0_clear, Cond.initialized RX0, Cond.code yX0_clear cX0_clear 1 none, Cond.fieldLink RX0 38 "WhoSpeaks$Chain" "count" "I", Cond.methodLink RX5 122 yX3_paragraphAt, Cond.methodLink RX5 144 yX1_speaks, Cond.methodLink RX5 240 yX1_ownSet, Cond.instanceMethod yX1_ownSet]
def wsX5_many_r4 : List Cond := [Cond.selects RX1 yX1_ownSet yX1_ownSet, Cond.code yX1_ownSet cX1_ownSet 4 (some .int), Cond.fieldLink RX1 29 "WhoSpeaks$Paragraph" "here" "I", Cond.fieldLink RX1 41 "WhoSpeaks$Paragraph" "spokenTo" "I", Cond.fieldLink RX1 47 "WhoSpeaks$Paragraph" "verbNames" "I", Cond.fieldLink RX1 50 "WhoSpeaks$Paragraph" "heSpeaks" "Z", Cond.fieldLink RX1 53 "WhoSpeaks$Paragraph" "sheSpeaks" "Z", Cond.fieldLink RX1 56 "WhoSpeaks$Paragraph" "doers" "I", Cond.fieldLink RX1 32 "WhoSpeaks$Paragraph" "hint" "I", Cond.methodLink RX1 117 yX2_thereSet, Cond.methodLink RX1 122 yX2_allOfSort, Cond.instanceMethod yX2_allOfSort, Cond.selects RX2 yX2_allOfSort yX2_allOfSort, Cond.code yX2_allOfSort cX2_allOfSort 4 (some .int), Cond.fieldLink RX2 9 "WhoSpeaks$People" "sorts" "[I", Cond.static yX5_bitOf, Cond.code yX5_bitOf cX5_bitOf 1 (some .int), Cond.methodLink RX5 172 yX3_linkAhead, Cond.instanceMethod yX3_linkAhead, Cond.selects RX3 yX3_linkAhead yX3_linkAhead, Cond.code yX3_linkAhead cX3_linkAhead 3 (some .int), Cond.methodLink RX3 51 yX1_goesOn, Cond.instanceMethod yX1_goesOn, Cond.selects RX1 yX1_goesOn yX1_goesOn]
def wsX5_many_r5 : List Cond := [Cond.code yX1_goesOn cX1_goesOn 1 (some .boolean), Cond.fieldLink RX1 25 "WhoSpeaks$Paragraph" "on" "Z", Cond.methodLink RX5 243 yX0_append, Cond.instanceMethod yX0_append, Cond.selects RX0 yX0_append yX0_append, Cond.code yX0_append cX0_append 4 none, Cond.fieldLink RX0 9 "WhoSpeaks$Chain" "speaking" "[Z", Cond.fieldLink RX0 15 "WhoSpeaks$Chain" "owns" "[I", Cond.fieldLink RX0 19 "WhoSpeaks$Chain" "links" "[I", Cond.static yX5_isWithin, Cond.code yX5_isWithin cX5_isWithin 2 (some .boolean), Cond.methodLink RX5 156 yX0_countWays, Cond.instanceMethod yX0_countWays, Cond.selects RX0 yX0_countWays yX0_countWays, Cond.code yX0_countWays cX0_countWays 6 (some .long), Cond.fieldLink RX0 32 "WhoSpeaks$Chain" "tails" "[J", Cond.fieldLink RX0 35 "WhoSpeaks$Chain" "sures" "[I", Cond.methodLink RX0 64 yX0_linkAt, Cond.instanceMethod yX0_linkAt, Cond.selects RX0 yX0_linkAt yX0_linkAt, Cond.code yX0_linkAt cX0_linkAt 2 (some .int), Cond.methodLink RX0 46 yX0_holds, Cond.instanceMethod yX0_holds, Cond.selects RX0 yX0_holds yX0_holds]
def wsX5_many_r6 : List Cond := [Cond.code yX0_holds cX0_holds 2 (some .boolean), Cond.methodLink RX0 76 yX0_stepOver, Cond.instanceMethod yX0_stepOver, Cond.selects RX0 yX0_stepOver yX0_stepOver, Cond.code yX0_stepOver cX0_stepOver 13 (some .long), Cond.methodLink RX0 50 yX0_ownSet, Cond.instanceMethod yX0_ownSet, Cond.selects RX0 yX0_ownSet yX0_ownSet, Cond.code yX0_ownSet cX0_ownSet 2 (some .int), Cond.methodLink RX0 87 yX0_countAt, Cond.static yX0_countAt, Cond.code yX0_countAt cX0_countAt 4 (some .long), Cond.methodLink RX0 91 yX0_fitting, Cond.static yX0_fitting, Cond.code yX0_fitting cX0_fitting 5 (some .long), Cond.methodLink RX0 80 yX0_waysWithin, Cond.instanceMethod yX0_waysWithin, Cond.selects RX0 yX0_waysWithin yX0_waysWithin, Cond.code yX0_waysWithin cX0_waysWithin 7 (some .long), Cond.fieldLink RX0 28 "WhoSpeaks$Chain" "heads" "[J", Cond.methodLink RX0 84 yX0_setThrough, Cond.instanceMethod yX0_setThrough, Cond.selects RX0 yX0_setThrough yX0_setThrough, Cond.code yX0_setThrough cX0_setThrough 4 (some .int)]
def wsX5_many_r7 : List Cond := [Cond.methodLink RX0 95 yX0_waysThrough, Cond.instanceMethod yX0_waysThrough, Cond.selects RX0 yX0_waysThrough yX0_waysThrough, Cond.code yX0_waysThrough cX0_waysThrough 3 (some .long), Cond.methodLink RX5 233 yX0_setsSureOfOne, Cond.instanceMethod yX0_setsSureOfOne, Cond.selects RX0 yX0_setsSureOfOne yX0_setsSureOfOne, Cond.code yX0_setsSureOfOne cX0_setsSureOfOne 3 (some .int), Cond.methodLink RX0 104 yX0_sureSet, Cond.instanceMethod yX0_sureSet, Cond.selects RX0 yX0_sureSet yX0_sureSet, Cond.code yX0_sureSet cX0_sureSet 2 (some .int), Cond.methodLink RX0 71 yJ6_bitCount_0f7a4, Cond.methodLink RX5 236 yX3_hints, Cond.instanceMethod yX3_hints, Cond.selects RX3 yX3_hints yX3_hints, Cond.code yX3_hints cX3_hints 3 (some .int), Cond.methodLink RX3 54 yX1_hintSet, Cond.instanceMethod yX1_hintSet, Cond.selects RX1 yX1_hintSet yX1_hintSet, Cond.code yX1_hintSet cX1_hintSet 1 (some .int), Cond.methodLink RX5 97 yX4_length, Cond.instanceMethod yX4_length, Cond.selects RX4 yX4_length yX4_length]
def wsX5_many_r8 : List Cond := [Cond.initialized RX4, Cond.code yX4_length cX4_length 1 (some .int), Cond.fieldLink RX4 15 "WhoSpeaks$Tape" "count" "I"]
def wsX5_many : List Cond := .code yX5_many cX5_many 2 (some .int) :: ((wsX5_many_r1 ++ (wsX5_many_r2 ++ (wsX5_many_r3 ++ (wsX5_many_r4 ++ (wsX5_many_r5 ++ (wsX5_many_r6 ++ (wsX5_many_r7 ++ wsX5_many_r8))))))) ++ wsX50 ++ wsX20 ++ wsX30 ++ wsX10 ++ wsX00 ++ wsX40)
def wsX6_init : List Cond := .code yX6_init cX6_init 2 none :: ([.methodLink RX6 1 objectInit, .instanceMethod objectInit, .code objectInit ⟨#[0xb1]⟩ 1 none, .arrayClass .int, .fieldLink RX6 7 "WhoSpeaksModel" "sortOf" "[I", .fieldLink RX6 13 "WhoSpeaksModel" "rules" "I", .fieldLink RX6 17 "WhoSpeaksModel" "tape" "[I", .fieldLink RX6 20 "WhoSpeaksModel" "itemsOf" "[I", .fieldLink RX6 23 "WhoSpeaksModel" "item" "[I", .fieldLink RX6 26 "WhoSpeaksModel" "whom" "[I", .arrayClass .boolean, .fieldLink RX6 29 "WhoSpeaksModel" "goesOn" "[Z", .fieldLink RX6 33 "WhoSpeaksModel" "wereHere" "[I", .fieldLink RX6 36 "WhoSpeaksModel" "hintOf" "[I", .fieldLink RX6 39 "WhoSpeaksModel" "own" "[I", .fieldLink RX6 42 "WhoSpeaksModel" "narrowed" "[I", .fieldLink RX6 45 "WhoSpeaksModel" "then" "[I", .fieldLink RX6 48 "WhoSpeaksModel" "ahead" "[I", .arrayClass .long, .fieldLink RX6 51 "WhoSpeaksModel" "upTo" "[J", .fieldLink RX6 55 "WhoSpeaksModel" "from" "[J", .fieldLink RX6 58 "WhoSpeaksModel" "sure" "[I", .fieldLink RX6 61 "WhoSpeaksModel" "text" "[I"] ++ wsX60)
def wsX6_within : List Cond := .code yX6_within cX6_within 3 (some .boolean) :: ([])
def wsX6_has : List Cond := .code yX6_has cX6_has 2 (some .boolean) :: ([])
def wsX6_size : List Cond := .code yX6_size cX6_size 3 (some .int) :: ([])
def wsX6_isThere : List Cond := .code yX6_isThere cX6_isThere 2 (some .boolean) :: ([.fieldLink RX6 7 "WhoSpeaksModel" "sortOf" "[I", .methodLink RX6 64 yX6_within, .static yX6_within, .initialized RX6, .code yX6_within cX6_within 3 (some .boolean)] ++ wsX60)
def wsX6_there : List Cond := .code yX6_there cX6_there 3 (some .int) :: ([.fieldLink RX6 7 "WhoSpeaksModel" "sortOf" "[I"] ++ wsX60)
def wsX6_person : List Cond := .code yX6_person cX6_person 4 (some .int) :: ([.fieldLink RX6 7 "WhoSpeaksModel" "sortOf" "[I", .methodLink RX6 64 yX6_within, .static yX6_within, .initialized RX6, .code yX6_within cX6_within 3 (some .boolean)] ++ wsX60)
def wsX6_isNamed : List Cond := .code yX6_isNamed cX6_isNamed 4 (some .boolean) :: ([.fieldLink RX6 68 "WhoSpeaksModel" "paragraphs" "I", .fieldLink RX6 20 "WhoSpeaksModel" "itemsOf" "[I", .fieldLink RX6 26 "WhoSpeaksModel" "whom" "[I"] ++ wsX60)
def wsX6_manyOf : List Cond := .code yX6_manyOf cX6_manyOf 5 (some .int) :: ([.fieldLink RX6 20 "WhoSpeaksModel" "itemsOf" "[I", .fieldLink RX6 23 "WhoSpeaksModel" "item" "[I"] ++ wsX60)
def wsX6_speaks : List Cond := .code yX6_speaks cX6_speaks 2 (some .boolean) :: ([.methodLink RX6 99 yX6_manyOf, .instanceMethod yX6_manyOf, .selects RX6 yX6_manyOf yX6_manyOf, .initialized RX6, .code yX6_manyOf cX6_manyOf 5 (some .int), .fieldLink RX6 20 "WhoSpeaksModel" "itemsOf" "[I", .fieldLink RX6 23 "WhoSpeaksModel" "item" "[I"] ++ wsX60)
def wsX6_isItem : List Cond := .code yX6_isItem cX6_isItem 4 (some .boolean) :: ([.fieldLink RX6 20 "WhoSpeaksModel" "itemsOf" "[I", .fieldLink RX6 23 "WhoSpeaksModel" "item" "[I", .methodLink RX6 64 yX6_within, .static yX6_within, .initialized RX6, .code yX6_within cX6_within 3 (some .boolean)] ++ wsX60)
def wsX6_isWho : List Cond := .code yX6_isWho cX6_isWho 3 (some .boolean) :: ([.fieldLink RX6 20 "WhoSpeaksModel" "itemsOf" "[I", .fieldLink RX6 23 "WhoSpeaksModel" "item" "[I", .methodLink RX6 64 yX6_within, .static yX6_within, .initialized RX6, .code yX6_within cX6_within 3 (some .boolean)] ++ wsX60)
def wsX6_whoOf : List Cond := .code yX6_whoOf cX6_whoOf 3 (some .int) :: ([.methodLink RX6 119 yX6_isWho, .instanceMethod yX6_isWho, .selects RX6 yX6_isWho yX6_isWho, .initialized RX6, .code yX6_isWho cX6_isWho 3 (some .boolean), .fieldLink RX6 20 "WhoSpeaksModel" "itemsOf" "[I", .fieldLink RX6 23 "WhoSpeaksModel" "item" "[I", .methodLink RX6 64 yX6_within, .static yX6_within, .code yX6_within cX6_within 3 (some .boolean)] ++ wsX60)
def wsX6_counts : List Cond := .code yX6_counts cX6_counts 4 (some .boolean) :: ([.methodLink RX6 122 yX6_isItem, .instanceMethod yX6_isItem, .selects RX6 yX6_isItem yX6_isItem, .initialized RX6, .code yX6_isItem cX6_isItem 4 (some .boolean), .fieldLink RX6 20 "WhoSpeaksModel" "itemsOf" "[I", .fieldLink RX6 23 "WhoSpeaksModel" "item" "[I", .methodLink RX6 64 yX6_within, .static yX6_within, .code yX6_within cX6_within 3 (some .boolean), .methodLink RX6 125 yX6_whoOf, .instanceMethod yX6_whoOf, .selects RX6 yX6_whoOf yX6_whoOf, .code yX6_whoOf cX6_whoOf 3 (some .int), .methodLink RX6 119 yX6_isWho, .instanceMethod yX6_isWho, .selects RX6 yX6_isWho yX6_isWho, .code yX6_isWho cX6_isWho 3 (some .boolean)] ++ wsX60)
def wsX6_ofSort : List Cond := .code yX6_ofSort cX6_ofSort 4 (some .int) :: ([.fieldLink RX6 7 "WhoSpeaksModel" "sortOf" "[I"] ++ wsX60)
def wsX6_byWho : List Cond := .code yX6_byWho cX6_byWho 4 (some .int) :: ([.fieldLink RX6 23 "WhoSpeaksModel" "item" "[I", .fieldLink RX6 26 "WhoSpeaksModel" "whom" "[I", .methodLink RX6 137 yX6_ofSort, .instanceMethod yX6_ofSort, .selects RX6 yX6_ofSort yX6_ofSort, .initialized RX6, .code yX6_ofSort cX6_ofSort 4 (some .int), .fieldLink RX6 7 "WhoSpeaksModel" "sortOf" "[I"] ++ wsX60)
def wsX6_manyCounting : List Cond := .code yX6_manyCounting cX6_manyCounting 4 (some .int) :: ([.fieldLink RX6 20 "WhoSpeaksModel" "itemsOf" "[I", .methodLink RX6 128 yX6_counts, .instanceMethod yX6_counts, .selects RX6 yX6_counts yX6_counts, .initialized RX6, .code yX6_counts cX6_counts 4 (some .boolean), .methodLink RX6 122 yX6_isItem, .instanceMethod yX6_isItem, .selects RX6 yX6_isItem yX6_isItem, .code yX6_isItem cX6_isItem 4 (some .boolean), .fieldLink RX6 23 "WhoSpeaksModel" "item" "[I", .methodLink RX6 64 yX6_within, .static yX6_within, .code yX6_within cX6_within 3 (some .boolean), .methodLink RX6 125 yX6_whoOf, .instanceMethod yX6_whoOf, .selects RX6 yX6_whoOf yX6_whoOf, .code yX6_whoOf cX6_whoOf 3 (some .int), .methodLink RX6 119 yX6_isWho, .instanceMethod yX6_isWho, .selects RX6 yX6_isWho yX6_isWho, .code yX6_isWho cX6_isWho 3 (some .boolean)] ++ wsX60)
def wsX6_ownOf_r1 : List Cond := [Cond.fieldLink RX6 33 "WhoSpeaksModel" "wereHere" "[I", Cond.fieldLink RX6 20 "WhoSpeaksModel" "itemsOf" "[I", Cond.fieldLink RX6 26 "WhoSpeaksModel" "whom" "[I", Cond.fieldLink RX6 13 "WhoSpeaksModel" "rules" "I", Cond.fieldLink RX6 36 "WhoSpeaksModel" "hintOf" "[I", Cond.methodLink RX6 92 yX6_there, Cond.instanceMethod yX6_there, Cond.selects RX6 yX6_there yX6_there, Cond.initialized RX6, Cond.code yX6_there cX6_there 3 (some .int), Cond.fieldLink RX6 7 "WhoSpeaksModel" "sortOf" "[I", Cond.methodLink RX6 122 yX6_isItem, Cond.instanceMethod yX6_isItem, Cond.selects RX6 yX6_isItem yX6_isItem, Cond.code yX6_isItem cX6_isItem 4 (some .boolean), Cond.fieldLink RX6 23 "WhoSpeaksModel" "item" "[I", Cond.methodLink RX6 64 yX6_within, Cond.static yX6_within, Cond.code yX6_within cX6_within 3 (some .boolean), Cond.methodLink RX6 85 yX6_has, Cond.static yX6_has, Cond.code yX6_has cX6_has 2 (some .boolean), Cond.methodLink RX6 128 yX6_counts, Cond.instanceMethod yX6_counts]
def wsX6_ownOf_r2 : List Cond := [Cond.selects RX6 yX6_counts yX6_counts, Cond.code yX6_counts cX6_counts 4 (some .boolean), Cond.methodLink RX6 125 yX6_whoOf, Cond.instanceMethod yX6_whoOf, Cond.selects RX6 yX6_whoOf yX6_whoOf, Cond.code yX6_whoOf cX6_whoOf 3 (some .int), Cond.methodLink RX6 119 yX6_isWho, Cond.instanceMethod yX6_isWho, Cond.selects RX6 yX6_isWho yX6_isWho, Cond.code yX6_isWho cX6_isWho 3 (some .boolean), Cond.methodLink RX6 140 yX6_byWho, Cond.instanceMethod yX6_byWho, Cond.selects RX6 yX6_byWho yX6_byWho, Cond.code yX6_byWho cX6_byWho 4 (some .int), Cond.methodLink RX6 137 yX6_ofSort, Cond.instanceMethod yX6_ofSort, Cond.selects RX6 yX6_ofSort yX6_ofSort, Cond.code yX6_ofSort cX6_ofSort 4 (some .int), Cond.methodLink RX6 134 yX6_manyCounting, Cond.instanceMethod yX6_manyCounting, Cond.selects RX6 yX6_manyCounting yX6_manyCounting, Cond.code yX6_manyCounting cX6_manyCounting 4 (some .int)]
def wsX6_ownOf : List Cond := .code yX6_ownOf cX6_ownOf 5 (some .int) :: ((wsX6_ownOf_r1 ++ wsX6_ownOf_r2) ++ wsX60)
def wsX6_away_r1 : List Cond := [Cond.fieldLink RX6 68 "WhoSpeaksModel" "paragraphs" "I", Cond.fieldLink RX6 7 "WhoSpeaksModel" "sortOf" "[I", Cond.fieldLink RX6 89 "WhoSpeaksModel" "here" "I", Cond.methodLink RX6 71 yX6_isThere, Cond.instanceMethod yX6_isThere, Cond.selects RX6 yX6_isThere yX6_isThere, Cond.initialized RX6, Cond.code yX6_isThere cX6_isThere 2 (some .boolean), Cond.methodLink RX6 64 yX6_within, Cond.static yX6_within, Cond.code yX6_within cX6_within 3 (some .boolean), Cond.methodLink RX6 75 yX6_isNamed, Cond.instanceMethod yX6_isNamed, Cond.selects RX6 yX6_isNamed yX6_isNamed, Cond.code yX6_isNamed cX6_isNamed 4 (some .boolean), Cond.fieldLink RX6 20 "WhoSpeaksModel" "itemsOf" "[I", Cond.fieldLink RX6 26 "WhoSpeaksModel" "whom" "[I", Cond.methodLink RX6 78 yX6_speaks, Cond.instanceMethod yX6_speaks, Cond.selects RX6 yX6_speaks yX6_speaks, Cond.code yX6_speaks cX6_speaks 2 (some .boolean), Cond.methodLink RX6 99 yX6_manyOf, Cond.instanceMethod yX6_manyOf, Cond.selects RX6 yX6_manyOf yX6_manyOf]
def wsX6_away_r2 : List Cond := [Cond.code yX6_manyOf cX6_manyOf 5 (some .int), Cond.fieldLink RX6 23 "WhoSpeaksModel" "item" "[I", Cond.methodLink RX6 81 yX6_ownOf, Cond.instanceMethod yX6_ownOf, Cond.selects RX6 yX6_ownOf yX6_ownOf, Cond.code yX6_ownOf cX6_ownOf 5 (some .int), Cond.fieldLink RX6 33 "WhoSpeaksModel" "wereHere" "[I", Cond.fieldLink RX6 13 "WhoSpeaksModel" "rules" "I", Cond.fieldLink RX6 36 "WhoSpeaksModel" "hintOf" "[I", Cond.methodLink RX6 92 yX6_there, Cond.instanceMethod yX6_there, Cond.selects RX6 yX6_there yX6_there, Cond.code yX6_there cX6_there 3 (some .int), Cond.methodLink RX6 122 yX6_isItem, Cond.instanceMethod yX6_isItem, Cond.selects RX6 yX6_isItem yX6_isItem, Cond.code yX6_isItem cX6_isItem 4 (some .boolean), Cond.methodLink RX6 85 yX6_has, Cond.static yX6_has, Cond.code yX6_has cX6_has 2 (some .boolean), Cond.methodLink RX6 128 yX6_counts, Cond.instanceMethod yX6_counts, Cond.selects RX6 yX6_counts yX6_counts, Cond.code yX6_counts cX6_counts 4 (some .boolean)]
def wsX6_away_r3 : List Cond := [Cond.methodLink RX6 125 yX6_whoOf, Cond.instanceMethod yX6_whoOf, Cond.selects RX6 yX6_whoOf yX6_whoOf, Cond.code yX6_whoOf cX6_whoOf 3 (some .int), Cond.methodLink RX6 119 yX6_isWho, Cond.instanceMethod yX6_isWho, Cond.selects RX6 yX6_isWho yX6_isWho, Cond.code yX6_isWho cX6_isWho 3 (some .boolean), Cond.methodLink RX6 140 yX6_byWho, Cond.instanceMethod yX6_byWho, Cond.selects RX6 yX6_byWho yX6_byWho, Cond.code yX6_byWho cX6_byWho 4 (some .int), Cond.methodLink RX6 137 yX6_ofSort, Cond.instanceMethod yX6_ofSort, Cond.selects RX6 yX6_ofSort yX6_ofSort, Cond.code yX6_ofSort cX6_ofSort 4 (some .int), Cond.methodLink RX6 134 yX6_manyCounting, Cond.instanceMethod yX6_manyCounting, Cond.selects RX6 yX6_manyCounting yX6_manyCounting, Cond.code yX6_manyCounting cX6_manyCounting 4 (some .int)]
def wsX6_away : List Cond := .code yX6_away cX6_away 4 (some .int) :: ((wsX6_away_r1 ++ (wsX6_away_r2 ++ wsX6_away_r3)) ++ wsX60)
def wsX6_here : List Cond := .code yX6_here cX6_here 3 (some .int) :: ([.fieldLink RX6 89 "WhoSpeaksModel" "here" "I", .methodLink RX6 64 yX6_within, .static yX6_within, .initialized RX6, .code yX6_within cX6_within 3 (some .boolean), .methodLink RX6 92 yX6_there, .instanceMethod yX6_there, .selects RX6 yX6_there yX6_there, .code yX6_there cX6_there 3 (some .int), .fieldLink RX6 7 "WhoSpeaksModel" "sortOf" "[I"] ++ wsX60)
def wsX6_rules : List Cond := .code yX6_rules cX6_rules 3 (some .int) :: ([.fieldLink RX6 13 "WhoSpeaksModel" "rules" "I", .methodLink RX6 64 yX6_within, .static yX6_within, .initialized RX6, .code yX6_within cX6_within 3 (some .boolean)] ++ wsX60)
def wsX6_key : List Cond := .code yX6_key cX6_key 2 (some .int) :: ([.fieldLink RX6 96 "WhoSpeaksModel" "taped" "I", .fieldLink RX6 17 "WhoSpeaksModel" "tape" "[I", .methodLink RX6 64 yX6_within, .static yX6_within, .initialized RX6, .code yX6_within cX6_within 3 (some .boolean)] ++ wsX60)
def wsX6_wipe : List Cond := .code yX6_wipe cX6_wipe 2 (some .int) :: ([.fieldLink RX6 96 "WhoSpeaksModel" "taped" "I"] ++ wsX60)
def wsX6_isParagraph : List Cond := .code yX6_isParagraph cX6_isParagraph 2 (some .boolean) :: ([.fieldLink RX6 68 "WhoSpeaksModel" "paragraphs" "I", .methodLink RX6 64 yX6_within, .static yX6_within, .initialized RX6, .code yX6_within cX6_within 3 (some .boolean)] ++ wsX60)
def wsX6_sortOfItem : List Cond := .code yX6_sortOfItem cX6_sortOfItem 1 (some .int) :: ([])
def wsX6_isNameHere : List Cond := .code yX6_isNameHere cX6_isNameHere 1 (some .boolean) :: ([.fieldLink RX6 103 "WhoSpeaksModel" "place" "I", .fieldLink RX6 96 "WhoSpeaksModel" "taped" "I", .fieldLink RX6 17 "WhoSpeaksModel" "tape" "[I", .methodLink RX6 64 yX6_within, .static yX6_within, .initialized RX6, .code yX6_within cX6_within 3 (some .boolean), .methodLink RX6 71 yX6_isThere, .instanceMethod yX6_isThere, .selects RX6 yX6_isThere yX6_isThere, .code yX6_isThere cX6_isThere 2 (some .boolean), .fieldLink RX6 7 "WhoSpeaksModel" "sortOf" "[I"] ++ wsX60)
def wsX6_readsItem : List Cond := .code yX6_readsItem cX6_readsItem 4 (some .boolean) :: ([.fieldLink RX6 20 "WhoSpeaksModel" "itemsOf" "[I", .fieldLink RX6 17 "WhoSpeaksModel" "tape" "[I", .fieldLink RX6 103 "WhoSpeaksModel" "place" "I", .fieldLink RX6 23 "WhoSpeaksModel" "item" "[I", .fieldLink RX6 26 "WhoSpeaksModel" "whom" "[I", .fieldLink RX6 96 "WhoSpeaksModel" "taped" "I", .methodLink RX6 106 yX6_sortOfItem, .static yX6_sortOfItem, .initialized RX6, .code yX6_sortOfItem cX6_sortOfItem 1 (some .int), .methodLink RX6 109 yX6_isNameHere, .instanceMethod yX6_isNameHere, .selects RX6 yX6_isNameHere yX6_isNameHere, .code yX6_isNameHere cX6_isNameHere 1 (some .boolean), .methodLink RX6 64 yX6_within, .static yX6_within, .code yX6_within cX6_within 3 (some .boolean), .methodLink RX6 71 yX6_isThere, .instanceMethod yX6_isThere, .selects RX6 yX6_isThere yX6_isThere, .code yX6_isThere cX6_isThere 2 (some .boolean), .fieldLink RX6 7 "WhoSpeaksModel" "sortOf" "[I"] ++ wsX60)
def wsX6_readsText_r1 : List Cond := [Cond.fieldLink RX6 103 "WhoSpeaksModel" "place" "I", Cond.fieldLink RX6 20 "WhoSpeaksModel" "itemsOf" "[I", Cond.fieldLink RX6 29 "WhoSpeaksModel" "goesOn" "[Z", Cond.fieldLink RX6 96 "WhoSpeaksModel" "taped" "I", Cond.fieldLink RX6 17 "WhoSpeaksModel" "tape" "[I", Cond.methodLink RX6 78 yX6_speaks, Cond.instanceMethod yX6_speaks, Cond.selects RX6 yX6_speaks yX6_speaks, Cond.initialized RX6, Cond.code yX6_speaks cX6_speaks 2 (some .boolean), Cond.methodLink RX6 99 yX6_manyOf, Cond.instanceMethod yX6_manyOf, Cond.selects RX6 yX6_manyOf yX6_manyOf, Cond.code yX6_manyOf cX6_manyOf 5 (some .int), Cond.fieldLink RX6 23 "WhoSpeaksModel" "item" "[I", Cond.methodLink RX6 113 yX6_readsItem, Cond.instanceMethod yX6_readsItem, Cond.selects RX6 yX6_readsItem yX6_readsItem, Cond.code yX6_readsItem cX6_readsItem 4 (some .boolean), Cond.fieldLink RX6 26 "WhoSpeaksModel" "whom" "[I", Cond.methodLink RX6 106 yX6_sortOfItem, Cond.static yX6_sortOfItem, Cond.code yX6_sortOfItem cX6_sortOfItem 1 (some .int), Cond.methodLink RX6 109 yX6_isNameHere]
def wsX6_readsText_r2 : List Cond := [Cond.instanceMethod yX6_isNameHere, Cond.selects RX6 yX6_isNameHere yX6_isNameHere, Cond.code yX6_isNameHere cX6_isNameHere 1 (some .boolean), Cond.methodLink RX6 64 yX6_within, Cond.static yX6_within, Cond.code yX6_within cX6_within 3 (some .boolean), Cond.methodLink RX6 71 yX6_isThere, Cond.instanceMethod yX6_isThere, Cond.selects RX6 yX6_isThere yX6_isThere, Cond.code yX6_isThere cX6_isThere 2 (some .boolean), Cond.fieldLink RX6 7 "WhoSpeaksModel" "sortOf" "[I"]
def wsX6_readsText : List Cond := .code yX6_readsText cX6_readsText 2 (some .boolean) :: ((wsX6_readsText_r1 ++ wsX6_readsText_r2) ++ wsX60)
def wsX6_paragraph_r1 : List Cond := [Cond.fieldLink RX6 68 "WhoSpeaksModel" "paragraphs" "I", Cond.fieldLink RX6 103 "WhoSpeaksModel" "place" "I", Cond.fieldLink RX6 33 "WhoSpeaksModel" "wereHere" "[I", Cond.fieldLink RX6 89 "WhoSpeaksModel" "here" "I", Cond.fieldLink RX6 36 "WhoSpeaksModel" "hintOf" "[I", Cond.fieldLink RX6 96 "WhoSpeaksModel" "taped" "I", Cond.methodLink RX6 116 yX6_readsText, Cond.instanceMethod yX6_readsText, Cond.selects RX6 yX6_readsText yX6_readsText, Cond.initialized RX6, Cond.code yX6_readsText cX6_readsText 2 (some .boolean), Cond.fieldLink RX6 20 "WhoSpeaksModel" "itemsOf" "[I", Cond.fieldLink RX6 29 "WhoSpeaksModel" "goesOn" "[Z", Cond.fieldLink RX6 17 "WhoSpeaksModel" "tape" "[I", Cond.methodLink RX6 78 yX6_speaks, Cond.instanceMethod yX6_speaks, Cond.selects RX6 yX6_speaks yX6_speaks, Cond.code yX6_speaks cX6_speaks 2 (some .boolean), Cond.methodLink RX6 99 yX6_manyOf, Cond.instanceMethod yX6_manyOf, Cond.selects RX6 yX6_manyOf yX6_manyOf, Cond.code yX6_manyOf cX6_manyOf 5 (some .int), Cond.fieldLink RX6 23 "WhoSpeaksModel" "item" "[I", Cond.methodLink RX6 113 yX6_readsItem]
def wsX6_paragraph_r2 : List Cond := [Cond.instanceMethod yX6_readsItem, Cond.selects RX6 yX6_readsItem yX6_readsItem, Cond.code yX6_readsItem cX6_readsItem 4 (some .boolean), Cond.fieldLink RX6 26 "WhoSpeaksModel" "whom" "[I", Cond.methodLink RX6 106 yX6_sortOfItem, Cond.static yX6_sortOfItem, Cond.code yX6_sortOfItem cX6_sortOfItem 1 (some .int), Cond.methodLink RX6 109 yX6_isNameHere, Cond.instanceMethod yX6_isNameHere, Cond.selects RX6 yX6_isNameHere yX6_isNameHere, Cond.code yX6_isNameHere cX6_isNameHere 1 (some .boolean), Cond.methodLink RX6 64 yX6_within, Cond.static yX6_within, Cond.code yX6_within cX6_within 3 (some .boolean), Cond.methodLink RX6 71 yX6_isThere, Cond.instanceMethod yX6_isThere, Cond.selects RX6 yX6_isThere yX6_isThere, Cond.code yX6_isThere cX6_isThere 2 (some .boolean), Cond.fieldLink RX6 7 "WhoSpeaksModel" "sortOf" "[I"]
def wsX6_paragraph : List Cond := .code yX6_paragraph cX6_paragraph 2 (some .int) :: ((wsX6_paragraph_r1 ++ wsX6_paragraph_r2) ++ wsX60)
def wsX6_cut : List Cond := .code yX6_cut cX6_cut 1 (some .int) :: ([.fieldLink RX6 68 "WhoSpeaksModel" "paragraphs" "I"] ++ wsX60)
def wsX6_ofParagraph_r1 : List Cond := [Cond.fieldLink RX6 20 "WhoSpeaksModel" "itemsOf" "[I", Cond.fieldLink RX6 29 "WhoSpeaksModel" "goesOn" "[Z", Cond.fieldLink RX6 33 "WhoSpeaksModel" "wereHere" "[I", Cond.fieldLink RX6 36 "WhoSpeaksModel" "hintOf" "[I", Cond.methodLink RX6 131 yX6_isParagraph, Cond.instanceMethod yX6_isParagraph, Cond.selects RX6 yX6_isParagraph yX6_isParagraph, Cond.initialized RX6, Cond.code yX6_isParagraph cX6_isParagraph 2 (some .boolean), Cond.fieldLink RX6 68 "WhoSpeaksModel" "paragraphs" "I", Cond.methodLink RX6 64 yX6_within, Cond.static yX6_within, Cond.code yX6_within cX6_within 3 (some .boolean), Cond.methodLink RX6 99 yX6_manyOf, Cond.instanceMethod yX6_manyOf, Cond.selects RX6 yX6_manyOf yX6_manyOf, Cond.code yX6_manyOf cX6_manyOf 5 (some .int), Cond.fieldLink RX6 23 "WhoSpeaksModel" "item" "[I", Cond.methodLink RX6 134 yX6_manyCounting, Cond.instanceMethod yX6_manyCounting, Cond.selects RX6 yX6_manyCounting yX6_manyCounting, Cond.code yX6_manyCounting cX6_manyCounting 4 (some .int), Cond.methodLink RX6 128 yX6_counts, Cond.instanceMethod yX6_counts]
def wsX6_ofParagraph_r2 : List Cond := [Cond.selects RX6 yX6_counts yX6_counts, Cond.code yX6_counts cX6_counts 4 (some .boolean), Cond.methodLink RX6 122 yX6_isItem, Cond.instanceMethod yX6_isItem, Cond.selects RX6 yX6_isItem yX6_isItem, Cond.code yX6_isItem cX6_isItem 4 (some .boolean), Cond.methodLink RX6 125 yX6_whoOf, Cond.instanceMethod yX6_whoOf, Cond.selects RX6 yX6_whoOf yX6_whoOf, Cond.code yX6_whoOf cX6_whoOf 3 (some .int), Cond.methodLink RX6 119 yX6_isWho, Cond.instanceMethod yX6_isWho, Cond.selects RX6 yX6_isWho yX6_isWho, Cond.code yX6_isWho cX6_isWho 3 (some .boolean)]
def wsX6_ofParagraph : List Cond := .code yX6_ofParagraph cX6_ofParagraph 3 (some .int) :: ((wsX6_ofParagraph_r1 ++ wsX6_ofParagraph_r2) ++ wsX60)
def wsX6_linkAt : List Cond := .code yX6_linkAt cX6_linkAt 2 (some .int) :: ([.fieldLink RX6 68 "WhoSpeaksModel" "paragraphs" "I", .fieldLink RX6 29 "WhoSpeaksModel" "goesOn" "[Z", .fieldLink RX6 13 "WhoSpeaksModel" "rules" "I", .methodLink RX6 78 yX6_speaks, .instanceMethod yX6_speaks, .selects RX6 yX6_speaks yX6_speaks, .initialized RX6, .code yX6_speaks cX6_speaks 2 (some .boolean), .methodLink RX6 99 yX6_manyOf, .instanceMethod yX6_manyOf, .selects RX6 yX6_manyOf yX6_manyOf, .code yX6_manyOf cX6_manyOf 5 (some .int), .fieldLink RX6 20 "WhoSpeaksModel" "itemsOf" "[I", .fieldLink RX6 23 "WhoSpeaksModel" "item" "[I", .methodLink RX6 85 yX6_has, .static yX6_has, .code yX6_has cX6_has 2 (some .boolean)] ++ wsX60)
def wsX6_link_r1 : List Cond := [Cond.methodLink RX6 131 yX6_isParagraph, Cond.instanceMethod yX6_isParagraph, Cond.selects RX6 yX6_isParagraph yX6_isParagraph, Cond.initialized RX6, Cond.code yX6_isParagraph cX6_isParagraph 2 (some .boolean), Cond.fieldLink RX6 68 "WhoSpeaksModel" "paragraphs" "I", Cond.methodLink RX6 64 yX6_within, Cond.static yX6_within, Cond.code yX6_within cX6_within 3 (some .boolean), Cond.methodLink RX6 143 yX6_linkAt, Cond.instanceMethod yX6_linkAt, Cond.selects RX6 yX6_linkAt yX6_linkAt, Cond.code yX6_linkAt cX6_linkAt 2 (some .int), Cond.fieldLink RX6 29 "WhoSpeaksModel" "goesOn" "[Z", Cond.fieldLink RX6 13 "WhoSpeaksModel" "rules" "I", Cond.methodLink RX6 78 yX6_speaks, Cond.instanceMethod yX6_speaks, Cond.selects RX6 yX6_speaks yX6_speaks, Cond.code yX6_speaks cX6_speaks 2 (some .boolean), Cond.methodLink RX6 99 yX6_manyOf, Cond.instanceMethod yX6_manyOf, Cond.selects RX6 yX6_manyOf yX6_manyOf, Cond.code yX6_manyOf cX6_manyOf 5 (some .int), Cond.fieldLink RX6 20 "WhoSpeaksModel" "itemsOf" "[I"]
def wsX6_link_r2 : List Cond := [Cond.fieldLink RX6 23 "WhoSpeaksModel" "item" "[I", Cond.methodLink RX6 85 yX6_has, Cond.static yX6_has, Cond.code yX6_has cX6_has 2 (some .boolean)]
def wsX6_link : List Cond := .code yX6_link cX6_link 2 (some .int) :: ((wsX6_link_r1 ++ wsX6_link_r2) ++ wsX60)
def wsX6_findOwn_r1 : List Cond := [Cond.fieldLink RX6 68 "WhoSpeaksModel" "paragraphs" "I", Cond.fieldLink RX6 39 "WhoSpeaksModel" "own" "[I", Cond.methodLink RX6 78 yX6_speaks, Cond.instanceMethod yX6_speaks, Cond.selects RX6 yX6_speaks yX6_speaks, Cond.initialized RX6, Cond.code yX6_speaks cX6_speaks 2 (some .boolean), Cond.methodLink RX6 99 yX6_manyOf, Cond.instanceMethod yX6_manyOf, Cond.selects RX6 yX6_manyOf yX6_manyOf, Cond.code yX6_manyOf cX6_manyOf 5 (some .int), Cond.fieldLink RX6 20 "WhoSpeaksModel" "itemsOf" "[I", Cond.fieldLink RX6 23 "WhoSpeaksModel" "item" "[I", Cond.methodLink RX6 81 yX6_ownOf, Cond.instanceMethod yX6_ownOf, Cond.selects RX6 yX6_ownOf yX6_ownOf, Cond.code yX6_ownOf cX6_ownOf 5 (some .int), Cond.fieldLink RX6 33 "WhoSpeaksModel" "wereHere" "[I", Cond.fieldLink RX6 26 "WhoSpeaksModel" "whom" "[I", Cond.fieldLink RX6 13 "WhoSpeaksModel" "rules" "I", Cond.fieldLink RX6 36 "WhoSpeaksModel" "hintOf" "[I", Cond.methodLink RX6 92 yX6_there, Cond.instanceMethod yX6_there, Cond.selects RX6 yX6_there yX6_there]
def wsX6_findOwn_r2 : List Cond := [Cond.code yX6_there cX6_there 3 (some .int), Cond.fieldLink RX6 7 "WhoSpeaksModel" "sortOf" "[I", Cond.methodLink RX6 122 yX6_isItem, Cond.instanceMethod yX6_isItem, Cond.selects RX6 yX6_isItem yX6_isItem, Cond.code yX6_isItem cX6_isItem 4 (some .boolean), Cond.methodLink RX6 64 yX6_within, Cond.static yX6_within, Cond.code yX6_within cX6_within 3 (some .boolean), Cond.methodLink RX6 85 yX6_has, Cond.static yX6_has, Cond.code yX6_has cX6_has 2 (some .boolean), Cond.methodLink RX6 128 yX6_counts, Cond.instanceMethod yX6_counts, Cond.selects RX6 yX6_counts yX6_counts, Cond.code yX6_counts cX6_counts 4 (some .boolean), Cond.methodLink RX6 125 yX6_whoOf, Cond.instanceMethod yX6_whoOf, Cond.selects RX6 yX6_whoOf yX6_whoOf, Cond.code yX6_whoOf cX6_whoOf 3 (some .int), Cond.methodLink RX6 119 yX6_isWho, Cond.instanceMethod yX6_isWho, Cond.selects RX6 yX6_isWho yX6_isWho, Cond.code yX6_isWho cX6_isWho 3 (some .boolean)]
def wsX6_findOwn_r3 : List Cond := [Cond.methodLink RX6 140 yX6_byWho, Cond.instanceMethod yX6_byWho, Cond.selects RX6 yX6_byWho yX6_byWho, Cond.code yX6_byWho cX6_byWho 4 (some .int), Cond.methodLink RX6 137 yX6_ofSort, Cond.instanceMethod yX6_ofSort, Cond.selects RX6 yX6_ofSort yX6_ofSort, Cond.code yX6_ofSort cX6_ofSort 4 (some .int), Cond.methodLink RX6 134 yX6_manyCounting, Cond.instanceMethod yX6_manyCounting, Cond.selects RX6 yX6_manyCounting yX6_manyCounting, Cond.code yX6_manyCounting cX6_manyCounting 4 (some .int)]
def wsX6_findOwn : List Cond := .code yX6_findOwn cX6_findOwn 2 none :: ((wsX6_findOwn_r1 ++ (wsX6_findOwn_r2 ++ wsX6_findOwn_r3)) ++ wsX60)
def wsX6_by : List Cond := .code yX6_by cX6_by 4 (some .int) :: ([.methodLink RX6 146 yX6_size, .static yX6_size, .initialized RX6, .code yX6_size cX6_size 3 (some .int)])
def wsX6_narrows_r1 : List Cond := [Cond.fieldLink RX6 68 "WhoSpeaksModel" "paragraphs" "I", Cond.fieldLink RX6 45 "WhoSpeaksModel" "then" "[I", Cond.fieldLink RX6 42 "WhoSpeaksModel" "narrowed" "[I", Cond.methodLink RX6 143 yX6_linkAt, Cond.instanceMethod yX6_linkAt, Cond.selects RX6 yX6_linkAt yX6_linkAt, Cond.initialized RX6, Cond.code yX6_linkAt cX6_linkAt 2 (some .int), Cond.fieldLink RX6 29 "WhoSpeaksModel" "goesOn" "[Z", Cond.fieldLink RX6 13 "WhoSpeaksModel" "rules" "I", Cond.methodLink RX6 78 yX6_speaks, Cond.instanceMethod yX6_speaks, Cond.selects RX6 yX6_speaks yX6_speaks, Cond.code yX6_speaks cX6_speaks 2 (some .boolean), Cond.methodLink RX6 99 yX6_manyOf, Cond.instanceMethod yX6_manyOf, Cond.selects RX6 yX6_manyOf yX6_manyOf, Cond.code yX6_manyOf cX6_manyOf 5 (some .int), Cond.fieldLink RX6 20 "WhoSpeaksModel" "itemsOf" "[I", Cond.fieldLink RX6 23 "WhoSpeaksModel" "item" "[I", Cond.methodLink RX6 85 yX6_has, Cond.static yX6_has, Cond.code yX6_has cX6_has 2 (some .boolean), Cond.methodLink RX6 149 yX6_by]
def wsX6_narrows_r2 : List Cond := [Cond.instanceMethod yX6_by, Cond.selects RX6 yX6_by yX6_by, Cond.code yX6_by cX6_by 4 (some .int), Cond.methodLink RX6 146 yX6_size, Cond.static yX6_size, Cond.code yX6_size cX6_size 3 (some .int)]
def wsX6_narrows : List Cond := .code yX6_narrows cX6_narrows 3 (some .boolean) :: ((wsX6_narrows_r1 ++ wsX6_narrows_r2) ++ wsX60)
def wsX6_findNarrowed_r1 : List Cond := [Cond.fieldLink RX6 68 "WhoSpeaksModel" "paragraphs" "I", Cond.fieldLink RX6 42 "WhoSpeaksModel" "narrowed" "[I", Cond.fieldLink RX6 39 "WhoSpeaksModel" "own" "[I", Cond.methodLink RX6 153 yX6_findOwn, Cond.instanceMethod yX6_findOwn, Cond.selects RX6 yX6_findOwn yX6_findOwn, Cond.initialized RX6, Cond.code yX6_findOwn cX6_findOwn 2 none, Cond.methodLink RX6 78 yX6_speaks, Cond.instanceMethod yX6_speaks, Cond.selects RX6 yX6_speaks yX6_speaks, Cond.code yX6_speaks cX6_speaks 2 (some .boolean), Cond.methodLink RX6 99 yX6_manyOf, Cond.instanceMethod yX6_manyOf, Cond.selects RX6 yX6_manyOf yX6_manyOf, Cond.code yX6_manyOf cX6_manyOf 5 (some .int), Cond.fieldLink RX6 20 "WhoSpeaksModel" "itemsOf" "[I", Cond.fieldLink RX6 23 "WhoSpeaksModel" "item" "[I", Cond.methodLink RX6 81 yX6_ownOf, Cond.instanceMethod yX6_ownOf, Cond.selects RX6 yX6_ownOf yX6_ownOf, Cond.code yX6_ownOf cX6_ownOf 5 (some .int), Cond.fieldLink RX6 33 "WhoSpeaksModel" "wereHere" "[I", Cond.fieldLink RX6 26 "WhoSpeaksModel" "whom" "[I"]
def wsX6_findNarrowed_r2 : List Cond := [Cond.fieldLink RX6 13 "WhoSpeaksModel" "rules" "I", Cond.fieldLink RX6 36 "WhoSpeaksModel" "hintOf" "[I", Cond.methodLink RX6 92 yX6_there, Cond.instanceMethod yX6_there, Cond.selects RX6 yX6_there yX6_there, Cond.code yX6_there cX6_there 3 (some .int), Cond.fieldLink RX6 7 "WhoSpeaksModel" "sortOf" "[I", Cond.methodLink RX6 122 yX6_isItem, Cond.instanceMethod yX6_isItem, Cond.selects RX6 yX6_isItem yX6_isItem, Cond.code yX6_isItem cX6_isItem 4 (some .boolean), Cond.methodLink RX6 64 yX6_within, Cond.static yX6_within, Cond.code yX6_within cX6_within 3 (some .boolean), Cond.methodLink RX6 85 yX6_has, Cond.static yX6_has, Cond.code yX6_has cX6_has 2 (some .boolean), Cond.methodLink RX6 128 yX6_counts, Cond.instanceMethod yX6_counts, Cond.selects RX6 yX6_counts yX6_counts, Cond.code yX6_counts cX6_counts 4 (some .boolean), Cond.methodLink RX6 125 yX6_whoOf, Cond.instanceMethod yX6_whoOf, Cond.selects RX6 yX6_whoOf yX6_whoOf]
def wsX6_findNarrowed_r3 : List Cond := [Cond.code yX6_whoOf cX6_whoOf 3 (some .int), Cond.methodLink RX6 119 yX6_isWho, Cond.instanceMethod yX6_isWho, Cond.selects RX6 yX6_isWho yX6_isWho, Cond.code yX6_isWho cX6_isWho 3 (some .boolean), Cond.methodLink RX6 140 yX6_byWho, Cond.instanceMethod yX6_byWho, Cond.selects RX6 yX6_byWho yX6_byWho, Cond.code yX6_byWho cX6_byWho 4 (some .int), Cond.methodLink RX6 137 yX6_ofSort, Cond.instanceMethod yX6_ofSort, Cond.selects RX6 yX6_ofSort yX6_ofSort, Cond.code yX6_ofSort cX6_ofSort 4 (some .int), Cond.methodLink RX6 134 yX6_manyCounting, Cond.instanceMethod yX6_manyCounting, Cond.selects RX6 yX6_manyCounting yX6_manyCounting, Cond.code yX6_manyCounting cX6_manyCounting 4 (some .int), Cond.methodLink RX6 156 yX6_narrows, Cond.instanceMethod yX6_narrows, Cond.selects RX6 yX6_narrows yX6_narrows, Cond.code yX6_narrows cX6_narrows 3 (some .boolean), Cond.fieldLink RX6 45 "WhoSpeaksModel" "then" "[I", Cond.methodLink RX6 143 yX6_linkAt, Cond.instanceMethod yX6_linkAt]
def wsX6_findNarrowed_r4 : List Cond := [Cond.selects RX6 yX6_linkAt yX6_linkAt, Cond.code yX6_linkAt cX6_linkAt 2 (some .int), Cond.fieldLink RX6 29 "WhoSpeaksModel" "goesOn" "[Z", Cond.methodLink RX6 149 yX6_by, Cond.instanceMethod yX6_by, Cond.selects RX6 yX6_by yX6_by, Cond.code yX6_by cX6_by 4 (some .int), Cond.methodLink RX6 146 yX6_size, Cond.static yX6_size, Cond.code yX6_size cX6_size 3 (some .int)]
def wsX6_findNarrowed : List Cond := .code yX6_findNarrowed cX6_findNarrowed 2 none :: ((wsX6_findNarrowed_r1 ++ (wsX6_findNarrowed_r2 ++ (wsX6_findNarrowed_r3 ++ wsX6_findNarrowed_r4))) ++ wsX60)
def wsX6_may : List Cond := .code yX6_may cX6_may 3 (some .boolean) :: ([])
def wsX6_isAllowed : List Cond := .code yX6_isAllowed cX6_isAllowed 3 (some .boolean) :: ([.fieldLink RX6 39 "WhoSpeaksModel" "own" "[I", .methodLink RX6 78 yX6_speaks, .instanceMethod yX6_speaks, .selects RX6 yX6_speaks yX6_speaks, .initialized RX6, .code yX6_speaks cX6_speaks 2 (some .boolean), .methodLink RX6 99 yX6_manyOf, .instanceMethod yX6_manyOf, .selects RX6 yX6_manyOf yX6_manyOf, .code yX6_manyOf cX6_manyOf 5 (some .int), .fieldLink RX6 20 "WhoSpeaksModel" "itemsOf" "[I", .fieldLink RX6 23 "WhoSpeaksModel" "item" "[I", .methodLink RX6 85 yX6_has, .static yX6_has, .code yX6_has cX6_has 2 (some .boolean)] ++ wsX60)
def wsX6_countDown_r1 : List Cond := [Cond.fieldLink RX6 68 "WhoSpeaksModel" "paragraphs" "I", Cond.fieldLink RX6 55 "WhoSpeaksModel" "from" "[J", Cond.methodLink RX6 143 yX6_linkAt, Cond.instanceMethod yX6_linkAt, Cond.selects RX6 yX6_linkAt yX6_linkAt, Cond.initialized RX6, Cond.code yX6_linkAt cX6_linkAt 2 (some .int), Cond.fieldLink RX6 29 "WhoSpeaksModel" "goesOn" "[Z", Cond.fieldLink RX6 13 "WhoSpeaksModel" "rules" "I", Cond.methodLink RX6 78 yX6_speaks, Cond.instanceMethod yX6_speaks, Cond.selects RX6 yX6_speaks yX6_speaks, Cond.code yX6_speaks cX6_speaks 2 (some .boolean), Cond.methodLink RX6 99 yX6_manyOf, Cond.instanceMethod yX6_manyOf, Cond.selects RX6 yX6_manyOf yX6_manyOf, Cond.code yX6_manyOf cX6_manyOf 5 (some .int), Cond.fieldLink RX6 20 "WhoSpeaksModel" "itemsOf" "[I", Cond.fieldLink RX6 23 "WhoSpeaksModel" "item" "[I", Cond.methodLink RX6 85 yX6_has, Cond.static yX6_has, Cond.code yX6_has cX6_has 2 (some .boolean), Cond.methodLink RX6 165 yX6_may, Cond.static yX6_may]
def wsX6_countDown_r2 : List Cond := [Cond.code yX6_may cX6_may 3 (some .boolean), Cond.methodLink RX6 168 yX6_isAllowed, Cond.instanceMethod yX6_isAllowed, Cond.selects RX6 yX6_isAllowed yX6_isAllowed, Cond.code yX6_isAllowed cX6_isAllowed 3 (some .boolean), Cond.fieldLink RX6 39 "WhoSpeaksModel" "own" "[I"]
def wsX6_countDown : List Cond := .code yX6_countDown cX6_countDown 6 none :: ((wsX6_countDown_r1 ++ wsX6_countDown_r2) ++ wsX60)
def wsX6_countUp_r1 : List Cond := [Cond.fieldLink RX6 51 "WhoSpeaksModel" "upTo" "[J", Cond.methodLink RX6 143 yX6_linkAt, Cond.instanceMethod yX6_linkAt, Cond.selects RX6 yX6_linkAt yX6_linkAt, Cond.initialized RX6, Cond.code yX6_linkAt cX6_linkAt 2 (some .int), Cond.fieldLink RX6 68 "WhoSpeaksModel" "paragraphs" "I", Cond.fieldLink RX6 29 "WhoSpeaksModel" "goesOn" "[Z", Cond.fieldLink RX6 13 "WhoSpeaksModel" "rules" "I", Cond.methodLink RX6 78 yX6_speaks, Cond.instanceMethod yX6_speaks, Cond.selects RX6 yX6_speaks yX6_speaks, Cond.code yX6_speaks cX6_speaks 2 (some .boolean), Cond.methodLink RX6 99 yX6_manyOf, Cond.instanceMethod yX6_manyOf, Cond.selects RX6 yX6_manyOf yX6_manyOf, Cond.code yX6_manyOf cX6_manyOf 5 (some .int), Cond.fieldLink RX6 20 "WhoSpeaksModel" "itemsOf" "[I", Cond.fieldLink RX6 23 "WhoSpeaksModel" "item" "[I", Cond.methodLink RX6 85 yX6_has, Cond.static yX6_has, Cond.code yX6_has cX6_has 2 (some .boolean), Cond.methodLink RX6 165 yX6_may, Cond.static yX6_may]
def wsX6_countUp_r2 : List Cond := [Cond.code yX6_may cX6_may 3 (some .boolean), Cond.methodLink RX6 168 yX6_isAllowed, Cond.instanceMethod yX6_isAllowed, Cond.selects RX6 yX6_isAllowed yX6_isAllowed, Cond.code yX6_isAllowed cX6_isAllowed 3 (some .boolean), Cond.fieldLink RX6 39 "WhoSpeaksModel" "own" "[I"]
def wsX6_countUp : List Cond := .code yX6_countUp cX6_countUp 10 (some .long) :: ((wsX6_countUp_r1 ++ wsX6_countUp_r2) ++ wsX60)
def wsX6_findWays_r1 : List Cond := [Cond.fieldLink RX6 68 "WhoSpeaksModel" "paragraphs" "I", Cond.methodLink RX6 153 yX6_findOwn, Cond.instanceMethod yX6_findOwn, Cond.selects RX6 yX6_findOwn yX6_findOwn, Cond.initialized RX6, Cond.code yX6_findOwn cX6_findOwn 2 none, Cond.fieldLink RX6 39 "WhoSpeaksModel" "own" "[I", Cond.methodLink RX6 78 yX6_speaks, Cond.instanceMethod yX6_speaks, Cond.selects RX6 yX6_speaks yX6_speaks, Cond.code yX6_speaks cX6_speaks 2 (some .boolean), Cond.methodLink RX6 99 yX6_manyOf, Cond.instanceMethod yX6_manyOf, Cond.selects RX6 yX6_manyOf yX6_manyOf, Cond.code yX6_manyOf cX6_manyOf 5 (some .int), Cond.fieldLink RX6 20 "WhoSpeaksModel" "itemsOf" "[I", Cond.fieldLink RX6 23 "WhoSpeaksModel" "item" "[I", Cond.methodLink RX6 81 yX6_ownOf, Cond.instanceMethod yX6_ownOf, Cond.selects RX6 yX6_ownOf yX6_ownOf, Cond.code yX6_ownOf cX6_ownOf 5 (some .int), Cond.fieldLink RX6 33 "WhoSpeaksModel" "wereHere" "[I", Cond.fieldLink RX6 26 "WhoSpeaksModel" "whom" "[I", Cond.fieldLink RX6 13 "WhoSpeaksModel" "rules" "I"]
def wsX6_findWays_r2 : List Cond := [Cond.fieldLink RX6 36 "WhoSpeaksModel" "hintOf" "[I", Cond.methodLink RX6 92 yX6_there, Cond.instanceMethod yX6_there, Cond.selects RX6 yX6_there yX6_there, Cond.code yX6_there cX6_there 3 (some .int), Cond.fieldLink RX6 7 "WhoSpeaksModel" "sortOf" "[I", Cond.methodLink RX6 122 yX6_isItem, Cond.instanceMethod yX6_isItem, Cond.selects RX6 yX6_isItem yX6_isItem, Cond.code yX6_isItem cX6_isItem 4 (some .boolean), Cond.methodLink RX6 64 yX6_within, Cond.static yX6_within, Cond.code yX6_within cX6_within 3 (some .boolean), Cond.methodLink RX6 85 yX6_has, Cond.static yX6_has, Cond.code yX6_has cX6_has 2 (some .boolean), Cond.methodLink RX6 128 yX6_counts, Cond.instanceMethod yX6_counts, Cond.selects RX6 yX6_counts yX6_counts, Cond.code yX6_counts cX6_counts 4 (some .boolean), Cond.methodLink RX6 125 yX6_whoOf, Cond.instanceMethod yX6_whoOf, Cond.selects RX6 yX6_whoOf yX6_whoOf, Cond.code yX6_whoOf cX6_whoOf 3 (some .int)]
def wsX6_findWays_r3 : List Cond := [Cond.methodLink RX6 119 yX6_isWho, Cond.instanceMethod yX6_isWho, Cond.selects RX6 yX6_isWho yX6_isWho, Cond.code yX6_isWho cX6_isWho 3 (some .boolean), Cond.methodLink RX6 140 yX6_byWho, Cond.instanceMethod yX6_byWho, Cond.selects RX6 yX6_byWho yX6_byWho, Cond.code yX6_byWho cX6_byWho 4 (some .int), Cond.methodLink RX6 137 yX6_ofSort, Cond.instanceMethod yX6_ofSort, Cond.selects RX6 yX6_ofSort yX6_ofSort, Cond.code yX6_ofSort cX6_ofSort 4 (some .int), Cond.methodLink RX6 134 yX6_manyCounting, Cond.instanceMethod yX6_manyCounting, Cond.selects RX6 yX6_manyCounting yX6_manyCounting, Cond.code yX6_manyCounting cX6_manyCounting 4 (some .int), Cond.methodLink RX6 171 yX6_countDown, Cond.instanceMethod yX6_countDown, Cond.selects RX6 yX6_countDown yX6_countDown, Cond.code yX6_countDown cX6_countDown 6 none, Cond.fieldLink RX6 55 "WhoSpeaksModel" "from" "[J", Cond.methodLink RX6 143 yX6_linkAt, Cond.instanceMethod yX6_linkAt, Cond.selects RX6 yX6_linkAt yX6_linkAt]
def wsX6_findWays_r4 : List Cond := [Cond.code yX6_linkAt cX6_linkAt 2 (some .int), Cond.fieldLink RX6 29 "WhoSpeaksModel" "goesOn" "[Z", Cond.methodLink RX6 165 yX6_may, Cond.static yX6_may, Cond.code yX6_may cX6_may 3 (some .boolean), Cond.methodLink RX6 168 yX6_isAllowed, Cond.instanceMethod yX6_isAllowed, Cond.selects RX6 yX6_isAllowed yX6_isAllowed, Cond.code yX6_isAllowed cX6_isAllowed 3 (some .boolean), Cond.methodLink RX6 174 yX6_countUp, Cond.instanceMethod yX6_countUp, Cond.selects RX6 yX6_countUp yX6_countUp, Cond.code yX6_countUp cX6_countUp 10 (some .long), Cond.fieldLink RX6 51 "WhoSpeaksModel" "upTo" "[J"]
def wsX6_findWays : List Cond := .code yX6_findWays cX6_findWays 1 (some .long) :: ((wsX6_findWays_r1 ++ (wsX6_findWays_r2 ++ (wsX6_findWays_r3 ++ wsX6_findWays_r4))) ++ wsX60)
def wsX6_waysWith_r1 : List Cond := [Cond.fieldLink RX6 68 "WhoSpeaksModel" "paragraphs" "I", Cond.fieldLink RX6 55 "WhoSpeaksModel" "from" "[J", Cond.fieldLink RX6 51 "WhoSpeaksModel" "upTo" "[J", Cond.methodLink RX6 143 yX6_linkAt, Cond.instanceMethod yX6_linkAt, Cond.selects RX6 yX6_linkAt yX6_linkAt, Cond.initialized RX6, Cond.code yX6_linkAt cX6_linkAt 2 (some .int), Cond.fieldLink RX6 29 "WhoSpeaksModel" "goesOn" "[Z", Cond.fieldLink RX6 13 "WhoSpeaksModel" "rules" "I", Cond.methodLink RX6 78 yX6_speaks, Cond.instanceMethod yX6_speaks, Cond.selects RX6 yX6_speaks yX6_speaks, Cond.code yX6_speaks cX6_speaks 2 (some .boolean), Cond.methodLink RX6 99 yX6_manyOf, Cond.instanceMethod yX6_manyOf, Cond.selects RX6 yX6_manyOf yX6_manyOf, Cond.code yX6_manyOf cX6_manyOf 5 (some .int), Cond.fieldLink RX6 20 "WhoSpeaksModel" "itemsOf" "[I", Cond.fieldLink RX6 23 "WhoSpeaksModel" "item" "[I", Cond.methodLink RX6 85 yX6_has, Cond.static yX6_has, Cond.code yX6_has cX6_has 2 (some .boolean), Cond.methodLink RX6 165 yX6_may]
def wsX6_waysWith_r2 : List Cond := [Cond.static yX6_may, Cond.code yX6_may cX6_may 3 (some .boolean)]
def wsX6_waysWith : List Cond := .code yX6_waysWith cX6_waysWith 6 (some .long) :: ((wsX6_waysWith_r1 ++ wsX6_waysWith_r2) ++ wsX60)
def wsX6_findSure_r1 : List Cond := [Cond.fieldLink RX6 68 "WhoSpeaksModel" "paragraphs" "I", Cond.fieldLink RX6 58 "WhoSpeaksModel" "sure" "[I", Cond.methodLink RX6 178 yX6_findWays, Cond.instanceMethod yX6_findWays, Cond.selects RX6 yX6_findWays yX6_findWays, Cond.initialized RX6, Cond.code yX6_findWays cX6_findWays 1 (some .long), Cond.methodLink RX6 153 yX6_findOwn, Cond.instanceMethod yX6_findOwn, Cond.selects RX6 yX6_findOwn yX6_findOwn, Cond.code yX6_findOwn cX6_findOwn 2 none, Cond.fieldLink RX6 39 "WhoSpeaksModel" "own" "[I", Cond.methodLink RX6 78 yX6_speaks, Cond.instanceMethod yX6_speaks, Cond.selects RX6 yX6_speaks yX6_speaks, Cond.code yX6_speaks cX6_speaks 2 (some .boolean), Cond.methodLink RX6 99 yX6_manyOf, Cond.instanceMethod yX6_manyOf, Cond.selects RX6 yX6_manyOf yX6_manyOf, Cond.code yX6_manyOf cX6_manyOf 5 (some .int), Cond.fieldLink RX6 20 "WhoSpeaksModel" "itemsOf" "[I", Cond.fieldLink RX6 23 "WhoSpeaksModel" "item" "[I", Cond.methodLink RX6 81 yX6_ownOf, Cond.instanceMethod yX6_ownOf]
def wsX6_findSure_r2 : List Cond := [Cond.selects RX6 yX6_ownOf yX6_ownOf, Cond.code yX6_ownOf cX6_ownOf 5 (some .int), Cond.fieldLink RX6 33 "WhoSpeaksModel" "wereHere" "[I", Cond.fieldLink RX6 26 "WhoSpeaksModel" "whom" "[I", Cond.fieldLink RX6 13 "WhoSpeaksModel" "rules" "I", Cond.fieldLink RX6 36 "WhoSpeaksModel" "hintOf" "[I", Cond.methodLink RX6 92 yX6_there, Cond.instanceMethod yX6_there, Cond.selects RX6 yX6_there yX6_there, Cond.code yX6_there cX6_there 3 (some .int), Cond.fieldLink RX6 7 "WhoSpeaksModel" "sortOf" "[I", Cond.methodLink RX6 122 yX6_isItem, Cond.instanceMethod yX6_isItem, Cond.selects RX6 yX6_isItem yX6_isItem, Cond.code yX6_isItem cX6_isItem 4 (some .boolean), Cond.methodLink RX6 64 yX6_within, Cond.static yX6_within, Cond.code yX6_within cX6_within 3 (some .boolean), Cond.methodLink RX6 85 yX6_has, Cond.static yX6_has, Cond.code yX6_has cX6_has 2 (some .boolean), Cond.methodLink RX6 128 yX6_counts, Cond.instanceMethod yX6_counts, Cond.selects RX6 yX6_counts yX6_counts]
def wsX6_findSure_r3 : List Cond := [Cond.code yX6_counts cX6_counts 4 (some .boolean), Cond.methodLink RX6 125 yX6_whoOf, Cond.instanceMethod yX6_whoOf, Cond.selects RX6 yX6_whoOf yX6_whoOf, Cond.code yX6_whoOf cX6_whoOf 3 (some .int), Cond.methodLink RX6 119 yX6_isWho, Cond.instanceMethod yX6_isWho, Cond.selects RX6 yX6_isWho yX6_isWho, Cond.code yX6_isWho cX6_isWho 3 (some .boolean), Cond.methodLink RX6 140 yX6_byWho, Cond.instanceMethod yX6_byWho, Cond.selects RX6 yX6_byWho yX6_byWho, Cond.code yX6_byWho cX6_byWho 4 (some .int), Cond.methodLink RX6 137 yX6_ofSort, Cond.instanceMethod yX6_ofSort, Cond.selects RX6 yX6_ofSort yX6_ofSort, Cond.code yX6_ofSort cX6_ofSort 4 (some .int), Cond.methodLink RX6 134 yX6_manyCounting, Cond.instanceMethod yX6_manyCounting, Cond.selects RX6 yX6_manyCounting yX6_manyCounting, Cond.code yX6_manyCounting cX6_manyCounting 4 (some .int), Cond.methodLink RX6 171 yX6_countDown, Cond.instanceMethod yX6_countDown, Cond.selects RX6 yX6_countDown yX6_countDown]
def wsX6_findSure_r4 : List Cond := [Cond.code yX6_countDown cX6_countDown 6 none, Cond.fieldLink RX6 55 "WhoSpeaksModel" "from" "[J", Cond.methodLink RX6 143 yX6_linkAt, Cond.instanceMethod yX6_linkAt, Cond.selects RX6 yX6_linkAt yX6_linkAt, Cond.code yX6_linkAt cX6_linkAt 2 (some .int), Cond.fieldLink RX6 29 "WhoSpeaksModel" "goesOn" "[Z", Cond.methodLink RX6 165 yX6_may, Cond.static yX6_may, Cond.code yX6_may cX6_may 3 (some .boolean), Cond.methodLink RX6 168 yX6_isAllowed, Cond.instanceMethod yX6_isAllowed, Cond.selects RX6 yX6_isAllowed yX6_isAllowed, Cond.code yX6_isAllowed cX6_isAllowed 3 (some .boolean), Cond.methodLink RX6 174 yX6_countUp, Cond.instanceMethod yX6_countUp, Cond.selects RX6 yX6_countUp yX6_countUp, Cond.code yX6_countUp cX6_countUp 10 (some .long), Cond.fieldLink RX6 51 "WhoSpeaksModel" "upTo" "[J", Cond.methodLink RX6 184 yX6_waysWith, Cond.instanceMethod yX6_waysWith, Cond.selects RX6 yX6_waysWith yX6_waysWith, Cond.code yX6_waysWith cX6_waysWith 6 (some .long)]
def wsX6_findSure : List Cond := .code yX6_findSure cX6_findSure 3 none :: ((wsX6_findSure_r1 ++ (wsX6_findSure_r2 ++ (wsX6_findSure_r3 ++ wsX6_findSure_r4))) ++ wsX60)
def wsX6_set_r1 : List Cond := [Cond.fieldLink RX6 39 "WhoSpeaksModel" "own" "[I", Cond.fieldLink RX6 42 "WhoSpeaksModel" "narrowed" "[I", Cond.fieldLink RX6 58 "WhoSpeaksModel" "sure" "[I", Cond.methodLink RX6 131 yX6_isParagraph, Cond.instanceMethod yX6_isParagraph, Cond.selects RX6 yX6_isParagraph yX6_isParagraph, Cond.initialized RX6, Cond.code yX6_isParagraph cX6_isParagraph 2 (some .boolean), Cond.fieldLink RX6 68 "WhoSpeaksModel" "paragraphs" "I", Cond.methodLink RX6 64 yX6_within, Cond.static yX6_within, Cond.code yX6_within cX6_within 3 (some .boolean), Cond.methodLink RX6 78 yX6_speaks, Cond.instanceMethod yX6_speaks, Cond.selects RX6 yX6_speaks yX6_speaks, Cond.code yX6_speaks cX6_speaks 2 (some .boolean), Cond.methodLink RX6 99 yX6_manyOf, Cond.instanceMethod yX6_manyOf, Cond.selects RX6 yX6_manyOf yX6_manyOf, Cond.code yX6_manyOf cX6_manyOf 5 (some .int), Cond.fieldLink RX6 20 "WhoSpeaksModel" "itemsOf" "[I", Cond.fieldLink RX6 23 "WhoSpeaksModel" "item" "[I", Cond.methodLink RX6 159 yX6_findNarrowed, Cond.instanceMethod yX6_findNarrowed]
def wsX6_set_r2 : List Cond := [Cond.selects RX6 yX6_findNarrowed yX6_findNarrowed, Cond.code yX6_findNarrowed cX6_findNarrowed 2 none, Cond.methodLink RX6 153 yX6_findOwn, Cond.instanceMethod yX6_findOwn, Cond.selects RX6 yX6_findOwn yX6_findOwn, Cond.code yX6_findOwn cX6_findOwn 2 none, Cond.methodLink RX6 81 yX6_ownOf, Cond.instanceMethod yX6_ownOf, Cond.selects RX6 yX6_ownOf yX6_ownOf, Cond.code yX6_ownOf cX6_ownOf 5 (some .int), Cond.fieldLink RX6 33 "WhoSpeaksModel" "wereHere" "[I", Cond.fieldLink RX6 26 "WhoSpeaksModel" "whom" "[I", Cond.fieldLink RX6 13 "WhoSpeaksModel" "rules" "I", Cond.fieldLink RX6 36 "WhoSpeaksModel" "hintOf" "[I", Cond.methodLink RX6 92 yX6_there, Cond.instanceMethod yX6_there, Cond.selects RX6 yX6_there yX6_there, Cond.code yX6_there cX6_there 3 (some .int), Cond.fieldLink RX6 7 "WhoSpeaksModel" "sortOf" "[I", Cond.methodLink RX6 122 yX6_isItem, Cond.instanceMethod yX6_isItem, Cond.selects RX6 yX6_isItem yX6_isItem, Cond.code yX6_isItem cX6_isItem 4 (some .boolean), Cond.methodLink RX6 85 yX6_has]
def wsX6_set_r3 : List Cond := [Cond.static yX6_has, Cond.code yX6_has cX6_has 2 (some .boolean), Cond.methodLink RX6 128 yX6_counts, Cond.instanceMethod yX6_counts, Cond.selects RX6 yX6_counts yX6_counts, Cond.code yX6_counts cX6_counts 4 (some .boolean), Cond.methodLink RX6 125 yX6_whoOf, Cond.instanceMethod yX6_whoOf, Cond.selects RX6 yX6_whoOf yX6_whoOf, Cond.code yX6_whoOf cX6_whoOf 3 (some .int), Cond.methodLink RX6 119 yX6_isWho, Cond.instanceMethod yX6_isWho, Cond.selects RX6 yX6_isWho yX6_isWho, Cond.code yX6_isWho cX6_isWho 3 (some .boolean), Cond.methodLink RX6 140 yX6_byWho, Cond.instanceMethod yX6_byWho, Cond.selects RX6 yX6_byWho yX6_byWho, Cond.code yX6_byWho cX6_byWho 4 (some .int), Cond.methodLink RX6 137 yX6_ofSort, Cond.instanceMethod yX6_ofSort, Cond.selects RX6 yX6_ofSort yX6_ofSort, Cond.code yX6_ofSort cX6_ofSort 4 (some .int), Cond.methodLink RX6 134 yX6_manyCounting, Cond.instanceMethod yX6_manyCounting]
def wsX6_set_r4 : List Cond := [Cond.selects RX6 yX6_manyCounting yX6_manyCounting, Cond.code yX6_manyCounting cX6_manyCounting 4 (some .int), Cond.methodLink RX6 156 yX6_narrows, Cond.instanceMethod yX6_narrows, Cond.selects RX6 yX6_narrows yX6_narrows, Cond.code yX6_narrows cX6_narrows 3 (some .boolean), Cond.fieldLink RX6 45 "WhoSpeaksModel" "then" "[I", Cond.methodLink RX6 143 yX6_linkAt, Cond.instanceMethod yX6_linkAt, Cond.selects RX6 yX6_linkAt yX6_linkAt, Cond.code yX6_linkAt cX6_linkAt 2 (some .int), Cond.fieldLink RX6 29 "WhoSpeaksModel" "goesOn" "[Z", Cond.methodLink RX6 149 yX6_by, Cond.instanceMethod yX6_by, Cond.selects RX6 yX6_by yX6_by, Cond.code yX6_by cX6_by 4 (some .int), Cond.methodLink RX6 146 yX6_size, Cond.static yX6_size, Cond.code yX6_size cX6_size 3 (some .int), Cond.methodLink RX6 162 yX6_findSure, Cond.instanceMethod yX6_findSure, Cond.selects RX6 yX6_findSure yX6_findSure, Cond.code yX6_findSure cX6_findSure 3 none, Cond.methodLink RX6 178 yX6_findWays]
def wsX6_set_r5 : List Cond := [Cond.instanceMethod yX6_findWays, Cond.selects RX6 yX6_findWays yX6_findWays, Cond.code yX6_findWays cX6_findWays 1 (some .long), Cond.methodLink RX6 171 yX6_countDown, Cond.instanceMethod yX6_countDown, Cond.selects RX6 yX6_countDown yX6_countDown, Cond.code yX6_countDown cX6_countDown 6 none, Cond.fieldLink RX6 55 "WhoSpeaksModel" "from" "[J", Cond.methodLink RX6 165 yX6_may, Cond.static yX6_may, Cond.code yX6_may cX6_may 3 (some .boolean), Cond.methodLink RX6 168 yX6_isAllowed, Cond.instanceMethod yX6_isAllowed, Cond.selects RX6 yX6_isAllowed yX6_isAllowed, Cond.code yX6_isAllowed cX6_isAllowed 3 (some .boolean), Cond.methodLink RX6 174 yX6_countUp, Cond.instanceMethod yX6_countUp, Cond.selects RX6 yX6_countUp yX6_countUp, Cond.code yX6_countUp cX6_countUp 10 (some .long), Cond.fieldLink RX6 51 "WhoSpeaksModel" "upTo" "[J", Cond.methodLink RX6 184 yX6_waysWith, Cond.instanceMethod yX6_waysWith, Cond.selects RX6 yX6_waysWith yX6_waysWith, Cond.code yX6_waysWith cX6_waysWith 6 (some .long)]
def wsX6_set : List Cond := .code yX6_set cX6_set 3 (some .int) :: ((wsX6_set_r1 ++ (wsX6_set_r2 ++ (wsX6_set_r3 ++ (wsX6_set_r4 ++ wsX6_set_r5)))) ++ wsX60)
def wsX6_hint_r1 : List Cond := [Cond.fieldLink RX6 68 "WhoSpeaksModel" "paragraphs" "I", Cond.fieldLink RX6 48 "WhoSpeaksModel" "ahead" "[I", Cond.fieldLink RX6 42 "WhoSpeaksModel" "narrowed" "[I", Cond.fieldLink RX6 36 "WhoSpeaksModel" "hintOf" "[I", Cond.methodLink RX6 131 yX6_isParagraph, Cond.instanceMethod yX6_isParagraph, Cond.selects RX6 yX6_isParagraph yX6_isParagraph, Cond.initialized RX6, Cond.code yX6_isParagraph cX6_isParagraph 2 (some .boolean), Cond.methodLink RX6 64 yX6_within, Cond.static yX6_within, Cond.code yX6_within cX6_within 3 (some .boolean), Cond.methodLink RX6 78 yX6_speaks, Cond.instanceMethod yX6_speaks, Cond.selects RX6 yX6_speaks yX6_speaks, Cond.code yX6_speaks cX6_speaks 2 (some .boolean), Cond.methodLink RX6 99 yX6_manyOf, Cond.instanceMethod yX6_manyOf, Cond.selects RX6 yX6_manyOf yX6_manyOf, Cond.code yX6_manyOf cX6_manyOf 5 (some .int), Cond.fieldLink RX6 20 "WhoSpeaksModel" "itemsOf" "[I", Cond.fieldLink RX6 23 "WhoSpeaksModel" "item" "[I", Cond.methodLink RX6 159 yX6_findNarrowed, Cond.instanceMethod yX6_findNarrowed]
def wsX6_hint_r2 : List Cond := [Cond.selects RX6 yX6_findNarrowed yX6_findNarrowed, Cond.code yX6_findNarrowed cX6_findNarrowed 2 none, Cond.fieldLink RX6 39 "WhoSpeaksModel" "own" "[I", Cond.methodLink RX6 153 yX6_findOwn, Cond.instanceMethod yX6_findOwn, Cond.selects RX6 yX6_findOwn yX6_findOwn, Cond.code yX6_findOwn cX6_findOwn 2 none, Cond.methodLink RX6 81 yX6_ownOf, Cond.instanceMethod yX6_ownOf, Cond.selects RX6 yX6_ownOf yX6_ownOf, Cond.code yX6_ownOf cX6_ownOf 5 (some .int), Cond.fieldLink RX6 33 "WhoSpeaksModel" "wereHere" "[I", Cond.fieldLink RX6 26 "WhoSpeaksModel" "whom" "[I", Cond.fieldLink RX6 13 "WhoSpeaksModel" "rules" "I", Cond.methodLink RX6 92 yX6_there, Cond.instanceMethod yX6_there, Cond.selects RX6 yX6_there yX6_there, Cond.code yX6_there cX6_there 3 (some .int), Cond.fieldLink RX6 7 "WhoSpeaksModel" "sortOf" "[I", Cond.methodLink RX6 122 yX6_isItem, Cond.instanceMethod yX6_isItem, Cond.selects RX6 yX6_isItem yX6_isItem, Cond.code yX6_isItem cX6_isItem 4 (some .boolean), Cond.methodLink RX6 85 yX6_has]
def wsX6_hint_r3 : List Cond := [Cond.static yX6_has, Cond.code yX6_has cX6_has 2 (some .boolean), Cond.methodLink RX6 128 yX6_counts, Cond.instanceMethod yX6_counts, Cond.selects RX6 yX6_counts yX6_counts, Cond.code yX6_counts cX6_counts 4 (some .boolean), Cond.methodLink RX6 125 yX6_whoOf, Cond.instanceMethod yX6_whoOf, Cond.selects RX6 yX6_whoOf yX6_whoOf, Cond.code yX6_whoOf cX6_whoOf 3 (some .int), Cond.methodLink RX6 119 yX6_isWho, Cond.instanceMethod yX6_isWho, Cond.selects RX6 yX6_isWho yX6_isWho, Cond.code yX6_isWho cX6_isWho 3 (some .boolean), Cond.methodLink RX6 140 yX6_byWho, Cond.instanceMethod yX6_byWho, Cond.selects RX6 yX6_byWho yX6_byWho, Cond.code yX6_byWho cX6_byWho 4 (some .int), Cond.methodLink RX6 137 yX6_ofSort, Cond.instanceMethod yX6_ofSort, Cond.selects RX6 yX6_ofSort yX6_ofSort, Cond.code yX6_ofSort cX6_ofSort 4 (some .int), Cond.methodLink RX6 134 yX6_manyCounting, Cond.instanceMethod yX6_manyCounting]
def wsX6_hint_r4 : List Cond := [Cond.selects RX6 yX6_manyCounting yX6_manyCounting, Cond.code yX6_manyCounting cX6_manyCounting 4 (some .int), Cond.methodLink RX6 156 yX6_narrows, Cond.instanceMethod yX6_narrows, Cond.selects RX6 yX6_narrows yX6_narrows, Cond.code yX6_narrows cX6_narrows 3 (some .boolean), Cond.fieldLink RX6 45 "WhoSpeaksModel" "then" "[I", Cond.methodLink RX6 143 yX6_linkAt, Cond.instanceMethod yX6_linkAt, Cond.selects RX6 yX6_linkAt yX6_linkAt, Cond.code yX6_linkAt cX6_linkAt 2 (some .int), Cond.fieldLink RX6 29 "WhoSpeaksModel" "goesOn" "[Z", Cond.methodLink RX6 149 yX6_by, Cond.instanceMethod yX6_by, Cond.selects RX6 yX6_by yX6_by, Cond.code yX6_by cX6_by 4 (some .int), Cond.methodLink RX6 146 yX6_size, Cond.static yX6_size, Cond.code yX6_size cX6_size 3 (some .int)]
def wsX6_hint : List Cond := .code yX6_hint cX6_hint 5 (some .int) :: ((wsX6_hint_r1 ++ (wsX6_hint_r2 ++ (wsX6_hint_r3 ++ wsX6_hint_r4))) ++ wsX60)
def wsX6_ways_r1 : List Cond := [Cond.methodLink RX6 178 yX6_findWays, Cond.instanceMethod yX6_findWays, Cond.selects RX6 yX6_findWays yX6_findWays, Cond.initialized RX6, Cond.code yX6_findWays cX6_findWays 1 (some .long), Cond.fieldLink RX6 68 "WhoSpeaksModel" "paragraphs" "I", Cond.methodLink RX6 153 yX6_findOwn, Cond.instanceMethod yX6_findOwn, Cond.selects RX6 yX6_findOwn yX6_findOwn, Cond.code yX6_findOwn cX6_findOwn 2 none, Cond.fieldLink RX6 39 "WhoSpeaksModel" "own" "[I", Cond.methodLink RX6 78 yX6_speaks, Cond.instanceMethod yX6_speaks, Cond.selects RX6 yX6_speaks yX6_speaks, Cond.code yX6_speaks cX6_speaks 2 (some .boolean), Cond.methodLink RX6 99 yX6_manyOf, Cond.instanceMethod yX6_manyOf, Cond.selects RX6 yX6_manyOf yX6_manyOf, Cond.code yX6_manyOf cX6_manyOf 5 (some .int), Cond.fieldLink RX6 20 "WhoSpeaksModel" "itemsOf" "[I", Cond.fieldLink RX6 23 "WhoSpeaksModel" "item" "[I", Cond.methodLink RX6 81 yX6_ownOf, Cond.instanceMethod yX6_ownOf, Cond.selects RX6 yX6_ownOf yX6_ownOf]
def wsX6_ways_r2 : List Cond := [Cond.code yX6_ownOf cX6_ownOf 5 (some .int), Cond.fieldLink RX6 33 "WhoSpeaksModel" "wereHere" "[I", Cond.fieldLink RX6 26 "WhoSpeaksModel" "whom" "[I", Cond.fieldLink RX6 13 "WhoSpeaksModel" "rules" "I", Cond.fieldLink RX6 36 "WhoSpeaksModel" "hintOf" "[I", Cond.methodLink RX6 92 yX6_there, Cond.instanceMethod yX6_there, Cond.selects RX6 yX6_there yX6_there, Cond.code yX6_there cX6_there 3 (some .int), Cond.fieldLink RX6 7 "WhoSpeaksModel" "sortOf" "[I", Cond.methodLink RX6 122 yX6_isItem, Cond.instanceMethod yX6_isItem, Cond.selects RX6 yX6_isItem yX6_isItem, Cond.code yX6_isItem cX6_isItem 4 (some .boolean), Cond.methodLink RX6 64 yX6_within, Cond.static yX6_within, Cond.code yX6_within cX6_within 3 (some .boolean), Cond.methodLink RX6 85 yX6_has, Cond.static yX6_has, Cond.code yX6_has cX6_has 2 (some .boolean), Cond.methodLink RX6 128 yX6_counts, Cond.instanceMethod yX6_counts, Cond.selects RX6 yX6_counts yX6_counts, Cond.code yX6_counts cX6_counts 4 (some .boolean)]
def wsX6_ways_r3 : List Cond := [Cond.methodLink RX6 125 yX6_whoOf, Cond.instanceMethod yX6_whoOf, Cond.selects RX6 yX6_whoOf yX6_whoOf, Cond.code yX6_whoOf cX6_whoOf 3 (some .int), Cond.methodLink RX6 119 yX6_isWho, Cond.instanceMethod yX6_isWho, Cond.selects RX6 yX6_isWho yX6_isWho, Cond.code yX6_isWho cX6_isWho 3 (some .boolean), Cond.methodLink RX6 140 yX6_byWho, Cond.instanceMethod yX6_byWho, Cond.selects RX6 yX6_byWho yX6_byWho, Cond.code yX6_byWho cX6_byWho 4 (some .int), Cond.methodLink RX6 137 yX6_ofSort, Cond.instanceMethod yX6_ofSort, Cond.selects RX6 yX6_ofSort yX6_ofSort, Cond.code yX6_ofSort cX6_ofSort 4 (some .int), Cond.methodLink RX6 134 yX6_manyCounting, Cond.instanceMethod yX6_manyCounting, Cond.selects RX6 yX6_manyCounting yX6_manyCounting, Cond.code yX6_manyCounting cX6_manyCounting 4 (some .int), Cond.methodLink RX6 171 yX6_countDown, Cond.instanceMethod yX6_countDown, Cond.selects RX6 yX6_countDown yX6_countDown, Cond.code yX6_countDown cX6_countDown 6 none]
def wsX6_ways_r4 : List Cond := [Cond.fieldLink RX6 55 "WhoSpeaksModel" "from" "[J", Cond.methodLink RX6 143 yX6_linkAt, Cond.instanceMethod yX6_linkAt, Cond.selects RX6 yX6_linkAt yX6_linkAt, Cond.code yX6_linkAt cX6_linkAt 2 (some .int), Cond.fieldLink RX6 29 "WhoSpeaksModel" "goesOn" "[Z", Cond.methodLink RX6 165 yX6_may, Cond.static yX6_may, Cond.code yX6_may cX6_may 3 (some .boolean), Cond.methodLink RX6 168 yX6_isAllowed, Cond.instanceMethod yX6_isAllowed, Cond.selects RX6 yX6_isAllowed yX6_isAllowed, Cond.code yX6_isAllowed cX6_isAllowed 3 (some .boolean), Cond.methodLink RX6 174 yX6_countUp, Cond.instanceMethod yX6_countUp, Cond.selects RX6 yX6_countUp yX6_countUp, Cond.code yX6_countUp cX6_countUp 10 (some .long), Cond.fieldLink RX6 51 "WhoSpeaksModel" "upTo" "[J"]
def wsX6_ways : List Cond := .code yX6_ways cX6_ways 1 (some .long) :: ((wsX6_ways_r1 ++ (wsX6_ways_r2 ++ (wsX6_ways_r3 ++ wsX6_ways_r4))) ++ wsX60)
def wsX6_would_r1 : List Cond := [Cond.constantLong RX6 182 (-1), Cond.methodLink RX6 131 yX6_isParagraph, Cond.instanceMethod yX6_isParagraph, Cond.selects RX6 yX6_isParagraph yX6_isParagraph, Cond.initialized RX6, Cond.code yX6_isParagraph cX6_isParagraph 2 (some .boolean), Cond.fieldLink RX6 68 "WhoSpeaksModel" "paragraphs" "I", Cond.methodLink RX6 64 yX6_within, Cond.static yX6_within, Cond.code yX6_within cX6_within 3 (some .boolean), Cond.methodLink RX6 71 yX6_isThere, Cond.instanceMethod yX6_isThere, Cond.selects RX6 yX6_isThere yX6_isThere, Cond.code yX6_isThere cX6_isThere 2 (some .boolean), Cond.fieldLink RX6 7 "WhoSpeaksModel" "sortOf" "[I", Cond.methodLink RX6 178 yX6_findWays, Cond.instanceMethod yX6_findWays, Cond.selects RX6 yX6_findWays yX6_findWays, Cond.code yX6_findWays cX6_findWays 1 (some .long), Cond.methodLink RX6 153 yX6_findOwn, Cond.instanceMethod yX6_findOwn, Cond.selects RX6 yX6_findOwn yX6_findOwn, Cond.code yX6_findOwn cX6_findOwn 2 none, Cond.fieldLink RX6 39 "WhoSpeaksModel" "own" "[I"]
def wsX6_would_r2 : List Cond := [Cond.methodLink RX6 78 yX6_speaks, Cond.instanceMethod yX6_speaks, Cond.selects RX6 yX6_speaks yX6_speaks, Cond.code yX6_speaks cX6_speaks 2 (some .boolean), Cond.methodLink RX6 99 yX6_manyOf, Cond.instanceMethod yX6_manyOf, Cond.selects RX6 yX6_manyOf yX6_manyOf, Cond.code yX6_manyOf cX6_manyOf 5 (some .int), Cond.fieldLink RX6 20 "WhoSpeaksModel" "itemsOf" "[I", Cond.fieldLink RX6 23 "WhoSpeaksModel" "item" "[I", Cond.methodLink RX6 81 yX6_ownOf, Cond.instanceMethod yX6_ownOf, Cond.selects RX6 yX6_ownOf yX6_ownOf, Cond.code yX6_ownOf cX6_ownOf 5 (some .int), Cond.fieldLink RX6 33 "WhoSpeaksModel" "wereHere" "[I", Cond.fieldLink RX6 26 "WhoSpeaksModel" "whom" "[I", Cond.fieldLink RX6 13 "WhoSpeaksModel" "rules" "I", Cond.fieldLink RX6 36 "WhoSpeaksModel" "hintOf" "[I", Cond.methodLink RX6 92 yX6_there, Cond.instanceMethod yX6_there, Cond.selects RX6 yX6_there yX6_there, Cond.code yX6_there cX6_there 3 (some .int), Cond.methodLink RX6 122 yX6_isItem, Cond.instanceMethod yX6_isItem]
def wsX6_would_r3 : List Cond := [Cond.selects RX6 yX6_isItem yX6_isItem, Cond.code yX6_isItem cX6_isItem 4 (some .boolean), Cond.methodLink RX6 85 yX6_has, Cond.static yX6_has, Cond.code yX6_has cX6_has 2 (some .boolean), Cond.methodLink RX6 128 yX6_counts, Cond.instanceMethod yX6_counts, Cond.selects RX6 yX6_counts yX6_counts, Cond.code yX6_counts cX6_counts 4 (some .boolean), Cond.methodLink RX6 125 yX6_whoOf, Cond.instanceMethod yX6_whoOf, Cond.selects RX6 yX6_whoOf yX6_whoOf, Cond.code yX6_whoOf cX6_whoOf 3 (some .int), Cond.methodLink RX6 119 yX6_isWho, Cond.instanceMethod yX6_isWho, Cond.selects RX6 yX6_isWho yX6_isWho, Cond.code yX6_isWho cX6_isWho 3 (some .boolean), Cond.methodLink RX6 140 yX6_byWho, Cond.instanceMethod yX6_byWho, Cond.selects RX6 yX6_byWho yX6_byWho, Cond.code yX6_byWho cX6_byWho 4 (some .int), Cond.methodLink RX6 137 yX6_ofSort, Cond.instanceMethod yX6_ofSort, Cond.selects RX6 yX6_ofSort yX6_ofSort]
def wsX6_would_r4 : List Cond := [Cond.code yX6_ofSort cX6_ofSort 4 (some .int), Cond.methodLink RX6 134 yX6_manyCounting, Cond.instanceMethod yX6_manyCounting, Cond.selects RX6 yX6_manyCounting yX6_manyCounting, Cond.code yX6_manyCounting cX6_manyCounting 4 (some .int), Cond.methodLink RX6 171 yX6_countDown, Cond.instanceMethod yX6_countDown, Cond.selects RX6 yX6_countDown yX6_countDown, Cond.code yX6_countDown cX6_countDown 6 none, Cond.fieldLink RX6 55 "WhoSpeaksModel" "from" "[J", Cond.methodLink RX6 143 yX6_linkAt, Cond.instanceMethod yX6_linkAt, Cond.selects RX6 yX6_linkAt yX6_linkAt, Cond.code yX6_linkAt cX6_linkAt 2 (some .int), Cond.fieldLink RX6 29 "WhoSpeaksModel" "goesOn" "[Z", Cond.methodLink RX6 165 yX6_may, Cond.static yX6_may, Cond.code yX6_may cX6_may 3 (some .boolean), Cond.methodLink RX6 168 yX6_isAllowed, Cond.instanceMethod yX6_isAllowed, Cond.selects RX6 yX6_isAllowed yX6_isAllowed, Cond.code yX6_isAllowed cX6_isAllowed 3 (some .boolean), Cond.methodLink RX6 174 yX6_countUp, Cond.instanceMethod yX6_countUp]
def wsX6_would_r5 : List Cond := [Cond.selects RX6 yX6_countUp yX6_countUp, Cond.code yX6_countUp cX6_countUp 10 (some .long), Cond.fieldLink RX6 51 "WhoSpeaksModel" "upTo" "[J", Cond.methodLink RX6 184 yX6_waysWith, Cond.instanceMethod yX6_waysWith, Cond.selects RX6 yX6_waysWith yX6_waysWith, Cond.code yX6_waysWith cX6_waysWith 6 (some .long)]
def wsX6_would : List Cond := .code yX6_would cX6_would 3 (some .long) :: ((wsX6_would_r1 ++ (wsX6_would_r2 ++ (wsX6_would_r3 ++ (wsX6_would_r4 ++ wsX6_would_r5)))) ++ wsX60)
def wsX6_conflict_r1 : List Cond := [Cond.methodLink RX6 64 yX6_within, Cond.static yX6_within, Cond.initialized RX6, Cond.code yX6_within cX6_within 3 (some .boolean), Cond.methodLink RX6 178 yX6_findWays, Cond.instanceMethod yX6_findWays, Cond.selects RX6 yX6_findWays yX6_findWays, Cond.code yX6_findWays cX6_findWays 1 (some .long), Cond.fieldLink RX6 68 "WhoSpeaksModel" "paragraphs" "I", Cond.methodLink RX6 153 yX6_findOwn, Cond.instanceMethod yX6_findOwn, Cond.selects RX6 yX6_findOwn yX6_findOwn, Cond.code yX6_findOwn cX6_findOwn 2 none, Cond.fieldLink RX6 39 "WhoSpeaksModel" "own" "[I", Cond.methodLink RX6 78 yX6_speaks, Cond.instanceMethod yX6_speaks, Cond.selects RX6 yX6_speaks yX6_speaks, Cond.code yX6_speaks cX6_speaks 2 (some .boolean), Cond.methodLink RX6 99 yX6_manyOf, Cond.instanceMethod yX6_manyOf, Cond.selects RX6 yX6_manyOf yX6_manyOf, Cond.code yX6_manyOf cX6_manyOf 5 (some .int), Cond.fieldLink RX6 20 "WhoSpeaksModel" "itemsOf" "[I", Cond.fieldLink RX6 23 "WhoSpeaksModel" "item" "[I"]
def wsX6_conflict_r2 : List Cond := [Cond.methodLink RX6 81 yX6_ownOf, Cond.instanceMethod yX6_ownOf, Cond.selects RX6 yX6_ownOf yX6_ownOf, Cond.code yX6_ownOf cX6_ownOf 5 (some .int), Cond.fieldLink RX6 33 "WhoSpeaksModel" "wereHere" "[I", Cond.fieldLink RX6 26 "WhoSpeaksModel" "whom" "[I", Cond.fieldLink RX6 13 "WhoSpeaksModel" "rules" "I", Cond.fieldLink RX6 36 "WhoSpeaksModel" "hintOf" "[I", Cond.methodLink RX6 92 yX6_there, Cond.instanceMethod yX6_there, Cond.selects RX6 yX6_there yX6_there, Cond.code yX6_there cX6_there 3 (some .int), Cond.fieldLink RX6 7 "WhoSpeaksModel" "sortOf" "[I", Cond.methodLink RX6 122 yX6_isItem, Cond.instanceMethod yX6_isItem, Cond.selects RX6 yX6_isItem yX6_isItem, Cond.code yX6_isItem cX6_isItem 4 (some .boolean), Cond.methodLink RX6 85 yX6_has, Cond.static yX6_has, Cond.code yX6_has cX6_has 2 (some .boolean), Cond.methodLink RX6 128 yX6_counts, Cond.instanceMethod yX6_counts, Cond.selects RX6 yX6_counts yX6_counts, Cond.code yX6_counts cX6_counts 4 (some .boolean)]
def wsX6_conflict_r3 : List Cond := [Cond.methodLink RX6 125 yX6_whoOf, Cond.instanceMethod yX6_whoOf, Cond.selects RX6 yX6_whoOf yX6_whoOf, Cond.code yX6_whoOf cX6_whoOf 3 (some .int), Cond.methodLink RX6 119 yX6_isWho, Cond.instanceMethod yX6_isWho, Cond.selects RX6 yX6_isWho yX6_isWho, Cond.code yX6_isWho cX6_isWho 3 (some .boolean), Cond.methodLink RX6 140 yX6_byWho, Cond.instanceMethod yX6_byWho, Cond.selects RX6 yX6_byWho yX6_byWho, Cond.code yX6_byWho cX6_byWho 4 (some .int), Cond.methodLink RX6 137 yX6_ofSort, Cond.instanceMethod yX6_ofSort, Cond.selects RX6 yX6_ofSort yX6_ofSort, Cond.code yX6_ofSort cX6_ofSort 4 (some .int), Cond.methodLink RX6 134 yX6_manyCounting, Cond.instanceMethod yX6_manyCounting, Cond.selects RX6 yX6_manyCounting yX6_manyCounting, Cond.code yX6_manyCounting cX6_manyCounting 4 (some .int), Cond.methodLink RX6 171 yX6_countDown, Cond.instanceMethod yX6_countDown, Cond.selects RX6 yX6_countDown yX6_countDown, Cond.code yX6_countDown cX6_countDown 6 none]
def wsX6_conflict_r4 : List Cond := [Cond.fieldLink RX6 55 "WhoSpeaksModel" "from" "[J", Cond.methodLink RX6 143 yX6_linkAt, Cond.instanceMethod yX6_linkAt, Cond.selects RX6 yX6_linkAt yX6_linkAt, Cond.code yX6_linkAt cX6_linkAt 2 (some .int), Cond.fieldLink RX6 29 "WhoSpeaksModel" "goesOn" "[Z", Cond.methodLink RX6 165 yX6_may, Cond.static yX6_may, Cond.code yX6_may cX6_may 3 (some .boolean), Cond.methodLink RX6 168 yX6_isAllowed, Cond.instanceMethod yX6_isAllowed, Cond.selects RX6 yX6_isAllowed yX6_isAllowed, Cond.code yX6_isAllowed cX6_isAllowed 3 (some .boolean), Cond.methodLink RX6 174 yX6_countUp, Cond.instanceMethod yX6_countUp, Cond.selects RX6 yX6_countUp yX6_countUp, Cond.code yX6_countUp cX6_countUp 10 (some .long), Cond.fieldLink RX6 51 "WhoSpeaksModel" "upTo" "[J"]
def wsX6_conflict : List Cond := .code yX6_conflict cX6_conflict 4 (some .int) :: ((wsX6_conflict_r1 ++ (wsX6_conflict_r2 ++ (wsX6_conflict_r3 ++ wsX6_conflict_r4))) ++ wsX60)
def wsX6_asked_r1 : List Cond := [Cond.fieldLink RX6 68 "WhoSpeaksModel" "paragraphs" "I", Cond.fieldLink RX6 58 "WhoSpeaksModel" "sure" "[I", Cond.methodLink RX6 162 yX6_findSure, Cond.instanceMethod yX6_findSure, Cond.selects RX6 yX6_findSure yX6_findSure, Cond.initialized RX6, Cond.code yX6_findSure cX6_findSure 3 none, Cond.methodLink RX6 178 yX6_findWays, Cond.instanceMethod yX6_findWays, Cond.selects RX6 yX6_findWays yX6_findWays, Cond.code yX6_findWays cX6_findWays 1 (some .long), Cond.methodLink RX6 153 yX6_findOwn, Cond.instanceMethod yX6_findOwn, Cond.selects RX6 yX6_findOwn yX6_findOwn, Cond.code yX6_findOwn cX6_findOwn 2 none, Cond.fieldLink RX6 39 "WhoSpeaksModel" "own" "[I", Cond.methodLink RX6 78 yX6_speaks, Cond.instanceMethod yX6_speaks, Cond.selects RX6 yX6_speaks yX6_speaks, Cond.code yX6_speaks cX6_speaks 2 (some .boolean), Cond.methodLink RX6 99 yX6_manyOf, Cond.instanceMethod yX6_manyOf, Cond.selects RX6 yX6_manyOf yX6_manyOf, Cond.code yX6_manyOf cX6_manyOf 5 (some .int)]
def wsX6_asked_r2 : List Cond := [Cond.fieldLink RX6 20 "WhoSpeaksModel" "itemsOf" "[I", Cond.fieldLink RX6 23 "WhoSpeaksModel" "item" "[I", Cond.methodLink RX6 81 yX6_ownOf, Cond.instanceMethod yX6_ownOf, Cond.selects RX6 yX6_ownOf yX6_ownOf, Cond.code yX6_ownOf cX6_ownOf 5 (some .int), Cond.fieldLink RX6 33 "WhoSpeaksModel" "wereHere" "[I", Cond.fieldLink RX6 26 "WhoSpeaksModel" "whom" "[I", Cond.fieldLink RX6 13 "WhoSpeaksModel" "rules" "I", Cond.fieldLink RX6 36 "WhoSpeaksModel" "hintOf" "[I", Cond.methodLink RX6 92 yX6_there, Cond.instanceMethod yX6_there, Cond.selects RX6 yX6_there yX6_there, Cond.code yX6_there cX6_there 3 (some .int), Cond.fieldLink RX6 7 "WhoSpeaksModel" "sortOf" "[I", Cond.methodLink RX6 122 yX6_isItem, Cond.instanceMethod yX6_isItem, Cond.selects RX6 yX6_isItem yX6_isItem, Cond.code yX6_isItem cX6_isItem 4 (some .boolean), Cond.methodLink RX6 64 yX6_within, Cond.static yX6_within, Cond.code yX6_within cX6_within 3 (some .boolean), Cond.methodLink RX6 85 yX6_has, Cond.static yX6_has]
def wsX6_asked_r3 : List Cond := [Cond.code yX6_has cX6_has 2 (some .boolean), Cond.methodLink RX6 128 yX6_counts, Cond.instanceMethod yX6_counts, Cond.selects RX6 yX6_counts yX6_counts, Cond.code yX6_counts cX6_counts 4 (some .boolean), Cond.methodLink RX6 125 yX6_whoOf, Cond.instanceMethod yX6_whoOf, Cond.selects RX6 yX6_whoOf yX6_whoOf, Cond.code yX6_whoOf cX6_whoOf 3 (some .int), Cond.methodLink RX6 119 yX6_isWho, Cond.instanceMethod yX6_isWho, Cond.selects RX6 yX6_isWho yX6_isWho, Cond.code yX6_isWho cX6_isWho 3 (some .boolean), Cond.methodLink RX6 140 yX6_byWho, Cond.instanceMethod yX6_byWho, Cond.selects RX6 yX6_byWho yX6_byWho, Cond.code yX6_byWho cX6_byWho 4 (some .int), Cond.methodLink RX6 137 yX6_ofSort, Cond.instanceMethod yX6_ofSort, Cond.selects RX6 yX6_ofSort yX6_ofSort, Cond.code yX6_ofSort cX6_ofSort 4 (some .int), Cond.methodLink RX6 134 yX6_manyCounting, Cond.instanceMethod yX6_manyCounting, Cond.selects RX6 yX6_manyCounting yX6_manyCounting]
def wsX6_asked_r4 : List Cond := [Cond.code yX6_manyCounting cX6_manyCounting 4 (some .int), Cond.methodLink RX6 171 yX6_countDown, Cond.instanceMethod yX6_countDown, Cond.selects RX6 yX6_countDown yX6_countDown, Cond.code yX6_countDown cX6_countDown 6 none, Cond.fieldLink RX6 55 "WhoSpeaksModel" "from" "[J", Cond.methodLink RX6 143 yX6_linkAt, Cond.instanceMethod yX6_linkAt, Cond.selects RX6 yX6_linkAt yX6_linkAt, Cond.code yX6_linkAt cX6_linkAt 2 (some .int), Cond.fieldLink RX6 29 "WhoSpeaksModel" "goesOn" "[Z", Cond.methodLink RX6 165 yX6_may, Cond.static yX6_may, Cond.code yX6_may cX6_may 3 (some .boolean), Cond.methodLink RX6 168 yX6_isAllowed, Cond.instanceMethod yX6_isAllowed, Cond.selects RX6 yX6_isAllowed yX6_isAllowed, Cond.code yX6_isAllowed cX6_isAllowed 3 (some .boolean), Cond.methodLink RX6 174 yX6_countUp, Cond.instanceMethod yX6_countUp, Cond.selects RX6 yX6_countUp yX6_countUp, Cond.code yX6_countUp cX6_countUp 10 (some .long), Cond.fieldLink RX6 51 "WhoSpeaksModel" "upTo" "[J", Cond.methodLink RX6 184 yX6_waysWith]
def wsX6_asked_r5 : List Cond := [Cond.instanceMethod yX6_waysWith, Cond.selects RX6 yX6_waysWith yX6_waysWith, Cond.code yX6_waysWith cX6_waysWith 6 (some .long), Cond.methodLink RX6 146 yX6_size, Cond.static yX6_size, Cond.code yX6_size cX6_size 3 (some .int)]
def wsX6_asked : List Cond := .code yX6_asked cX6_asked 9 (some .int) :: ((wsX6_asked_r1 ++ (wsX6_asked_r2 ++ (wsX6_asked_r3 ++ (wsX6_asked_r4 ++ wsX6_asked_r5)))) ++ wsX60)
def wsX6_beginsRun : List Cond := .code yX6_beginsRun cX6_beginsRun 2 (some .boolean) :: ([.methodLink RX6 78 yX6_speaks, .instanceMethod yX6_speaks, .selects RX6 yX6_speaks yX6_speaks, .initialized RX6, .code yX6_speaks cX6_speaks 2 (some .boolean), .methodLink RX6 99 yX6_manyOf, .instanceMethod yX6_manyOf, .selects RX6 yX6_manyOf yX6_manyOf, .code yX6_manyOf cX6_manyOf 5 (some .int), .fieldLink RX6 20 "WhoSpeaksModel" "itemsOf" "[I", .fieldLink RX6 23 "WhoSpeaksModel" "item" "[I"] ++ wsX60)
def wsX6_runs : List Cond := .code yX6_runs cX6_runs 3 (some .int) :: ([.fieldLink RX6 68 "WhoSpeaksModel" "paragraphs" "I", .methodLink RX6 187 yX6_beginsRun, .instanceMethod yX6_beginsRun, .selects RX6 yX6_beginsRun yX6_beginsRun, .initialized RX6, .code yX6_beginsRun cX6_beginsRun 2 (some .boolean), .methodLink RX6 78 yX6_speaks, .instanceMethod yX6_speaks, .selects RX6 yX6_speaks yX6_speaks, .code yX6_speaks cX6_speaks 2 (some .boolean), .methodLink RX6 99 yX6_manyOf, .instanceMethod yX6_manyOf, .selects RX6 yX6_manyOf yX6_manyOf, .code yX6_manyOf cX6_manyOf 5 (some .int), .fieldLink RX6 20 "WhoSpeaksModel" "itemsOf" "[I", .fieldLink RX6 23 "WhoSpeaksModel" "item" "[I"] ++ wsX60)
def wsX6_run_r1 : List Cond := [Cond.fieldLink RX6 68 "WhoSpeaksModel" "paragraphs" "I", Cond.methodLink RX6 190 yX6_runs, Cond.instanceMethod yX6_runs, Cond.selects RX6 yX6_runs yX6_runs, Cond.initialized RX6, Cond.code yX6_runs cX6_runs 3 (some .int), Cond.methodLink RX6 187 yX6_beginsRun, Cond.instanceMethod yX6_beginsRun, Cond.selects RX6 yX6_beginsRun yX6_beginsRun, Cond.code yX6_beginsRun cX6_beginsRun 2 (some .boolean), Cond.methodLink RX6 78 yX6_speaks, Cond.instanceMethod yX6_speaks, Cond.selects RX6 yX6_speaks yX6_speaks, Cond.code yX6_speaks cX6_speaks 2 (some .boolean), Cond.methodLink RX6 99 yX6_manyOf, Cond.instanceMethod yX6_manyOf, Cond.selects RX6 yX6_manyOf yX6_manyOf, Cond.code yX6_manyOf cX6_manyOf 5 (some .int), Cond.fieldLink RX6 20 "WhoSpeaksModel" "itemsOf" "[I", Cond.fieldLink RX6 23 "WhoSpeaksModel" "item" "[I", Cond.methodLink RX6 64 yX6_within, Cond.static yX6_within, Cond.code yX6_within cX6_within 3 (some .boolean), Cond.methodLink RX6 81 yX6_ownOf]
def wsX6_run_r2 : List Cond := [Cond.instanceMethod yX6_ownOf, Cond.selects RX6 yX6_ownOf yX6_ownOf, Cond.code yX6_ownOf cX6_ownOf 5 (some .int), Cond.fieldLink RX6 33 "WhoSpeaksModel" "wereHere" "[I", Cond.fieldLink RX6 26 "WhoSpeaksModel" "whom" "[I", Cond.fieldLink RX6 13 "WhoSpeaksModel" "rules" "I", Cond.fieldLink RX6 36 "WhoSpeaksModel" "hintOf" "[I", Cond.methodLink RX6 92 yX6_there, Cond.instanceMethod yX6_there, Cond.selects RX6 yX6_there yX6_there, Cond.code yX6_there cX6_there 3 (some .int), Cond.fieldLink RX6 7 "WhoSpeaksModel" "sortOf" "[I", Cond.methodLink RX6 122 yX6_isItem, Cond.instanceMethod yX6_isItem, Cond.selects RX6 yX6_isItem yX6_isItem, Cond.code yX6_isItem cX6_isItem 4 (some .boolean), Cond.methodLink RX6 85 yX6_has, Cond.static yX6_has, Cond.code yX6_has cX6_has 2 (some .boolean), Cond.methodLink RX6 128 yX6_counts, Cond.instanceMethod yX6_counts, Cond.selects RX6 yX6_counts yX6_counts, Cond.code yX6_counts cX6_counts 4 (some .boolean), Cond.methodLink RX6 125 yX6_whoOf]
def wsX6_run_r3 : List Cond := [Cond.instanceMethod yX6_whoOf, Cond.selects RX6 yX6_whoOf yX6_whoOf, Cond.code yX6_whoOf cX6_whoOf 3 (some .int), Cond.methodLink RX6 119 yX6_isWho, Cond.instanceMethod yX6_isWho, Cond.selects RX6 yX6_isWho yX6_isWho, Cond.code yX6_isWho cX6_isWho 3 (some .boolean), Cond.methodLink RX6 140 yX6_byWho, Cond.instanceMethod yX6_byWho, Cond.selects RX6 yX6_byWho yX6_byWho, Cond.code yX6_byWho cX6_byWho 4 (some .int), Cond.methodLink RX6 137 yX6_ofSort, Cond.instanceMethod yX6_ofSort, Cond.selects RX6 yX6_ofSort yX6_ofSort, Cond.code yX6_ofSort cX6_ofSort 4 (some .int), Cond.methodLink RX6 134 yX6_manyCounting, Cond.instanceMethod yX6_manyCounting, Cond.selects RX6 yX6_manyCounting yX6_manyCounting, Cond.code yX6_manyCounting cX6_manyCounting 4 (some .int), Cond.methodLink RX6 146 yX6_size, Cond.static yX6_size, Cond.code yX6_size cX6_size 3 (some .int)]
def wsX6_run : List Cond := .code yX6_run cX6_run 7 (some .int) :: ((wsX6_run_r1 ++ (wsX6_run_r2 ++ wsX6_run_r3)) ++ wsX60)
def wsX6_manyHad : List Cond := .code yX6_manyHad cX6_manyHad 5 (some .int) :: ([.fieldLink RX6 68 "WhoSpeaksModel" "paragraphs" "I", .fieldLink RX6 58 "WhoSpeaksModel" "sure" "[I", .methodLink RX6 85 yX6_has, .static yX6_has, .initialized RX6, .code yX6_has cX6_has 2 (some .boolean), .methodLink RX6 146 yX6_size, .static yX6_size, .code yX6_size cX6_size 3 (some .int)] ++ wsX60)
def wsX6_firstHad : List Cond := .code yX6_firstHad cX6_firstHad 5 (some .int) :: ([.fieldLink RX6 68 "WhoSpeaksModel" "paragraphs" "I", .fieldLink RX6 58 "WhoSpeaksModel" "sure" "[I"] ++ wsX60)
def wsX6_ofPerson_r1 : List Cond := [Cond.fieldLink RX6 7 "WhoSpeaksModel" "sortOf" "[I", Cond.fieldLink RX6 89 "WhoSpeaksModel" "here" "I", Cond.methodLink RX6 71 yX6_isThere, Cond.instanceMethod yX6_isThere, Cond.selects RX6 yX6_isThere yX6_isThere, Cond.initialized RX6, Cond.code yX6_isThere cX6_isThere 2 (some .boolean), Cond.methodLink RX6 64 yX6_within, Cond.static yX6_within, Cond.code yX6_within cX6_within 3 (some .boolean), Cond.methodLink RX6 162 yX6_findSure, Cond.instanceMethod yX6_findSure, Cond.selects RX6 yX6_findSure yX6_findSure, Cond.code yX6_findSure cX6_findSure 3 none, Cond.fieldLink RX6 68 "WhoSpeaksModel" "paragraphs" "I", Cond.fieldLink RX6 58 "WhoSpeaksModel" "sure" "[I", Cond.methodLink RX6 178 yX6_findWays, Cond.instanceMethod yX6_findWays, Cond.selects RX6 yX6_findWays yX6_findWays, Cond.code yX6_findWays cX6_findWays 1 (some .long), Cond.methodLink RX6 153 yX6_findOwn, Cond.instanceMethod yX6_findOwn, Cond.selects RX6 yX6_findOwn yX6_findOwn, Cond.code yX6_findOwn cX6_findOwn 2 none]
def wsX6_ofPerson_r2 : List Cond := [Cond.fieldLink RX6 39 "WhoSpeaksModel" "own" "[I", Cond.methodLink RX6 78 yX6_speaks, Cond.instanceMethod yX6_speaks, Cond.selects RX6 yX6_speaks yX6_speaks, Cond.code yX6_speaks cX6_speaks 2 (some .boolean), Cond.methodLink RX6 99 yX6_manyOf, Cond.instanceMethod yX6_manyOf, Cond.selects RX6 yX6_manyOf yX6_manyOf, Cond.code yX6_manyOf cX6_manyOf 5 (some .int), Cond.fieldLink RX6 20 "WhoSpeaksModel" "itemsOf" "[I", Cond.fieldLink RX6 23 "WhoSpeaksModel" "item" "[I", Cond.methodLink RX6 81 yX6_ownOf, Cond.instanceMethod yX6_ownOf, Cond.selects RX6 yX6_ownOf yX6_ownOf, Cond.code yX6_ownOf cX6_ownOf 5 (some .int), Cond.fieldLink RX6 33 "WhoSpeaksModel" "wereHere" "[I", Cond.fieldLink RX6 26 "WhoSpeaksModel" "whom" "[I", Cond.fieldLink RX6 13 "WhoSpeaksModel" "rules" "I", Cond.fieldLink RX6 36 "WhoSpeaksModel" "hintOf" "[I", Cond.methodLink RX6 92 yX6_there, Cond.instanceMethod yX6_there, Cond.selects RX6 yX6_there yX6_there, Cond.code yX6_there cX6_there 3 (some .int), Cond.methodLink RX6 122 yX6_isItem]
def wsX6_ofPerson_r3 : List Cond := [Cond.instanceMethod yX6_isItem, Cond.selects RX6 yX6_isItem yX6_isItem, Cond.code yX6_isItem cX6_isItem 4 (some .boolean), Cond.methodLink RX6 85 yX6_has, Cond.static yX6_has, Cond.code yX6_has cX6_has 2 (some .boolean), Cond.methodLink RX6 128 yX6_counts, Cond.instanceMethod yX6_counts, Cond.selects RX6 yX6_counts yX6_counts, Cond.code yX6_counts cX6_counts 4 (some .boolean), Cond.methodLink RX6 125 yX6_whoOf, Cond.instanceMethod yX6_whoOf, Cond.selects RX6 yX6_whoOf yX6_whoOf, Cond.code yX6_whoOf cX6_whoOf 3 (some .int), Cond.methodLink RX6 119 yX6_isWho, Cond.instanceMethod yX6_isWho, Cond.selects RX6 yX6_isWho yX6_isWho, Cond.code yX6_isWho cX6_isWho 3 (some .boolean), Cond.methodLink RX6 140 yX6_byWho, Cond.instanceMethod yX6_byWho, Cond.selects RX6 yX6_byWho yX6_byWho, Cond.code yX6_byWho cX6_byWho 4 (some .int), Cond.methodLink RX6 137 yX6_ofSort, Cond.instanceMethod yX6_ofSort]
def wsX6_ofPerson_r4 : List Cond := [Cond.selects RX6 yX6_ofSort yX6_ofSort, Cond.code yX6_ofSort cX6_ofSort 4 (some .int), Cond.methodLink RX6 134 yX6_manyCounting, Cond.instanceMethod yX6_manyCounting, Cond.selects RX6 yX6_manyCounting yX6_manyCounting, Cond.code yX6_manyCounting cX6_manyCounting 4 (some .int), Cond.methodLink RX6 171 yX6_countDown, Cond.instanceMethod yX6_countDown, Cond.selects RX6 yX6_countDown yX6_countDown, Cond.code yX6_countDown cX6_countDown 6 none, Cond.fieldLink RX6 55 "WhoSpeaksModel" "from" "[J", Cond.methodLink RX6 143 yX6_linkAt, Cond.instanceMethod yX6_linkAt, Cond.selects RX6 yX6_linkAt yX6_linkAt, Cond.code yX6_linkAt cX6_linkAt 2 (some .int), Cond.fieldLink RX6 29 "WhoSpeaksModel" "goesOn" "[Z", Cond.methodLink RX6 165 yX6_may, Cond.static yX6_may, Cond.code yX6_may cX6_may 3 (some .boolean), Cond.methodLink RX6 168 yX6_isAllowed, Cond.instanceMethod yX6_isAllowed, Cond.selects RX6 yX6_isAllowed yX6_isAllowed, Cond.code yX6_isAllowed cX6_isAllowed 3 (some .boolean), Cond.methodLink RX6 174 yX6_countUp]
def wsX6_ofPerson_r5 : List Cond := [Cond.instanceMethod yX6_countUp, Cond.selects RX6 yX6_countUp yX6_countUp, Cond.code yX6_countUp cX6_countUp 10 (some .long), Cond.fieldLink RX6 51 "WhoSpeaksModel" "upTo" "[J", Cond.methodLink RX6 184 yX6_waysWith, Cond.instanceMethod yX6_waysWith, Cond.selects RX6 yX6_waysWith yX6_waysWith, Cond.code yX6_waysWith cX6_waysWith 6 (some .long), Cond.methodLink RX6 193 yX6_manyHad, Cond.instanceMethod yX6_manyHad, Cond.selects RX6 yX6_manyHad yX6_manyHad, Cond.code yX6_manyHad cX6_manyHad 5 (some .int), Cond.methodLink RX6 146 yX6_size, Cond.static yX6_size, Cond.code yX6_size cX6_size 3 (some .int), Cond.methodLink RX6 197 yX6_firstHad, Cond.instanceMethod yX6_firstHad, Cond.selects RX6 yX6_firstHad yX6_firstHad, Cond.code yX6_firstHad cX6_firstHad 5 (some .int)]
def wsX6_ofPerson : List Cond := .code yX6_ofPerson cX6_ofPerson 3 (some .int) :: ((wsX6_ofPerson_r1 ++ (wsX6_ofPerson_r2 ++ (wsX6_ofPerson_r3 ++ (wsX6_ofPerson_r4 ++ wsX6_ofPerson_r5)))) ++ wsX60)
def wsX6_aheadOf : List Cond := .code yX6_aheadOf cX6_aheadOf 7 (some .int) :: ([.methodLink RX6 193 yX6_manyHad, .instanceMethod yX6_manyHad, .selects RX6 yX6_manyHad yX6_manyHad, .initialized RX6, .code yX6_manyHad cX6_manyHad 5 (some .int), .fieldLink RX6 68 "WhoSpeaksModel" "paragraphs" "I", .fieldLink RX6 58 "WhoSpeaksModel" "sure" "[I", .methodLink RX6 85 yX6_has, .static yX6_has, .code yX6_has cX6_has 2 (some .boolean), .methodLink RX6 146 yX6_size, .static yX6_size, .code yX6_size cX6_size 3 (some .int), .methodLink RX6 71 yX6_isThere, .instanceMethod yX6_isThere, .selects RX6 yX6_isThere yX6_isThere, .code yX6_isThere cX6_isThere 2 (some .boolean), .fieldLink RX6 7 "WhoSpeaksModel" "sortOf" "[I", .methodLink RX6 64 yX6_within, .static yX6_within, .code yX6_within cX6_within 3 (some .boolean)] ++ wsX60)
def wsX6_rank_r1 : List Cond := [Cond.methodLink RX6 64 yX6_within, Cond.static yX6_within, Cond.initialized RX6, Cond.code yX6_within cX6_within 3 (some .boolean), Cond.methodLink RX6 162 yX6_findSure, Cond.instanceMethod yX6_findSure, Cond.selects RX6 yX6_findSure yX6_findSure, Cond.code yX6_findSure cX6_findSure 3 none, Cond.fieldLink RX6 68 "WhoSpeaksModel" "paragraphs" "I", Cond.fieldLink RX6 58 "WhoSpeaksModel" "sure" "[I", Cond.methodLink RX6 178 yX6_findWays, Cond.instanceMethod yX6_findWays, Cond.selects RX6 yX6_findWays yX6_findWays, Cond.code yX6_findWays cX6_findWays 1 (some .long), Cond.methodLink RX6 153 yX6_findOwn, Cond.instanceMethod yX6_findOwn, Cond.selects RX6 yX6_findOwn yX6_findOwn, Cond.code yX6_findOwn cX6_findOwn 2 none, Cond.fieldLink RX6 39 "WhoSpeaksModel" "own" "[I", Cond.methodLink RX6 78 yX6_speaks, Cond.instanceMethod yX6_speaks, Cond.selects RX6 yX6_speaks yX6_speaks, Cond.code yX6_speaks cX6_speaks 2 (some .boolean), Cond.methodLink RX6 99 yX6_manyOf]
def wsX6_rank_r2 : List Cond := [Cond.instanceMethod yX6_manyOf, Cond.selects RX6 yX6_manyOf yX6_manyOf, Cond.code yX6_manyOf cX6_manyOf 5 (some .int), Cond.fieldLink RX6 20 "WhoSpeaksModel" "itemsOf" "[I", Cond.fieldLink RX6 23 "WhoSpeaksModel" "item" "[I", Cond.methodLink RX6 81 yX6_ownOf, Cond.instanceMethod yX6_ownOf, Cond.selects RX6 yX6_ownOf yX6_ownOf, Cond.code yX6_ownOf cX6_ownOf 5 (some .int), Cond.fieldLink RX6 33 "WhoSpeaksModel" "wereHere" "[I", Cond.fieldLink RX6 26 "WhoSpeaksModel" "whom" "[I", Cond.fieldLink RX6 13 "WhoSpeaksModel" "rules" "I", Cond.fieldLink RX6 36 "WhoSpeaksModel" "hintOf" "[I", Cond.methodLink RX6 92 yX6_there, Cond.instanceMethod yX6_there, Cond.selects RX6 yX6_there yX6_there, Cond.code yX6_there cX6_there 3 (some .int), Cond.fieldLink RX6 7 "WhoSpeaksModel" "sortOf" "[I", Cond.methodLink RX6 122 yX6_isItem, Cond.instanceMethod yX6_isItem, Cond.selects RX6 yX6_isItem yX6_isItem, Cond.code yX6_isItem cX6_isItem 4 (some .boolean), Cond.methodLink RX6 85 yX6_has, Cond.static yX6_has]
def wsX6_rank_r3 : List Cond := [Cond.code yX6_has cX6_has 2 (some .boolean), Cond.methodLink RX6 128 yX6_counts, Cond.instanceMethod yX6_counts, Cond.selects RX6 yX6_counts yX6_counts, Cond.code yX6_counts cX6_counts 4 (some .boolean), Cond.methodLink RX6 125 yX6_whoOf, Cond.instanceMethod yX6_whoOf, Cond.selects RX6 yX6_whoOf yX6_whoOf, Cond.code yX6_whoOf cX6_whoOf 3 (some .int), Cond.methodLink RX6 119 yX6_isWho, Cond.instanceMethod yX6_isWho, Cond.selects RX6 yX6_isWho yX6_isWho, Cond.code yX6_isWho cX6_isWho 3 (some .boolean), Cond.methodLink RX6 140 yX6_byWho, Cond.instanceMethod yX6_byWho, Cond.selects RX6 yX6_byWho yX6_byWho, Cond.code yX6_byWho cX6_byWho 4 (some .int), Cond.methodLink RX6 137 yX6_ofSort, Cond.instanceMethod yX6_ofSort, Cond.selects RX6 yX6_ofSort yX6_ofSort, Cond.code yX6_ofSort cX6_ofSort 4 (some .int), Cond.methodLink RX6 134 yX6_manyCounting, Cond.instanceMethod yX6_manyCounting, Cond.selects RX6 yX6_manyCounting yX6_manyCounting]
def wsX6_rank_r4 : List Cond := [Cond.code yX6_manyCounting cX6_manyCounting 4 (some .int), Cond.methodLink RX6 171 yX6_countDown, Cond.instanceMethod yX6_countDown, Cond.selects RX6 yX6_countDown yX6_countDown, Cond.code yX6_countDown cX6_countDown 6 none, Cond.fieldLink RX6 55 "WhoSpeaksModel" "from" "[J", Cond.methodLink RX6 143 yX6_linkAt, Cond.instanceMethod yX6_linkAt, Cond.selects RX6 yX6_linkAt yX6_linkAt, Cond.code yX6_linkAt cX6_linkAt 2 (some .int), Cond.fieldLink RX6 29 "WhoSpeaksModel" "goesOn" "[Z", Cond.methodLink RX6 165 yX6_may, Cond.static yX6_may, Cond.code yX6_may cX6_may 3 (some .boolean), Cond.methodLink RX6 168 yX6_isAllowed, Cond.instanceMethod yX6_isAllowed, Cond.selects RX6 yX6_isAllowed yX6_isAllowed, Cond.code yX6_isAllowed cX6_isAllowed 3 (some .boolean), Cond.methodLink RX6 174 yX6_countUp, Cond.instanceMethod yX6_countUp, Cond.selects RX6 yX6_countUp yX6_countUp, Cond.code yX6_countUp cX6_countUp 10 (some .long), Cond.fieldLink RX6 51 "WhoSpeaksModel" "upTo" "[J", Cond.methodLink RX6 184 yX6_waysWith]
def wsX6_rank_r5 : List Cond := [Cond.instanceMethod yX6_waysWith, Cond.selects RX6 yX6_waysWith yX6_waysWith, Cond.code yX6_waysWith cX6_waysWith 6 (some .long), Cond.methodLink RX6 71 yX6_isThere, Cond.instanceMethod yX6_isThere, Cond.selects RX6 yX6_isThere yX6_isThere, Cond.code yX6_isThere cX6_isThere 2 (some .boolean), Cond.methodLink RX6 200 yX6_aheadOf, Cond.instanceMethod yX6_aheadOf, Cond.selects RX6 yX6_aheadOf yX6_aheadOf, Cond.code yX6_aheadOf cX6_aheadOf 7 (some .int), Cond.methodLink RX6 193 yX6_manyHad, Cond.instanceMethod yX6_manyHad, Cond.selects RX6 yX6_manyHad yX6_manyHad, Cond.code yX6_manyHad cX6_manyHad 5 (some .int), Cond.methodLink RX6 146 yX6_size, Cond.static yX6_size, Cond.code yX6_size cX6_size 3 (some .int)]
def wsX6_rank : List Cond := .code yX6_rank cX6_rank 3 (some .int) :: ((wsX6_rank_r1 ++ (wsX6_rank_r2 ++ (wsX6_rank_r3 ++ (wsX6_rank_r4 ++ wsX6_rank_r5)))) ++ wsX60)
def wsX6_writes_r1 : List Cond := [Cond.fieldLink RX6 42 "WhoSpeaksModel" "narrowed" "[I", Cond.fieldLink RX6 61 "WhoSpeaksModel" "text" "[I", Cond.methodLink RX6 159 yX6_findNarrowed, Cond.instanceMethod yX6_findNarrowed, Cond.selects RX6 yX6_findNarrowed yX6_findNarrowed, Cond.initialized RX6, Cond.code yX6_findNarrowed cX6_findNarrowed 2 none, Cond.fieldLink RX6 68 "WhoSpeaksModel" "paragraphs" "I", Cond.fieldLink RX6 39 "WhoSpeaksModel" "own" "[I", Cond.methodLink RX6 153 yX6_findOwn, Cond.instanceMethod yX6_findOwn, Cond.selects RX6 yX6_findOwn yX6_findOwn, Cond.code yX6_findOwn cX6_findOwn 2 none, Cond.methodLink RX6 78 yX6_speaks, Cond.instanceMethod yX6_speaks, Cond.selects RX6 yX6_speaks yX6_speaks, Cond.code yX6_speaks cX6_speaks 2 (some .boolean), Cond.methodLink RX6 99 yX6_manyOf, Cond.instanceMethod yX6_manyOf, Cond.selects RX6 yX6_manyOf yX6_manyOf, Cond.code yX6_manyOf cX6_manyOf 5 (some .int), Cond.fieldLink RX6 20 "WhoSpeaksModel" "itemsOf" "[I", Cond.fieldLink RX6 23 "WhoSpeaksModel" "item" "[I", Cond.methodLink RX6 81 yX6_ownOf]
def wsX6_writes_r2 : List Cond := [Cond.instanceMethod yX6_ownOf, Cond.selects RX6 yX6_ownOf yX6_ownOf, Cond.code yX6_ownOf cX6_ownOf 5 (some .int), Cond.fieldLink RX6 33 "WhoSpeaksModel" "wereHere" "[I", Cond.fieldLink RX6 26 "WhoSpeaksModel" "whom" "[I", Cond.fieldLink RX6 13 "WhoSpeaksModel" "rules" "I", Cond.fieldLink RX6 36 "WhoSpeaksModel" "hintOf" "[I", Cond.methodLink RX6 92 yX6_there, Cond.instanceMethod yX6_there, Cond.selects RX6 yX6_there yX6_there, Cond.code yX6_there cX6_there 3 (some .int), Cond.fieldLink RX6 7 "WhoSpeaksModel" "sortOf" "[I", Cond.methodLink RX6 122 yX6_isItem, Cond.instanceMethod yX6_isItem, Cond.selects RX6 yX6_isItem yX6_isItem, Cond.code yX6_isItem cX6_isItem 4 (some .boolean), Cond.methodLink RX6 64 yX6_within, Cond.static yX6_within, Cond.code yX6_within cX6_within 3 (some .boolean), Cond.methodLink RX6 85 yX6_has, Cond.static yX6_has, Cond.code yX6_has cX6_has 2 (some .boolean), Cond.methodLink RX6 128 yX6_counts, Cond.instanceMethod yX6_counts]
def wsX6_writes_r3 : List Cond := [Cond.selects RX6 yX6_counts yX6_counts, Cond.code yX6_counts cX6_counts 4 (some .boolean), Cond.methodLink RX6 125 yX6_whoOf, Cond.instanceMethod yX6_whoOf, Cond.selects RX6 yX6_whoOf yX6_whoOf, Cond.code yX6_whoOf cX6_whoOf 3 (some .int), Cond.methodLink RX6 119 yX6_isWho, Cond.instanceMethod yX6_isWho, Cond.selects RX6 yX6_isWho yX6_isWho, Cond.code yX6_isWho cX6_isWho 3 (some .boolean), Cond.methodLink RX6 140 yX6_byWho, Cond.instanceMethod yX6_byWho, Cond.selects RX6 yX6_byWho yX6_byWho, Cond.code yX6_byWho cX6_byWho 4 (some .int), Cond.methodLink RX6 137 yX6_ofSort, Cond.instanceMethod yX6_ofSort, Cond.selects RX6 yX6_ofSort yX6_ofSort, Cond.code yX6_ofSort cX6_ofSort 4 (some .int), Cond.methodLink RX6 134 yX6_manyCounting, Cond.instanceMethod yX6_manyCounting, Cond.selects RX6 yX6_manyCounting yX6_manyCounting, Cond.code yX6_manyCounting cX6_manyCounting 4 (some .int), Cond.methodLink RX6 156 yX6_narrows, Cond.instanceMethod yX6_narrows]
def wsX6_writes_r4 : List Cond := [Cond.selects RX6 yX6_narrows yX6_narrows, Cond.code yX6_narrows cX6_narrows 3 (some .boolean), Cond.fieldLink RX6 45 "WhoSpeaksModel" "then" "[I", Cond.methodLink RX6 143 yX6_linkAt, Cond.instanceMethod yX6_linkAt, Cond.selects RX6 yX6_linkAt yX6_linkAt, Cond.code yX6_linkAt cX6_linkAt 2 (some .int), Cond.fieldLink RX6 29 "WhoSpeaksModel" "goesOn" "[Z", Cond.methodLink RX6 149 yX6_by, Cond.instanceMethod yX6_by, Cond.selects RX6 yX6_by yX6_by, Cond.code yX6_by cX6_by 4 (some .int), Cond.methodLink RX6 146 yX6_size, Cond.static yX6_size, Cond.code yX6_size cX6_size 3 (some .int)]
def wsX6_writes : List Cond := .code yX6_writes cX6_writes 4 (some .int) :: ((wsX6_writes_r1 ++ (wsX6_writes_r2 ++ (wsX6_writes_r3 ++ wsX6_writes_r4))) ++ wsX60)
def wsX6_written_r1 : List Cond := [Cond.fieldLink RX6 61 "WhoSpeaksModel" "text" "[I", Cond.methodLink RX6 131 yX6_isParagraph, Cond.instanceMethod yX6_isParagraph, Cond.selects RX6 yX6_isParagraph yX6_isParagraph, Cond.initialized RX6, Cond.code yX6_isParagraph cX6_isParagraph 2 (some .boolean), Cond.fieldLink RX6 68 "WhoSpeaksModel" "paragraphs" "I", Cond.methodLink RX6 64 yX6_within, Cond.static yX6_within, Cond.code yX6_within cX6_within 3 (some .boolean), Cond.methodLink RX6 203 yX6_writes, Cond.instanceMethod yX6_writes, Cond.selects RX6 yX6_writes yX6_writes, Cond.code yX6_writes cX6_writes 4 (some .int), Cond.fieldLink RX6 42 "WhoSpeaksModel" "narrowed" "[I", Cond.methodLink RX6 159 yX6_findNarrowed, Cond.instanceMethod yX6_findNarrowed, Cond.selects RX6 yX6_findNarrowed yX6_findNarrowed, Cond.code yX6_findNarrowed cX6_findNarrowed 2 none, Cond.fieldLink RX6 39 "WhoSpeaksModel" "own" "[I", Cond.methodLink RX6 153 yX6_findOwn, Cond.instanceMethod yX6_findOwn, Cond.selects RX6 yX6_findOwn yX6_findOwn, Cond.code yX6_findOwn cX6_findOwn 2 none]
def wsX6_written_r2 : List Cond := [Cond.methodLink RX6 78 yX6_speaks, Cond.instanceMethod yX6_speaks, Cond.selects RX6 yX6_speaks yX6_speaks, Cond.code yX6_speaks cX6_speaks 2 (some .boolean), Cond.methodLink RX6 99 yX6_manyOf, Cond.instanceMethod yX6_manyOf, Cond.selects RX6 yX6_manyOf yX6_manyOf, Cond.code yX6_manyOf cX6_manyOf 5 (some .int), Cond.fieldLink RX6 20 "WhoSpeaksModel" "itemsOf" "[I", Cond.fieldLink RX6 23 "WhoSpeaksModel" "item" "[I", Cond.methodLink RX6 81 yX6_ownOf, Cond.instanceMethod yX6_ownOf, Cond.selects RX6 yX6_ownOf yX6_ownOf, Cond.code yX6_ownOf cX6_ownOf 5 (some .int), Cond.fieldLink RX6 33 "WhoSpeaksModel" "wereHere" "[I", Cond.fieldLink RX6 26 "WhoSpeaksModel" "whom" "[I", Cond.fieldLink RX6 13 "WhoSpeaksModel" "rules" "I", Cond.fieldLink RX6 36 "WhoSpeaksModel" "hintOf" "[I", Cond.methodLink RX6 92 yX6_there, Cond.instanceMethod yX6_there, Cond.selects RX6 yX6_there yX6_there, Cond.code yX6_there cX6_there 3 (some .int), Cond.fieldLink RX6 7 "WhoSpeaksModel" "sortOf" "[I", Cond.methodLink RX6 122 yX6_isItem]
def wsX6_written_r3 : List Cond := [Cond.instanceMethod yX6_isItem, Cond.selects RX6 yX6_isItem yX6_isItem, Cond.code yX6_isItem cX6_isItem 4 (some .boolean), Cond.methodLink RX6 85 yX6_has, Cond.static yX6_has, Cond.code yX6_has cX6_has 2 (some .boolean), Cond.methodLink RX6 128 yX6_counts, Cond.instanceMethod yX6_counts, Cond.selects RX6 yX6_counts yX6_counts, Cond.code yX6_counts cX6_counts 4 (some .boolean), Cond.methodLink RX6 125 yX6_whoOf, Cond.instanceMethod yX6_whoOf, Cond.selects RX6 yX6_whoOf yX6_whoOf, Cond.code yX6_whoOf cX6_whoOf 3 (some .int), Cond.methodLink RX6 119 yX6_isWho, Cond.instanceMethod yX6_isWho, Cond.selects RX6 yX6_isWho yX6_isWho, Cond.code yX6_isWho cX6_isWho 3 (some .boolean), Cond.methodLink RX6 140 yX6_byWho, Cond.instanceMethod yX6_byWho, Cond.selects RX6 yX6_byWho yX6_byWho, Cond.code yX6_byWho cX6_byWho 4 (some .int), Cond.methodLink RX6 137 yX6_ofSort, Cond.instanceMethod yX6_ofSort]
def wsX6_written_r4 : List Cond := [Cond.selects RX6 yX6_ofSort yX6_ofSort, Cond.code yX6_ofSort cX6_ofSort 4 (some .int), Cond.methodLink RX6 134 yX6_manyCounting, Cond.instanceMethod yX6_manyCounting, Cond.selects RX6 yX6_manyCounting yX6_manyCounting, Cond.code yX6_manyCounting cX6_manyCounting 4 (some .int), Cond.methodLink RX6 156 yX6_narrows, Cond.instanceMethod yX6_narrows, Cond.selects RX6 yX6_narrows yX6_narrows, Cond.code yX6_narrows cX6_narrows 3 (some .boolean), Cond.fieldLink RX6 45 "WhoSpeaksModel" "then" "[I", Cond.methodLink RX6 143 yX6_linkAt, Cond.instanceMethod yX6_linkAt, Cond.selects RX6 yX6_linkAt yX6_linkAt, Cond.code yX6_linkAt cX6_linkAt 2 (some .int), Cond.fieldLink RX6 29 "WhoSpeaksModel" "goesOn" "[Z", Cond.methodLink RX6 149 yX6_by, Cond.instanceMethod yX6_by, Cond.selects RX6 yX6_by yX6_by, Cond.code yX6_by cX6_by 4 (some .int), Cond.methodLink RX6 146 yX6_size, Cond.static yX6_size, Cond.code yX6_size cX6_size 3 (some .int)]
def wsX6_written : List Cond := .code yX6_written cX6_written 4 (some .int) :: ((wsX6_written_r1 ++ (wsX6_written_r2 ++ (wsX6_written_r3 ++ wsX6_written_r4))) ++ wsX60)
def wsX6_manySpeak : List Cond := .code yX6_manySpeak cX6_manySpeak 3 (some .int) :: ([.fieldLink RX6 68 "WhoSpeaksModel" "paragraphs" "I", .methodLink RX6 78 yX6_speaks, .instanceMethod yX6_speaks, .selects RX6 yX6_speaks yX6_speaks, .initialized RX6, .code yX6_speaks cX6_speaks 2 (some .boolean), .methodLink RX6 99 yX6_manyOf, .instanceMethod yX6_manyOf, .selects RX6 yX6_manyOf yX6_manyOf, .code yX6_manyOf cX6_manyOf 5 (some .int), .fieldLink RX6 20 "WhoSpeaksModel" "itemsOf" "[I", .fieldLink RX6 23 "WhoSpeaksModel" "item" "[I"] ++ wsX60)
def wsX6_manySure_r1 : List Cond := [Cond.fieldLink RX6 68 "WhoSpeaksModel" "paragraphs" "I", Cond.fieldLink RX6 58 "WhoSpeaksModel" "sure" "[I", Cond.methodLink RX6 162 yX6_findSure, Cond.instanceMethod yX6_findSure, Cond.selects RX6 yX6_findSure yX6_findSure, Cond.initialized RX6, Cond.code yX6_findSure cX6_findSure 3 none, Cond.methodLink RX6 178 yX6_findWays, Cond.instanceMethod yX6_findWays, Cond.selects RX6 yX6_findWays yX6_findWays, Cond.code yX6_findWays cX6_findWays 1 (some .long), Cond.methodLink RX6 153 yX6_findOwn, Cond.instanceMethod yX6_findOwn, Cond.selects RX6 yX6_findOwn yX6_findOwn, Cond.code yX6_findOwn cX6_findOwn 2 none, Cond.fieldLink RX6 39 "WhoSpeaksModel" "own" "[I", Cond.methodLink RX6 78 yX6_speaks, Cond.instanceMethod yX6_speaks, Cond.selects RX6 yX6_speaks yX6_speaks, Cond.code yX6_speaks cX6_speaks 2 (some .boolean), Cond.methodLink RX6 99 yX6_manyOf, Cond.instanceMethod yX6_manyOf, Cond.selects RX6 yX6_manyOf yX6_manyOf, Cond.code yX6_manyOf cX6_manyOf 5 (some .int)]
def wsX6_manySure_r2 : List Cond := [Cond.fieldLink RX6 20 "WhoSpeaksModel" "itemsOf" "[I", Cond.fieldLink RX6 23 "WhoSpeaksModel" "item" "[I", Cond.methodLink RX6 81 yX6_ownOf, Cond.instanceMethod yX6_ownOf, Cond.selects RX6 yX6_ownOf yX6_ownOf, Cond.code yX6_ownOf cX6_ownOf 5 (some .int), Cond.fieldLink RX6 33 "WhoSpeaksModel" "wereHere" "[I", Cond.fieldLink RX6 26 "WhoSpeaksModel" "whom" "[I", Cond.fieldLink RX6 13 "WhoSpeaksModel" "rules" "I", Cond.fieldLink RX6 36 "WhoSpeaksModel" "hintOf" "[I", Cond.methodLink RX6 92 yX6_there, Cond.instanceMethod yX6_there, Cond.selects RX6 yX6_there yX6_there, Cond.code yX6_there cX6_there 3 (some .int), Cond.fieldLink RX6 7 "WhoSpeaksModel" "sortOf" "[I", Cond.methodLink RX6 122 yX6_isItem, Cond.instanceMethod yX6_isItem, Cond.selects RX6 yX6_isItem yX6_isItem, Cond.code yX6_isItem cX6_isItem 4 (some .boolean), Cond.methodLink RX6 64 yX6_within, Cond.static yX6_within, Cond.code yX6_within cX6_within 3 (some .boolean), Cond.methodLink RX6 85 yX6_has, Cond.static yX6_has]
def wsX6_manySure_r3 : List Cond := [Cond.code yX6_has cX6_has 2 (some .boolean), Cond.methodLink RX6 128 yX6_counts, Cond.instanceMethod yX6_counts, Cond.selects RX6 yX6_counts yX6_counts, Cond.code yX6_counts cX6_counts 4 (some .boolean), Cond.methodLink RX6 125 yX6_whoOf, Cond.instanceMethod yX6_whoOf, Cond.selects RX6 yX6_whoOf yX6_whoOf, Cond.code yX6_whoOf cX6_whoOf 3 (some .int), Cond.methodLink RX6 119 yX6_isWho, Cond.instanceMethod yX6_isWho, Cond.selects RX6 yX6_isWho yX6_isWho, Cond.code yX6_isWho cX6_isWho 3 (some .boolean), Cond.methodLink RX6 140 yX6_byWho, Cond.instanceMethod yX6_byWho, Cond.selects RX6 yX6_byWho yX6_byWho, Cond.code yX6_byWho cX6_byWho 4 (some .int), Cond.methodLink RX6 137 yX6_ofSort, Cond.instanceMethod yX6_ofSort, Cond.selects RX6 yX6_ofSort yX6_ofSort, Cond.code yX6_ofSort cX6_ofSort 4 (some .int), Cond.methodLink RX6 134 yX6_manyCounting, Cond.instanceMethod yX6_manyCounting, Cond.selects RX6 yX6_manyCounting yX6_manyCounting]
def wsX6_manySure_r4 : List Cond := [Cond.code yX6_manyCounting cX6_manyCounting 4 (some .int), Cond.methodLink RX6 171 yX6_countDown, Cond.instanceMethod yX6_countDown, Cond.selects RX6 yX6_countDown yX6_countDown, Cond.code yX6_countDown cX6_countDown 6 none, Cond.fieldLink RX6 55 "WhoSpeaksModel" "from" "[J", Cond.methodLink RX6 143 yX6_linkAt, Cond.instanceMethod yX6_linkAt, Cond.selects RX6 yX6_linkAt yX6_linkAt, Cond.code yX6_linkAt cX6_linkAt 2 (some .int), Cond.fieldLink RX6 29 "WhoSpeaksModel" "goesOn" "[Z", Cond.methodLink RX6 165 yX6_may, Cond.static yX6_may, Cond.code yX6_may cX6_may 3 (some .boolean), Cond.methodLink RX6 168 yX6_isAllowed, Cond.instanceMethod yX6_isAllowed, Cond.selects RX6 yX6_isAllowed yX6_isAllowed, Cond.code yX6_isAllowed cX6_isAllowed 3 (some .boolean), Cond.methodLink RX6 174 yX6_countUp, Cond.instanceMethod yX6_countUp, Cond.selects RX6 yX6_countUp yX6_countUp, Cond.code yX6_countUp cX6_countUp 10 (some .long), Cond.fieldLink RX6 51 "WhoSpeaksModel" "upTo" "[J", Cond.methodLink RX6 184 yX6_waysWith]
def wsX6_manySure_r5 : List Cond := [Cond.instanceMethod yX6_waysWith, Cond.selects RX6 yX6_waysWith yX6_waysWith, Cond.code yX6_waysWith cX6_waysWith 6 (some .long), Cond.methodLink RX6 146 yX6_size, Cond.static yX6_size, Cond.code yX6_size cX6_size 3 (some .int)]
def wsX6_manySure : List Cond := .code yX6_manySure cX6_manySure 3 (some .int) :: ((wsX6_manySure_r1 ++ (wsX6_manySure_r2 ++ (wsX6_manySure_r3 ++ (wsX6_manySure_r4 ++ wsX6_manySure_r5)))) ++ wsX60)
def wsX6_manyHints : List Cond := .code yX6_manyHints cX6_manyHints 3 (some .int) :: ([.fieldLink RX6 68 "WhoSpeaksModel" "paragraphs" "I", .fieldLink RX6 36 "WhoSpeaksModel" "hintOf" "[I"] ++ wsX60)
def wsX6_many_r1 : List Cond := [Cond.fieldLink RX6 68 "WhoSpeaksModel" "paragraphs" "I", Cond.fieldLink RX6 96 "WhoSpeaksModel" "taped" "I", Cond.fieldLink RX6 89 "WhoSpeaksModel" "here" "I", Cond.fieldLink RX6 13 "WhoSpeaksModel" "rules" "I", Cond.methodLink RX6 92 yX6_there, Cond.instanceMethod yX6_there, Cond.selects RX6 yX6_there yX6_there, Cond.initialized RX6, Cond.code yX6_there cX6_there 3 (some .int), Cond.fieldLink RX6 7 "WhoSpeaksModel" "sortOf" "[I", Cond.methodLink RX6 146 yX6_size, Cond.static yX6_size, Cond.code yX6_size cX6_size 3 (some .int), Cond.methodLink RX6 206 yX6_manySpeak, Cond.instanceMethod yX6_manySpeak, Cond.selects RX6 yX6_manySpeak yX6_manySpeak, Cond.code yX6_manySpeak cX6_manySpeak 3 (some .int), Cond.methodLink RX6 78 yX6_speaks, Cond.instanceMethod yX6_speaks, Cond.selects RX6 yX6_speaks yX6_speaks, Cond.code yX6_speaks cX6_speaks 2 (some .boolean), Cond.methodLink RX6 99 yX6_manyOf, Cond.instanceMethod yX6_manyOf, Cond.selects RX6 yX6_manyOf yX6_manyOf]
def wsX6_many_r2 : List Cond := [Cond.code yX6_manyOf cX6_manyOf 5 (some .int), Cond.fieldLink RX6 20 "WhoSpeaksModel" "itemsOf" "[I", Cond.fieldLink RX6 23 "WhoSpeaksModel" "item" "[I", Cond.methodLink RX6 190 yX6_runs, Cond.instanceMethod yX6_runs, Cond.selects RX6 yX6_runs yX6_runs, Cond.code yX6_runs cX6_runs 3 (some .int), Cond.methodLink RX6 187 yX6_beginsRun, Cond.instanceMethod yX6_beginsRun, Cond.selects RX6 yX6_beginsRun yX6_beginsRun, Cond.code yX6_beginsRun cX6_beginsRun 2 (some .boolean), Cond.methodLink RX6 209 yX6_manySure, Cond.instanceMethod yX6_manySure, Cond.selects RX6 yX6_manySure yX6_manySure, Cond.code yX6_manySure cX6_manySure 3 (some .int), Cond.fieldLink RX6 58 "WhoSpeaksModel" "sure" "[I", Cond.methodLink RX6 162 yX6_findSure, Cond.instanceMethod yX6_findSure, Cond.selects RX6 yX6_findSure yX6_findSure, Cond.code yX6_findSure cX6_findSure 3 none, Cond.methodLink RX6 178 yX6_findWays, Cond.instanceMethod yX6_findWays, Cond.selects RX6 yX6_findWays yX6_findWays, Cond.code yX6_findWays cX6_findWays 1 (some .long)]
def wsX6_many_r3 : List Cond := [Cond.methodLink RX6 153 yX6_findOwn, Cond.instanceMethod yX6_findOwn, Cond.selects RX6 yX6_findOwn yX6_findOwn, Cond.code yX6_findOwn cX6_findOwn 2 none, Cond.fieldLink RX6 39 "WhoSpeaksModel" "own" "[I", Cond.methodLink RX6 81 yX6_ownOf, Cond.instanceMethod yX6_ownOf, Cond.selects RX6 yX6_ownOf yX6_ownOf, Cond.code yX6_ownOf cX6_ownOf 5 (some .int), Cond.fieldLink RX6 33 "WhoSpeaksModel" "wereHere" "[I", Cond.fieldLink RX6 26 "WhoSpeaksModel" "whom" "[I", Cond.fieldLink RX6 36 "WhoSpeaksModel" "hintOf" "[I", Cond.methodLink RX6 122 yX6_isItem, Cond.instanceMethod yX6_isItem, Cond.selects RX6 yX6_isItem yX6_isItem, Cond.code yX6_isItem cX6_isItem 4 (some .boolean), Cond.methodLink RX6 64 yX6_within, Cond.static yX6_within, Cond.code yX6_within cX6_within 3 (some .boolean), Cond.methodLink RX6 85 yX6_has, Cond.static yX6_has, Cond.code yX6_has cX6_has 2 (some .boolean), Cond.methodLink RX6 128 yX6_counts, Cond.instanceMethod yX6_counts]
def wsX6_many_r4 : List Cond := [Cond.selects RX6 yX6_counts yX6_counts, Cond.code yX6_counts cX6_counts 4 (some .boolean), Cond.methodLink RX6 125 yX6_whoOf, Cond.instanceMethod yX6_whoOf, Cond.selects RX6 yX6_whoOf yX6_whoOf, Cond.code yX6_whoOf cX6_whoOf 3 (some .int), Cond.methodLink RX6 119 yX6_isWho, Cond.instanceMethod yX6_isWho, Cond.selects RX6 yX6_isWho yX6_isWho, Cond.code yX6_isWho cX6_isWho 3 (some .boolean), Cond.methodLink RX6 140 yX6_byWho, Cond.instanceMethod yX6_byWho, Cond.selects RX6 yX6_byWho yX6_byWho, Cond.code yX6_byWho cX6_byWho 4 (some .int), Cond.methodLink RX6 137 yX6_ofSort, Cond.instanceMethod yX6_ofSort, Cond.selects RX6 yX6_ofSort yX6_ofSort, Cond.code yX6_ofSort cX6_ofSort 4 (some .int), Cond.methodLink RX6 134 yX6_manyCounting, Cond.instanceMethod yX6_manyCounting, Cond.selects RX6 yX6_manyCounting yX6_manyCounting, Cond.code yX6_manyCounting cX6_manyCounting 4 (some .int), Cond.methodLink RX6 171 yX6_countDown, Cond.instanceMethod yX6_countDown]
def wsX6_many_r5 : List Cond := [Cond.selects RX6 yX6_countDown yX6_countDown, Cond.code yX6_countDown cX6_countDown 6 none, Cond.fieldLink RX6 55 "WhoSpeaksModel" "from" "[J", Cond.methodLink RX6 143 yX6_linkAt, Cond.instanceMethod yX6_linkAt, Cond.selects RX6 yX6_linkAt yX6_linkAt, Cond.code yX6_linkAt cX6_linkAt 2 (some .int), Cond.fieldLink RX6 29 "WhoSpeaksModel" "goesOn" "[Z", Cond.methodLink RX6 165 yX6_may, Cond.static yX6_may, Cond.code yX6_may cX6_may 3 (some .boolean), Cond.methodLink RX6 168 yX6_isAllowed, Cond.instanceMethod yX6_isAllowed, Cond.selects RX6 yX6_isAllowed yX6_isAllowed, Cond.code yX6_isAllowed cX6_isAllowed 3 (some .boolean), Cond.methodLink RX6 174 yX6_countUp, Cond.instanceMethod yX6_countUp, Cond.selects RX6 yX6_countUp yX6_countUp, Cond.code yX6_countUp cX6_countUp 10 (some .long), Cond.fieldLink RX6 51 "WhoSpeaksModel" "upTo" "[J", Cond.methodLink RX6 184 yX6_waysWith, Cond.instanceMethod yX6_waysWith, Cond.selects RX6 yX6_waysWith yX6_waysWith, Cond.code yX6_waysWith cX6_waysWith 6 (some .long)]
def wsX6_many_r6 : List Cond := [Cond.methodLink RX6 212 yX6_manyHints, Cond.instanceMethod yX6_manyHints, Cond.selects RX6 yX6_manyHints yX6_manyHints, Cond.code yX6_manyHints cX6_manyHints 3 (some .int)]
def wsX6_many : List Cond := .code yX6_many cX6_many 2 (some .int) :: ((wsX6_many_r1 ++ (wsX6_many_r2 ++ (wsX6_many_r3 ++ (wsX6_many_r4 ++ (wsX6_many_r5 ++ wsX6_many_r6))))) ++ wsX60)
def wsJ9_max_7cf53 : List Cond := .code yJ9_max_7cf53 cJ9_max_7cf53 2 (some .int) :: ([])
def wsJ9_max_f86c9 : List Cond := .code yJ9_max_f86c9 cJ9_max_f86c9 4 (some .long) :: ([])
def wsJ9_min_7cf53 : List Cond := .code yJ9_min_7cf53 cJ9_min_7cf53 2 (some .int) :: ([])
abbrev vwCl : List vw_C := [(RX0, TX0, 9), (RX1, TX1, 14), (RX2, TX2, 2), (RX3, TX3, 3), (RX4, TX4, 2), (RX5, TX5, 9), (RX6, TX6, 21)]
end
section
theorem dX0_init_0 : decode cX0_init 0 = .ok (.aload_n 0, 1) := by decide +kernel
theorem dX0_init_1 : decode cX0_init 1 = .ok (.invokespecial 3, 3) := by decide +kernel
theorem dX0_init_4 : decode cX0_init 4 = .ok (.aload_n 0, 1) := by decide +kernel
theorem dX0_init_5 : decode cX0_init 5 = .ok (.bipush 16, 2) := by decide +kernel
theorem dX0_init_7 : decode cX0_init 7 = .ok (.newarray .boolean, 2) := by decide +kernel
theorem dX0_init_9 : decode cX0_init 9 = .ok (.putfield 9, 3) := by decide +kernel
theorem dX0_init_12 : decode cX0_init 12 = .ok (.aload_n 0, 1) := by decide +kernel
theorem dX0_init_13 : decode cX0_init 13 = .ok (.bipush 16, 2) := by decide +kernel
theorem dX0_init_15 : decode cX0_init 15 = .ok (.newarray .int, 2) := by decide +kernel
theorem dX0_init_17 : decode cX0_init 17 = .ok (.putfield 15, 3) := by decide +kernel
theorem dX0_init_20 : decode cX0_init 20 = .ok (.aload_n 0, 1) := by decide +kernel
theorem dX0_init_21 : decode cX0_init 21 = .ok (.bipush 16, 2) := by decide +kernel
theorem dX0_init_23 : decode cX0_init 23 = .ok (.newarray .int, 2) := by decide +kernel
theorem dX0_init_25 : decode cX0_init 25 = .ok (.putfield 19, 3) := by decide +kernel
theorem dX0_init_28 : decode cX0_init 28 = .ok (.aload_n 0, 1) := by decide +kernel
theorem dX0_init_29 : decode cX0_init 29 = .ok (.bipush 16, 2) := by decide +kernel
theorem dX0_init_31 : decode cX0_init 31 = .ok (.newarray .int, 2) := by decide +kernel
theorem dX0_init_33 : decode cX0_init 33 = .ok (.putfield 22, 3) := by decide +kernel
theorem dX0_init_36 : decode cX0_init 36 = .ok (.aload_n 0, 1) := by decide +kernel
theorem dX0_init_37 : decode cX0_init 37 = .ok (.bipush 16, 2) := by decide +kernel
theorem dX0_init_39 : decode cX0_init 39 = .ok (.newarray .int, 2) := by decide +kernel
theorem dX0_init_41 : decode cX0_init 41 = .ok (.putfield 25, 3) := by decide +kernel
theorem dX0_init_44 : decode cX0_init 44 = .ok (.aload_n 0, 1) := by decide +kernel
theorem dX0_init_45 : decode cX0_init 45 = .ok (.sipush 128, 3) := by decide +kernel
theorem dX0_init_48 : decode cX0_init 48 = .ok (.newarray .long, 2) := by decide +kernel
theorem dX0_init_50 : decode cX0_init 50 = .ok (.putfield 28, 3) := by decide +kernel
theorem dX0_init_53 : decode cX0_init 53 = .ok (.aload_n 0, 1) := by decide +kernel
theorem dX0_init_54 : decode cX0_init 54 = .ok (.sipush 128, 3) := by decide +kernel
theorem dX0_init_57 : decode cX0_init 57 = .ok (.newarray .long, 2) := by decide +kernel
theorem dX0_init_59 : decode cX0_init 59 = .ok (.putfield 32, 3) := by decide +kernel
theorem dX0_init_62 : decode cX0_init 62 = .ok (.aload_n 0, 1) := by decide +kernel
theorem dX0_init_63 : decode cX0_init 63 = .ok (.bipush 16, 2) := by decide +kernel
theorem dX0_init_65 : decode cX0_init 65 = .ok (.newarray .int, 2) := by decide +kernel
theorem dX0_init_67 : decode cX0_init 67 = .ok (.putfield 35, 3) := by decide +kernel
theorem dX0_init_70 : decode cX0_init 70 = .ok (.aload_n 0, 1) := by decide +kernel
theorem dX0_init_71 : decode cX0_init 71 = .ok (.iconst 0, 1) := by decide +kernel
theorem dX0_init_72 : decode cX0_init 72 = .ok (.putfield 38, 3) := by decide +kernel
theorem dX0_init_75 : decode cX0_init 75 = .ok (.return_, 1) := by decide +kernel
theorem dX0_clear_0 : decode cX0_clear 0 = .ok (.aload_n 0, 1) := by decide +kernel
theorem dX0_clear_1 : decode cX0_clear 1 = .ok (.iconst 0, 1) := by decide +kernel
theorem dX0_clear_2 : decode cX0_clear 2 = .ok (.putfield 38, 3) := by decide +kernel
theorem dX0_clear_5 : decode cX0_clear 5 = .ok (.return_, 1) := by decide +kernel
set_option maxRecDepth 20000 in
theorem ggX0_append_X5_isWithin : GoodIn wsX0_append wsX5_isWithin := goodIn_r _ [7] (by decide +kernel) (by decide +kernel)
set_option maxRecDepth 20000 in
theorem gX0_append_X5_isWithin_n42 : GoodIn wsX0_append (wsX5_isWithin) := ggX0_append_X5_isWithin
theorem dX0_append_0 : decode cX0_append 0 = .ok (.aload_n 0, 1) := by decide +kernel
theorem dX0_append_1 : decode cX0_append 1 = .ok (.getfield 38, 3) := by decide +kernel
theorem dX0_append_4 : decode cX0_append 4 = .ok (.bipush 16, 2) := by decide +kernel
theorem dX0_append_6 : decode cX0_append 6 = .ok (.invokestatic 42, 3) := by decide +kernel
theorem dX0_append_9 : decode cX0_append 9 = .ok (.ifCond .eq 43, 3) := by decide +kernel
theorem dX0_append_12 : decode cX0_append 12 = .ok (.aload_n 0, 1) := by decide +kernel
theorem dX0_append_13 : decode cX0_append 13 = .ok (.getfield 9, 3) := by decide +kernel
theorem dX0_append_16 : decode cX0_append 16 = .ok (.aload_n 0, 1) := by decide +kernel
theorem dX0_append_17 : decode cX0_append 17 = .ok (.getfield 38, 3) := by decide +kernel
theorem dX0_append_20 : decode cX0_append 20 = .ok (.iload_n 1, 1) := by decide +kernel
theorem dX0_append_21 : decode cX0_append 21 = .ok (.bastore, 1) := by decide +kernel
theorem dX0_append_22 : decode cX0_append 22 = .ok (.aload_n 0, 1) := by decide +kernel
theorem dX0_append_23 : decode cX0_append 23 = .ok (.getfield 15, 3) := by decide +kernel
theorem dX0_append_26 : decode cX0_append 26 = .ok (.aload_n 0, 1) := by decide +kernel
theorem dX0_append_27 : decode cX0_append 27 = .ok (.getfield 38, 3) := by decide +kernel
theorem dX0_append_30 : decode cX0_append 30 = .ok (.iload_n 2, 1) := by decide +kernel
theorem dX0_append_31 : decode cX0_append 31 = .ok (.iastore, 1) := by decide +kernel
theorem dX0_append_32 : decode cX0_append 32 = .ok (.aload_n 0, 1) := by decide +kernel
theorem dX0_append_33 : decode cX0_append 33 = .ok (.getfield 19, 3) := by decide +kernel
theorem dX0_append_36 : decode cX0_append 36 = .ok (.aload_n 0, 1) := by decide +kernel
theorem dX0_append_37 : decode cX0_append 37 = .ok (.getfield 38, 3) := by decide +kernel
theorem dX0_append_40 : decode cX0_append 40 = .ok (.iload_n 3, 1) := by decide +kernel
theorem dX0_append_41 : decode cX0_append 41 = .ok (.iastore, 1) := by decide +kernel
theorem dX0_append_42 : decode cX0_append 42 = .ok (.aload_n 0, 1) := by decide +kernel
theorem dX0_append_43 : decode cX0_append 43 = .ok (.dup, 1) := by decide +kernel
theorem dX0_append_44 : decode cX0_append 44 = .ok (.getfield 38, 3) := by decide +kernel
theorem dX0_append_47 : decode cX0_append 47 = .ok (.iconst 1, 1) := by decide +kernel
theorem dX0_append_48 : decode cX0_append 48 = .ok (.iadd, 1) := by decide +kernel
theorem dX0_append_49 : decode cX0_append 49 = .ok (.putfield 38, 3) := by decide +kernel
theorem dX0_append_52 : decode cX0_append 52 = .ok (.return_, 1) := by decide +kernel
set_option maxRecDepth 20000 in
theorem ggX0_holds_X5_isWithin : GoodIn wsX0_holds wsX5_isWithin := goodIn_r _ [4] (by decide +kernel) (by decide +kernel)
set_option maxRecDepth 20000 in
theorem gX0_holds_X5_isWithin_n42 : GoodIn wsX0_holds (wsX5_isWithin) := ggX0_holds_X5_isWithin
theorem dX0_holds_0 : decode cX0_holds 0 = .ok (.iload_n 1, 1) := by decide +kernel
theorem dX0_holds_1 : decode cX0_holds 1 = .ok (.aload_n 0, 1) := by decide +kernel
theorem dX0_holds_2 : decode cX0_holds 2 = .ok (.getfield 38, 3) := by decide +kernel
theorem dX0_holds_5 : decode cX0_holds 5 = .ok (.invokestatic 42, 3) := by decide +kernel
theorem dX0_holds_8 : decode cX0_holds 8 = .ok (.ifCond .eq 13, 3) := by decide +kernel
theorem dX0_holds_11 : decode cX0_holds 11 = .ok (.iload_n 1, 1) := by decide +kernel
theorem dX0_holds_12 : decode cX0_holds 12 = .ok (.bipush 16, 2) := by decide +kernel
theorem dX0_holds_14 : decode cX0_holds 14 = .ok (.if_icmp .ge 7, 3) := by decide +kernel
theorem dX0_holds_17 : decode cX0_holds 17 = .ok (.iconst 1, 1) := by decide +kernel
theorem dX0_holds_18 : decode cX0_holds 18 = .ok (.goto 4, 3) := by decide +kernel
theorem dX0_holds_21 : decode cX0_holds 21 = .ok (.iconst 0, 1) := by decide +kernel
theorem dX0_holds_22 : decode cX0_holds 22 = .ok (.ireturn, 1) := by decide +kernel
set_option maxRecDepth 20000 in
theorem ggX0_ownSet_X0_holds : GoodIn wsX0_ownSet wsX0_holds := goodIn_r _ [6, 7, 8, 9, 10, 11, 12, 13, 14, 15, 16, 17, 18, 19] (by decide +kernel) (by decide +kernel)
set_option maxRecDepth 20000 in
theorem gX0_ownSet_X0_holds : GoodIn wsX0_ownSet (wsV RX0 46 RX0 yX0_holds wsX0_holds) := goodIn_app (goodIn_of _ (by decide +kernel)) ggX0_ownSet_X0_holds
theorem dX0_ownSet_0 : decode cX0_ownSet 0 = .ok (.aload_n 0, 1) := by decide +kernel
theorem dX0_ownSet_1 : decode cX0_ownSet 1 = .ok (.iload_n 1, 1) := by decide +kernel
theorem dX0_ownSet_2 : decode cX0_ownSet 2 = .ok (.invokevirtual 46, 3) := by decide +kernel
theorem dX0_ownSet_5 : decode cX0_ownSet 5 = .ok (.ifCond .eq 12, 3) := by decide +kernel
theorem dX0_ownSet_8 : decode cX0_ownSet 8 = .ok (.aload_n 0, 1) := by decide +kernel
theorem dX0_ownSet_9 : decode cX0_ownSet 9 = .ok (.getfield 15, 3) := by decide +kernel
theorem dX0_ownSet_12 : decode cX0_ownSet 12 = .ok (.iload_n 1, 1) := by decide +kernel
theorem dX0_ownSet_13 : decode cX0_ownSet 13 = .ok (.iaload, 1) := by decide +kernel
theorem dX0_ownSet_14 : decode cX0_ownSet 14 = .ok (.goto 4, 3) := by decide +kernel
theorem dX0_ownSet_17 : decode cX0_ownSet 17 = .ok (.iconst 0, 1) := by decide +kernel
theorem dX0_ownSet_18 : decode cX0_ownSet 18 = .ok (.ireturn, 1) := by decide +kernel
set_option maxRecDepth 20000 in
theorem ggX0_linkAt_X0_holds : GoodIn wsX0_linkAt wsX0_holds := goodIn_r _ [6, 7, 8, 9, 10, 11, 12, 13, 14, 15, 16, 17, 18, 19] (by decide +kernel) (by decide +kernel)
set_option maxRecDepth 20000 in
theorem gX0_linkAt_X0_holds : GoodIn wsX0_linkAt (wsV RX0 46 RX0 yX0_holds wsX0_holds) := goodIn_app (goodIn_of _ (by decide +kernel)) ggX0_linkAt_X0_holds
theorem dX0_linkAt_0 : decode cX0_linkAt 0 = .ok (.aload_n 0, 1) := by decide +kernel
theorem dX0_linkAt_1 : decode cX0_linkAt 1 = .ok (.iload_n 1, 1) := by decide +kernel
theorem dX0_linkAt_2 : decode cX0_linkAt 2 = .ok (.invokevirtual 46, 3) := by decide +kernel
theorem dX0_linkAt_5 : decode cX0_linkAt 5 = .ok (.ifCond .eq 12, 3) := by decide +kernel
theorem dX0_linkAt_8 : decode cX0_linkAt 8 = .ok (.aload_n 0, 1) := by decide +kernel
theorem dX0_linkAt_9 : decode cX0_linkAt 9 = .ok (.getfield 19, 3) := by decide +kernel
theorem dX0_linkAt_12 : decode cX0_linkAt 12 = .ok (.iload_n 1, 1) := by decide +kernel
theorem dX0_linkAt_13 : decode cX0_linkAt 13 = .ok (.iaload, 1) := by decide +kernel
theorem dX0_linkAt_14 : decode cX0_linkAt 14 = .ok (.goto 4, 3) := by decide +kernel
theorem dX0_linkAt_17 : decode cX0_linkAt 17 = .ok (.iconst 0, 1) := by decide +kernel
theorem dX0_linkAt_18 : decode cX0_linkAt 18 = .ok (.ireturn, 1) := by decide +kernel
set_option maxRecDepth 20000 in
theorem ggX0_ownSetsWith_X0_ownSet : GoodIn wsX0_ownSetsWith wsX0_ownSet := goodIn_r _ [6, 7, 8, 9, 10, 5, 11, 1, 12, 13, 14, 17, 18, 19, 20, 21, 22, 23, 24, 25] (by decide +kernel) (by decide +kernel)
set_option maxRecDepth 20000 in
theorem gX0_ownSetsWith_X0_ownSet : GoodIn wsX0_ownSetsWith (wsV RX0 50 RX0 yX0_ownSet wsX0_ownSet) := goodIn_app (goodIn_of _ (by decide +kernel)) ggX0_ownSetsWith_X0_ownSet
set_option maxRecDepth 20000 in
theorem ggX0_ownSetsWith_X5_bitOf : GoodIn wsX0_ownSetsWith wsX5_bitOf := goodIn_r _ [16] (by decide +kernel) (by decide +kernel)
set_option maxRecDepth 20000 in
theorem gX0_ownSetsWith_X5_bitOf_n54 : GoodIn wsX0_ownSetsWith (wsX5_bitOf) := ggX0_ownSetsWith_X5_bitOf
theorem dX0_ownSetsWith_0 : decode cX0_ownSetsWith 0 = .ok (.iconst 0, 1) := by decide +kernel
theorem dX0_ownSetsWith_1 : decode cX0_ownSetsWith 1 = .ok (.istore_n 2, 1) := by decide +kernel
theorem dX0_ownSetsWith_2 : decode cX0_ownSetsWith 2 = .ok (.iconst 0, 1) := by decide +kernel
theorem dX0_ownSetsWith_3 : decode cX0_ownSetsWith 3 = .ok (.istore_n 3, 1) := by decide +kernel
theorem dX0_ownSetsWith_4 : decode cX0_ownSetsWith 4 = .ok (.iload_n 3, 1) := by decide +kernel
theorem dX0_ownSetsWith_5 : decode cX0_ownSetsWith 5 = .ok (.aload_n 0, 1) := by decide +kernel
theorem dX0_ownSetsWith_6 : decode cX0_ownSetsWith 6 = .ok (.getfield 38, 3) := by decide +kernel
theorem dX0_ownSetsWith_9 : decode cX0_ownSetsWith 9 = .ok (.if_icmp .ge 25, 3) := by decide +kernel
theorem dX0_ownSetsWith_12 : decode cX0_ownSetsWith 12 = .ok (.aload_n 0, 1) := by decide +kernel
theorem dX0_ownSetsWith_13 : decode cX0_ownSetsWith 13 = .ok (.iload_n 3, 1) := by decide +kernel
theorem dX0_ownSetsWith_14 : decode cX0_ownSetsWith 14 = .ok (.invokevirtual 50, 3) := by decide +kernel
theorem dX0_ownSetsWith_17 : decode cX0_ownSetsWith 17 = .ok (.iload_n 1, 1) := by decide +kernel
theorem dX0_ownSetsWith_18 : decode cX0_ownSetsWith 18 = .ok (.invokestatic 54, 3) := by decide +kernel
theorem dX0_ownSetsWith_21 : decode cX0_ownSetsWith 21 = .ok (.iand, 1) := by decide +kernel
theorem dX0_ownSetsWith_22 : decode cX0_ownSetsWith 22 = .ok (.ifCond .eq 6, 3) := by decide +kernel
theorem dX0_ownSetsWith_25 : decode cX0_ownSetsWith 25 = .ok (.iinc 2 1, 3) := by decide +kernel
theorem dX0_ownSetsWith_28 : decode cX0_ownSetsWith 28 = .ok (.iinc 3 1, 3) := by decide +kernel
theorem dX0_ownSetsWith_31 : decode cX0_ownSetsWith 31 = .ok (.goto (-27), 3) := by decide +kernel
theorem dX0_ownSetsWith_34 : decode cX0_ownSetsWith 34 = .ok (.iload_n 2, 1) := by decide +kernel
theorem dX0_ownSetsWith_35 : decode cX0_ownSetsWith 35 = .ok (.ireturn, 1) := by decide +kernel
set_option maxRecDepth 20000 in
theorem ggX0_ownSetsJoined_X0_ownSet : GoodIn wsX0_ownSetsJoined wsX0_ownSet := goodIn_r _ [5, 6, 7, 8, 9, 4, 10, 11, 12, 13, 14, 15, 16, 17, 18, 19, 20, 21, 22, 23] (by decide +kernel) (by decide +kernel)
set_option maxRecDepth 20000 in
theorem gX0_ownSetsJoined_X0_ownSet : GoodIn wsX0_ownSetsJoined (wsV RX0 50 RX0 yX0_ownSet wsX0_ownSet) := goodIn_app (goodIn_of _ (by decide +kernel)) ggX0_ownSetsJoined_X0_ownSet
theorem dX0_ownSetsJoined_0 : decode cX0_ownSetsJoined 0 = .ok (.iconst 0, 1) := by decide +kernel
theorem dX0_ownSetsJoined_1 : decode cX0_ownSetsJoined 1 = .ok (.istore_n 3, 1) := by decide +kernel
theorem dX0_ownSetsJoined_2 : decode cX0_ownSetsJoined 2 = .ok (.iconst 0, 1) := by decide +kernel
theorem dX0_ownSetsJoined_3 : decode cX0_ownSetsJoined 3 = .ok (.istore 4, 2) := by decide +kernel
theorem dX0_ownSetsJoined_5 : decode cX0_ownSetsJoined 5 = .ok (.iload 4, 2) := by decide +kernel
theorem dX0_ownSetsJoined_7 : decode cX0_ownSetsJoined 7 = .ok (.iload_n 2, 1) := by decide +kernel
theorem dX0_ownSetsJoined_8 : decode cX0_ownSetsJoined 8 = .ok (.if_icmp .ge 20, 3) := by decide +kernel
theorem dX0_ownSetsJoined_11 : decode cX0_ownSetsJoined 11 = .ok (.iload_n 3, 1) := by decide +kernel
theorem dX0_ownSetsJoined_12 : decode cX0_ownSetsJoined 12 = .ok (.aload_n 0, 1) := by decide +kernel
theorem dX0_ownSetsJoined_13 : decode cX0_ownSetsJoined 13 = .ok (.iload_n 1, 1) := by decide +kernel
theorem dX0_ownSetsJoined_14 : decode cX0_ownSetsJoined 14 = .ok (.iload 4, 2) := by decide +kernel
theorem dX0_ownSetsJoined_16 : decode cX0_ownSetsJoined 16 = .ok (.iadd, 1) := by decide +kernel
theorem dX0_ownSetsJoined_17 : decode cX0_ownSetsJoined 17 = .ok (.invokevirtual 50, 3) := by decide +kernel
theorem dX0_ownSetsJoined_20 : decode cX0_ownSetsJoined 20 = .ok (.ior, 1) := by decide +kernel
theorem dX0_ownSetsJoined_21 : decode cX0_ownSetsJoined 21 = .ok (.istore_n 3, 1) := by decide +kernel
theorem dX0_ownSetsJoined_22 : decode cX0_ownSetsJoined 22 = .ok (.iinc 4 1, 3) := by decide +kernel
theorem dX0_ownSetsJoined_25 : decode cX0_ownSetsJoined 25 = .ok (.goto (-20), 3) := by decide +kernel
theorem dX0_ownSetsJoined_28 : decode cX0_ownSetsJoined 28 = .ok (.iload_n 3, 1) := by decide +kernel
theorem dX0_ownSetsJoined_29 : decode cX0_ownSetsJoined 29 = .ok (.ireturn, 1) := by decide +kernel
set_option maxRecDepth 20000 in
theorem ggX0_narrowedSet_X0_holds : GoodIn wsX0_narrowedSet wsX0_holds := goodIn_r _ [6, 7, 8, 9, 10, 11, 12, 13, 14, 15, 16, 17, 18, 19] (by decide +kernel) (by decide +kernel)
set_option maxRecDepth 20000 in
theorem gX0_narrowedSet_X0_holds : GoodIn wsX0_narrowedSet (wsV RX0 46 RX0 yX0_holds wsX0_holds) := goodIn_app (goodIn_of _ (by decide +kernel)) ggX0_narrowedSet_X0_holds
theorem dX0_narrowedSet_0 : decode cX0_narrowedSet 0 = .ok (.aload_n 0, 1) := by decide +kernel
theorem dX0_narrowedSet_1 : decode cX0_narrowedSet 1 = .ok (.iload_n 1, 1) := by decide +kernel
theorem dX0_narrowedSet_2 : decode cX0_narrowedSet 2 = .ok (.invokevirtual 46, 3) := by decide +kernel
theorem dX0_narrowedSet_5 : decode cX0_narrowedSet 5 = .ok (.ifCond .eq 12, 3) := by decide +kernel
theorem dX0_narrowedSet_8 : decode cX0_narrowedSet 8 = .ok (.aload_n 0, 1) := by decide +kernel
theorem dX0_narrowedSet_9 : decode cX0_narrowedSet 9 = .ok (.getfield 22, 3) := by decide +kernel
theorem dX0_narrowedSet_12 : decode cX0_narrowedSet 12 = .ok (.iload_n 1, 1) := by decide +kernel
theorem dX0_narrowedSet_13 : decode cX0_narrowedSet 13 = .ok (.iaload, 1) := by decide +kernel
theorem dX0_narrowedSet_14 : decode cX0_narrowedSet 14 = .ok (.goto 4, 3) := by decide +kernel
theorem dX0_narrowedSet_17 : decode cX0_narrowedSet 17 = .ok (.iconst 0, 1) := by decide +kernel
theorem dX0_narrowedSet_18 : decode cX0_narrowedSet 18 = .ok (.ireturn, 1) := by decide +kernel
set_option maxRecDepth 20000 in
theorem ggX0_narrow_X0_ownSet : GoodIn wsX0_narrow wsX0_ownSet := goodIn_r _ [6, 7, 8, 9, 10, 5, 11, 12, 13, 14, 15, 40, 41, 42, 43, 44, 45, 46, 47, 48] (by decide +kernel) (by decide +kernel)
set_option maxRecDepth 20000 in
theorem gX0_narrow_X0_ownSet : GoodIn wsX0_narrow (wsV RX0 50 RX0 yX0_ownSet wsX0_ownSet) := goodIn_app (goodIn_of _ (by decide +kernel)) ggX0_narrow_X0_ownSet
set_option maxRecDepth 20000 in
theorem ggX0_narrow_X0_narrowOnce : GoodIn wsX0_narrow wsX0_narrowOnce := goodIn_r _ [19, 20, 1, 21, 22, 23, 5, 24, 8, 9, 10, 11, 12, 13, 14, 15, 25, 26, 27, 28, 29, 30, 31, 32, 33, 34, 35, 36, 37, 38, 39, 40, 41, 42, 43, 44, 45, 46, 47, 48] (by decide +kernel) (by decide +kernel)
set_option maxRecDepth 20000 in
theorem gX0_narrow_X0_narrowOnce : GoodIn wsX0_narrow (wsV RX0 57 RX0 yX0_narrowOnce wsX0_narrowOnce) := goodIn_app (goodIn_of _ (by decide +kernel)) ggX0_narrow_X0_narrowOnce
theorem dX0_narrow_0 : decode cX0_narrow 0 = .ok (.iconst 0, 1) := by decide +kernel
theorem dX0_narrow_1 : decode cX0_narrow 1 = .ok (.istore_n 1, 1) := by decide +kernel
theorem dX0_narrow_2 : decode cX0_narrow 2 = .ok (.iload_n 1, 1) := by decide +kernel
theorem dX0_narrow_3 : decode cX0_narrow 3 = .ok (.bipush 16, 2) := by decide +kernel
theorem dX0_narrow_5 : decode cX0_narrow 5 = .ok (.if_icmp .ge 20, 3) := by decide +kernel
theorem dX0_narrow_8 : decode cX0_narrow 8 = .ok (.aload_n 0, 1) := by decide +kernel
theorem dX0_narrow_9 : decode cX0_narrow 9 = .ok (.getfield 22, 3) := by decide +kernel
theorem dX0_narrow_12 : decode cX0_narrow 12 = .ok (.iload_n 1, 1) := by decide +kernel
theorem dX0_narrow_13 : decode cX0_narrow 13 = .ok (.aload_n 0, 1) := by decide +kernel
theorem dX0_narrow_14 : decode cX0_narrow 14 = .ok (.iload_n 1, 1) := by decide +kernel
theorem dX0_narrow_15 : decode cX0_narrow 15 = .ok (.invokevirtual 50, 3) := by decide +kernel
theorem dX0_narrow_18 : decode cX0_narrow 18 = .ok (.iastore, 1) := by decide +kernel
theorem dX0_narrow_19 : decode cX0_narrow 19 = .ok (.iinc 1 1, 3) := by decide +kernel
theorem dX0_narrow_22 : decode cX0_narrow 22 = .ok (.goto (-20), 3) := by decide +kernel
theorem dX0_narrow_25 : decode cX0_narrow 25 = .ok (.sipush 129, 3) := by decide +kernel
theorem dX0_narrow_28 : decode cX0_narrow 28 = .ok (.istore_n 1, 1) := by decide +kernel
theorem dX0_narrow_29 : decode cX0_narrow 29 = .ok (.iconst 1, 1) := by decide +kernel
theorem dX0_narrow_30 : decode cX0_narrow 30 = .ok (.istore_n 2, 1) := by decide +kernel
theorem dX0_narrow_31 : decode cX0_narrow 31 = .ok (.iconst 0, 1) := by decide +kernel
theorem dX0_narrow_32 : decode cX0_narrow 32 = .ok (.istore_n 3, 1) := by decide +kernel
theorem dX0_narrow_33 : decode cX0_narrow 33 = .ok (.iload_n 2, 1) := by decide +kernel
theorem dX0_narrow_34 : decode cX0_narrow 34 = .ok (.ifCond .eq 19, 3) := by decide +kernel
theorem dX0_narrow_37 : decode cX0_narrow 37 = .ok (.iload_n 3, 1) := by decide +kernel
theorem dX0_narrow_38 : decode cX0_narrow 38 = .ok (.iload_n 1, 1) := by decide +kernel
theorem dX0_narrow_39 : decode cX0_narrow 39 = .ok (.if_icmp .ge 14, 3) := by decide +kernel
theorem dX0_narrow_42 : decode cX0_narrow 42 = .ok (.aload_n 0, 1) := by decide +kernel
theorem dX0_narrow_43 : decode cX0_narrow 43 = .ok (.invokevirtual 57, 3) := by decide +kernel
theorem dX0_narrow_46 : decode cX0_narrow 46 = .ok (.istore_n 2, 1) := by decide +kernel
theorem dX0_narrow_47 : decode cX0_narrow 47 = .ok (.iinc 3 1, 3) := by decide +kernel
theorem dX0_narrow_50 : decode cX0_narrow 50 = .ok (.goto (-17), 3) := by decide +kernel
theorem dX0_narrow_53 : decode cX0_narrow 53 = .ok (.return_, 1) := by decide +kernel
set_option maxRecDepth 20000 in
theorem ggX0_narrowOnce_X0_earlierSet : GoodIn wsX0_narrowOnce wsX0_earlierSet := goodIn_r _ [7, 1, 8, 9, 10, 6, 11, 12, 13, 14, 15, 31, 32, 33, 34, 35, 36, 37, 38, 39] (by decide +kernel) (by decide +kernel)
set_option maxRecDepth 20000 in
theorem gX0_narrowOnce_X0_earlierSet : GoodIn wsX0_narrowOnce (wsV RX0 61 RX0 yX0_earlierSet wsX0_earlierSet) := goodIn_app (goodIn_of _ (by decide +kernel)) ggX0_narrowOnce_X0_earlierSet
set_option maxRecDepth 20000 in
theorem ggX0_narrowOnce_X0_linkAt : GoodIn wsX0_narrowOnce wsX0_linkAt := goodIn_r _ [19, 20, 8, 9, 10, 6, 11, 12, 13, 14, 15, 31, 32, 33, 34, 35, 36, 37, 38, 39] (by decide +kernel) (by decide +kernel)
set_option maxRecDepth 20000 in
theorem gX0_narrowOnce_X0_linkAt : GoodIn wsX0_narrowOnce (wsV RX0 64 RX0 yX0_linkAt wsX0_linkAt) := goodIn_app (goodIn_of _ (by decide +kernel)) ggX0_narrowOnce_X0_linkAt
set_option maxRecDepth 20000 in
theorem ggX0_narrowOnce_X0_leftBy : GoodIn wsX0_narrowOnce wsX0_leftBy := goodIn_r _ [23, 24, 25, 26, 27, 28, 29, 30] (by decide +kernel) (by decide +kernel)
set_option maxRecDepth 20000 in
theorem gX0_narrowOnce_X0_leftBy : GoodIn wsX0_narrowOnce (va_wsS RX0 67 yX0_leftBy wsX0_leftBy) := goodIn_app (goodIn_of _ (by decide +kernel)) ggX0_narrowOnce_X0_leftBy
theorem dX0_narrowOnce_0 : decode cX0_narrowOnce 0 = .ok (.iconst 0, 1) := by decide +kernel
theorem dX0_narrowOnce_1 : decode cX0_narrowOnce 1 = .ok (.istore_n 1, 1) := by decide +kernel
theorem dX0_narrowOnce_2 : decode cX0_narrowOnce 2 = .ok (.iload_n 1, 1) := by decide +kernel
theorem dX0_narrowOnce_3 : decode cX0_narrowOnce 3 = .ok (.bipush 16, 2) := by decide +kernel
theorem dX0_narrowOnce_5 : decode cX0_narrowOnce 5 = .ok (.if_icmp .ge 21, 3) := by decide +kernel
theorem dX0_narrowOnce_8 : decode cX0_narrowOnce 8 = .ok (.aload_n 0, 1) := by decide +kernel
theorem dX0_narrowOnce_9 : decode cX0_narrowOnce 9 = .ok (.getfield 25, 3) := by decide +kernel
theorem dX0_narrowOnce_12 : decode cX0_narrowOnce 12 = .ok (.iload_n 1, 1) := by decide +kernel
theorem dX0_narrowOnce_13 : decode cX0_narrowOnce 13 = .ok (.aload_n 0, 1) := by decide +kernel
theorem dX0_narrowOnce_14 : decode cX0_narrowOnce 14 = .ok (.getfield 22, 3) := by decide +kernel
theorem dX0_narrowOnce_17 : decode cX0_narrowOnce 17 = .ok (.iload_n 1, 1) := by decide +kernel
theorem dX0_narrowOnce_18 : decode cX0_narrowOnce 18 = .ok (.iaload, 1) := by decide +kernel
theorem dX0_narrowOnce_19 : decode cX0_narrowOnce 19 = .ok (.iastore, 1) := by decide +kernel
theorem dX0_narrowOnce_20 : decode cX0_narrowOnce 20 = .ok (.iinc 1 1, 3) := by decide +kernel
theorem dX0_narrowOnce_23 : decode cX0_narrowOnce 23 = .ok (.goto (-21), 3) := by decide +kernel
theorem dX0_narrowOnce_26 : decode cX0_narrowOnce 26 = .ok (.iconst 0, 1) := by decide +kernel
theorem dX0_narrowOnce_27 : decode cX0_narrowOnce 27 = .ok (.istore_n 1, 1) := by decide +kernel
theorem dX0_narrowOnce_28 : decode cX0_narrowOnce 28 = .ok (.iconst 0, 1) := by decide +kernel
theorem dX0_narrowOnce_29 : decode cX0_narrowOnce 29 = .ok (.istore_n 2, 1) := by decide +kernel
theorem dX0_narrowOnce_30 : decode cX0_narrowOnce 30 = .ok (.iload_n 2, 1) := by decide +kernel
theorem dX0_narrowOnce_31 : decode cX0_narrowOnce 31 = .ok (.bipush 16, 2) := by decide +kernel
theorem dX0_narrowOnce_33 : decode cX0_narrowOnce 33 = .ok (.if_icmp .ge 80, 3) := by decide +kernel
theorem dX0_narrowOnce_36 : decode cX0_narrowOnce 36 = .ok (.aload_n 0, 1) := by decide +kernel
theorem dX0_narrowOnce_37 : decode cX0_narrowOnce 37 = .ok (.getfield 22, 3) := by decide +kernel
theorem dX0_narrowOnce_40 : decode cX0_narrowOnce 40 = .ok (.iload_n 2, 1) := by decide +kernel
theorem dX0_narrowOnce_41 : decode cX0_narrowOnce 41 = .ok (.aload_n 0, 1) := by decide +kernel
theorem dX0_narrowOnce_42 : decode cX0_narrowOnce 42 = .ok (.getfield 25, 3) := by decide +kernel
theorem dX0_narrowOnce_45 : decode cX0_narrowOnce 45 = .ok (.iload_n 2, 1) := by decide +kernel
theorem dX0_narrowOnce_46 : decode cX0_narrowOnce 46 = .ok (.iaload, 1) := by decide +kernel
theorem dX0_narrowOnce_47 : decode cX0_narrowOnce 47 = .ok (.aload_n 0, 1) := by decide +kernel
theorem dX0_narrowOnce_48 : decode cX0_narrowOnce 48 = .ok (.iload_n 2, 1) := by decide +kernel
theorem dX0_narrowOnce_49 : decode cX0_narrowOnce 49 = .ok (.iconst 1, 1) := by decide +kernel
theorem dX0_narrowOnce_50 : decode cX0_narrowOnce 50 = .ok (.isub, 1) := by decide +kernel
theorem dX0_narrowOnce_51 : decode cX0_narrowOnce 51 = .ok (.invokevirtual 61, 3) := by decide +kernel
theorem dX0_narrowOnce_54 : decode cX0_narrowOnce 54 = .ok (.aload_n 0, 1) := by decide +kernel
theorem dX0_narrowOnce_55 : decode cX0_narrowOnce 55 = .ok (.iload_n 2, 1) := by decide +kernel
theorem dX0_narrowOnce_56 : decode cX0_narrowOnce 56 = .ok (.invokevirtual 64, 3) := by decide +kernel
theorem dX0_narrowOnce_59 : decode cX0_narrowOnce 59 = .ok (.invokestatic 67, 3) := by decide +kernel
theorem dX0_narrowOnce_62 : decode cX0_narrowOnce 62 = .ok (.iand, 1) := by decide +kernel
theorem dX0_narrowOnce_63 : decode cX0_narrowOnce 63 = .ok (.aload_n 0, 1) := by decide +kernel
theorem dX0_narrowOnce_64 : decode cX0_narrowOnce 64 = .ok (.iload_n 2, 1) := by decide +kernel
theorem dX0_narrowOnce_65 : decode cX0_narrowOnce 65 = .ok (.iconst 1, 1) := by decide +kernel
theorem dX0_narrowOnce_66 : decode cX0_narrowOnce 66 = .ok (.iadd, 1) := by decide +kernel
theorem dX0_narrowOnce_67 : decode cX0_narrowOnce 67 = .ok (.invokevirtual 61, 3) := by decide +kernel
theorem dX0_narrowOnce_70 : decode cX0_narrowOnce 70 = .ok (.aload_n 0, 1) := by decide +kernel
theorem dX0_narrowOnce_71 : decode cX0_narrowOnce 71 = .ok (.iload_n 2, 1) := by decide +kernel
theorem dX0_narrowOnce_72 : decode cX0_narrowOnce 72 = .ok (.iconst 1, 1) := by decide +kernel
theorem dX0_narrowOnce_73 : decode cX0_narrowOnce 73 = .ok (.iadd, 1) := by decide +kernel
theorem dX0_narrowOnce_74 : decode cX0_narrowOnce 74 = .ok (.invokevirtual 64, 3) := by decide +kernel
theorem dX0_narrowOnce_77 : decode cX0_narrowOnce 77 = .ok (.invokestatic 67, 3) := by decide +kernel
theorem dX0_narrowOnce_80 : decode cX0_narrowOnce 80 = .ok (.iand, 1) := by decide +kernel
theorem dX0_narrowOnce_81 : decode cX0_narrowOnce 81 = .ok (.iastore, 1) := by decide +kernel
theorem dX0_narrowOnce_82 : decode cX0_narrowOnce 82 = .ok (.iload_n 1, 1) := by decide +kernel
theorem dX0_narrowOnce_83 : decode cX0_narrowOnce 83 = .ok (.ifCond .ne 18, 3) := by decide +kernel
theorem dX0_narrowOnce_86 : decode cX0_narrowOnce 86 = .ok (.aload_n 0, 1) := by decide +kernel
theorem dX0_narrowOnce_87 : decode cX0_narrowOnce 87 = .ok (.getfield 22, 3) := by decide +kernel
theorem dX0_narrowOnce_90 : decode cX0_narrowOnce 90 = .ok (.iload_n 2, 1) := by decide +kernel
theorem dX0_narrowOnce_91 : decode cX0_narrowOnce 91 = .ok (.iaload, 1) := by decide +kernel
theorem dX0_narrowOnce_92 : decode cX0_narrowOnce 92 = .ok (.aload_n 0, 1) := by decide +kernel
theorem dX0_narrowOnce_93 : decode cX0_narrowOnce 93 = .ok (.getfield 25, 3) := by decide +kernel
theorem dX0_narrowOnce_96 : decode cX0_narrowOnce 96 = .ok (.iload_n 2, 1) := by decide +kernel
theorem dX0_narrowOnce_97 : decode cX0_narrowOnce 97 = .ok (.iaload, 1) := by decide +kernel
theorem dX0_narrowOnce_98 : decode cX0_narrowOnce 98 = .ok (.if_icmp .eq 7, 3) := by decide +kernel
theorem dX0_narrowOnce_101 : decode cX0_narrowOnce 101 = .ok (.iconst 1, 1) := by decide +kernel
theorem dX0_narrowOnce_102 : decode cX0_narrowOnce 102 = .ok (.goto 4, 3) := by decide +kernel
theorem dX0_narrowOnce_105 : decode cX0_narrowOnce 105 = .ok (.iconst 0, 1) := by decide +kernel
theorem dX0_narrowOnce_106 : decode cX0_narrowOnce 106 = .ok (.istore_n 1, 1) := by decide +kernel
theorem dX0_narrowOnce_107 : decode cX0_narrowOnce 107 = .ok (.iinc 2 1, 3) := by decide +kernel
theorem dX0_narrowOnce_110 : decode cX0_narrowOnce 110 = .ok (.goto (-80), 3) := by decide +kernel
theorem dX0_narrowOnce_113 : decode cX0_narrowOnce 113 = .ok (.iload_n 1, 1) := by decide +kernel
theorem dX0_narrowOnce_114 : decode cX0_narrowOnce 114 = .ok (.ireturn, 1) := by decide +kernel
set_option maxRecDepth 20000 in
theorem ggX0_earlierSet_X0_holds : GoodIn wsX0_earlierSet wsX0_holds := goodIn_r _ [6, 7, 8, 9, 10, 11, 12, 13, 14, 15, 16, 17, 18, 19] (by decide +kernel) (by decide +kernel)
set_option maxRecDepth 20000 in
theorem gX0_earlierSet_X0_holds : GoodIn wsX0_earlierSet (wsV RX0 46 RX0 yX0_holds wsX0_holds) := goodIn_app (goodIn_of _ (by decide +kernel)) ggX0_earlierSet_X0_holds
theorem dX0_earlierSet_0 : decode cX0_earlierSet 0 = .ok (.aload_n 0, 1) := by decide +kernel
theorem dX0_earlierSet_1 : decode cX0_earlierSet 1 = .ok (.iload_n 1, 1) := by decide +kernel
theorem dX0_earlierSet_2 : decode cX0_earlierSet 2 = .ok (.invokevirtual 46, 3) := by decide +kernel
theorem dX0_earlierSet_5 : decode cX0_earlierSet 5 = .ok (.ifCond .eq 12, 3) := by decide +kernel
theorem dX0_earlierSet_8 : decode cX0_earlierSet 8 = .ok (.aload_n 0, 1) := by decide +kernel
theorem dX0_earlierSet_9 : decode cX0_earlierSet 9 = .ok (.getfield 25, 3) := by decide +kernel
theorem dX0_earlierSet_12 : decode cX0_earlierSet 12 = .ok (.iload_n 1, 1) := by decide +kernel
theorem dX0_earlierSet_13 : decode cX0_earlierSet 13 = .ok (.iaload, 1) := by decide +kernel
theorem dX0_earlierSet_14 : decode cX0_earlierSet 14 = .ok (.goto 4, 3) := by decide +kernel
theorem dX0_earlierSet_17 : decode cX0_earlierSet 17 = .ok (.iconst 0, 1) := by decide +kernel
theorem dX0_earlierSet_18 : decode cX0_earlierSet 18 = .ok (.ireturn, 1) := by decide +kernel
set_option maxRecDepth 20000 in
theorem ggX0_leftBy_J6_bitCount_0f7a4 : GoodIn wsX0_leftBy wsJ6_bitCount_0f7a4 := goodIn_r _ [4, 5, 6, 7] (by decide +kernel) (by decide +kernel)
set_option maxRecDepth 20000 in
theorem gX0_leftBy_J6_bitCount_0f7a4 : GoodIn wsX0_leftBy (va_wsS RX0 71 yJ6_bitCount_0f7a4 wsJ6_bitCount_0f7a4) := goodIn_app (goodIn_of _ (by decide +kernel)) ggX0_leftBy_J6_bitCount_0f7a4
theorem dX0_leftBy_0 : decode cX0_leftBy 0 = .ok (.iload_n 1, 1) := by decide +kernel
theorem dX0_leftBy_1 : decode cX0_leftBy 1 = .ok (.iconst 1, 1) := by decide +kernel
theorem dX0_leftBy_2 : decode cX0_leftBy 2 = .ok (.if_icmp .ne 5, 3) := by decide +kernel
theorem dX0_leftBy_5 : decode cX0_leftBy 5 = .ok (.iload_n 0, 1) := by decide +kernel
theorem dX0_leftBy_6 : decode cX0_leftBy 6 = .ok (.ireturn, 1) := by decide +kernel
theorem dX0_leftBy_7 : decode cX0_leftBy 7 = .ok (.iload_n 1, 1) := by decide +kernel
theorem dX0_leftBy_8 : decode cX0_leftBy 8 = .ok (.iconst 2, 1) := by decide +kernel
theorem dX0_leftBy_9 : decode cX0_leftBy 9 = .ok (.if_icmp .ne 15, 3) := by decide +kernel
theorem dX0_leftBy_12 : decode cX0_leftBy 12 = .ok (.iload_n 0, 1) := by decide +kernel
theorem dX0_leftBy_13 : decode cX0_leftBy 13 = .ok (.invokestatic 71, 3) := by decide +kernel
theorem dX0_leftBy_16 : decode cX0_leftBy 16 = .ok (.iconst 1, 1) := by decide +kernel
theorem dX0_leftBy_17 : decode cX0_leftBy 17 = .ok (.if_icmp .ne 7, 3) := by decide +kernel
theorem dX0_leftBy_20 : decode cX0_leftBy 20 = .ok (.iconst 1, 1) := by decide +kernel
theorem dX0_leftBy_21 : decode cX0_leftBy 21 = .ok (.goto 4, 3) := by decide +kernel
theorem dX0_leftBy_24 : decode cX0_leftBy 24 = .ok (.iconst 0, 1) := by decide +kernel
theorem dX0_leftBy_25 : decode cX0_leftBy 25 = .ok (.istore_n 2, 1) := by decide +kernel
theorem dX0_leftBy_26 : decode cX0_leftBy 26 = .ok (.iload_n 2, 1) := by decide +kernel
theorem dX0_leftBy_27 : decode cX0_leftBy 27 = .ok (.ifCond .eq 13, 3) := by decide +kernel
theorem dX0_leftBy_30 : decode cX0_leftBy 30 = .ok (.sipush 255, 3) := by decide +kernel
theorem dX0_leftBy_33 : decode cX0_leftBy 33 = .ok (.iload_n 0, 1) := by decide +kernel
theorem dX0_leftBy_34 : decode cX0_leftBy 34 = .ok (.iconst (-1), 1) := by decide +kernel
theorem dX0_leftBy_35 : decode cX0_leftBy 35 = .ok (.ixor, 1) := by decide +kernel
theorem dX0_leftBy_36 : decode cX0_leftBy 36 = .ok (.iand, 1) := by decide +kernel
theorem dX0_leftBy_37 : decode cX0_leftBy 37 = .ok (.goto 6, 3) := by decide +kernel
theorem dX0_leftBy_40 : decode cX0_leftBy 40 = .ok (.sipush 255, 3) := by decide +kernel
theorem dX0_leftBy_43 : decode cX0_leftBy 43 = .ok (.ireturn, 1) := by decide +kernel
set_option maxRecDepth 20000 in
theorem ggX0_countWays_X0_linkAt : GoodIn wsX0_countWays wsX0_linkAt := goodIn_r _ [8, 9, 10, 11, 12, 7, 13, 1, 14, 15, 16, 48, 49, 50, 51, 52, 53, 54, 55, 56] (by decide +kernel) (by decide +kernel)
set_option maxRecDepth 20000 in
theorem gX0_countWays_X0_linkAt : GoodIn wsX0_countWays (wsV RX0 64 RX0 yX0_linkAt wsX0_linkAt) := goodIn_app (goodIn_of _ (by decide +kernel)) ggX0_countWays_X0_linkAt
set_option maxRecDepth 20000 in
theorem ggX0_countWays_X0_stepOver : GoodIn wsX0_countWays wsX0_stepOver := goodIn_r _ [20, 21, 10, 11, 12, 7, 13, 1, 14, 15, 16, 22, 23, 24, 25, 26, 27, 28, 29, 30, 31, 32, 33, 34, 48, 49, 50, 51, 52, 53, 54, 55, 56] (by decide +kernel) (by decide +kernel)
set_option maxRecDepth 20000 in
theorem gX0_countWays_X0_stepOver : GoodIn wsX0_countWays (wsV RX0 76 RX0 yX0_stepOver wsX0_stepOver) := goodIn_app (goodIn_of _ (by decide +kernel)) ggX0_countWays_X0_stepOver
set_option maxRecDepth 20000 in
theorem ggX0_countWays_X0_waysWithin : GoodIn wsX0_countWays wsX0_waysWithin := goodIn_r _ [38, 39, 4, 5, 6, 7, 8, 9, 10, 11, 12, 13, 1, 14, 15, 16, 17, 18, 19, 20, 21, 22, 23, 24, 25, 26, 27, 28, 29, 30, 31, 32, 33, 34, 48, 49, 50, 51, 52, 53, 54, 55, 56] (by decide +kernel) (by decide +kernel)
set_option maxRecDepth 20000 in
theorem gX0_countWays_X0_waysWithin : GoodIn wsX0_countWays (wsV RX0 80 RX0 yX0_waysWithin wsX0_waysWithin) := goodIn_app (goodIn_of _ (by decide +kernel)) ggX0_countWays_X0_waysWithin
set_option maxRecDepth 20000 in
theorem ggX0_countWays_X0_setThrough : GoodIn wsX0_countWays wsX0_setThrough := goodIn_r _ [43, 44, 45, 46, 7, 47, 21, 39, 2, 10, 11, 12, 13, 1, 14, 15, 16, 29, 30, 31, 27, 28, 48, 49, 50, 51, 52, 53, 54, 55, 56] (by decide +kernel) (by decide +kernel)
set_option maxRecDepth 20000 in
theorem gX0_countWays_X0_setThrough : GoodIn wsX0_countWays (wsV RX0 84 RX0 yX0_setThrough wsX0_setThrough) := goodIn_app (goodIn_of _ (by decide +kernel)) ggX0_countWays_X0_setThrough
theorem dX0_countWays_0 : decode cX0_countWays 0 = .ok (.lconst 1, 1) := by decide +kernel
theorem dX0_countWays_1 : decode cX0_countWays 1 = .ok (.lstore_n 1, 1) := by decide +kernel
theorem dX0_countWays_2 : decode cX0_countWays 2 = .ok (.aload_n 0, 1) := by decide +kernel
theorem dX0_countWays_3 : decode cX0_countWays 3 = .ok (.getfield 38, 3) := by decide +kernel
theorem dX0_countWays_6 : decode cX0_countWays 6 = .ok (.iconst 1, 1) := by decide +kernel
theorem dX0_countWays_7 : decode cX0_countWays 7 = .ok (.isub, 1) := by decide +kernel
theorem dX0_countWays_8 : decode cX0_countWays 8 = .ok (.istore_n 3, 1) := by decide +kernel
theorem dX0_countWays_9 : decode cX0_countWays 9 = .ok (.iload_n 3, 1) := by decide +kernel
theorem dX0_countWays_10 : decode cX0_countWays 10 = .ok (.ifCond .lt 30, 3) := by decide +kernel
theorem dX0_countWays_13 : decode cX0_countWays 13 = .ok (.aload_n 0, 1) := by decide +kernel
theorem dX0_countWays_14 : decode cX0_countWays 14 = .ok (.aload_n 0, 1) := by decide +kernel
theorem dX0_countWays_15 : decode cX0_countWays 15 = .ok (.getfield 32, 3) := by decide +kernel
theorem dX0_countWays_18 : decode cX0_countWays 18 = .ok (.iload_n 3, 1) := by decide +kernel
theorem dX0_countWays_19 : decode cX0_countWays 19 = .ok (.iload_n 3, 1) := by decide +kernel
theorem dX0_countWays_20 : decode cX0_countWays 20 = .ok (.iconst 1, 1) := by decide +kernel
theorem dX0_countWays_21 : decode cX0_countWays 21 = .ok (.iadd, 1) := by decide +kernel
theorem dX0_countWays_22 : decode cX0_countWays 22 = .ok (.aload_n 0, 1) := by decide +kernel
theorem dX0_countWays_23 : decode cX0_countWays 23 = .ok (.iload_n 3, 1) := by decide +kernel
theorem dX0_countWays_24 : decode cX0_countWays 24 = .ok (.iconst 1, 1) := by decide +kernel
theorem dX0_countWays_25 : decode cX0_countWays 25 = .ok (.iadd, 1) := by decide +kernel
theorem dX0_countWays_26 : decode cX0_countWays 26 = .ok (.invokevirtual 64, 3) := by decide +kernel
theorem dX0_countWays_29 : decode cX0_countWays 29 = .ok (.lload_n 1, 1) := by decide +kernel
theorem dX0_countWays_30 : decode cX0_countWays 30 = .ok (.invokevirtual 76, 3) := by decide +kernel
theorem dX0_countWays_33 : decode cX0_countWays 33 = .ok (.lstore_n 1, 1) := by decide +kernel
theorem dX0_countWays_34 : decode cX0_countWays 34 = .ok (.iinc 3 (-1), 3) := by decide +kernel
theorem dX0_countWays_37 : decode cX0_countWays 37 = .ok (.goto (-28), 3) := by decide +kernel
theorem dX0_countWays_40 : decode cX0_countWays 40 = .ok (.aload_n 0, 1) := by decide +kernel
theorem dX0_countWays_41 : decode cX0_countWays 41 = .ok (.iconst 0, 1) := by decide +kernel
theorem dX0_countWays_42 : decode cX0_countWays 42 = .ok (.aload_n 0, 1) := by decide +kernel
theorem dX0_countWays_43 : decode cX0_countWays 43 = .ok (.getfield 38, 3) := by decide +kernel
theorem dX0_countWays_46 : decode cX0_countWays 46 = .ok (.iconst 1, 1) := by decide +kernel
theorem dX0_countWays_47 : decode cX0_countWays 47 = .ok (.isub, 1) := by decide +kernel
theorem dX0_countWays_48 : decode cX0_countWays 48 = .ok (.invokevirtual 80, 3) := by decide +kernel
theorem dX0_countWays_51 : decode cX0_countWays 51 = .ok (.lstore_n 3, 1) := by decide +kernel
theorem dX0_countWays_52 : decode cX0_countWays 52 = .ok (.iconst 0, 1) := by decide +kernel
theorem dX0_countWays_53 : decode cX0_countWays 53 = .ok (.istore 5, 2) := by decide +kernel
theorem dX0_countWays_55 : decode cX0_countWays 55 = .ok (.iload 5, 2) := by decide +kernel
theorem dX0_countWays_57 : decode cX0_countWays 57 = .ok (.bipush 16, 2) := by decide +kernel
theorem dX0_countWays_59 : decode cX0_countWays 59 = .ok (.if_icmp .ge 22, 3) := by decide +kernel
theorem dX0_countWays_62 : decode cX0_countWays 62 = .ok (.aload_n 0, 1) := by decide +kernel
theorem dX0_countWays_63 : decode cX0_countWays 63 = .ok (.getfield 35, 3) := by decide +kernel
theorem dX0_countWays_66 : decode cX0_countWays 66 = .ok (.iload 5, 2) := by decide +kernel
theorem dX0_countWays_68 : decode cX0_countWays 68 = .ok (.aload_n 0, 1) := by decide +kernel
theorem dX0_countWays_69 : decode cX0_countWays 69 = .ok (.iload 5, 2) := by decide +kernel
theorem dX0_countWays_71 : decode cX0_countWays 71 = .ok (.invokevirtual 84, 3) := by decide +kernel
theorem dX0_countWays_74 : decode cX0_countWays 74 = .ok (.iastore, 1) := by decide +kernel
theorem dX0_countWays_75 : decode cX0_countWays 75 = .ok (.iinc 5 1, 3) := by decide +kernel
theorem dX0_countWays_78 : decode cX0_countWays 78 = .ok (.goto (-23), 3) := by decide +kernel
theorem dX0_countWays_81 : decode cX0_countWays 81 = .ok (.lload_n 3, 1) := by decide +kernel
theorem dX0_countWays_82 : decode cX0_countWays 82 = .ok (.lreturn, 1) := by decide +kernel
set_option maxRecDepth 20000 in
theorem ggX0_waysWithin_X0_linkAt : GoodIn wsX0_waysWithin wsX0_linkAt := goodIn_r _ [6, 7, 8, 9, 10, 5, 11, 12, 13, 14, 15, 34, 35, 36, 37, 38, 39, 40, 41, 42] (by decide +kernel) (by decide +kernel)
set_option maxRecDepth 20000 in
theorem gX0_waysWithin_X0_linkAt : GoodIn wsX0_waysWithin (wsV RX0 64 RX0 yX0_linkAt wsX0_linkAt) := goodIn_app (goodIn_of _ (by decide +kernel)) ggX0_waysWithin_X0_linkAt
set_option maxRecDepth 20000 in
theorem ggX0_waysWithin_X0_stepOver : GoodIn wsX0_waysWithin wsX0_stepOver := goodIn_r _ [19, 20, 8, 9, 10, 5, 11, 12, 13, 14, 15, 21, 22, 23, 24, 25, 26, 27, 28, 29, 30, 31, 32, 33, 34, 35, 36, 37, 38, 39, 40, 41, 42] (by decide +kernel) (by decide +kernel)
set_option maxRecDepth 20000 in
theorem gX0_waysWithin_X0_stepOver : GoodIn wsX0_waysWithin (wsV RX0 76 RX0 yX0_stepOver wsX0_stepOver) := goodIn_app (goodIn_of _ (by decide +kernel)) ggX0_waysWithin_X0_stepOver
theorem dX0_waysWithin_0 : decode cX0_waysWithin 0 = .ok (.lconst 1, 1) := by decide +kernel
theorem dX0_waysWithin_1 : decode cX0_waysWithin 1 = .ok (.lstore_n 3, 1) := by decide +kernel
theorem dX0_waysWithin_2 : decode cX0_waysWithin 2 = .ok (.iload_n 1, 1) := by decide +kernel
theorem dX0_waysWithin_3 : decode cX0_waysWithin 3 = .ok (.istore 5, 2) := by decide +kernel
theorem dX0_waysWithin_5 : decode cX0_waysWithin 5 = .ok (.iload 5, 2) := by decide +kernel
theorem dX0_waysWithin_7 : decode cX0_waysWithin 7 = .ok (.iload_n 2, 1) := by decide +kernel
theorem dX0_waysWithin_8 : decode cX0_waysWithin 8 = .ok (.if_icmp .gt 45, 3) := by decide +kernel
theorem dX0_waysWithin_11 : decode cX0_waysWithin 11 = .ok (.iload 5, 2) := by decide +kernel
theorem dX0_waysWithin_13 : decode cX0_waysWithin 13 = .ok (.iload_n 1, 1) := by decide +kernel
theorem dX0_waysWithin_14 : decode cX0_waysWithin 14 = .ok (.if_icmp .ne 7, 3) := by decide +kernel
theorem dX0_waysWithin_17 : decode cX0_waysWithin 17 = .ok (.iconst 0, 1) := by decide +kernel
theorem dX0_waysWithin_18 : decode cX0_waysWithin 18 = .ok (.goto 9, 3) := by decide +kernel
theorem dX0_waysWithin_21 : decode cX0_waysWithin 21 = .ok (.aload_n 0, 1) := by decide +kernel
theorem dX0_waysWithin_22 : decode cX0_waysWithin 22 = .ok (.iload 5, 2) := by decide +kernel
theorem dX0_waysWithin_24 : decode cX0_waysWithin 24 = .ok (.invokevirtual 64, 3) := by decide +kernel
theorem dX0_waysWithin_27 : decode cX0_waysWithin 27 = .ok (.istore 6, 2) := by decide +kernel
theorem dX0_waysWithin_29 : decode cX0_waysWithin 29 = .ok (.aload_n 0, 1) := by decide +kernel
theorem dX0_waysWithin_30 : decode cX0_waysWithin 30 = .ok (.aload_n 0, 1) := by decide +kernel
theorem dX0_waysWithin_31 : decode cX0_waysWithin 31 = .ok (.getfield 28, 3) := by decide +kernel
theorem dX0_waysWithin_34 : decode cX0_waysWithin 34 = .ok (.iload 5, 2) := by decide +kernel
theorem dX0_waysWithin_36 : decode cX0_waysWithin 36 = .ok (.iload 5, 2) := by decide +kernel
theorem dX0_waysWithin_38 : decode cX0_waysWithin 38 = .ok (.iconst 1, 1) := by decide +kernel
theorem dX0_waysWithin_39 : decode cX0_waysWithin 39 = .ok (.isub, 1) := by decide +kernel
theorem dX0_waysWithin_40 : decode cX0_waysWithin 40 = .ok (.iload 6, 2) := by decide +kernel
theorem dX0_waysWithin_42 : decode cX0_waysWithin 42 = .ok (.lload_n 3, 1) := by decide +kernel
theorem dX0_waysWithin_43 : decode cX0_waysWithin 43 = .ok (.invokevirtual 76, 3) := by decide +kernel
theorem dX0_waysWithin_46 : decode cX0_waysWithin 46 = .ok (.lstore_n 3, 1) := by decide +kernel
theorem dX0_waysWithin_47 : decode cX0_waysWithin 47 = .ok (.iinc 5 1, 3) := by decide +kernel
theorem dX0_waysWithin_50 : decode cX0_waysWithin 50 = .ok (.goto (-45), 3) := by decide +kernel
theorem dX0_waysWithin_53 : decode cX0_waysWithin 53 = .ok (.lload_n 3, 1) := by decide +kernel
theorem dX0_waysWithin_54 : decode cX0_waysWithin 54 = .ok (.lreturn, 1) := by decide +kernel
set_option maxRecDepth 20000 in
theorem ggX0_stepOver_X0_holds : GoodIn wsX0_stepOver wsX0_holds := goodIn_r _ [6, 7, 8, 9, 10, 24, 25, 26, 27, 28, 29, 30, 31, 32] (by decide +kernel) (by decide +kernel)
set_option maxRecDepth 20000 in
theorem gX0_stepOver_X0_holds : GoodIn wsX0_stepOver (wsV RX0 46 RX0 yX0_holds wsX0_holds) := goodIn_app (goodIn_of _ (by decide +kernel)) ggX0_stepOver_X0_holds
set_option maxRecDepth 20000 in
theorem ggX0_stepOver_X0_ownSet : GoodIn wsX0_stepOver wsX0_ownSet := goodIn_r _ [14, 15, 2, 3, 4, 5, 6, 7, 8, 9, 10, 24, 25, 26, 27, 28, 29, 30, 31, 32] (by decide +kernel) (by decide +kernel)
set_option maxRecDepth 20000 in
theorem gX0_stepOver_X0_ownSet : GoodIn wsX0_stepOver (wsV RX0 50 RX0 yX0_ownSet wsX0_ownSet) := goodIn_app (goodIn_of _ (by decide +kernel)) ggX0_stepOver_X0_ownSet
set_option maxRecDepth 20000 in
theorem ggX0_stepOver_X5_bitOf : GoodIn wsX0_stepOver wsX5_bitOf := goodIn_r _ [17] (by decide +kernel) (by decide +kernel)
set_option maxRecDepth 20000 in
theorem gX0_stepOver_X5_bitOf_n54 : GoodIn wsX0_stepOver (wsX5_bitOf) := ggX0_stepOver_X5_bitOf
set_option maxRecDepth 20000 in
theorem ggX0_stepOver_X0_countAt : GoodIn wsX0_stepOver wsX0_countAt := goodIn_r _ [20, 8, 9, 10] (by decide +kernel) (by decide +kernel)
set_option maxRecDepth 20000 in
theorem gX0_stepOver_X0_countAt : GoodIn wsX0_stepOver (va_wsS RX0 87 yX0_countAt wsX0_countAt) := goodIn_app (goodIn_of _ (by decide +kernel)) ggX0_stepOver_X0_countAt
set_option maxRecDepth 20000 in
theorem ggX0_stepOver_X0_fitting : GoodIn wsX0_stepOver wsX0_fitting := goodIn_r _ [23] (by decide +kernel) (by decide +kernel)
set_option maxRecDepth 20000 in
theorem gX0_stepOver_X0_fitting : GoodIn wsX0_stepOver (va_wsS RX0 91 yX0_fitting wsX0_fitting) := goodIn_app (goodIn_of _ (by decide +kernel)) ggX0_stepOver_X0_fitting
set_option maxRecDepth 20000 in
theorem ggX0_stepOver_X5_isWithin : GoodIn wsX0_stepOver wsX5_isWithin := goodIn_r _ [10] (by decide +kernel) (by decide +kernel)
set_option maxRecDepth 20000 in
theorem gX0_stepOver_X5_isWithin_n42 : GoodIn wsX0_stepOver (wsX5_isWithin) := ggX0_stepOver_X5_isWithin
theorem dX0_stepOver_0 : decode cX0_stepOver 0 = .ok (.aload_n 0, 1) := by decide +kernel
theorem dX0_stepOver_1 : decode cX0_stepOver 1 = .ok (.iload_n 2, 1) := by decide +kernel
theorem dX0_stepOver_2 : decode cX0_stepOver 2 = .ok (.invokevirtual 46, 3) := by decide +kernel
theorem dX0_stepOver_5 : decode cX0_stepOver 5 = .ok (.ifCond .eq 12, 3) := by decide +kernel
theorem dX0_stepOver_8 : decode cX0_stepOver 8 = .ok (.aload_n 0, 1) := by decide +kernel
theorem dX0_stepOver_9 : decode cX0_stepOver 9 = .ok (.getfield 9, 3) := by decide +kernel
theorem dX0_stepOver_12 : decode cX0_stepOver 12 = .ok (.iload_n 2, 1) := by decide +kernel
theorem dX0_stepOver_13 : decode cX0_stepOver 13 = .ok (.baload, 1) := by decide +kernel
theorem dX0_stepOver_14 : decode cX0_stepOver 14 = .ok (.ifCond .ne 6, 3) := by decide +kernel
theorem dX0_stepOver_17 : decode cX0_stepOver 17 = .ok (.lload 5, 2) := by decide +kernel
theorem dX0_stepOver_19 : decode cX0_stepOver 19 = .ok (.lreturn, 1) := by decide +kernel
theorem dX0_stepOver_20 : decode cX0_stepOver 20 = .ok (.lconst 0, 1) := by decide +kernel
theorem dX0_stepOver_21 : decode cX0_stepOver 21 = .ok (.lstore 7, 2) := by decide +kernel
theorem dX0_stepOver_23 : decode cX0_stepOver 23 = .ok (.iconst 0, 1) := by decide +kernel
theorem dX0_stepOver_24 : decode cX0_stepOver 24 = .ok (.istore 9, 2) := by decide +kernel
theorem dX0_stepOver_26 : decode cX0_stepOver 26 = .ok (.iload 9, 2) := by decide +kernel
theorem dX0_stepOver_28 : decode cX0_stepOver 28 = .ok (.bipush 8, 2) := by decide +kernel
theorem dX0_stepOver_30 : decode cX0_stepOver 30 = .ok (.if_icmp .ge 74, 3) := by decide +kernel
theorem dX0_stepOver_33 : decode cX0_stepOver 33 = .ok (.lconst 0, 1) := by decide +kernel
theorem dX0_stepOver_34 : decode cX0_stepOver 34 = .ok (.lstore 10, 2) := by decide +kernel
theorem dX0_stepOver_36 : decode cX0_stepOver 36 = .ok (.aload_n 0, 1) := by decide +kernel
theorem dX0_stepOver_37 : decode cX0_stepOver 37 = .ok (.iload_n 2, 1) := by decide +kernel
theorem dX0_stepOver_38 : decode cX0_stepOver 38 = .ok (.invokevirtual 50, 3) := by decide +kernel
theorem dX0_stepOver_41 : decode cX0_stepOver 41 = .ok (.iload 9, 2) := by decide +kernel
theorem dX0_stepOver_43 : decode cX0_stepOver 43 = .ok (.invokestatic 54, 3) := by decide +kernel
theorem dX0_stepOver_46 : decode cX0_stepOver 46 = .ok (.iand, 1) := by decide +kernel
theorem dX0_stepOver_47 : decode cX0_stepOver 47 = .ok (.ifCond .eq 19, 3) := by decide +kernel
theorem dX0_stepOver_50 : decode cX0_stepOver 50 = .ok (.aload_n 1, 1) := by decide +kernel
theorem dX0_stepOver_51 : decode cX0_stepOver 51 = .ok (.iload_n 3, 1) := by decide +kernel
theorem dX0_stepOver_52 : decode cX0_stepOver 52 = .ok (.iload 9, 2) := by decide +kernel
theorem dX0_stepOver_54 : decode cX0_stepOver 54 = .ok (.invokestatic 87, 3) := by decide +kernel
theorem dX0_stepOver_57 : decode cX0_stepOver 57 = .ok (.iload 4, 2) := by decide +kernel
theorem dX0_stepOver_59 : decode cX0_stepOver 59 = .ok (.lload 5, 2) := by decide +kernel
theorem dX0_stepOver_61 : decode cX0_stepOver 61 = .ok (.invokestatic 91, 3) := by decide +kernel
theorem dX0_stepOver_64 : decode cX0_stepOver 64 = .ok (.lstore 10, 2) := by decide +kernel
theorem dX0_stepOver_66 : decode cX0_stepOver 66 = .ok (.iload_n 2, 1) := by decide +kernel
theorem dX0_stepOver_67 : decode cX0_stepOver 67 = .ok (.bipush 8, 2) := by decide +kernel
theorem dX0_stepOver_69 : decode cX0_stepOver 69 = .ok (.imul, 1) := by decide +kernel
theorem dX0_stepOver_70 : decode cX0_stepOver 70 = .ok (.iload 9, 2) := by decide +kernel
theorem dX0_stepOver_72 : decode cX0_stepOver 72 = .ok (.iadd, 1) := by decide +kernel
theorem dX0_stepOver_73 : decode cX0_stepOver 73 = .ok (.istore 12, 2) := by decide +kernel
theorem dX0_stepOver_75 : decode cX0_stepOver 75 = .ok (.iload 12, 2) := by decide +kernel
theorem dX0_stepOver_77 : decode cX0_stepOver 77 = .ok (.aload_n 1, 1) := by decide +kernel
theorem dX0_stepOver_78 : decode cX0_stepOver 78 = .ok (.arraylength, 1) := by decide +kernel
theorem dX0_stepOver_79 : decode cX0_stepOver 79 = .ok (.invokestatic 42, 3) := by decide +kernel
theorem dX0_stepOver_82 : decode cX0_stepOver 82 = .ok (.ifCond .eq 9, 3) := by decide +kernel
theorem dX0_stepOver_85 : decode cX0_stepOver 85 = .ok (.aload_n 1, 1) := by decide +kernel
theorem dX0_stepOver_86 : decode cX0_stepOver 86 = .ok (.iload 12, 2) := by decide +kernel
theorem dX0_stepOver_88 : decode cX0_stepOver 88 = .ok (.lload 10, 2) := by decide +kernel
theorem dX0_stepOver_90 : decode cX0_stepOver 90 = .ok (.lastore, 1) := by decide +kernel
theorem dX0_stepOver_91 : decode cX0_stepOver 91 = .ok (.lload 7, 2) := by decide +kernel
theorem dX0_stepOver_93 : decode cX0_stepOver 93 = .ok (.lload 10, 2) := by decide +kernel
theorem dX0_stepOver_95 : decode cX0_stepOver 95 = .ok (.ladd, 1) := by decide +kernel
theorem dX0_stepOver_96 : decode cX0_stepOver 96 = .ok (.lstore 7, 2) := by decide +kernel
theorem dX0_stepOver_98 : decode cX0_stepOver 98 = .ok (.iinc 9 1, 3) := by decide +kernel
theorem dX0_stepOver_101 : decode cX0_stepOver 101 = .ok (.goto (-75), 3) := by decide +kernel
theorem dX0_stepOver_104 : decode cX0_stepOver 104 = .ok (.lload 7, 2) := by decide +kernel
theorem dX0_stepOver_106 : decode cX0_stepOver 106 = .ok (.lreturn, 1) := by decide +kernel
theorem dX0_fitting_0 : decode cX0_fitting 0 = .ok (.iload_n 2, 1) := by decide +kernel
theorem dX0_fitting_1 : decode cX0_fitting 1 = .ok (.lookupswitch 33 #[(1, 27), (2, 29)], 27) := by decide +kernel
theorem dX0_fitting_28 : decode cX0_fitting 28 = .ok (.lload_n 0, 1) := by decide +kernel
theorem dX0_fitting_29 : decode cX0_fitting 29 = .ok (.lreturn, 1) := by decide +kernel
theorem dX0_fitting_30 : decode cX0_fitting 30 = .ok (.lload_n 3, 1) := by decide +kernel
theorem dX0_fitting_31 : decode cX0_fitting 31 = .ok (.lload_n 0, 1) := by decide +kernel
theorem dX0_fitting_32 : decode cX0_fitting 32 = .ok (.lsub, 1) := by decide +kernel
theorem dX0_fitting_33 : decode cX0_fitting 33 = .ok (.lreturn, 1) := by decide +kernel
theorem dX0_fitting_34 : decode cX0_fitting 34 = .ok (.lload_n 3, 1) := by decide +kernel
theorem dX0_fitting_35 : decode cX0_fitting 35 = .ok (.lreturn, 1) := by decide +kernel
set_option maxRecDepth 20000 in
theorem ggX0_countAt_X5_isWithin : GoodIn wsX0_countAt wsX5_isWithin := goodIn_r _ [3] (by decide +kernel) (by decide +kernel)
set_option maxRecDepth 20000 in
theorem gX0_countAt_X5_isWithin_n42 : GoodIn wsX0_countAt (wsX5_isWithin) := ggX0_countAt_X5_isWithin
theorem dX0_countAt_0 : decode cX0_countAt 0 = .ok (.iload_n 1, 1) := by decide +kernel
theorem dX0_countAt_1 : decode cX0_countAt 1 = .ok (.bipush 8, 2) := by decide +kernel
theorem dX0_countAt_3 : decode cX0_countAt 3 = .ok (.imul, 1) := by decide +kernel
theorem dX0_countAt_4 : decode cX0_countAt 4 = .ok (.iload_n 2, 1) := by decide +kernel
theorem dX0_countAt_5 : decode cX0_countAt 5 = .ok (.iadd, 1) := by decide +kernel
theorem dX0_countAt_6 : decode cX0_countAt 6 = .ok (.istore_n 3, 1) := by decide +kernel
theorem dX0_countAt_7 : decode cX0_countAt 7 = .ok (.iload_n 2, 1) := by decide +kernel
theorem dX0_countAt_8 : decode cX0_countAt 8 = .ok (.bipush 8, 2) := by decide +kernel
theorem dX0_countAt_10 : decode cX0_countAt 10 = .ok (.invokestatic 42, 3) := by decide +kernel
theorem dX0_countAt_13 : decode cX0_countAt 13 = .ok (.ifCond .eq 18, 3) := by decide +kernel
theorem dX0_countAt_16 : decode cX0_countAt 16 = .ok (.iload_n 3, 1) := by decide +kernel
theorem dX0_countAt_17 : decode cX0_countAt 17 = .ok (.aload_n 0, 1) := by decide +kernel
theorem dX0_countAt_18 : decode cX0_countAt 18 = .ok (.arraylength, 1) := by decide +kernel
theorem dX0_countAt_19 : decode cX0_countAt 19 = .ok (.invokestatic 42, 3) := by decide +kernel
theorem dX0_countAt_22 : decode cX0_countAt 22 = .ok (.ifCond .eq 9, 3) := by decide +kernel
theorem dX0_countAt_25 : decode cX0_countAt 25 = .ok (.aload_n 0, 1) := by decide +kernel
theorem dX0_countAt_26 : decode cX0_countAt 26 = .ok (.iload_n 3, 1) := by decide +kernel
theorem dX0_countAt_27 : decode cX0_countAt 27 = .ok (.laload, 1) := by decide +kernel
theorem dX0_countAt_28 : decode cX0_countAt 28 = .ok (.goto 4, 3) := by decide +kernel
theorem dX0_countAt_31 : decode cX0_countAt 31 = .ok (.lconst 0, 1) := by decide +kernel
theorem dX0_countAt_32 : decode cX0_countAt 32 = .ok (.lreturn, 1) := by decide +kernel
set_option maxRecDepth 20000 in
theorem ggX0_waysThrough_X0_holds : GoodIn wsX0_waysThrough wsX0_holds := goodIn_r _ [8, 9, 10, 11, 12, 16, 17, 18, 19, 20, 21, 22, 23, 24] (by decide +kernel) (by decide +kernel)
set_option maxRecDepth 20000 in
theorem gX0_waysThrough_X0_holds : GoodIn wsX0_waysThrough (wsV RX0 46 RX0 yX0_holds wsX0_holds) := goodIn_app (goodIn_of _ (by decide +kernel)) ggX0_waysThrough_X0_holds
set_option maxRecDepth 20000 in
theorem ggX0_waysThrough_X0_countAt : GoodIn wsX0_waysThrough wsX0_countAt := goodIn_r _ [15, 10, 11, 12] (by decide +kernel) (by decide +kernel)
set_option maxRecDepth 20000 in
theorem gX0_waysThrough_X0_countAt : GoodIn wsX0_waysThrough (va_wsS RX0 87 yX0_countAt wsX0_countAt) := goodIn_app (goodIn_of _ (by decide +kernel)) ggX0_waysThrough_X0_countAt
theorem dX0_waysThrough_0 : decode cX0_waysThrough 0 = .ok (.aload_n 0, 1) := by decide +kernel
theorem dX0_waysThrough_1 : decode cX0_waysThrough 1 = .ok (.iload_n 1, 1) := by decide +kernel
theorem dX0_waysThrough_2 : decode cX0_waysThrough 2 = .ok (.invokevirtual 46, 3) := by decide +kernel
theorem dX0_waysThrough_5 : decode cX0_waysThrough 5 = .ok (.ifCond .eq 12, 3) := by decide +kernel
theorem dX0_waysThrough_8 : decode cX0_waysThrough 8 = .ok (.aload_n 0, 1) := by decide +kernel
theorem dX0_waysThrough_9 : decode cX0_waysThrough 9 = .ok (.getfield 9, 3) := by decide +kernel
theorem dX0_waysThrough_12 : decode cX0_waysThrough 12 = .ok (.iload_n 1, 1) := by decide +kernel
theorem dX0_waysThrough_13 : decode cX0_waysThrough 13 = .ok (.baload, 1) := by decide +kernel
theorem dX0_waysThrough_14 : decode cX0_waysThrough 14 = .ok (.ifCond .ne 5, 3) := by decide +kernel
theorem dX0_waysThrough_17 : decode cX0_waysThrough 17 = .ok (.lconst 0, 1) := by decide +kernel
theorem dX0_waysThrough_18 : decode cX0_waysThrough 18 = .ok (.lreturn, 1) := by decide +kernel
theorem dX0_waysThrough_19 : decode cX0_waysThrough 19 = .ok (.aload_n 0, 1) := by decide +kernel
theorem dX0_waysThrough_20 : decode cX0_waysThrough 20 = .ok (.getfield 28, 3) := by decide +kernel
theorem dX0_waysThrough_23 : decode cX0_waysThrough 23 = .ok (.iload_n 1, 1) := by decide +kernel
theorem dX0_waysThrough_24 : decode cX0_waysThrough 24 = .ok (.iload_n 2, 1) := by decide +kernel
theorem dX0_waysThrough_25 : decode cX0_waysThrough 25 = .ok (.invokestatic 87, 3) := by decide +kernel
theorem dX0_waysThrough_28 : decode cX0_waysThrough 28 = .ok (.aload_n 0, 1) := by decide +kernel
theorem dX0_waysThrough_29 : decode cX0_waysThrough 29 = .ok (.getfield 32, 3) := by decide +kernel
theorem dX0_waysThrough_32 : decode cX0_waysThrough 32 = .ok (.iload_n 1, 1) := by decide +kernel
theorem dX0_waysThrough_33 : decode cX0_waysThrough 33 = .ok (.iload_n 2, 1) := by decide +kernel
theorem dX0_waysThrough_34 : decode cX0_waysThrough 34 = .ok (.invokestatic 87, 3) := by decide +kernel
theorem dX0_waysThrough_37 : decode cX0_waysThrough 37 = .ok (.lmul, 1) := by decide +kernel
theorem dX0_waysThrough_38 : decode cX0_waysThrough 38 = .ok (.lreturn, 1) := by decide +kernel
set_option maxRecDepth 20000 in
theorem ggX0_sureSet_X0_holds : GoodIn wsX0_sureSet wsX0_holds := goodIn_r _ [6, 7, 8, 9, 10, 11, 12, 13, 14, 15, 16, 17, 18, 19] (by decide +kernel) (by decide +kernel)
set_option maxRecDepth 20000 in
theorem gX0_sureSet_X0_holds : GoodIn wsX0_sureSet (wsV RX0 46 RX0 yX0_holds wsX0_holds) := goodIn_app (goodIn_of _ (by decide +kernel)) ggX0_sureSet_X0_holds
theorem dX0_sureSet_0 : decode cX0_sureSet 0 = .ok (.aload_n 0, 1) := by decide +kernel
theorem dX0_sureSet_1 : decode cX0_sureSet 1 = .ok (.iload_n 1, 1) := by decide +kernel
theorem dX0_sureSet_2 : decode cX0_sureSet 2 = .ok (.invokevirtual 46, 3) := by decide +kernel
theorem dX0_sureSet_5 : decode cX0_sureSet 5 = .ok (.ifCond .eq 12, 3) := by decide +kernel
theorem dX0_sureSet_8 : decode cX0_sureSet 8 = .ok (.aload_n 0, 1) := by decide +kernel
theorem dX0_sureSet_9 : decode cX0_sureSet 9 = .ok (.getfield 35, 3) := by decide +kernel
theorem dX0_sureSet_12 : decode cX0_sureSet 12 = .ok (.iload_n 1, 1) := by decide +kernel
theorem dX0_sureSet_13 : decode cX0_sureSet 13 = .ok (.iaload, 1) := by decide +kernel
theorem dX0_sureSet_14 : decode cX0_sureSet 14 = .ok (.goto 4, 3) := by decide +kernel
theorem dX0_sureSet_17 : decode cX0_sureSet 17 = .ok (.iconst 0, 1) := by decide +kernel
theorem dX0_sureSet_18 : decode cX0_sureSet 18 = .ok (.ireturn, 1) := by decide +kernel
set_option maxRecDepth 20000 in
theorem ggX0_setThrough_X0_waysThrough : GoodIn wsX0_setThrough wsX0_waysThrough := goodIn_r _ [5, 6, 7, 8, 9, 10, 11, 4, 12, 13, 14, 15, 16, 17, 18, 19, 22, 23, 24, 25, 26, 27, 28, 29, 30] (by decide +kernel) (by decide +kernel)
set_option maxRecDepth 20000 in
theorem gX0_setThrough_X0_waysThrough : GoodIn wsX0_setThrough (wsV RX0 95 RX0 yX0_waysThrough wsX0_waysThrough) := goodIn_app (goodIn_of _ (by decide +kernel)) ggX0_setThrough_X0_waysThrough
set_option maxRecDepth 20000 in
theorem ggX0_setThrough_X5_bitOf : GoodIn wsX0_setThrough wsX5_bitOf := goodIn_r _ [21] (by decide +kernel) (by decide +kernel)
set_option maxRecDepth 20000 in
theorem gX0_setThrough_X5_bitOf_n54 : GoodIn wsX0_setThrough (wsX5_bitOf) := ggX0_setThrough_X5_bitOf
theorem dX0_setThrough_0 : decode cX0_setThrough 0 = .ok (.iconst 0, 1) := by decide +kernel
theorem dX0_setThrough_1 : decode cX0_setThrough 1 = .ok (.istore_n 2, 1) := by decide +kernel
theorem dX0_setThrough_2 : decode cX0_setThrough 2 = .ok (.iconst 0, 1) := by decide +kernel
theorem dX0_setThrough_3 : decode cX0_setThrough 3 = .ok (.istore_n 3, 1) := by decide +kernel
theorem dX0_setThrough_4 : decode cX0_setThrough 4 = .ok (.iload_n 3, 1) := by decide +kernel
theorem dX0_setThrough_5 : decode cX0_setThrough 5 = .ok (.bipush 8, 2) := by decide +kernel
theorem dX0_setThrough_7 : decode cX0_setThrough 7 = .ok (.if_icmp .ge 27, 3) := by decide +kernel
theorem dX0_setThrough_10 : decode cX0_setThrough 10 = .ok (.aload_n 0, 1) := by decide +kernel
theorem dX0_setThrough_11 : decode cX0_setThrough 11 = .ok (.iload_n 1, 1) := by decide +kernel
theorem dX0_setThrough_12 : decode cX0_setThrough 12 = .ok (.iload_n 3, 1) := by decide +kernel
theorem dX0_setThrough_13 : decode cX0_setThrough 13 = .ok (.invokevirtual 95, 3) := by decide +kernel
theorem dX0_setThrough_16 : decode cX0_setThrough 16 = .ok (.lconst 0, 1) := by decide +kernel
theorem dX0_setThrough_17 : decode cX0_setThrough 17 = .ok (.lcmp, 1) := by decide +kernel
theorem dX0_setThrough_18 : decode cX0_setThrough 18 = .ok (.ifCond .le 10, 3) := by decide +kernel
theorem dX0_setThrough_21 : decode cX0_setThrough 21 = .ok (.iload_n 2, 1) := by decide +kernel
theorem dX0_setThrough_22 : decode cX0_setThrough 22 = .ok (.iload_n 3, 1) := by decide +kernel
theorem dX0_setThrough_23 : decode cX0_setThrough 23 = .ok (.invokestatic 54, 3) := by decide +kernel
theorem dX0_setThrough_26 : decode cX0_setThrough 26 = .ok (.ior, 1) := by decide +kernel
theorem dX0_setThrough_27 : decode cX0_setThrough 27 = .ok (.istore_n 2, 1) := by decide +kernel
theorem dX0_setThrough_28 : decode cX0_setThrough 28 = .ok (.iinc 3 1, 3) := by decide +kernel
theorem dX0_setThrough_31 : decode cX0_setThrough 31 = .ok (.goto (-27), 3) := by decide +kernel
theorem dX0_setThrough_34 : decode cX0_setThrough 34 = .ok (.iload_n 2, 1) := by decide +kernel
theorem dX0_setThrough_35 : decode cX0_setThrough 35 = .ok (.ireturn, 1) := by decide +kernel
set_option maxRecDepth 20000 in
theorem ggX0_mostWaysLeft_X0_waysThrough : GoodIn wsX0_mostWaysLeft wsX0_waysThrough := goodIn_r _ [9, 10, 11, 12, 13, 14, 15, 8, 16, 17, 18, 19, 20, 21, 22, 23, 24, 25, 26, 27, 28, 29, 30, 31, 32] (by decide +kernel) (by decide +kernel)
set_option maxRecDepth 20000 in
theorem gX0_mostWaysLeft_X0_waysThrough : GoodIn wsX0_mostWaysLeft (wsV RX0 95 RX0 yX0_waysThrough wsX0_waysThrough) := goodIn_app (goodIn_of _ (by decide +kernel)) ggX0_mostWaysLeft_X0_waysThrough
theorem dX0_mostWaysLeft_0 : decode cX0_mostWaysLeft 0 = .ok (.lconst 0, 1) := by decide +kernel
theorem dX0_mostWaysLeft_1 : decode cX0_mostWaysLeft 1 = .ok (.lstore_n 2, 1) := by decide +kernel
theorem dX0_mostWaysLeft_2 : decode cX0_mostWaysLeft 2 = .ok (.iconst 0, 1) := by decide +kernel
theorem dX0_mostWaysLeft_3 : decode cX0_mostWaysLeft 3 = .ok (.istore 4, 2) := by decide +kernel
theorem dX0_mostWaysLeft_5 : decode cX0_mostWaysLeft 5 = .ok (.iload 4, 2) := by decide +kernel
theorem dX0_mostWaysLeft_7 : decode cX0_mostWaysLeft 7 = .ok (.bipush 8, 2) := by decide +kernel
theorem dX0_mostWaysLeft_9 : decode cX0_mostWaysLeft 9 = .ok (.if_icmp .ge 21, 3) := by decide +kernel
theorem dX0_mostWaysLeft_12 : decode cX0_mostWaysLeft 12 = .ok (.lload_n 2, 1) := by decide +kernel
theorem dX0_mostWaysLeft_13 : decode cX0_mostWaysLeft 13 = .ok (.aload_n 0, 1) := by decide +kernel
theorem dX0_mostWaysLeft_14 : decode cX0_mostWaysLeft 14 = .ok (.iload_n 1, 1) := by decide +kernel
theorem dX0_mostWaysLeft_15 : decode cX0_mostWaysLeft 15 = .ok (.iload 4, 2) := by decide +kernel
theorem dX0_mostWaysLeft_17 : decode cX0_mostWaysLeft 17 = .ok (.invokevirtual 95, 3) := by decide +kernel
theorem dX0_mostWaysLeft_20 : decode cX0_mostWaysLeft 20 = .ok (.invokestatic 98, 3) := by decide +kernel
theorem dX0_mostWaysLeft_23 : decode cX0_mostWaysLeft 23 = .ok (.lstore_n 2, 1) := by decide +kernel
theorem dX0_mostWaysLeft_24 : decode cX0_mostWaysLeft 24 = .ok (.iinc 4 1, 3) := by decide +kernel
theorem dX0_mostWaysLeft_27 : decode cX0_mostWaysLeft 27 = .ok (.goto (-22), 3) := by decide +kernel
theorem dX0_mostWaysLeft_30 : decode cX0_mostWaysLeft 30 = .ok (.lload_n 2, 1) := by decide +kernel
theorem dX0_mostWaysLeft_31 : decode cX0_mostWaysLeft 31 = .ok (.lreturn, 1) := by decide +kernel
set_option maxRecDepth 20000 in
theorem ggX0_conflictEnd_X0_waysWithin : GoodIn wsX0_conflictEnd wsX0_waysWithin := goodIn_r _ [6, 7, 8, 9, 10, 5, 11, 12, 13, 14, 15, 16, 1, 17, 18, 19, 20, 21, 22, 23, 24, 25, 26, 27, 28, 29, 30, 31, 32, 33, 34, 35, 36, 37, 38, 39, 40, 41, 42, 43, 44, 45, 46] (by decide +kernel) (by decide +kernel)
set_option maxRecDepth 20000 in
theorem gX0_conflictEnd_X0_waysWithin : GoodIn wsX0_conflictEnd (wsV RX0 80 RX0 yX0_waysWithin wsX0_waysWithin) := goodIn_app (goodIn_of _ (by decide +kernel)) ggX0_conflictEnd_X0_waysWithin
theorem dX0_conflictEnd_0 : decode cX0_conflictEnd 0 = .ok (.iconst 0, 1) := by decide +kernel
theorem dX0_conflictEnd_1 : decode cX0_conflictEnd 1 = .ok (.istore_n 1, 1) := by decide +kernel
theorem dX0_conflictEnd_2 : decode cX0_conflictEnd 2 = .ok (.iload_n 1, 1) := by decide +kernel
theorem dX0_conflictEnd_3 : decode cX0_conflictEnd 3 = .ok (.aload_n 0, 1) := by decide +kernel
theorem dX0_conflictEnd_4 : decode cX0_conflictEnd 4 = .ok (.getfield 38, 3) := by decide +kernel
theorem dX0_conflictEnd_7 : decode cX0_conflictEnd 7 = .ok (.if_icmp .ge 22, 3) := by decide +kernel
theorem dX0_conflictEnd_10 : decode cX0_conflictEnd 10 = .ok (.aload_n 0, 1) := by decide +kernel
theorem dX0_conflictEnd_11 : decode cX0_conflictEnd 11 = .ok (.iconst 0, 1) := by decide +kernel
theorem dX0_conflictEnd_12 : decode cX0_conflictEnd 12 = .ok (.iload_n 1, 1) := by decide +kernel
theorem dX0_conflictEnd_13 : decode cX0_conflictEnd 13 = .ok (.invokevirtual 80, 3) := by decide +kernel
theorem dX0_conflictEnd_16 : decode cX0_conflictEnd 16 = .ok (.lconst 0, 1) := by decide +kernel
theorem dX0_conflictEnd_17 : decode cX0_conflictEnd 17 = .ok (.lcmp, 1) := by decide +kernel
theorem dX0_conflictEnd_18 : decode cX0_conflictEnd 18 = .ok (.ifCond .ne 5, 3) := by decide +kernel
theorem dX0_conflictEnd_21 : decode cX0_conflictEnd 21 = .ok (.iload_n 1, 1) := by decide +kernel
theorem dX0_conflictEnd_22 : decode cX0_conflictEnd 22 = .ok (.ireturn, 1) := by decide +kernel
theorem dX0_conflictEnd_23 : decode cX0_conflictEnd 23 = .ok (.iinc 1 1, 3) := by decide +kernel
theorem dX0_conflictEnd_26 : decode cX0_conflictEnd 26 = .ok (.goto (-24), 3) := by decide +kernel
theorem dX0_conflictEnd_29 : decode cX0_conflictEnd 29 = .ok (.bipush (-9), 2) := by decide +kernel
theorem dX0_conflictEnd_31 : decode cX0_conflictEnd 31 = .ok (.ireturn, 1) := by decide +kernel
set_option maxRecDepth 20000 in
theorem ggX0_conflictBeginning_X0_waysWithin : GoodIn wsX0_conflictBeginning wsX0_waysWithin := goodIn_r _ [5, 6, 7, 8, 9, 4, 10, 11, 12, 13, 14, 15, 16, 17, 18, 19, 20, 21, 22, 23, 24, 25, 26, 27, 28, 29, 30, 31, 32, 33, 34, 35, 36, 37, 38, 39, 40, 41, 42, 43, 44, 45, 46] (by decide +kernel) (by decide +kernel)
set_option maxRecDepth 20000 in
theorem gX0_conflictBeginning_X0_waysWithin : GoodIn wsX0_conflictBeginning (wsV RX0 80 RX0 yX0_waysWithin wsX0_waysWithin) := goodIn_app (goodIn_of _ (by decide +kernel)) ggX0_conflictBeginning_X0_waysWithin
theorem dX0_conflictBeginning_0 : decode cX0_conflictBeginning 0 = .ok (.iload_n 1, 1) := by decide +kernel
theorem dX0_conflictBeginning_1 : decode cX0_conflictBeginning 1 = .ok (.istore_n 2, 1) := by decide +kernel
theorem dX0_conflictBeginning_2 : decode cX0_conflictBeginning 2 = .ok (.iload_n 2, 1) := by decide +kernel
theorem dX0_conflictBeginning_3 : decode cX0_conflictBeginning 3 = .ok (.ifCond .lt 22, 3) := by decide +kernel
theorem dX0_conflictBeginning_6 : decode cX0_conflictBeginning 6 = .ok (.aload_n 0, 1) := by decide +kernel
theorem dX0_conflictBeginning_7 : decode cX0_conflictBeginning 7 = .ok (.iload_n 2, 1) := by decide +kernel
theorem dX0_conflictBeginning_8 : decode cX0_conflictBeginning 8 = .ok (.iload_n 1, 1) := by decide +kernel
theorem dX0_conflictBeginning_9 : decode cX0_conflictBeginning 9 = .ok (.invokevirtual 80, 3) := by decide +kernel
theorem dX0_conflictBeginning_12 : decode cX0_conflictBeginning 12 = .ok (.lconst 0, 1) := by decide +kernel
end
section
theorem dX0_conflictBeginning_13 : decode cX0_conflictBeginning 13 = .ok (.lcmp, 1) := by decide +kernel
theorem dX0_conflictBeginning_14 : decode cX0_conflictBeginning 14 = .ok (.ifCond .ne 5, 3) := by decide +kernel
theorem dX0_conflictBeginning_17 : decode cX0_conflictBeginning 17 = .ok (.iload_n 2, 1) := by decide +kernel
theorem dX0_conflictBeginning_18 : decode cX0_conflictBeginning 18 = .ok (.ireturn, 1) := by decide +kernel
theorem dX0_conflictBeginning_19 : decode cX0_conflictBeginning 19 = .ok (.iinc 2 (-1), 3) := by decide +kernel
theorem dX0_conflictBeginning_22 : decode cX0_conflictBeginning 22 = .ok (.goto (-20), 3) := by decide +kernel
theorem dX0_conflictBeginning_25 : decode cX0_conflictBeginning 25 = .ok (.bipush (-9), 2) := by decide +kernel
theorem dX0_conflictBeginning_27 : decode cX0_conflictBeginning 27 = .ok (.ireturn, 1) := by decide +kernel
set_option maxRecDepth 20000 in
theorem ggX0_isHadBy_X5_isWithin : GoodIn wsX0_isHadBy wsX5_isWithin := goodIn_r _ [3] (by decide +kernel) (by decide +kernel)
set_option maxRecDepth 20000 in
theorem gX0_isHadBy_X5_isWithin_n42 : GoodIn wsX0_isHadBy (wsX5_isWithin) := ggX0_isHadBy_X5_isWithin
set_option maxRecDepth 20000 in
theorem ggX0_isHadBy_X0_sureSet : GoodIn wsX0_isHadBy wsX0_sureSet := goodIn_r _ [8, 9, 10, 11, 12, 7, 13, 14, 1, 2, 3, 17, 18, 19, 20, 21, 22, 23, 24, 25] (by decide +kernel) (by decide +kernel)
set_option maxRecDepth 20000 in
theorem gX0_isHadBy_X0_sureSet : GoodIn wsX0_isHadBy (wsV RX0 104 RX0 yX0_sureSet wsX0_sureSet) := goodIn_app (goodIn_of _ (by decide +kernel)) ggX0_isHadBy_X0_sureSet
set_option maxRecDepth 20000 in
theorem ggX0_isHadBy_X5_bitOf : GoodIn wsX0_isHadBy wsX5_bitOf := goodIn_r _ [16] (by decide +kernel) (by decide +kernel)
set_option maxRecDepth 20000 in
theorem gX0_isHadBy_X5_bitOf_n54 : GoodIn wsX0_isHadBy (wsX5_bitOf) := ggX0_isHadBy_X5_bitOf
theorem dX0_isHadBy_0 : decode cX0_isHadBy 0 = .ok (.iload_n 2, 1) := by decide +kernel
theorem dX0_isHadBy_1 : decode cX0_isHadBy 1 = .ok (.bipush 8, 2) := by decide +kernel
theorem dX0_isHadBy_3 : decode cX0_isHadBy 3 = .ok (.invokestatic 42, 3) := by decide +kernel
theorem dX0_isHadBy_6 : decode cX0_isHadBy 6 = .ok (.ifCond .eq 19, 3) := by decide +kernel
theorem dX0_isHadBy_9 : decode cX0_isHadBy 9 = .ok (.aload_n 0, 1) := by decide +kernel
theorem dX0_isHadBy_10 : decode cX0_isHadBy 10 = .ok (.iload_n 1, 1) := by decide +kernel
theorem dX0_isHadBy_11 : decode cX0_isHadBy 11 = .ok (.invokevirtual 104, 3) := by decide +kernel
theorem dX0_isHadBy_14 : decode cX0_isHadBy 14 = .ok (.iload_n 2, 1) := by decide +kernel
theorem dX0_isHadBy_15 : decode cX0_isHadBy 15 = .ok (.invokestatic 54, 3) := by decide +kernel
theorem dX0_isHadBy_18 : decode cX0_isHadBy 18 = .ok (.if_icmp .ne 7, 3) := by decide +kernel
theorem dX0_isHadBy_21 : decode cX0_isHadBy 21 = .ok (.iconst 1, 1) := by decide +kernel
theorem dX0_isHadBy_22 : decode cX0_isHadBy 22 = .ok (.goto 4, 3) := by decide +kernel
theorem dX0_isHadBy_25 : decode cX0_isHadBy 25 = .ok (.iconst 0, 1) := by decide +kernel
theorem dX0_isHadBy_26 : decode cX0_isHadBy 26 = .ok (.ireturn, 1) := by decide +kernel
set_option maxRecDepth 20000 in
theorem ggX0_hadBy_X0_isHadBy : GoodIn wsX0_hadBy wsX0_isHadBy := goodIn_r _ [6, 7, 8, 9, 10, 11, 12, 5, 13, 14, 15, 16, 17, 18, 1, 19, 20, 21, 22, 23, 24, 25, 26, 27, 28, 29] (by decide +kernel) (by decide +kernel)
set_option maxRecDepth 20000 in
theorem gX0_hadBy_X0_isHadBy : GoodIn wsX0_hadBy (wsV RX0 107 RX0 yX0_isHadBy wsX0_isHadBy) := goodIn_app (goodIn_of _ (by decide +kernel)) ggX0_hadBy_X0_isHadBy
theorem dX0_hadBy_0 : decode cX0_hadBy 0 = .ok (.iconst 0, 1) := by decide +kernel
theorem dX0_hadBy_1 : decode cX0_hadBy 1 = .ok (.istore_n 2, 1) := by decide +kernel
theorem dX0_hadBy_2 : decode cX0_hadBy 2 = .ok (.iconst 0, 1) := by decide +kernel
theorem dX0_hadBy_3 : decode cX0_hadBy 3 = .ok (.istore_n 3, 1) := by decide +kernel
theorem dX0_hadBy_4 : decode cX0_hadBy 4 = .ok (.iload_n 3, 1) := by decide +kernel
theorem dX0_hadBy_5 : decode cX0_hadBy 5 = .ok (.aload_n 0, 1) := by decide +kernel
theorem dX0_hadBy_6 : decode cX0_hadBy 6 = .ok (.getfield 38, 3) := by decide +kernel
theorem dX0_hadBy_9 : decode cX0_hadBy 9 = .ok (.if_icmp .ge 21, 3) := by decide +kernel
theorem dX0_hadBy_12 : decode cX0_hadBy 12 = .ok (.aload_n 0, 1) := by decide +kernel
theorem dX0_hadBy_13 : decode cX0_hadBy 13 = .ok (.iload_n 3, 1) := by decide +kernel
theorem dX0_hadBy_14 : decode cX0_hadBy 14 = .ok (.iload_n 1, 1) := by decide +kernel
theorem dX0_hadBy_15 : decode cX0_hadBy 15 = .ok (.invokevirtual 107, 3) := by decide +kernel
theorem dX0_hadBy_18 : decode cX0_hadBy 18 = .ok (.ifCond .eq 6, 3) := by decide +kernel
theorem dX0_hadBy_21 : decode cX0_hadBy 21 = .ok (.iinc 2 1, 3) := by decide +kernel
theorem dX0_hadBy_24 : decode cX0_hadBy 24 = .ok (.iinc 3 1, 3) := by decide +kernel
theorem dX0_hadBy_27 : decode cX0_hadBy 27 = .ok (.goto (-23), 3) := by decide +kernel
theorem dX0_hadBy_30 : decode cX0_hadBy 30 = .ok (.iload_n 2, 1) := by decide +kernel
theorem dX0_hadBy_31 : decode cX0_hadBy 31 = .ok (.ireturn, 1) := by decide +kernel
set_option maxRecDepth 20000 in
theorem ggX0_maybeHadBy_X0_sureSet : GoodIn wsX0_maybeHadBy wsX0_sureSet := goodIn_r _ [6, 7, 8, 9, 10, 5, 11, 1, 12, 13, 14, 17, 18, 19, 20, 21, 22, 23, 24, 25] (by decide +kernel) (by decide +kernel)
set_option maxRecDepth 20000 in
theorem gX0_maybeHadBy_X0_sureSet : GoodIn wsX0_maybeHadBy (wsV RX0 104 RX0 yX0_sureSet wsX0_sureSet) := goodIn_app (goodIn_of _ (by decide +kernel)) ggX0_maybeHadBy_X0_sureSet
set_option maxRecDepth 20000 in
theorem ggX0_maybeHadBy_X5_bitOf : GoodIn wsX0_maybeHadBy wsX5_bitOf := goodIn_r _ [16] (by decide +kernel) (by decide +kernel)
set_option maxRecDepth 20000 in
theorem gX0_maybeHadBy_X5_bitOf_n54 : GoodIn wsX0_maybeHadBy (wsX5_bitOf) := ggX0_maybeHadBy_X5_bitOf
theorem dX0_maybeHadBy_0 : decode cX0_maybeHadBy 0 = .ok (.iconst 0, 1) := by decide +kernel
theorem dX0_maybeHadBy_1 : decode cX0_maybeHadBy 1 = .ok (.istore_n 2, 1) := by decide +kernel
theorem dX0_maybeHadBy_2 : decode cX0_maybeHadBy 2 = .ok (.iconst 0, 1) := by decide +kernel
theorem dX0_maybeHadBy_3 : decode cX0_maybeHadBy 3 = .ok (.istore_n 3, 1) := by decide +kernel
theorem dX0_maybeHadBy_4 : decode cX0_maybeHadBy 4 = .ok (.iload_n 3, 1) := by decide +kernel
theorem dX0_maybeHadBy_5 : decode cX0_maybeHadBy 5 = .ok (.aload_n 0, 1) := by decide +kernel
theorem dX0_maybeHadBy_6 : decode cX0_maybeHadBy 6 = .ok (.getfield 38, 3) := by decide +kernel
theorem dX0_maybeHadBy_9 : decode cX0_maybeHadBy 9 = .ok (.if_icmp .ge 25, 3) := by decide +kernel
theorem dX0_maybeHadBy_12 : decode cX0_maybeHadBy 12 = .ok (.aload_n 0, 1) := by decide +kernel
theorem dX0_maybeHadBy_13 : decode cX0_maybeHadBy 13 = .ok (.iload_n 3, 1) := by decide +kernel
theorem dX0_maybeHadBy_14 : decode cX0_maybeHadBy 14 = .ok (.invokevirtual 104, 3) := by decide +kernel
theorem dX0_maybeHadBy_17 : decode cX0_maybeHadBy 17 = .ok (.iload_n 1, 1) := by decide +kernel
theorem dX0_maybeHadBy_18 : decode cX0_maybeHadBy 18 = .ok (.invokestatic 54, 3) := by decide +kernel
theorem dX0_maybeHadBy_21 : decode cX0_maybeHadBy 21 = .ok (.iand, 1) := by decide +kernel
theorem dX0_maybeHadBy_22 : decode cX0_maybeHadBy 22 = .ok (.ifCond .eq 6, 3) := by decide +kernel
theorem dX0_maybeHadBy_25 : decode cX0_maybeHadBy 25 = .ok (.iinc 2 1, 3) := by decide +kernel
theorem dX0_maybeHadBy_28 : decode cX0_maybeHadBy 28 = .ok (.iinc 3 1, 3) := by decide +kernel
theorem dX0_maybeHadBy_31 : decode cX0_maybeHadBy 31 = .ok (.goto (-27), 3) := by decide +kernel
theorem dX0_maybeHadBy_34 : decode cX0_maybeHadBy 34 = .ok (.iload_n 2, 1) := by decide +kernel
theorem dX0_maybeHadBy_35 : decode cX0_maybeHadBy 35 = .ok (.ireturn, 1) := by decide +kernel
set_option maxRecDepth 20000 in
theorem ggX0_firstHadBy_X0_isHadBy : GoodIn wsX0_firstHadBy wsX0_isHadBy := goodIn_r _ [6, 7, 8, 9, 10, 11, 12, 5, 13, 14, 15, 16, 17, 18, 1, 19, 20, 21, 22, 23, 24, 25, 26, 27, 28, 29] (by decide +kernel) (by decide +kernel)
set_option maxRecDepth 20000 in
theorem gX0_firstHadBy_X0_isHadBy : GoodIn wsX0_firstHadBy (wsV RX0 107 RX0 yX0_isHadBy wsX0_isHadBy) := goodIn_app (goodIn_of _ (by decide +kernel)) ggX0_firstHadBy_X0_isHadBy
theorem dX0_firstHadBy_0 : decode cX0_firstHadBy 0 = .ok (.iconst 0, 1) := by decide +kernel
theorem dX0_firstHadBy_1 : decode cX0_firstHadBy 1 = .ok (.istore_n 2, 1) := by decide +kernel
theorem dX0_firstHadBy_2 : decode cX0_firstHadBy 2 = .ok (.iload_n 2, 1) := by decide +kernel
theorem dX0_firstHadBy_3 : decode cX0_firstHadBy 3 = .ok (.aload_n 0, 1) := by decide +kernel
theorem dX0_firstHadBy_4 : decode cX0_firstHadBy 4 = .ok (.getfield 38, 3) := by decide +kernel
theorem dX0_firstHadBy_7 : decode cX0_firstHadBy 7 = .ok (.if_icmp .ge 20, 3) := by decide +kernel
theorem dX0_firstHadBy_10 : decode cX0_firstHadBy 10 = .ok (.aload_n 0, 1) := by decide +kernel
theorem dX0_firstHadBy_11 : decode cX0_firstHadBy 11 = .ok (.iload_n 2, 1) := by decide +kernel
theorem dX0_firstHadBy_12 : decode cX0_firstHadBy 12 = .ok (.iload_n 1, 1) := by decide +kernel
theorem dX0_firstHadBy_13 : decode cX0_firstHadBy 13 = .ok (.invokevirtual 107, 3) := by decide +kernel
theorem dX0_firstHadBy_16 : decode cX0_firstHadBy 16 = .ok (.ifCond .eq 5, 3) := by decide +kernel
theorem dX0_firstHadBy_19 : decode cX0_firstHadBy 19 = .ok (.iload_n 2, 1) := by decide +kernel
theorem dX0_firstHadBy_20 : decode cX0_firstHadBy 20 = .ok (.ireturn, 1) := by decide +kernel
theorem dX0_firstHadBy_21 : decode cX0_firstHadBy 21 = .ok (.iinc 2 1, 3) := by decide +kernel
theorem dX0_firstHadBy_24 : decode cX0_firstHadBy 24 = .ok (.goto (-22), 3) := by decide +kernel
theorem dX0_firstHadBy_27 : decode cX0_firstHadBy 27 = .ok (.bipush (-9), 2) := by decide +kernel
theorem dX0_firstHadBy_29 : decode cX0_firstHadBy 29 = .ok (.ireturn, 1) := by decide +kernel
set_option maxRecDepth 20000 in
theorem ggX0_lastHadBy_X0_isHadBy : GoodIn wsX0_lastHadBy wsX0_isHadBy := goodIn_r _ [6, 7, 8, 9, 10, 11, 12, 5, 13, 14, 15, 16, 17, 18, 1, 19, 20, 21, 22, 23, 24, 25, 26, 27, 28, 29] (by decide +kernel) (by decide +kernel)
set_option maxRecDepth 20000 in
theorem gX0_lastHadBy_X0_isHadBy : GoodIn wsX0_lastHadBy (wsV RX0 107 RX0 yX0_isHadBy wsX0_isHadBy) := goodIn_app (goodIn_of _ (by decide +kernel)) ggX0_lastHadBy_X0_isHadBy
theorem dX0_lastHadBy_0 : decode cX0_lastHadBy 0 = .ok (.aload_n 0, 1) := by decide +kernel
theorem dX0_lastHadBy_1 : decode cX0_lastHadBy 1 = .ok (.getfield 38, 3) := by decide +kernel
theorem dX0_lastHadBy_4 : decode cX0_lastHadBy 4 = .ok (.iconst 1, 1) := by decide +kernel
theorem dX0_lastHadBy_5 : decode cX0_lastHadBy 5 = .ok (.isub, 1) := by decide +kernel
theorem dX0_lastHadBy_6 : decode cX0_lastHadBy 6 = .ok (.istore_n 2, 1) := by decide +kernel
theorem dX0_lastHadBy_7 : decode cX0_lastHadBy 7 = .ok (.iload_n 2, 1) := by decide +kernel
theorem dX0_lastHadBy_8 : decode cX0_lastHadBy 8 = .ok (.ifCond .lt 20, 3) := by decide +kernel
theorem dX0_lastHadBy_11 : decode cX0_lastHadBy 11 = .ok (.aload_n 0, 1) := by decide +kernel
theorem dX0_lastHadBy_12 : decode cX0_lastHadBy 12 = .ok (.iload_n 2, 1) := by decide +kernel
theorem dX0_lastHadBy_13 : decode cX0_lastHadBy 13 = .ok (.iload_n 1, 1) := by decide +kernel
theorem dX0_lastHadBy_14 : decode cX0_lastHadBy 14 = .ok (.invokevirtual 107, 3) := by decide +kernel
theorem dX0_lastHadBy_17 : decode cX0_lastHadBy 17 = .ok (.ifCond .eq 5, 3) := by decide +kernel
theorem dX0_lastHadBy_20 : decode cX0_lastHadBy 20 = .ok (.iload_n 2, 1) := by decide +kernel
theorem dX0_lastHadBy_21 : decode cX0_lastHadBy 21 = .ok (.ireturn, 1) := by decide +kernel
theorem dX0_lastHadBy_22 : decode cX0_lastHadBy 22 = .ok (.iinc 2 (-1), 3) := by decide +kernel
theorem dX0_lastHadBy_25 : decode cX0_lastHadBy 25 = .ok (.goto (-18), 3) := by decide +kernel
theorem dX0_lastHadBy_28 : decode cX0_lastHadBy 28 = .ok (.bipush (-9), 2) := by decide +kernel
theorem dX0_lastHadBy_30 : decode cX0_lastHadBy 30 = .ok (.ireturn, 1) := by decide +kernel
set_option maxRecDepth 20000 in
theorem ggX0_setsSureOfOne_X0_sureSet : GoodIn wsX0_setsSureOfOne wsX0_sureSet := goodIn_r _ [6, 7, 8, 9, 10, 5, 11, 1, 12, 13, 14, 22, 23, 24, 25, 26, 27, 28, 29, 30] (by decide +kernel) (by decide +kernel)
set_option maxRecDepth 20000 in
theorem gX0_setsSureOfOne_X0_sureSet : GoodIn wsX0_setsSureOfOne (wsV RX0 104 RX0 yX0_sureSet wsX0_sureSet) := goodIn_app (goodIn_of _ (by decide +kernel)) ggX0_setsSureOfOne_X0_sureSet
set_option maxRecDepth 20000 in
theorem ggX0_setsSureOfOne_J6_bitCount_0f7a4 : GoodIn wsX0_setsSureOfOne wsJ6_bitCount_0f7a4 := goodIn_r _ [18, 19, 20, 21] (by decide +kernel) (by decide +kernel)
set_option maxRecDepth 20000 in
theorem gX0_setsSureOfOne_J6_bitCount_0f7a4 : GoodIn wsX0_setsSureOfOne (va_wsS RX0 71 yJ6_bitCount_0f7a4 wsJ6_bitCount_0f7a4) := goodIn_app (goodIn_of _ (by decide +kernel)) ggX0_setsSureOfOne_J6_bitCount_0f7a4
theorem dX0_setsSureOfOne_0 : decode cX0_setsSureOfOne 0 = .ok (.iconst 0, 1) := by decide +kernel
theorem dX0_setsSureOfOne_1 : decode cX0_setsSureOfOne 1 = .ok (.istore_n 1, 1) := by decide +kernel
theorem dX0_setsSureOfOne_2 : decode cX0_setsSureOfOne 2 = .ok (.iconst 0, 1) := by decide +kernel
theorem dX0_setsSureOfOne_3 : decode cX0_setsSureOfOne 3 = .ok (.istore_n 2, 1) := by decide +kernel
theorem dX0_setsSureOfOne_4 : decode cX0_setsSureOfOne 4 = .ok (.iload_n 2, 1) := by decide +kernel
theorem dX0_setsSureOfOne_5 : decode cX0_setsSureOfOne 5 = .ok (.aload_n 0, 1) := by decide +kernel
theorem dX0_setsSureOfOne_6 : decode cX0_setsSureOfOne 6 = .ok (.getfield 38, 3) := by decide +kernel
theorem dX0_setsSureOfOne_9 : decode cX0_setsSureOfOne 9 = .ok (.if_icmp .ge 24, 3) := by decide +kernel
theorem dX0_setsSureOfOne_12 : decode cX0_setsSureOfOne 12 = .ok (.aload_n 0, 1) := by decide +kernel
theorem dX0_setsSureOfOne_13 : decode cX0_setsSureOfOne 13 = .ok (.iload_n 2, 1) := by decide +kernel
theorem dX0_setsSureOfOne_14 : decode cX0_setsSureOfOne 14 = .ok (.invokevirtual 104, 3) := by decide +kernel
theorem dX0_setsSureOfOne_17 : decode cX0_setsSureOfOne 17 = .ok (.invokestatic 71, 3) := by decide +kernel
theorem dX0_setsSureOfOne_20 : decode cX0_setsSureOfOne 20 = .ok (.iconst 1, 1) := by decide +kernel
theorem dX0_setsSureOfOne_21 : decode cX0_setsSureOfOne 21 = .ok (.if_icmp .ne 6, 3) := by decide +kernel
theorem dX0_setsSureOfOne_24 : decode cX0_setsSureOfOne 24 = .ok (.iinc 1 1, 3) := by decide +kernel
theorem dX0_setsSureOfOne_27 : decode cX0_setsSureOfOne 27 = .ok (.iinc 2 1, 3) := by decide +kernel
theorem dX0_setsSureOfOne_30 : decode cX0_setsSureOfOne 30 = .ok (.goto (-26), 3) := by decide +kernel
theorem dX0_setsSureOfOne_33 : decode cX0_setsSureOfOne 33 = .ok (.iload_n 1, 1) := by decide +kernel
theorem dX0_setsSureOfOne_34 : decode cX0_setsSureOfOne 34 = .ok (.ireturn, 1) := by decide +kernel
set_option maxRecDepth 20000 in
theorem ggX1_init_X1_forgetAll : GoodIn wsX1_init wsX1_forgetAll := goodIn_r _ [11, 12, 13, 14, 15, 16, 17, 18, 19, 20, 21, 22, 23, 24, 25, 26, 27, 28, 29, 30, 31, 32, 33, 34, 35, 36, 37] (by decide +kernel) (by decide +kernel)
set_option maxRecDepth 20000 in
theorem gX1_init_X1_forgetAll : GoodIn wsX1_init (wsV RX1 18 RX1 yX1_forgetAll wsX1_forgetAll) := goodIn_app (goodIn_of _ (by decide +kernel)) ggX1_init_X1_forgetAll
theorem dX1_init_0 : decode cX1_init 0 = .ok (.aload_n 0, 1) := by decide +kernel
theorem dX1_init_1 : decode cX1_init 1 = .ok (.invokespecial 3, 3) := by decide +kernel
theorem dX1_init_4 : decode cX1_init 4 = .ok (.aload_n 0, 1) := by decide +kernel
theorem dX1_init_5 : decode cX1_init 5 = .ok (.bipush 12, 2) := by decide +kernel
theorem dX1_init_7 : decode cX1_init 7 = .ok (.newarray .int, 2) := by decide +kernel
theorem dX1_init_9 : decode cX1_init 9 = .ok (.putfield 9, 3) := by decide +kernel
theorem dX1_init_12 : decode cX1_init 12 = .ok (.aload_n 0, 1) := by decide +kernel
theorem dX1_init_13 : decode cX1_init 13 = .ok (.bipush 12, 2) := by decide +kernel
theorem dX1_init_15 : decode cX1_init 15 = .ok (.newarray .int, 2) := by decide +kernel
theorem dX1_init_17 : decode cX1_init 17 = .ok (.putfield 15, 3) := by decide +kernel
theorem dX1_init_20 : decode cX1_init 20 = .ok (.aload_n 0, 1) := by decide +kernel
theorem dX1_init_21 : decode cX1_init 21 = .ok (.invokevirtual 18, 3) := by decide +kernel
theorem dX1_init_24 : decode cX1_init 24 = .ok (.return_, 1) := by decide +kernel
theorem dX1_forgetAll_0 : decode cX1_forgetAll 0 = .ok (.aload_n 0, 1) := by decide +kernel
theorem dX1_forgetAll_1 : decode cX1_forgetAll 1 = .ok (.iconst 0, 1) := by decide +kernel
theorem dX1_forgetAll_2 : decode cX1_forgetAll 2 = .ok (.putfield 21, 3) := by decide +kernel
theorem dX1_forgetAll_5 : decode cX1_forgetAll 5 = .ok (.aload_n 0, 1) := by decide +kernel
theorem dX1_forgetAll_6 : decode cX1_forgetAll 6 = .ok (.iconst 0, 1) := by decide +kernel
theorem dX1_forgetAll_7 : decode cX1_forgetAll 7 = .ok (.putfield 25, 3) := by decide +kernel
theorem dX1_forgetAll_10 : decode cX1_forgetAll 10 = .ok (.aload_n 0, 1) := by decide +kernel
theorem dX1_forgetAll_11 : decode cX1_forgetAll 11 = .ok (.iconst 0, 1) := by decide +kernel
theorem dX1_forgetAll_12 : decode cX1_forgetAll 12 = .ok (.putfield 29, 3) := by decide +kernel
theorem dX1_forgetAll_15 : decode cX1_forgetAll 15 = .ok (.aload_n 0, 1) := by decide +kernel
theorem dX1_forgetAll_16 : decode cX1_forgetAll 16 = .ok (.bipush (-9), 2) := by decide +kernel
theorem dX1_forgetAll_18 : decode cX1_forgetAll 18 = .ok (.putfield 32, 3) := by decide +kernel
theorem dX1_forgetAll_21 : decode cX1_forgetAll 21 = .ok (.aload_n 0, 1) := by decide +kernel
theorem dX1_forgetAll_22 : decode cX1_forgetAll 22 = .ok (.iconst 0, 1) := by decide +kernel
theorem dX1_forgetAll_23 : decode cX1_forgetAll 23 = .ok (.putfield 35, 3) := by decide +kernel
theorem dX1_forgetAll_26 : decode cX1_forgetAll 26 = .ok (.aload_n 0, 1) := by decide +kernel
theorem dX1_forgetAll_27 : decode cX1_forgetAll 27 = .ok (.iconst 0, 1) := by decide +kernel
theorem dX1_forgetAll_28 : decode cX1_forgetAll 28 = .ok (.putfield 38, 3) := by decide +kernel
theorem dX1_forgetAll_31 : decode cX1_forgetAll 31 = .ok (.aload_n 0, 1) := by decide +kernel
theorem dX1_forgetAll_32 : decode cX1_forgetAll 32 = .ok (.iconst 0, 1) := by decide +kernel
theorem dX1_forgetAll_33 : decode cX1_forgetAll 33 = .ok (.putfield 41, 3) := by decide +kernel
theorem dX1_forgetAll_36 : decode cX1_forgetAll 36 = .ok (.aload_n 0, 1) := by decide +kernel
theorem dX1_forgetAll_37 : decode cX1_forgetAll 37 = .ok (.iconst 0, 1) := by decide +kernel
theorem dX1_forgetAll_38 : decode cX1_forgetAll 38 = .ok (.putfield 44, 3) := by decide +kernel
theorem dX1_forgetAll_41 : decode cX1_forgetAll 41 = .ok (.aload_n 0, 1) := by decide +kernel
theorem dX1_forgetAll_42 : decode cX1_forgetAll 42 = .ok (.sipush 255, 3) := by decide +kernel
theorem dX1_forgetAll_45 : decode cX1_forgetAll 45 = .ok (.putfield 47, 3) := by decide +kernel
theorem dX1_forgetAll_48 : decode cX1_forgetAll 48 = .ok (.aload_n 0, 1) := by decide +kernel
theorem dX1_forgetAll_49 : decode cX1_forgetAll 49 = .ok (.iconst 0, 1) := by decide +kernel
theorem dX1_forgetAll_50 : decode cX1_forgetAll 50 = .ok (.putfield 50, 3) := by decide +kernel
theorem dX1_forgetAll_53 : decode cX1_forgetAll 53 = .ok (.aload_n 0, 1) := by decide +kernel
theorem dX1_forgetAll_54 : decode cX1_forgetAll 54 = .ok (.iconst 0, 1) := by decide +kernel
theorem dX1_forgetAll_55 : decode cX1_forgetAll 55 = .ok (.putfield 53, 3) := by decide +kernel
theorem dX1_forgetAll_58 : decode cX1_forgetAll 58 = .ok (.aload_n 0, 1) := by decide +kernel
theorem dX1_forgetAll_59 : decode cX1_forgetAll 59 = .ok (.sipush 255, 3) := by decide +kernel
theorem dX1_forgetAll_62 : decode cX1_forgetAll 62 = .ok (.putfield 56, 3) := by decide +kernel
theorem dX1_forgetAll_65 : decode cX1_forgetAll 65 = .ok (.return_, 1) := by decide +kernel
set_option maxRecDepth 20000 in
theorem ggX1_read_X1_forgetAll : GoodIn wsX1_read wsX1_forgetAll := goodIn_r _ [7, 8, 2, 1, 9, 10, 11, 12, 13, 14, 15, 16, 17, 82, 83, 84, 85, 86, 87, 88, 89, 90, 91, 92, 93, 94, 95] (by decide +kernel) (by decide +kernel)
set_option maxRecDepth 20000 in
theorem gX1_read_X1_forgetAll : GoodIn wsX1_read (wsV RX1 18 RX1 yX1_forgetAll wsX1_forgetAll) := goodIn_app (goodIn_of _ (by decide +kernel)) ggX1_read_X1_forgetAll
set_option maxRecDepth 20000 in
theorem ggX1_read_X4_codeAt : GoodIn wsX1_read wsX4_codeAt := goodIn_r _ [22, 23, 24, 25, 26, 27, 96, 97] (by decide +kernel) (by decide +kernel)
set_option maxRecDepth 20000 in
theorem gX1_read_X4_codeAt : GoodIn wsX1_read (wsV RX1 59 RX4 yX4_codeAt wsX4_codeAt) := goodIn_app (goodIn_of _ (by decide +kernel)) ggX1_read_X4_codeAt
set_option maxRecDepth 20000 in
theorem ggX1_read_X4_length : GoodIn wsX1_read wsX4_length := goodIn_r _ [31, 23, 96, 97] (by decide +kernel) (by decide +kernel)
set_option maxRecDepth 20000 in
theorem gX1_read_X4_length : GoodIn wsX1_read (wsV RX1 65 RX4 yX4_length wsX4_length) := goodIn_app (goodIn_of _ (by decide +kernel)) ggX1_read_X4_length
set_option maxRecDepth 20000 in
theorem ggX1_read_X1_noteSpokenTo : GoodIn wsX1_read wsX1_noteSpokenTo := goodIn_r _ [35, 11, 12, 36, 26, 37, 82, 83, 84, 85, 86, 87, 88, 89, 90, 91, 92, 93, 94, 95] (by decide +kernel) (by decide +kernel)
set_option maxRecDepth 20000 in
theorem gX1_read_X1_noteSpokenTo : GoodIn wsX1_read (wsV RX1 69 RX1 yX1_noteSpokenTo wsX1_noteSpokenTo) := goodIn_app (goodIn_of _ (by decide +kernel)) ggX1_read_X1_noteSpokenTo
set_option maxRecDepth 20000 in
theorem ggX1_read_X1_addItem : GoodIn wsX1_read wsX1_addItem := goodIn_r _ [41, 8, 42, 43, 11, 10, 25, 26, 27, 36, 37, 82, 83, 84, 85, 86, 87, 88, 89, 90, 91, 92, 93, 94, 95] (by decide +kernel) (by decide +kernel)
set_option maxRecDepth 20000 in
theorem gX1_read_X1_addItem : GoodIn wsX1_read (wsV RX1 73 RX1 yX1_addItem wsX1_addItem) := goodIn_app (goodIn_of _ (by decide +kernel)) ggX1_read_X1_addItem
set_option maxRecDepth 20000 in
theorem ggX1_read_X1_noteVerbs : GoodIn wsX1_read wsX1_noteVerbs := goodIn_r _ [47, 8, 13, 48, 49, 50, 6, 51, 52, 53, 54, 55, 42, 25, 26, 27, 56, 57, 58, 59, 60, 61, 62, 63, 64, 65, 66, 67, 68, 69, 70, 71, 72, 73, 14, 15, 16, 74, 75, 76, 77, 43, 36, 37, 82, 83, 84, 85, 86, 87, 88, 89, 90, 91, 92, 93, 94, 95] (by decide +kernel) (by decide +kernel)
set_option maxRecDepth 20000 in
theorem gX1_read_X1_noteVerbs : GoodIn wsX1_read (wsV RX1 76 RX1 yX1_noteVerbs wsX1_noteVerbs) := goodIn_app (goodIn_of _ (by decide +kernel)) ggX1_read_X1_noteVerbs
set_option maxRecDepth 20000 in
theorem ggX1_read_X1_noteDoer : GoodIn wsX1_read wsX1_noteDoer := goodIn_r _ [81, 13, 17, 52, 53, 54, 6, 55, 8, 42, 25, 26, 27, 74, 75, 76, 77, 43, 36, 37, 82, 83, 84, 85, 86, 87, 88, 89, 90, 91, 92, 93, 94, 95] (by decide +kernel) (by decide +kernel)
set_option maxRecDepth 20000 in
theorem gX1_read_X1_noteDoer : GoodIn wsX1_read (wsV RX1 79 RX1 yX1_noteDoer wsX1_noteDoer) := goodIn_app (goodIn_of _ (by decide +kernel)) ggX1_read_X1_noteDoer
theorem dX1_read_0 : decode cX1_read 0 = .ok (.aload_n 0, 1) := by decide +kernel
theorem dX1_read_1 : decode cX1_read 1 = .ok (.invokevirtual 18, 3) := by decide +kernel
theorem dX1_read_4 : decode cX1_read 4 = .ok (.aload_n 0, 1) := by decide +kernel
theorem dX1_read_5 : decode cX1_read 5 = .ok (.iload_n 2, 1) := by decide +kernel
theorem dX1_read_6 : decode cX1_read 6 = .ok (.putfield 29, 3) := by decide +kernel
theorem dX1_read_9 : decode cX1_read 9 = .ok (.aload_n 0, 1) := by decide +kernel
theorem dX1_read_10 : decode cX1_read 10 = .ok (.aload_n 1, 1) := by decide +kernel
theorem dX1_read_11 : decode cX1_read 11 = .ok (.iconst 0, 1) := by decide +kernel
theorem dX1_read_12 : decode cX1_read 12 = .ok (.invokevirtual 59, 3) := by decide +kernel
theorem dX1_read_15 : decode cX1_read 15 = .ok (.bipush 43, 2) := by decide +kernel
theorem dX1_read_17 : decode cX1_read 17 = .ok (.if_icmp .ne 7, 3) := by decide +kernel
theorem dX1_read_20 : decode cX1_read 20 = .ok (.iconst 1, 1) := by decide +kernel
theorem dX1_read_21 : decode cX1_read 21 = .ok (.goto 4, 3) := by decide +kernel
theorem dX1_read_24 : decode cX1_read 24 = .ok (.iconst 0, 1) := by decide +kernel
theorem dX1_read_25 : decode cX1_read 25 = .ok (.putfield 25, 3) := by decide +kernel
theorem dX1_read_28 : decode cX1_read 28 = .ok (.aload_n 0, 1) := by decide +kernel
theorem dX1_read_29 : decode cX1_read 29 = .ok (.getfield 25, 3) := by decide +kernel
theorem dX1_read_32 : decode cX1_read 32 = .ok (.ifCond .eq 7, 3) := by decide +kernel
theorem dX1_read_35 : decode cX1_read 35 = .ok (.iconst 1, 1) := by decide +kernel
theorem dX1_read_36 : decode cX1_read 36 = .ok (.goto 4, 3) := by decide +kernel
theorem dX1_read_39 : decode cX1_read 39 = .ok (.iconst 0, 1) := by decide +kernel
theorem dX1_read_40 : decode cX1_read 40 = .ok (.istore_n 3, 1) := by decide +kernel
theorem dX1_read_41 : decode cX1_read 41 = .ok (.iload_n 3, 1) := by decide +kernel
theorem dX1_read_42 : decode cX1_read 42 = .ok (.aload_n 1, 1) := by decide +kernel
theorem dX1_read_43 : decode cX1_read 43 = .ok (.invokevirtual 65, 3) := by decide +kernel
theorem dX1_read_46 : decode cX1_read 46 = .ok (.if_icmp .ge 53, 3) := by decide +kernel
theorem dX1_read_49 : decode cX1_read 49 = .ok (.aload_n 1, 1) := by decide +kernel
theorem dX1_read_50 : decode cX1_read 50 = .ok (.iload_n 3, 1) := by decide +kernel
theorem dX1_read_51 : decode cX1_read 51 = .ok (.invokevirtual 59, 3) := by decide +kernel
theorem dX1_read_54 : decode cX1_read 54 = .ok (.istore 4, 2) := by decide +kernel
theorem dX1_read_56 : decode cX1_read 56 = .ok (.aload_n 1, 1) := by decide +kernel
theorem dX1_read_57 : decode cX1_read 57 = .ok (.iload_n 3, 1) := by decide +kernel
theorem dX1_read_58 : decode cX1_read 58 = .ok (.iconst 1, 1) := by decide +kernel
theorem dX1_read_59 : decode cX1_read 59 = .ok (.isub, 1) := by decide +kernel
theorem dX1_read_60 : decode cX1_read 60 = .ok (.invokevirtual 59, 3) := by decide +kernel
theorem dX1_read_63 : decode cX1_read 63 = .ok (.bipush 64, 2) := by decide +kernel
theorem dX1_read_65 : decode cX1_read 65 = .ok (.if_icmp .ne 15, 3) := by decide +kernel
theorem dX1_read_68 : decode cX1_read 68 = .ok (.aload_n 0, 1) := by decide +kernel
theorem dX1_read_69 : decode cX1_read 69 = .ok (.iload 4, 2) := by decide +kernel
theorem dX1_read_71 : decode cX1_read 71 = .ok (.bipush 65, 2) := by decide +kernel
theorem dX1_read_73 : decode cX1_read 73 = .ok (.isub, 1) := by decide +kernel
theorem dX1_read_74 : decode cX1_read 74 = .ok (.invokevirtual 69, 3) := by decide +kernel
theorem dX1_read_77 : decode cX1_read 77 = .ok (.goto 16, 3) := by decide +kernel
theorem dX1_read_80 : decode cX1_read 80 = .ok (.iload 4, 2) := by decide +kernel
theorem dX1_read_82 : decode cX1_read 82 = .ok (.bipush 64, 2) := by decide +kernel
theorem dX1_read_84 : decode cX1_read 84 = .ok (.if_icmp .eq 9, 3) := by decide +kernel
theorem dX1_read_87 : decode cX1_read 87 = .ok (.aload_n 0, 1) := by decide +kernel
theorem dX1_read_88 : decode cX1_read 88 = .ok (.iload 4, 2) := by decide +kernel
theorem dX1_read_90 : decode cX1_read 90 = .ok (.invokevirtual 73, 3) := by decide +kernel
theorem dX1_read_93 : decode cX1_read 93 = .ok (.iinc 3 1, 3) := by decide +kernel
theorem dX1_read_96 : decode cX1_read 96 = .ok (.goto (-55), 3) := by decide +kernel
theorem dX1_read_99 : decode cX1_read 99 = .ok (.aload_n 0, 1) := by decide +kernel
theorem dX1_read_100 : decode cX1_read 100 = .ok (.invokevirtual 76, 3) := by decide +kernel
theorem dX1_read_103 : decode cX1_read 103 = .ok (.aload_n 0, 1) := by decide +kernel
theorem dX1_read_104 : decode cX1_read 104 = .ok (.invokevirtual 79, 3) := by decide +kernel
theorem dX1_read_107 : decode cX1_read 107 = .ok (.return_, 1) := by decide +kernel
set_option maxRecDepth 20000 in
theorem ggX1_addItem_X5_isWithin : GoodIn wsX1_addItem wsX5_isWithin := goodIn_r _ [8] (by decide +kernel) (by decide +kernel)
set_option maxRecDepth 20000 in
theorem gX1_addItem_X5_isWithin_n82 : GoodIn wsX1_addItem (wsX5_isWithin) := ggX1_addItem_X5_isWithin
set_option maxRecDepth 20000 in
theorem ggX1_addItem_X5_bitOf : GoodIn wsX1_addItem wsX5_bitOf := goodIn_r _ [10] (by decide +kernel) (by decide +kernel)
set_option maxRecDepth 20000 in
theorem gX1_addItem_X5_bitOf_n86 : GoodIn wsX1_addItem (wsX5_bitOf) := ggX1_addItem_X5_bitOf
theorem dX1_addItem_0 : decode cX1_addItem 0 = .ok (.aload_n 0, 1) := by decide +kernel
theorem dX1_addItem_1 : decode cX1_addItem 1 = .ok (.getfield 21, 3) := by decide +kernel
theorem dX1_addItem_4 : decode cX1_addItem 4 = .ok (.aload_n 0, 1) := by decide +kernel
theorem dX1_addItem_5 : decode cX1_addItem 5 = .ok (.getfield 9, 3) := by decide +kernel
theorem dX1_addItem_8 : decode cX1_addItem 8 = .ok (.arraylength, 1) := by decide +kernel
theorem dX1_addItem_9 : decode cX1_addItem 9 = .ok (.invokestatic 82, 3) := by decide +kernel
theorem dX1_addItem_12 : decode cX1_addItem 12 = .ok (.ifCond .eq 18, 3) := by decide +kernel
theorem dX1_addItem_15 : decode cX1_addItem 15 = .ok (.aload_n 0, 1) := by decide +kernel
theorem dX1_addItem_16 : decode cX1_addItem 16 = .ok (.getfield 21, 3) := by decide +kernel
theorem dX1_addItem_19 : decode cX1_addItem 19 = .ok (.aload_n 0, 1) := by decide +kernel
theorem dX1_addItem_20 : decode cX1_addItem 20 = .ok (.getfield 15, 3) := by decide +kernel
theorem dX1_addItem_23 : decode cX1_addItem 23 = .ok (.arraylength, 1) := by decide +kernel
theorem dX1_addItem_24 : decode cX1_addItem 24 = .ok (.invokestatic 82, 3) := by decide +kernel
theorem dX1_addItem_27 : decode cX1_addItem 27 = .ok (.ifCond .ne 4, 3) := by decide +kernel
theorem dX1_addItem_30 : decode cX1_addItem 30 = .ok (.return_, 1) := by decide +kernel
theorem dX1_addItem_31 : decode cX1_addItem 31 = .ok (.iload_n 1, 1) := by decide +kernel
theorem dX1_addItem_32 : decode cX1_addItem 32 = .ok (.bipush 65, 2) := by decide +kernel
theorem dX1_addItem_34 : decode cX1_addItem 34 = .ok (.isub, 1) := by decide +kernel
theorem dX1_addItem_35 : decode cX1_addItem 35 = .ok (.istore_n 2, 1) := by decide +kernel
theorem dX1_addItem_36 : decode cX1_addItem 36 = .ok (.iload_n 2, 1) := by decide +kernel
theorem dX1_addItem_37 : decode cX1_addItem 37 = .ok (.bipush 8, 2) := by decide +kernel
theorem dX1_addItem_39 : decode cX1_addItem 39 = .ok (.invokestatic 82, 3) := by decide +kernel
theorem dX1_addItem_42 : decode cX1_addItem 42 = .ok (.istore_n 3, 1) := by decide +kernel
theorem dX1_addItem_43 : decode cX1_addItem 43 = .ok (.aload_n 0, 1) := by decide +kernel
theorem dX1_addItem_44 : decode cX1_addItem 44 = .ok (.getfield 9, 3) := by decide +kernel
theorem dX1_addItem_47 : decode cX1_addItem 47 = .ok (.aload_n 0, 1) := by decide +kernel
theorem dX1_addItem_48 : decode cX1_addItem 48 = .ok (.getfield 21, 3) := by decide +kernel
theorem dX1_addItem_51 : decode cX1_addItem 51 = .ok (.iload_n 3, 1) := by decide +kernel
theorem dX1_addItem_52 : decode cX1_addItem 52 = .ok (.ifCond .eq 8, 3) := by decide +kernel
theorem dX1_addItem_55 : decode cX1_addItem 55 = .ok (.bipush 65, 2) := by decide +kernel
theorem dX1_addItem_57 : decode cX1_addItem 57 = .ok (.goto 4, 3) := by decide +kernel
theorem dX1_addItem_60 : decode cX1_addItem 60 = .ok (.iload_n 1, 1) := by decide +kernel
theorem dX1_addItem_61 : decode cX1_addItem 61 = .ok (.iastore, 1) := by decide +kernel
theorem dX1_addItem_62 : decode cX1_addItem 62 = .ok (.aload_n 0, 1) := by decide +kernel
theorem dX1_addItem_63 : decode cX1_addItem 63 = .ok (.getfield 15, 3) := by decide +kernel
theorem dX1_addItem_66 : decode cX1_addItem 66 = .ok (.aload_n 0, 1) := by decide +kernel
theorem dX1_addItem_67 : decode cX1_addItem 67 = .ok (.getfield 21, 3) := by decide +kernel
theorem dX1_addItem_70 : decode cX1_addItem 70 = .ok (.iload_n 3, 1) := by decide +kernel
theorem dX1_addItem_71 : decode cX1_addItem 71 = .ok (.ifCond .eq 7, 3) := by decide +kernel
theorem dX1_addItem_74 : decode cX1_addItem 74 = .ok (.iload_n 2, 1) := by decide +kernel
theorem dX1_addItem_75 : decode cX1_addItem 75 = .ok (.goto 4, 3) := by decide +kernel
theorem dX1_addItem_78 : decode cX1_addItem 78 = .ok (.iconst (-1), 1) := by decide +kernel
theorem dX1_addItem_79 : decode cX1_addItem 79 = .ok (.iastore, 1) := by decide +kernel
theorem dX1_addItem_80 : decode cX1_addItem 80 = .ok (.aload_n 0, 1) := by decide +kernel
theorem dX1_addItem_81 : decode cX1_addItem 81 = .ok (.dup, 1) := by decide +kernel
theorem dX1_addItem_82 : decode cX1_addItem 82 = .ok (.getfield 38, 3) := by decide +kernel
theorem dX1_addItem_85 : decode cX1_addItem 85 = .ok (.iload_n 2, 1) := by decide +kernel
theorem dX1_addItem_86 : decode cX1_addItem 86 = .ok (.invokestatic 86, 3) := by decide +kernel
theorem dX1_addItem_89 : decode cX1_addItem 89 = .ok (.ior, 1) := by decide +kernel
theorem dX1_addItem_90 : decode cX1_addItem 90 = .ok (.putfield 38, 3) := by decide +kernel
theorem dX1_addItem_93 : decode cX1_addItem 93 = .ok (.aload_n 0, 1) := by decide +kernel
theorem dX1_addItem_94 : decode cX1_addItem 94 = .ok (.dup, 1) := by decide +kernel
theorem dX1_addItem_95 : decode cX1_addItem 95 = .ok (.getfield 21, 3) := by decide +kernel
theorem dX1_addItem_98 : decode cX1_addItem 98 = .ok (.iconst 1, 1) := by decide +kernel
theorem dX1_addItem_99 : decode cX1_addItem 99 = .ok (.iadd, 1) := by decide +kernel
theorem dX1_addItem_100 : decode cX1_addItem 100 = .ok (.putfield 21, 3) := by decide +kernel
theorem dX1_addItem_103 : decode cX1_addItem 103 = .ok (.iload_n 1, 1) := by decide +kernel
theorem dX1_addItem_104 : decode cX1_addItem 104 = .ok (.bipush 113, 2) := by decide +kernel
theorem dX1_addItem_106 : decode cX1_addItem 106 = .ok (.if_icmp .ne 13, 3) := by decide +kernel
theorem dX1_addItem_109 : decode cX1_addItem 109 = .ok (.aload_n 0, 1) := by decide +kernel
theorem dX1_addItem_110 : decode cX1_addItem 110 = .ok (.dup, 1) := by decide +kernel
theorem dX1_addItem_111 : decode cX1_addItem 111 = .ok (.getfield 35, 3) := by decide +kernel
theorem dX1_addItem_114 : decode cX1_addItem 114 = .ok (.iconst 1, 1) := by decide +kernel
theorem dX1_addItem_115 : decode cX1_addItem 115 = .ok (.iadd, 1) := by decide +kernel
theorem dX1_addItem_116 : decode cX1_addItem 116 = .ok (.putfield 35, 3) := by decide +kernel
theorem dX1_addItem_119 : decode cX1_addItem 119 = .ok (.return_, 1) := by decide +kernel
set_option maxRecDepth 20000 in
theorem ggX1_noteSpokenTo_X5_bitOf : GoodIn wsX1_noteSpokenTo wsX5_bitOf := goodIn_r _ [5] (by decide +kernel) (by decide +kernel)
set_option maxRecDepth 20000 in
theorem gX1_noteSpokenTo_X5_bitOf_n86 : GoodIn wsX1_noteSpokenTo (wsX5_bitOf) := ggX1_noteSpokenTo_X5_bitOf
theorem dX1_noteSpokenTo_0 : decode cX1_noteSpokenTo 0 = .ok (.aload_n 0, 1) := by decide +kernel
theorem dX1_noteSpokenTo_1 : decode cX1_noteSpokenTo 1 = .ok (.dup, 1) := by decide +kernel
theorem dX1_noteSpokenTo_2 : decode cX1_noteSpokenTo 2 = .ok (.getfield 38, 3) := by decide +kernel
theorem dX1_noteSpokenTo_5 : decode cX1_noteSpokenTo 5 = .ok (.iload_n 1, 1) := by decide +kernel
theorem dX1_noteSpokenTo_6 : decode cX1_noteSpokenTo 6 = .ok (.invokestatic 86, 3) := by decide +kernel
theorem dX1_noteSpokenTo_9 : decode cX1_noteSpokenTo 9 = .ok (.ior, 1) := by decide +kernel
theorem dX1_noteSpokenTo_10 : decode cX1_noteSpokenTo 10 = .ok (.putfield 38, 3) := by decide +kernel
theorem dX1_noteSpokenTo_13 : decode cX1_noteSpokenTo 13 = .ok (.aload_n 0, 1) := by decide +kernel
theorem dX1_noteSpokenTo_14 : decode cX1_noteSpokenTo 14 = .ok (.dup, 1) := by decide +kernel
theorem dX1_noteSpokenTo_15 : decode cX1_noteSpokenTo 15 = .ok (.getfield 41, 3) := by decide +kernel
theorem dX1_noteSpokenTo_18 : decode cX1_noteSpokenTo 18 = .ok (.iload_n 1, 1) := by decide +kernel
theorem dX1_noteSpokenTo_19 : decode cX1_noteSpokenTo 19 = .ok (.invokestatic 86, 3) := by decide +kernel
theorem dX1_noteSpokenTo_22 : decode cX1_noteSpokenTo 22 = .ok (.ior, 1) := by decide +kernel
theorem dX1_noteSpokenTo_23 : decode cX1_noteSpokenTo 23 = .ok (.putfield 41, 3) := by decide +kernel
theorem dX1_noteSpokenTo_26 : decode cX1_noteSpokenTo 26 = .ok (.return_, 1) := by decide +kernel
set_option maxRecDepth 20000 in
theorem ggX1_noteVerbs_X1_whoPlace : GoodIn wsX1_noteVerbs wsX1_whoPlace := goodIn_r _ [7, 8, 9, 10, 6, 11, 1, 12, 13, 14, 15, 16, 17, 18, 44, 45, 46, 47, 48, 49, 50, 51, 52, 53, 54, 55, 56, 57] (by decide +kernel) (by decide +kernel)
set_option maxRecDepth 20000 in
theorem gX1_noteVerbs_X1_whoPlace : GoodIn wsX1_noteVerbs (wsV RX1 89 RX1 yX1_whoPlace wsX1_whoPlace) := goodIn_app (goodIn_of _ (by decide +kernel)) ggX1_noteVerbs_X1_whoPlace
set_option maxRecDepth 20000 in
theorem ggX1_noteVerbs_X1_verbCounts : GoodIn wsX1_noteVerbs wsX1_verbCounts := goodIn_r _ [22, 23, 24, 25, 26, 27, 28, 29, 8, 9, 10, 6, 11, 1, 12, 13, 14, 15, 44, 45, 46, 47, 48, 49, 50, 51, 52, 53, 54, 55, 56, 57] (by decide +kernel) (by decide +kernel)
set_option maxRecDepth 20000 in
theorem gX1_noteVerbs_X1_verbCounts : GoodIn wsX1_noteVerbs (wsV RX1 92 RX1 yX1_verbCounts wsX1_verbCounts) := goodIn_app (goodIn_of _ (by decide +kernel)) ggX1_noteVerbs_X1_verbCounts
set_option maxRecDepth 20000 in
theorem ggX1_noteVerbs_X1_noteWho : GoodIn wsX1_noteVerbs wsX1_noteWho := goodIn_r _ [33, 34, 35, 36, 8, 9, 10, 6, 11, 1, 12, 13, 14, 15, 37, 38, 39, 40, 41, 42, 43, 44, 45, 46, 47, 48, 49, 50, 51, 52, 53, 54, 55, 56, 57] (by decide +kernel) (by decide +kernel)
set_option maxRecDepth 20000 in
theorem gX1_noteVerbs_X1_noteWho : GoodIn wsX1_noteVerbs (wsV RX1 95 RX1 yX1_noteWho wsX1_noteWho) := goodIn_app (goodIn_of _ (by decide +kernel)) ggX1_noteVerbs_X1_noteWho
theorem dX1_noteVerbs_0 : decode cX1_noteVerbs 0 = .ok (.iconst 0, 1) := by decide +kernel
theorem dX1_noteVerbs_1 : decode cX1_noteVerbs 1 = .ok (.istore_n 1, 1) := by decide +kernel
theorem dX1_noteVerbs_2 : decode cX1_noteVerbs 2 = .ok (.iload_n 1, 1) := by decide +kernel
theorem dX1_noteVerbs_3 : decode cX1_noteVerbs 3 = .ok (.aload_n 0, 1) := by decide +kernel
theorem dX1_noteVerbs_4 : decode cX1_noteVerbs 4 = .ok (.getfield 21, 3) := by decide +kernel
theorem dX1_noteVerbs_7 : decode cX1_noteVerbs 7 = .ok (.if_icmp .ge 39, 3) := by decide +kernel
theorem dX1_noteVerbs_10 : decode cX1_noteVerbs 10 = .ok (.aload_n 0, 1) := by decide +kernel
theorem dX1_noteVerbs_11 : decode cX1_noteVerbs 11 = .ok (.iload_n 1, 1) := by decide +kernel
theorem dX1_noteVerbs_12 : decode cX1_noteVerbs 12 = .ok (.invokevirtual 89, 3) := by decide +kernel
theorem dX1_noteVerbs_15 : decode cX1_noteVerbs 15 = .ok (.istore_n 2, 1) := by decide +kernel
theorem dX1_noteVerbs_16 : decode cX1_noteVerbs 16 = .ok (.aload_n 0, 1) := by decide +kernel
theorem dX1_noteVerbs_17 : decode cX1_noteVerbs 17 = .ok (.iload_n 1, 1) := by decide +kernel
theorem dX1_noteVerbs_18 : decode cX1_noteVerbs 18 = .ok (.iload_n 2, 1) := by decide +kernel
theorem dX1_noteVerbs_19 : decode cX1_noteVerbs 19 = .ok (.invokevirtual 92, 3) := by decide +kernel
theorem dX1_noteVerbs_22 : decode cX1_noteVerbs 22 = .ok (.ifCond .eq 18, 3) := by decide +kernel
theorem dX1_noteVerbs_25 : decode cX1_noteVerbs 25 = .ok (.aload_n 0, 1) := by decide +kernel
theorem dX1_noteVerbs_26 : decode cX1_noteVerbs 26 = .ok (.dup, 1) := by decide +kernel
theorem dX1_noteVerbs_27 : decode cX1_noteVerbs 27 = .ok (.getfield 44, 3) := by decide +kernel
theorem dX1_noteVerbs_30 : decode cX1_noteVerbs 30 = .ok (.iconst 1, 1) := by decide +kernel
theorem dX1_noteVerbs_31 : decode cX1_noteVerbs 31 = .ok (.iadd, 1) := by decide +kernel
theorem dX1_noteVerbs_32 : decode cX1_noteVerbs 32 = .ok (.putfield 44, 3) := by decide +kernel
theorem dX1_noteVerbs_35 : decode cX1_noteVerbs 35 = .ok (.aload_n 0, 1) := by decide +kernel
theorem dX1_noteVerbs_36 : decode cX1_noteVerbs 36 = .ok (.iload_n 2, 1) := by decide +kernel
theorem dX1_noteVerbs_37 : decode cX1_noteVerbs 37 = .ok (.invokevirtual 95, 3) := by decide +kernel
theorem dX1_noteVerbs_40 : decode cX1_noteVerbs 40 = .ok (.iinc 1 1, 3) := by decide +kernel
theorem dX1_noteVerbs_43 : decode cX1_noteVerbs 43 = .ok (.goto (-41), 3) := by decide +kernel
theorem dX1_noteVerbs_46 : decode cX1_noteVerbs 46 = .ok (.return_, 1) := by decide +kernel
set_option maxRecDepth 20000 in
theorem ggX1_noteWho_X1_kindAt : GoodIn wsX1_noteWho wsX1_kindAt := goodIn_r _ [8, 9, 10, 11, 12, 13, 21, 22, 23, 24, 25, 26, 27, 28, 29, 30, 31, 32, 33, 34] (by decide +kernel) (by decide +kernel)
set_option maxRecDepth 20000 in
theorem gX1_noteWho_X1_kindAt : GoodIn wsX1_noteWho (wsV RX1 98 RX1 yX1_kindAt wsX1_kindAt) := goodIn_app (goodIn_of _ (by decide +kernel)) ggX1_noteWho_X1_kindAt
set_option maxRecDepth 20000 in
theorem ggX1_noteWho_X1_personAt : GoodIn wsX1_noteWho wsX1_personAt := goodIn_r _ [17, 9, 18, 11, 12, 13, 21, 22, 23, 24, 25, 26, 27, 28, 29, 30, 31, 32, 33, 34] (by decide +kernel) (by decide +kernel)
set_option maxRecDepth 20000 in
theorem gX1_noteWho_X1_personAt : GoodIn wsX1_noteWho (wsV RX1 101 RX1 yX1_personAt wsX1_personAt) := goodIn_app (goodIn_of _ (by decide +kernel)) ggX1_noteWho_X1_personAt
set_option maxRecDepth 20000 in
theorem ggX1_noteWho_X5_bitOf : GoodIn wsX1_noteWho wsX5_bitOf := goodIn_r _ [20] (by decide +kernel) (by decide +kernel)
set_option maxRecDepth 20000 in
theorem gX1_noteWho_X5_bitOf_n86 : GoodIn wsX1_noteWho (wsX5_bitOf) := ggX1_noteWho_X5_bitOf
theorem dX1_noteWho_0 : decode cX1_noteWho 0 = .ok (.aload_n 0, 1) := by decide +kernel
theorem dX1_noteWho_1 : decode cX1_noteWho 1 = .ok (.iload_n 1, 1) := by decide +kernel
theorem dX1_noteWho_2 : decode cX1_noteWho 2 = .ok (.invokevirtual 98, 3) := by decide +kernel
theorem dX1_noteWho_5 : decode cX1_noteWho 5 = .ok (.lookupswitch 71 #[(65, 35), (104, 55), (115, 63)], 35) := by decide +kernel
theorem dX1_noteWho_40 : decode cX1_noteWho 40 = .ok (.aload_n 0, 1) := by decide +kernel
theorem dX1_noteWho_41 : decode cX1_noteWho 41 = .ok (.dup, 1) := by decide +kernel
theorem dX1_noteWho_42 : decode cX1_noteWho 42 = .ok (.getfield 47, 3) := by decide +kernel
theorem dX1_noteWho_45 : decode cX1_noteWho 45 = .ok (.aload_n 0, 1) := by decide +kernel
theorem dX1_noteWho_46 : decode cX1_noteWho 46 = .ok (.iload_n 1, 1) := by decide +kernel
theorem dX1_noteWho_47 : decode cX1_noteWho 47 = .ok (.invokevirtual 101, 3) := by decide +kernel
theorem dX1_noteWho_50 : decode cX1_noteWho 50 = .ok (.invokestatic 86, 3) := by decide +kernel
theorem dX1_noteWho_53 : decode cX1_noteWho 53 = .ok (.iand, 1) := by decide +kernel
theorem dX1_noteWho_54 : decode cX1_noteWho 54 = .ok (.putfield 47, 3) := by decide +kernel
theorem dX1_noteWho_57 : decode cX1_noteWho 57 = .ok (.goto 19, 3) := by decide +kernel
theorem dX1_noteWho_60 : decode cX1_noteWho 60 = .ok (.aload_n 0, 1) := by decide +kernel
theorem dX1_noteWho_61 : decode cX1_noteWho 61 = .ok (.iconst 1, 1) := by decide +kernel
theorem dX1_noteWho_62 : decode cX1_noteWho 62 = .ok (.putfield 50, 3) := by decide +kernel
theorem dX1_noteWho_65 : decode cX1_noteWho 65 = .ok (.goto 11, 3) := by decide +kernel
theorem dX1_noteWho_68 : decode cX1_noteWho 68 = .ok (.aload_n 0, 1) := by decide +kernel
theorem dX1_noteWho_69 : decode cX1_noteWho 69 = .ok (.iconst 1, 1) := by decide +kernel
theorem dX1_noteWho_70 : decode cX1_noteWho 70 = .ok (.putfield 53, 3) := by decide +kernel
theorem dX1_noteWho_73 : decode cX1_noteWho 73 = .ok (.goto 3, 3) := by decide +kernel
theorem dX1_noteWho_76 : decode cX1_noteWho 76 = .ok (.return_, 1) := by decide +kernel
set_option maxRecDepth 20000 in
theorem ggX1_noteDoer_X1_kindAt : GoodIn wsX1_noteDoer wsX1_kindAt := goodIn_r _ [7, 8, 9, 10, 11, 12, 20, 21, 22, 23, 24, 25, 26, 27, 28, 29, 30, 31, 32, 33] (by decide +kernel) (by decide +kernel)
set_option maxRecDepth 20000 in
theorem gX1_noteDoer_X1_kindAt : GoodIn wsX1_noteDoer (wsV RX1 98 RX1 yX1_kindAt wsX1_kindAt) := goodIn_app (goodIn_of _ (by decide +kernel)) ggX1_noteDoer_X1_kindAt
set_option maxRecDepth 20000 in
theorem ggX1_noteDoer_X1_personAt : GoodIn wsX1_noteDoer wsX1_personAt := goodIn_r _ [16, 8, 17, 10, 11, 12, 20, 21, 22, 23, 24, 25, 26, 27, 28, 29, 30, 31, 32, 33] (by decide +kernel) (by decide +kernel)
set_option maxRecDepth 20000 in
theorem gX1_noteDoer_X1_personAt : GoodIn wsX1_noteDoer (wsV RX1 101 RX1 yX1_personAt wsX1_personAt) := goodIn_app (goodIn_of _ (by decide +kernel)) ggX1_noteDoer_X1_personAt
set_option maxRecDepth 20000 in
theorem ggX1_noteDoer_X5_bitOf : GoodIn wsX1_noteDoer wsX5_bitOf := goodIn_r _ [19] (by decide +kernel) (by decide +kernel)
set_option maxRecDepth 20000 in
theorem gX1_noteDoer_X5_bitOf_n86 : GoodIn wsX1_noteDoer (wsX5_bitOf) := ggX1_noteDoer_X5_bitOf
theorem dX1_noteDoer_0 : decode cX1_noteDoer 0 = .ok (.aload_n 0, 1) := by decide +kernel
theorem dX1_noteDoer_1 : decode cX1_noteDoer 1 = .ok (.getfield 44, 3) := by decide +kernel
theorem dX1_noteDoer_4 : decode cX1_noteDoer 4 = .ok (.ifCond .ne 35, 3) := by decide +kernel
theorem dX1_noteDoer_7 : decode cX1_noteDoer 7 = .ok (.aload_n 0, 1) := by decide +kernel
theorem dX1_noteDoer_8 : decode cX1_noteDoer 8 = .ok (.iconst 0, 1) := by decide +kernel
theorem dX1_noteDoer_9 : decode cX1_noteDoer 9 = .ok (.invokevirtual 98, 3) := by decide +kernel
theorem dX1_noteDoer_12 : decode cX1_noteDoer 12 = .ok (.bipush 65, 2) := by decide +kernel
theorem dX1_noteDoer_14 : decode cX1_noteDoer 14 = .ok (.if_icmp .ne 25, 3) := by decide +kernel
theorem dX1_noteDoer_17 : decode cX1_noteDoer 17 = .ok (.aload_n 0, 1) := by decide +kernel
theorem dX1_noteDoer_18 : decode cX1_noteDoer 18 = .ok (.iconst 1, 1) := by decide +kernel
theorem dX1_noteDoer_19 : decode cX1_noteDoer 19 = .ok (.invokevirtual 98, 3) := by decide +kernel
theorem dX1_noteDoer_22 : decode cX1_noteDoer 22 = .ok (.bipush 111, 2) := by decide +kernel
theorem dX1_noteDoer_24 : decode cX1_noteDoer 24 = .ok (.if_icmp .ne 15, 3) := by decide +kernel
theorem dX1_noteDoer_27 : decode cX1_noteDoer 27 = .ok (.aload_n 0, 1) := by decide +kernel
theorem dX1_noteDoer_28 : decode cX1_noteDoer 28 = .ok (.aload_n 0, 1) := by decide +kernel
theorem dX1_noteDoer_29 : decode cX1_noteDoer 29 = .ok (.iconst 0, 1) := by decide +kernel
theorem dX1_noteDoer_30 : decode cX1_noteDoer 30 = .ok (.invokevirtual 101, 3) := by decide +kernel
theorem dX1_noteDoer_33 : decode cX1_noteDoer 33 = .ok (.invokestatic 86, 3) := by decide +kernel
theorem dX1_noteDoer_36 : decode cX1_noteDoer 36 = .ok (.putfield 56, 3) := by decide +kernel
theorem dX1_noteDoer_39 : decode cX1_noteDoer 39 = .ok (.return_, 1) := by decide +kernel
set_option maxRecDepth 20000 in
theorem ggX1_verbCounts_X1_kindAt : GoodIn wsX1_verbCounts wsX1_kindAt := goodIn_r _ [12, 13, 14, 15, 16, 17, 18, 19, 20, 21, 22, 23, 24, 25, 26, 27, 28, 29, 30, 31] (by decide +kernel) (by decide +kernel)
set_option maxRecDepth 20000 in
theorem gX1_verbCounts_X1_kindAt : GoodIn wsX1_verbCounts (wsV RX1 98 RX1 yX1_kindAt wsX1_kindAt) := goodIn_app (goodIn_of _ (by decide +kernel)) ggX1_verbCounts_X1_kindAt
theorem dX1_verbCounts_0 : decode cX1_verbCounts 0 = .ok (.aload_n 0, 1) := by decide +kernel
theorem dX1_verbCounts_1 : decode cX1_verbCounts 1 = .ok (.iload_n 1, 1) := by decide +kernel
theorem dX1_verbCounts_2 : decode cX1_verbCounts 2 = .ok (.invokevirtual 98, 3) := by decide +kernel
theorem dX1_verbCounts_5 : decode cX1_verbCounts 5 = .ok (.bipush 118, 2) := by decide +kernel
theorem dX1_verbCounts_7 : decode cX1_verbCounts 7 = .ok (.if_icmp .ne 9, 3) := by decide +kernel
theorem dX1_verbCounts_10 : decode cX1_verbCounts 10 = .ok (.iload_n 2, 1) := by decide +kernel
theorem dX1_verbCounts_11 : decode cX1_verbCounts 11 = .ok (.bipush (-9), 2) := by decide +kernel
theorem dX1_verbCounts_13 : decode cX1_verbCounts 13 = .ok (.if_icmp .ne 5, 3) := by decide +kernel
theorem dX1_verbCounts_16 : decode cX1_verbCounts 16 = .ok (.iconst 0, 1) := by decide +kernel
theorem dX1_verbCounts_17 : decode cX1_verbCounts 17 = .ok (.ireturn, 1) := by decide +kernel
theorem dX1_verbCounts_18 : decode cX1_verbCounts 18 = .ok (.iload_n 1, 1) := by decide +kernel
theorem dX1_verbCounts_19 : decode cX1_verbCounts 19 = .ok (.iload_n 2, 1) := by decide +kernel
theorem dX1_verbCounts_20 : decode cX1_verbCounts 20 = .ok (.invokestatic 104, 3) := by decide +kernel
theorem dX1_verbCounts_23 : decode cX1_verbCounts 23 = .ok (.iconst 1, 1) := by decide +kernel
theorem dX1_verbCounts_24 : decode cX1_verbCounts 24 = .ok (.isub, 1) := by decide +kernel
theorem dX1_verbCounts_25 : decode cX1_verbCounts 25 = .ok (.istore_n 3, 1) := by decide +kernel
theorem dX1_verbCounts_26 : decode cX1_verbCounts 26 = .ok (.iload_n 1, 1) := by decide +kernel
theorem dX1_verbCounts_27 : decode cX1_verbCounts 27 = .ok (.iload_n 2, 1) := by decide +kernel
theorem dX1_verbCounts_28 : decode cX1_verbCounts 28 = .ok (.invokestatic 110, 3) := by decide +kernel
theorem dX1_verbCounts_31 : decode cX1_verbCounts 31 = .ok (.iconst 1, 1) := by decide +kernel
theorem dX1_verbCounts_32 : decode cX1_verbCounts 32 = .ok (.iadd, 1) := by decide +kernel
theorem dX1_verbCounts_33 : decode cX1_verbCounts 33 = .ok (.istore 4, 2) := by decide +kernel
theorem dX1_verbCounts_35 : decode cX1_verbCounts 35 = .ok (.aload_n 0, 1) := by decide +kernel
theorem dX1_verbCounts_36 : decode cX1_verbCounts 36 = .ok (.iload_n 3, 1) := by decide +kernel
theorem dX1_verbCounts_37 : decode cX1_verbCounts 37 = .ok (.invokevirtual 98, 3) := by decide +kernel
theorem dX1_verbCounts_40 : decode cX1_verbCounts 40 = .ok (.bipush 113, 2) := by decide +kernel
theorem dX1_verbCounts_42 : decode cX1_verbCounts 42 = .ok (.if_icmp .eq 14, 3) := by decide +kernel
theorem dX1_verbCounts_45 : decode cX1_verbCounts 45 = .ok (.aload_n 0, 1) := by decide +kernel
theorem dX1_verbCounts_46 : decode cX1_verbCounts 46 = .ok (.iload 4, 2) := by decide +kernel
theorem dX1_verbCounts_48 : decode cX1_verbCounts 48 = .ok (.invokevirtual 98, 3) := by decide +kernel
theorem dX1_verbCounts_51 : decode cX1_verbCounts 51 = .ok (.bipush 113, 2) := by decide +kernel
theorem dX1_verbCounts_53 : decode cX1_verbCounts 53 = .ok (.if_icmp .ne 7, 3) := by decide +kernel
theorem dX1_verbCounts_56 : decode cX1_verbCounts 56 = .ok (.iconst 1, 1) := by decide +kernel
theorem dX1_verbCounts_57 : decode cX1_verbCounts 57 = .ok (.goto 4, 3) := by decide +kernel
theorem dX1_verbCounts_60 : decode cX1_verbCounts 60 = .ok (.iconst 0, 1) := by decide +kernel
theorem dX1_verbCounts_61 : decode cX1_verbCounts 61 = .ok (.ireturn, 1) := by decide +kernel
set_option maxRecDepth 20000 in
theorem ggX1_whoPlace_X1_kindAt : GoodIn wsX1_whoPlace wsX1_kindAt := goodIn_r _ [5, 6, 7, 8, 9, 10, 14, 15, 16, 17, 18, 19, 20, 21, 22, 23, 24, 25, 26, 27] (by decide +kernel) (by decide +kernel)
set_option maxRecDepth 20000 in
theorem gX1_whoPlace_X1_kindAt : GoodIn wsX1_whoPlace (wsV RX1 98 RX1 yX1_kindAt wsX1_kindAt) := goodIn_app (goodIn_of _ (by decide +kernel)) ggX1_whoPlace_X1_kindAt
set_option maxRecDepth 20000 in
theorem ggX1_whoPlace_X1_isWho : GoodIn wsX1_whoPlace wsX1_isWho := goodIn_r _ [13] (by decide +kernel) (by decide +kernel)
set_option maxRecDepth 20000 in
theorem gX1_whoPlace_X1_isWho : GoodIn wsX1_whoPlace (va_wsS RX1 113 yX1_isWho wsX1_isWho) := goodIn_app (goodIn_of _ (by decide +kernel)) ggX1_whoPlace_X1_isWho
theorem dX1_whoPlace_0 : decode cX1_whoPlace 0 = .ok (.aload_n 0, 1) := by decide +kernel
theorem dX1_whoPlace_1 : decode cX1_whoPlace 1 = .ok (.iload_n 1, 1) := by decide +kernel
theorem dX1_whoPlace_2 : decode cX1_whoPlace 2 = .ok (.iconst 1, 1) := by decide +kernel
theorem dX1_whoPlace_3 : decode cX1_whoPlace 3 = .ok (.iadd, 1) := by decide +kernel
theorem dX1_whoPlace_4 : decode cX1_whoPlace 4 = .ok (.invokevirtual 98, 3) := by decide +kernel
theorem dX1_whoPlace_7 : decode cX1_whoPlace 7 = .ok (.invokestatic 113, 3) := by decide +kernel
theorem dX1_whoPlace_10 : decode cX1_whoPlace 10 = .ok (.ifCond .eq 7, 3) := by decide +kernel
theorem dX1_whoPlace_13 : decode cX1_whoPlace 13 = .ok (.iload_n 1, 1) := by decide +kernel
theorem dX1_whoPlace_14 : decode cX1_whoPlace 14 = .ok (.iconst 1, 1) := by decide +kernel
theorem dX1_whoPlace_15 : decode cX1_whoPlace 15 = .ok (.iadd, 1) := by decide +kernel
theorem dX1_whoPlace_16 : decode cX1_whoPlace 16 = .ok (.ireturn, 1) := by decide +kernel
theorem dX1_whoPlace_17 : decode cX1_whoPlace 17 = .ok (.aload_n 0, 1) := by decide +kernel
theorem dX1_whoPlace_18 : decode cX1_whoPlace 18 = .ok (.iload_n 1, 1) := by decide +kernel
theorem dX1_whoPlace_19 : decode cX1_whoPlace 19 = .ok (.iconst 1, 1) := by decide +kernel
theorem dX1_whoPlace_20 : decode cX1_whoPlace 20 = .ok (.isub, 1) := by decide +kernel
theorem dX1_whoPlace_21 : decode cX1_whoPlace 21 = .ok (.invokevirtual 98, 3) := by decide +kernel
theorem dX1_whoPlace_24 : decode cX1_whoPlace 24 = .ok (.invokestatic 113, 3) := by decide +kernel
theorem dX1_whoPlace_27 : decode cX1_whoPlace 27 = .ok (.ifCond .eq 9, 3) := by decide +kernel
theorem dX1_whoPlace_30 : decode cX1_whoPlace 30 = .ok (.iload_n 1, 1) := by decide +kernel
theorem dX1_whoPlace_31 : decode cX1_whoPlace 31 = .ok (.iconst 1, 1) := by decide +kernel
theorem dX1_whoPlace_32 : decode cX1_whoPlace 32 = .ok (.isub, 1) := by decide +kernel
theorem dX1_whoPlace_33 : decode cX1_whoPlace 33 = .ok (.goto 5, 3) := by decide +kernel
theorem dX1_whoPlace_36 : decode cX1_whoPlace 36 = .ok (.bipush (-9), 2) := by decide +kernel
theorem dX1_whoPlace_38 : decode cX1_whoPlace 38 = .ok (.ireturn, 1) := by decide +kernel
theorem dX1_isWho_0 : decode cX1_isWho 0 = .ok (.iload_n 0, 1) := by decide +kernel
theorem dX1_isWho_1 : decode cX1_isWho 1 = .ok (.bipush 65, 2) := by decide +kernel
theorem dX1_isWho_3 : decode cX1_isWho 3 = .ok (.if_icmp .eq 15, 3) := by decide +kernel
theorem dX1_isWho_6 : decode cX1_isWho 6 = .ok (.iload_n 0, 1) := by decide +kernel
theorem dX1_isWho_7 : decode cX1_isWho 7 = .ok (.bipush 104, 2) := by decide +kernel
theorem dX1_isWho_9 : decode cX1_isWho 9 = .ok (.if_icmp .eq 9, 3) := by decide +kernel
theorem dX1_isWho_12 : decode cX1_isWho 12 = .ok (.iload_n 0, 1) := by decide +kernel
theorem dX1_isWho_13 : decode cX1_isWho 13 = .ok (.bipush 115, 2) := by decide +kernel
theorem dX1_isWho_15 : decode cX1_isWho 15 = .ok (.if_icmp .ne 7, 3) := by decide +kernel
theorem dX1_isWho_18 : decode cX1_isWho 18 = .ok (.iconst 1, 1) := by decide +kernel
theorem dX1_isWho_19 : decode cX1_isWho 19 = .ok (.goto 4, 3) := by decide +kernel
theorem dX1_isWho_22 : decode cX1_isWho 22 = .ok (.iconst 0, 1) := by decide +kernel
theorem dX1_isWho_23 : decode cX1_isWho 23 = .ok (.ireturn, 1) := by decide +kernel
set_option maxRecDepth 20000 in
theorem ggX1_kindAt_X5_isWithin : GoodIn wsX1_kindAt wsX5_isWithin := goodIn_r _ [5] (by decide +kernel) (by decide +kernel)
set_option maxRecDepth 20000 in
theorem gX1_kindAt_X5_isWithin_n82 : GoodIn wsX1_kindAt (wsX5_isWithin) := ggX1_kindAt_X5_isWithin
theorem dX1_kindAt_0 : decode cX1_kindAt 0 = .ok (.iload_n 1, 1) := by decide +kernel
theorem dX1_kindAt_1 : decode cX1_kindAt 1 = .ok (.aload_n 0, 1) := by decide +kernel
theorem dX1_kindAt_2 : decode cX1_kindAt 2 = .ok (.getfield 21, 3) := by decide +kernel
theorem dX1_kindAt_5 : decode cX1_kindAt 5 = .ok (.invokestatic 82, 3) := by decide +kernel
theorem dX1_kindAt_8 : decode cX1_kindAt 8 = .ok (.ifCond .eq 21, 3) := by decide +kernel
theorem dX1_kindAt_11 : decode cX1_kindAt 11 = .ok (.iload_n 1, 1) := by decide +kernel
theorem dX1_kindAt_12 : decode cX1_kindAt 12 = .ok (.aload_n 0, 1) := by decide +kernel
theorem dX1_kindAt_13 : decode cX1_kindAt 13 = .ok (.getfield 9, 3) := by decide +kernel
theorem dX1_kindAt_16 : decode cX1_kindAt 16 = .ok (.arraylength, 1) := by decide +kernel
theorem dX1_kindAt_17 : decode cX1_kindAt 17 = .ok (.if_icmp .ge 12, 3) := by decide +kernel
theorem dX1_kindAt_20 : decode cX1_kindAt 20 = .ok (.aload_n 0, 1) := by decide +kernel
theorem dX1_kindAt_21 : decode cX1_kindAt 21 = .ok (.getfield 9, 3) := by decide +kernel
theorem dX1_kindAt_24 : decode cX1_kindAt 24 = .ok (.iload_n 1, 1) := by decide +kernel
theorem dX1_kindAt_25 : decode cX1_kindAt 25 = .ok (.iaload, 1) := by decide +kernel
theorem dX1_kindAt_26 : decode cX1_kindAt 26 = .ok (.goto 4, 3) := by decide +kernel
theorem dX1_kindAt_29 : decode cX1_kindAt 29 = .ok (.iconst (-1), 1) := by decide +kernel
theorem dX1_kindAt_30 : decode cX1_kindAt 30 = .ok (.ireturn, 1) := by decide +kernel
set_option maxRecDepth 20000 in
theorem ggX1_personAt_X5_isWithin : GoodIn wsX1_personAt wsX5_isWithin := goodIn_r _ [5] (by decide +kernel) (by decide +kernel)
set_option maxRecDepth 20000 in
theorem gX1_personAt_X5_isWithin_n82 : GoodIn wsX1_personAt (wsX5_isWithin) := ggX1_personAt_X5_isWithin
theorem dX1_personAt_0 : decode cX1_personAt 0 = .ok (.iload_n 1, 1) := by decide +kernel
theorem dX1_personAt_1 : decode cX1_personAt 1 = .ok (.aload_n 0, 1) := by decide +kernel
theorem dX1_personAt_2 : decode cX1_personAt 2 = .ok (.getfield 21, 3) := by decide +kernel
theorem dX1_personAt_5 : decode cX1_personAt 5 = .ok (.invokestatic 82, 3) := by decide +kernel
theorem dX1_personAt_8 : decode cX1_personAt 8 = .ok (.ifCond .eq 21, 3) := by decide +kernel
theorem dX1_personAt_11 : decode cX1_personAt 11 = .ok (.iload_n 1, 1) := by decide +kernel
theorem dX1_personAt_12 : decode cX1_personAt 12 = .ok (.aload_n 0, 1) := by decide +kernel
theorem dX1_personAt_13 : decode cX1_personAt 13 = .ok (.getfield 15, 3) := by decide +kernel
theorem dX1_personAt_16 : decode cX1_personAt 16 = .ok (.arraylength, 1) := by decide +kernel
theorem dX1_personAt_17 : decode cX1_personAt 17 = .ok (.if_icmp .ge 12, 3) := by decide +kernel
theorem dX1_personAt_20 : decode cX1_personAt 20 = .ok (.aload_n 0, 1) := by decide +kernel
theorem dX1_personAt_21 : decode cX1_personAt 21 = .ok (.getfield 15, 3) := by decide +kernel
theorem dX1_personAt_24 : decode cX1_personAt 24 = .ok (.iload_n 1, 1) := by decide +kernel
theorem dX1_personAt_25 : decode cX1_personAt 25 = .ok (.iaload, 1) := by decide +kernel
theorem dX1_personAt_26 : decode cX1_personAt 26 = .ok (.goto 4, 3) := by decide +kernel
theorem dX1_personAt_29 : decode cX1_personAt 29 = .ok (.iconst (-1), 1) := by decide +kernel
theorem dX1_personAt_30 : decode cX1_personAt 30 = .ok (.ireturn, 1) := by decide +kernel
theorem dX1_takeHint_0 : decode cX1_takeHint 0 = .ok (.aload_n 0, 1) := by decide +kernel
theorem dX1_takeHint_1 : decode cX1_takeHint 1 = .ok (.iload_n 1, 1) := by decide +kernel
theorem dX1_takeHint_2 : decode cX1_takeHint 2 = .ok (.putfield 32, 3) := by decide +kernel
theorem dX1_takeHint_5 : decode cX1_takeHint 5 = .ok (.return_, 1) := by decide +kernel
theorem dX1_length_0 : decode cX1_length 0 = .ok (.aload_n 0, 1) := by decide +kernel
theorem dX1_length_1 : decode cX1_length 1 = .ok (.getfield 21, 3) := by decide +kernel
theorem dX1_length_4 : decode cX1_length 4 = .ok (.ireturn, 1) := by decide +kernel
theorem dX1_goesOn_0 : decode cX1_goesOn 0 = .ok (.aload_n 0, 1) := by decide +kernel
theorem dX1_goesOn_1 : decode cX1_goesOn 1 = .ok (.getfield 25, 3) := by decide +kernel
theorem dX1_goesOn_4 : decode cX1_goesOn 4 = .ok (.ireturn, 1) := by decide +kernel
theorem dX1_hereThen_0 : decode cX1_hereThen 0 = .ok (.aload_n 0, 1) := by decide +kernel
theorem dX1_hereThen_1 : decode cX1_hereThen 1 = .ok (.getfield 29, 3) := by decide +kernel
theorem dX1_hereThen_4 : decode cX1_hereThen 4 = .ok (.ireturn, 1) := by decide +kernel
theorem dX1_hintSet_0 : decode cX1_hintSet 0 = .ok (.aload_n 0, 1) := by decide +kernel
theorem dX1_hintSet_1 : decode cX1_hintSet 1 = .ok (.getfield 32, 3) := by decide +kernel
theorem dX1_hintSet_4 : decode cX1_hintSet 4 = .ok (.ireturn, 1) := by decide +kernel
theorem dX1_quotes_0 : decode cX1_quotes 0 = .ok (.aload_n 0, 1) := by decide +kernel
theorem dX1_quotes_1 : decode cX1_quotes 1 = .ok (.getfield 35, 3) := by decide +kernel
theorem dX1_quotes_4 : decode cX1_quotes 4 = .ok (.ireturn, 1) := by decide +kernel
theorem dX1_speaks_0 : decode cX1_speaks 0 = .ok (.aload_n 0, 1) := by decide +kernel
theorem dX1_speaks_1 : decode cX1_speaks 1 = .ok (.getfield 35, 3) := by decide +kernel
theorem dX1_speaks_4 : decode cX1_speaks 4 = .ok (.ifCond .le 7, 3) := by decide +kernel
theorem dX1_speaks_7 : decode cX1_speaks 7 = .ok (.iconst 1, 1) := by decide +kernel
theorem dX1_speaks_8 : decode cX1_speaks 8 = .ok (.goto 4, 3) := by decide +kernel
theorem dX1_speaks_11 : decode cX1_speaks 11 = .ok (.iconst 0, 1) := by decide +kernel
theorem dX1_speaks_12 : decode cX1_speaks 12 = .ok (.ireturn, 1) := by decide +kernel
theorem dX1_countingVerbs_0 : decode cX1_countingVerbs 0 = .ok (.aload_n 0, 1) := by decide +kernel
theorem dX1_countingVerbs_1 : decode cX1_countingVerbs 1 = .ok (.getfield 44, 3) := by decide +kernel
theorem dX1_countingVerbs_4 : decode cX1_countingVerbs 4 = .ok (.ireturn, 1) := by decide +kernel
set_option maxRecDepth 20000 in
theorem ggX1_mentions_X5_bitOf : GoodIn wsX1_mentions wsX5_bitOf := goodIn_r _ [4] (by decide +kernel) (by decide +kernel)
set_option maxRecDepth 20000 in
theorem gX1_mentions_X5_bitOf_n86 : GoodIn wsX1_mentions (wsX5_bitOf) := ggX1_mentions_X5_bitOf
theorem dX1_mentions_0 : decode cX1_mentions 0 = .ok (.aload_n 0, 1) := by decide +kernel
theorem dX1_mentions_1 : decode cX1_mentions 1 = .ok (.getfield 38, 3) := by decide +kernel
theorem dX1_mentions_4 : decode cX1_mentions 4 = .ok (.iload_n 1, 1) := by decide +kernel
theorem dX1_mentions_5 : decode cX1_mentions 5 = .ok (.invokestatic 86, 3) := by decide +kernel
theorem dX1_mentions_8 : decode cX1_mentions 8 = .ok (.iand, 1) := by decide +kernel
theorem dX1_mentions_9 : decode cX1_mentions 9 = .ok (.ifCond .eq 7, 3) := by decide +kernel
theorem dX1_mentions_12 : decode cX1_mentions 12 = .ok (.iconst 1, 1) := by decide +kernel
theorem dX1_mentions_13 : decode cX1_mentions 13 = .ok (.goto 4, 3) := by decide +kernel
theorem dX1_mentions_16 : decode cX1_mentions 16 = .ok (.iconst 0, 1) := by decide +kernel
theorem dX1_mentions_17 : decode cX1_mentions 17 = .ok (.ireturn, 1) := by decide +kernel
set_option maxRecDepth 20000 in
theorem ggX1_ownSet_X2_thereSet : GoodIn wsX1_ownSet wsX2_thereSet := goodIn_r _ [12, 13, 36, 37] (by decide +kernel) (by decide +kernel)
set_option maxRecDepth 20000 in
theorem gX1_ownSet_X2_thereSet : GoodIn wsX1_ownSet (wsV RX1 117 RX2 yX2_thereSet wsX2_thereSet) := goodIn_app (goodIn_of _ (by decide +kernel)) ggX1_ownSet_X2_thereSet
set_option maxRecDepth 20000 in
theorem ggX1_ownSet_X2_allOfSort : GoodIn wsX1_ownSet wsX2_allOfSort := goodIn_r _ [17, 18, 13, 19, 20, 21, 36, 37] (by decide +kernel) (by decide +kernel)
set_option maxRecDepth 20000 in
theorem gX1_ownSet_X2_allOfSort : GoodIn wsX1_ownSet (wsV RX1 122 RX2 yX2_allOfSort wsX2_allOfSort) := goodIn_app (goodIn_of _ (by decide +kernel)) ggX1_ownSet_X2_allOfSort
theorem dX1_ownSet_0 : decode cX1_ownSet 0 = .ok (.aload_n 0, 1) := by decide +kernel
theorem dX1_ownSet_1 : decode cX1_ownSet 1 = .ok (.getfield 29, 3) := by decide +kernel
theorem dX1_ownSet_4 : decode cX1_ownSet 4 = .ok (.aload_n 1, 1) := by decide +kernel
theorem dX1_ownSet_5 : decode cX1_ownSet 5 = .ok (.invokevirtual 117, 3) := by decide +kernel
theorem dX1_ownSet_8 : decode cX1_ownSet 8 = .ok (.iand, 1) := by decide +kernel
theorem dX1_ownSet_9 : decode cX1_ownSet 9 = .ok (.istore_n 3, 1) := by decide +kernel
theorem dX1_ownSet_10 : decode cX1_ownSet 10 = .ok (.iload_n 2, 1) := by decide +kernel
theorem dX1_ownSet_11 : decode cX1_ownSet 11 = .ok (.iconst 1, 1) := by decide +kernel
theorem dX1_ownSet_12 : decode cX1_ownSet 12 = .ok (.iand, 1) := by decide +kernel
theorem dX1_ownSet_13 : decode cX1_ownSet 13 = .ok (.ifCond .eq 12, 3) := by decide +kernel
theorem dX1_ownSet_16 : decode cX1_ownSet 16 = .ok (.iload_n 3, 1) := by decide +kernel
theorem dX1_ownSet_17 : decode cX1_ownSet 17 = .ok (.aload_n 0, 1) := by decide +kernel
theorem dX1_ownSet_18 : decode cX1_ownSet 18 = .ok (.getfield 41, 3) := by decide +kernel
theorem dX1_ownSet_21 : decode cX1_ownSet 21 = .ok (.iconst (-1), 1) := by decide +kernel
theorem dX1_ownSet_22 : decode cX1_ownSet 22 = .ok (.ixor, 1) := by decide +kernel
theorem dX1_ownSet_23 : decode cX1_ownSet 23 = .ok (.iand, 1) := by decide +kernel
theorem dX1_ownSet_24 : decode cX1_ownSet 24 = .ok (.istore_n 3, 1) := by decide +kernel
theorem dX1_ownSet_25 : decode cX1_ownSet 25 = .ok (.iload_n 2, 1) := by decide +kernel
theorem dX1_ownSet_26 : decode cX1_ownSet 26 = .ok (.iconst 2, 1) := by decide +kernel
theorem dX1_ownSet_27 : decode cX1_ownSet 27 = .ok (.iand, 1) := by decide +kernel
theorem dX1_ownSet_28 : decode cX1_ownSet 28 = .ok (.ifCond .eq 52, 3) := by decide +kernel
theorem dX1_ownSet_31 : decode cX1_ownSet 31 = .ok (.iload_n 3, 1) := by decide +kernel
theorem dX1_ownSet_32 : decode cX1_ownSet 32 = .ok (.aload_n 0, 1) := by decide +kernel
theorem dX1_ownSet_33 : decode cX1_ownSet 33 = .ok (.getfield 47, 3) := by decide +kernel
theorem dX1_ownSet_36 : decode cX1_ownSet 36 = .ok (.iand, 1) := by decide +kernel
theorem dX1_ownSet_37 : decode cX1_ownSet 37 = .ok (.istore_n 3, 1) := by decide +kernel
theorem dX1_ownSet_38 : decode cX1_ownSet 38 = .ok (.iload_n 3, 1) := by decide +kernel
theorem dX1_ownSet_39 : decode cX1_ownSet 39 = .ok (.aload_n 0, 1) := by decide +kernel
theorem dX1_ownSet_40 : decode cX1_ownSet 40 = .ok (.getfield 50, 3) := by decide +kernel
theorem dX1_ownSet_43 : decode cX1_ownSet 43 = .ok (.ifCond .eq 11, 3) := by decide +kernel
theorem dX1_ownSet_46 : decode cX1_ownSet 46 = .ok (.aload_n 1, 1) := by decide +kernel
theorem dX1_ownSet_47 : decode cX1_ownSet 47 = .ok (.iconst 0, 1) := by decide +kernel
theorem dX1_ownSet_48 : decode cX1_ownSet 48 = .ok (.invokevirtual 122, 3) := by decide +kernel
theorem dX1_ownSet_51 : decode cX1_ownSet 51 = .ok (.goto 6, 3) := by decide +kernel
theorem dX1_ownSet_54 : decode cX1_ownSet 54 = .ok (.sipush 255, 3) := by decide +kernel
theorem dX1_ownSet_57 : decode cX1_ownSet 57 = .ok (.iand, 1) := by decide +kernel
theorem dX1_ownSet_58 : decode cX1_ownSet 58 = .ok (.istore_n 3, 1) := by decide +kernel
theorem dX1_ownSet_59 : decode cX1_ownSet 59 = .ok (.iload_n 3, 1) := by decide +kernel
theorem dX1_ownSet_60 : decode cX1_ownSet 60 = .ok (.aload_n 0, 1) := by decide +kernel
theorem dX1_ownSet_61 : decode cX1_ownSet 61 = .ok (.getfield 53, 3) := by decide +kernel
theorem dX1_ownSet_64 : decode cX1_ownSet 64 = .ok (.ifCond .eq 11, 3) := by decide +kernel
theorem dX1_ownSet_67 : decode cX1_ownSet 67 = .ok (.aload_n 1, 1) := by decide +kernel
theorem dX1_ownSet_68 : decode cX1_ownSet 68 = .ok (.iconst 1, 1) := by decide +kernel
theorem dX1_ownSet_69 : decode cX1_ownSet 69 = .ok (.invokevirtual 122, 3) := by decide +kernel
theorem dX1_ownSet_72 : decode cX1_ownSet 72 = .ok (.goto 6, 3) := by decide +kernel
theorem dX1_ownSet_75 : decode cX1_ownSet 75 = .ok (.sipush 255, 3) := by decide +kernel
theorem dX1_ownSet_78 : decode cX1_ownSet 78 = .ok (.iand, 1) := by decide +kernel
end
section
theorem dX1_ownSet_79 : decode cX1_ownSet 79 = .ok (.istore_n 3, 1) := by decide +kernel
theorem dX1_ownSet_80 : decode cX1_ownSet 80 = .ok (.iload_n 2, 1) := by decide +kernel
theorem dX1_ownSet_81 : decode cX1_ownSet 81 = .ok (.iconst 4, 1) := by decide +kernel
theorem dX1_ownSet_82 : decode cX1_ownSet 82 = .ok (.iand, 1) := by decide +kernel
theorem dX1_ownSet_83 : decode cX1_ownSet 83 = .ok (.ifCond .eq 10, 3) := by decide +kernel
theorem dX1_ownSet_86 : decode cX1_ownSet 86 = .ok (.iload_n 3, 1) := by decide +kernel
theorem dX1_ownSet_87 : decode cX1_ownSet 87 = .ok (.aload_n 0, 1) := by decide +kernel
theorem dX1_ownSet_88 : decode cX1_ownSet 88 = .ok (.getfield 56, 3) := by decide +kernel
theorem dX1_ownSet_91 : decode cX1_ownSet 91 = .ok (.iand, 1) := by decide +kernel
theorem dX1_ownSet_92 : decode cX1_ownSet 92 = .ok (.istore_n 3, 1) := by decide +kernel
theorem dX1_ownSet_93 : decode cX1_ownSet 93 = .ok (.aload_n 0, 1) := by decide +kernel
theorem dX1_ownSet_94 : decode cX1_ownSet 94 = .ok (.getfield 32, 3) := by decide +kernel
theorem dX1_ownSet_97 : decode cX1_ownSet 97 = .ok (.bipush (-9), 2) := by decide +kernel
theorem dX1_ownSet_99 : decode cX1_ownSet 99 = .ok (.if_icmp .ne 7, 3) := by decide +kernel
theorem dX1_ownSet_102 : decode cX1_ownSet 102 = .ok (.iload_n 3, 1) := by decide +kernel
theorem dX1_ownSet_103 : decode cX1_ownSet 103 = .ok (.goto 9, 3) := by decide +kernel
theorem dX1_ownSet_106 : decode cX1_ownSet 106 = .ok (.iload_n 3, 1) := by decide +kernel
theorem dX1_ownSet_107 : decode cX1_ownSet 107 = .ok (.aload_n 0, 1) := by decide +kernel
theorem dX1_ownSet_108 : decode cX1_ownSet 108 = .ok (.getfield 32, 3) := by decide +kernel
theorem dX1_ownSet_111 : decode cX1_ownSet 111 = .ok (.iand, 1) := by decide +kernel
theorem dX1_ownSet_112 : decode cX1_ownSet 112 = .ok (.ireturn, 1) := by decide +kernel
theorem dX2_init_0 : decode cX2_init 0 = .ok (.aload_n 0, 1) := by decide +kernel
theorem dX2_init_1 : decode cX2_init 1 = .ok (.invokespecial 3, 3) := by decide +kernel
theorem dX2_init_4 : decode cX2_init 4 = .ok (.aload_n 0, 1) := by decide +kernel
theorem dX2_init_5 : decode cX2_init 5 = .ok (.bipush 8, 2) := by decide +kernel
theorem dX2_init_7 : decode cX2_init 7 = .ok (.newarray .int, 2) := by decide +kernel
theorem dX2_init_9 : decode cX2_init 9 = .ok (.putfield 9, 3) := by decide +kernel
theorem dX2_init_12 : decode cX2_init 12 = .ok (.aload_n 0, 1) := by decide +kernel
theorem dX2_init_13 : decode cX2_init 13 = .ok (.iconst 0, 1) := by decide +kernel
theorem dX2_init_14 : decode cX2_init 14 = .ok (.putfield 15, 3) := by decide +kernel
theorem dX2_init_17 : decode cX2_init 17 = .ok (.return_, 1) := by decide +kernel
theorem dX2_thereSet_0 : decode cX2_thereSet 0 = .ok (.aload_n 0, 1) := by decide +kernel
theorem dX2_thereSet_1 : decode cX2_thereSet 1 = .ok (.getfield 15, 3) := by decide +kernel
theorem dX2_thereSet_4 : decode cX2_thereSet 4 = .ok (.ireturn, 1) := by decide +kernel
set_option maxRecDepth 20000 in
theorem ggX2_isThere_X5_bitOf : GoodIn wsX2_isThere wsX5_bitOf := goodIn_r _ [4] (by decide +kernel) (by decide +kernel)
set_option maxRecDepth 20000 in
theorem gX2_isThere_X5_bitOf_n19 : GoodIn wsX2_isThere (wsX5_bitOf) := ggX2_isThere_X5_bitOf
theorem dX2_isThere_0 : decode cX2_isThere 0 = .ok (.aload_n 0, 1) := by decide +kernel
theorem dX2_isThere_1 : decode cX2_isThere 1 = .ok (.getfield 15, 3) := by decide +kernel
theorem dX2_isThere_4 : decode cX2_isThere 4 = .ok (.iload_n 1, 1) := by decide +kernel
theorem dX2_isThere_5 : decode cX2_isThere 5 = .ok (.invokestatic 19, 3) := by decide +kernel
theorem dX2_isThere_8 : decode cX2_isThere 8 = .ok (.iand, 1) := by decide +kernel
theorem dX2_isThere_9 : decode cX2_isThere 9 = .ok (.ifCond .eq 7, 3) := by decide +kernel
theorem dX2_isThere_12 : decode cX2_isThere 12 = .ok (.iconst 1, 1) := by decide +kernel
theorem dX2_isThere_13 : decode cX2_isThere 13 = .ok (.goto 4, 3) := by decide +kernel
theorem dX2_isThere_16 : decode cX2_isThere 16 = .ok (.iconst 0, 1) := by decide +kernel
theorem dX2_isThere_17 : decode cX2_isThere 17 = .ok (.ireturn, 1) := by decide +kernel
set_option maxRecDepth 20000 in
theorem ggX2_sortOf_X5_isWithin : GoodIn wsX2_sortOf wsX5_isWithin := goodIn_r _ [4] (by decide +kernel) (by decide +kernel)
set_option maxRecDepth 20000 in
theorem gX2_sortOf_X5_isWithin_n23 : GoodIn wsX2_sortOf (wsX5_isWithin) := ggX2_sortOf_X5_isWithin
set_option maxRecDepth 20000 in
theorem ggX2_sortOf_X2_isThere : GoodIn wsX2_sortOf wsX2_isThere := goodIn_r _ [9, 10, 11, 3, 12, 13, 14] (by decide +kernel) (by decide +kernel)
set_option maxRecDepth 20000 in
theorem gX2_sortOf_X2_isThere : GoodIn wsX2_sortOf (wsV RX2 27 RX2 yX2_isThere wsX2_isThere) := goodIn_app (goodIn_of _ (by decide +kernel)) ggX2_sortOf_X2_isThere
theorem dX2_sortOf_0 : decode cX2_sortOf 0 = .ok (.iload_n 1, 1) := by decide +kernel
theorem dX2_sortOf_1 : decode cX2_sortOf 1 = .ok (.aload_n 0, 1) := by decide +kernel
theorem dX2_sortOf_2 : decode cX2_sortOf 2 = .ok (.getfield 9, 3) := by decide +kernel
theorem dX2_sortOf_5 : decode cX2_sortOf 5 = .ok (.arraylength, 1) := by decide +kernel
theorem dX2_sortOf_6 : decode cX2_sortOf 6 = .ok (.invokestatic 23, 3) := by decide +kernel
theorem dX2_sortOf_9 : decode cX2_sortOf 9 = .ok (.ifCond .eq 20, 3) := by decide +kernel
theorem dX2_sortOf_12 : decode cX2_sortOf 12 = .ok (.aload_n 0, 1) := by decide +kernel
theorem dX2_sortOf_13 : decode cX2_sortOf 13 = .ok (.iload_n 1, 1) := by decide +kernel
theorem dX2_sortOf_14 : decode cX2_sortOf 14 = .ok (.invokevirtual 27, 3) := by decide +kernel
theorem dX2_sortOf_17 : decode cX2_sortOf 17 = .ok (.ifCond .eq 12, 3) := by decide +kernel
theorem dX2_sortOf_20 : decode cX2_sortOf 20 = .ok (.aload_n 0, 1) := by decide +kernel
theorem dX2_sortOf_21 : decode cX2_sortOf 21 = .ok (.getfield 9, 3) := by decide +kernel
theorem dX2_sortOf_24 : decode cX2_sortOf 24 = .ok (.iload_n 1, 1) := by decide +kernel
theorem dX2_sortOf_25 : decode cX2_sortOf 25 = .ok (.iaload, 1) := by decide +kernel
theorem dX2_sortOf_26 : decode cX2_sortOf 26 = .ok (.goto 5, 3) := by decide +kernel
theorem dX2_sortOf_29 : decode cX2_sortOf 29 = .ok (.bipush (-9), 2) := by decide +kernel
theorem dX2_sortOf_31 : decode cX2_sortOf 31 = .ok (.ireturn, 1) := by decide +kernel
set_option maxRecDepth 20000 in
theorem ggX2_allOfSort_X5_bitOf : GoodIn wsX2_allOfSort wsX5_bitOf := goodIn_r _ [5] (by decide +kernel) (by decide +kernel)
set_option maxRecDepth 20000 in
theorem gX2_allOfSort_X5_bitOf_n19 : GoodIn wsX2_allOfSort (wsX5_bitOf) := ggX2_allOfSort_X5_bitOf
theorem dX2_allOfSort_0 : decode cX2_allOfSort 0 = .ok (.iconst 0, 1) := by decide +kernel
theorem dX2_allOfSort_1 : decode cX2_allOfSort 1 = .ok (.istore_n 2, 1) := by decide +kernel
theorem dX2_allOfSort_2 : decode cX2_allOfSort 2 = .ok (.iconst 0, 1) := by decide +kernel
theorem dX2_allOfSort_3 : decode cX2_allOfSort 3 = .ok (.istore_n 3, 1) := by decide +kernel
theorem dX2_allOfSort_4 : decode cX2_allOfSort 4 = .ok (.iload_n 3, 1) := by decide +kernel
theorem dX2_allOfSort_5 : decode cX2_allOfSort 5 = .ok (.aload_n 0, 1) := by decide +kernel
theorem dX2_allOfSort_6 : decode cX2_allOfSort 6 = .ok (.getfield 9, 3) := by decide +kernel
theorem dX2_allOfSort_9 : decode cX2_allOfSort 9 = .ok (.arraylength, 1) := by decide +kernel
theorem dX2_allOfSort_10 : decode cX2_allOfSort 10 = .ok (.if_icmp .ge 26, 3) := by decide +kernel
theorem dX2_allOfSort_13 : decode cX2_allOfSort 13 = .ok (.aload_n 0, 1) := by decide +kernel
theorem dX2_allOfSort_14 : decode cX2_allOfSort 14 = .ok (.getfield 9, 3) := by decide +kernel
theorem dX2_allOfSort_17 : decode cX2_allOfSort 17 = .ok (.iload_n 3, 1) := by decide +kernel
theorem dX2_allOfSort_18 : decode cX2_allOfSort 18 = .ok (.iaload, 1) := by decide +kernel
theorem dX2_allOfSort_19 : decode cX2_allOfSort 19 = .ok (.iload_n 1, 1) := by decide +kernel
theorem dX2_allOfSort_20 : decode cX2_allOfSort 20 = .ok (.if_icmp .ne 10, 3) := by decide +kernel
theorem dX2_allOfSort_23 : decode cX2_allOfSort 23 = .ok (.iload_n 2, 1) := by decide +kernel
theorem dX2_allOfSort_24 : decode cX2_allOfSort 24 = .ok (.iload_n 3, 1) := by decide +kernel
theorem dX2_allOfSort_25 : decode cX2_allOfSort 25 = .ok (.invokestatic 19, 3) := by decide +kernel
theorem dX2_allOfSort_28 : decode cX2_allOfSort 28 = .ok (.ior, 1) := by decide +kernel
theorem dX2_allOfSort_29 : decode cX2_allOfSort 29 = .ok (.istore_n 2, 1) := by decide +kernel
theorem dX2_allOfSort_30 : decode cX2_allOfSort 30 = .ok (.iinc 3 1, 3) := by decide +kernel
theorem dX2_allOfSort_33 : decode cX2_allOfSort 33 = .ok (.goto (-29), 3) := by decide +kernel
theorem dX2_allOfSort_36 : decode cX2_allOfSort 36 = .ok (.iload_n 2, 1) := by decide +kernel
theorem dX2_allOfSort_37 : decode cX2_allOfSort 37 = .ok (.aload_n 0, 1) := by decide +kernel
theorem dX2_allOfSort_38 : decode cX2_allOfSort 38 = .ok (.getfield 15, 3) := by decide +kernel
theorem dX2_allOfSort_41 : decode cX2_allOfSort 41 = .ok (.iand, 1) := by decide +kernel
theorem dX2_allOfSort_42 : decode cX2_allOfSort 42 = .ok (.ireturn, 1) := by decide +kernel
set_option maxRecDepth 20000 in
theorem ggX2_isName_X2_isThere : GoodIn wsX2_isName wsX2_isThere := goodIn_r _ [5, 6, 7, 8, 9, 10, 11] (by decide +kernel) (by decide +kernel)
set_option maxRecDepth 20000 in
theorem gX2_isName_X2_isThere : GoodIn wsX2_isName (wsV RX2 27 RX2 yX2_isThere wsX2_isThere) := goodIn_app (goodIn_of _ (by decide +kernel)) ggX2_isName_X2_isThere
theorem dX2_isName_0 : decode cX2_isName 0 = .ok (.aload_n 0, 1) := by decide +kernel
theorem dX2_isName_1 : decode cX2_isName 1 = .ok (.iload_n 1, 1) := by decide +kernel
theorem dX2_isName_2 : decode cX2_isName 2 = .ok (.bipush 65, 2) := by decide +kernel
theorem dX2_isName_4 : decode cX2_isName 4 = .ok (.isub, 1) := by decide +kernel
theorem dX2_isName_5 : decode cX2_isName 5 = .ok (.invokevirtual 27, 3) := by decide +kernel
theorem dX2_isName_8 : decode cX2_isName 8 = .ok (.ireturn, 1) := by decide +kernel
set_option maxRecDepth 20000 in
theorem ggX2_bring_X5_isWithin : GoodIn wsX2_bring wsX5_isWithin := goodIn_r _ [5] (by decide +kernel) (by decide +kernel)
set_option maxRecDepth 20000 in
theorem gX2_bring_X5_isWithin_n23 : GoodIn wsX2_bring (wsX5_isWithin) := ggX2_bring_X5_isWithin
set_option maxRecDepth 20000 in
theorem ggX2_bring_X5_bitOf : GoodIn wsX2_bring wsX5_bitOf := goodIn_r _ [7] (by decide +kernel) (by decide +kernel)
set_option maxRecDepth 20000 in
theorem gX2_bring_X5_bitOf_n19 : GoodIn wsX2_bring (wsX5_bitOf) := ggX2_bring_X5_bitOf
theorem dX2_bring_0 : decode cX2_bring 0 = .ok (.iload_n 1, 1) := by decide +kernel
theorem dX2_bring_1 : decode cX2_bring 1 = .ok (.aload_n 0, 1) := by decide +kernel
theorem dX2_bring_2 : decode cX2_bring 2 = .ok (.getfield 9, 3) := by decide +kernel
theorem dX2_bring_5 : decode cX2_bring 5 = .ok (.arraylength, 1) := by decide +kernel
theorem dX2_bring_6 : decode cX2_bring 6 = .ok (.invokestatic 23, 3) := by decide +kernel
theorem dX2_bring_9 : decode cX2_bring 9 = .ok (.ifCond .eq 23, 3) := by decide +kernel
theorem dX2_bring_12 : decode cX2_bring 12 = .ok (.aload_n 0, 1) := by decide +kernel
theorem dX2_bring_13 : decode cX2_bring 13 = .ok (.getfield 9, 3) := by decide +kernel
theorem dX2_bring_16 : decode cX2_bring 16 = .ok (.iload_n 1, 1) := by decide +kernel
theorem dX2_bring_17 : decode cX2_bring 17 = .ok (.iload_n 2, 1) := by decide +kernel
theorem dX2_bring_18 : decode cX2_bring 18 = .ok (.iastore, 1) := by decide +kernel
theorem dX2_bring_19 : decode cX2_bring 19 = .ok (.aload_n 0, 1) := by decide +kernel
theorem dX2_bring_20 : decode cX2_bring 20 = .ok (.dup, 1) := by decide +kernel
theorem dX2_bring_21 : decode cX2_bring 21 = .ok (.getfield 15, 3) := by decide +kernel
theorem dX2_bring_24 : decode cX2_bring 24 = .ok (.iload_n 1, 1) := by decide +kernel
theorem dX2_bring_25 : decode cX2_bring 25 = .ok (.invokestatic 19, 3) := by decide +kernel
theorem dX2_bring_28 : decode cX2_bring 28 = .ok (.ior, 1) := by decide +kernel
theorem dX2_bring_29 : decode cX2_bring 29 = .ok (.putfield 15, 3) := by decide +kernel
theorem dX2_bring_32 : decode cX2_bring 32 = .ok (.return_, 1) := by decide +kernel
set_option maxRecDepth 20000 in
theorem ggX2_takeAway_X5_bitOf : GoodIn wsX2_takeAway wsX5_bitOf := goodIn_r _ [4] (by decide +kernel) (by decide +kernel)
set_option maxRecDepth 20000 in
theorem gX2_takeAway_X5_bitOf_n19 : GoodIn wsX2_takeAway (wsX5_bitOf) := ggX2_takeAway_X5_bitOf
theorem dX2_takeAway_0 : decode cX2_takeAway 0 = .ok (.aload_n 0, 1) := by decide +kernel
theorem dX2_takeAway_1 : decode cX2_takeAway 1 = .ok (.dup, 1) := by decide +kernel
theorem dX2_takeAway_2 : decode cX2_takeAway 2 = .ok (.getfield 15, 3) := by decide +kernel
theorem dX2_takeAway_5 : decode cX2_takeAway 5 = .ok (.iload_n 1, 1) := by decide +kernel
theorem dX2_takeAway_6 : decode cX2_takeAway 6 = .ok (.invokestatic 19, 3) := by decide +kernel
theorem dX2_takeAway_9 : decode cX2_takeAway 9 = .ok (.iconst (-1), 1) := by decide +kernel
theorem dX2_takeAway_10 : decode cX2_takeAway 10 = .ok (.ixor, 1) := by decide +kernel
theorem dX2_takeAway_11 : decode cX2_takeAway 11 = .ok (.iand, 1) := by decide +kernel
theorem dX2_takeAway_12 : decode cX2_takeAway 12 = .ok (.putfield 15, 3) := by decide +kernel
theorem dX2_takeAway_15 : decode cX2_takeAway 15 = .ok (.return_, 1) := by decide +kernel
set_option maxRecDepth 20000 in
theorem ggX3_init_X1_init : GoodIn wsX3_init wsX1_init := goodIn_r _ [12, 13, 2, 3, 14, 15, 16, 17, 18, 19, 7, 20, 21, 22, 23, 24, 25, 26, 27, 28, 29, 30, 31, 32, 36, 37, 38, 39, 40, 41, 42, 43, 44, 45, 46, 47, 48, 49] (by decide +kernel) (by decide +kernel)
set_option maxRecDepth 20000 in
theorem gX3_init_X1_init : GoodIn wsX3_init (wsX1_init) := ggX3_init_X1_init
theorem dX3_init_0 : decode cX3_init 0 = .ok (.aload_n 0, 1) := by decide +kernel
theorem dX3_init_1 : decode cX3_init 1 = .ok (.invokespecial 3, 3) := by decide +kernel
theorem dX3_init_4 : decode cX3_init 4 = .ok (.aload_n 0, 1) := by decide +kernel
theorem dX3_init_5 : decode cX3_init 5 = .ok (.bipush 16, 2) := by decide +kernel
theorem dX3_init_7 : decode cX3_init 7 = .ok (.anewarray 9, 3) := by decide +kernel
theorem dX3_init_10 : decode cX3_init 10 = .ok (.putfield 11, 3) := by decide +kernel
theorem dX3_init_13 : decode cX3_init 13 = .ok (.iconst 0, 1) := by decide +kernel
theorem dX3_init_14 : decode cX3_init 14 = .ok (.istore_n 1, 1) := by decide +kernel
theorem dX3_init_15 : decode cX3_init 15 = .ok (.iload_n 1, 1) := by decide +kernel
theorem dX3_init_16 : decode cX3_init 16 = .ok (.aload_n 0, 1) := by decide +kernel
theorem dX3_init_17 : decode cX3_init 17 = .ok (.getfield 11, 3) := by decide +kernel
theorem dX3_init_20 : decode cX3_init 20 = .ok (.arraylength, 1) := by decide +kernel
theorem dX3_init_21 : decode cX3_init 21 = .ok (.if_icmp .ge 22, 3) := by decide +kernel
theorem dX3_init_24 : decode cX3_init 24 = .ok (.aload_n 0, 1) := by decide +kernel
theorem dX3_init_25 : decode cX3_init 25 = .ok (.getfield 11, 3) := by decide +kernel
theorem dX3_init_28 : decode cX3_init 28 = .ok (.iload_n 1, 1) := by decide +kernel
theorem dX3_init_29 : decode cX3_init 29 = .ok (.new 9, 3) := by decide +kernel
theorem dX3_init_32 : decode cX3_init 32 = .ok (.dup, 1) := by decide +kernel
theorem dX3_init_33 : decode cX3_init 33 = .ok (.invokespecial 17, 3) := by decide +kernel
theorem dX3_init_36 : decode cX3_init 36 = .ok (.aastore, 1) := by decide +kernel
theorem dX3_init_37 : decode cX3_init 37 = .ok (.iinc 1 1, 3) := by decide +kernel
theorem dX3_init_40 : decode cX3_init 40 = .ok (.goto (-25), 3) := by decide +kernel
theorem dX3_init_43 : decode cX3_init 43 = .ok (.aload_n 0, 1) := by decide +kernel
theorem dX3_init_44 : decode cX3_init 44 = .ok (.new 9, 3) := by decide +kernel
theorem dX3_init_47 : decode cX3_init 47 = .ok (.dup, 1) := by decide +kernel
theorem dX3_init_48 : decode cX3_init 48 = .ok (.invokespecial 17, 3) := by decide +kernel
theorem dX3_init_51 : decode cX3_init 51 = .ok (.putfield 18, 3) := by decide +kernel
theorem dX3_init_54 : decode cX3_init 54 = .ok (.aload_n 0, 1) := by decide +kernel
theorem dX3_init_55 : decode cX3_init 55 = .ok (.iconst 0, 1) := by decide +kernel
theorem dX3_init_56 : decode cX3_init 56 = .ok (.putfield 22, 3) := by decide +kernel
theorem dX3_init_59 : decode cX3_init 59 = .ok (.return_, 1) := by decide +kernel
theorem dX3_length_0 : decode cX3_length 0 = .ok (.aload_n 0, 1) := by decide +kernel
theorem dX3_length_1 : decode cX3_length 1 = .ok (.getfield 22, 3) := by decide +kernel
theorem dX3_length_4 : decode cX3_length 4 = .ok (.ireturn, 1) := by decide +kernel
theorem dX3_isFull_0 : decode cX3_isFull 0 = .ok (.aload_n 0, 1) := by decide +kernel
theorem dX3_isFull_1 : decode cX3_isFull 1 = .ok (.getfield 22, 3) := by decide +kernel
theorem dX3_isFull_4 : decode cX3_isFull 4 = .ok (.aload_n 0, 1) := by decide +kernel
theorem dX3_isFull_5 : decode cX3_isFull 5 = .ok (.getfield 11, 3) := by decide +kernel
theorem dX3_isFull_8 : decode cX3_isFull 8 = .ok (.arraylength, 1) := by decide +kernel
theorem dX3_isFull_9 : decode cX3_isFull 9 = .ok (.if_icmp .lt 7, 3) := by decide +kernel
theorem dX3_isFull_12 : decode cX3_isFull 12 = .ok (.iconst 1, 1) := by decide +kernel
theorem dX3_isFull_13 : decode cX3_isFull 13 = .ok (.goto 4, 3) := by decide +kernel
theorem dX3_isFull_16 : decode cX3_isFull 16 = .ok (.iconst 0, 1) := by decide +kernel
theorem dX3_isFull_17 : decode cX3_isFull 17 = .ok (.ireturn, 1) := by decide +kernel
theorem dX3_holds_0 : decode cX3_holds 0 = .ok (.iload_n 1, 1) := by decide +kernel
theorem dX3_holds_1 : decode cX3_holds 1 = .ok (.ifCond .lt 15, 3) := by decide +kernel
theorem dX3_holds_4 : decode cX3_holds 4 = .ok (.iload_n 1, 1) := by decide +kernel
theorem dX3_holds_5 : decode cX3_holds 5 = .ok (.aload_n 0, 1) := by decide +kernel
theorem dX3_holds_6 : decode cX3_holds 6 = .ok (.getfield 22, 3) := by decide +kernel
theorem dX3_holds_9 : decode cX3_holds 9 = .ok (.if_icmp .ge 7, 3) := by decide +kernel
theorem dX3_holds_12 : decode cX3_holds 12 = .ok (.iconst 1, 1) := by decide +kernel
theorem dX3_holds_13 : decode cX3_holds 13 = .ok (.goto 4, 3) := by decide +kernel
theorem dX3_holds_16 : decode cX3_holds 16 = .ok (.iconst 0, 1) := by decide +kernel
theorem dX3_holds_17 : decode cX3_holds 17 = .ok (.ireturn, 1) := by decide +kernel
set_option maxRecDepth 20000 in
theorem ggX3_paragraphAt_X3_holds : GoodIn wsX3_paragraphAt wsX3_holds := goodIn_r _ [7, 8, 9, 10, 11] (by decide +kernel) (by decide +kernel)
set_option maxRecDepth 20000 in
theorem gX3_paragraphAt_X3_holds : GoodIn wsX3_paragraphAt (wsV RX3 26 RX3 yX3_holds wsX3_holds) := goodIn_app (goodIn_of _ (by decide +kernel)) ggX3_paragraphAt_X3_holds
theorem dX3_paragraphAt_0 : decode cX3_paragraphAt 0 = .ok (.aload_n 0, 1) := by decide +kernel
theorem dX3_paragraphAt_1 : decode cX3_paragraphAt 1 = .ok (.iload_n 1, 1) := by decide +kernel
theorem dX3_paragraphAt_2 : decode cX3_paragraphAt 2 = .ok (.invokevirtual 26, 3) := by decide +kernel
theorem dX3_paragraphAt_5 : decode cX3_paragraphAt 5 = .ok (.ifCond .eq 21, 3) := by decide +kernel
theorem dX3_paragraphAt_8 : decode cX3_paragraphAt 8 = .ok (.iload_n 1, 1) := by decide +kernel
theorem dX3_paragraphAt_9 : decode cX3_paragraphAt 9 = .ok (.aload_n 0, 1) := by decide +kernel
theorem dX3_paragraphAt_10 : decode cX3_paragraphAt 10 = .ok (.getfield 11, 3) := by decide +kernel
theorem dX3_paragraphAt_13 : decode cX3_paragraphAt 13 = .ok (.arraylength, 1) := by decide +kernel
theorem dX3_paragraphAt_14 : decode cX3_paragraphAt 14 = .ok (.if_icmp .ge 12, 3) := by decide +kernel
theorem dX3_paragraphAt_17 : decode cX3_paragraphAt 17 = .ok (.aload_n 0, 1) := by decide +kernel
theorem dX3_paragraphAt_18 : decode cX3_paragraphAt 18 = .ok (.getfield 11, 3) := by decide +kernel
theorem dX3_paragraphAt_21 : decode cX3_paragraphAt 21 = .ok (.iload_n 1, 1) := by decide +kernel
theorem dX3_paragraphAt_22 : decode cX3_paragraphAt 22 = .ok (.aaload, 1) := by decide +kernel
theorem dX3_paragraphAt_23 : decode cX3_paragraphAt 23 = .ok (.goto 7, 3) := by decide +kernel
theorem dX3_paragraphAt_26 : decode cX3_paragraphAt 26 = .ok (.aload_n 0, 1) := by decide +kernel
theorem dX3_paragraphAt_27 : decode cX3_paragraphAt 27 = .ok (.getfield 18, 3) := by decide +kernel
theorem dX3_paragraphAt_30 : decode cX3_paragraphAt 30 = .ok (.areturn, 1) := by decide +kernel
set_option maxRecDepth 20000 in
theorem ggX3_speaksAt_X3_paragraphAt : GoodIn wsX3_speaksAt wsX3_paragraphAt := goodIn_r _ [5, 6, 7, 8, 9, 10, 4, 11, 12, 19, 20, 21] (by decide +kernel) (by decide +kernel)
set_option maxRecDepth 20000 in
theorem gX3_speaksAt_X3_paragraphAt : GoodIn wsX3_speaksAt (wsV RX3 30 RX3 yX3_paragraphAt wsX3_paragraphAt) := goodIn_app (goodIn_of _ (by decide +kernel)) ggX3_speaksAt_X3_paragraphAt
set_option maxRecDepth 20000 in
theorem ggX3_speaksAt_X1_speaks : GoodIn wsX3_speaksAt wsX1_speaks := goodIn_r _ [17, 18, 22, 23, 24, 25, 26, 27, 28, 29, 30, 31, 32, 33, 34, 35] (by decide +kernel) (by decide +kernel)
set_option maxRecDepth 20000 in
theorem gX3_speaksAt_X1_speaks : GoodIn wsX3_speaksAt (wsV RX3 34 RX1 yX1_speaks wsX1_speaks) := goodIn_app (goodIn_of _ (by decide +kernel)) ggX3_speaksAt_X1_speaks
theorem dX3_speaksAt_0 : decode cX3_speaksAt 0 = .ok (.aload_n 0, 1) := by decide +kernel
theorem dX3_speaksAt_1 : decode cX3_speaksAt 1 = .ok (.iload_n 1, 1) := by decide +kernel
theorem dX3_speaksAt_2 : decode cX3_speaksAt 2 = .ok (.invokevirtual 30, 3) := by decide +kernel
theorem dX3_speaksAt_5 : decode cX3_speaksAt 5 = .ok (.invokevirtual 34, 3) := by decide +kernel
theorem dX3_speaksAt_8 : decode cX3_speaksAt 8 = .ok (.ireturn, 1) := by decide +kernel
set_option maxRecDepth 20000 in
theorem ggX3_mayGoOn_X3_speaksAt : GoodIn wsX3_mayGoOn wsX3_speaksAt := goodIn_r _ [6, 7, 8, 9, 5, 10, 11, 12, 13, 14, 15, 16, 1, 17, 18, 19, 20, 21, 22, 23, 24, 25, 26, 27, 28, 29, 30, 31, 32, 33, 34, 35, 36, 37, 38, 39] (by decide +kernel) (by decide +kernel)
set_option maxRecDepth 20000 in
theorem gX3_mayGoOn_X3_speaksAt : GoodIn wsX3_mayGoOn (wsV RX3 38 RX3 yX3_speaksAt wsX3_speaksAt) := goodIn_app (goodIn_of _ (by decide +kernel)) ggX3_mayGoOn_X3_speaksAt
theorem dX3_mayGoOn_0 : decode cX3_mayGoOn 0 = .ok (.aload_n 0, 1) := by decide +kernel
theorem dX3_mayGoOn_1 : decode cX3_mayGoOn 1 = .ok (.aload_n 0, 1) := by decide +kernel
theorem dX3_mayGoOn_2 : decode cX3_mayGoOn 2 = .ok (.getfield 22, 3) := by decide +kernel
theorem dX3_mayGoOn_5 : decode cX3_mayGoOn 5 = .ok (.iconst 1, 1) := by decide +kernel
theorem dX3_mayGoOn_6 : decode cX3_mayGoOn 6 = .ok (.isub, 1) := by decide +kernel
theorem dX3_mayGoOn_7 : decode cX3_mayGoOn 7 = .ok (.invokevirtual 38, 3) := by decide +kernel
theorem dX3_mayGoOn_10 : decode cX3_mayGoOn 10 = .ok (.ireturn, 1) := by decide +kernel
set_option maxRecDepth 20000 in
theorem ggX3_append_X3_isFull : GoodIn wsX3_append wsX3_isFull := goodIn_r _ [6, 1, 7, 102, 103, 104] (by decide +kernel) (by decide +kernel)
set_option maxRecDepth 20000 in
theorem gX3_append_X3_isFull : GoodIn wsX3_append (wsV RX3 41 RX3 yX3_isFull wsX3_isFull) := goodIn_app (goodIn_of _ (by decide +kernel)) ggX3_append_X3_isFull
set_option maxRecDepth 20000 in
theorem ggX3_append_X3_paragraphAt : GoodIn wsX3_append wsX3_paragraphAt := goodIn_r _ [11, 7, 12, 13, 14, 15, 5, 16, 1, 102, 103, 104] (by decide +kernel) (by decide +kernel)
set_option maxRecDepth 20000 in
theorem gX3_append_X3_paragraphAt : GoodIn wsX3_append (wsV RX3 30 RX3 yX3_paragraphAt wsX3_paragraphAt) := goodIn_app (goodIn_of _ (by decide +kernel)) ggX3_append_X3_paragraphAt
set_option maxRecDepth 20000 in
theorem ggX3_append_X1_read : GoodIn wsX3_append wsX1_read := goodIn_r _ [21, 22, 23, 24, 25, 26, 20, 27, 28, 29, 30, 31, 32, 33, 34, 35, 36, 37, 38, 39, 40, 41, 42, 43, 44, 45, 46, 47, 48, 49, 50, 51, 52, 53, 54, 55, 56, 57, 58, 59, 60, 61, 62, 63, 64, 65, 66, 67, 68, 69, 70, 71, 72, 73, 74, 75, 76, 77, 78, 79, 80, 81, 82, 83, 84, 85, 86, 87, 88, 89, 90, 91, 92, 93, 94, 95, 96, 97, 98, 99, 100, 101, 105, 106, 107, 108, 109, 110, 111, 112, 113, 114, 115, 116, 117, 118, 119, 120] (by decide +kernel) (by decide +kernel)
set_option maxRecDepth 20000 in
theorem gX3_append_X1_read : GoodIn wsX3_append (wsV RX3 44 RX1 yX1_read wsX1_read) := goodIn_app (goodIn_of _ (by decide +kernel)) ggX3_append_X1_read
theorem dX3_append_0 : decode cX3_append 0 = .ok (.aload_n 0, 1) := by decide +kernel
theorem dX3_append_1 : decode cX3_append 1 = .ok (.invokevirtual 41, 3) := by decide +kernel
theorem dX3_append_4 : decode cX3_append 4 = .ok (.ifCond .ne 28, 3) := by decide +kernel
theorem dX3_append_7 : decode cX3_append 7 = .ok (.aload_n 0, 1) := by decide +kernel
theorem dX3_append_8 : decode cX3_append 8 = .ok (.dup, 1) := by decide +kernel
theorem dX3_append_9 : decode cX3_append 9 = .ok (.getfield 22, 3) := by decide +kernel
theorem dX3_append_12 : decode cX3_append 12 = .ok (.iconst 1, 1) := by decide +kernel
theorem dX3_append_13 : decode cX3_append 13 = .ok (.iadd, 1) := by decide +kernel
theorem dX3_append_14 : decode cX3_append 14 = .ok (.putfield 22, 3) := by decide +kernel
theorem dX3_append_17 : decode cX3_append 17 = .ok (.aload_n 0, 1) := by decide +kernel
theorem dX3_append_18 : decode cX3_append 18 = .ok (.aload_n 0, 1) := by decide +kernel
theorem dX3_append_19 : decode cX3_append 19 = .ok (.getfield 22, 3) := by decide +kernel
theorem dX3_append_22 : decode cX3_append 22 = .ok (.iconst 1, 1) := by decide +kernel
theorem dX3_append_23 : decode cX3_append 23 = .ok (.isub, 1) := by decide +kernel
theorem dX3_append_24 : decode cX3_append 24 = .ok (.invokevirtual 30, 3) := by decide +kernel
theorem dX3_append_27 : decode cX3_append 27 = .ok (.aload_n 1, 1) := by decide +kernel
theorem dX3_append_28 : decode cX3_append 28 = .ok (.iload_n 2, 1) := by decide +kernel
theorem dX3_append_29 : decode cX3_append 29 = .ok (.invokevirtual 44, 3) := by decide +kernel
theorem dX3_append_32 : decode cX3_append 32 = .ok (.return_, 1) := by decide +kernel
theorem dX3_dropLast_0 : decode cX3_dropLast 0 = .ok (.aload_n 0, 1) := by decide +kernel
theorem dX3_dropLast_1 : decode cX3_dropLast 1 = .ok (.getfield 22, 3) := by decide +kernel
theorem dX3_dropLast_4 : decode cX3_dropLast 4 = .ok (.ifCond .le 13, 3) := by decide +kernel
theorem dX3_dropLast_7 : decode cX3_dropLast 7 = .ok (.aload_n 0, 1) := by decide +kernel
theorem dX3_dropLast_8 : decode cX3_dropLast 8 = .ok (.dup, 1) := by decide +kernel
theorem dX3_dropLast_9 : decode cX3_dropLast 9 = .ok (.getfield 22, 3) := by decide +kernel
theorem dX3_dropLast_12 : decode cX3_dropLast 12 = .ok (.iconst 1, 1) := by decide +kernel
theorem dX3_dropLast_13 : decode cX3_dropLast 13 = .ok (.isub, 1) := by decide +kernel
theorem dX3_dropLast_14 : decode cX3_dropLast 14 = .ok (.putfield 22, 3) := by decide +kernel
theorem dX3_dropLast_17 : decode cX3_dropLast 17 = .ok (.return_, 1) := by decide +kernel
set_option maxRecDepth 20000 in
theorem ggX3_namesAnywhere_X3_paragraphAt : GoodIn wsX3_namesAnywhere wsX3_paragraphAt := goodIn_r _ [6, 7, 8, 9, 10, 11, 5, 12, 1, 22, 23, 24] (by decide +kernel) (by decide +kernel)
set_option maxRecDepth 20000 in
theorem gX3_namesAnywhere_X3_paragraphAt : GoodIn wsX3_namesAnywhere (wsV RX3 30 RX3 yX3_paragraphAt wsX3_paragraphAt) := goodIn_app (goodIn_of _ (by decide +kernel)) ggX3_namesAnywhere_X3_paragraphAt
set_option maxRecDepth 20000 in
theorem ggX3_namesAnywhere_X1_mentions : GoodIn wsX3_namesAnywhere wsX1_mentions := goodIn_r _ [17, 18, 19, 20, 21, 25, 26, 27, 28, 29, 30, 31, 32, 33, 34, 35, 36, 37, 38] (by decide +kernel) (by decide +kernel)
set_option maxRecDepth 20000 in
theorem gX3_namesAnywhere_X1_mentions : GoodIn wsX3_namesAnywhere (wsV RX3 48 RX1 yX1_mentions wsX1_mentions) := goodIn_app (goodIn_of _ (by decide +kernel)) ggX3_namesAnywhere_X1_mentions
theorem dX3_namesAnywhere_0 : decode cX3_namesAnywhere 0 = .ok (.iconst 0, 1) := by decide +kernel
theorem dX3_namesAnywhere_1 : decode cX3_namesAnywhere 1 = .ok (.istore_n 2, 1) := by decide +kernel
theorem dX3_namesAnywhere_2 : decode cX3_namesAnywhere 2 = .ok (.iload_n 2, 1) := by decide +kernel
theorem dX3_namesAnywhere_3 : decode cX3_namesAnywhere 3 = .ok (.aload_n 0, 1) := by decide +kernel
theorem dX3_namesAnywhere_4 : decode cX3_namesAnywhere 4 = .ok (.getfield 22, 3) := by decide +kernel
theorem dX3_namesAnywhere_7 : decode cX3_namesAnywhere 7 = .ok (.if_icmp .ge 23, 3) := by decide +kernel
theorem dX3_namesAnywhere_10 : decode cX3_namesAnywhere 10 = .ok (.aload_n 0, 1) := by decide +kernel
theorem dX3_namesAnywhere_11 : decode cX3_namesAnywhere 11 = .ok (.iload_n 2, 1) := by decide +kernel
theorem dX3_namesAnywhere_12 : decode cX3_namesAnywhere 12 = .ok (.invokevirtual 30, 3) := by decide +kernel
theorem dX3_namesAnywhere_15 : decode cX3_namesAnywhere 15 = .ok (.iload_n 1, 1) := by decide +kernel
theorem dX3_namesAnywhere_16 : decode cX3_namesAnywhere 16 = .ok (.invokevirtual 48, 3) := by decide +kernel
theorem dX3_namesAnywhere_19 : decode cX3_namesAnywhere 19 = .ok (.ifCond .eq 5, 3) := by decide +kernel
theorem dX3_namesAnywhere_22 : decode cX3_namesAnywhere 22 = .ok (.iconst 1, 1) := by decide +kernel
theorem dX3_namesAnywhere_23 : decode cX3_namesAnywhere 23 = .ok (.ireturn, 1) := by decide +kernel
theorem dX3_namesAnywhere_24 : decode cX3_namesAnywhere 24 = .ok (.iinc 2 1, 3) := by decide +kernel
theorem dX3_namesAnywhere_27 : decode cX3_namesAnywhere 27 = .ok (.goto (-25), 3) := by decide +kernel
theorem dX3_namesAnywhere_30 : decode cX3_namesAnywhere 30 = .ok (.iconst 0, 1) := by decide +kernel
theorem dX3_namesAnywhere_31 : decode cX3_namesAnywhere 31 = .ok (.ireturn, 1) := by decide +kernel
set_option maxRecDepth 20000 in
theorem ggX3_linkAhead_X3_speaksAt : GoodIn wsX3_linkAhead wsX3_speaksAt := goodIn_r _ [5, 6, 7, 8, 4, 9, 10, 11, 12, 13, 14, 15, 16, 17, 18, 19, 20, 21, 22, 28, 29, 30, 31, 32, 33, 34, 35, 36, 37, 38, 39, 40, 41, 42, 43, 44] (by decide +kernel) (by decide +kernel)
set_option maxRecDepth 20000 in
theorem gX3_linkAhead_X3_speaksAt : GoodIn wsX3_linkAhead (wsV RX3 38 RX3 yX3_speaksAt wsX3_speaksAt) := goodIn_app (goodIn_of _ (by decide +kernel)) ggX3_linkAhead_X3_speaksAt
set_option maxRecDepth 20000 in
theorem ggX3_linkAhead_X3_paragraphAt : GoodIn wsX3_linkAhead wsX3_paragraphAt := goodIn_r _ [9, 10, 11, 12, 13, 14, 4, 15, 16, 28, 29, 30] (by decide +kernel) (by decide +kernel)
set_option maxRecDepth 20000 in
theorem gX3_linkAhead_X3_paragraphAt : GoodIn wsX3_linkAhead (wsV RX3 30 RX3 yX3_paragraphAt wsX3_paragraphAt) := goodIn_app (goodIn_of _ (by decide +kernel)) ggX3_linkAhead_X3_paragraphAt
set_option maxRecDepth 20000 in
theorem ggX3_linkAhead_X1_goesOn : GoodIn wsX3_linkAhead wsX1_goesOn := goodIn_r _ [26, 27, 31, 32, 33, 34, 35, 36, 37, 38, 39, 40, 41, 42, 43, 44] (by decide +kernel) (by decide +kernel)
set_option maxRecDepth 20000 in
theorem gX3_linkAhead_X1_goesOn : GoodIn wsX3_linkAhead (wsV RX3 51 RX1 yX1_goesOn wsX1_goesOn) := goodIn_app (goodIn_of _ (by decide +kernel)) ggX3_linkAhead_X1_goesOn
theorem dX3_linkAhead_0 : decode cX3_linkAhead 0 = .ok (.aload_n 0, 1) := by decide +kernel
theorem dX3_linkAhead_1 : decode cX3_linkAhead 1 = .ok (.iload_n 1, 1) := by decide +kernel
theorem dX3_linkAhead_2 : decode cX3_linkAhead 2 = .ok (.iconst 1, 1) := by decide +kernel
theorem dX3_linkAhead_3 : decode cX3_linkAhead 3 = .ok (.isub, 1) := by decide +kernel
theorem dX3_linkAhead_4 : decode cX3_linkAhead 4 = .ok (.invokevirtual 38, 3) := by decide +kernel
theorem dX3_linkAhead_7 : decode cX3_linkAhead 7 = .ok (.ifCond .eq 11, 3) := by decide +kernel
theorem dX3_linkAhead_10 : decode cX3_linkAhead 10 = .ok (.aload_n 0, 1) := by decide +kernel
theorem dX3_linkAhead_11 : decode cX3_linkAhead 11 = .ok (.iload_n 1, 1) := by decide +kernel
theorem dX3_linkAhead_12 : decode cX3_linkAhead 12 = .ok (.invokevirtual 38, 3) := by decide +kernel
theorem dX3_linkAhead_15 : decode cX3_linkAhead 15 = .ok (.ifCond .ne 5, 3) := by decide +kernel
theorem dX3_linkAhead_18 : decode cX3_linkAhead 18 = .ok (.iconst 0, 1) := by decide +kernel
theorem dX3_linkAhead_19 : decode cX3_linkAhead 19 = .ok (.ireturn, 1) := by decide +kernel
theorem dX3_linkAhead_20 : decode cX3_linkAhead 20 = .ok (.aload_n 0, 1) := by decide +kernel
theorem dX3_linkAhead_21 : decode cX3_linkAhead 21 = .ok (.iload_n 1, 1) := by decide +kernel
theorem dX3_linkAhead_22 : decode cX3_linkAhead 22 = .ok (.invokevirtual 30, 3) := by decide +kernel
theorem dX3_linkAhead_25 : decode cX3_linkAhead 25 = .ok (.invokevirtual 51, 3) := by decide +kernel
theorem dX3_linkAhead_28 : decode cX3_linkAhead 28 = .ok (.ifCond .eq 5, 3) := by decide +kernel
theorem dX3_linkAhead_31 : decode cX3_linkAhead 31 = .ok (.iconst 1, 1) := by decide +kernel
theorem dX3_linkAhead_32 : decode cX3_linkAhead 32 = .ok (.ireturn, 1) := by decide +kernel
theorem dX3_linkAhead_33 : decode cX3_linkAhead 33 = .ok (.iload_n 2, 1) := by decide +kernel
theorem dX3_linkAhead_34 : decode cX3_linkAhead 34 = .ok (.bipush 8, 2) := by decide +kernel
theorem dX3_linkAhead_36 : decode cX3_linkAhead 36 = .ok (.iand, 1) := by decide +kernel
theorem dX3_linkAhead_37 : decode cX3_linkAhead 37 = .ok (.ifCond .eq 7, 3) := by decide +kernel
theorem dX3_linkAhead_40 : decode cX3_linkAhead 40 = .ok (.iconst 2, 1) := by decide +kernel
theorem dX3_linkAhead_41 : decode cX3_linkAhead 41 = .ok (.goto 4, 3) := by decide +kernel
theorem dX3_linkAhead_44 : decode cX3_linkAhead 44 = .ok (.iconst 0, 1) := by decide +kernel
theorem dX3_linkAhead_45 : decode cX3_linkAhead 45 = .ok (.ireturn, 1) := by decide +kernel
set_option maxRecDepth 20000 in
theorem ggX3_speaking_X3_speaksAt : GoodIn wsX3_speaking wsX3_speaksAt := goodIn_r _ [6, 7, 8, 9, 5, 10, 11, 12, 13, 14, 15, 16, 1, 17, 18, 19, 20, 21, 22, 23, 24, 25, 26, 27, 28, 29, 30, 31, 32, 33, 34, 35, 36, 37, 38, 39] (by decide +kernel) (by decide +kernel)
set_option maxRecDepth 20000 in
theorem gX3_speaking_X3_speaksAt : GoodIn wsX3_speaking (wsV RX3 38 RX3 yX3_speaksAt wsX3_speaksAt) := goodIn_app (goodIn_of _ (by decide +kernel)) ggX3_speaking_X3_speaksAt
theorem dX3_speaking_0 : decode cX3_speaking 0 = .ok (.iconst 0, 1) := by decide +kernel
theorem dX3_speaking_1 : decode cX3_speaking 1 = .ok (.istore_n 1, 1) := by decide +kernel
theorem dX3_speaking_2 : decode cX3_speaking 2 = .ok (.iconst 0, 1) := by decide +kernel
theorem dX3_speaking_3 : decode cX3_speaking 3 = .ok (.istore_n 2, 1) := by decide +kernel
theorem dX3_speaking_4 : decode cX3_speaking 4 = .ok (.iload_n 2, 1) := by decide +kernel
theorem dX3_speaking_5 : decode cX3_speaking 5 = .ok (.aload_n 0, 1) := by decide +kernel
theorem dX3_speaking_6 : decode cX3_speaking 6 = .ok (.getfield 22, 3) := by decide +kernel
theorem dX3_speaking_9 : decode cX3_speaking 9 = .ok (.if_icmp .ge 20, 3) := by decide +kernel
theorem dX3_speaking_12 : decode cX3_speaking 12 = .ok (.aload_n 0, 1) := by decide +kernel
theorem dX3_speaking_13 : decode cX3_speaking 13 = .ok (.iload_n 2, 1) := by decide +kernel
theorem dX3_speaking_14 : decode cX3_speaking 14 = .ok (.invokevirtual 38, 3) := by decide +kernel
theorem dX3_speaking_17 : decode cX3_speaking 17 = .ok (.ifCond .eq 6, 3) := by decide +kernel
theorem dX3_speaking_20 : decode cX3_speaking 20 = .ok (.iinc 1 1, 3) := by decide +kernel
theorem dX3_speaking_23 : decode cX3_speaking 23 = .ok (.iinc 2 1, 3) := by decide +kernel
theorem dX3_speaking_26 : decode cX3_speaking 26 = .ok (.goto (-22), 3) := by decide +kernel
theorem dX3_speaking_29 : decode cX3_speaking 29 = .ok (.iload_n 1, 1) := by decide +kernel
theorem dX3_speaking_30 : decode cX3_speaking 30 = .ok (.ireturn, 1) := by decide +kernel
set_option maxRecDepth 20000 in
theorem ggX3_hints_X3_paragraphAt : GoodIn wsX3_hints wsX3_paragraphAt := goodIn_r _ [6, 7, 8, 9, 10, 11, 5, 12, 1, 19, 20, 21] (by decide +kernel) (by decide +kernel)
set_option maxRecDepth 20000 in
theorem gX3_hints_X3_paragraphAt : GoodIn wsX3_hints (wsV RX3 30 RX3 yX3_paragraphAt wsX3_paragraphAt) := goodIn_app (goodIn_of _ (by decide +kernel)) ggX3_hints_X3_paragraphAt
set_option maxRecDepth 20000 in
theorem ggX3_hints_X1_hintSet : GoodIn wsX3_hints wsX1_hintSet := goodIn_r _ [17, 18, 22, 23, 24, 25, 26, 27, 28, 29, 30, 31, 32, 33, 34, 35] (by decide +kernel) (by decide +kernel)
set_option maxRecDepth 20000 in
theorem gX3_hints_X1_hintSet : GoodIn wsX3_hints (wsV RX3 54 RX1 yX1_hintSet wsX1_hintSet) := goodIn_app (goodIn_of _ (by decide +kernel)) ggX3_hints_X1_hintSet
theorem dX3_hints_0 : decode cX3_hints 0 = .ok (.iconst 0, 1) := by decide +kernel
theorem dX3_hints_1 : decode cX3_hints 1 = .ok (.istore_n 1, 1) := by decide +kernel
theorem dX3_hints_2 : decode cX3_hints 2 = .ok (.iconst 0, 1) := by decide +kernel
theorem dX3_hints_3 : decode cX3_hints 3 = .ok (.istore_n 2, 1) := by decide +kernel
theorem dX3_hints_4 : decode cX3_hints 4 = .ok (.iload_n 2, 1) := by decide +kernel
theorem dX3_hints_5 : decode cX3_hints 5 = .ok (.aload_n 0, 1) := by decide +kernel
theorem dX3_hints_6 : decode cX3_hints 6 = .ok (.getfield 22, 3) := by decide +kernel
theorem dX3_hints_9 : decode cX3_hints 9 = .ok (.if_icmp .ge 25, 3) := by decide +kernel
theorem dX3_hints_12 : decode cX3_hints 12 = .ok (.aload_n 0, 1) := by decide +kernel
theorem dX3_hints_13 : decode cX3_hints 13 = .ok (.iload_n 2, 1) := by decide +kernel
theorem dX3_hints_14 : decode cX3_hints 14 = .ok (.invokevirtual 30, 3) := by decide +kernel
theorem dX3_hints_17 : decode cX3_hints 17 = .ok (.invokevirtual 54, 3) := by decide +kernel
theorem dX3_hints_20 : decode cX3_hints 20 = .ok (.bipush (-9), 2) := by decide +kernel
theorem dX3_hints_22 : decode cX3_hints 22 = .ok (.if_icmp .eq 6, 3) := by decide +kernel
theorem dX3_hints_25 : decode cX3_hints 25 = .ok (.iinc 1 1, 3) := by decide +kernel
theorem dX3_hints_28 : decode cX3_hints 28 = .ok (.iinc 2 1, 3) := by decide +kernel
theorem dX3_hints_31 : decode cX3_hints 31 = .ok (.goto (-27), 3) := by decide +kernel
theorem dX3_hints_34 : decode cX3_hints 34 = .ok (.iload_n 1, 1) := by decide +kernel
theorem dX3_hints_35 : decode cX3_hints 35 = .ok (.ireturn, 1) := by decide +kernel
set_option maxRecDepth 20000 in
theorem ggX3_runs_X3_beginsRun : GoodIn wsX3_runs wsX3_beginsRun := goodIn_r _ [6, 7, 8, 9, 5, 10, 11, 12, 13, 14, 15, 16, 17, 18, 19, 20, 1, 21, 22, 23, 24, 25, 26, 27, 28, 29, 30, 31, 32, 33, 34, 35, 36, 37, 38, 39, 40, 41, 42, 43] (by decide +kernel) (by decide +kernel)
set_option maxRecDepth 20000 in
theorem gX3_runs_X3_beginsRun : GoodIn wsX3_runs (wsV RX3 58 RX3 yX3_beginsRun wsX3_beginsRun) := goodIn_app (goodIn_of _ (by decide +kernel)) ggX3_runs_X3_beginsRun
theorem dX3_runs_0 : decode cX3_runs 0 = .ok (.iconst 0, 1) := by decide +kernel
theorem dX3_runs_1 : decode cX3_runs 1 = .ok (.istore_n 1, 1) := by decide +kernel
theorem dX3_runs_2 : decode cX3_runs 2 = .ok (.iconst 0, 1) := by decide +kernel
theorem dX3_runs_3 : decode cX3_runs 3 = .ok (.istore_n 2, 1) := by decide +kernel
theorem dX3_runs_4 : decode cX3_runs 4 = .ok (.iload_n 2, 1) := by decide +kernel
theorem dX3_runs_5 : decode cX3_runs 5 = .ok (.aload_n 0, 1) := by decide +kernel
theorem dX3_runs_6 : decode cX3_runs 6 = .ok (.getfield 22, 3) := by decide +kernel
theorem dX3_runs_9 : decode cX3_runs 9 = .ok (.if_icmp .ge 20, 3) := by decide +kernel
theorem dX3_runs_12 : decode cX3_runs 12 = .ok (.aload_n 0, 1) := by decide +kernel
theorem dX3_runs_13 : decode cX3_runs 13 = .ok (.iload_n 2, 1) := by decide +kernel
theorem dX3_runs_14 : decode cX3_runs 14 = .ok (.invokevirtual 58, 3) := by decide +kernel
theorem dX3_runs_17 : decode cX3_runs 17 = .ok (.ifCond .eq 6, 3) := by decide +kernel
theorem dX3_runs_20 : decode cX3_runs 20 = .ok (.iinc 1 1, 3) := by decide +kernel
theorem dX3_runs_23 : decode cX3_runs 23 = .ok (.iinc 2 1, 3) := by decide +kernel
theorem dX3_runs_26 : decode cX3_runs 26 = .ok (.goto (-22), 3) := by decide +kernel
theorem dX3_runs_29 : decode cX3_runs 29 = .ok (.iload_n 1, 1) := by decide +kernel
theorem dX3_runs_30 : decode cX3_runs 30 = .ok (.ireturn, 1) := by decide +kernel
set_option maxRecDepth 20000 in
theorem ggX3_beginsRun_X3_speaksAt : GoodIn wsX3_beginsRun wsX3_speaksAt := goodIn_r _ [5, 6, 7, 8, 4, 9, 10, 11, 12, 13, 14, 15, 16, 17, 18, 19, 20, 21, 22, 23, 24, 25, 26, 27, 28, 29, 30, 31, 32, 33, 34, 35, 36, 37, 38, 39] (by decide +kernel) (by decide +kernel)
set_option maxRecDepth 20000 in
theorem gX3_beginsRun_X3_speaksAt : GoodIn wsX3_beginsRun (wsV RX3 38 RX3 yX3_speaksAt wsX3_speaksAt) := goodIn_app (goodIn_of _ (by decide +kernel)) ggX3_beginsRun_X3_speaksAt
theorem dX3_beginsRun_0 : decode cX3_beginsRun 0 = .ok (.aload_n 0, 1) := by decide +kernel
theorem dX3_beginsRun_1 : decode cX3_beginsRun 1 = .ok (.iload_n 1, 1) := by decide +kernel
theorem dX3_beginsRun_2 : decode cX3_beginsRun 2 = .ok (.invokevirtual 38, 3) := by decide +kernel
theorem dX3_beginsRun_5 : decode cX3_beginsRun 5 = .ok (.ifCond .eq 17, 3) := by decide +kernel
theorem dX3_beginsRun_8 : decode cX3_beginsRun 8 = .ok (.aload_n 0, 1) := by decide +kernel
theorem dX3_beginsRun_9 : decode cX3_beginsRun 9 = .ok (.iload_n 1, 1) := by decide +kernel
theorem dX3_beginsRun_10 : decode cX3_beginsRun 10 = .ok (.iconst 1, 1) := by decide +kernel
theorem dX3_beginsRun_11 : decode cX3_beginsRun 11 = .ok (.isub, 1) := by decide +kernel
theorem dX3_beginsRun_12 : decode cX3_beginsRun 12 = .ok (.invokevirtual 38, 3) := by decide +kernel
theorem dX3_beginsRun_15 : decode cX3_beginsRun 15 = .ok (.ifCond .ne 7, 3) := by decide +kernel
theorem dX3_beginsRun_18 : decode cX3_beginsRun 18 = .ok (.iconst 1, 1) := by decide +kernel
theorem dX3_beginsRun_19 : decode cX3_beginsRun 19 = .ok (.goto 4, 3) := by decide +kernel
theorem dX3_beginsRun_22 : decode cX3_beginsRun 22 = .ok (.iconst 0, 1) := by decide +kernel
theorem dX3_beginsRun_23 : decode cX3_beginsRun 23 = .ok (.ireturn, 1) := by decide +kernel
set_option maxRecDepth 20000 in
theorem ggX3_firstOfRun_X3_beginsRun : GoodIn wsX3_firstOfRun wsX3_beginsRun := goodIn_r _ [6, 7, 8, 9, 5, 10, 11, 12, 13, 14, 15, 16, 17, 18, 19, 20, 1, 21, 22, 23, 24, 25, 26, 27, 28, 29, 30, 31, 32, 33, 34, 35, 36, 37, 38, 39, 40, 41, 42, 43] (by decide +kernel) (by decide +kernel)
set_option maxRecDepth 20000 in
theorem gX3_firstOfRun_X3_beginsRun : GoodIn wsX3_firstOfRun (wsV RX3 58 RX3 yX3_beginsRun wsX3_beginsRun) := goodIn_app (goodIn_of _ (by decide +kernel)) ggX3_firstOfRun_X3_beginsRun
theorem dX3_firstOfRun_0 : decode cX3_firstOfRun 0 = .ok (.iconst 0, 1) := by decide +kernel
theorem dX3_firstOfRun_1 : decode cX3_firstOfRun 1 = .ok (.istore_n 2, 1) := by decide +kernel
theorem dX3_firstOfRun_2 : decode cX3_firstOfRun 2 = .ok (.iconst 0, 1) := by decide +kernel
theorem dX3_firstOfRun_3 : decode cX3_firstOfRun 3 = .ok (.istore_n 3, 1) := by decide +kernel
theorem dX3_firstOfRun_4 : decode cX3_firstOfRun 4 = .ok (.iload_n 3, 1) := by decide +kernel
theorem dX3_firstOfRun_5 : decode cX3_firstOfRun 5 = .ok (.aload_n 0, 1) := by decide +kernel
theorem dX3_firstOfRun_6 : decode cX3_firstOfRun 6 = .ok (.getfield 22, 3) := by decide +kernel
theorem dX3_firstOfRun_9 : decode cX3_firstOfRun 9 = .ok (.if_icmp .ge 27, 3) := by decide +kernel
theorem dX3_firstOfRun_12 : decode cX3_firstOfRun 12 = .ok (.aload_n 0, 1) := by decide +kernel
theorem dX3_firstOfRun_13 : decode cX3_firstOfRun 13 = .ok (.iload_n 3, 1) := by decide +kernel
theorem dX3_firstOfRun_14 : decode cX3_firstOfRun 14 = .ok (.invokevirtual 58, 3) := by decide +kernel
theorem dX3_firstOfRun_17 : decode cX3_firstOfRun 17 = .ok (.ifCond .eq 13, 3) := by decide +kernel
theorem dX3_firstOfRun_20 : decode cX3_firstOfRun 20 = .ok (.iload_n 2, 1) := by decide +kernel
theorem dX3_firstOfRun_21 : decode cX3_firstOfRun 21 = .ok (.iload_n 1, 1) := by decide +kernel
theorem dX3_firstOfRun_22 : decode cX3_firstOfRun 22 = .ok (.if_icmp .ne 5, 3) := by decide +kernel
theorem dX3_firstOfRun_25 : decode cX3_firstOfRun 25 = .ok (.iload_n 3, 1) := by decide +kernel
theorem dX3_firstOfRun_26 : decode cX3_firstOfRun 26 = .ok (.ireturn, 1) := by decide +kernel
theorem dX3_firstOfRun_27 : decode cX3_firstOfRun 27 = .ok (.iinc 2 1, 3) := by decide +kernel
theorem dX3_firstOfRun_30 : decode cX3_firstOfRun 30 = .ok (.iinc 3 1, 3) := by decide +kernel
theorem dX3_firstOfRun_33 : decode cX3_firstOfRun 33 = .ok (.goto (-29), 3) := by decide +kernel
theorem dX3_firstOfRun_36 : decode cX3_firstOfRun 36 = .ok (.bipush (-9), 2) := by decide +kernel
theorem dX3_firstOfRun_38 : decode cX3_firstOfRun 38 = .ok (.ireturn, 1) := by decide +kernel
set_option maxRecDepth 20000 in
theorem ggX3_runLength_X3_speaksAt : GoodIn wsX3_runLength wsX3_speaksAt := goodIn_r _ [6, 7, 8, 9, 5, 10, 11, 12, 13, 14, 15, 16, 1, 17, 18, 19, 20, 21, 22, 23, 24, 25, 26, 27, 28, 29, 30, 31, 32, 33, 34, 35, 36, 37, 38, 39] (by decide +kernel) (by decide +kernel)
set_option maxRecDepth 20000 in
theorem gX3_runLength_X3_speaksAt : GoodIn wsX3_runLength (wsV RX3 38 RX3 yX3_speaksAt wsX3_speaksAt) := goodIn_app (goodIn_of _ (by decide +kernel)) ggX3_runLength_X3_speaksAt
theorem dX3_runLength_0 : decode cX3_runLength 0 = .ok (.iconst 0, 1) := by decide +kernel
theorem dX3_runLength_1 : decode cX3_runLength 1 = .ok (.istore_n 2, 1) := by decide +kernel
theorem dX3_runLength_2 : decode cX3_runLength 2 = .ok (.iload_n 1, 1) := by decide +kernel
theorem dX3_runLength_3 : decode cX3_runLength 3 = .ok (.istore_n 3, 1) := by decide +kernel
theorem dX3_runLength_4 : decode cX3_runLength 4 = .ok (.iload_n 3, 1) := by decide +kernel
theorem dX3_runLength_5 : decode cX3_runLength 5 = .ok (.aload_n 0, 1) := by decide +kernel
theorem dX3_runLength_6 : decode cX3_runLength 6 = .ok (.getfield 22, 3) := by decide +kernel
theorem dX3_runLength_9 : decode cX3_runLength 9 = .ok (.if_icmp .ge 20, 3) := by decide +kernel
theorem dX3_runLength_12 : decode cX3_runLength 12 = .ok (.aload_n 0, 1) := by decide +kernel
theorem dX3_runLength_13 : decode cX3_runLength 13 = .ok (.iload_n 3, 1) := by decide +kernel
theorem dX3_runLength_14 : decode cX3_runLength 14 = .ok (.invokevirtual 38, 3) := by decide +kernel
theorem dX3_runLength_17 : decode cX3_runLength 17 = .ok (.ifCond .eq 12, 3) := by decide +kernel
theorem dX3_runLength_20 : decode cX3_runLength 20 = .ok (.iinc 2 1, 3) := by decide +kernel
theorem dX3_runLength_23 : decode cX3_runLength 23 = .ok (.iinc 3 1, 3) := by decide +kernel
theorem dX3_runLength_26 : decode cX3_runLength 26 = .ok (.goto (-22), 3) := by decide +kernel
theorem dX3_runLength_29 : decode cX3_runLength 29 = .ok (.iload_n 2, 1) := by decide +kernel
theorem dX3_runLength_30 : decode cX3_runLength 30 = .ok (.ireturn, 1) := by decide +kernel
theorem dX4_init_0 : decode cX4_init 0 = .ok (.aload_n 0, 1) := by decide +kernel
theorem dX4_init_1 : decode cX4_init 1 = .ok (.invokespecial 3, 3) := by decide +kernel
theorem dX4_init_4 : decode cX4_init 4 = .ok (.aload_n 0, 1) := by decide +kernel
theorem dX4_init_5 : decode cX4_init 5 = .ok (.bipush 12, 2) := by decide +kernel
theorem dX4_init_7 : decode cX4_init 7 = .ok (.newarray .int, 2) := by decide +kernel
theorem dX4_init_9 : decode cX4_init 9 = .ok (.putfield 9, 3) := by decide +kernel
theorem dX4_init_12 : decode cX4_init 12 = .ok (.aload_n 0, 1) := by decide +kernel
theorem dX4_init_13 : decode cX4_init 13 = .ok (.iconst 0, 1) := by decide +kernel
theorem dX4_init_14 : decode cX4_init 14 = .ok (.putfield 15, 3) := by decide +kernel
theorem dX4_init_17 : decode cX4_init 17 = .ok (.return_, 1) := by decide +kernel
theorem dX4_length_0 : decode cX4_length 0 = .ok (.aload_n 0, 1) := by decide +kernel
theorem dX4_length_1 : decode cX4_length 1 = .ok (.getfield 15, 3) := by decide +kernel
theorem dX4_length_4 : decode cX4_length 4 = .ok (.ireturn, 1) := by decide +kernel
theorem dX4_isFull_0 : decode cX4_isFull 0 = .ok (.aload_n 0, 1) := by decide +kernel
theorem dX4_isFull_1 : decode cX4_isFull 1 = .ok (.getfield 15, 3) := by decide +kernel
theorem dX4_isFull_4 : decode cX4_isFull 4 = .ok (.aload_n 0, 1) := by decide +kernel
theorem dX4_isFull_5 : decode cX4_isFull 5 = .ok (.getfield 9, 3) := by decide +kernel
theorem dX4_isFull_8 : decode cX4_isFull 8 = .ok (.arraylength, 1) := by decide +kernel
theorem dX4_isFull_9 : decode cX4_isFull 9 = .ok (.if_icmp .lt 7, 3) := by decide +kernel
theorem dX4_isFull_12 : decode cX4_isFull 12 = .ok (.iconst 1, 1) := by decide +kernel
theorem dX4_isFull_13 : decode cX4_isFull 13 = .ok (.goto 4, 3) := by decide +kernel
theorem dX4_isFull_16 : decode cX4_isFull 16 = .ok (.iconst 0, 1) := by decide +kernel
theorem dX4_isFull_17 : decode cX4_isFull 17 = .ok (.ireturn, 1) := by decide +kernel
set_option maxRecDepth 20000 in
theorem ggX4_codeAt_X5_isWithin : GoodIn wsX4_codeAt wsX5_isWithin := goodIn_r _ [5] (by decide +kernel) (by decide +kernel)
set_option maxRecDepth 20000 in
theorem gX4_codeAt_X5_isWithin_n19 : GoodIn wsX4_codeAt (wsX5_isWithin) := ggX4_codeAt_X5_isWithin
theorem dX4_codeAt_0 : decode cX4_codeAt 0 = .ok (.iload_n 1, 1) := by decide +kernel
theorem dX4_codeAt_1 : decode cX4_codeAt 1 = .ok (.aload_n 0, 1) := by decide +kernel
theorem dX4_codeAt_2 : decode cX4_codeAt 2 = .ok (.getfield 15, 3) := by decide +kernel
theorem dX4_codeAt_5 : decode cX4_codeAt 5 = .ok (.invokestatic 19, 3) := by decide +kernel
theorem dX4_codeAt_8 : decode cX4_codeAt 8 = .ok (.ifCond .eq 21, 3) := by decide +kernel
theorem dX4_codeAt_11 : decode cX4_codeAt 11 = .ok (.iload_n 1, 1) := by decide +kernel
theorem dX4_codeAt_12 : decode cX4_codeAt 12 = .ok (.aload_n 0, 1) := by decide +kernel
theorem dX4_codeAt_13 : decode cX4_codeAt 13 = .ok (.getfield 9, 3) := by decide +kernel
theorem dX4_codeAt_16 : decode cX4_codeAt 16 = .ok (.arraylength, 1) := by decide +kernel
theorem dX4_codeAt_17 : decode cX4_codeAt 17 = .ok (.if_icmp .ge 12, 3) := by decide +kernel
theorem dX4_codeAt_20 : decode cX4_codeAt 20 = .ok (.aload_n 0, 1) := by decide +kernel
theorem dX4_codeAt_21 : decode cX4_codeAt 21 = .ok (.getfield 9, 3) := by decide +kernel
theorem dX4_codeAt_24 : decode cX4_codeAt 24 = .ok (.iload_n 1, 1) := by decide +kernel
theorem dX4_codeAt_25 : decode cX4_codeAt 25 = .ok (.iaload, 1) := by decide +kernel
theorem dX4_codeAt_26 : decode cX4_codeAt 26 = .ok (.goto 4, 3) := by decide +kernel
theorem dX4_codeAt_29 : decode cX4_codeAt 29 = .ok (.iconst (-1), 1) := by decide +kernel
theorem dX4_codeAt_30 : decode cX4_codeAt 30 = .ok (.ireturn, 1) := by decide +kernel
set_option maxRecDepth 20000 in
theorem ggX4_put_X5_isWithin : GoodIn wsX4_put wsX5_isWithin := goodIn_r _ [5] (by decide +kernel) (by decide +kernel)
set_option maxRecDepth 20000 in
theorem gX4_put_X5_isWithin_n19 : GoodIn wsX4_put (wsX5_isWithin) := ggX4_put_X5_isWithin
theorem dX4_put_0 : decode cX4_put 0 = .ok (.aload_n 0, 1) := by decide +kernel
theorem dX4_put_1 : decode cX4_put 1 = .ok (.getfield 15, 3) := by decide +kernel
theorem dX4_put_4 : decode cX4_put 4 = .ok (.aload_n 0, 1) := by decide +kernel
theorem dX4_put_5 : decode cX4_put 5 = .ok (.getfield 9, 3) := by decide +kernel
theorem dX4_put_8 : decode cX4_put 8 = .ok (.arraylength, 1) := by decide +kernel
theorem dX4_put_9 : decode cX4_put 9 = .ok (.invokestatic 19, 3) := by decide +kernel
theorem dX4_put_12 : decode cX4_put 12 = .ok (.ifCond .eq 23, 3) := by decide +kernel
theorem dX4_put_15 : decode cX4_put 15 = .ok (.aload_n 0, 1) := by decide +kernel
theorem dX4_put_16 : decode cX4_put 16 = .ok (.getfield 9, 3) := by decide +kernel
theorem dX4_put_19 : decode cX4_put 19 = .ok (.aload_n 0, 1) := by decide +kernel
theorem dX4_put_20 : decode cX4_put 20 = .ok (.getfield 15, 3) := by decide +kernel
theorem dX4_put_23 : decode cX4_put 23 = .ok (.iload_n 1, 1) := by decide +kernel
theorem dX4_put_24 : decode cX4_put 24 = .ok (.iastore, 1) := by decide +kernel
theorem dX4_put_25 : decode cX4_put 25 = .ok (.aload_n 0, 1) := by decide +kernel
theorem dX4_put_26 : decode cX4_put 26 = .ok (.dup, 1) := by decide +kernel
theorem dX4_put_27 : decode cX4_put 27 = .ok (.getfield 15, 3) := by decide +kernel
theorem dX4_put_30 : decode cX4_put 30 = .ok (.iconst 1, 1) := by decide +kernel
theorem dX4_put_31 : decode cX4_put 31 = .ok (.iadd, 1) := by decide +kernel
theorem dX4_put_32 : decode cX4_put 32 = .ok (.putfield 15, 3) := by decide +kernel
theorem dX4_put_35 : decode cX4_put 35 = .ok (.return_, 1) := by decide +kernel
theorem dX4_clear_0 : decode cX4_clear 0 = .ok (.aload_n 0, 1) := by decide +kernel
theorem dX4_clear_1 : decode cX4_clear 1 = .ok (.iconst 0, 1) := by decide +kernel
theorem dX4_clear_2 : decode cX4_clear 2 = .ok (.putfield 15, 3) := by decide +kernel
theorem dX4_clear_5 : decode cX4_clear 5 = .ok (.return_, 1) := by decide +kernel
set_option maxRecDepth 20000 in
theorem ggX4_firstFault_X4_mayStand : GoodIn wsX4_firstFault wsX4_mayStand := goodIn_r _ [6, 7, 8, 9, 5, 10, 1, 11, 12, 13, 14, 15, 16, 17, 18, 19, 20, 21, 22, 23, 24, 25, 26, 27, 28, 29, 30] (by decide +kernel) (by decide +kernel)
set_option maxRecDepth 20000 in
theorem gX4_firstFault_X4_mayStand : GoodIn wsX4_firstFault (wsV RX4 23 RX4 yX4_mayStand wsX4_mayStand) := goodIn_app (goodIn_of _ (by decide +kernel)) ggX4_firstFault_X4_mayStand
set_option maxRecDepth 20000 in
theorem ggX4_firstFault_X4_codeAt : GoodIn wsX4_firstFault wsX4_codeAt := goodIn_r _ [10, 1, 11, 12, 13, 14, 27, 28] (by decide +kernel) (by decide +kernel)
set_option maxRecDepth 20000 in
theorem gX4_firstFault_X4_codeAt : GoodIn wsX4_firstFault (wsV RX4 27 RX4 yX4_codeAt wsX4_codeAt) := goodIn_app (goodIn_of _ (by decide +kernel)) ggX4_firstFault_X4_codeAt
theorem dX4_firstFault_0 : decode cX4_firstFault 0 = .ok (.iconst 0, 1) := by decide +kernel
theorem dX4_firstFault_1 : decode cX4_firstFault 1 = .ok (.istore_n 3, 1) := by decide +kernel
theorem dX4_firstFault_2 : decode cX4_firstFault 2 = .ok (.iconst 0, 1) := by decide +kernel
theorem dX4_firstFault_3 : decode cX4_firstFault 3 = .ok (.istore 4, 2) := by decide +kernel
theorem dX4_firstFault_5 : decode cX4_firstFault 5 = .ok (.iload 4, 2) := by decide +kernel
theorem dX4_firstFault_7 : decode cX4_firstFault 7 = .ok (.aload_n 0, 1) := by decide +kernel
theorem dX4_firstFault_8 : decode cX4_firstFault 8 = .ok (.getfield 15, 3) := by decide +kernel
theorem dX4_firstFault_11 : decode cX4_firstFault 11 = .ok (.if_icmp .ge 44, 3) := by decide +kernel
theorem dX4_firstFault_14 : decode cX4_firstFault 14 = .ok (.aload_n 0, 1) := by decide +kernel
theorem dX4_firstFault_15 : decode cX4_firstFault 15 = .ok (.iload 4, 2) := by decide +kernel
theorem dX4_firstFault_17 : decode cX4_firstFault 17 = .ok (.aload_n 1, 1) := by decide +kernel
theorem dX4_firstFault_18 : decode cX4_firstFault 18 = .ok (.iload_n 2, 1) := by decide +kernel
theorem dX4_firstFault_19 : decode cX4_firstFault 19 = .ok (.invokevirtual 23, 3) := by decide +kernel
theorem dX4_firstFault_22 : decode cX4_firstFault 22 = .ok (.ifCond .ne 6, 3) := by decide +kernel
theorem dX4_firstFault_25 : decode cX4_firstFault 25 = .ok (.iload 4, 2) := by decide +kernel
theorem dX4_firstFault_27 : decode cX4_firstFault 27 = .ok (.ireturn, 1) := by decide +kernel
theorem dX4_firstFault_28 : decode cX4_firstFault 28 = .ok (.iload_n 3, 1) := by decide +kernel
theorem dX4_firstFault_29 : decode cX4_firstFault 29 = .ok (.ifCond .ne 14, 3) := by decide +kernel
theorem dX4_firstFault_32 : decode cX4_firstFault 32 = .ok (.aload_n 0, 1) := by decide +kernel
theorem dX4_firstFault_33 : decode cX4_firstFault 33 = .ok (.iload 4, 2) := by decide +kernel
theorem dX4_firstFault_35 : decode cX4_firstFault 35 = .ok (.invokevirtual 27, 3) := by decide +kernel
theorem dX4_firstFault_38 : decode cX4_firstFault 38 = .ok (.bipush 113, 2) := by decide +kernel
theorem dX4_firstFault_40 : decode cX4_firstFault 40 = .ok (.if_icmp .ne 7, 3) := by decide +kernel
theorem dX4_firstFault_43 : decode cX4_firstFault 43 = .ok (.iconst 1, 1) := by decide +kernel
theorem dX4_firstFault_44 : decode cX4_firstFault 44 = .ok (.goto 4, 3) := by decide +kernel
theorem dX4_firstFault_47 : decode cX4_firstFault 47 = .ok (.iconst 0, 1) := by decide +kernel
theorem dX4_firstFault_48 : decode cX4_firstFault 48 = .ok (.istore_n 3, 1) := by decide +kernel
theorem dX4_firstFault_49 : decode cX4_firstFault 49 = .ok (.iinc 4 1, 3) := by decide +kernel
theorem dX4_firstFault_52 : decode cX4_firstFault 52 = .ok (.goto (-47), 3) := by decide +kernel
theorem dX4_firstFault_55 : decode cX4_firstFault 55 = .ok (.aload_n 0, 1) := by decide +kernel
theorem dX4_firstFault_56 : decode cX4_firstFault 56 = .ok (.aload_n 0, 1) := by decide +kernel
theorem dX4_firstFault_57 : decode cX4_firstFault 57 = .ok (.getfield 15, 3) := by decide +kernel
theorem dX4_firstFault_60 : decode cX4_firstFault 60 = .ok (.iconst 1, 1) := by decide +kernel
theorem dX4_firstFault_61 : decode cX4_firstFault 61 = .ok (.isub, 1) := by decide +kernel
theorem dX4_firstFault_62 : decode cX4_firstFault 62 = .ok (.invokevirtual 27, 3) := by decide +kernel
theorem dX4_firstFault_65 : decode cX4_firstFault 65 = .ok (.bipush 64, 2) := by decide +kernel
theorem dX4_firstFault_67 : decode cX4_firstFault 67 = .ok (.if_icmp .ne 7, 3) := by decide +kernel
theorem dX4_firstFault_70 : decode cX4_firstFault 70 = .ok (.iconst 1, 1) := by decide +kernel
theorem dX4_firstFault_71 : decode cX4_firstFault 71 = .ok (.goto 4, 3) := by decide +kernel
theorem dX4_firstFault_74 : decode cX4_firstFault 74 = .ok (.iconst 0, 1) := by decide +kernel
theorem dX4_firstFault_75 : decode cX4_firstFault 75 = .ok (.istore 4, 2) := by decide +kernel
theorem dX4_firstFault_77 : decode cX4_firstFault 77 = .ok (.aload_n 0, 1) := by decide +kernel
theorem dX4_firstFault_78 : decode cX4_firstFault 78 = .ok (.iconst 0, 1) := by decide +kernel
theorem dX4_firstFault_79 : decode cX4_firstFault 79 = .ok (.invokevirtual 27, 3) := by decide +kernel
theorem dX4_firstFault_82 : decode cX4_firstFault 82 = .ok (.bipush 43, 2) := by decide +kernel
theorem dX4_firstFault_84 : decode cX4_firstFault 84 = .ok (.if_icmp .ne 11, 3) := by decide +kernel
theorem dX4_firstFault_87 : decode cX4_firstFault 87 = .ok (.iload_n 3, 1) := by decide +kernel
theorem dX4_firstFault_88 : decode cX4_firstFault 88 = .ok (.ifCond .ne 7, 3) := by decide +kernel
theorem dX4_firstFault_91 : decode cX4_firstFault 91 = .ok (.iconst 1, 1) := by decide +kernel
theorem dX4_firstFault_92 : decode cX4_firstFault 92 = .ok (.goto 4, 3) := by decide +kernel
theorem dX4_firstFault_95 : decode cX4_firstFault 95 = .ok (.iconst 0, 1) := by decide +kernel
theorem dX4_firstFault_96 : decode cX4_firstFault 96 = .ok (.istore 5, 2) := by decide +kernel
theorem dX4_firstFault_98 : decode cX4_firstFault 98 = .ok (.aload_n 0, 1) := by decide +kernel
theorem dX4_firstFault_99 : decode cX4_firstFault 99 = .ok (.getfield 15, 3) := by decide +kernel
theorem dX4_firstFault_102 : decode cX4_firstFault 102 = .ok (.ifCond .eq 13, 3) := by decide +kernel
theorem dX4_firstFault_105 : decode cX4_firstFault 105 = .ok (.iload 4, 2) := by decide +kernel
theorem dX4_firstFault_107 : decode cX4_firstFault 107 = .ok (.ifCond .ne 8, 3) := by decide +kernel
theorem dX4_firstFault_110 : decode cX4_firstFault 110 = .ok (.iload 5, 2) := by decide +kernel
theorem dX4_firstFault_112 : decode cX4_firstFault 112 = .ok (.ifCond .eq 10, 3) := by decide +kernel
theorem dX4_firstFault_115 : decode cX4_firstFault 115 = .ok (.aload_n 0, 1) := by decide +kernel
theorem dX4_firstFault_116 : decode cX4_firstFault 116 = .ok (.getfield 15, 3) := by decide +kernel
theorem dX4_firstFault_119 : decode cX4_firstFault 119 = .ok (.goto 5, 3) := by decide +kernel
theorem dX4_firstFault_122 : decode cX4_firstFault 122 = .ok (.bipush (-9), 2) := by decide +kernel
theorem dX4_firstFault_124 : decode cX4_firstFault 124 = .ok (.ireturn, 1) := by decide +kernel
set_option maxRecDepth 20000 in
theorem ggX4_mayStand_X4_codeAt : GoodIn wsX4_mayStand wsX4_codeAt := goodIn_r _ [5, 6, 7, 8, 9, 10, 23, 24] (by decide +kernel) (by decide +kernel)
set_option maxRecDepth 20000 in
theorem gX4_mayStand_X4_codeAt : GoodIn wsX4_mayStand (wsV RX4 27 RX4 yX4_codeAt wsX4_codeAt) := goodIn_app (goodIn_of _ (by decide +kernel)) ggX4_mayStand_X4_codeAt
set_option maxRecDepth 20000 in
theorem ggX4_mayStand_X2_isName : GoodIn wsX4_mayStand wsX2_isName := goodIn_r _ [15, 16, 17, 18, 14, 19, 20, 21, 9, 22, 25, 26] (by decide +kernel) (by decide +kernel)
set_option maxRecDepth 20000 in
theorem gX4_mayStand_X2_isName : GoodIn wsX4_mayStand (wsV RX4 31 RX2 yX2_isName wsX2_isName) := goodIn_app (goodIn_of _ (by decide +kernel)) ggX4_mayStand_X2_isName
theorem dX4_mayStand_0 : decode cX4_mayStand 0 = .ok (.aload_n 0, 1) := by decide +kernel
theorem dX4_mayStand_1 : decode cX4_mayStand 1 = .ok (.iload_n 1, 1) := by decide +kernel
theorem dX4_mayStand_2 : decode cX4_mayStand 2 = .ok (.invokevirtual 27, 3) := by decide +kernel
theorem dX4_mayStand_5 : decode cX4_mayStand 5 = .ok (.istore 4, 2) := by decide +kernel
theorem dX4_mayStand_7 : decode cX4_mayStand 7 = .ok (.aload_n 0, 1) := by decide +kernel
theorem dX4_mayStand_8 : decode cX4_mayStand 8 = .ok (.iload_n 1, 1) := by decide +kernel
theorem dX4_mayStand_9 : decode cX4_mayStand 9 = .ok (.iconst 1, 1) := by decide +kernel
theorem dX4_mayStand_10 : decode cX4_mayStand 10 = .ok (.isub, 1) := by decide +kernel
theorem dX4_mayStand_11 : decode cX4_mayStand 11 = .ok (.invokevirtual 27, 3) := by decide +kernel
theorem dX4_mayStand_14 : decode cX4_mayStand 14 = .ok (.istore 5, 2) := by decide +kernel
theorem dX4_mayStand_16 : decode cX4_mayStand 16 = .ok (.iload 5, 2) := by decide +kernel
theorem dX4_mayStand_18 : decode cX4_mayStand 18 = .ok (.bipush 64, 2) := by decide +kernel
theorem dX4_mayStand_20 : decode cX4_mayStand 20 = .ok (.if_icmp .ne 10, 3) := by decide +kernel
theorem dX4_mayStand_23 : decode cX4_mayStand 23 = .ok (.aload_n 2, 1) := by decide +kernel
theorem dX4_mayStand_24 : decode cX4_mayStand 24 = .ok (.iload 4, 2) := by decide +kernel
theorem dX4_mayStand_26 : decode cX4_mayStand 26 = .ok (.invokevirtual 31, 3) := by decide +kernel
theorem dX4_mayStand_29 : decode cX4_mayStand 29 = .ok (.ireturn, 1) := by decide +kernel
theorem dX4_mayStand_30 : decode cX4_mayStand 30 = .ok (.iload 4, 2) := by decide +kernel
theorem dX4_mayStand_32 : decode cX4_mayStand 32 = .ok (.lookupswitch 97 #[(43, 68), (64, 82), (104, 95), (111, 95), (113, 95), (115, 95), (118, 95)], 68) := by decide +kernel
theorem dX4_mayStand_100 : decode cX4_mayStand 100 = .ok (.iload_n 1, 1) := by decide +kernel
theorem dX4_mayStand_101 : decode cX4_mayStand 101 = .ok (.ifCond .ne 11, 3) := by decide +kernel
theorem dX4_mayStand_104 : decode cX4_mayStand 104 = .ok (.iload_n 3, 1) := by decide +kernel
theorem dX4_mayStand_105 : decode cX4_mayStand 105 = .ok (.ifCond .eq 7, 3) := by decide +kernel
theorem dX4_mayStand_108 : decode cX4_mayStand 108 = .ok (.iconst 1, 1) := by decide +kernel
theorem dX4_mayStand_109 : decode cX4_mayStand 109 = .ok (.goto 4, 3) := by decide +kernel
theorem dX4_mayStand_112 : decode cX4_mayStand 112 = .ok (.iconst 0, 1) := by decide +kernel
theorem dX4_mayStand_113 : decode cX4_mayStand 113 = .ok (.ireturn, 1) := by decide +kernel
theorem dX4_mayStand_114 : decode cX4_mayStand 114 = .ok (.iload 5, 2) := by decide +kernel
theorem dX4_mayStand_116 : decode cX4_mayStand 116 = .ok (.bipush 113, 2) := by decide +kernel
theorem dX4_mayStand_118 : decode cX4_mayStand 118 = .ok (.if_icmp .ne 7, 3) := by decide +kernel
theorem dX4_mayStand_121 : decode cX4_mayStand 121 = .ok (.iconst 1, 1) := by decide +kernel
theorem dX4_mayStand_122 : decode cX4_mayStand 122 = .ok (.goto 4, 3) := by decide +kernel
theorem dX4_mayStand_125 : decode cX4_mayStand 125 = .ok (.iconst 0, 1) := by decide +kernel
theorem dX4_mayStand_126 : decode cX4_mayStand 126 = .ok (.ireturn, 1) := by decide +kernel
theorem dX4_mayStand_127 : decode cX4_mayStand 127 = .ok (.iconst 1, 1) := by decide +kernel
theorem dX4_mayStand_128 : decode cX4_mayStand 128 = .ok (.ireturn, 1) := by decide +kernel
theorem dX4_mayStand_129 : decode cX4_mayStand 129 = .ok (.aload_n 2, 1) := by decide +kernel
theorem dX4_mayStand_130 : decode cX4_mayStand 130 = .ok (.iload 4, 2) := by decide +kernel
theorem dX4_mayStand_132 : decode cX4_mayStand 132 = .ok (.invokevirtual 31, 3) := by decide +kernel
theorem dX4_mayStand_135 : decode cX4_mayStand 135 = .ok (.ireturn, 1) := by decide +kernel
set_option maxRecDepth 20000 in
theorem ggX5_init_X2_init : GoodIn wsX5_init wsX2_init := goodIn_r _ [28, 29, 2, 3, 20, 30, 31, 85, 86] (by decide +kernel) (by decide +kernel)
set_option maxRecDepth 20000 in
theorem gX5_init_X2_init : GoodIn wsX5_init (wsX2_init) := ggX5_init_X2_init
set_option maxRecDepth 20000 in
theorem ggX5_init_X4_init : GoodIn wsX5_init wsX4_init := goodIn_r _ [34, 35, 2, 3, 20, 36, 37, 96, 97] (by decide +kernel) (by decide +kernel)
set_option maxRecDepth 20000 in
theorem gX5_init_X4_init : GoodIn wsX5_init (wsX4_init) := ggX5_init_X4_init
set_option maxRecDepth 20000 in
theorem ggX5_init_X3_init : GoodIn wsX5_init wsX3_init := goodIn_r _ [40, 41, 2, 3, 42, 43, 44, 45, 46, 47, 48, 49, 50, 51, 20, 52, 53, 54, 55, 56, 57, 58, 59, 60, 61, 62, 63, 64, 65, 66, 67, 68, 69, 98, 99, 100, 110, 111, 112, 113, 114, 115, 116, 117, 118, 119, 120, 121, 122, 123] (by decide +kernel) (by decide +kernel)
set_option maxRecDepth 20000 in
theorem gX5_init_X3_init : GoodIn wsX5_init (wsX3_init) := ggX5_init_X3_init
set_option maxRecDepth 20000 in
theorem ggX5_init_X0_init : GoodIn wsX5_init wsX0_init := goodIn_r _ [72, 73, 2, 3, 74, 75, 20, 76, 77, 78, 79, 80, 81, 82, 83, 84, 101, 102, 103, 104, 105, 106, 107, 108, 109] (by decide +kernel) (by decide +kernel)
set_option maxRecDepth 20000 in
theorem gX5_init_X0_init : GoodIn wsX5_init (wsX0_init) := ggX5_init_X0_init
theorem dX5_init_0 : decode cX5_init 0 = .ok (.aload_n 0, 1) := by decide +kernel
theorem dX5_init_1 : decode cX5_init 1 = .ok (.invokespecial 3, 3) := by decide +kernel
theorem dX5_init_4 : decode cX5_init 4 = .ok (.aload_n 0, 1) := by decide +kernel
theorem dX5_init_5 : decode cX5_init 5 = .ok (.new 9, 3) := by decide +kernel
theorem dX5_init_8 : decode cX5_init 8 = .ok (.dup, 1) := by decide +kernel
theorem dX5_init_9 : decode cX5_init 9 = .ok (.invokespecial 11, 3) := by decide +kernel
theorem dX5_init_12 : decode cX5_init 12 = .ok (.putfield 12, 3) := by decide +kernel
theorem dX5_init_15 : decode cX5_init 15 = .ok (.aload_n 0, 1) := by decide +kernel
theorem dX5_init_16 : decode cX5_init 16 = .ok (.new 16, 3) := by decide +kernel
theorem dX5_init_19 : decode cX5_init 19 = .ok (.dup, 1) := by decide +kernel
end
section
theorem dX5_init_20 : decode cX5_init 20 = .ok (.invokespecial 18, 3) := by decide +kernel
theorem dX5_init_23 : decode cX5_init 23 = .ok (.putfield 19, 3) := by decide +kernel
theorem dX5_init_26 : decode cX5_init 26 = .ok (.aload_n 0, 1) := by decide +kernel
theorem dX5_init_27 : decode cX5_init 27 = .ok (.new 23, 3) := by decide +kernel
theorem dX5_init_30 : decode cX5_init 30 = .ok (.dup, 1) := by decide +kernel
theorem dX5_init_31 : decode cX5_init 31 = .ok (.invokespecial 25, 3) := by decide +kernel
theorem dX5_init_34 : decode cX5_init 34 = .ok (.putfield 26, 3) := by decide +kernel
theorem dX5_init_37 : decode cX5_init 37 = .ok (.aload_n 0, 1) := by decide +kernel
theorem dX5_init_38 : decode cX5_init 38 = .ok (.new 30, 3) := by decide +kernel
theorem dX5_init_41 : decode cX5_init 41 = .ok (.dup, 1) := by decide +kernel
theorem dX5_init_42 : decode cX5_init 42 = .ok (.invokespecial 32, 3) := by decide +kernel
theorem dX5_init_45 : decode cX5_init 45 = .ok (.putfield 33, 3) := by decide +kernel
theorem dX5_init_48 : decode cX5_init 48 = .ok (.aload_n 0, 1) := by decide +kernel
theorem dX5_init_49 : decode cX5_init 49 = .ok (.bipush 16, 2) := by decide +kernel
theorem dX5_init_51 : decode cX5_init 51 = .ok (.newarray .int, 2) := by decide +kernel
theorem dX5_init_53 : decode cX5_init 53 = .ok (.putfield 37, 3) := by decide +kernel
theorem dX5_init_56 : decode cX5_init 56 = .ok (.aload_n 0, 1) := by decide +kernel
theorem dX5_init_57 : decode cX5_init 57 = .ok (.bipush 8, 2) := by decide +kernel
theorem dX5_init_59 : decode cX5_init 59 = .ok (.newarray .int, 2) := by decide +kernel
theorem dX5_init_61 : decode cX5_init 61 = .ok (.putfield 41, 3) := by decide +kernel
theorem dX5_init_64 : decode cX5_init 64 = .ok (.aload_n 0, 1) := by decide +kernel
theorem dX5_init_65 : decode cX5_init 65 = .ok (.bipush 8, 2) := by decide +kernel
theorem dX5_init_67 : decode cX5_init 67 = .ok (.newarray .int, 2) := by decide +kernel
theorem dX5_init_69 : decode cX5_init 69 = .ok (.putfield 44, 3) := by decide +kernel
theorem dX5_init_72 : decode cX5_init 72 = .ok (.aload_n 0, 1) := by decide +kernel
theorem dX5_init_73 : decode cX5_init 73 = .ok (.iconst 0, 1) := by decide +kernel
theorem dX5_init_74 : decode cX5_init 74 = .ok (.putfield 47, 3) := by decide +kernel
theorem dX5_init_77 : decode cX5_init 77 = .ok (.aload_n 0, 1) := by decide +kernel
theorem dX5_init_78 : decode cX5_init 78 = .ok (.bipush 15, 2) := by decide +kernel
theorem dX5_init_80 : decode cX5_init 80 = .ok (.putfield 51, 3) := by decide +kernel
theorem dX5_init_83 : decode cX5_init 83 = .ok (.return_, 1) := by decide +kernel
set_option maxRecDepth 20000 in
theorem ggX5_person_X5_isWithin : GoodIn wsX5_person wsX5_isWithin := goodIn_r _ [5] (by decide +kernel) (by decide +kernel)
set_option maxRecDepth 20000 in
theorem gX5_person_X5_isWithin : GoodIn wsX5_person (va_wsS RX5 54 yX5_isWithin wsX5_isWithin) := goodIn_app (goodIn_of _ (by decide +kernel)) ggX5_person_X5_isWithin
set_option maxRecDepth 20000 in
theorem ggX5_person_X2_sortOf : GoodIn wsX5_person wsX2_sortOf := goodIn_r _ [10, 11, 3, 4, 5, 12, 13, 14, 9, 15, 16, 17, 18, 32, 33] (by decide +kernel) (by decide +kernel)
set_option maxRecDepth 20000 in
theorem gX5_person_X2_sortOf : GoodIn wsX5_person (wsV RX5 58 RX2 yX2_sortOf wsX2_sortOf) := goodIn_app (goodIn_of _ (by decide +kernel)) ggX5_person_X2_sortOf
set_option maxRecDepth 20000 in
theorem ggX5_person_X2_bring : GoodIn wsX5_person wsX2_bring := goodIn_r _ [22, 11, 16, 3, 4, 5, 17, 18, 32, 33] (by decide +kernel) (by decide +kernel)
set_option maxRecDepth 20000 in
theorem gX5_person_X2_bring : GoodIn wsX5_person (wsV RX5 62 RX2 yX2_bring wsX2_bring) := goodIn_app (goodIn_of _ (by decide +kernel)) ggX5_person_X2_bring
theorem dX5_person_0 : decode cX5_person 0 = .ok (.iload_n 1, 1) := by decide +kernel
theorem dX5_person_1 : decode cX5_person 1 = .ok (.bipush 8, 2) := by decide +kernel
theorem dX5_person_3 : decode cX5_person 3 = .ok (.invokestatic 54, 3) := by decide +kernel
theorem dX5_person_6 : decode cX5_person 6 = .ok (.ifCond .ne 5, 3) := by decide +kernel
theorem dX5_person_9 : decode cX5_person 9 = .ok (.iconst (-1), 1) := by decide +kernel
theorem dX5_person_10 : decode cX5_person 10 = .ok (.ireturn, 1) := by decide +kernel
theorem dX5_person_11 : decode cX5_person 11 = .ok (.iload_n 2, 1) := by decide +kernel
theorem dX5_person_12 : decode cX5_person 12 = .ok (.ifCond .lt 8, 3) := by decide +kernel
theorem dX5_person_15 : decode cX5_person 15 = .ok (.iload_n 2, 1) := by decide +kernel
theorem dX5_person_16 : decode cX5_person 16 = .ok (.iconst 2, 1) := by decide +kernel
theorem dX5_person_17 : decode cX5_person 17 = .ok (.if_icmp .le 6, 3) := by decide +kernel
theorem dX5_person_20 : decode cX5_person 20 = .ok (.bipush (-2), 2) := by decide +kernel
theorem dX5_person_22 : decode cX5_person 22 = .ok (.ireturn, 1) := by decide +kernel
theorem dX5_person_23 : decode cX5_person 23 = .ok (.aload_n 0, 1) := by decide +kernel
theorem dX5_person_24 : decode cX5_person 24 = .ok (.getfield 12, 3) := by decide +kernel
theorem dX5_person_27 : decode cX5_person 27 = .ok (.iload_n 1, 1) := by decide +kernel
theorem dX5_person_28 : decode cX5_person 28 = .ok (.invokevirtual 58, 3) := by decide +kernel
theorem dX5_person_31 : decode cX5_person 31 = .ok (.istore_n 3, 1) := by decide +kernel
theorem dX5_person_32 : decode cX5_person 32 = .ok (.aload_n 0, 1) := by decide +kernel
theorem dX5_person_33 : decode cX5_person 33 = .ok (.getfield 12, 3) := by decide +kernel
theorem dX5_person_36 : decode cX5_person 36 = .ok (.iload_n 1, 1) := by decide +kernel
theorem dX5_person_37 : decode cX5_person 37 = .ok (.iload_n 2, 1) := by decide +kernel
theorem dX5_person_38 : decode cX5_person 38 = .ok (.invokevirtual 62, 3) := by decide +kernel
theorem dX5_person_41 : decode cX5_person 41 = .ok (.iload_n 3, 1) := by decide +kernel
theorem dX5_person_42 : decode cX5_person 42 = .ok (.ireturn, 1) := by decide +kernel
set_option maxRecDepth 20000 in
theorem ggX5_away_X2_isThere : GoodIn wsX5_away wsX2_isThere := goodIn_r _ [9, 10, 11, 12, 13, 126, 127] (by decide +kernel) (by decide +kernel)
set_option maxRecDepth 20000 in
theorem gX5_away_X2_isThere : GoodIn wsX5_away (wsV RX5 66 RX2 yX2_isThere wsX2_isThere) := goodIn_app (goodIn_of _ (by decide +kernel)) ggX5_away_X2_isThere
set_option maxRecDepth 20000 in
theorem ggX5_away_X3_namesAnywhere : GoodIn wsX5_away wsX3_namesAnywhere := goodIn_r _ [18, 19, 20, 21, 22, 17, 23, 24, 25, 26, 27, 28, 29, 30, 31, 32, 33, 34, 35, 11, 12, 13, 128, 129, 130, 131, 132, 133, 134, 135, 136, 137, 138, 139, 140, 141, 142, 143, 144] (by decide +kernel) (by decide +kernel)
set_option maxRecDepth 20000 in
theorem gX5_away_X3_namesAnywhere : GoodIn wsX5_away (wsV RX5 70 RX3 yX3_namesAnywhere wsX3_namesAnywhere) := goodIn_app (goodIn_of _ (by decide +kernel)) ggX5_away_X3_namesAnywhere
set_option maxRecDepth 20000 in
theorem ggX5_away_X5_fillChain : GoodIn wsX5_away wsX5_fillChain := goodIn_r _ [39, 3, 2, 1, 40, 41, 42, 43, 44, 45, 46, 47, 48, 49, 17, 50, 19, 51, 21, 22, 23, 24, 25, 26, 27, 28, 29, 52, 53, 54, 33, 55, 56, 57, 58, 59, 60, 61, 62, 63, 64, 65, 66, 67, 68, 69, 70, 8, 71, 10, 72, 73, 74, 75, 76, 11, 12, 13, 77, 78, 79, 80, 81, 82, 83, 84, 20, 85, 86, 87, 88, 89, 90, 91, 92, 93, 94, 95, 96, 97, 98, 99, 117, 118, 119, 120, 121, 122, 123, 124, 125, 145, 146, 147, 148, 149, 150, 151, 152, 153, 128, 129, 130, 131, 132, 133, 134, 135, 136, 137, 138, 139, 140, 141, 142, 143, 144, 126, 127] (by decide +kernel) (by decide +kernel)
set_option maxRecDepth 20000 in
theorem gX5_away_X5_fillChain : GoodIn wsX5_away (wsV RX5 73 RX5 yX5_fillChain wsX5_fillChain) := goodIn_app (goodIn_of _ (by decide +kernel)) ggX5_away_X5_fillChain
set_option maxRecDepth 20000 in
theorem ggX5_away_X0_ownSetsWith : GoodIn wsX5_away wsX0_ownSetsWith := goodIn_r _ [103, 46, 104, 105, 106, 44, 107, 96, 108, 109, 110, 111, 98, 12, 99, 11, 13, 145, 146, 147, 148, 149, 150, 151, 152, 153] (by decide +kernel) (by decide +kernel)
set_option maxRecDepth 20000 in
theorem gX5_away_X0_ownSetsWith : GoodIn wsX5_away (wsV RX5 76 RX0 yX0_ownSetsWith wsX0_ownSetsWith) := goodIn_app (goodIn_of _ (by decide +kernel)) ggX5_away_X0_ownSetsWith
set_option maxRecDepth 20000 in
theorem ggX5_away_X2_takeAway : GoodIn wsX5_away wsX2_takeAway := goodIn_r _ [115, 10, 11, 12, 13, 126, 127] (by decide +kernel) (by decide +kernel)
set_option maxRecDepth 20000 in
theorem gX5_away_X2_takeAway : GoodIn wsX5_away (wsV RX5 79 RX2 yX2_takeAway wsX2_takeAway) := goodIn_app (goodIn_of _ (by decide +kernel)) ggX5_away_X2_takeAway
set_option maxRecDepth 20000 in
theorem ggX5_away_X5_bitOf : GoodIn wsX5_away wsX5_bitOf := goodIn_r _ [13] (by decide +kernel) (by decide +kernel)
set_option maxRecDepth 20000 in
theorem gX5_away_X5_bitOf : GoodIn wsX5_away (va_wsS RX5 83 yX5_bitOf wsX5_bitOf) := goodIn_app (goodIn_of _ (by decide +kernel)) ggX5_away_X5_bitOf
theorem dX5_away_0 : decode cX5_away 0 = .ok (.aload_n 0, 1) := by decide +kernel
theorem dX5_away_1 : decode cX5_away 1 = .ok (.getfield 12, 3) := by decide +kernel
theorem dX5_away_4 : decode cX5_away 4 = .ok (.iload_n 1, 1) := by decide +kernel
theorem dX5_away_5 : decode cX5_away 5 = .ok (.invokevirtual 66, 3) := by decide +kernel
theorem dX5_away_8 : decode cX5_away 8 = .ok (.ifCond .ne 5, 3) := by decide +kernel
theorem dX5_away_11 : decode cX5_away 11 = .ok (.iconst (-1), 1) := by decide +kernel
theorem dX5_away_12 : decode cX5_away 12 = .ok (.ireturn, 1) := by decide +kernel
theorem dX5_away_13 : decode cX5_away 13 = .ok (.aload_n 0, 1) := by decide +kernel
theorem dX5_away_14 : decode cX5_away 14 = .ok (.getfield 26, 3) := by decide +kernel
theorem dX5_away_17 : decode cX5_away 17 = .ok (.iload_n 1, 1) := by decide +kernel
theorem dX5_away_18 : decode cX5_away 18 = .ok (.invokevirtual 70, 3) := by decide +kernel
theorem dX5_away_21 : decode cX5_away 21 = .ok (.ifCond .eq 6, 3) := by decide +kernel
theorem dX5_away_24 : decode cX5_away 24 = .ok (.bipush (-3), 2) := by decide +kernel
theorem dX5_away_26 : decode cX5_away 26 = .ok (.ireturn, 1) := by decide +kernel
theorem dX5_away_27 : decode cX5_away 27 = .ok (.aload_n 0, 1) := by decide +kernel
theorem dX5_away_28 : decode cX5_away 28 = .ok (.invokevirtual 73, 3) := by decide +kernel
theorem dX5_away_31 : decode cX5_away 31 = .ok (.aload_n 0, 1) := by decide +kernel
theorem dX5_away_32 : decode cX5_away 32 = .ok (.getfield 33, 3) := by decide +kernel
theorem dX5_away_35 : decode cX5_away 35 = .ok (.iload_n 1, 1) := by decide +kernel
theorem dX5_away_36 : decode cX5_away 36 = .ok (.invokevirtual 76, 3) := by decide +kernel
theorem dX5_away_39 : decode cX5_away 39 = .ok (.istore_n 2, 1) := by decide +kernel
theorem dX5_away_40 : decode cX5_away 40 = .ok (.aload_n 0, 1) := by decide +kernel
theorem dX5_away_41 : decode cX5_away 41 = .ok (.getfield 12, 3) := by decide +kernel
theorem dX5_away_44 : decode cX5_away 44 = .ok (.iload_n 1, 1) := by decide +kernel
theorem dX5_away_45 : decode cX5_away 45 = .ok (.invokevirtual 79, 3) := by decide +kernel
theorem dX5_away_48 : decode cX5_away 48 = .ok (.aload_n 0, 1) := by decide +kernel
theorem dX5_away_49 : decode cX5_away 49 = .ok (.dup, 1) := by decide +kernel
theorem dX5_away_50 : decode cX5_away 50 = .ok (.getfield 47, 3) := by decide +kernel
theorem dX5_away_53 : decode cX5_away 53 = .ok (.iload_n 1, 1) := by decide +kernel
theorem dX5_away_54 : decode cX5_away 54 = .ok (.invokestatic 83, 3) := by decide +kernel
theorem dX5_away_57 : decode cX5_away 57 = .ok (.iconst (-1), 1) := by decide +kernel
theorem dX5_away_58 : decode cX5_away 58 = .ok (.ixor, 1) := by decide +kernel
theorem dX5_away_59 : decode cX5_away 59 = .ok (.iand, 1) := by decide +kernel
theorem dX5_away_60 : decode cX5_away 60 = .ok (.putfield 47, 3) := by decide +kernel
theorem dX5_away_63 : decode cX5_away 63 = .ok (.iload_n 2, 1) := by decide +kernel
theorem dX5_away_64 : decode cX5_away 64 = .ok (.ireturn, 1) := by decide +kernel
set_option maxRecDepth 20000 in
theorem ggX5_here_X2_thereSet : GoodIn wsX5_here wsX2_thereSet := goodIn_r _ [7, 8, 18, 19] (by decide +kernel) (by decide +kernel)
set_option maxRecDepth 20000 in
theorem gX5_here_X2_thereSet : GoodIn wsX5_here (wsV RX5 86 RX2 yX2_thereSet wsX2_thereSet) := goodIn_app (goodIn_of _ (by decide +kernel)) ggX5_here_X2_thereSet
theorem dX5_here_0 : decode cX5_here 0 = .ok (.iload_n 1, 1) := by decide +kernel
theorem dX5_here_1 : decode cX5_here 1 = .ok (.aload_n 0, 1) := by decide +kernel
theorem dX5_here_2 : decode cX5_here 2 = .ok (.getfield 12, 3) := by decide +kernel
theorem dX5_here_5 : decode cX5_here 5 = .ok (.invokevirtual 86, 3) := by decide +kernel
theorem dX5_here_8 : decode cX5_here 8 = .ok (.iconst (-1), 1) := by decide +kernel
theorem dX5_here_9 : decode cX5_here 9 = .ok (.ixor, 1) := by decide +kernel
theorem dX5_here_10 : decode cX5_here 10 = .ok (.iand, 1) := by decide +kernel
theorem dX5_here_11 : decode cX5_here 11 = .ok (.ifCond .eq 6, 3) := by decide +kernel
theorem dX5_here_14 : decode cX5_here 14 = .ok (.bipush (-2), 2) := by decide +kernel
theorem dX5_here_16 : decode cX5_here 16 = .ok (.ireturn, 1) := by decide +kernel
theorem dX5_here_17 : decode cX5_here 17 = .ok (.aload_n 0, 1) := by decide +kernel
theorem dX5_here_18 : decode cX5_here 18 = .ok (.getfield 47, 3) := by decide +kernel
theorem dX5_here_21 : decode cX5_here 21 = .ok (.istore_n 2, 1) := by decide +kernel
theorem dX5_here_22 : decode cX5_here 22 = .ok (.aload_n 0, 1) := by decide +kernel
theorem dX5_here_23 : decode cX5_here 23 = .ok (.iload_n 1, 1) := by decide +kernel
theorem dX5_here_24 : decode cX5_here 24 = .ok (.putfield 47, 3) := by decide +kernel
theorem dX5_here_27 : decode cX5_here 27 = .ok (.iload_n 2, 1) := by decide +kernel
theorem dX5_here_28 : decode cX5_here 28 = .ok (.ireturn, 1) := by decide +kernel
theorem dX5_rules_0 : decode cX5_rules 0 = .ok (.iload_n 1, 1) := by decide +kernel
theorem dX5_rules_1 : decode cX5_rules 1 = .ok (.bipush (-16), 2) := by decide +kernel
theorem dX5_rules_3 : decode cX5_rules 3 = .ok (.iand, 1) := by decide +kernel
theorem dX5_rules_4 : decode cX5_rules 4 = .ok (.ifCond .eq 6, 3) := by decide +kernel
theorem dX5_rules_7 : decode cX5_rules 7 = .ok (.bipush (-2), 2) := by decide +kernel
theorem dX5_rules_9 : decode cX5_rules 9 = .ok (.ireturn, 1) := by decide +kernel
theorem dX5_rules_10 : decode cX5_rules 10 = .ok (.aload_n 0, 1) := by decide +kernel
theorem dX5_rules_11 : decode cX5_rules 11 = .ok (.getfield 51, 3) := by decide +kernel
theorem dX5_rules_14 : decode cX5_rules 14 = .ok (.istore_n 2, 1) := by decide +kernel
theorem dX5_rules_15 : decode cX5_rules 15 = .ok (.aload_n 0, 1) := by decide +kernel
theorem dX5_rules_16 : decode cX5_rules 16 = .ok (.iload_n 1, 1) := by decide +kernel
theorem dX5_rules_17 : decode cX5_rules 17 = .ok (.putfield 51, 3) := by decide +kernel
theorem dX5_rules_20 : decode cX5_rules 20 = .ok (.iload_n 2, 1) := by decide +kernel
theorem dX5_rules_21 : decode cX5_rules 21 = .ok (.ireturn, 1) := by decide +kernel
set_option maxRecDepth 20000 in
theorem ggX5_key_X4_isFull : GoodIn wsX5_key wsX4_isFull := goodIn_r _ [6, 7, 8, 29, 30] (by decide +kernel) (by decide +kernel)
set_option maxRecDepth 20000 in
theorem gX5_key_X4_isFull : GoodIn wsX5_key (wsV RX5 90 RX4 yX4_isFull wsX4_isFull) := goodIn_app (goodIn_of _ (by decide +kernel)) ggX5_key_X4_isFull
set_option maxRecDepth 20000 in
theorem ggX5_key_X4_put : GoodIn wsX5_key wsX4_put := goodIn_r _ [12, 7, 8, 13, 14, 15, 29, 30] (by decide +kernel) (by decide +kernel)
set_option maxRecDepth 20000 in
theorem gX5_key_X4_put : GoodIn wsX5_key (wsV RX5 94 RX4 yX4_put wsX4_put) := goodIn_app (goodIn_of _ (by decide +kernel)) ggX5_key_X4_put
set_option maxRecDepth 20000 in
theorem ggX5_key_X4_length : GoodIn wsX5_key wsX4_length := goodIn_r _ [19, 7, 29, 30] (by decide +kernel) (by decide +kernel)
set_option maxRecDepth 20000 in
theorem gX5_key_X4_length : GoodIn wsX5_key (wsV RX5 97 RX4 yX4_length wsX4_length) := goodIn_app (goodIn_of _ (by decide +kernel)) ggX5_key_X4_length
theorem dX5_key_0 : decode cX5_key 0 = .ok (.iload_n 1, 1) := by decide +kernel
theorem dX5_key_1 : decode cX5_key 1 = .ok (.ifCond .lt 9, 3) := by decide +kernel
theorem dX5_key_4 : decode cX5_key 4 = .ok (.iload_n 1, 1) := by decide +kernel
theorem dX5_key_5 : decode cX5_key 5 = .ok (.bipush 127, 2) := by decide +kernel
theorem dX5_key_7 : decode cX5_key 7 = .ok (.if_icmp .le 6, 3) := by decide +kernel
theorem dX5_key_10 : decode cX5_key 10 = .ok (.bipush (-2), 2) := by decide +kernel
theorem dX5_key_12 : decode cX5_key 12 = .ok (.ireturn, 1) := by decide +kernel
theorem dX5_key_13 : decode cX5_key 13 = .ok (.aload_n 0, 1) := by decide +kernel
theorem dX5_key_14 : decode cX5_key 14 = .ok (.getfield 19, 3) := by decide +kernel
theorem dX5_key_17 : decode cX5_key 17 = .ok (.invokevirtual 90, 3) := by decide +kernel
theorem dX5_key_20 : decode cX5_key 20 = .ok (.ifCond .eq 6, 3) := by decide +kernel
theorem dX5_key_23 : decode cX5_key 23 = .ok (.bipush (-4), 2) := by decide +kernel
theorem dX5_key_25 : decode cX5_key 25 = .ok (.ireturn, 1) := by decide +kernel
theorem dX5_key_26 : decode cX5_key 26 = .ok (.aload_n 0, 1) := by decide +kernel
theorem dX5_key_27 : decode cX5_key 27 = .ok (.getfield 19, 3) := by decide +kernel
theorem dX5_key_30 : decode cX5_key 30 = .ok (.iload_n 1, 1) := by decide +kernel
theorem dX5_key_31 : decode cX5_key 31 = .ok (.invokevirtual 94, 3) := by decide +kernel
theorem dX5_key_34 : decode cX5_key 34 = .ok (.aload_n 0, 1) := by decide +kernel
theorem dX5_key_35 : decode cX5_key 35 = .ok (.getfield 19, 3) := by decide +kernel
theorem dX5_key_38 : decode cX5_key 38 = .ok (.invokevirtual 97, 3) := by decide +kernel
theorem dX5_key_41 : decode cX5_key 41 = .ok (.ireturn, 1) := by decide +kernel
set_option maxRecDepth 20000 in
theorem ggX5_wipe_X4_length : GoodIn wsX5_wipe wsX4_length := goodIn_r _ [6, 7, 21, 22] (by decide +kernel) (by decide +kernel)
set_option maxRecDepth 20000 in
theorem gX5_wipe_X4_length : GoodIn wsX5_wipe (wsV RX5 97 RX4 yX4_length wsX4_length) := goodIn_app (goodIn_of _ (by decide +kernel)) ggX5_wipe_X4_length
set_option maxRecDepth 20000 in
theorem ggX5_wipe_X4_clear : GoodIn wsX5_wipe wsX4_clear := goodIn_r _ [11, 7, 21, 22] (by decide +kernel) (by decide +kernel)
set_option maxRecDepth 20000 in
theorem gX5_wipe_X4_clear : GoodIn wsX5_wipe (wsV RX5 100 RX4 yX4_clear wsX4_clear) := goodIn_app (goodIn_of _ (by decide +kernel)) ggX5_wipe_X4_clear
theorem dX5_wipe_0 : decode cX5_wipe 0 = .ok (.aload_n 0, 1) := by decide +kernel
theorem dX5_wipe_1 : decode cX5_wipe 1 = .ok (.getfield 19, 3) := by decide +kernel
theorem dX5_wipe_4 : decode cX5_wipe 4 = .ok (.invokevirtual 97, 3) := by decide +kernel
theorem dX5_wipe_7 : decode cX5_wipe 7 = .ok (.istore_n 1, 1) := by decide +kernel
theorem dX5_wipe_8 : decode cX5_wipe 8 = .ok (.aload_n 0, 1) := by decide +kernel
theorem dX5_wipe_9 : decode cX5_wipe 9 = .ok (.getfield 19, 3) := by decide +kernel
theorem dX5_wipe_12 : decode cX5_wipe 12 = .ok (.invokevirtual 100, 3) := by decide +kernel
theorem dX5_wipe_15 : decode cX5_wipe 15 = .ok (.iload_n 1, 1) := by decide +kernel
theorem dX5_wipe_16 : decode cX5_wipe 16 = .ok (.ireturn, 1) := by decide +kernel
set_option maxRecDepth 20000 in
theorem ggX5_paragraph_X3_isFull : GoodIn wsX5_paragraph wsX3_isFull := goodIn_r _ [9, 10, 11, 159, 160, 161] (by decide +kernel) (by decide +kernel)
set_option maxRecDepth 20000 in
theorem gX5_paragraph_X3_isFull : GoodIn wsX5_paragraph (wsV RX5 103 RX3 yX3_isFull wsX3_isFull) := goodIn_app (goodIn_of _ (by decide +kernel)) ggX5_paragraph_X3_isFull
set_option maxRecDepth 20000 in
theorem ggX5_paragraph_X3_mayGoOn : GoodIn wsX5_paragraph wsX3_mayGoOn := goodIn_r _ [15, 10, 16, 17, 18, 8, 19, 20, 21, 22, 23, 11, 24, 25, 26, 27, 28, 29, 30, 31, 32, 33, 34, 159, 160, 161, 162, 163, 164, 165, 166, 167, 168, 169, 170, 171, 172, 173, 174, 175] (by decide +kernel) (by decide +kernel)
set_option maxRecDepth 20000 in
theorem gX5_paragraph_X3_mayGoOn : GoodIn wsX5_paragraph (wsV RX5 104 RX3 yX3_mayGoOn wsX3_mayGoOn) := goodIn_app (goodIn_of _ (by decide +kernel)) ggX5_paragraph_X3_mayGoOn
set_option maxRecDepth 20000 in
theorem ggX5_paragraph_X4_firstFault : GoodIn wsX5_paragraph wsX4_firstFault := goodIn_r _ [39, 40, 41, 42, 43, 38, 44, 45, 46, 47, 48, 49, 50, 51, 52, 53, 54, 55, 56, 57, 58, 59, 60, 61, 62, 63, 64, 176, 177, 178, 179] (by decide +kernel) (by decide +kernel)
set_option maxRecDepth 20000 in
theorem gX5_paragraph_X4_firstFault : GoodIn wsX5_paragraph (wsV RX5 107 RX4 yX4_firstFault wsX4_firstFault) := goodIn_app (goodIn_of _ (by decide +kernel)) ggX5_paragraph_X4_firstFault
set_option maxRecDepth 20000 in
theorem ggX5_paragraph_X3_append : GoodIn wsX5_paragraph wsX3_append := goodIn_r _ [68, 10, 69, 6, 7, 8, 9, 11, 20, 21, 22, 23, 24, 25, 26, 27, 28, 70, 71, 72, 32, 73, 74, 75, 76, 77, 78, 79, 80, 81, 34, 82, 83, 84, 85, 86, 87, 88, 89, 46, 47, 38, 48, 40, 49, 50, 51, 52, 90, 91, 92, 93, 94, 95, 96, 97, 63, 64, 98, 99, 100, 101, 102, 103, 104, 105, 106, 107, 108, 109, 110, 111, 112, 113, 114, 115, 116, 117, 118, 119, 120, 121, 122, 123, 124, 125, 126, 127, 128, 129, 130, 131, 132, 133, 134, 135, 136, 137, 138, 139, 140, 141, 159, 160, 161, 162, 163, 164, 165, 166, 167, 168, 169, 170, 171, 172, 173, 174, 175, 176, 177] (by decide +kernel) (by decide +kernel)
set_option maxRecDepth 20000 in
theorem gX5_paragraph_X3_append : GoodIn wsX5_paragraph (wsV RX5 111 RX3 yX3_append wsX3_append) := goodIn_app (goodIn_of _ (by decide +kernel)) ggX5_paragraph_X3_append
set_option maxRecDepth 20000 in
theorem ggX5_paragraph_X4_clear : GoodIn wsX5_paragraph wsX4_clear := goodIn_r _ [145, 40, 176, 177] (by decide +kernel) (by decide +kernel)
set_option maxRecDepth 20000 in
theorem gX5_paragraph_X4_clear : GoodIn wsX5_paragraph (wsV RX5 100 RX4 yX4_clear wsX4_clear) := goodIn_app (goodIn_of _ (by decide +kernel)) ggX5_paragraph_X4_clear
set_option maxRecDepth 20000 in
theorem ggX5_paragraph_X3_length : GoodIn wsX5_paragraph wsX3_length := goodIn_r _ [149, 10, 159, 160, 161] (by decide +kernel) (by decide +kernel)
set_option maxRecDepth 20000 in
theorem gX5_paragraph_X3_length : GoodIn wsX5_paragraph (wsV RX5 115 RX3 yX3_length wsX3_length) := goodIn_app (goodIn_of _ (by decide +kernel)) ggX5_paragraph_X3_length
theorem dX5_paragraph_0 : decode cX5_paragraph 0 = .ok (.aload_n 0, 1) := by decide +kernel
theorem dX5_paragraph_1 : decode cX5_paragraph 1 = .ok (.getfield 26, 3) := by decide +kernel
theorem dX5_paragraph_4 : decode cX5_paragraph 4 = .ok (.invokevirtual 103, 3) := by decide +kernel
theorem dX5_paragraph_7 : decode cX5_paragraph 7 = .ok (.ifCond .eq 6, 3) := by decide +kernel
theorem dX5_paragraph_10 : decode cX5_paragraph 10 = .ok (.bipush (-4), 2) := by decide +kernel
theorem dX5_paragraph_12 : decode cX5_paragraph 12 = .ok (.ireturn, 1) := by decide +kernel
theorem dX5_paragraph_13 : decode cX5_paragraph 13 = .ok (.aload_n 0, 1) := by decide +kernel
theorem dX5_paragraph_14 : decode cX5_paragraph 14 = .ok (.getfield 19, 3) := by decide +kernel
theorem dX5_paragraph_17 : decode cX5_paragraph 17 = .ok (.aload_n 0, 1) := by decide +kernel
theorem dX5_paragraph_18 : decode cX5_paragraph 18 = .ok (.getfield 12, 3) := by decide +kernel
theorem dX5_paragraph_21 : decode cX5_paragraph 21 = .ok (.aload_n 0, 1) := by decide +kernel
theorem dX5_paragraph_22 : decode cX5_paragraph 22 = .ok (.getfield 26, 3) := by decide +kernel
theorem dX5_paragraph_25 : decode cX5_paragraph 25 = .ok (.invokevirtual 104, 3) := by decide +kernel
theorem dX5_paragraph_28 : decode cX5_paragraph 28 = .ok (.invokevirtual 107, 3) := by decide +kernel
theorem dX5_paragraph_31 : decode cX5_paragraph 31 = .ok (.istore_n 1, 1) := by decide +kernel
theorem dX5_paragraph_32 : decode cX5_paragraph 32 = .ok (.iload_n 1, 1) := by decide +kernel
theorem dX5_paragraph_33 : decode cX5_paragraph 33 = .ok (.bipush (-9), 2) := by decide +kernel
theorem dX5_paragraph_35 : decode cX5_paragraph 35 = .ok (.if_icmp .eq 8, 3) := by decide +kernel
theorem dX5_paragraph_38 : decode cX5_paragraph 38 = .ok (.bipush (-100), 2) := by decide +kernel
theorem dX5_paragraph_40 : decode cX5_paragraph 40 = .ok (.iload_n 1, 1) := by decide +kernel
theorem dX5_paragraph_41 : decode cX5_paragraph 41 = .ok (.isub, 1) := by decide +kernel
theorem dX5_paragraph_42 : decode cX5_paragraph 42 = .ok (.ireturn, 1) := by decide +kernel
theorem dX5_paragraph_43 : decode cX5_paragraph 43 = .ok (.aload_n 0, 1) := by decide +kernel
theorem dX5_paragraph_44 : decode cX5_paragraph 44 = .ok (.getfield 26, 3) := by decide +kernel
theorem dX5_paragraph_47 : decode cX5_paragraph 47 = .ok (.aload_n 0, 1) := by decide +kernel
theorem dX5_paragraph_48 : decode cX5_paragraph 48 = .ok (.getfield 19, 3) := by decide +kernel
theorem dX5_paragraph_51 : decode cX5_paragraph 51 = .ok (.aload_n 0, 1) := by decide +kernel
theorem dX5_paragraph_52 : decode cX5_paragraph 52 = .ok (.getfield 47, 3) := by decide +kernel
theorem dX5_paragraph_55 : decode cX5_paragraph 55 = .ok (.invokevirtual 111, 3) := by decide +kernel
theorem dX5_paragraph_58 : decode cX5_paragraph 58 = .ok (.aload_n 0, 1) := by decide +kernel
theorem dX5_paragraph_59 : decode cX5_paragraph 59 = .ok (.getfield 19, 3) := by decide +kernel
theorem dX5_paragraph_62 : decode cX5_paragraph 62 = .ok (.invokevirtual 100, 3) := by decide +kernel
theorem dX5_paragraph_65 : decode cX5_paragraph 65 = .ok (.aload_n 0, 1) := by decide +kernel
theorem dX5_paragraph_66 : decode cX5_paragraph 66 = .ok (.getfield 26, 3) := by decide +kernel
theorem dX5_paragraph_69 : decode cX5_paragraph 69 = .ok (.invokevirtual 115, 3) := by decide +kernel
theorem dX5_paragraph_72 : decode cX5_paragraph 72 = .ok (.iconst 1, 1) := by decide +kernel
theorem dX5_paragraph_73 : decode cX5_paragraph 73 = .ok (.isub, 1) := by decide +kernel
theorem dX5_paragraph_74 : decode cX5_paragraph 74 = .ok (.ireturn, 1) := by decide +kernel
set_option maxRecDepth 20000 in
theorem ggX5_cut_X3_length : GoodIn wsX5_cut wsX3_length := goodIn_r _ [6, 7, 21, 22, 23] (by decide +kernel) (by decide +kernel)
set_option maxRecDepth 20000 in
theorem gX5_cut_X3_length : GoodIn wsX5_cut (wsV RX5 115 RX3 yX3_length wsX3_length) := goodIn_app (goodIn_of _ (by decide +kernel)) ggX5_cut_X3_length
set_option maxRecDepth 20000 in
theorem ggX5_cut_X3_dropLast : GoodIn wsX5_cut wsX3_dropLast := goodIn_r _ [11, 7, 21, 22, 23] (by decide +kernel) (by decide +kernel)
set_option maxRecDepth 20000 in
theorem gX5_cut_X3_dropLast : GoodIn wsX5_cut (wsV RX5 116 RX3 yX3_dropLast wsX3_dropLast) := goodIn_app (goodIn_of _ (by decide +kernel)) ggX5_cut_X3_dropLast
theorem dX5_cut_0 : decode cX5_cut 0 = .ok (.aload_n 0, 1) := by decide +kernel
theorem dX5_cut_1 : decode cX5_cut 1 = .ok (.getfield 26, 3) := by decide +kernel
theorem dX5_cut_4 : decode cX5_cut 4 = .ok (.invokevirtual 115, 3) := by decide +kernel
theorem dX5_cut_7 : decode cX5_cut 7 = .ok (.ifCond .ne 6, 3) := by decide +kernel
theorem dX5_cut_10 : decode cX5_cut 10 = .ok (.bipush (-3), 2) := by decide +kernel
theorem dX5_cut_12 : decode cX5_cut 12 = .ok (.ireturn, 1) := by decide +kernel
theorem dX5_cut_13 : decode cX5_cut 13 = .ok (.aload_n 0, 1) := by decide +kernel
theorem dX5_cut_14 : decode cX5_cut 14 = .ok (.getfield 26, 3) := by decide +kernel
theorem dX5_cut_17 : decode cX5_cut 17 = .ok (.invokevirtual 116, 3) := by decide +kernel
theorem dX5_cut_20 : decode cX5_cut 20 = .ok (.aload_n 0, 1) := by decide +kernel
theorem dX5_cut_21 : decode cX5_cut 21 = .ok (.getfield 26, 3) := by decide +kernel
theorem dX5_cut_24 : decode cX5_cut 24 = .ok (.invokevirtual 115, 3) := by decide +kernel
theorem dX5_cut_27 : decode cX5_cut 27 = .ok (.ireturn, 1) := by decide +kernel
set_option maxRecDepth 20000 in
theorem ggX5_ofParagraph_X3_holds : GoodIn wsX5_ofParagraph wsX3_holds := goodIn_r _ [6, 7, 55, 56, 57] (by decide +kernel) (by decide +kernel)
set_option maxRecDepth 20000 in
theorem gX5_ofParagraph_X3_holds : GoodIn wsX5_ofParagraph (wsV RX5 119 RX3 yX3_holds wsX3_holds) := goodIn_app (goodIn_of _ (by decide +kernel)) ggX5_ofParagraph_X3_holds
set_option maxRecDepth 20000 in
theorem ggX5_ofParagraph_X3_paragraphAt : GoodIn wsX5_ofParagraph wsX3_paragraphAt := goodIn_r _ [11, 12, 13, 14, 3, 4, 5, 6, 7, 55, 56, 57] (by decide +kernel) (by decide +kernel)
set_option maxRecDepth 20000 in
theorem gX5_ofParagraph_X3_paragraphAt : GoodIn wsX5_ofParagraph (wsV RX5 122 RX3 yX3_paragraphAt wsX3_paragraphAt) := goodIn_app (goodIn_of _ (by decide +kernel)) ggX5_ofParagraph_X3_paragraphAt
set_option maxRecDepth 20000 in
theorem ggX5_ofParagraph_X1_length : GoodIn wsX5_ofParagraph wsX1_length := goodIn_r _ [19, 20, 58, 59, 60, 61, 62, 63, 64, 65, 66, 67, 68, 69, 70, 71] (by decide +kernel) (by decide +kernel)
set_option maxRecDepth 20000 in
theorem gX5_ofParagraph_X1_length : GoodIn wsX5_ofParagraph (wsV RX5 126 RX1 yX1_length wsX1_length) := goodIn_app (goodIn_of _ (by decide +kernel)) ggX5_ofParagraph_X1_length
set_option maxRecDepth 20000 in
theorem ggX5_ofParagraph_X1_quotes : GoodIn wsX5_ofParagraph wsX1_quotes := goodIn_r _ [24, 25, 58, 59, 60, 61, 62, 63, 64, 65, 66, 67, 68, 69, 70, 71] (by decide +kernel) (by decide +kernel)
set_option maxRecDepth 20000 in
theorem gX5_ofParagraph_X1_quotes : GoodIn wsX5_ofParagraph (wsV RX5 129 RX1 yX1_quotes wsX1_quotes) := goodIn_app (goodIn_of _ (by decide +kernel)) ggX5_ofParagraph_X1_quotes
set_option maxRecDepth 20000 in
theorem ggX5_ofParagraph_X1_goesOn : GoodIn wsX5_ofParagraph wsX1_goesOn := goodIn_r _ [29, 30, 58, 59, 60, 61, 62, 63, 64, 65, 66, 67, 68, 69, 70, 71] (by decide +kernel) (by decide +kernel)
set_option maxRecDepth 20000 in
theorem gX5_ofParagraph_X1_goesOn : GoodIn wsX5_ofParagraph (wsV RX5 132 RX1 yX1_goesOn wsX1_goesOn) := goodIn_app (goodIn_of _ (by decide +kernel)) ggX5_ofParagraph_X1_goesOn
set_option maxRecDepth 20000 in
theorem ggX5_ofParagraph_X1_hereThen : GoodIn wsX5_ofParagraph wsX1_hereThen := goodIn_r _ [34, 35, 58, 59, 60, 61, 62, 63, 64, 65, 66, 67, 68, 69, 70, 71] (by decide +kernel) (by decide +kernel)
set_option maxRecDepth 20000 in
theorem gX5_ofParagraph_X1_hereThen : GoodIn wsX5_ofParagraph (wsV RX5 135 RX1 yX1_hereThen wsX1_hereThen) := goodIn_app (goodIn_of _ (by decide +kernel)) ggX5_ofParagraph_X1_hereThen
set_option maxRecDepth 20000 in
theorem ggX5_ofParagraph_X1_countingVerbs : GoodIn wsX5_ofParagraph wsX1_countingVerbs := goodIn_r _ [39, 40, 58, 59, 60, 61, 62, 63, 64, 65, 66, 67, 68, 69, 70, 71] (by decide +kernel) (by decide +kernel)
set_option maxRecDepth 20000 in
theorem gX5_ofParagraph_X1_countingVerbs : GoodIn wsX5_ofParagraph (wsV RX5 138 RX1 yX1_countingVerbs wsX1_countingVerbs) := goodIn_app (goodIn_of _ (by decide +kernel)) ggX5_ofParagraph_X1_countingVerbs
set_option maxRecDepth 20000 in
theorem ggX5_ofParagraph_X1_hintSet : GoodIn wsX5_ofParagraph wsX1_hintSet := goodIn_r _ [44, 45, 58, 59, 60, 61, 62, 63, 64, 65, 66, 67, 68, 69, 70, 71] (by decide +kernel) (by decide +kernel)
set_option maxRecDepth 20000 in
theorem gX5_ofParagraph_X1_hintSet : GoodIn wsX5_ofParagraph (wsV RX5 141 RX1 yX1_hintSet wsX1_hintSet) := goodIn_app (goodIn_of _ (by decide +kernel)) ggX5_ofParagraph_X1_hintSet
theorem dX5_ofParagraph_0 : decode cX5_ofParagraph 0 = .ok (.aload_n 0, 1) := by decide +kernel
theorem dX5_ofParagraph_1 : decode cX5_ofParagraph 1 = .ok (.getfield 26, 3) := by decide +kernel
theorem dX5_ofParagraph_4 : decode cX5_ofParagraph 4 = .ok (.iload_n 1, 1) := by decide +kernel
theorem dX5_ofParagraph_5 : decode cX5_ofParagraph 5 = .ok (.invokevirtual 119, 3) := by decide +kernel
theorem dX5_ofParagraph_8 : decode cX5_ofParagraph 8 = .ok (.ifCond .ne 5, 3) := by decide +kernel
theorem dX5_ofParagraph_11 : decode cX5_ofParagraph 11 = .ok (.iconst (-1), 1) := by decide +kernel
theorem dX5_ofParagraph_12 : decode cX5_ofParagraph 12 = .ok (.ireturn, 1) := by decide +kernel
theorem dX5_ofParagraph_13 : decode cX5_ofParagraph 13 = .ok (.aload_n 0, 1) := by decide +kernel
theorem dX5_ofParagraph_14 : decode cX5_ofParagraph 14 = .ok (.getfield 26, 3) := by decide +kernel
theorem dX5_ofParagraph_17 : decode cX5_ofParagraph 17 = .ok (.iload_n 1, 1) := by decide +kernel
theorem dX5_ofParagraph_18 : decode cX5_ofParagraph 18 = .ok (.invokevirtual 122, 3) := by decide +kernel
theorem dX5_ofParagraph_21 : decode cX5_ofParagraph 21 = .ok (.astore_n 3, 1) := by decide +kernel
theorem dX5_ofParagraph_22 : decode cX5_ofParagraph 22 = .ok (.iload_n 2, 1) := by decide +kernel
theorem dX5_ofParagraph_23 : decode cX5_ofParagraph 23 = .ok (.tableswitch 75 0 5 #[37, 42, 47, 60, 65, 70], 37) := by decide +kernel
theorem dX5_ofParagraph_60 : decode cX5_ofParagraph 60 = .ok (.aload_n 3, 1) := by decide +kernel
theorem dX5_ofParagraph_61 : decode cX5_ofParagraph 61 = .ok (.invokevirtual 126, 3) := by decide +kernel
theorem dX5_ofParagraph_64 : decode cX5_ofParagraph 64 = .ok (.ireturn, 1) := by decide +kernel
theorem dX5_ofParagraph_65 : decode cX5_ofParagraph 65 = .ok (.aload_n 3, 1) := by decide +kernel
theorem dX5_ofParagraph_66 : decode cX5_ofParagraph 66 = .ok (.invokevirtual 129, 3) := by decide +kernel
theorem dX5_ofParagraph_69 : decode cX5_ofParagraph 69 = .ok (.ireturn, 1) := by decide +kernel
theorem dX5_ofParagraph_70 : decode cX5_ofParagraph 70 = .ok (.aload_n 3, 1) := by decide +kernel
theorem dX5_ofParagraph_71 : decode cX5_ofParagraph 71 = .ok (.invokevirtual 132, 3) := by decide +kernel
theorem dX5_ofParagraph_74 : decode cX5_ofParagraph 74 = .ok (.ifCond .eq 7, 3) := by decide +kernel
theorem dX5_ofParagraph_77 : decode cX5_ofParagraph 77 = .ok (.iconst 1, 1) := by decide +kernel
theorem dX5_ofParagraph_78 : decode cX5_ofParagraph 78 = .ok (.goto 4, 3) := by decide +kernel
theorem dX5_ofParagraph_81 : decode cX5_ofParagraph 81 = .ok (.iconst 0, 1) := by decide +kernel
theorem dX5_ofParagraph_82 : decode cX5_ofParagraph 82 = .ok (.ireturn, 1) := by decide +kernel
theorem dX5_ofParagraph_83 : decode cX5_ofParagraph 83 = .ok (.aload_n 3, 1) := by decide +kernel
theorem dX5_ofParagraph_84 : decode cX5_ofParagraph 84 = .ok (.invokevirtual 135, 3) := by decide +kernel
theorem dX5_ofParagraph_87 : decode cX5_ofParagraph 87 = .ok (.ireturn, 1) := by decide +kernel
theorem dX5_ofParagraph_88 : decode cX5_ofParagraph 88 = .ok (.aload_n 3, 1) := by decide +kernel
theorem dX5_ofParagraph_89 : decode cX5_ofParagraph 89 = .ok (.invokevirtual 138, 3) := by decide +kernel
theorem dX5_ofParagraph_92 : decode cX5_ofParagraph 92 = .ok (.ireturn, 1) := by decide +kernel
theorem dX5_ofParagraph_93 : decode cX5_ofParagraph 93 = .ok (.aload_n 3, 1) := by decide +kernel
theorem dX5_ofParagraph_94 : decode cX5_ofParagraph 94 = .ok (.invokevirtual 141, 3) := by decide +kernel
theorem dX5_ofParagraph_97 : decode cX5_ofParagraph 97 = .ok (.ireturn, 1) := by decide +kernel
theorem dX5_ofParagraph_98 : decode cX5_ofParagraph 98 = .ok (.bipush (-2), 2) := by decide +kernel
theorem dX5_ofParagraph_100 : decode cX5_ofParagraph 100 = .ok (.ireturn, 1) := by decide +kernel
set_option maxRecDepth 20000 in
theorem ggX5_set_X3_holds : GoodIn wsX5_set wsX3_holds := goodIn_r _ [7, 8, 170, 171, 172] (by decide +kernel) (by decide +kernel)
set_option maxRecDepth 20000 in
theorem gX5_set_X3_holds : GoodIn wsX5_set (wsV RX5 119 RX3 yX3_holds wsX3_holds) := goodIn_app (goodIn_of _ (by decide +kernel)) ggX5_set_X3_holds
set_option maxRecDepth 20000 in
theorem ggX5_set_X3_paragraphAt : GoodIn wsX5_set wsX3_paragraphAt := goodIn_r _ [12, 13, 14, 15, 4, 5, 6, 7, 8, 170, 171, 172] (by decide +kernel) (by decide +kernel)
set_option maxRecDepth 20000 in
theorem gX5_set_X3_paragraphAt : GoodIn wsX5_set (wsV RX5 122 RX3 yX3_paragraphAt wsX3_paragraphAt) := goodIn_app (goodIn_of _ (by decide +kernel)) ggX5_set_X3_paragraphAt
set_option maxRecDepth 20000 in
theorem ggX5_set_X1_speaks : GoodIn wsX5_set wsX1_speaks := goodIn_r _ [20, 21, 173, 174, 175, 176, 177, 178, 179, 180, 181, 182, 183, 184, 185, 186] (by decide +kernel) (by decide +kernel)
set_option maxRecDepth 20000 in
theorem gX5_set_X1_speaks : GoodIn wsX5_set (wsV RX5 144 RX1 yX1_speaks wsX1_speaks) := goodIn_app (goodIn_of _ (by decide +kernel)) ggX5_set_X1_speaks
set_option maxRecDepth 20000 in
theorem ggX5_set_X5_fillChain : GoodIn wsX5_set wsX5_fillChain := goodIn_r _ [26, 2, 1, 27, 28, 29, 30, 31, 32, 33, 34, 35, 36, 37, 6, 38, 8, 9, 10, 11, 12, 13, 14, 15, 4, 5, 7, 16, 17, 18, 19, 20, 21, 39, 40, 41, 42, 43, 44, 45, 46, 47, 48, 49, 50, 51, 52, 53, 54, 55, 56, 57, 58, 59, 60, 61, 25, 62, 63, 64, 65, 66, 67, 68, 69, 70, 71, 72, 73, 74, 75, 76, 77, 78, 79, 80, 81, 82, 83, 84, 85, 86, 161, 162, 163, 164, 165, 166, 167, 168, 169, 187, 188, 189, 190, 191, 192, 193, 194, 195, 170, 171, 172, 173, 174, 175, 176, 177, 178, 179, 180, 181, 182, 183, 184, 185, 186, 196, 197] (by decide +kernel) (by decide +kernel)
set_option maxRecDepth 20000 in
theorem gX5_set_X5_fillChain : GoodIn wsX5_set (wsV RX5 73 RX5 yX5_fillChain wsX5_fillChain) := goodIn_app (goodIn_of _ (by decide +kernel)) ggX5_set_X5_fillChain
set_option maxRecDepth 20000 in
theorem ggX5_set_X0_ownSet : GoodIn wsX5_set wsX0_ownSet := goodIn_r _ [90, 83, 91, 92, 93, 32, 94, 34, 85, 25, 86, 187, 188, 189, 190, 191, 192, 193, 194, 195] (by decide +kernel) (by decide +kernel)
set_option maxRecDepth 20000 in
theorem gX5_set_X0_ownSet : GoodIn wsX5_set (wsV RX5 147 RX0 yX0_ownSet wsX0_ownSet) := goodIn_app (goodIn_of _ (by decide +kernel)) ggX5_set_X0_ownSet
set_option maxRecDepth 20000 in
theorem ggX5_set_X0_narrow : GoodIn wsX5_set wsX0_narrow := goodIn_r _ [98, 99, 100, 88, 89, 32, 90, 83, 91, 92, 93, 94, 34, 85, 25, 86, 101, 102, 103, 104, 105, 106, 107, 108, 109, 110, 111, 112, 113, 84, 114, 115, 116, 117, 118, 119, 120, 121, 122, 123, 187, 188, 189, 190, 191, 192, 193, 194, 195] (by decide +kernel) (by decide +kernel)
set_option maxRecDepth 20000 in
theorem gX5_set_X0_narrow : GoodIn wsX5_set (wsV RX5 150 RX0 yX0_narrow wsX0_narrow) := goodIn_app (goodIn_of _ (by decide +kernel)) ggX5_set_X0_narrow
set_option maxRecDepth 20000 in
theorem ggX5_set_X0_narrowedSet : GoodIn wsX5_set wsX0_narrowedSet := goodIn_r _ [127, 99, 91, 92, 93, 32, 94, 34, 85, 25, 86, 187, 188, 189, 190, 191, 192, 193, 194, 195] (by decide +kernel) (by decide +kernel)
set_option maxRecDepth 20000 in
theorem gX5_set_X0_narrowedSet : GoodIn wsX5_set (wsV RX5 153 RX0 yX0_narrowedSet wsX0_narrowedSet) := goodIn_app (goodIn_of _ (by decide +kernel)) ggX5_set_X0_narrowedSet
set_option maxRecDepth 20000 in
theorem ggX5_set_X0_countWays : GoodIn wsX5_set wsX0_countWays := goodIn_r _ [131, 34, 132, 133, 110, 111, 112, 32, 113, 84, 91, 92, 93, 94, 85, 25, 86, 134, 135, 136, 137, 82, 100, 88, 89, 90, 83, 61, 62, 138, 139, 140, 141, 142, 143, 144, 145, 146, 147, 148, 149, 150, 151, 152, 153, 154, 155, 156, 187, 188, 189, 190, 191, 192, 193, 194, 195] (by decide +kernel) (by decide +kernel)
set_option maxRecDepth 20000 in
theorem gX5_set_X0_countWays : GoodIn wsX5_set (wsV RX5 156 RX0 yX0_countWays wsX0_countWays) := goodIn_app (goodIn_of _ (by decide +kernel)) ggX5_set_X0_countWays
set_option maxRecDepth 20000 in
theorem ggX5_set_X0_sureSet : GoodIn wsX5_set wsX0_sureSet := goodIn_r _ [160, 133, 91, 92, 93, 32, 94, 34, 85, 25, 86, 187, 188, 189, 190, 191, 192, 193, 194, 195] (by decide +kernel) (by decide +kernel)
set_option maxRecDepth 20000 in
theorem gX5_set_X0_sureSet : GoodIn wsX5_set (wsV RX5 160 RX0 yX0_sureSet wsX0_sureSet) := goodIn_app (goodIn_of _ (by decide +kernel)) ggX5_set_X0_sureSet
theorem dX5_set_0 : decode cX5_set 0 = .ok (.aload_n 0, 1) := by decide +kernel
theorem dX5_set_1 : decode cX5_set 1 = .ok (.getfield 26, 3) := by decide +kernel
theorem dX5_set_4 : decode cX5_set 4 = .ok (.iload_n 1, 1) := by decide +kernel
theorem dX5_set_5 : decode cX5_set 5 = .ok (.invokevirtual 119, 3) := by decide +kernel
theorem dX5_set_8 : decode cX5_set 8 = .ok (.ifCond .ne 5, 3) := by decide +kernel
theorem dX5_set_11 : decode cX5_set 11 = .ok (.iconst (-1), 1) := by decide +kernel
theorem dX5_set_12 : decode cX5_set 12 = .ok (.ireturn, 1) := by decide +kernel
theorem dX5_set_13 : decode cX5_set 13 = .ok (.iload_n 2, 1) := by decide +kernel
theorem dX5_set_14 : decode cX5_set 14 = .ok (.ifCond .lt 8, 3) := by decide +kernel
theorem dX5_set_17 : decode cX5_set 17 = .ok (.iload_n 2, 1) := by decide +kernel
theorem dX5_set_18 : decode cX5_set 18 = .ok (.iconst 2, 1) := by decide +kernel
theorem dX5_set_19 : decode cX5_set 19 = .ok (.if_icmp .le 6, 3) := by decide +kernel
theorem dX5_set_22 : decode cX5_set 22 = .ok (.bipush (-2), 2) := by decide +kernel
theorem dX5_set_24 : decode cX5_set 24 = .ok (.ireturn, 1) := by decide +kernel
theorem dX5_set_25 : decode cX5_set 25 = .ok (.aload_n 0, 1) := by decide +kernel
theorem dX5_set_26 : decode cX5_set 26 = .ok (.getfield 26, 3) := by decide +kernel
theorem dX5_set_29 : decode cX5_set 29 = .ok (.iload_n 1, 1) := by decide +kernel
theorem dX5_set_30 : decode cX5_set 30 = .ok (.invokevirtual 122, 3) := by decide +kernel
theorem dX5_set_33 : decode cX5_set 33 = .ok (.invokevirtual 144, 3) := by decide +kernel
theorem dX5_set_36 : decode cX5_set 36 = .ok (.ifCond .ne 6, 3) := by decide +kernel
theorem dX5_set_39 : decode cX5_set 39 = .ok (.bipush (-9), 2) := by decide +kernel
theorem dX5_set_41 : decode cX5_set 41 = .ok (.ireturn, 1) := by decide +kernel
theorem dX5_set_42 : decode cX5_set 42 = .ok (.aload_n 0, 1) := by decide +kernel
theorem dX5_set_43 : decode cX5_set 43 = .ok (.invokevirtual 73, 3) := by decide +kernel
theorem dX5_set_46 : decode cX5_set 46 = .ok (.iload_n 2, 1) := by decide +kernel
theorem dX5_set_47 : decode cX5_set 47 = .ok (.ifCond .ne 12, 3) := by decide +kernel
theorem dX5_set_50 : decode cX5_set 50 = .ok (.aload_n 0, 1) := by decide +kernel
theorem dX5_set_51 : decode cX5_set 51 = .ok (.getfield 33, 3) := by decide +kernel
theorem dX5_set_54 : decode cX5_set 54 = .ok (.iload_n 1, 1) := by decide +kernel
theorem dX5_set_55 : decode cX5_set 55 = .ok (.invokevirtual 147, 3) := by decide +kernel
theorem dX5_set_58 : decode cX5_set 58 = .ok (.ireturn, 1) := by decide +kernel
theorem dX5_set_59 : decode cX5_set 59 = .ok (.iload_n 2, 1) := by decide +kernel
theorem dX5_set_60 : decode cX5_set 60 = .ok (.iconst 1, 1) := by decide +kernel
theorem dX5_set_61 : decode cX5_set 61 = .ok (.if_icmp .ne 19, 3) := by decide +kernel
theorem dX5_set_64 : decode cX5_set 64 = .ok (.aload_n 0, 1) := by decide +kernel
theorem dX5_set_65 : decode cX5_set 65 = .ok (.getfield 33, 3) := by decide +kernel
theorem dX5_set_68 : decode cX5_set 68 = .ok (.invokevirtual 150, 3) := by decide +kernel
theorem dX5_set_71 : decode cX5_set 71 = .ok (.aload_n 0, 1) := by decide +kernel
theorem dX5_set_72 : decode cX5_set 72 = .ok (.getfield 33, 3) := by decide +kernel
theorem dX5_set_75 : decode cX5_set 75 = .ok (.iload_n 1, 1) := by decide +kernel
theorem dX5_set_76 : decode cX5_set 76 = .ok (.invokevirtual 153, 3) := by decide +kernel
theorem dX5_set_79 : decode cX5_set 79 = .ok (.ireturn, 1) := by decide +kernel
theorem dX5_set_80 : decode cX5_set 80 = .ok (.aload_n 0, 1) := by decide +kernel
theorem dX5_set_81 : decode cX5_set 81 = .ok (.getfield 33, 3) := by decide +kernel
theorem dX5_set_84 : decode cX5_set 84 = .ok (.invokevirtual 156, 3) := by decide +kernel
theorem dX5_set_87 : decode cX5_set 87 = .ok (.pop2, 1) := by decide +kernel
theorem dX5_set_88 : decode cX5_set 88 = .ok (.aload_n 0, 1) := by decide +kernel
theorem dX5_set_89 : decode cX5_set 89 = .ok (.getfield 33, 3) := by decide +kernel
theorem dX5_set_92 : decode cX5_set 92 = .ok (.iload_n 1, 1) := by decide +kernel
theorem dX5_set_93 : decode cX5_set 93 = .ok (.invokevirtual 160, 3) := by decide +kernel
theorem dX5_set_96 : decode cX5_set 96 = .ok (.ireturn, 1) := by decide +kernel
set_option maxRecDepth 20000 in
theorem ggX5_hint_X3_holds : GoodIn wsX5_hint wsX3_holds := goodIn_r _ [6, 7, 149, 150, 151] (by decide +kernel) (by decide +kernel)
set_option maxRecDepth 20000 in
theorem gX5_hint_X3_holds : GoodIn wsX5_hint (wsV RX5 119 RX3 yX3_holds wsX3_holds) := goodIn_app (goodIn_of _ (by decide +kernel)) ggX5_hint_X3_holds
set_option maxRecDepth 20000 in
theorem ggX5_hint_X3_paragraphAt : GoodIn wsX5_hint wsX3_paragraphAt := goodIn_r _ [11, 12, 13, 14, 3, 4, 5, 6, 7, 149, 150, 151] (by decide +kernel) (by decide +kernel)
set_option maxRecDepth 20000 in
theorem gX5_hint_X3_paragraphAt : GoodIn wsX5_hint (wsV RX5 122 RX3 yX3_paragraphAt wsX3_paragraphAt) := goodIn_app (goodIn_of _ (by decide +kernel)) ggX5_hint_X3_paragraphAt
set_option maxRecDepth 20000 in
theorem ggX5_hint_X1_speaks : GoodIn wsX5_hint wsX1_speaks := goodIn_r _ [19, 20, 152, 153, 154, 155, 156, 157, 158, 159, 160, 161, 162, 163, 164, 165] (by decide +kernel) (by decide +kernel)
set_option maxRecDepth 20000 in
theorem gX5_hint_X1_speaks : GoodIn wsX5_hint (wsV RX5 144 RX1 yX1_speaks wsX1_speaks) := goodIn_app (goodIn_of _ (by decide +kernel)) ggX5_hint_X1_speaks
set_option maxRecDepth 20000 in
theorem ggX5_hint_X5_keepNarrowedSets : GoodIn wsX5_hint wsX5_keepNarrowedSets := goodIn_r _ [25, 26, 27, 28, 29, 30, 24, 31, 1, 32, 33, 34, 35, 36, 37, 38, 39, 40, 41, 42, 5, 43, 7, 8, 9, 10, 11, 12, 13, 14, 3, 4, 6, 15, 16, 17, 18, 19, 20, 44, 45, 46, 47, 48, 49, 50, 51, 52, 53, 54, 55, 56, 57, 58, 59, 60, 61, 62, 63, 64, 65, 66, 67, 68, 69, 70, 71, 72, 73, 74, 75, 76, 77, 78, 79, 80, 81, 82, 83, 84, 85, 86, 87, 88, 89, 90, 91, 92, 93, 94, 95, 96, 97, 98, 99, 100, 101, 102, 103, 104, 105, 106, 107, 108, 109, 110, 111, 112, 113, 114, 115, 116, 117, 118, 119, 120, 121, 122, 123, 124, 125, 126, 127, 128, 129, 130, 131, 140, 141, 142, 143, 144, 145, 146, 147, 148, 166, 167, 168, 169, 170, 171, 172, 173, 174, 149, 150, 151, 152, 153, 154, 155, 156, 157, 158, 159, 160, 161, 162, 163, 164, 165, 175, 176] (by decide +kernel) (by decide +kernel)
set_option maxRecDepth 20000 in
theorem gX5_hint_X5_keepNarrowedSets : GoodIn wsX5_hint (wsV RX5 163 RX5 yX5_keepNarrowedSets wsX5_keepNarrowedSets) := goodIn_app (goodIn_of _ (by decide +kernel)) ggX5_hint_X5_keepNarrowedSets
set_option maxRecDepth 20000 in
theorem ggX5_hint_X1_takeHint : GoodIn wsX5_hint wsX1_takeHint := goodIn_r _ [135, 54, 152, 153, 154, 155, 156, 157, 158, 159, 160, 161, 162, 163, 164, 165] (by decide +kernel) (by decide +kernel)
set_option maxRecDepth 20000 in
theorem gX5_hint_X1_takeHint : GoodIn wsX5_hint (wsV RX5 166 RX1 yX1_takeHint wsX1_takeHint) := goodIn_app (goodIn_of _ (by decide +kernel)) ggX5_hint_X1_takeHint
set_option maxRecDepth 20000 in
theorem ggX5_hint_X5_changedNarrowedSets : GoodIn wsX5_hint wsX5_changedNarrowedSets := goodIn_r _ [139, 26, 27, 28, 29, 30, 24, 31, 1, 32, 33, 34, 35, 36, 37, 38, 39, 40, 41, 42, 5, 43, 7, 8, 9, 10, 11, 12, 13, 14, 3, 4, 6, 15, 16, 17, 18, 19, 20, 44, 45, 46, 47, 48, 49, 50, 51, 52, 53, 54, 55, 56, 57, 58, 59, 60, 61, 62, 63, 64, 65, 66, 67, 68, 69, 70, 71, 72, 73, 74, 75, 76, 77, 78, 79, 80, 81, 82, 83, 84, 85, 86, 87, 88, 89, 90, 91, 92, 93, 94, 95, 96, 97, 98, 99, 100, 101, 102, 103, 104, 105, 106, 107, 108, 109, 110, 111, 112, 113, 114, 115, 116, 117, 118, 119, 120, 121, 122, 123, 124, 125, 126, 127, 128, 129, 130, 131, 140, 141, 142, 143, 144, 145, 146, 147, 148, 166, 167, 168, 169, 170, 171, 172, 173, 174, 149, 150, 151, 152, 153, 154, 155, 156, 157, 158, 159, 160, 161, 162, 163, 164, 165, 175, 176] (by decide +kernel) (by decide +kernel)
set_option maxRecDepth 20000 in
theorem gX5_hint_X5_changedNarrowedSets : GoodIn wsX5_hint (wsV RX5 169 RX5 yX5_changedNarrowedSets wsX5_changedNarrowedSets) := goodIn_app (goodIn_of _ (by decide +kernel)) ggX5_hint_X5_changedNarrowedSets
theorem dX5_hint_0 : decode cX5_hint 0 = .ok (.aload_n 0, 1) := by decide +kernel
theorem dX5_hint_1 : decode cX5_hint 1 = .ok (.getfield 26, 3) := by decide +kernel
theorem dX5_hint_4 : decode cX5_hint 4 = .ok (.iload_n 1, 1) := by decide +kernel
theorem dX5_hint_5 : decode cX5_hint 5 = .ok (.invokevirtual 119, 3) := by decide +kernel
theorem dX5_hint_8 : decode cX5_hint 8 = .ok (.ifCond .ne 5, 3) := by decide +kernel
theorem dX5_hint_11 : decode cX5_hint 11 = .ok (.iconst (-1), 1) := by decide +kernel
theorem dX5_hint_12 : decode cX5_hint 12 = .ok (.ireturn, 1) := by decide +kernel
theorem dX5_hint_13 : decode cX5_hint 13 = .ok (.iload_n 2, 1) := by decide +kernel
theorem dX5_hint_14 : decode cX5_hint 14 = .ok (.bipush (-9), 2) := by decide +kernel
theorem dX5_hint_16 : decode cX5_hint 16 = .ok (.if_icmp .eq 18, 3) := by decide +kernel
theorem dX5_hint_19 : decode cX5_hint 19 = .ok (.iload_n 2, 1) := by decide +kernel
theorem dX5_hint_20 : decode cX5_hint 20 = .ok (.iconst 1, 1) := by decide +kernel
theorem dX5_hint_21 : decode cX5_hint 21 = .ok (.if_icmp .lt 10, 3) := by decide +kernel
theorem dX5_hint_24 : decode cX5_hint 24 = .ok (.iload_n 2, 1) := by decide +kernel
theorem dX5_hint_25 : decode cX5_hint 25 = .ok (.sipush 255, 3) := by decide +kernel
theorem dX5_hint_28 : decode cX5_hint 28 = .ok (.if_icmp .le 6, 3) := by decide +kernel
theorem dX5_hint_31 : decode cX5_hint 31 = .ok (.bipush (-2), 2) := by decide +kernel
theorem dX5_hint_33 : decode cX5_hint 33 = .ok (.ireturn, 1) := by decide +kernel
theorem dX5_hint_34 : decode cX5_hint 34 = .ok (.aload_n 0, 1) := by decide +kernel
theorem dX5_hint_35 : decode cX5_hint 35 = .ok (.getfield 26, 3) := by decide +kernel
theorem dX5_hint_38 : decode cX5_hint 38 = .ok (.iload_n 1, 1) := by decide +kernel
theorem dX5_hint_39 : decode cX5_hint 39 = .ok (.invokevirtual 122, 3) := by decide +kernel
theorem dX5_hint_42 : decode cX5_hint 42 = .ok (.astore_n 3, 1) := by decide +kernel
theorem dX5_hint_43 : decode cX5_hint 43 = .ok (.aload_n 3, 1) := by decide +kernel
theorem dX5_hint_44 : decode cX5_hint 44 = .ok (.invokevirtual 144, 3) := by decide +kernel
theorem dX5_hint_47 : decode cX5_hint 47 = .ok (.ifCond .ne 6, 3) := by decide +kernel
theorem dX5_hint_50 : decode cX5_hint 50 = .ok (.bipush (-3), 2) := by decide +kernel
theorem dX5_hint_52 : decode cX5_hint 52 = .ok (.ireturn, 1) := by decide +kernel
theorem dX5_hint_53 : decode cX5_hint 53 = .ok (.aload_n 0, 1) := by decide +kernel
theorem dX5_hint_54 : decode cX5_hint 54 = .ok (.invokevirtual 163, 3) := by decide +kernel
theorem dX5_hint_57 : decode cX5_hint 57 = .ok (.aload_n 3, 1) := by decide +kernel
theorem dX5_hint_58 : decode cX5_hint 58 = .ok (.iload_n 2, 1) := by decide +kernel
theorem dX5_hint_59 : decode cX5_hint 59 = .ok (.invokevirtual 166, 3) := by decide +kernel
theorem dX5_hint_62 : decode cX5_hint 62 = .ok (.aload_n 0, 1) := by decide +kernel
theorem dX5_hint_63 : decode cX5_hint 63 = .ok (.invokevirtual 169, 3) := by decide +kernel
theorem dX5_hint_66 : decode cX5_hint 66 = .ok (.ireturn, 1) := by decide +kernel
set_option maxRecDepth 20000 in
theorem ggX5_link_X3_holds : GoodIn wsX5_link wsX3_holds := goodIn_r _ [7, 8, 44, 45, 46] (by decide +kernel) (by decide +kernel)
set_option maxRecDepth 20000 in
theorem gX5_link_X3_holds : GoodIn wsX5_link (wsV RX5 119 RX3 yX3_holds wsX3_holds) := goodIn_app (goodIn_of _ (by decide +kernel)) ggX5_link_X3_holds
set_option maxRecDepth 20000 in
theorem ggX5_link_X3_linkAhead : GoodIn wsX5_link wsX3_linkAhead := goodIn_r _ [12, 13, 14, 15, 6, 16, 17, 18, 19, 20, 21, 22, 23, 4, 5, 7, 8, 24, 25, 26, 27, 28, 29, 30, 31, 32, 33, 34, 44, 45, 46, 47, 48, 49, 50, 51, 52, 53, 54, 55, 56, 57, 58, 59, 60] (by decide +kernel) (by decide +kernel)
set_option maxRecDepth 20000 in
theorem gX5_link_X3_linkAhead : GoodIn wsX5_link (wsV RX5 172 RX3 yX3_linkAhead wsX3_linkAhead) := goodIn_app (goodIn_of _ (by decide +kernel)) ggX5_link_X3_linkAhead
theorem dX5_link_0 : decode cX5_link 0 = .ok (.aload_n 0, 1) := by decide +kernel
theorem dX5_link_1 : decode cX5_link 1 = .ok (.getfield 26, 3) := by decide +kernel
theorem dX5_link_4 : decode cX5_link 4 = .ok (.iload_n 1, 1) := by decide +kernel
theorem dX5_link_5 : decode cX5_link 5 = .ok (.invokevirtual 119, 3) := by decide +kernel
theorem dX5_link_8 : decode cX5_link 8 = .ok (.ifCond .eq 18, 3) := by decide +kernel
theorem dX5_link_11 : decode cX5_link 11 = .ok (.aload_n 0, 1) := by decide +kernel
theorem dX5_link_12 : decode cX5_link 12 = .ok (.getfield 26, 3) := by decide +kernel
theorem dX5_link_15 : decode cX5_link 15 = .ok (.iload_n 1, 1) := by decide +kernel
theorem dX5_link_16 : decode cX5_link 16 = .ok (.aload_n 0, 1) := by decide +kernel
theorem dX5_link_17 : decode cX5_link 17 = .ok (.getfield 51, 3) := by decide +kernel
theorem dX5_link_20 : decode cX5_link 20 = .ok (.invokevirtual 172, 3) := by decide +kernel
theorem dX5_link_23 : decode cX5_link 23 = .ok (.goto 4, 3) := by decide +kernel
theorem dX5_link_26 : decode cX5_link 26 = .ok (.iconst (-1), 1) := by decide +kernel
theorem dX5_link_27 : decode cX5_link 27 = .ok (.ireturn, 1) := by decide +kernel
set_option maxRecDepth 20000 in
theorem ggX5_ways_X5_fillChain : GoodIn wsX5_ways wsX5_fillChain := goodIn_r _ [6, 1, 7, 8, 9, 10, 11, 12, 13, 14, 15, 16, 17, 18, 19, 20, 21, 22, 23, 24, 25, 26, 27, 28, 29, 30, 31, 32, 33, 34, 35, 36, 37, 38, 39, 40, 41, 42, 43, 44, 45, 46, 47, 48, 49, 50, 51, 52, 53, 54, 55, 56, 57, 58, 59, 60, 5, 61, 62, 63, 64, 65, 66, 67, 68, 69, 70, 71, 72, 73, 74, 75, 76, 77, 78, 79, 80, 81, 82, 83, 84, 85, 127, 128, 129, 130, 131, 132, 133, 134, 135, 136, 137, 138, 139, 140, 141, 142, 143, 144, 145, 146, 147, 148, 149, 150, 151, 152, 153, 154, 155, 156, 157, 158, 159, 160, 161, 162, 163] (by decide +kernel) (by decide +kernel)
set_option maxRecDepth 20000 in
theorem gX5_ways_X5_fillChain : GoodIn wsX5_ways (wsV RX5 73 RX5 yX5_fillChain wsX5_fillChain) := goodIn_app (goodIn_of _ (by decide +kernel)) ggX5_ways_X5_fillChain
set_option maxRecDepth 20000 in
theorem ggX5_ways_X0_countWays : GoodIn wsX5_ways wsX0_countWays := goodIn_r _ [89, 15, 90, 91, 92, 93, 94, 13, 95, 83, 96, 97, 98, 99, 84, 5, 85, 100, 101, 102, 103, 81, 104, 105, 106, 107, 82, 60, 61, 108, 109, 110, 111, 112, 113, 114, 115, 116, 117, 118, 119, 120, 121, 122, 123, 124, 125, 126, 136, 137, 138, 139, 140, 141, 142, 143, 144] (by decide +kernel) (by decide +kernel)
set_option maxRecDepth 20000 in
theorem gX5_ways_X0_countWays : GoodIn wsX5_ways (wsV RX5 156 RX0 yX0_countWays wsX0_countWays) := goodIn_app (goodIn_of _ (by decide +kernel)) ggX5_ways_X0_countWays
theorem dX5_ways_0 : decode cX5_ways 0 = .ok (.aload_n 0, 1) := by decide +kernel
theorem dX5_ways_1 : decode cX5_ways 1 = .ok (.invokevirtual 73, 3) := by decide +kernel
theorem dX5_ways_4 : decode cX5_ways 4 = .ok (.aload_n 0, 1) := by decide +kernel
theorem dX5_ways_5 : decode cX5_ways 5 = .ok (.getfield 33, 3) := by decide +kernel
theorem dX5_ways_8 : decode cX5_ways 8 = .ok (.invokevirtual 156, 3) := by decide +kernel
theorem dX5_ways_11 : decode cX5_ways 11 = .ok (.lreturn, 1) := by decide +kernel
set_option maxRecDepth 20000 in
theorem ggX5_would_X3_holds : GoodIn wsX5_would wsX3_holds := goodIn_r _ [9, 10, 143, 144, 145] (by decide +kernel) (by decide +kernel)
set_option maxRecDepth 20000 in
theorem gX5_would_X3_holds : GoodIn wsX5_would (wsV RX5 119 RX3 yX3_holds wsX3_holds) := goodIn_app (goodIn_of _ (by decide +kernel)) ggX5_would_X3_holds
set_option maxRecDepth 20000 in
theorem ggX5_would_X2_isThere : GoodIn wsX5_would wsX2_isThere := goodIn_r _ [15, 16, 17, 18, 19, 146, 147] (by decide +kernel) (by decide +kernel)
set_option maxRecDepth 20000 in
theorem gX5_would_X2_isThere : GoodIn wsX5_would (wsV RX5 66 RX2 yX2_isThere wsX2_isThere) := goodIn_app (goodIn_of _ (by decide +kernel)) ggX5_would_X2_isThere
set_option maxRecDepth 20000 in
theorem ggX5_would_X5_fillChain : GoodIn wsX5_would wsX5_fillChain := goodIn_r _ [23, 4, 1, 2, 24, 25, 26, 27, 28, 29, 30, 31, 32, 33, 8, 34, 10, 35, 36, 37, 38, 39, 40, 41, 6, 7, 9, 42, 43, 44, 45, 46, 47, 48, 49, 50, 51, 52, 53, 54, 55, 56, 57, 58, 59, 60, 61, 14, 62, 16, 63, 64, 65, 66, 67, 17, 18, 19, 68, 69, 70, 71, 72, 73, 74, 75, 76, 77, 78, 79, 80, 81, 82, 83, 84, 85, 86, 87, 88, 89, 90, 91, 134, 135, 136, 137, 138, 139, 140, 141, 142, 148, 149, 150, 151, 152, 153, 154, 155, 156, 143, 144, 145, 157, 158, 159, 160, 161, 162, 163, 164, 165, 166, 167, 168, 169, 170, 146, 147] (by decide +kernel) (by decide +kernel)
set_option maxRecDepth 20000 in
theorem gX5_would_X5_fillChain : GoodIn wsX5_would (wsV RX5 73 RX5 yX5_fillChain wsX5_fillChain) := goodIn_app (goodIn_of _ (by decide +kernel)) ggX5_would_X5_fillChain
set_option maxRecDepth 20000 in
theorem ggX5_would_X0_countWays : GoodIn wsX5_would wsX0_countWays := goodIn_r _ [95, 30, 96, 97, 98, 99, 100, 28, 101, 89, 102, 103, 104, 105, 90, 18, 91, 106, 107, 108, 109, 87, 110, 111, 112, 113, 88, 17, 19, 114, 115, 116, 117, 118, 119, 120, 121, 122, 123, 124, 125, 126, 127, 128, 129, 130, 131, 132, 148, 149, 150, 151, 152, 153, 154, 155, 156] (by decide +kernel) (by decide +kernel)
set_option maxRecDepth 20000 in
theorem gX5_would_X0_countWays : GoodIn wsX5_would (wsV RX5 156 RX0 yX0_countWays wsX0_countWays) := goodIn_app (goodIn_of _ (by decide +kernel)) ggX5_would_X0_countWays
set_option maxRecDepth 20000 in
theorem ggX5_would_X0_waysThrough : GoodIn wsX5_would wsX0_waysThrough := goodIn_r _ [132, 87, 124, 96, 102, 103, 104, 28, 105, 30, 90, 18, 91, 114, 115, 116, 148, 149, 150, 151, 152, 153, 154, 155, 156] (by decide +kernel) (by decide +kernel)
set_option maxRecDepth 20000 in
theorem gX5_would_X0_waysThrough : GoodIn wsX5_would (wsV RX5 178 RX0 yX0_waysThrough wsX0_waysThrough) := goodIn_app (goodIn_of _ (by decide +kernel)) ggX5_would_X0_waysThrough
theorem dX5_would_0 : decode cX5_would 0 = .ok (.aload_n 0, 1) := by decide +kernel
theorem dX5_would_1 : decode cX5_would 1 = .ok (.getfield 26, 3) := by decide +kernel
theorem dX5_would_4 : decode cX5_would 4 = .ok (.iload_n 1, 1) := by decide +kernel
theorem dX5_would_5 : decode cX5_would 5 = .ok (.invokevirtual 119, 3) := by decide +kernel
theorem dX5_would_8 : decode cX5_would 8 = .ok (.ifCond .eq 14, 3) := by decide +kernel
theorem dX5_would_11 : decode cX5_would 11 = .ok (.aload_n 0, 1) := by decide +kernel
theorem dX5_would_12 : decode cX5_would 12 = .ok (.getfield 12, 3) := by decide +kernel
theorem dX5_would_15 : decode cX5_would 15 = .ok (.iload_n 2, 1) := by decide +kernel
theorem dX5_would_16 : decode cX5_would 16 = .ok (.invokevirtual 66, 3) := by decide +kernel
theorem dX5_would_19 : decode cX5_would 19 = .ok (.ifCond .ne 7, 3) := by decide +kernel
theorem dX5_would_22 : decode cX5_would 22 = .ok (.ldc2_w 176, 3) := by decide +kernel
theorem dX5_would_25 : decode cX5_would 25 = .ok (.lreturn, 1) := by decide +kernel
theorem dX5_would_26 : decode cX5_would 26 = .ok (.aload_n 0, 1) := by decide +kernel
theorem dX5_would_27 : decode cX5_would 27 = .ok (.invokevirtual 73, 3) := by decide +kernel
theorem dX5_would_30 : decode cX5_would 30 = .ok (.aload_n 0, 1) := by decide +kernel
theorem dX5_would_31 : decode cX5_would 31 = .ok (.getfield 33, 3) := by decide +kernel
theorem dX5_would_34 : decode cX5_would 34 = .ok (.invokevirtual 156, 3) := by decide +kernel
theorem dX5_would_37 : decode cX5_would 37 = .ok (.pop2, 1) := by decide +kernel
theorem dX5_would_38 : decode cX5_would 38 = .ok (.aload_n 0, 1) := by decide +kernel
theorem dX5_would_39 : decode cX5_would 39 = .ok (.getfield 33, 3) := by decide +kernel
theorem dX5_would_42 : decode cX5_would 42 = .ok (.iload_n 1, 1) := by decide +kernel
theorem dX5_would_43 : decode cX5_would 43 = .ok (.iload_n 2, 1) := by decide +kernel
theorem dX5_would_44 : decode cX5_would 44 = .ok (.invokevirtual 178, 3) := by decide +kernel
theorem dX5_would_47 : decode cX5_would 47 = .ok (.lreturn, 1) := by decide +kernel
set_option maxRecDepth 20000 in
theorem ggX5_conflict_X5_fillChain : GoodIn wsX5_conflict wsX5_fillChain := goodIn_r _ [6, 1, 7, 8, 9, 10, 11, 12, 13, 14, 15, 16, 17, 18, 19, 20, 21, 22, 23, 24, 25, 26, 27, 28, 29, 30, 31, 32, 33, 34, 35, 36, 37, 38, 39, 40, 41, 42, 43, 44, 45, 46, 47, 48, 49, 50, 51, 52, 53, 54, 55, 56, 57, 58, 59, 60, 5, 61, 62, 63, 64, 65, 66, 67, 68, 69, 70, 71, 72, 73, 74, 75, 76, 77, 78, 79, 80, 81, 82, 83, 84, 85, 121, 122, 123, 124, 125, 126, 127, 128, 129, 130, 131, 132, 133, 134, 135, 136, 137, 138, 139, 140, 141, 142, 143, 144, 145, 146, 147, 148, 149, 150, 151, 152, 153, 154, 155, 156, 157] (by decide +kernel) (by decide +kernel)
set_option maxRecDepth 20000 in
theorem gX5_conflict_X5_fillChain : GoodIn wsX5_conflict (wsV RX5 73 RX5 yX5_fillChain wsX5_fillChain) := goodIn_app (goodIn_of _ (by decide +kernel)) ggX5_conflict_X5_fillChain
set_option maxRecDepth 20000 in
theorem ggX5_conflict_X0_conflictEnd : GoodIn wsX5_conflict wsX0_conflictEnd := goodIn_r _ [89, 15, 90, 91, 92, 13, 93, 94, 95, 96, 97, 98, 83, 99, 100, 101, 102, 84, 5, 85, 103, 104, 105, 106, 81, 107, 108, 109, 110, 82, 60, 61, 111, 112, 113, 114, 115, 116, 130, 131, 132, 133, 134, 135, 136, 137, 138] (by decide +kernel) (by decide +kernel)
set_option maxRecDepth 20000 in
theorem gX5_conflict_X0_conflictEnd : GoodIn wsX5_conflict (wsV RX5 182 RX0 yX0_conflictEnd wsX0_conflictEnd) := goodIn_app (goodIn_of _ (by decide +kernel)) ggX5_conflict_X0_conflictEnd
set_option maxRecDepth 20000 in
theorem ggX5_conflict_X0_conflictBeginning : GoodIn wsX5_conflict wsX0_conflictBeginning := goodIn_r _ [120, 90, 91, 92, 13, 93, 94, 95, 96, 97, 98, 83, 99, 100, 101, 102, 15, 84, 5, 85, 103, 104, 105, 106, 81, 107, 108, 109, 110, 82, 60, 61, 111, 112, 113, 114, 115, 116, 130, 131, 132, 133, 134, 135, 136, 137, 138] (by decide +kernel) (by decide +kernel)
set_option maxRecDepth 20000 in
theorem gX5_conflict_X0_conflictBeginning : GoodIn wsX5_conflict (wsV RX5 185 RX0 yX0_conflictBeginning wsX0_conflictBeginning) := goodIn_app (goodIn_of _ (by decide +kernel)) ggX5_conflict_X0_conflictBeginning
theorem dX5_conflict_0 : decode cX5_conflict 0 = .ok (.iload_n 1, 1) := by decide +kernel
theorem dX5_conflict_1 : decode cX5_conflict 1 = .ok (.ifCond .eq 11, 3) := by decide +kernel
theorem dX5_conflict_4 : decode cX5_conflict 4 = .ok (.iload_n 1, 1) := by decide +kernel
theorem dX5_conflict_5 : decode cX5_conflict 5 = .ok (.iconst 1, 1) := by decide +kernel
theorem dX5_conflict_6 : decode cX5_conflict 6 = .ok (.if_icmp .eq 6, 3) := by decide +kernel
theorem dX5_conflict_9 : decode cX5_conflict 9 = .ok (.bipush (-2), 2) := by decide +kernel
theorem dX5_conflict_11 : decode cX5_conflict 11 = .ok (.ireturn, 1) := by decide +kernel
theorem dX5_conflict_12 : decode cX5_conflict 12 = .ok (.aload_n 0, 1) := by decide +kernel
theorem dX5_conflict_13 : decode cX5_conflict 13 = .ok (.invokevirtual 73, 3) := by decide +kernel
theorem dX5_conflict_16 : decode cX5_conflict 16 = .ok (.aload_n 0, 1) := by decide +kernel
theorem dX5_conflict_17 : decode cX5_conflict 17 = .ok (.getfield 33, 3) := by decide +kernel
theorem dX5_conflict_20 : decode cX5_conflict 20 = .ok (.invokevirtual 182, 3) := by decide +kernel
theorem dX5_conflict_23 : decode cX5_conflict 23 = .ok (.istore_n 2, 1) := by decide +kernel
theorem dX5_conflict_24 : decode cX5_conflict 24 = .ok (.iload_n 2, 1) := by decide +kernel
theorem dX5_conflict_25 : decode cX5_conflict 25 = .ok (.bipush (-9), 2) := by decide +kernel
theorem dX5_conflict_27 : decode cX5_conflict 27 = .ok (.if_icmp .eq 8, 3) := by decide +kernel
theorem dX5_conflict_30 : decode cX5_conflict 30 = .ok (.iload_n 1, 1) := by decide +kernel
theorem dX5_conflict_31 : decode cX5_conflict 31 = .ok (.iconst 1, 1) := by decide +kernel
theorem dX5_conflict_32 : decode cX5_conflict 32 = .ok (.if_icmp .ne 5, 3) := by decide +kernel
theorem dX5_conflict_35 : decode cX5_conflict 35 = .ok (.iload_n 2, 1) := by decide +kernel
theorem dX5_conflict_36 : decode cX5_conflict 36 = .ok (.ireturn, 1) := by decide +kernel
theorem dX5_conflict_37 : decode cX5_conflict 37 = .ok (.aload_n 0, 1) := by decide +kernel
theorem dX5_conflict_38 : decode cX5_conflict 38 = .ok (.getfield 33, 3) := by decide +kernel
theorem dX5_conflict_41 : decode cX5_conflict 41 = .ok (.iload_n 2, 1) := by decide +kernel
theorem dX5_conflict_42 : decode cX5_conflict 42 = .ok (.invokevirtual 185, 3) := by decide +kernel
theorem dX5_conflict_45 : decode cX5_conflict 45 = .ok (.ireturn, 1) := by decide +kernel
set_option maxRecDepth 20000 in
theorem ggX5_asked_X5_fillChain : GoodIn wsX5_asked wsX5_fillChain := goodIn_r _ [7, 1, 2, 8, 9, 10, 11, 12, 13, 14, 15, 16, 17, 18, 19, 20, 21, 22, 23, 24, 25, 26, 27, 28, 29, 30, 31, 32, 33, 34, 35, 36, 37, 38, 39, 40, 41, 42, 43, 44, 45, 46, 47, 48, 49, 50, 51, 52, 53, 54, 55, 56, 57, 58, 59, 60, 6, 61, 62, 63, 64, 65, 66, 67, 68, 69, 70, 71, 72, 73, 74, 75, 76, 77, 78, 79, 80, 81, 82, 83, 84, 85, 146, 147, 148, 149, 150, 151, 152, 153, 154, 155, 156, 157, 158, 159, 160, 161, 162, 163, 164, 165, 166, 167, 168, 169, 170, 171, 172, 173, 174, 175, 176, 177, 178, 179, 180, 181, 182] (by decide +kernel) (by decide +kernel)
set_option maxRecDepth 20000 in
theorem gX5_asked_X5_fillChain : GoodIn wsX5_asked (wsV RX5 73 RX5 yX5_fillChain wsX5_fillChain) := goodIn_app (goodIn_of _ (by decide +kernel)) ggX5_asked_X5_fillChain
set_option maxRecDepth 20000 in
theorem ggX5_asked_X0_countWays : GoodIn wsX5_asked wsX0_countWays := goodIn_r _ [89, 15, 90, 91, 92, 93, 94, 13, 95, 83, 96, 97, 98, 99, 84, 6, 85, 100, 101, 102, 103, 81, 104, 105, 106, 107, 82, 60, 61, 108, 109, 110, 111, 112, 113, 114, 115, 116, 117, 118, 119, 120, 121, 122, 123, 124, 125, 126, 155, 156, 157, 158, 159, 160, 161, 162, 163] (by decide +kernel) (by decide +kernel)
set_option maxRecDepth 20000 in
theorem gX5_asked_X0_countWays : GoodIn wsX5_asked (wsV RX5 156 RX0 yX0_countWays wsX0_countWays) := goodIn_app (goodIn_of _ (by decide +kernel)) ggX5_asked_X0_countWays
set_option maxRecDepth 20000 in
theorem ggX5_asked_X3_length : GoodIn wsX5_asked wsX3_length := goodIn_r _ [20, 21, 164, 165, 166] (by decide +kernel) (by decide +kernel)
set_option maxRecDepth 20000 in
theorem gX5_asked_X3_length : GoodIn wsX5_asked (wsV RX5 115 RX3 yX3_length wsX3_length) := goodIn_app (goodIn_of _ (by decide +kernel)) ggX5_asked_X3_length
set_option maxRecDepth 20000 in
theorem ggX5_asked_X0_sureSet : GoodIn wsX5_asked wsX0_sureSet := goodIn_r _ [130, 91, 96, 97, 98, 13, 99, 15, 84, 6, 85, 155, 156, 157, 158, 159, 160, 161, 162, 163] (by decide +kernel) (by decide +kernel)
set_option maxRecDepth 20000 in
theorem gX5_asked_X0_sureSet : GoodIn wsX5_asked (wsV RX5 160 RX0 yX0_sureSet wsX0_sureSet) := goodIn_app (goodIn_of _ (by decide +kernel)) ggX5_asked_X0_sureSet
set_option maxRecDepth 20000 in
theorem ggX5_asked_J6_bitCount_0f7a4 : GoodIn wsX5_asked wsJ6_bitCount_0f7a4 := goodIn_r _ [134, 135, 136, 137] (by decide +kernel) (by decide +kernel)
set_option maxRecDepth 20000 in
theorem gX5_asked_J6_bitCount_0f7a4 : GoodIn wsX5_asked (va_wsS RX5 188 yJ6_bitCount_0f7a4 wsJ6_bitCount_0f7a4) := goodIn_app (goodIn_of _ (by decide +kernel)) ggX5_asked_J6_bitCount_0f7a4
set_option maxRecDepth 20000 in
theorem ggX5_asked_X0_mostWaysLeft : GoodIn wsX5_asked wsX0_mostWaysLeft := goodIn_r _ [141, 142, 143, 144, 145, 123, 124, 125, 13, 126, 81, 118, 90, 96, 97, 98, 99, 15, 84, 6, 85, 108, 109, 110, 155, 156, 157, 158, 159, 160, 161, 162, 163] (by decide +kernel) (by decide +kernel)
set_option maxRecDepth 20000 in
theorem gX5_asked_X0_mostWaysLeft : GoodIn wsX5_asked (wsV RX5 193 RX0 yX0_mostWaysLeft wsX0_mostWaysLeft) := goodIn_app (goodIn_of _ (by decide +kernel)) ggX5_asked_X0_mostWaysLeft
theorem dX5_asked_0 : decode cX5_asked 0 = .ok (.aload_n 0, 1) := by decide +kernel
theorem dX5_asked_1 : decode cX5_asked 1 = .ok (.invokevirtual 73, 3) := by decide +kernel
theorem dX5_asked_4 : decode cX5_asked 4 = .ok (.aload_n 0, 1) := by decide +kernel
theorem dX5_asked_5 : decode cX5_asked 5 = .ok (.getfield 33, 3) := by decide +kernel
theorem dX5_asked_8 : decode cX5_asked 8 = .ok (.invokevirtual 156, 3) := by decide +kernel
theorem dX5_asked_11 : decode cX5_asked 11 = .ok (.pop2, 1) := by decide +kernel
theorem dX5_asked_12 : decode cX5_asked 12 = .ok (.bipush (-9), 2) := by decide +kernel
theorem dX5_asked_14 : decode cX5_asked 14 = .ok (.istore_n 1, 1) := by decide +kernel
theorem dX5_asked_15 : decode cX5_asked 15 = .ok (.lconst 0, 1) := by decide +kernel
theorem dX5_asked_16 : decode cX5_asked 16 = .ok (.lstore_n 2, 1) := by decide +kernel
theorem dX5_asked_17 : decode cX5_asked 17 = .ok (.iconst 0, 1) := by decide +kernel
theorem dX5_asked_18 : decode cX5_asked 18 = .ok (.istore 4, 2) := by decide +kernel
theorem dX5_asked_20 : decode cX5_asked 20 = .ok (.iload 4, 2) := by decide +kernel
theorem dX5_asked_22 : decode cX5_asked 22 = .ok (.aload_n 0, 1) := by decide +kernel
theorem dX5_asked_23 : decode cX5_asked 23 = .ok (.getfield 26, 3) := by decide +kernel
theorem dX5_asked_26 : decode cX5_asked 26 = .ok (.invokevirtual 115, 3) := by decide +kernel
theorem dX5_asked_29 : decode cX5_asked 29 = .ok (.if_icmp .ge 55, 3) := by decide +kernel
theorem dX5_asked_32 : decode cX5_asked 32 = .ok (.aload_n 0, 1) := by decide +kernel
theorem dX5_asked_33 : decode cX5_asked 33 = .ok (.getfield 33, 3) := by decide +kernel
theorem dX5_asked_36 : decode cX5_asked 36 = .ok (.iload 4, 2) := by decide +kernel
theorem dX5_asked_38 : decode cX5_asked 38 = .ok (.invokevirtual 160, 3) := by decide +kernel
theorem dX5_asked_41 : decode cX5_asked 41 = .ok (.invokestatic 188, 3) := by decide +kernel
theorem dX5_asked_44 : decode cX5_asked 44 = .ok (.iconst 2, 1) := by decide +kernel
theorem dX5_asked_45 : decode cX5_asked 45 = .ok (.if_icmp .lt 33, 3) := by decide +kernel
theorem dX5_asked_48 : decode cX5_asked 48 = .ok (.aload_n 0, 1) := by decide +kernel
theorem dX5_asked_49 : decode cX5_asked 49 = .ok (.getfield 33, 3) := by decide +kernel
theorem dX5_asked_52 : decode cX5_asked 52 = .ok (.iload 4, 2) := by decide +kernel
theorem dX5_asked_54 : decode cX5_asked 54 = .ok (.invokevirtual 193, 3) := by decide +kernel
theorem dX5_asked_57 : decode cX5_asked 57 = .ok (.lstore 5, 2) := by decide +kernel
theorem dX5_asked_59 : decode cX5_asked 59 = .ok (.iload_n 1, 1) := by decide +kernel
theorem dX5_asked_60 : decode cX5_asked 60 = .ok (.bipush (-9), 2) := by decide +kernel
theorem dX5_asked_62 : decode cX5_asked 62 = .ok (.if_icmp .eq 10, 3) := by decide +kernel
theorem dX5_asked_65 : decode cX5_asked 65 = .ok (.lload 5, 2) := by decide +kernel
theorem dX5_asked_67 : decode cX5_asked 67 = .ok (.lload_n 2, 1) := by decide +kernel
theorem dX5_asked_68 : decode cX5_asked 68 = .ok (.lcmp, 1) := by decide +kernel
theorem dX5_asked_69 : decode cX5_asked 69 = .ok (.ifCond .ge 9, 3) := by decide +kernel
theorem dX5_asked_72 : decode cX5_asked 72 = .ok (.iload 4, 2) := by decide +kernel
theorem dX5_asked_74 : decode cX5_asked 74 = .ok (.istore_n 1, 1) := by decide +kernel
theorem dX5_asked_75 : decode cX5_asked 75 = .ok (.lload 5, 2) := by decide +kernel
theorem dX5_asked_77 : decode cX5_asked 77 = .ok (.lstore_n 2, 1) := by decide +kernel
theorem dX5_asked_78 : decode cX5_asked 78 = .ok (.iinc 4 1, 3) := by decide +kernel
theorem dX5_asked_81 : decode cX5_asked 81 = .ok (.goto (-61), 3) := by decide +kernel
theorem dX5_asked_84 : decode cX5_asked 84 = .ok (.iload_n 1, 1) := by decide +kernel
theorem dX5_asked_85 : decode cX5_asked 85 = .ok (.ireturn, 1) := by decide +kernel
set_option maxRecDepth 20000 in
theorem ggX5_run_X3_firstOfRun : GoodIn wsX5_run wsX3_firstOfRun := goodIn_r _ [7, 8, 9, 10, 11, 6, 12, 13, 14, 15, 16, 17, 18, 19, 20, 21, 22, 23, 24, 25, 26, 27, 28, 29, 30, 31, 32, 126, 127, 128, 129, 130, 131, 132, 133, 134, 135, 136, 137, 138, 139, 140, 141, 142] (by decide +kernel) (by decide +kernel)
set_option maxRecDepth 20000 in
theorem gX5_run_X3_firstOfRun : GoodIn wsX5_run (wsV RX5 197 RX3 yX3_firstOfRun wsX3_firstOfRun) := goodIn_app (goodIn_of _ (by decide +kernel)) ggX5_run_X3_firstOfRun
set_option maxRecDepth 20000 in
theorem ggX5_run_X3_runLength : GoodIn wsX5_run wsX3_runLength := goodIn_r _ [36, 8, 13, 14, 15, 6, 16, 17, 18, 19, 20, 21, 22, 23, 24, 25, 26, 27, 28, 29, 30, 31, 32, 126, 127, 128, 129, 130, 131, 132, 133, 134, 135, 136, 137, 138, 139, 140, 141, 142] (by decide +kernel) (by decide +kernel)
set_option maxRecDepth 20000 in
theorem gX5_run_X3_runLength : GoodIn wsX5_run (wsV RX5 200 RX3 yX3_runLength wsX3_runLength) := goodIn_app (goodIn_of _ (by decide +kernel)) ggX5_run_X3_runLength
set_option maxRecDepth 20000 in
theorem ggX5_run_X5_fillChain : GoodIn wsX5_run wsX5_fillChain := goodIn_r _ [41, 2, 1, 42, 43, 44, 45, 46, 47, 48, 49, 50, 51, 52, 6, 53, 8, 54, 18, 19, 20, 21, 22, 23, 24, 25, 26, 55, 28, 29, 30, 31, 32, 56, 57, 58, 59, 60, 61, 62, 63, 64, 65, 66, 67, 68, 69, 70, 71, 72, 73, 74, 75, 76, 77, 78, 40, 79, 80, 81, 82, 83, 13, 14, 15, 16, 17, 27, 84, 85, 86, 87, 88, 89, 90, 91, 92, 93, 94, 95, 96, 97, 117, 118, 119, 120, 121, 122, 123, 124, 125, 143, 144, 145, 146, 147, 148, 149, 150, 151, 126, 127, 128, 129, 130, 131, 132, 133, 134, 135, 136, 137, 138, 139, 140, 141, 142, 152, 153] (by decide +kernel) (by decide +kernel)
set_option maxRecDepth 20000 in
theorem gX5_run_X5_fillChain : GoodIn wsX5_run (wsV RX5 73 RX5 yX5_fillChain wsX5_fillChain) := goodIn_app (goodIn_of _ (by decide +kernel)) ggX5_run_X5_fillChain
set_option maxRecDepth 20000 in
theorem ggX5_run_X0_ownSetsJoined : GoodIn wsX5_run wsX0_ownSetsJoined := goodIn_r _ [101, 102, 103, 104, 47, 105, 94, 106, 107, 108, 109, 49, 96, 40, 97, 143, 144, 145, 146, 147, 148, 149, 150, 151] (by decide +kernel) (by decide +kernel)
set_option maxRecDepth 20000 in
theorem gX5_run_X0_ownSetsJoined : GoodIn wsX5_run (wsV RX5 203 RX0 yX0_ownSetsJoined wsX0_ownSetsJoined) := goodIn_app (goodIn_of _ (by decide +kernel)) ggX5_run_X0_ownSetsJoined
set_option maxRecDepth 20000 in
theorem ggX5_run_J6_bitCount_0f7a4 : GoodIn wsX5_run wsJ6_bitCount_0f7a4 := goodIn_r _ [113, 114, 115, 116] (by decide +kernel) (by decide +kernel)
set_option maxRecDepth 20000 in
theorem gX5_run_J6_bitCount_0f7a4 : GoodIn wsX5_run (va_wsS RX5 188 yJ6_bitCount_0f7a4 wsJ6_bitCount_0f7a4) := goodIn_app (goodIn_of _ (by decide +kernel)) ggX5_run_J6_bitCount_0f7a4
theorem dX5_run_0 : decode cX5_run 0 = .ok (.aload_n 0, 1) := by decide +kernel
theorem dX5_run_1 : decode cX5_run 1 = .ok (.getfield 26, 3) := by decide +kernel
theorem dX5_run_4 : decode cX5_run 4 = .ok (.iload_n 1, 1) := by decide +kernel
theorem dX5_run_5 : decode cX5_run 5 = .ok (.invokevirtual 197, 3) := by decide +kernel
theorem dX5_run_8 : decode cX5_run 8 = .ok (.istore_n 3, 1) := by decide +kernel
theorem dX5_run_9 : decode cX5_run 9 = .ok (.iload_n 3, 1) := by decide +kernel
theorem dX5_run_10 : decode cX5_run 10 = .ok (.bipush (-9), 2) := by decide +kernel
theorem dX5_run_12 : decode cX5_run 12 = .ok (.if_icmp .ne 5, 3) := by decide +kernel
theorem dX5_run_15 : decode cX5_run 15 = .ok (.iconst (-1), 1) := by decide +kernel
theorem dX5_run_16 : decode cX5_run 16 = .ok (.ireturn, 1) := by decide +kernel
theorem dX5_run_17 : decode cX5_run 17 = .ok (.aload_n 0, 1) := by decide +kernel
theorem dX5_run_18 : decode cX5_run 18 = .ok (.getfield 26, 3) := by decide +kernel
theorem dX5_run_21 : decode cX5_run 21 = .ok (.iload_n 3, 1) := by decide +kernel
theorem dX5_run_22 : decode cX5_run 22 = .ok (.invokevirtual 200, 3) := by decide +kernel
theorem dX5_run_25 : decode cX5_run 25 = .ok (.istore 4, 2) := by decide +kernel
theorem dX5_run_27 : decode cX5_run 27 = .ok (.iload_n 2, 1) := by decide +kernel
theorem dX5_run_28 : decode cX5_run 28 = .ok (.tableswitch 51 0 2 #[28, 30, 33], 28) := by decide +kernel
theorem dX5_run_56 : decode cX5_run 56 = .ok (.iload_n 3, 1) := by decide +kernel
theorem dX5_run_57 : decode cX5_run 57 = .ok (.ireturn, 1) := by decide +kernel
theorem dX5_run_58 : decode cX5_run 58 = .ok (.iload 4, 2) := by decide +kernel
theorem dX5_run_60 : decode cX5_run 60 = .ok (.ireturn, 1) := by decide +kernel
theorem dX5_run_61 : decode cX5_run 61 = .ok (.aload_n 0, 1) := by decide +kernel
theorem dX5_run_62 : decode cX5_run 62 = .ok (.invokevirtual 73, 3) := by decide +kernel
theorem dX5_run_65 : decode cX5_run 65 = .ok (.aload_n 0, 1) := by decide +kernel
theorem dX5_run_66 : decode cX5_run 66 = .ok (.getfield 33, 3) := by decide +kernel
theorem dX5_run_69 : decode cX5_run 69 = .ok (.iload_n 3, 1) := by decide +kernel
theorem dX5_run_70 : decode cX5_run 70 = .ok (.iload 4, 2) := by decide +kernel
theorem dX5_run_72 : decode cX5_run 72 = .ok (.invokevirtual 203, 3) := by decide +kernel
theorem dX5_run_75 : decode cX5_run 75 = .ok (.invokestatic 188, 3) := by decide +kernel
theorem dX5_run_78 : decode cX5_run 78 = .ok (.ireturn, 1) := by decide +kernel
theorem dX5_run_79 : decode cX5_run 79 = .ok (.bipush (-2), 2) := by decide +kernel
theorem dX5_run_81 : decode cX5_run 81 = .ok (.ireturn, 1) := by decide +kernel
set_option maxRecDepth 20000 in
theorem ggX5_ofPerson_X2_isThere : GoodIn wsX5_ofPerson wsX2_isThere := goodIn_r _ [8, 9, 10, 11, 12, 171, 172] (by decide +kernel) (by decide +kernel)
set_option maxRecDepth 20000 in
theorem gX5_ofPerson_X2_isThere : GoodIn wsX5_ofPerson (wsV RX5 66 RX2 yX2_isThere wsX2_isThere) := goodIn_app (goodIn_of _ (by decide +kernel)) ggX5_ofPerson_X2_isThere
set_option maxRecDepth 20000 in
theorem ggX5_ofPerson_X2_sortOf : GoodIn wsX5_ofPerson wsX2_sortOf := goodIn_r _ [16, 17, 18, 11, 19, 20, 5, 6, 7, 8, 9, 10, 12, 171, 172] (by decide +kernel) (by decide +kernel)
set_option maxRecDepth 20000 in
theorem gX5_ofPerson_X2_sortOf : GoodIn wsX5_ofPerson (wsV RX5 58 RX2 yX2_sortOf wsX2_sortOf) := goodIn_app (goodIn_of _ (by decide +kernel)) ggX5_ofPerson_X2_sortOf
set_option maxRecDepth 20000 in
theorem ggX5_ofPerson_X5_bitOf : GoodIn wsX5_ofPerson wsX5_bitOf := goodIn_r _ [12] (by decide +kernel) (by decide +kernel)
set_option maxRecDepth 20000 in
theorem gX5_ofPerson_X5_bitOf : GoodIn wsX5_ofPerson (va_wsS RX5 83 yX5_bitOf wsX5_bitOf) := goodIn_app (goodIn_of _ (by decide +kernel)) ggX5_ofPerson_X5_bitOf
set_option maxRecDepth 20000 in
theorem ggX5_ofPerson_X5_fillChain : GoodIn wsX5_ofPerson wsX5_fillChain := goodIn_r _ [25, 3, 26, 1, 27, 28, 29, 30, 31, 32, 33, 34, 35, 36, 37, 38, 39, 40, 41, 42, 43, 44, 45, 46, 47, 48, 49, 50, 51, 52, 53, 54, 55, 56, 57, 58, 59, 60, 61, 62, 63, 64, 65, 66, 67, 68, 69, 7, 70, 9, 71, 72, 73, 74, 17, 10, 11, 12, 75, 76, 77, 78, 79, 80, 81, 82, 83, 84, 85, 86, 87, 88, 89, 90, 91, 92, 93, 94, 95, 96, 18, 19, 162, 163, 164, 165, 166, 167, 168, 169, 170, 173, 174, 175, 176, 177, 178, 179, 180, 181, 182, 183, 184, 185, 186, 187, 188, 189, 190, 191, 192, 193, 194, 195, 196, 197, 198, 171, 172] (by decide +kernel) (by decide +kernel)
set_option maxRecDepth 20000 in
theorem gX5_ofPerson_X5_fillChain : GoodIn wsX5_ofPerson (wsV RX5 73 RX5 yX5_fillChain wsX5_fillChain) := goodIn_app (goodIn_of _ (by decide +kernel)) ggX5_ofPerson_X5_fillChain
set_option maxRecDepth 20000 in
theorem ggX5_ofPerson_X0_countWays : GoodIn wsX5_ofPerson wsX0_countWays := goodIn_r _ [100, 33, 101, 102, 103, 104, 105, 31, 106, 96, 107, 108, 109, 110, 18, 11, 19, 111, 112, 113, 114, 94, 115, 116, 117, 118, 95, 10, 12, 119, 120, 121, 122, 123, 124, 125, 126, 127, 128, 129, 130, 131, 132, 133, 134, 135, 136, 137, 173, 174, 175, 176, 177, 178, 179, 180, 181] (by decide +kernel) (by decide +kernel)
set_option maxRecDepth 20000 in
theorem gX5_ofPerson_X0_countWays : GoodIn wsX5_ofPerson (wsV RX5 156 RX0 yX0_countWays wsX0_countWays) := goodIn_app (goodIn_of _ (by decide +kernel)) ggX5_ofPerson_X0_countWays
set_option maxRecDepth 20000 in
theorem ggX5_ofPerson_X0_hadBy : GoodIn wsX5_ofPerson wsX0_hadBy := goodIn_r _ [141, 33, 142, 143, 144, 31, 145, 18, 11, 19, 146, 147, 148, 149, 102, 107, 108, 109, 110, 10, 12, 173, 174, 175, 176, 177, 178, 179, 180, 181] (by decide +kernel) (by decide +kernel)
set_option maxRecDepth 20000 in
theorem gX5_ofPerson_X0_hadBy : GoodIn wsX5_ofPerson (wsV RX5 206 RX0 yX0_hadBy wsX0_hadBy) := goodIn_app (goodIn_of _ (by decide +kernel)) ggX5_ofPerson_X0_hadBy
set_option maxRecDepth 20000 in
theorem ggX5_ofPerson_X0_maybeHadBy : GoodIn wsX5_ofPerson wsX0_maybeHadBy := goodIn_r _ [153, 33, 146, 147, 148, 31, 149, 102, 107, 108, 109, 110, 18, 11, 19, 10, 12, 173, 174, 175, 176, 177, 178, 179, 180, 181] (by decide +kernel) (by decide +kernel)
set_option maxRecDepth 20000 in
theorem gX5_ofPerson_X0_maybeHadBy : GoodIn wsX5_ofPerson (wsV RX5 209 RX0 yX0_maybeHadBy wsX0_maybeHadBy) := goodIn_app (goodIn_of _ (by decide +kernel)) ggX5_ofPerson_X0_maybeHadBy
set_option maxRecDepth 20000 in
theorem ggX5_ofPerson_X0_firstHadBy : GoodIn wsX5_ofPerson wsX0_firstHadBy := goodIn_r _ [157, 33, 142, 143, 144, 31, 145, 18, 11, 19, 146, 147, 148, 149, 102, 107, 108, 109, 110, 10, 12, 173, 174, 175, 176, 177, 178, 179, 180, 181] (by decide +kernel) (by decide +kernel)
set_option maxRecDepth 20000 in
theorem gX5_ofPerson_X0_firstHadBy : GoodIn wsX5_ofPerson (wsV RX5 212 RX0 yX0_firstHadBy wsX0_firstHadBy) := goodIn_app (goodIn_of _ (by decide +kernel)) ggX5_ofPerson_X0_firstHadBy
set_option maxRecDepth 20000 in
theorem ggX5_ofPerson_X0_lastHadBy : GoodIn wsX5_ofPerson wsX0_lastHadBy := goodIn_r _ [161, 33, 142, 143, 144, 31, 145, 18, 11, 19, 146, 147, 148, 149, 102, 107, 108, 109, 110, 10, 12, 173, 174, 175, 176, 177, 178, 179, 180, 181] (by decide +kernel) (by decide +kernel)
set_option maxRecDepth 20000 in
theorem gX5_ofPerson_X0_lastHadBy : GoodIn wsX5_ofPerson (wsV RX5 215 RX0 yX0_lastHadBy wsX0_lastHadBy) := goodIn_app (goodIn_of _ (by decide +kernel)) ggX5_ofPerson_X0_lastHadBy
theorem dX5_ofPerson_0 : decode cX5_ofPerson 0 = .ok (.aload_n 0, 1) := by decide +kernel
theorem dX5_ofPerson_1 : decode cX5_ofPerson 1 = .ok (.getfield 12, 3) := by decide +kernel
theorem dX5_ofPerson_4 : decode cX5_ofPerson 4 = .ok (.iload_n 1, 1) := by decide +kernel
theorem dX5_ofPerson_5 : decode cX5_ofPerson 5 = .ok (.invokevirtual 66, 3) := by decide +kernel
theorem dX5_ofPerson_8 : decode cX5_ofPerson 8 = .ok (.ifCond .ne 5, 3) := by decide +kernel
theorem dX5_ofPerson_11 : decode cX5_ofPerson 11 = .ok (.iconst (-1), 1) := by decide +kernel
theorem dX5_ofPerson_12 : decode cX5_ofPerson 12 = .ok (.ireturn, 1) := by decide +kernel
theorem dX5_ofPerson_13 : decode cX5_ofPerson 13 = .ok (.iload_n 2, 1) := by decide +kernel
end
section
theorem dX5_ofPerson_14 : decode cX5_ofPerson 14 = .ok (.ifCond .lt 8, 3) := by decide +kernel
theorem dX5_ofPerson_17 : decode cX5_ofPerson 17 = .ok (.iload_n 2, 1) := by decide +kernel
theorem dX5_ofPerson_18 : decode cX5_ofPerson 18 = .ok (.iconst 5, 1) := by decide +kernel
theorem dX5_ofPerson_19 : decode cX5_ofPerson 19 = .ok (.if_icmp .le 6, 3) := by decide +kernel
theorem dX5_ofPerson_22 : decode cX5_ofPerson 22 = .ok (.bipush (-2), 2) := by decide +kernel
theorem dX5_ofPerson_24 : decode cX5_ofPerson 24 = .ok (.ireturn, 1) := by decide +kernel
theorem dX5_ofPerson_25 : decode cX5_ofPerson 25 = .ok (.iload_n 2, 1) := by decide +kernel
theorem dX5_ofPerson_26 : decode cX5_ofPerson 26 = .ok (.ifCond .ne 12, 3) := by decide +kernel
theorem dX5_ofPerson_29 : decode cX5_ofPerson 29 = .ok (.aload_n 0, 1) := by decide +kernel
theorem dX5_ofPerson_30 : decode cX5_ofPerson 30 = .ok (.getfield 12, 3) := by decide +kernel
theorem dX5_ofPerson_33 : decode cX5_ofPerson 33 = .ok (.iload_n 1, 1) := by decide +kernel
theorem dX5_ofPerson_34 : decode cX5_ofPerson 34 = .ok (.invokevirtual 58, 3) := by decide +kernel
theorem dX5_ofPerson_37 : decode cX5_ofPerson 37 = .ok (.ireturn, 1) := by decide +kernel
theorem dX5_ofPerson_38 : decode cX5_ofPerson 38 = .ok (.iload_n 2, 1) := by decide +kernel
theorem dX5_ofPerson_39 : decode cX5_ofPerson 39 = .ok (.iconst 5, 1) := by decide +kernel
theorem dX5_ofPerson_40 : decode cX5_ofPerson 40 = .ok (.if_icmp .ne 21, 3) := by decide +kernel
theorem dX5_ofPerson_43 : decode cX5_ofPerson 43 = .ok (.aload_n 0, 1) := by decide +kernel
theorem dX5_ofPerson_44 : decode cX5_ofPerson 44 = .ok (.getfield 47, 3) := by decide +kernel
theorem dX5_ofPerson_47 : decode cX5_ofPerson 47 = .ok (.iload_n 1, 1) := by decide +kernel
theorem dX5_ofPerson_48 : decode cX5_ofPerson 48 = .ok (.invokestatic 83, 3) := by decide +kernel
theorem dX5_ofPerson_51 : decode cX5_ofPerson 51 = .ok (.iand, 1) := by decide +kernel
theorem dX5_ofPerson_52 : decode cX5_ofPerson 52 = .ok (.ifCond .eq 7, 3) := by decide +kernel
theorem dX5_ofPerson_55 : decode cX5_ofPerson 55 = .ok (.iconst 1, 1) := by decide +kernel
theorem dX5_ofPerson_56 : decode cX5_ofPerson 56 = .ok (.goto 4, 3) := by decide +kernel
theorem dX5_ofPerson_59 : decode cX5_ofPerson 59 = .ok (.iconst 0, 1) := by decide +kernel
theorem dX5_ofPerson_60 : decode cX5_ofPerson 60 = .ok (.ireturn, 1) := by decide +kernel
theorem dX5_ofPerson_61 : decode cX5_ofPerson 61 = .ok (.aload_n 0, 1) := by decide +kernel
theorem dX5_ofPerson_62 : decode cX5_ofPerson 62 = .ok (.invokevirtual 73, 3) := by decide +kernel
theorem dX5_ofPerson_65 : decode cX5_ofPerson 65 = .ok (.aload_n 0, 1) := by decide +kernel
theorem dX5_ofPerson_66 : decode cX5_ofPerson 66 = .ok (.getfield 33, 3) := by decide +kernel
theorem dX5_ofPerson_69 : decode cX5_ofPerson 69 = .ok (.invokevirtual 156, 3) := by decide +kernel
theorem dX5_ofPerson_72 : decode cX5_ofPerson 72 = .ok (.pop2, 1) := by decide +kernel
theorem dX5_ofPerson_73 : decode cX5_ofPerson 73 = .ok (.iload_n 2, 1) := by decide +kernel
theorem dX5_ofPerson_74 : decode cX5_ofPerson 74 = .ok (.tableswitch 53 1 3 #[26, 35, 44], 26) := by decide +kernel
theorem dX5_ofPerson_100 : decode cX5_ofPerson 100 = .ok (.aload_n 0, 1) := by decide +kernel
theorem dX5_ofPerson_101 : decode cX5_ofPerson 101 = .ok (.getfield 33, 3) := by decide +kernel
theorem dX5_ofPerson_104 : decode cX5_ofPerson 104 = .ok (.iload_n 1, 1) := by decide +kernel
theorem dX5_ofPerson_105 : decode cX5_ofPerson 105 = .ok (.invokevirtual 206, 3) := by decide +kernel
theorem dX5_ofPerson_108 : decode cX5_ofPerson 108 = .ok (.ireturn, 1) := by decide +kernel
theorem dX5_ofPerson_109 : decode cX5_ofPerson 109 = .ok (.aload_n 0, 1) := by decide +kernel
theorem dX5_ofPerson_110 : decode cX5_ofPerson 110 = .ok (.getfield 33, 3) := by decide +kernel
theorem dX5_ofPerson_113 : decode cX5_ofPerson 113 = .ok (.iload_n 1, 1) := by decide +kernel
theorem dX5_ofPerson_114 : decode cX5_ofPerson 114 = .ok (.invokevirtual 209, 3) := by decide +kernel
theorem dX5_ofPerson_117 : decode cX5_ofPerson 117 = .ok (.ireturn, 1) := by decide +kernel
theorem dX5_ofPerson_118 : decode cX5_ofPerson 118 = .ok (.aload_n 0, 1) := by decide +kernel
theorem dX5_ofPerson_119 : decode cX5_ofPerson 119 = .ok (.getfield 33, 3) := by decide +kernel
theorem dX5_ofPerson_122 : decode cX5_ofPerson 122 = .ok (.iload_n 1, 1) := by decide +kernel
theorem dX5_ofPerson_123 : decode cX5_ofPerson 123 = .ok (.invokevirtual 212, 3) := by decide +kernel
theorem dX5_ofPerson_126 : decode cX5_ofPerson 126 = .ok (.ireturn, 1) := by decide +kernel
theorem dX5_ofPerson_127 : decode cX5_ofPerson 127 = .ok (.aload_n 0, 1) := by decide +kernel
theorem dX5_ofPerson_128 : decode cX5_ofPerson 128 = .ok (.getfield 33, 3) := by decide +kernel
theorem dX5_ofPerson_131 : decode cX5_ofPerson 131 = .ok (.iload_n 1, 1) := by decide +kernel
theorem dX5_ofPerson_132 : decode cX5_ofPerson 132 = .ok (.invokevirtual 215, 3) := by decide +kernel
theorem dX5_ofPerson_135 : decode cX5_ofPerson 135 = .ok (.ireturn, 1) := by decide +kernel
set_option maxRecDepth 20000 in
theorem ggX5_rank_X5_isWithin : GoodIn wsX5_rank wsX5_isWithin := goodIn_r _ [8] (by decide +kernel) (by decide +kernel)
set_option maxRecDepth 20000 in
theorem gX5_rank_X5_isWithin : GoodIn wsX5_rank (va_wsS RX5 54 yX5_isWithin wsX5_isWithin) := goodIn_app (goodIn_of _ (by decide +kernel)) ggX5_rank_X5_isWithin
set_option maxRecDepth 20000 in
theorem ggX5_rank_X5_fillChain : GoodIn wsX5_rank wsX5_fillChain := goodIn_r _ [12, 1, 13, 4, 14, 15, 16, 17, 18, 19, 20, 21, 22, 23, 24, 25, 26, 27, 28, 29, 30, 31, 32, 33, 34, 35, 36, 37, 38, 39, 40, 41, 42, 43, 44, 45, 46, 47, 48, 49, 50, 51, 52, 53, 54, 55, 56, 57, 58, 59, 60, 61, 62, 63, 64, 65, 7, 66, 67, 68, 69, 70, 71, 72, 73, 74, 75, 76, 77, 78, 79, 80, 81, 82, 83, 84, 85, 86, 87, 88, 6, 8, 158, 159, 160, 161, 162, 163, 164, 165, 166, 167, 168, 169, 170, 171, 172, 173, 174, 175, 176, 177, 178, 179, 180, 181, 182, 183, 184, 185, 186, 187, 188, 189, 190, 191, 192, 193, 194] (by decide +kernel) (by decide +kernel)
set_option maxRecDepth 20000 in
theorem gX5_rank_X5_fillChain : GoodIn wsX5_rank (wsV RX5 73 RX5 yX5_fillChain wsX5_fillChain) := goodIn_app (goodIn_of _ (by decide +kernel)) ggX5_rank_X5_fillChain
set_option maxRecDepth 20000 in
theorem ggX5_rank_X0_countWays : GoodIn wsX5_rank wsX0_countWays := goodIn_r _ [92, 20, 93, 94, 95, 96, 97, 18, 98, 88, 99, 100, 101, 102, 6, 7, 8, 103, 104, 105, 106, 86, 107, 108, 109, 110, 87, 65, 66, 111, 112, 113, 114, 115, 116, 117, 118, 119, 120, 121, 122, 123, 124, 125, 126, 127, 128, 129, 167, 168, 169, 170, 171, 172, 173, 174, 175] (by decide +kernel) (by decide +kernel)
set_option maxRecDepth 20000 in
theorem gX5_rank_X0_countWays : GoodIn wsX5_rank (wsV RX5 156 RX0 yX0_countWays wsX0_countWays) := goodIn_app (goodIn_of _ (by decide +kernel)) ggX5_rank_X0_countWays
set_option maxRecDepth 20000 in
theorem ggX5_rank_X0_hadBy : GoodIn wsX5_rank wsX0_hadBy := goodIn_r _ [133, 20, 134, 135, 136, 18, 137, 6, 7, 8, 138, 139, 140, 141, 94, 99, 100, 101, 102, 65, 66, 167, 168, 169, 170, 171, 172, 173, 174, 175] (by decide +kernel) (by decide +kernel)
set_option maxRecDepth 20000 in
theorem gX5_rank_X0_hadBy : GoodIn wsX5_rank (wsV RX5 206 RX0 yX0_hadBy wsX0_hadBy) := goodIn_app (goodIn_of _ (by decide +kernel)) ggX5_rank_X0_hadBy
set_option maxRecDepth 20000 in
theorem ggX5_rank_X0_maybeHadBy : GoodIn wsX5_rank wsX0_maybeHadBy := goodIn_r _ [145, 20, 138, 139, 140, 18, 141, 94, 99, 100, 101, 102, 6, 7, 8, 65, 66, 167, 168, 169, 170, 171, 172, 173, 174, 175] (by decide +kernel) (by decide +kernel)
set_option maxRecDepth 20000 in
theorem gX5_rank_X0_maybeHadBy : GoodIn wsX5_rank (wsV RX5 209 RX0 yX0_maybeHadBy wsX0_maybeHadBy) := goodIn_app (goodIn_of _ (by decide +kernel)) ggX5_rank_X0_maybeHadBy
set_option maxRecDepth 20000 in
theorem ggX5_rank_X2_isThere : GoodIn wsX5_rank wsX2_isThere := goodIn_r _ [149, 59, 65, 7, 66, 193, 194] (by decide +kernel) (by decide +kernel)
set_option maxRecDepth 20000 in
theorem gX5_rank_X2_isThere : GoodIn wsX5_rank (wsV RX5 66 RX2 yX2_isThere wsX2_isThere) := goodIn_app (goodIn_of _ (by decide +kernel)) ggX5_rank_X2_isThere
set_option maxRecDepth 20000 in
theorem ggX5_rank_X5_placeByRank : GoodIn wsX5_rank wsX5_placeByRank := goodIn_r _ [153, 4, 146, 147, 148, 57, 149, 59, 65, 7, 66, 154, 155, 156, 157, 2, 3, 5, 6, 8, 158, 159, 160, 161, 162, 163, 164, 165, 166, 193, 194] (by decide +kernel) (by decide +kernel)
set_option maxRecDepth 20000 in
theorem gX5_rank_X5_placeByRank : GoodIn wsX5_rank (wsV RX5 218 RX5 yX5_placeByRank wsX5_placeByRank) := goodIn_app (goodIn_of _ (by decide +kernel)) ggX5_rank_X5_placeByRank
theorem dX5_rank_0 : decode cX5_rank 0 = .ok (.iload_n 1, 1) := by decide +kernel
theorem dX5_rank_1 : decode cX5_rank 1 = .ok (.bipush 8, 2) := by decide +kernel
theorem dX5_rank_3 : decode cX5_rank 3 = .ok (.invokestatic 54, 3) := by decide +kernel
theorem dX5_rank_6 : decode cX5_rank 6 = .ok (.ifCond .ne 6, 3) := by decide +kernel
theorem dX5_rank_9 : decode cX5_rank 9 = .ok (.bipush (-2), 2) := by decide +kernel
theorem dX5_rank_11 : decode cX5_rank 11 = .ok (.ireturn, 1) := by decide +kernel
theorem dX5_rank_12 : decode cX5_rank 12 = .ok (.aload_n 0, 1) := by decide +kernel
theorem dX5_rank_13 : decode cX5_rank 13 = .ok (.invokevirtual 73, 3) := by decide +kernel
theorem dX5_rank_16 : decode cX5_rank 16 = .ok (.aload_n 0, 1) := by decide +kernel
theorem dX5_rank_17 : decode cX5_rank 17 = .ok (.getfield 33, 3) := by decide +kernel
theorem dX5_rank_20 : decode cX5_rank 20 = .ok (.invokevirtual 156, 3) := by decide +kernel
theorem dX5_rank_23 : decode cX5_rank 23 = .ok (.pop2, 1) := by decide +kernel
theorem dX5_rank_24 : decode cX5_rank 24 = .ok (.iconst 0, 1) := by decide +kernel
theorem dX5_rank_25 : decode cX5_rank 25 = .ok (.istore_n 2, 1) := by decide +kernel
theorem dX5_rank_26 : decode cX5_rank 26 = .ok (.iload_n 2, 1) := by decide +kernel
theorem dX5_rank_27 : decode cX5_rank 27 = .ok (.bipush 8, 2) := by decide +kernel
theorem dX5_rank_29 : decode cX5_rank 29 = .ok (.if_icmp .ge 37, 3) := by decide +kernel
theorem dX5_rank_32 : decode cX5_rank 32 = .ok (.aload_n 0, 1) := by decide +kernel
theorem dX5_rank_33 : decode cX5_rank 33 = .ok (.getfield 41, 3) := by decide +kernel
theorem dX5_rank_36 : decode cX5_rank 36 = .ok (.iload_n 2, 1) := by decide +kernel
theorem dX5_rank_37 : decode cX5_rank 37 = .ok (.aload_n 0, 1) := by decide +kernel
theorem dX5_rank_38 : decode cX5_rank 38 = .ok (.getfield 33, 3) := by decide +kernel
theorem dX5_rank_41 : decode cX5_rank 41 = .ok (.iload_n 2, 1) := by decide +kernel
theorem dX5_rank_42 : decode cX5_rank 42 = .ok (.invokevirtual 206, 3) := by decide +kernel
theorem dX5_rank_45 : decode cX5_rank 45 = .ok (.iastore, 1) := by decide +kernel
theorem dX5_rank_46 : decode cX5_rank 46 = .ok (.aload_n 0, 1) := by decide +kernel
theorem dX5_rank_47 : decode cX5_rank 47 = .ok (.getfield 44, 3) := by decide +kernel
theorem dX5_rank_50 : decode cX5_rank 50 = .ok (.iload_n 2, 1) := by decide +kernel
theorem dX5_rank_51 : decode cX5_rank 51 = .ok (.aload_n 0, 1) := by decide +kernel
theorem dX5_rank_52 : decode cX5_rank 52 = .ok (.getfield 33, 3) := by decide +kernel
theorem dX5_rank_55 : decode cX5_rank 55 = .ok (.iload_n 2, 1) := by decide +kernel
theorem dX5_rank_56 : decode cX5_rank 56 = .ok (.invokevirtual 209, 3) := by decide +kernel
theorem dX5_rank_59 : decode cX5_rank 59 = .ok (.iastore, 1) := by decide +kernel
theorem dX5_rank_60 : decode cX5_rank 60 = .ok (.iinc 2 1, 3) := by decide +kernel
theorem dX5_rank_63 : decode cX5_rank 63 = .ok (.goto (-37), 3) := by decide +kernel
theorem dX5_rank_66 : decode cX5_rank 66 = .ok (.iconst 0, 1) := by decide +kernel
theorem dX5_rank_67 : decode cX5_rank 67 = .ok (.istore_n 2, 1) := by decide +kernel
theorem dX5_rank_68 : decode cX5_rank 68 = .ok (.iload_n 2, 1) := by decide +kernel
theorem dX5_rank_69 : decode cX5_rank 69 = .ok (.bipush 8, 2) := by decide +kernel
theorem dX5_rank_71 : decode cX5_rank 71 = .ok (.if_icmp .ge 31, 3) := by decide +kernel
theorem dX5_rank_74 : decode cX5_rank 74 = .ok (.aload_n 0, 1) := by decide +kernel
theorem dX5_rank_75 : decode cX5_rank 75 = .ok (.getfield 12, 3) := by decide +kernel
theorem dX5_rank_78 : decode cX5_rank 78 = .ok (.iload_n 2, 1) := by decide +kernel
theorem dX5_rank_79 : decode cX5_rank 79 = .ok (.invokevirtual 66, 3) := by decide +kernel
theorem dX5_rank_82 : decode cX5_rank 82 = .ok (.ifCond .eq 14, 3) := by decide +kernel
theorem dX5_rank_85 : decode cX5_rank 85 = .ok (.aload_n 0, 1) := by decide +kernel
theorem dX5_rank_86 : decode cX5_rank 86 = .ok (.iload_n 2, 1) := by decide +kernel
theorem dX5_rank_87 : decode cX5_rank 87 = .ok (.invokevirtual 218, 3) := by decide +kernel
theorem dX5_rank_90 : decode cX5_rank 90 = .ok (.iload_n 1, 1) := by decide +kernel
theorem dX5_rank_91 : decode cX5_rank 91 = .ok (.if_icmp .ne 5, 3) := by decide +kernel
theorem dX5_rank_94 : decode cX5_rank 94 = .ok (.iload_n 2, 1) := by decide +kernel
theorem dX5_rank_95 : decode cX5_rank 95 = .ok (.ireturn, 1) := by decide +kernel
theorem dX5_rank_96 : decode cX5_rank 96 = .ok (.iinc 2 1, 3) := by decide +kernel
theorem dX5_rank_99 : decode cX5_rank 99 = .ok (.goto (-31), 3) := by decide +kernel
theorem dX5_rank_102 : decode cX5_rank 102 = .ok (.bipush (-9), 2) := by decide +kernel
theorem dX5_rank_104 : decode cX5_rank 104 = .ok (.ireturn, 1) := by decide +kernel
set_option maxRecDepth 20000 in
theorem ggX5_written_X3_holds : GoodIn wsX5_written wsX3_holds := goodIn_r _ [7, 8, 147, 148, 149] (by decide +kernel) (by decide +kernel)
set_option maxRecDepth 20000 in
theorem gX5_written_X3_holds : GoodIn wsX5_written (wsV RX5 119 RX3 yX3_holds wsX3_holds) := goodIn_app (goodIn_of _ (by decide +kernel)) ggX5_written_X3_holds
set_option maxRecDepth 20000 in
theorem ggX5_written_X3_paragraphAt : GoodIn wsX5_written wsX3_paragraphAt := goodIn_r _ [12, 13, 14, 15, 4, 5, 6, 7, 8, 147, 148, 149] (by decide +kernel) (by decide +kernel)
set_option maxRecDepth 20000 in
theorem gX5_written_X3_paragraphAt : GoodIn wsX5_written (wsV RX5 122 RX3 yX3_paragraphAt wsX3_paragraphAt) := goodIn_app (goodIn_of _ (by decide +kernel)) ggX5_written_X3_paragraphAt
set_option maxRecDepth 20000 in
theorem ggX5_written_X1_speaks : GoodIn wsX5_written wsX1_speaks := goodIn_r _ [20, 21, 150, 151, 152, 153, 154, 155, 156, 157, 158, 159, 160, 161, 162, 163] (by decide +kernel) (by decide +kernel)
set_option maxRecDepth 20000 in
theorem gX5_written_X1_speaks : GoodIn wsX5_written (wsV RX5 144 RX1 yX1_speaks wsX1_speaks) := goodIn_app (goodIn_of _ (by decide +kernel)) ggX5_written_X1_speaks
set_option maxRecDepth 20000 in
theorem ggX5_written_X5_signOfOne : GoodIn wsX5_written wsX5_signOfOne := goodIn_r _ [25] (by decide +kernel) (by decide +kernel)
set_option maxRecDepth 20000 in
theorem gX5_written_X5_signOfOne : GoodIn wsX5_written (va_wsS RX5 221 yX5_signOfOne wsX5_signOfOne) := goodIn_app (goodIn_of _ (by decide +kernel)) ggX5_written_X5_signOfOne
set_option maxRecDepth 20000 in
theorem ggX5_written_X5_fillChain : GoodIn wsX5_written wsX5_fillChain := goodIn_r _ [29, 2, 1, 30, 31, 32, 33, 34, 35, 36, 37, 38, 39, 40, 6, 41, 8, 9, 10, 11, 12, 13, 14, 15, 4, 5, 7, 16, 17, 18, 19, 20, 21, 42, 43, 44, 45, 46, 47, 48, 49, 50, 51, 52, 53, 54, 55, 56, 57, 58, 59, 60, 61, 62, 63, 64, 24, 65, 66, 67, 68, 69, 70, 71, 72, 73, 74, 75, 76, 77, 78, 79, 80, 81, 82, 83, 84, 85, 86, 87, 88, 89, 138, 139, 140, 141, 142, 143, 144, 145, 146, 164, 165, 166, 167, 168, 169, 170, 171, 172, 147, 148, 149, 150, 151, 152, 153, 154, 155, 156, 157, 158, 159, 160, 161, 162, 163, 173, 174] (by decide +kernel) (by decide +kernel)
set_option maxRecDepth 20000 in
theorem gX5_written_X5_fillChain : GoodIn wsX5_written (wsV RX5 73 RX5 yX5_fillChain wsX5_fillChain) := goodIn_app (goodIn_of _ (by decide +kernel)) ggX5_written_X5_fillChain
set_option maxRecDepth 20000 in
theorem ggX5_written_X0_narrow : GoodIn wsX5_written wsX0_narrow := goodIn_r _ [93, 94, 95, 96, 97, 35, 98, 86, 99, 100, 101, 102, 37, 88, 24, 89, 103, 104, 105, 106, 107, 108, 109, 110, 111, 112, 113, 114, 115, 87, 116, 117, 118, 119, 120, 121, 122, 123, 124, 125, 164, 165, 166, 167, 168, 169, 170, 171, 172] (by decide +kernel) (by decide +kernel)
set_option maxRecDepth 20000 in
theorem gX5_written_X0_narrow : GoodIn wsX5_written (wsV RX5 150 RX0 yX0_narrow wsX0_narrow) := goodIn_app (goodIn_of _ (by decide +kernel)) ggX5_written_X0_narrow
set_option maxRecDepth 20000 in
theorem ggX5_written_X0_narrowedSet : GoodIn wsX5_written wsX0_narrowedSet := goodIn_r _ [129, 94, 99, 100, 101, 35, 102, 37, 88, 24, 89, 164, 165, 166, 167, 168, 169, 170, 171, 172] (by decide +kernel) (by decide +kernel)
set_option maxRecDepth 20000 in
theorem gX5_written_X0_narrowedSet : GoodIn wsX5_written (wsV RX5 153 RX0 yX0_narrowedSet wsX0_narrowedSet) := goodIn_app (goodIn_of _ (by decide +kernel)) ggX5_written_X0_narrowedSet
set_option maxRecDepth 20000 in
theorem ggX5_written_X5_signOfSet : GoodIn wsX5_written wsX5_signOfSet := goodIn_r _ [132, 133, 120, 121, 122, 123, 124, 125, 134, 135, 24, 136, 137, 64, 65] (by decide +kernel) (by decide +kernel)
set_option maxRecDepth 20000 in
theorem gX5_written_X5_signOfSet : GoodIn wsX5_written (va_wsS RX5 224 yX5_signOfSet wsX5_signOfSet) := goodIn_app (goodIn_of _ (by decide +kernel)) ggX5_written_X5_signOfSet
theorem dX5_written_0 : decode cX5_written 0 = .ok (.aload_n 0, 1) := by decide +kernel
theorem dX5_written_1 : decode cX5_written 1 = .ok (.getfield 26, 3) := by decide +kernel
theorem dX5_written_4 : decode cX5_written 4 = .ok (.iload_n 1, 1) := by decide +kernel
theorem dX5_written_5 : decode cX5_written 5 = .ok (.invokevirtual 119, 3) := by decide +kernel
theorem dX5_written_8 : decode cX5_written 8 = .ok (.ifCond .ne 5, 3) := by decide +kernel
theorem dX5_written_11 : decode cX5_written 11 = .ok (.iconst (-1), 1) := by decide +kernel
theorem dX5_written_12 : decode cX5_written 12 = .ok (.ireturn, 1) := by decide +kernel
theorem dX5_written_13 : decode cX5_written 13 = .ok (.iload_n 2, 1) := by decide +kernel
theorem dX5_written_14 : decode cX5_written 14 = .ok (.iconst (-1), 1) := by decide +kernel
theorem dX5_written_15 : decode cX5_written 15 = .ok (.if_icmp .lt 9, 3) := by decide +kernel
theorem dX5_written_18 : decode cX5_written 18 = .ok (.iload_n 2, 1) := by decide +kernel
theorem dX5_written_19 : decode cX5_written 19 = .ok (.bipush 14, 2) := by decide +kernel
theorem dX5_written_21 : decode cX5_written 21 = .ok (.if_icmp .le 6, 3) := by decide +kernel
theorem dX5_written_24 : decode cX5_written 24 = .ok (.bipush (-2), 2) := by decide +kernel
theorem dX5_written_26 : decode cX5_written 26 = .ok (.ireturn, 1) := by decide +kernel
theorem dX5_written_27 : decode cX5_written 27 = .ok (.aload_n 0, 1) := by decide +kernel
theorem dX5_written_28 : decode cX5_written 28 = .ok (.getfield 26, 3) := by decide +kernel
theorem dX5_written_31 : decode cX5_written 31 = .ok (.iload_n 1, 1) := by decide +kernel
theorem dX5_written_32 : decode cX5_written 32 = .ok (.invokevirtual 122, 3) := by decide +kernel
theorem dX5_written_35 : decode cX5_written 35 = .ok (.invokevirtual 144, 3) := by decide +kernel
theorem dX5_written_38 : decode cX5_written 38 = .ok (.ifCond .ne 10, 3) := by decide +kernel
theorem dX5_written_41 : decode cX5_written 41 = .ok (.bipush 46, 2) := by decide +kernel
theorem dX5_written_43 : decode cX5_written 43 = .ok (.iload_n 2, 1) := by decide +kernel
theorem dX5_written_44 : decode cX5_written 44 = .ok (.invokestatic 221, 3) := by decide +kernel
theorem dX5_written_47 : decode cX5_written 47 = .ok (.ireturn, 1) := by decide +kernel
theorem dX5_written_48 : decode cX5_written 48 = .ok (.aload_n 0, 1) := by decide +kernel
theorem dX5_written_49 : decode cX5_written 49 = .ok (.invokevirtual 73, 3) := by decide +kernel
theorem dX5_written_52 : decode cX5_written 52 = .ok (.aload_n 0, 1) := by decide +kernel
theorem dX5_written_53 : decode cX5_written 53 = .ok (.getfield 33, 3) := by decide +kernel
theorem dX5_written_56 : decode cX5_written 56 = .ok (.invokevirtual 150, 3) := by decide +kernel
theorem dX5_written_59 : decode cX5_written 59 = .ok (.aload_n 0, 1) := by decide +kernel
theorem dX5_written_60 : decode cX5_written 60 = .ok (.getfield 33, 3) := by decide +kernel
theorem dX5_written_63 : decode cX5_written 63 = .ok (.iload_n 1, 1) := by decide +kernel
theorem dX5_written_64 : decode cX5_written 64 = .ok (.invokevirtual 153, 3) := by decide +kernel
theorem dX5_written_67 : decode cX5_written 67 = .ok (.istore_n 3, 1) := by decide +kernel
theorem dX5_written_68 : decode cX5_written 68 = .ok (.iload_n 3, 1) := by decide +kernel
theorem dX5_written_69 : decode cX5_written 69 = .ok (.ifCond .ne 12, 3) := by decide +kernel
theorem dX5_written_72 : decode cX5_written 72 = .ok (.bipush 33, 2) := by decide +kernel
theorem dX5_written_74 : decode cX5_written 74 = .ok (.iload_n 2, 1) := by decide +kernel
theorem dX5_written_75 : decode cX5_written 75 = .ok (.invokestatic 221, 3) := by decide +kernel
theorem dX5_written_78 : decode cX5_written 78 = .ok (.goto 8, 3) := by decide +kernel
theorem dX5_written_81 : decode cX5_written 81 = .ok (.iload_n 3, 1) := by decide +kernel
theorem dX5_written_82 : decode cX5_written 82 = .ok (.iload_n 2, 1) := by decide +kernel
theorem dX5_written_83 : decode cX5_written 83 = .ok (.invokestatic 224, 3) := by decide +kernel
theorem dX5_written_86 : decode cX5_written 86 = .ok (.ireturn, 1) := by decide +kernel
set_option maxRecDepth 20000 in
theorem ggX5_many_X2_thereSet : GoodIn wsX5_many wsX2_thereSet := goodIn_r _ [11, 12, 181, 182] (by decide +kernel) (by decide +kernel)
set_option maxRecDepth 20000 in
theorem gX5_many_X2_thereSet : GoodIn wsX5_many (wsV RX5 86 RX2 yX2_thereSet wsX2_thereSet) := goodIn_app (goodIn_of _ (by decide +kernel)) ggX5_many_X2_thereSet
set_option maxRecDepth 20000 in
theorem ggX5_many_J6_bitCount_0f7a4 : GoodIn wsX5_many wsJ6_bitCount_0f7a4 := goodIn_r _ [16, 17, 18, 19] (by decide +kernel) (by decide +kernel)
set_option maxRecDepth 20000 in
theorem gX5_many_J6_bitCount_0f7a4 : GoodIn wsX5_many (va_wsS RX5 188 yJ6_bitCount_0f7a4 wsJ6_bitCount_0f7a4) := goodIn_app (goodIn_of _ (by decide +kernel)) ggX5_many_J6_bitCount_0f7a4
set_option maxRecDepth 20000 in
theorem ggX5_many_X3_length : GoodIn wsX5_many wsX3_length := goodIn_r _ [24, 25, 183, 184, 185] (by decide +kernel) (by decide +kernel)
set_option maxRecDepth 20000 in
theorem gX5_many_X3_length : GoodIn wsX5_many (wsV RX5 115 RX3 yX3_length wsX3_length) := goodIn_app (goodIn_of _ (by decide +kernel)) ggX5_many_X3_length
set_option maxRecDepth 20000 in
theorem ggX5_many_X3_speaking : GoodIn wsX5_many wsX3_speaking := goodIn_r _ [29, 25, 30, 31, 32, 23, 33, 34, 35, 36, 37, 38, 39, 40, 41, 42, 43, 44, 45, 46, 47, 48, 49, 183, 184, 185, 186, 187, 188, 189, 190, 191, 192, 193, 194, 195, 196, 197, 198, 199] (by decide +kernel) (by decide +kernel)
set_option maxRecDepth 20000 in
theorem gX5_many_X3_speaking : GoodIn wsX5_many (wsV RX5 227 RX3 yX3_speaking wsX3_speaking) := goodIn_app (goodIn_of _ (by decide +kernel)) ggX5_many_X3_speaking
set_option maxRecDepth 20000 in
theorem ggX5_many_X3_runs : GoodIn wsX5_many wsX3_runs := goodIn_r _ [53, 25, 54, 55, 56, 23, 57, 30, 31, 32, 33, 34, 35, 36, 37, 38, 39, 40, 41, 42, 43, 44, 45, 46, 47, 48, 49, 183, 184, 185, 186, 187, 188, 189, 190, 191, 192, 193, 194, 195, 196, 197, 198, 199] (by decide +kernel) (by decide +kernel)
set_option maxRecDepth 20000 in
theorem gX5_many_X3_runs : GoodIn wsX5_many (wsV RX5 230 RX3 yX3_runs wsX3_runs) := goodIn_app (goodIn_of _ (by decide +kernel)) ggX5_many_X3_runs
set_option maxRecDepth 20000 in
theorem ggX5_many_X5_fillChain : GoodIn wsX5_many wsX5_fillChain := goodIn_r _ [62, 3, 2, 1, 6, 63, 64, 65, 66, 67, 68, 20, 21, 22, 23, 24, 25, 69, 35, 36, 37, 38, 39, 40, 41, 42, 43, 70, 45, 46, 47, 48, 49, 71, 72, 73, 74, 75, 76, 77, 78, 79, 80, 81, 82, 8, 9, 10, 11, 12, 83, 84, 85, 86, 87, 88, 61, 89, 90, 91, 92, 93, 30, 31, 32, 33, 34, 44, 94, 95, 96, 97, 98, 99, 100, 101, 102, 103, 104, 105, 106, 107, 172, 173, 174, 175, 176, 177, 178, 179, 180, 200, 201, 202, 203, 204, 205, 206, 207, 208, 183, 184, 185, 186, 187, 188, 189, 190, 191, 192, 193, 194, 195, 196, 197, 198, 199, 181, 182] (by decide +kernel) (by decide +kernel)
set_option maxRecDepth 20000 in
theorem gX5_many_X5_fillChain : GoodIn wsX5_many (wsV RX5 73 RX5 yX5_fillChain wsX5_fillChain) := goodIn_app (goodIn_of _ (by decide +kernel)) ggX5_many_X5_fillChain
set_option maxRecDepth 20000 in
theorem ggX5_many_X0_countWays : GoodIn wsX5_many wsX0_countWays := goodIn_r _ [111, 68, 112, 113, 114, 115, 116, 66, 117, 105, 118, 119, 120, 121, 106, 61, 107, 122, 123, 124, 125, 103, 126, 127, 128, 129, 104, 88, 89, 130, 131, 132, 133, 134, 135, 136, 137, 138, 139, 140, 141, 142, 143, 144, 145, 146, 147, 148, 200, 201, 202, 203, 204, 205, 206, 207, 208] (by decide +kernel) (by decide +kernel)
set_option maxRecDepth 20000 in
theorem gX5_many_X0_countWays : GoodIn wsX5_many (wsV RX5 156 RX0 yX0_countWays wsX0_countWays) := goodIn_app (goodIn_of _ (by decide +kernel)) ggX5_many_X0_countWays
set_option maxRecDepth 20000 in
theorem ggX5_many_X0_setsSureOfOne : GoodIn wsX5_many wsX0_setsSureOfOne := goodIn_r _ [152, 68, 153, 154, 155, 66, 156, 113, 118, 119, 120, 121, 106, 61, 107, 157, 14, 15, 16, 17, 18, 19, 200, 201, 202, 203, 204, 205, 206, 207, 208] (by decide +kernel) (by decide +kernel)
set_option maxRecDepth 20000 in
theorem gX5_many_X0_setsSureOfOne : GoodIn wsX5_many (wsV RX5 233 RX0 yX0_setsSureOfOne wsX0_setsSureOfOne) := goodIn_app (goodIn_of _ (by decide +kernel)) ggX5_many_X0_setsSureOfOne
set_option maxRecDepth 20000 in
theorem ggX5_many_X3_hints : GoodIn wsX5_many wsX3_hints := goodIn_r _ [161, 25, 34, 35, 36, 23, 37, 38, 39, 40, 41, 42, 43, 162, 163, 164, 47, 165, 81, 183, 184, 185, 186, 187, 188, 189, 190, 191, 192, 193, 194, 195, 196, 197, 198, 199] (by decide +kernel) (by decide +kernel)
set_option maxRecDepth 20000 in
theorem gX5_many_X3_hints : GoodIn wsX5_many (wsV RX5 236 RX3 yX3_hints wsX3_hints) := goodIn_app (goodIn_of _ (by decide +kernel)) ggX5_many_X3_hints
set_option maxRecDepth 20000 in
theorem ggX5_many_X4_length : GoodIn wsX5_many wsX4_length := goodIn_r _ [170, 171, 209, 210] (by decide +kernel) (by decide +kernel)
set_option maxRecDepth 20000 in
theorem gX5_many_X4_length : GoodIn wsX5_many (wsV RX5 97 RX4 yX4_length wsX4_length) := goodIn_app (goodIn_of _ (by decide +kernel)) ggX5_many_X4_length
theorem dX5_many_0 : decode cX5_many 0 = .ok (.iload_n 1, 1) := by decide +kernel
theorem dX5_many_1 : decode cX5_many 1 = .ok (.tableswitch 132 0 8 #[51, 62, 70, 78, 86, 106, 114, 122, 127], 51) := by decide +kernel
theorem dX5_many_52 : decode cX5_many 52 = .ok (.aload_n 0, 1) := by decide +kernel
theorem dX5_many_53 : decode cX5_many 53 = .ok (.getfield 12, 3) := by decide +kernel
theorem dX5_many_56 : decode cX5_many 56 = .ok (.invokevirtual 86, 3) := by decide +kernel
theorem dX5_many_59 : decode cX5_many 59 = .ok (.invokestatic 188, 3) := by decide +kernel
theorem dX5_many_62 : decode cX5_many 62 = .ok (.ireturn, 1) := by decide +kernel
theorem dX5_many_63 : decode cX5_many 63 = .ok (.aload_n 0, 1) := by decide +kernel
theorem dX5_many_64 : decode cX5_many 64 = .ok (.getfield 26, 3) := by decide +kernel
theorem dX5_many_67 : decode cX5_many 67 = .ok (.invokevirtual 115, 3) := by decide +kernel
theorem dX5_many_70 : decode cX5_many 70 = .ok (.ireturn, 1) := by decide +kernel
theorem dX5_many_71 : decode cX5_many 71 = .ok (.aload_n 0, 1) := by decide +kernel
theorem dX5_many_72 : decode cX5_many 72 = .ok (.getfield 26, 3) := by decide +kernel
theorem dX5_many_75 : decode cX5_many 75 = .ok (.invokevirtual 227, 3) := by decide +kernel
theorem dX5_many_78 : decode cX5_many 78 = .ok (.ireturn, 1) := by decide +kernel
theorem dX5_many_79 : decode cX5_many 79 = .ok (.aload_n 0, 1) := by decide +kernel
theorem dX5_many_80 : decode cX5_many 80 = .ok (.getfield 26, 3) := by decide +kernel
theorem dX5_many_83 : decode cX5_many 83 = .ok (.invokevirtual 230, 3) := by decide +kernel
theorem dX5_many_86 : decode cX5_many 86 = .ok (.ireturn, 1) := by decide +kernel
theorem dX5_many_87 : decode cX5_many 87 = .ok (.aload_n 0, 1) := by decide +kernel
theorem dX5_many_88 : decode cX5_many 88 = .ok (.invokevirtual 73, 3) := by decide +kernel
theorem dX5_many_91 : decode cX5_many 91 = .ok (.aload_n 0, 1) := by decide +kernel
theorem dX5_many_92 : decode cX5_many 92 = .ok (.getfield 33, 3) := by decide +kernel
theorem dX5_many_95 : decode cX5_many 95 = .ok (.invokevirtual 156, 3) := by decide +kernel
theorem dX5_many_98 : decode cX5_many 98 = .ok (.pop2, 1) := by decide +kernel
theorem dX5_many_99 : decode cX5_many 99 = .ok (.aload_n 0, 1) := by decide +kernel
theorem dX5_many_100 : decode cX5_many 100 = .ok (.getfield 33, 3) := by decide +kernel
theorem dX5_many_103 : decode cX5_many 103 = .ok (.invokevirtual 233, 3) := by decide +kernel
theorem dX5_many_106 : decode cX5_many 106 = .ok (.ireturn, 1) := by decide +kernel
theorem dX5_many_107 : decode cX5_many 107 = .ok (.aload_n 0, 1) := by decide +kernel
theorem dX5_many_108 : decode cX5_many 108 = .ok (.getfield 26, 3) := by decide +kernel
theorem dX5_many_111 : decode cX5_many 111 = .ok (.invokevirtual 236, 3) := by decide +kernel
theorem dX5_many_114 : decode cX5_many 114 = .ok (.ireturn, 1) := by decide +kernel
theorem dX5_many_115 : decode cX5_many 115 = .ok (.aload_n 0, 1) := by decide +kernel
theorem dX5_many_116 : decode cX5_many 116 = .ok (.getfield 19, 3) := by decide +kernel
theorem dX5_many_119 : decode cX5_many 119 = .ok (.invokevirtual 97, 3) := by decide +kernel
theorem dX5_many_122 : decode cX5_many 122 = .ok (.ireturn, 1) := by decide +kernel
theorem dX5_many_123 : decode cX5_many 123 = .ok (.aload_n 0, 1) := by decide +kernel
theorem dX5_many_124 : decode cX5_many 124 = .ok (.getfield 47, 3) := by decide +kernel
theorem dX5_many_127 : decode cX5_many 127 = .ok (.ireturn, 1) := by decide +kernel
theorem dX5_many_128 : decode cX5_many 128 = .ok (.aload_n 0, 1) := by decide +kernel
theorem dX5_many_129 : decode cX5_many 129 = .ok (.getfield 51, 3) := by decide +kernel
theorem dX5_many_132 : decode cX5_many 132 = .ok (.ireturn, 1) := by decide +kernel
theorem dX5_many_133 : decode cX5_many 133 = .ok (.bipush (-2), 2) := by decide +kernel
theorem dX5_many_135 : decode cX5_many 135 = .ok (.ireturn, 1) := by decide +kernel
theorem dX5_isWithin_0 : decode cX5_isWithin 0 = .ok (.iload_n 0, 1) := by decide +kernel
theorem dX5_isWithin_1 : decode cX5_isWithin 1 = .ok (.ifCond .lt 12, 3) := by decide +kernel
theorem dX5_isWithin_4 : decode cX5_isWithin 4 = .ok (.iload_n 0, 1) := by decide +kernel
theorem dX5_isWithin_5 : decode cX5_isWithin 5 = .ok (.iload_n 1, 1) := by decide +kernel
theorem dX5_isWithin_6 : decode cX5_isWithin 6 = .ok (.if_icmp .ge 7, 3) := by decide +kernel
theorem dX5_isWithin_9 : decode cX5_isWithin 9 = .ok (.iconst 1, 1) := by decide +kernel
theorem dX5_isWithin_10 : decode cX5_isWithin 10 = .ok (.goto 4, 3) := by decide +kernel
theorem dX5_isWithin_13 : decode cX5_isWithin 13 = .ok (.iconst 0, 1) := by decide +kernel
theorem dX5_isWithin_14 : decode cX5_isWithin 14 = .ok (.ireturn, 1) := by decide +kernel
theorem dX5_bitOf_0 : decode cX5_bitOf 0 = .ok (.iload_n 0, 1) := by decide +kernel
theorem dX5_bitOf_1 : decode cX5_bitOf 1 = .ok (.ifCond .lt 15, 3) := by decide +kernel
theorem dX5_bitOf_4 : decode cX5_bitOf 4 = .ok (.iload_n 0, 1) := by decide +kernel
theorem dX5_bitOf_5 : decode cX5_bitOf 5 = .ok (.bipush 8, 2) := by decide +kernel
theorem dX5_bitOf_7 : decode cX5_bitOf 7 = .ok (.if_icmp .ge 9, 3) := by decide +kernel
theorem dX5_bitOf_10 : decode cX5_bitOf 10 = .ok (.iconst 1, 1) := by decide +kernel
theorem dX5_bitOf_11 : decode cX5_bitOf 11 = .ok (.iload_n 0, 1) := by decide +kernel
theorem dX5_bitOf_12 : decode cX5_bitOf 12 = .ok (.ishl, 1) := by decide +kernel
theorem dX5_bitOf_13 : decode cX5_bitOf 13 = .ok (.goto 4, 3) := by decide +kernel
theorem dX5_bitOf_16 : decode cX5_bitOf 16 = .ok (.iconst 0, 1) := by decide +kernel
theorem dX5_bitOf_17 : decode cX5_bitOf 17 = .ok (.ireturn, 1) := by decide +kernel
set_option maxRecDepth 20000 in
theorem ggX5_fillChain_X0_clear : GoodIn wsX5_fillChain wsX0_clear := goodIn_r _ [9, 10, 91, 92, 93, 94, 95, 96, 97, 98, 99] (by decide +kernel) (by decide +kernel)
set_option maxRecDepth 20000 in
theorem gX5_fillChain_X0_clear : GoodIn wsX5_fillChain (wsV RX5 239 RX0 yX0_clear wsX0_clear) := goodIn_app (goodIn_of _ (by decide +kernel)) ggX5_fillChain_X0_clear
set_option maxRecDepth 20000 in
theorem ggX5_fillChain_X3_length : GoodIn wsX5_fillChain wsX3_length := goodIn_r _ [15, 16, 100, 101, 102] (by decide +kernel) (by decide +kernel)
set_option maxRecDepth 20000 in
theorem gX5_fillChain_X3_length : GoodIn wsX5_fillChain (wsV RX5 115 RX3 yX3_length wsX3_length) := goodIn_app (goodIn_of _ (by decide +kernel)) ggX5_fillChain_X3_length
set_option maxRecDepth 20000 in
theorem ggX5_fillChain_X3_paragraphAt : GoodIn wsX5_fillChain wsX3_paragraphAt := goodIn_r _ [20, 21, 22, 23, 24, 25, 14, 26, 16, 100, 101, 102] (by decide +kernel) (by decide +kernel)
set_option maxRecDepth 20000 in
theorem gX5_fillChain_X3_paragraphAt : GoodIn wsX5_fillChain (wsV RX5 122 RX3 yX3_paragraphAt wsX3_paragraphAt) := goodIn_app (goodIn_of _ (by decide +kernel)) ggX5_fillChain_X3_paragraphAt
set_option maxRecDepth 20000 in
theorem ggX5_fillChain_X1_speaks : GoodIn wsX5_fillChain wsX1_speaks := goodIn_r _ [31, 32, 103, 104, 105, 106, 107, 108, 109, 110, 111, 112, 113, 114, 115, 116] (by decide +kernel) (by decide +kernel)
set_option maxRecDepth 20000 in
theorem gX5_fillChain_X1_speaks : GoodIn wsX5_fillChain (wsV RX5 144 RX1 yX1_speaks wsX1_speaks) := goodIn_app (goodIn_of _ (by decide +kernel)) ggX5_fillChain_X1_speaks
set_option maxRecDepth 20000 in
theorem ggX5_fillChain_X1_ownSet : GoodIn wsX5_fillChain wsX1_ownSet := goodIn_r _ [36, 37, 38, 39, 40, 41, 42, 43, 44, 45, 46, 47, 48, 49, 50, 51, 52, 53, 54, 55, 56, 57, 103, 104, 105, 106, 107, 108, 109, 110, 111, 112, 113, 114, 115, 116, 117, 118] (by decide +kernel) (by decide +kernel)
set_option maxRecDepth 20000 in
theorem gX5_fillChain_X1_ownSet : GoodIn wsX5_fillChain (wsV RX5 240 RX1 yX1_ownSet wsX1_ownSet) := goodIn_app (goodIn_of _ (by decide +kernel)) ggX5_fillChain_X1_ownSet
set_option maxRecDepth 20000 in
theorem ggX5_fillChain_X3_linkAhead : GoodIn wsX5_fillChain wsX3_linkAhead := goodIn_r _ [61, 62, 63, 64, 14, 65, 66, 18, 19, 20, 21, 22, 23, 24, 25, 26, 16, 67, 28, 29, 30, 31, 32, 68, 69, 70, 71, 72, 100, 101, 102, 103, 104, 105, 106, 107, 108, 109, 110, 111, 112, 113, 114, 115, 116] (by decide +kernel) (by decide +kernel)
set_option maxRecDepth 20000 in
theorem gX5_fillChain_X3_linkAhead : GoodIn wsX5_fillChain (wsV RX5 172 RX3 yX3_linkAhead wsX3_linkAhead) := goodIn_app (goodIn_of _ (by decide +kernel)) ggX5_fillChain_X3_linkAhead
set_option maxRecDepth 20000 in
theorem ggX5_fillChain_X0_append : GoodIn wsX5_fillChain wsX0_append := goodIn_r _ [76, 10, 77, 78, 79, 80, 56, 81, 91, 92, 93, 94, 95, 96, 97, 98, 99] (by decide +kernel) (by decide +kernel)
set_option maxRecDepth 20000 in
theorem gX5_fillChain_X0_append : GoodIn wsX5_fillChain (wsV RX5 243 RX0 yX0_append wsX0_append) := goodIn_app (goodIn_of _ (by decide +kernel)) ggX5_fillChain_X0_append
theorem dX5_fillChain_0 : decode cX5_fillChain 0 = .ok (.aload_n 0, 1) := by decide +kernel
theorem dX5_fillChain_1 : decode cX5_fillChain 1 = .ok (.getfield 33, 3) := by decide +kernel
theorem dX5_fillChain_4 : decode cX5_fillChain 4 = .ok (.invokevirtual 239, 3) := by decide +kernel
theorem dX5_fillChain_7 : decode cX5_fillChain 7 = .ok (.iconst 0, 1) := by decide +kernel
theorem dX5_fillChain_8 : decode cX5_fillChain 8 = .ok (.istore_n 1, 1) := by decide +kernel
theorem dX5_fillChain_9 : decode cX5_fillChain 9 = .ok (.iload_n 1, 1) := by decide +kernel
theorem dX5_fillChain_10 : decode cX5_fillChain 10 = .ok (.aload_n 0, 1) := by decide +kernel
theorem dX5_fillChain_11 : decode cX5_fillChain 11 = .ok (.getfield 26, 3) := by decide +kernel
theorem dX5_fillChain_14 : decode cX5_fillChain 14 = .ok (.invokevirtual 115, 3) := by decide +kernel
theorem dX5_fillChain_17 : decode cX5_fillChain 17 = .ok (.if_icmp .ge 67, 3) := by decide +kernel
theorem dX5_fillChain_20 : decode cX5_fillChain 20 = .ok (.aload_n 0, 1) := by decide +kernel
theorem dX5_fillChain_21 : decode cX5_fillChain 21 = .ok (.getfield 26, 3) := by decide +kernel
theorem dX5_fillChain_24 : decode cX5_fillChain 24 = .ok (.iload_n 1, 1) := by decide +kernel
theorem dX5_fillChain_25 : decode cX5_fillChain 25 = .ok (.invokevirtual 122, 3) := by decide +kernel
theorem dX5_fillChain_28 : decode cX5_fillChain 28 = .ok (.astore_n 2, 1) := by decide +kernel
theorem dX5_fillChain_29 : decode cX5_fillChain 29 = .ok (.aload_n 2, 1) := by decide +kernel
theorem dX5_fillChain_30 : decode cX5_fillChain 30 = .ok (.invokevirtual 144, 3) := by decide +kernel
theorem dX5_fillChain_33 : decode cX5_fillChain 33 = .ok (.istore_n 3, 1) := by decide +kernel
theorem dX5_fillChain_34 : decode cX5_fillChain 34 = .ok (.iload_n 3, 1) := by decide +kernel
theorem dX5_fillChain_35 : decode cX5_fillChain 35 = .ok (.ifCond .eq 18, 3) := by decide +kernel
theorem dX5_fillChain_38 : decode cX5_fillChain 38 = .ok (.aload_n 2, 1) := by decide +kernel
theorem dX5_fillChain_39 : decode cX5_fillChain 39 = .ok (.aload_n 0, 1) := by decide +kernel
theorem dX5_fillChain_40 : decode cX5_fillChain 40 = .ok (.getfield 12, 3) := by decide +kernel
theorem dX5_fillChain_43 : decode cX5_fillChain 43 = .ok (.aload_n 0, 1) := by decide +kernel
theorem dX5_fillChain_44 : decode cX5_fillChain 44 = .ok (.getfield 51, 3) := by decide +kernel
theorem dX5_fillChain_47 : decode cX5_fillChain 47 = .ok (.invokevirtual 240, 3) := by decide +kernel
theorem dX5_fillChain_50 : decode cX5_fillChain 50 = .ok (.goto 4, 3) := by decide +kernel
theorem dX5_fillChain_53 : decode cX5_fillChain 53 = .ok (.iconst 0, 1) := by decide +kernel
theorem dX5_fillChain_54 : decode cX5_fillChain 54 = .ok (.istore 4, 2) := by decide +kernel
theorem dX5_fillChain_56 : decode cX5_fillChain 56 = .ok (.aload_n 0, 1) := by decide +kernel
theorem dX5_fillChain_57 : decode cX5_fillChain 57 = .ok (.getfield 33, 3) := by decide +kernel
theorem dX5_fillChain_60 : decode cX5_fillChain 60 = .ok (.iload_n 3, 1) := by decide +kernel
theorem dX5_fillChain_61 : decode cX5_fillChain 61 = .ok (.iload 4, 2) := by decide +kernel
theorem dX5_fillChain_63 : decode cX5_fillChain 63 = .ok (.aload_n 0, 1) := by decide +kernel
theorem dX5_fillChain_64 : decode cX5_fillChain 64 = .ok (.getfield 26, 3) := by decide +kernel
theorem dX5_fillChain_67 : decode cX5_fillChain 67 = .ok (.iload_n 1, 1) := by decide +kernel
theorem dX5_fillChain_68 : decode cX5_fillChain 68 = .ok (.aload_n 0, 1) := by decide +kernel
theorem dX5_fillChain_69 : decode cX5_fillChain 69 = .ok (.getfield 51, 3) := by decide +kernel
theorem dX5_fillChain_72 : decode cX5_fillChain 72 = .ok (.invokevirtual 172, 3) := by decide +kernel
theorem dX5_fillChain_75 : decode cX5_fillChain 75 = .ok (.invokevirtual 243, 3) := by decide +kernel
theorem dX5_fillChain_78 : decode cX5_fillChain 78 = .ok (.iinc 1 1, 3) := by decide +kernel
theorem dX5_fillChain_81 : decode cX5_fillChain 81 = .ok (.goto (-72), 3) := by decide +kernel
theorem dX5_fillChain_84 : decode cX5_fillChain 84 = .ok (.return_, 1) := by decide +kernel
set_option maxRecDepth 20000 in
theorem ggX5_keepNarrowedSets_X5_fillChain : GoodIn wsX5_keepNarrowedSets wsX5_fillChain := goodIn_r _ [7, 1, 8, 9, 10, 11, 12, 13, 14, 15, 16, 17, 18, 19, 20, 21, 22, 23, 24, 25, 26, 27, 28, 29, 30, 31, 32, 33, 34, 35, 36, 37, 38, 39, 40, 41, 42, 43, 44, 45, 46, 47, 48, 49, 50, 51, 52, 53, 54, 55, 56, 57, 58, 59, 60, 61, 6, 62, 63, 64, 65, 66, 67, 68, 69, 70, 71, 72, 73, 74, 75, 76, 77, 78, 79, 80, 81, 82, 83, 84, 85, 86, 127, 128, 129, 130, 131, 132, 133, 134, 135, 136, 137, 138, 139, 140, 141, 142, 143, 144, 145, 146, 147, 148, 149, 150, 151, 152, 153, 154, 155, 156, 157, 158, 159, 160, 161, 162, 163] (by decide +kernel) (by decide +kernel)
set_option maxRecDepth 20000 in
theorem gX5_keepNarrowedSets_X5_fillChain : GoodIn wsX5_keepNarrowedSets (wsV RX5 73 RX5 yX5_fillChain wsX5_fillChain) := goodIn_app (goodIn_of _ (by decide +kernel)) ggX5_keepNarrowedSets_X5_fillChain
set_option maxRecDepth 20000 in
theorem ggX5_keepNarrowedSets_X0_narrow : GoodIn wsX5_keepNarrowedSets wsX0_narrow := goodIn_r _ [90, 91, 92, 93, 94, 14, 95, 83, 96, 97, 98, 99, 16, 85, 6, 86, 100, 101, 102, 103, 104, 105, 106, 107, 108, 109, 110, 111, 112, 84, 113, 114, 115, 116, 117, 118, 119, 120, 121, 122, 136, 137, 138, 139, 140, 141, 142, 143, 144] (by decide +kernel) (by decide +kernel)
set_option maxRecDepth 20000 in
theorem gX5_keepNarrowedSets_X0_narrow : GoodIn wsX5_keepNarrowedSets (wsV RX5 150 RX0 yX0_narrow wsX0_narrow) := goodIn_app (goodIn_of _ (by decide +kernel)) ggX5_keepNarrowedSets_X0_narrow
set_option maxRecDepth 20000 in
theorem ggX5_keepNarrowedSets_X0_narrowedSet : GoodIn wsX5_keepNarrowedSets wsX0_narrowedSet := goodIn_r _ [126, 91, 96, 97, 98, 14, 99, 16, 85, 6, 86, 136, 137, 138, 139, 140, 141, 142, 143, 144] (by decide +kernel) (by decide +kernel)
set_option maxRecDepth 20000 in
theorem gX5_keepNarrowedSets_X0_narrowedSet : GoodIn wsX5_keepNarrowedSets (wsV RX5 153 RX0 yX0_narrowedSet wsX0_narrowedSet) := goodIn_app (goodIn_of _ (by decide +kernel)) ggX5_keepNarrowedSets_X0_narrowedSet
theorem dX5_keepNarrowedSets_0 : decode cX5_keepNarrowedSets 0 = .ok (.aload_n 0, 1) := by decide +kernel
theorem dX5_keepNarrowedSets_1 : decode cX5_keepNarrowedSets 1 = .ok (.invokevirtual 73, 3) := by decide +kernel
theorem dX5_keepNarrowedSets_4 : decode cX5_keepNarrowedSets 4 = .ok (.aload_n 0, 1) := by decide +kernel
theorem dX5_keepNarrowedSets_5 : decode cX5_keepNarrowedSets 5 = .ok (.getfield 33, 3) := by decide +kernel
theorem dX5_keepNarrowedSets_8 : decode cX5_keepNarrowedSets 8 = .ok (.invokevirtual 150, 3) := by decide +kernel
theorem dX5_keepNarrowedSets_11 : decode cX5_keepNarrowedSets 11 = .ok (.iconst 0, 1) := by decide +kernel
theorem dX5_keepNarrowedSets_12 : decode cX5_keepNarrowedSets 12 = .ok (.istore_n 1, 1) := by decide +kernel
theorem dX5_keepNarrowedSets_13 : decode cX5_keepNarrowedSets 13 = .ok (.iload_n 1, 1) := by decide +kernel
theorem dX5_keepNarrowedSets_14 : decode cX5_keepNarrowedSets 14 = .ok (.bipush 16, 2) := by decide +kernel
theorem dX5_keepNarrowedSets_16 : decode cX5_keepNarrowedSets 16 = .ok (.if_icmp .ge 23, 3) := by decide +kernel
theorem dX5_keepNarrowedSets_19 : decode cX5_keepNarrowedSets 19 = .ok (.aload_n 0, 1) := by decide +kernel
theorem dX5_keepNarrowedSets_20 : decode cX5_keepNarrowedSets 20 = .ok (.getfield 37, 3) := by decide +kernel
theorem dX5_keepNarrowedSets_23 : decode cX5_keepNarrowedSets 23 = .ok (.iload_n 1, 1) := by decide +kernel
theorem dX5_keepNarrowedSets_24 : decode cX5_keepNarrowedSets 24 = .ok (.aload_n 0, 1) := by decide +kernel
theorem dX5_keepNarrowedSets_25 : decode cX5_keepNarrowedSets 25 = .ok (.getfield 33, 3) := by decide +kernel
theorem dX5_keepNarrowedSets_28 : decode cX5_keepNarrowedSets 28 = .ok (.iload_n 1, 1) := by decide +kernel
theorem dX5_keepNarrowedSets_29 : decode cX5_keepNarrowedSets 29 = .ok (.invokevirtual 153, 3) := by decide +kernel
theorem dX5_keepNarrowedSets_32 : decode cX5_keepNarrowedSets 32 = .ok (.iastore, 1) := by decide +kernel
theorem dX5_keepNarrowedSets_33 : decode cX5_keepNarrowedSets 33 = .ok (.iinc 1 1, 3) := by decide +kernel
theorem dX5_keepNarrowedSets_36 : decode cX5_keepNarrowedSets 36 = .ok (.goto (-23), 3) := by decide +kernel
theorem dX5_keepNarrowedSets_39 : decode cX5_keepNarrowedSets 39 = .ok (.return_, 1) := by decide +kernel
set_option maxRecDepth 20000 in
theorem ggX5_changedNarrowedSets_X5_fillChain : GoodIn wsX5_changedNarrowedSets wsX5_fillChain := goodIn_r _ [7, 1, 8, 9, 10, 11, 12, 13, 14, 15, 16, 17, 18, 19, 20, 21, 22, 23, 24, 25, 26, 27, 28, 29, 30, 31, 32, 33, 34, 35, 36, 37, 38, 39, 40, 41, 42, 43, 44, 45, 46, 47, 48, 49, 50, 51, 52, 53, 54, 55, 56, 57, 58, 59, 60, 61, 6, 62, 63, 64, 65, 66, 67, 68, 69, 70, 71, 72, 73, 74, 75, 76, 77, 78, 79, 80, 81, 82, 83, 84, 85, 86, 127, 128, 129, 130, 131, 132, 133, 134, 135, 136, 137, 138, 139, 140, 141, 142, 143, 144, 145, 146, 147, 148, 149, 150, 151, 152, 153, 154, 155, 156, 157, 158, 159, 160, 161, 162, 163] (by decide +kernel) (by decide +kernel)
set_option maxRecDepth 20000 in
theorem gX5_changedNarrowedSets_X5_fillChain : GoodIn wsX5_changedNarrowedSets (wsV RX5 73 RX5 yX5_fillChain wsX5_fillChain) := goodIn_app (goodIn_of _ (by decide +kernel)) ggX5_changedNarrowedSets_X5_fillChain
set_option maxRecDepth 20000 in
theorem ggX5_changedNarrowedSets_X0_narrow : GoodIn wsX5_changedNarrowedSets wsX0_narrow := goodIn_r _ [90, 91, 92, 93, 94, 14, 95, 83, 96, 97, 98, 99, 16, 85, 6, 86, 100, 101, 102, 103, 104, 105, 106, 107, 108, 109, 110, 111, 112, 84, 113, 114, 115, 116, 117, 118, 119, 120, 121, 122, 136, 137, 138, 139, 140, 141, 142, 143, 144] (by decide +kernel) (by decide +kernel)
set_option maxRecDepth 20000 in
theorem gX5_changedNarrowedSets_X0_narrow : GoodIn wsX5_changedNarrowedSets (wsV RX5 150 RX0 yX0_narrow wsX0_narrow) := goodIn_app (goodIn_of _ (by decide +kernel)) ggX5_changedNarrowedSets_X0_narrow
set_option maxRecDepth 20000 in
theorem ggX5_changedNarrowedSets_X0_narrowedSet : GoodIn wsX5_changedNarrowedSets wsX0_narrowedSet := goodIn_r _ [126, 91, 96, 97, 98, 14, 99, 16, 85, 6, 86, 136, 137, 138, 139, 140, 141, 142, 143, 144] (by decide +kernel) (by decide +kernel)
set_option maxRecDepth 20000 in
theorem gX5_changedNarrowedSets_X0_narrowedSet : GoodIn wsX5_changedNarrowedSets (wsV RX5 153 RX0 yX0_narrowedSet wsX0_narrowedSet) := goodIn_app (goodIn_of _ (by decide +kernel)) ggX5_changedNarrowedSets_X0_narrowedSet
theorem dX5_changedNarrowedSets_0 : decode cX5_changedNarrowedSets 0 = .ok (.aload_n 0, 1) := by decide +kernel
theorem dX5_changedNarrowedSets_1 : decode cX5_changedNarrowedSets 1 = .ok (.invokevirtual 73, 3) := by decide +kernel
theorem dX5_changedNarrowedSets_4 : decode cX5_changedNarrowedSets 4 = .ok (.aload_n 0, 1) := by decide +kernel
theorem dX5_changedNarrowedSets_5 : decode cX5_changedNarrowedSets 5 = .ok (.getfield 33, 3) := by decide +kernel
theorem dX5_changedNarrowedSets_8 : decode cX5_changedNarrowedSets 8 = .ok (.invokevirtual 150, 3) := by decide +kernel
theorem dX5_changedNarrowedSets_11 : decode cX5_changedNarrowedSets 11 = .ok (.iconst 0, 1) := by decide +kernel
theorem dX5_changedNarrowedSets_12 : decode cX5_changedNarrowedSets 12 = .ok (.istore_n 1, 1) := by decide +kernel
theorem dX5_changedNarrowedSets_13 : decode cX5_changedNarrowedSets 13 = .ok (.iconst 0, 1) := by decide +kernel
theorem dX5_changedNarrowedSets_14 : decode cX5_changedNarrowedSets 14 = .ok (.istore_n 2, 1) := by decide +kernel
theorem dX5_changedNarrowedSets_15 : decode cX5_changedNarrowedSets 15 = .ok (.iload_n 2, 1) := by decide +kernel
theorem dX5_changedNarrowedSets_16 : decode cX5_changedNarrowedSets 16 = .ok (.bipush 16, 2) := by decide +kernel
theorem dX5_changedNarrowedSets_18 : decode cX5_changedNarrowedSets 18 = .ok (.if_icmp .ge 29, 3) := by decide +kernel
theorem dX5_changedNarrowedSets_21 : decode cX5_changedNarrowedSets 21 = .ok (.aload_n 0, 1) := by decide +kernel
theorem dX5_changedNarrowedSets_22 : decode cX5_changedNarrowedSets 22 = .ok (.getfield 37, 3) := by decide +kernel
theorem dX5_changedNarrowedSets_25 : decode cX5_changedNarrowedSets 25 = .ok (.iload_n 2, 1) := by decide +kernel
theorem dX5_changedNarrowedSets_26 : decode cX5_changedNarrowedSets 26 = .ok (.iaload, 1) := by decide +kernel
theorem dX5_changedNarrowedSets_27 : decode cX5_changedNarrowedSets 27 = .ok (.aload_n 0, 1) := by decide +kernel
theorem dX5_changedNarrowedSets_28 : decode cX5_changedNarrowedSets 28 = .ok (.getfield 33, 3) := by decide +kernel
theorem dX5_changedNarrowedSets_31 : decode cX5_changedNarrowedSets 31 = .ok (.iload_n 2, 1) := by decide +kernel
theorem dX5_changedNarrowedSets_32 : decode cX5_changedNarrowedSets 32 = .ok (.invokevirtual 153, 3) := by decide +kernel
theorem dX5_changedNarrowedSets_35 : decode cX5_changedNarrowedSets 35 = .ok (.if_icmp .eq 6, 3) := by decide +kernel
theorem dX5_changedNarrowedSets_38 : decode cX5_changedNarrowedSets 38 = .ok (.iinc 1 1, 3) := by decide +kernel
theorem dX5_changedNarrowedSets_41 : decode cX5_changedNarrowedSets 41 = .ok (.iinc 2 1, 3) := by decide +kernel
theorem dX5_changedNarrowedSets_44 : decode cX5_changedNarrowedSets 44 = .ok (.goto (-29), 3) := by decide +kernel
theorem dX5_changedNarrowedSets_47 : decode cX5_changedNarrowedSets 47 = .ok (.iload_n 1, 1) := by decide +kernel
theorem dX5_changedNarrowedSets_48 : decode cX5_changedNarrowedSets 48 = .ok (.ireturn, 1) := by decide +kernel
set_option maxRecDepth 20000 in
theorem ggX5_placeByRank_X2_isThere : GoodIn wsX5_placeByRank wsX2_isThere := goodIn_r _ [6, 7, 8, 9, 10, 29, 30] (by decide +kernel) (by decide +kernel)
set_option maxRecDepth 20000 in
theorem gX5_placeByRank_X2_isThere : GoodIn wsX5_placeByRank (wsV RX5 66 RX2 yX2_isThere wsX2_isThere) := goodIn_app (goodIn_of _ (by decide +kernel)) ggX5_placeByRank_X2_isThere
set_option maxRecDepth 20000 in
theorem ggX5_placeByRank_X5_ranksAhead : GoodIn wsX5_placeByRank wsX5_ranksAhead := goodIn_r _ [14, 15, 16, 17, 18, 9, 19, 20, 21, 22, 23, 24, 25, 26, 27, 28] (by decide +kernel) (by decide +kernel)
set_option maxRecDepth 20000 in
theorem gX5_placeByRank_X5_ranksAhead : GoodIn wsX5_placeByRank (wsV RX5 246 RX5 yX5_ranksAhead wsX5_ranksAhead) := goodIn_app (goodIn_of _ (by decide +kernel)) ggX5_placeByRank_X5_ranksAhead
theorem dX5_placeByRank_0 : decode cX5_placeByRank 0 = .ok (.iconst 0, 1) := by decide +kernel
theorem dX5_placeByRank_1 : decode cX5_placeByRank 1 = .ok (.istore_n 2, 1) := by decide +kernel
theorem dX5_placeByRank_2 : decode cX5_placeByRank 2 = .ok (.iconst 0, 1) := by decide +kernel
theorem dX5_placeByRank_3 : decode cX5_placeByRank 3 = .ok (.istore_n 3, 1) := by decide +kernel
theorem dX5_placeByRank_4 : decode cX5_placeByRank 4 = .ok (.iload_n 3, 1) := by decide +kernel
theorem dX5_placeByRank_5 : decode cX5_placeByRank 5 = .ok (.bipush 8, 2) := by decide +kernel
theorem dX5_placeByRank_7 : decode cX5_placeByRank 7 = .ok (.if_icmp .ge 32, 3) := by decide +kernel
theorem dX5_placeByRank_10 : decode cX5_placeByRank 10 = .ok (.aload_n 0, 1) := by decide +kernel
theorem dX5_placeByRank_11 : decode cX5_placeByRank 11 = .ok (.getfield 12, 3) := by decide +kernel
theorem dX5_placeByRank_14 : decode cX5_placeByRank 14 = .ok (.iload_n 3, 1) := by decide +kernel
theorem dX5_placeByRank_15 : decode cX5_placeByRank 15 = .ok (.invokevirtual 66, 3) := by decide +kernel
theorem dX5_placeByRank_18 : decode cX5_placeByRank 18 = .ok (.ifCond .eq 15, 3) := by decide +kernel
theorem dX5_placeByRank_21 : decode cX5_placeByRank 21 = .ok (.aload_n 0, 1) := by decide +kernel
theorem dX5_placeByRank_22 : decode cX5_placeByRank 22 = .ok (.iload_n 3, 1) := by decide +kernel
theorem dX5_placeByRank_23 : decode cX5_placeByRank 23 = .ok (.iload_n 1, 1) := by decide +kernel
theorem dX5_placeByRank_24 : decode cX5_placeByRank 24 = .ok (.invokevirtual 246, 3) := by decide +kernel
theorem dX5_placeByRank_27 : decode cX5_placeByRank 27 = .ok (.ifCond .eq 6, 3) := by decide +kernel
theorem dX5_placeByRank_30 : decode cX5_placeByRank 30 = .ok (.iinc 2 1, 3) := by decide +kernel
theorem dX5_placeByRank_33 : decode cX5_placeByRank 33 = .ok (.iinc 3 1, 3) := by decide +kernel
theorem dX5_placeByRank_36 : decode cX5_placeByRank 36 = .ok (.goto (-32), 3) := by decide +kernel
theorem dX5_placeByRank_39 : decode cX5_placeByRank 39 = .ok (.iload_n 2, 1) := by decide +kernel
theorem dX5_placeByRank_40 : decode cX5_placeByRank 40 = .ok (.ireturn, 1) := by decide +kernel
set_option maxRecDepth 20000 in
theorem ggX5_ranksAhead_X5_isWithin : GoodIn wsX5_ranksAhead wsX5_isWithin := goodIn_r _ [6] (by decide +kernel) (by decide +kernel)
set_option maxRecDepth 20000 in
theorem gX5_ranksAhead_X5_isWithin : GoodIn wsX5_ranksAhead (va_wsS RX5 54 yX5_isWithin wsX5_isWithin) := goodIn_app (goodIn_of _ (by decide +kernel)) ggX5_ranksAhead_X5_isWithin
theorem dX5_ranksAhead_0 : decode cX5_ranksAhead 0 = .ok (.iload_n 1, 1) := by decide +kernel
theorem dX5_ranksAhead_1 : decode cX5_ranksAhead 1 = .ok (.bipush 8, 2) := by decide +kernel
theorem dX5_ranksAhead_3 : decode cX5_ranksAhead 3 = .ok (.invokestatic 54, 3) := by decide +kernel
theorem dX5_ranksAhead_6 : decode cX5_ranksAhead 6 = .ok (.ifCond .eq 12, 3) := by decide +kernel
theorem dX5_ranksAhead_9 : decode cX5_ranksAhead 9 = .ok (.iload_n 2, 1) := by decide +kernel
theorem dX5_ranksAhead_10 : decode cX5_ranksAhead 10 = .ok (.bipush 8, 2) := by decide +kernel
theorem dX5_ranksAhead_12 : decode cX5_ranksAhead 12 = .ok (.invokestatic 54, 3) := by decide +kernel
theorem dX5_ranksAhead_15 : decode cX5_ranksAhead 15 = .ok (.ifCond .ne 5, 3) := by decide +kernel
theorem dX5_ranksAhead_18 : decode cX5_ranksAhead 18 = .ok (.iconst 0, 1) := by decide +kernel
theorem dX5_ranksAhead_19 : decode cX5_ranksAhead 19 = .ok (.ireturn, 1) := by decide +kernel
theorem dX5_ranksAhead_20 : decode cX5_ranksAhead 20 = .ok (.aload_n 0, 1) := by decide +kernel
theorem dX5_ranksAhead_21 : decode cX5_ranksAhead 21 = .ok (.getfield 41, 3) := by decide +kernel
theorem dX5_ranksAhead_24 : decode cX5_ranksAhead 24 = .ok (.iload_n 1, 1) := by decide +kernel
theorem dX5_ranksAhead_25 : decode cX5_ranksAhead 25 = .ok (.iaload, 1) := by decide +kernel
theorem dX5_ranksAhead_26 : decode cX5_ranksAhead 26 = .ok (.aload_n 0, 1) := by decide +kernel
theorem dX5_ranksAhead_27 : decode cX5_ranksAhead 27 = .ok (.getfield 41, 3) := by decide +kernel
theorem dX5_ranksAhead_30 : decode cX5_ranksAhead 30 = .ok (.iload_n 2, 1) := by decide +kernel
theorem dX5_ranksAhead_31 : decode cX5_ranksAhead 31 = .ok (.iaload, 1) := by decide +kernel
theorem dX5_ranksAhead_32 : decode cX5_ranksAhead 32 = .ok (.if_icmp .eq 24, 3) := by decide +kernel
theorem dX5_ranksAhead_35 : decode cX5_ranksAhead 35 = .ok (.aload_n 0, 1) := by decide +kernel
theorem dX5_ranksAhead_36 : decode cX5_ranksAhead 36 = .ok (.getfield 41, 3) := by decide +kernel
theorem dX5_ranksAhead_39 : decode cX5_ranksAhead 39 = .ok (.iload_n 1, 1) := by decide +kernel
theorem dX5_ranksAhead_40 : decode cX5_ranksAhead 40 = .ok (.iaload, 1) := by decide +kernel
theorem dX5_ranksAhead_41 : decode cX5_ranksAhead 41 = .ok (.aload_n 0, 1) := by decide +kernel
theorem dX5_ranksAhead_42 : decode cX5_ranksAhead 42 = .ok (.getfield 41, 3) := by decide +kernel
theorem dX5_ranksAhead_45 : decode cX5_ranksAhead 45 = .ok (.iload_n 2, 1) := by decide +kernel
theorem dX5_ranksAhead_46 : decode cX5_ranksAhead 46 = .ok (.iaload, 1) := by decide +kernel
theorem dX5_ranksAhead_47 : decode cX5_ranksAhead 47 = .ok (.if_icmp .le 7, 3) := by decide +kernel
theorem dX5_ranksAhead_50 : decode cX5_ranksAhead 50 = .ok (.iconst 1, 1) := by decide +kernel
theorem dX5_ranksAhead_51 : decode cX5_ranksAhead 51 = .ok (.goto 4, 3) := by decide +kernel
theorem dX5_ranksAhead_54 : decode cX5_ranksAhead 54 = .ok (.iconst 0, 1) := by decide +kernel
theorem dX5_ranksAhead_55 : decode cX5_ranksAhead 55 = .ok (.ireturn, 1) := by decide +kernel
theorem dX5_ranksAhead_56 : decode cX5_ranksAhead 56 = .ok (.aload_n 0, 1) := by decide +kernel
theorem dX5_ranksAhead_57 : decode cX5_ranksAhead 57 = .ok (.getfield 44, 3) := by decide +kernel
theorem dX5_ranksAhead_60 : decode cX5_ranksAhead 60 = .ok (.iload_n 1, 1) := by decide +kernel
theorem dX5_ranksAhead_61 : decode cX5_ranksAhead 61 = .ok (.iaload, 1) := by decide +kernel
theorem dX5_ranksAhead_62 : decode cX5_ranksAhead 62 = .ok (.aload_n 0, 1) := by decide +kernel
theorem dX5_ranksAhead_63 : decode cX5_ranksAhead 63 = .ok (.getfield 44, 3) := by decide +kernel
theorem dX5_ranksAhead_66 : decode cX5_ranksAhead 66 = .ok (.iload_n 2, 1) := by decide +kernel
theorem dX5_ranksAhead_67 : decode cX5_ranksAhead 67 = .ok (.iaload, 1) := by decide +kernel
theorem dX5_ranksAhead_68 : decode cX5_ranksAhead 68 = .ok (.if_icmp .eq 24, 3) := by decide +kernel
theorem dX5_ranksAhead_71 : decode cX5_ranksAhead 71 = .ok (.aload_n 0, 1) := by decide +kernel
theorem dX5_ranksAhead_72 : decode cX5_ranksAhead 72 = .ok (.getfield 44, 3) := by decide +kernel
theorem dX5_ranksAhead_75 : decode cX5_ranksAhead 75 = .ok (.iload_n 1, 1) := by decide +kernel
theorem dX5_ranksAhead_76 : decode cX5_ranksAhead 76 = .ok (.iaload, 1) := by decide +kernel
theorem dX5_ranksAhead_77 : decode cX5_ranksAhead 77 = .ok (.aload_n 0, 1) := by decide +kernel
theorem dX5_ranksAhead_78 : decode cX5_ranksAhead 78 = .ok (.getfield 44, 3) := by decide +kernel
theorem dX5_ranksAhead_81 : decode cX5_ranksAhead 81 = .ok (.iload_n 2, 1) := by decide +kernel
theorem dX5_ranksAhead_82 : decode cX5_ranksAhead 82 = .ok (.iaload, 1) := by decide +kernel
theorem dX5_ranksAhead_83 : decode cX5_ranksAhead 83 = .ok (.if_icmp .le 7, 3) := by decide +kernel
theorem dX5_ranksAhead_86 : decode cX5_ranksAhead 86 = .ok (.iconst 1, 1) := by decide +kernel
theorem dX5_ranksAhead_87 : decode cX5_ranksAhead 87 = .ok (.goto 4, 3) := by decide +kernel
theorem dX5_ranksAhead_90 : decode cX5_ranksAhead 90 = .ok (.iconst 0, 1) := by decide +kernel
theorem dX5_ranksAhead_91 : decode cX5_ranksAhead 91 = .ok (.ireturn, 1) := by decide +kernel
theorem dX5_ranksAhead_92 : decode cX5_ranksAhead 92 = .ok (.iload_n 1, 1) := by decide +kernel
theorem dX5_ranksAhead_93 : decode cX5_ranksAhead 93 = .ok (.iload_n 2, 1) := by decide +kernel
theorem dX5_ranksAhead_94 : decode cX5_ranksAhead 94 = .ok (.if_icmp .ge 7, 3) := by decide +kernel
theorem dX5_ranksAhead_97 : decode cX5_ranksAhead 97 = .ok (.iconst 1, 1) := by decide +kernel
theorem dX5_ranksAhead_98 : decode cX5_ranksAhead 98 = .ok (.goto 4, 3) := by decide +kernel
theorem dX5_ranksAhead_101 : decode cX5_ranksAhead 101 = .ok (.iconst 0, 1) := by decide +kernel
theorem dX5_ranksAhead_102 : decode cX5_ranksAhead 102 = .ok (.ireturn, 1) := by decide +kernel
theorem dX5_signOfOne_0 : decode cX5_signOfOne 0 = .ok (.iload_n 1, 1) := by decide +kernel
theorem dX5_signOfOne_1 : decode cX5_signOfOne 1 = .ok (.iconst (-1), 1) := by decide +kernel
theorem dX5_signOfOne_2 : decode cX5_signOfOne 2 = .ok (.if_icmp .ne 5, 3) := by decide +kernel
theorem dX5_signOfOne_5 : decode cX5_signOfOne 5 = .ok (.iconst 1, 1) := by decide +kernel
theorem dX5_signOfOne_6 : decode cX5_signOfOne 6 = .ok (.ireturn, 1) := by decide +kernel
theorem dX5_signOfOne_7 : decode cX5_signOfOne 7 = .ok (.iload_n 1, 1) := by decide +kernel
theorem dX5_signOfOne_8 : decode cX5_signOfOne 8 = .ok (.ifCond .ne 7, 3) := by decide +kernel
theorem dX5_signOfOne_11 : decode cX5_signOfOne 11 = .ok (.iload_n 0, 1) := by decide +kernel
theorem dX5_signOfOne_12 : decode cX5_signOfOne 12 = .ok (.goto 5, 3) := by decide +kernel
theorem dX5_signOfOne_15 : decode cX5_signOfOne 15 = .ok (.bipush (-9), 2) := by decide +kernel
theorem dX5_signOfOne_17 : decode cX5_signOfOne 17 = .ok (.ireturn, 1) := by decide +kernel
set_option maxRecDepth 20000 in
theorem ggX5_signOfSet_J6_bitCount_0f7a4 : GoodIn wsX5_signOfSet wsJ6_bitCount_0f7a4 := goodIn_r _ [4, 5, 6, 7] (by decide +kernel) (by decide +kernel)
set_option maxRecDepth 20000 in
theorem gX5_signOfSet_J6_bitCount_0f7a4 : GoodIn wsX5_signOfSet (va_wsS RX5 188 yJ6_bitCount_0f7a4 wsJ6_bitCount_0f7a4) := goodIn_app (goodIn_of _ (by decide +kernel)) ggX5_signOfSet_J6_bitCount_0f7a4
set_option maxRecDepth 20000 in
theorem ggX5_signOfSet_X5_memberOf : GoodIn wsX5_signOfSet wsX5_memberOf := goodIn_r _ [11, 12, 13, 10, 14] (by decide +kernel) (by decide +kernel)
set_option maxRecDepth 20000 in
theorem gX5_signOfSet_X5_memberOf : GoodIn wsX5_signOfSet (va_wsS RX5 249 yX5_memberOf wsX5_memberOf) := goodIn_app (goodIn_of _ (by decide +kernel)) ggX5_signOfSet_X5_memberOf
theorem dX5_signOfSet_0 : decode cX5_signOfSet 0 = .ok (.iconst 2, 1) := by decide +kernel
theorem dX5_signOfSet_1 : decode cX5_signOfSet 1 = .ok (.iload_n 0, 1) := by decide +kernel
theorem dX5_signOfSet_2 : decode cX5_signOfSet 2 = .ok (.invokestatic 188, 3) := by decide +kernel
theorem dX5_signOfSet_5 : decode cX5_signOfSet 5 = .ok (.imul, 1) := by decide +kernel
theorem dX5_signOfSet_6 : decode cX5_signOfSet 6 = .ok (.iconst 1, 1) := by decide +kernel
theorem dX5_signOfSet_7 : decode cX5_signOfSet 7 = .ok (.isub, 1) := by decide +kernel
theorem dX5_signOfSet_8 : decode cX5_signOfSet 8 = .ok (.istore_n 2, 1) := by decide +kernel
theorem dX5_signOfSet_9 : decode cX5_signOfSet 9 = .ok (.iload_n 1, 1) := by decide +kernel
theorem dX5_signOfSet_10 : decode cX5_signOfSet 10 = .ok (.iconst (-1), 1) := by decide +kernel
theorem dX5_signOfSet_11 : decode cX5_signOfSet 11 = .ok (.if_icmp .ne 5, 3) := by decide +kernel
theorem dX5_signOfSet_14 : decode cX5_signOfSet 14 = .ok (.iload_n 2, 1) := by decide +kernel
theorem dX5_signOfSet_15 : decode cX5_signOfSet 15 = .ok (.ireturn, 1) := by decide +kernel
theorem dX5_signOfSet_16 : decode cX5_signOfSet 16 = .ok (.iload_n 1, 1) := by decide +kernel
theorem dX5_signOfSet_17 : decode cX5_signOfSet 17 = .ok (.iload_n 2, 1) := by decide +kernel
theorem dX5_signOfSet_18 : decode cX5_signOfSet 18 = .ok (.if_icmp .lt 6, 3) := by decide +kernel
theorem dX5_signOfSet_21 : decode cX5_signOfSet 21 = .ok (.bipush (-9), 2) := by decide +kernel
theorem dX5_signOfSet_23 : decode cX5_signOfSet 23 = .ok (.ireturn, 1) := by decide +kernel
theorem dX5_signOfSet_24 : decode cX5_signOfSet 24 = .ok (.iload_n 1, 1) := by decide +kernel
theorem dX5_signOfSet_25 : decode cX5_signOfSet 25 = .ok (.iconst 2, 1) := by decide +kernel
theorem dX5_signOfSet_26 : decode cX5_signOfSet 26 = .ok (.irem, 1) := by decide +kernel
theorem dX5_signOfSet_27 : decode cX5_signOfSet 27 = .ok (.iconst 1, 1) := by decide +kernel
theorem dX5_signOfSet_28 : decode cX5_signOfSet 28 = .ok (.if_icmp .ne 8, 3) := by decide +kernel
theorem dX5_signOfSet_31 : decode cX5_signOfSet 31 = .ok (.bipush 47, 2) := by decide +kernel
theorem dX5_signOfSet_33 : decode cX5_signOfSet 33 = .ok (.goto 13, 3) := by decide +kernel
theorem dX5_signOfSet_36 : decode cX5_signOfSet 36 = .ok (.bipush 65, 2) := by decide +kernel
theorem dX5_signOfSet_38 : decode cX5_signOfSet 38 = .ok (.iload_n 0, 1) := by decide +kernel
theorem dX5_signOfSet_39 : decode cX5_signOfSet 39 = .ok (.iload_n 1, 1) := by decide +kernel
theorem dX5_signOfSet_40 : decode cX5_signOfSet 40 = .ok (.iconst 2, 1) := by decide +kernel
theorem dX5_signOfSet_41 : decode cX5_signOfSet 41 = .ok (.idiv, 1) := by decide +kernel
theorem dX5_signOfSet_42 : decode cX5_signOfSet 42 = .ok (.invokestatic 249, 3) := by decide +kernel
theorem dX5_signOfSet_45 : decode cX5_signOfSet 45 = .ok (.iadd, 1) := by decide +kernel
theorem dX5_signOfSet_46 : decode cX5_signOfSet 46 = .ok (.ireturn, 1) := by decide +kernel
set_option maxRecDepth 20000 in
theorem ggX5_memberOf_X5_bitOf : GoodIn wsX5_memberOf wsX5_bitOf := goodIn_r _ [4] (by decide +kernel) (by decide +kernel)
set_option maxRecDepth 20000 in
theorem gX5_memberOf_X5_bitOf : GoodIn wsX5_memberOf (va_wsS RX5 83 yX5_bitOf wsX5_bitOf) := goodIn_app (goodIn_of _ (by decide +kernel)) ggX5_memberOf_X5_bitOf
theorem dX5_memberOf_0 : decode cX5_memberOf 0 = .ok (.iconst 0, 1) := by decide +kernel
theorem dX5_memberOf_1 : decode cX5_memberOf 1 = .ok (.istore_n 2, 1) := by decide +kernel
theorem dX5_memberOf_2 : decode cX5_memberOf 2 = .ok (.iconst 0, 1) := by decide +kernel
theorem dX5_memberOf_3 : decode cX5_memberOf 3 = .ok (.istore_n 3, 1) := by decide +kernel
theorem dX5_memberOf_4 : decode cX5_memberOf 4 = .ok (.iload_n 3, 1) := by decide +kernel
theorem dX5_memberOf_5 : decode cX5_memberOf 5 = .ok (.bipush 8, 2) := by decide +kernel
theorem dX5_memberOf_7 : decode cX5_memberOf 7 = .ok (.if_icmp .ge 28, 3) := by decide +kernel
theorem dX5_memberOf_10 : decode cX5_memberOf 10 = .ok (.iload_n 0, 1) := by decide +kernel
theorem dX5_memberOf_11 : decode cX5_memberOf 11 = .ok (.iload_n 3, 1) := by decide +kernel
theorem dX5_memberOf_12 : decode cX5_memberOf 12 = .ok (.invokestatic 83, 3) := by decide +kernel
theorem dX5_memberOf_15 : decode cX5_memberOf 15 = .ok (.iand, 1) := by decide +kernel
theorem dX5_memberOf_16 : decode cX5_memberOf 16 = .ok (.ifCond .eq 13, 3) := by decide +kernel
theorem dX5_memberOf_19 : decode cX5_memberOf 19 = .ok (.iload_n 2, 1) := by decide +kernel
theorem dX5_memberOf_20 : decode cX5_memberOf 20 = .ok (.iload_n 1, 1) := by decide +kernel
theorem dX5_memberOf_21 : decode cX5_memberOf 21 = .ok (.if_icmp .ne 5, 3) := by decide +kernel
theorem dX5_memberOf_24 : decode cX5_memberOf 24 = .ok (.iload_n 3, 1) := by decide +kernel
theorem dX5_memberOf_25 : decode cX5_memberOf 25 = .ok (.ireturn, 1) := by decide +kernel
theorem dX5_memberOf_26 : decode cX5_memberOf 26 = .ok (.iinc 2 1, 3) := by decide +kernel
theorem dX5_memberOf_29 : decode cX5_memberOf 29 = .ok (.iinc 3 1, 3) := by decide +kernel
theorem dX5_memberOf_32 : decode cX5_memberOf 32 = .ok (.goto (-28), 3) := by decide +kernel
theorem dX5_memberOf_35 : decode cX5_memberOf 35 = .ok (.bipush (-9), 2) := by decide +kernel
theorem dX5_memberOf_37 : decode cX5_memberOf 37 = .ok (.ireturn, 1) := by decide +kernel
theorem dX6_init_0 : decode cX6_init 0 = .ok (.aload_n 0, 1) := by decide +kernel
theorem dX6_init_1 : decode cX6_init 1 = .ok (.invokespecial 1, 3) := by decide +kernel
theorem dX6_init_4 : decode cX6_init 4 = .ok (.aload_n 0, 1) := by decide +kernel
theorem dX6_init_5 : decode cX6_init 5 = .ok (.bipush 8, 2) := by decide +kernel
theorem dX6_init_7 : decode cX6_init 7 = .ok (.newarray .int, 2) := by decide +kernel
theorem dX6_init_9 : decode cX6_init 9 = .ok (.putfield 7, 3) := by decide +kernel
theorem dX6_init_12 : decode cX6_init 12 = .ok (.aload_n 0, 1) := by decide +kernel
theorem dX6_init_13 : decode cX6_init 13 = .ok (.bipush 15, 2) := by decide +kernel
theorem dX6_init_15 : decode cX6_init 15 = .ok (.putfield 13, 3) := by decide +kernel
theorem dX6_init_18 : decode cX6_init 18 = .ok (.aload_n 0, 1) := by decide +kernel
theorem dX6_init_19 : decode cX6_init 19 = .ok (.bipush 12, 2) := by decide +kernel
theorem dX6_init_21 : decode cX6_init 21 = .ok (.newarray .int, 2) := by decide +kernel
theorem dX6_init_23 : decode cX6_init 23 = .ok (.putfield 17, 3) := by decide +kernel
theorem dX6_init_26 : decode cX6_init 26 = .ok (.aload_n 0, 1) := by decide +kernel
theorem dX6_init_27 : decode cX6_init 27 = .ok (.bipush 16, 2) := by decide +kernel
theorem dX6_init_29 : decode cX6_init 29 = .ok (.newarray .int, 2) := by decide +kernel
theorem dX6_init_31 : decode cX6_init 31 = .ok (.putfield 20, 3) := by decide +kernel
theorem dX6_init_34 : decode cX6_init 34 = .ok (.aload_n 0, 1) := by decide +kernel
theorem dX6_init_35 : decode cX6_init 35 = .ok (.sipush 192, 3) := by decide +kernel
theorem dX6_init_38 : decode cX6_init 38 = .ok (.newarray .int, 2) := by decide +kernel
theorem dX6_init_40 : decode cX6_init 40 = .ok (.putfield 23, 3) := by decide +kernel
theorem dX6_init_43 : decode cX6_init 43 = .ok (.aload_n 0, 1) := by decide +kernel
theorem dX6_init_44 : decode cX6_init 44 = .ok (.sipush 192, 3) := by decide +kernel
theorem dX6_init_47 : decode cX6_init 47 = .ok (.newarray .int, 2) := by decide +kernel
theorem dX6_init_49 : decode cX6_init 49 = .ok (.putfield 26, 3) := by decide +kernel
theorem dX6_init_52 : decode cX6_init 52 = .ok (.aload_n 0, 1) := by decide +kernel
theorem dX6_init_53 : decode cX6_init 53 = .ok (.bipush 16, 2) := by decide +kernel
theorem dX6_init_55 : decode cX6_init 55 = .ok (.newarray .boolean, 2) := by decide +kernel
theorem dX6_init_57 : decode cX6_init 57 = .ok (.putfield 29, 3) := by decide +kernel
theorem dX6_init_60 : decode cX6_init 60 = .ok (.aload_n 0, 1) := by decide +kernel
theorem dX6_init_61 : decode cX6_init 61 = .ok (.bipush 16, 2) := by decide +kernel
theorem dX6_init_63 : decode cX6_init 63 = .ok (.newarray .int, 2) := by decide +kernel
theorem dX6_init_65 : decode cX6_init 65 = .ok (.putfield 33, 3) := by decide +kernel
theorem dX6_init_68 : decode cX6_init 68 = .ok (.aload_n 0, 1) := by decide +kernel
theorem dX6_init_69 : decode cX6_init 69 = .ok (.bipush 16, 2) := by decide +kernel
theorem dX6_init_71 : decode cX6_init 71 = .ok (.newarray .int, 2) := by decide +kernel
theorem dX6_init_73 : decode cX6_init 73 = .ok (.putfield 36, 3) := by decide +kernel
theorem dX6_init_76 : decode cX6_init 76 = .ok (.aload_n 0, 1) := by decide +kernel
theorem dX6_init_77 : decode cX6_init 77 = .ok (.bipush 16, 2) := by decide +kernel
theorem dX6_init_79 : decode cX6_init 79 = .ok (.newarray .int, 2) := by decide +kernel
theorem dX6_init_81 : decode cX6_init 81 = .ok (.putfield 39, 3) := by decide +kernel
theorem dX6_init_84 : decode cX6_init 84 = .ok (.aload_n 0, 1) := by decide +kernel
theorem dX6_init_85 : decode cX6_init 85 = .ok (.bipush 16, 2) := by decide +kernel
theorem dX6_init_87 : decode cX6_init 87 = .ok (.newarray .int, 2) := by decide +kernel
theorem dX6_init_89 : decode cX6_init 89 = .ok (.putfield 42, 3) := by decide +kernel
theorem dX6_init_92 : decode cX6_init 92 = .ok (.aload_n 0, 1) := by decide +kernel
theorem dX6_init_93 : decode cX6_init 93 = .ok (.bipush 16, 2) := by decide +kernel
theorem dX6_init_95 : decode cX6_init 95 = .ok (.newarray .int, 2) := by decide +kernel
theorem dX6_init_97 : decode cX6_init 97 = .ok (.putfield 45, 3) := by decide +kernel
theorem dX6_init_100 : decode cX6_init 100 = .ok (.aload_n 0, 1) := by decide +kernel
theorem dX6_init_101 : decode cX6_init 101 = .ok (.bipush 16, 2) := by decide +kernel
theorem dX6_init_103 : decode cX6_init 103 = .ok (.newarray .int, 2) := by decide +kernel
theorem dX6_init_105 : decode cX6_init 105 = .ok (.putfield 48, 3) := by decide +kernel
theorem dX6_init_108 : decode cX6_init 108 = .ok (.aload_n 0, 1) := by decide +kernel
theorem dX6_init_109 : decode cX6_init 109 = .ok (.sipush 128, 3) := by decide +kernel
theorem dX6_init_112 : decode cX6_init 112 = .ok (.newarray .long, 2) := by decide +kernel
theorem dX6_init_114 : decode cX6_init 114 = .ok (.putfield 51, 3) := by decide +kernel
theorem dX6_init_117 : decode cX6_init 117 = .ok (.aload_n 0, 1) := by decide +kernel
theorem dX6_init_118 : decode cX6_init 118 = .ok (.sipush 128, 3) := by decide +kernel
theorem dX6_init_121 : decode cX6_init 121 = .ok (.newarray .long, 2) := by decide +kernel
theorem dX6_init_123 : decode cX6_init 123 = .ok (.putfield 55, 3) := by decide +kernel
theorem dX6_init_126 : decode cX6_init 126 = .ok (.aload_n 0, 1) := by decide +kernel
theorem dX6_init_127 : decode cX6_init 127 = .ok (.bipush 16, 2) := by decide +kernel
theorem dX6_init_129 : decode cX6_init 129 = .ok (.newarray .int, 2) := by decide +kernel
theorem dX6_init_131 : decode cX6_init 131 = .ok (.putfield 58, 3) := by decide +kernel
theorem dX6_init_134 : decode cX6_init 134 = .ok (.aload_n 0, 1) := by decide +kernel
theorem dX6_init_135 : decode cX6_init 135 = .ok (.bipush 16, 2) := by decide +kernel
theorem dX6_init_137 : decode cX6_init 137 = .ok (.newarray .int, 2) := by decide +kernel
theorem dX6_init_139 : decode cX6_init 139 = .ok (.putfield 61, 3) := by decide +kernel
theorem dX6_init_142 : decode cX6_init 142 = .ok (.iconst 0, 1) := by decide +kernel
theorem dX6_init_143 : decode cX6_init 143 = .ok (.istore_n 1, 1) := by decide +kernel
theorem dX6_init_144 : decode cX6_init 144 = .ok (.iload_n 1, 1) := by decide +kernel
theorem dX6_init_145 : decode cX6_init 145 = .ok (.bipush 8, 2) := by decide +kernel
theorem dX6_init_147 : decode cX6_init 147 = .ok (.if_icmp .ge 17, 3) := by decide +kernel
theorem dX6_init_150 : decode cX6_init 150 = .ok (.aload_n 0, 1) := by decide +kernel
theorem dX6_init_151 : decode cX6_init 151 = .ok (.getfield 7, 3) := by decide +kernel
theorem dX6_init_154 : decode cX6_init 154 = .ok (.iload_n 1, 1) := by decide +kernel
theorem dX6_init_155 : decode cX6_init 155 = .ok (.bipush (-9), 2) := by decide +kernel
theorem dX6_init_157 : decode cX6_init 157 = .ok (.iastore, 1) := by decide +kernel
theorem dX6_init_158 : decode cX6_init 158 = .ok (.iinc 1 1, 3) := by decide +kernel
theorem dX6_init_161 : decode cX6_init 161 = .ok (.goto (-17), 3) := by decide +kernel
theorem dX6_init_164 : decode cX6_init 164 = .ok (.return_, 1) := by decide +kernel
theorem dX6_within_0 : decode cX6_within 0 = .ok (.iload_n 0, 1) := by decide +kernel
theorem dX6_within_1 : decode cX6_within 1 = .ok (.iload_n 1, 1) := by decide +kernel
theorem dX6_within_2 : decode cX6_within 2 = .ok (.if_icmp .lt 12, 3) := by decide +kernel
theorem dX6_within_5 : decode cX6_within 5 = .ok (.iload_n 0, 1) := by decide +kernel
theorem dX6_within_6 : decode cX6_within 6 = .ok (.iload_n 2, 1) := by decide +kernel
theorem dX6_within_7 : decode cX6_within 7 = .ok (.if_icmp .gt 7, 3) := by decide +kernel
theorem dX6_within_10 : decode cX6_within 10 = .ok (.iconst 1, 1) := by decide +kernel
theorem dX6_within_11 : decode cX6_within 11 = .ok (.goto 4, 3) := by decide +kernel
theorem dX6_within_14 : decode cX6_within 14 = .ok (.iconst 0, 1) := by decide +kernel
theorem dX6_within_15 : decode cX6_within 15 = .ok (.ireturn, 1) := by decide +kernel
theorem dX6_has_0 : decode cX6_has 0 = .ok (.iload_n 0, 1) := by decide +kernel
theorem dX6_has_1 : decode cX6_has 1 = .ok (.iload_n 1, 1) := by decide +kernel
end
section
theorem dX6_has_2 : decode cX6_has 2 = .ok (.ishr, 1) := by decide +kernel
theorem dX6_has_3 : decode cX6_has 3 = .ok (.iconst 1, 1) := by decide +kernel
theorem dX6_has_4 : decode cX6_has 4 = .ok (.iand, 1) := by decide +kernel
theorem dX6_has_5 : decode cX6_has 5 = .ok (.iconst 1, 1) := by decide +kernel
theorem dX6_has_6 : decode cX6_has 6 = .ok (.if_icmp .ne 7, 3) := by decide +kernel
theorem dX6_has_9 : decode cX6_has 9 = .ok (.iconst 1, 1) := by decide +kernel
theorem dX6_has_10 : decode cX6_has 10 = .ok (.goto 4, 3) := by decide +kernel
theorem dX6_has_13 : decode cX6_has 13 = .ok (.iconst 0, 1) := by decide +kernel
theorem dX6_has_14 : decode cX6_has 14 = .ok (.ireturn, 1) := by decide +kernel
theorem dX6_size_0 : decode cX6_size 0 = .ok (.iconst 0, 1) := by decide +kernel
theorem dX6_size_1 : decode cX6_size 1 = .ok (.istore_n 1, 1) := by decide +kernel
theorem dX6_size_2 : decode cX6_size 2 = .ok (.iconst 0, 1) := by decide +kernel
theorem dX6_size_3 : decode cX6_size 3 = .ok (.istore_n 2, 1) := by decide +kernel
theorem dX6_size_4 : decode cX6_size 4 = .ok (.iload_n 2, 1) := by decide +kernel
theorem dX6_size_5 : decode cX6_size 5 = .ok (.bipush 8, 2) := by decide +kernel
theorem dX6_size_7 : decode cX6_size 7 = .ok (.if_icmp .ge 17, 3) := by decide +kernel
theorem dX6_size_10 : decode cX6_size 10 = .ok (.iload_n 1, 1) := by decide +kernel
theorem dX6_size_11 : decode cX6_size 11 = .ok (.iload_n 0, 1) := by decide +kernel
theorem dX6_size_12 : decode cX6_size 12 = .ok (.iload_n 2, 1) := by decide +kernel
theorem dX6_size_13 : decode cX6_size 13 = .ok (.ishr, 1) := by decide +kernel
theorem dX6_size_14 : decode cX6_size 14 = .ok (.iconst 1, 1) := by decide +kernel
theorem dX6_size_15 : decode cX6_size 15 = .ok (.iand, 1) := by decide +kernel
theorem dX6_size_16 : decode cX6_size 16 = .ok (.iadd, 1) := by decide +kernel
theorem dX6_size_17 : decode cX6_size 17 = .ok (.istore_n 1, 1) := by decide +kernel
theorem dX6_size_18 : decode cX6_size 18 = .ok (.iinc 2 1, 3) := by decide +kernel
theorem dX6_size_21 : decode cX6_size 21 = .ok (.goto (-17), 3) := by decide +kernel
theorem dX6_size_24 : decode cX6_size 24 = .ok (.iload_n 1, 1) := by decide +kernel
theorem dX6_size_25 : decode cX6_size 25 = .ok (.ireturn, 1) := by decide +kernel
set_option maxRecDepth 20000 in
theorem ggX6_isThere_X6_within : GoodIn wsX6_isThere wsX6_within := goodIn_r _ [5] (by decide +kernel) (by decide +kernel)
set_option maxRecDepth 20000 in
theorem gX6_isThere_X6_within : GoodIn wsX6_isThere (va_wsS RX6 64 yX6_within wsX6_within) := goodIn_app (goodIn_of _ (by decide +kernel)) ggX6_isThere_X6_within
theorem dX6_isThere_0 : decode cX6_isThere 0 = .ok (.iload_n 1, 1) := by decide +kernel
theorem dX6_isThere_1 : decode cX6_isThere 1 = .ok (.iconst 0, 1) := by decide +kernel
theorem dX6_isThere_2 : decode cX6_isThere 2 = .ok (.bipush 7, 2) := by decide +kernel
theorem dX6_isThere_4 : decode cX6_isThere 4 = .ok (.invokestatic 64, 3) := by decide +kernel
theorem dX6_isThere_7 : decode cX6_isThere 7 = .ok (.ifCond .eq 18, 3) := by decide +kernel
theorem dX6_isThere_10 : decode cX6_isThere 10 = .ok (.aload_n 0, 1) := by decide +kernel
theorem dX6_isThere_11 : decode cX6_isThere 11 = .ok (.getfield 7, 3) := by decide +kernel
theorem dX6_isThere_14 : decode cX6_isThere 14 = .ok (.iload_n 1, 1) := by decide +kernel
theorem dX6_isThere_15 : decode cX6_isThere 15 = .ok (.iaload, 1) := by decide +kernel
theorem dX6_isThere_16 : decode cX6_isThere 16 = .ok (.bipush (-9), 2) := by decide +kernel
theorem dX6_isThere_18 : decode cX6_isThere 18 = .ok (.if_icmp .eq 7, 3) := by decide +kernel
theorem dX6_isThere_21 : decode cX6_isThere 21 = .ok (.iconst 1, 1) := by decide +kernel
theorem dX6_isThere_22 : decode cX6_isThere 22 = .ok (.goto 4, 3) := by decide +kernel
theorem dX6_isThere_25 : decode cX6_isThere 25 = .ok (.iconst 0, 1) := by decide +kernel
theorem dX6_isThere_26 : decode cX6_isThere 26 = .ok (.ireturn, 1) := by decide +kernel
theorem dX6_there_0 : decode cX6_there 0 = .ok (.iconst 0, 1) := by decide +kernel
theorem dX6_there_1 : decode cX6_there 1 = .ok (.istore_n 1, 1) := by decide +kernel
theorem dX6_there_2 : decode cX6_there 2 = .ok (.iconst 0, 1) := by decide +kernel
theorem dX6_there_3 : decode cX6_there 3 = .ok (.istore_n 2, 1) := by decide +kernel
theorem dX6_there_4 : decode cX6_there 4 = .ok (.iload_n 2, 1) := by decide +kernel
theorem dX6_there_5 : decode cX6_there 5 = .ok (.bipush 8, 2) := by decide +kernel
theorem dX6_there_7 : decode cX6_there 7 = .ok (.if_icmp .ge 30, 3) := by decide +kernel
theorem dX6_there_10 : decode cX6_there 10 = .ok (.iload_n 1, 1) := by decide +kernel
theorem dX6_there_11 : decode cX6_there 11 = .ok (.aload_n 0, 1) := by decide +kernel
theorem dX6_there_12 : decode cX6_there 12 = .ok (.getfield 7, 3) := by decide +kernel
theorem dX6_there_15 : decode cX6_there 15 = .ok (.iload_n 2, 1) := by decide +kernel
theorem dX6_there_16 : decode cX6_there 16 = .ok (.iaload, 1) := by decide +kernel
theorem dX6_there_17 : decode cX6_there 17 = .ok (.bipush (-9), 2) := by decide +kernel
theorem dX6_there_19 : decode cX6_there 19 = .ok (.if_icmp .eq 9, 3) := by decide +kernel
theorem dX6_there_22 : decode cX6_there 22 = .ok (.iconst 1, 1) := by decide +kernel
theorem dX6_there_23 : decode cX6_there 23 = .ok (.iload_n 2, 1) := by decide +kernel
theorem dX6_there_24 : decode cX6_there 24 = .ok (.ishl, 1) := by decide +kernel
theorem dX6_there_25 : decode cX6_there 25 = .ok (.goto 4, 3) := by decide +kernel
theorem dX6_there_28 : decode cX6_there 28 = .ok (.iconst 0, 1) := by decide +kernel
theorem dX6_there_29 : decode cX6_there 29 = .ok (.ior, 1) := by decide +kernel
theorem dX6_there_30 : decode cX6_there 30 = .ok (.istore_n 1, 1) := by decide +kernel
theorem dX6_there_31 : decode cX6_there 31 = .ok (.iinc 2 1, 3) := by decide +kernel
theorem dX6_there_34 : decode cX6_there 34 = .ok (.goto (-30), 3) := by decide +kernel
theorem dX6_there_37 : decode cX6_there 37 = .ok (.iload_n 1, 1) := by decide +kernel
theorem dX6_there_38 : decode cX6_there 38 = .ok (.ireturn, 1) := by decide +kernel
set_option maxRecDepth 20000 in
theorem ggX6_person_X6_within : GoodIn wsX6_person wsX6_within := goodIn_r _ [5] (by decide +kernel) (by decide +kernel)
set_option maxRecDepth 20000 in
theorem gX6_person_X6_within : GoodIn wsX6_person (va_wsS RX6 64 yX6_within wsX6_within) := goodIn_app (goodIn_of _ (by decide +kernel)) ggX6_person_X6_within
theorem dX6_person_0 : decode cX6_person 0 = .ok (.iload_n 1, 1) := by decide +kernel
theorem dX6_person_1 : decode cX6_person 1 = .ok (.iconst 0, 1) := by decide +kernel
theorem dX6_person_2 : decode cX6_person 2 = .ok (.bipush 7, 2) := by decide +kernel
theorem dX6_person_4 : decode cX6_person 4 = .ok (.invokestatic 64, 3) := by decide +kernel
theorem dX6_person_7 : decode cX6_person 7 = .ok (.ifCond .ne 5, 3) := by decide +kernel
theorem dX6_person_10 : decode cX6_person 10 = .ok (.iconst (-1), 1) := by decide +kernel
theorem dX6_person_11 : decode cX6_person 11 = .ok (.ireturn, 1) := by decide +kernel
theorem dX6_person_12 : decode cX6_person 12 = .ok (.iload_n 2, 1) := by decide +kernel
theorem dX6_person_13 : decode cX6_person 13 = .ok (.iconst 0, 1) := by decide +kernel
theorem dX6_person_14 : decode cX6_person 14 = .ok (.iconst 2, 1) := by decide +kernel
theorem dX6_person_15 : decode cX6_person 15 = .ok (.invokestatic 64, 3) := by decide +kernel
theorem dX6_person_18 : decode cX6_person 18 = .ok (.ifCond .ne 6, 3) := by decide +kernel
theorem dX6_person_21 : decode cX6_person 21 = .ok (.bipush (-2), 2) := by decide +kernel
theorem dX6_person_23 : decode cX6_person 23 = .ok (.ireturn, 1) := by decide +kernel
theorem dX6_person_24 : decode cX6_person 24 = .ok (.aload_n 0, 1) := by decide +kernel
theorem dX6_person_25 : decode cX6_person 25 = .ok (.getfield 7, 3) := by decide +kernel
theorem dX6_person_28 : decode cX6_person 28 = .ok (.iload_n 1, 1) := by decide +kernel
theorem dX6_person_29 : decode cX6_person 29 = .ok (.iaload, 1) := by decide +kernel
theorem dX6_person_30 : decode cX6_person 30 = .ok (.istore_n 3, 1) := by decide +kernel
theorem dX6_person_31 : decode cX6_person 31 = .ok (.aload_n 0, 1) := by decide +kernel
theorem dX6_person_32 : decode cX6_person 32 = .ok (.getfield 7, 3) := by decide +kernel
theorem dX6_person_35 : decode cX6_person 35 = .ok (.iload_n 1, 1) := by decide +kernel
theorem dX6_person_36 : decode cX6_person 36 = .ok (.iload_n 2, 1) := by decide +kernel
theorem dX6_person_37 : decode cX6_person 37 = .ok (.iastore, 1) := by decide +kernel
theorem dX6_person_38 : decode cX6_person 38 = .ok (.iload_n 3, 1) := by decide +kernel
theorem dX6_person_39 : decode cX6_person 39 = .ok (.ireturn, 1) := by decide +kernel
theorem dX6_isNamed_0 : decode cX6_isNamed 0 = .ok (.iconst 0, 1) := by decide +kernel
theorem dX6_isNamed_1 : decode cX6_isNamed 1 = .ok (.istore_n 2, 1) := by decide +kernel
theorem dX6_isNamed_2 : decode cX6_isNamed 2 = .ok (.iload_n 2, 1) := by decide +kernel
theorem dX6_isNamed_3 : decode cX6_isNamed 3 = .ok (.aload_n 0, 1) := by decide +kernel
theorem dX6_isNamed_4 : decode cX6_isNamed 4 = .ok (.getfield 68, 3) := by decide +kernel
theorem dX6_isNamed_7 : decode cX6_isNamed 7 = .ok (.if_icmp .ge 44, 3) := by decide +kernel
theorem dX6_isNamed_10 : decode cX6_isNamed 10 = .ok (.iconst 0, 1) := by decide +kernel
theorem dX6_isNamed_11 : decode cX6_isNamed 11 = .ok (.istore_n 3, 1) := by decide +kernel
theorem dX6_isNamed_12 : decode cX6_isNamed 12 = .ok (.iload_n 3, 1) := by decide +kernel
theorem dX6_isNamed_13 : decode cX6_isNamed 13 = .ok (.aload_n 0, 1) := by decide +kernel
theorem dX6_isNamed_14 : decode cX6_isNamed 14 = .ok (.getfield 20, 3) := by decide +kernel
theorem dX6_isNamed_17 : decode cX6_isNamed 17 = .ok (.iload_n 2, 1) := by decide +kernel
theorem dX6_isNamed_18 : decode cX6_isNamed 18 = .ok (.iaload, 1) := by decide +kernel
theorem dX6_isNamed_19 : decode cX6_isNamed 19 = .ok (.if_icmp .ge 26, 3) := by decide +kernel
theorem dX6_isNamed_22 : decode cX6_isNamed 22 = .ok (.aload_n 0, 1) := by decide +kernel
theorem dX6_isNamed_23 : decode cX6_isNamed 23 = .ok (.getfield 26, 3) := by decide +kernel
theorem dX6_isNamed_26 : decode cX6_isNamed 26 = .ok (.bipush 12, 2) := by decide +kernel
theorem dX6_isNamed_28 : decode cX6_isNamed 28 = .ok (.iload_n 2, 1) := by decide +kernel
theorem dX6_isNamed_29 : decode cX6_isNamed 29 = .ok (.imul, 1) := by decide +kernel
theorem dX6_isNamed_30 : decode cX6_isNamed 30 = .ok (.iload_n 3, 1) := by decide +kernel
theorem dX6_isNamed_31 : decode cX6_isNamed 31 = .ok (.iadd, 1) := by decide +kernel
theorem dX6_isNamed_32 : decode cX6_isNamed 32 = .ok (.iaload, 1) := by decide +kernel
theorem dX6_isNamed_33 : decode cX6_isNamed 33 = .ok (.iload_n 1, 1) := by decide +kernel
theorem dX6_isNamed_34 : decode cX6_isNamed 34 = .ok (.if_icmp .ne 5, 3) := by decide +kernel
theorem dX6_isNamed_37 : decode cX6_isNamed 37 = .ok (.iconst 1, 1) := by decide +kernel
theorem dX6_isNamed_38 : decode cX6_isNamed 38 = .ok (.ireturn, 1) := by decide +kernel
theorem dX6_isNamed_39 : decode cX6_isNamed 39 = .ok (.iinc 3 1, 3) := by decide +kernel
theorem dX6_isNamed_42 : decode cX6_isNamed 42 = .ok (.goto (-30), 3) := by decide +kernel
theorem dX6_isNamed_45 : decode cX6_isNamed 45 = .ok (.iinc 2 1, 3) := by decide +kernel
theorem dX6_isNamed_48 : decode cX6_isNamed 48 = .ok (.goto (-46), 3) := by decide +kernel
theorem dX6_isNamed_51 : decode cX6_isNamed 51 = .ok (.iconst 0, 1) := by decide +kernel
theorem dX6_isNamed_52 : decode cX6_isNamed 52 = .ok (.ireturn, 1) := by decide +kernel
set_option maxRecDepth 20000 in
theorem ggX6_away_X6_isThere : GoodIn wsX6_away wsX6_isThere := goodIn_r _ [8, 2, 9, 10, 7, 11, 69, 70, 71, 72, 73, 74, 75, 76, 77, 78, 79, 80, 81, 82, 83, 84, 85, 86, 87, 88, 89] (by decide +kernel) (by decide +kernel)
set_option maxRecDepth 20000 in
theorem gX6_away_X6_isThere : GoodIn wsX6_away (wsV RX6 71 RX6 yX6_isThere wsX6_isThere) := goodIn_app (goodIn_of _ (by decide +kernel)) ggX6_away_X6_isThere
set_option maxRecDepth 20000 in
theorem ggX6_away_X6_isNamed : GoodIn wsX6_away wsX6_isNamed := goodIn_r _ [15, 1, 16, 17, 69, 70, 71, 72, 73, 74, 75, 76, 77, 78, 79, 80, 81, 82, 83, 84, 85, 86, 87, 88, 89] (by decide +kernel) (by decide +kernel)
set_option maxRecDepth 20000 in
theorem gX6_away_X6_isNamed : GoodIn wsX6_away (wsV RX6 75 RX6 yX6_isNamed wsX6_isNamed) := goodIn_app (goodIn_of _ (by decide +kernel)) ggX6_away_X6_isNamed
set_option maxRecDepth 20000 in
theorem ggX6_away_X6_speaks : GoodIn wsX6_away wsX6_speaks := goodIn_r _ [21, 22, 23, 24, 7, 25, 16, 26, 69, 70, 71, 72, 73, 74, 75, 76, 77, 78, 79, 80, 81, 82, 83, 84, 85, 86, 87, 88, 89] (by decide +kernel) (by decide +kernel)
set_option maxRecDepth 20000 in
theorem gX6_away_X6_speaks : GoodIn wsX6_away (wsV RX6 78 RX6 yX6_speaks wsX6_speaks) := goodIn_app (goodIn_of _ (by decide +kernel)) ggX6_away_X6_speaks
set_option maxRecDepth 20000 in
theorem ggX6_away_X6_ownOf : GoodIn wsX6_away wsX6_ownOf := goodIn_r _ [30, 31, 16, 17, 32, 33, 34, 35, 36, 7, 37, 2, 38, 39, 40, 41, 26, 9, 10, 11, 42, 43, 44, 45, 46, 47, 48, 49, 50, 51, 52, 53, 54, 55, 56, 57, 58, 59, 60, 61, 62, 63, 64, 65, 66, 67, 68, 69, 70, 71, 72, 73, 74, 75, 76, 77, 78, 79, 80, 81, 82, 83, 84, 85, 86, 87, 88, 89] (by decide +kernel) (by decide +kernel)
set_option maxRecDepth 20000 in
theorem gX6_away_X6_ownOf : GoodIn wsX6_away (wsV RX6 81 RX6 yX6_ownOf wsX6_ownOf) := goodIn_app (goodIn_of _ (by decide +kernel)) ggX6_away_X6_ownOf
set_option maxRecDepth 20000 in
theorem ggX6_away_X6_has : GoodIn wsX6_away wsX6_has := goodIn_r _ [44] (by decide +kernel) (by decide +kernel)
set_option maxRecDepth 20000 in
theorem gX6_away_X6_has : GoodIn wsX6_away (va_wsS RX6 85 yX6_has wsX6_has) := goodIn_app (goodIn_of _ (by decide +kernel)) ggX6_away_X6_has
theorem dX6_away_0 : decode cX6_away 0 = .ok (.aload_n 0, 1) := by decide +kernel
theorem dX6_away_1 : decode cX6_away 1 = .ok (.iload_n 1, 1) := by decide +kernel
theorem dX6_away_2 : decode cX6_away 2 = .ok (.invokevirtual 71, 3) := by decide +kernel
theorem dX6_away_5 : decode cX6_away 5 = .ok (.ifCond .ne 5, 3) := by decide +kernel
theorem dX6_away_8 : decode cX6_away 8 = .ok (.iconst (-1), 1) := by decide +kernel
theorem dX6_away_9 : decode cX6_away 9 = .ok (.ireturn, 1) := by decide +kernel
theorem dX6_away_10 : decode cX6_away 10 = .ok (.aload_n 0, 1) := by decide +kernel
theorem dX6_away_11 : decode cX6_away 11 = .ok (.iload_n 1, 1) := by decide +kernel
theorem dX6_away_12 : decode cX6_away 12 = .ok (.invokevirtual 75, 3) := by decide +kernel
theorem dX6_away_15 : decode cX6_away 15 = .ok (.ifCond .eq 6, 3) := by decide +kernel
theorem dX6_away_18 : decode cX6_away 18 = .ok (.bipush (-3), 2) := by decide +kernel
theorem dX6_away_20 : decode cX6_away 20 = .ok (.ireturn, 1) := by decide +kernel
theorem dX6_away_21 : decode cX6_away 21 = .ok (.iconst 0, 1) := by decide +kernel
theorem dX6_away_22 : decode cX6_away 22 = .ok (.istore_n 2, 1) := by decide +kernel
theorem dX6_away_23 : decode cX6_away 23 = .ok (.iconst 0, 1) := by decide +kernel
theorem dX6_away_24 : decode cX6_away 24 = .ok (.istore_n 3, 1) := by decide +kernel
theorem dX6_away_25 : decode cX6_away 25 = .ok (.iload_n 3, 1) := by decide +kernel
theorem dX6_away_26 : decode cX6_away 26 = .ok (.aload_n 0, 1) := by decide +kernel
theorem dX6_away_27 : decode cX6_away 27 = .ok (.getfield 68, 3) := by decide +kernel
theorem dX6_away_30 : decode cX6_away 30 = .ok (.if_icmp .ge 37, 3) := by decide +kernel
theorem dX6_away_33 : decode cX6_away 33 = .ok (.iload_n 2, 1) := by decide +kernel
theorem dX6_away_34 : decode cX6_away 34 = .ok (.aload_n 0, 1) := by decide +kernel
theorem dX6_away_35 : decode cX6_away 35 = .ok (.iload_n 3, 1) := by decide +kernel
theorem dX6_away_36 : decode cX6_away 36 = .ok (.invokevirtual 78, 3) := by decide +kernel
theorem dX6_away_39 : decode cX6_away 39 = .ok (.ifCond .eq 19, 3) := by decide +kernel
theorem dX6_away_42 : decode cX6_away 42 = .ok (.aload_n 0, 1) := by decide +kernel
theorem dX6_away_43 : decode cX6_away 43 = .ok (.iload_n 3, 1) := by decide +kernel
theorem dX6_away_44 : decode cX6_away 44 = .ok (.invokevirtual 81, 3) := by decide +kernel
theorem dX6_away_47 : decode cX6_away 47 = .ok (.iload_n 1, 1) := by decide +kernel
theorem dX6_away_48 : decode cX6_away 48 = .ok (.invokestatic 85, 3) := by decide +kernel
theorem dX6_away_51 : decode cX6_away 51 = .ok (.ifCond .eq 7, 3) := by decide +kernel
theorem dX6_away_54 : decode cX6_away 54 = .ok (.iconst 1, 1) := by decide +kernel
theorem dX6_away_55 : decode cX6_away 55 = .ok (.goto 4, 3) := by decide +kernel
theorem dX6_away_58 : decode cX6_away 58 = .ok (.iconst 0, 1) := by decide +kernel
theorem dX6_away_59 : decode cX6_away 59 = .ok (.iadd, 1) := by decide +kernel
theorem dX6_away_60 : decode cX6_away 60 = .ok (.istore_n 2, 1) := by decide +kernel
theorem dX6_away_61 : decode cX6_away 61 = .ok (.iinc 3 1, 3) := by decide +kernel
theorem dX6_away_64 : decode cX6_away 64 = .ok (.goto (-39), 3) := by decide +kernel
theorem dX6_away_67 : decode cX6_away 67 = .ok (.aload_n 0, 1) := by decide +kernel
theorem dX6_away_68 : decode cX6_away 68 = .ok (.getfield 7, 3) := by decide +kernel
theorem dX6_away_71 : decode cX6_away 71 = .ok (.iload_n 1, 1) := by decide +kernel
theorem dX6_away_72 : decode cX6_away 72 = .ok (.bipush (-9), 2) := by decide +kernel
theorem dX6_away_74 : decode cX6_away 74 = .ok (.iastore, 1) := by decide +kernel
theorem dX6_away_75 : decode cX6_away 75 = .ok (.aload_n 0, 1) := by decide +kernel
theorem dX6_away_76 : decode cX6_away 76 = .ok (.dup, 1) := by decide +kernel
theorem dX6_away_77 : decode cX6_away 77 = .ok (.getfield 89, 3) := by decide +kernel
theorem dX6_away_80 : decode cX6_away 80 = .ok (.iconst 1, 1) := by decide +kernel
theorem dX6_away_81 : decode cX6_away 81 = .ok (.iload_n 1, 1) := by decide +kernel
theorem dX6_away_82 : decode cX6_away 82 = .ok (.ishl, 1) := by decide +kernel
theorem dX6_away_83 : decode cX6_away 83 = .ok (.iconst (-1), 1) := by decide +kernel
theorem dX6_away_84 : decode cX6_away 84 = .ok (.ixor, 1) := by decide +kernel
theorem dX6_away_85 : decode cX6_away 85 = .ok (.iand, 1) := by decide +kernel
theorem dX6_away_86 : decode cX6_away 86 = .ok (.putfield 89, 3) := by decide +kernel
theorem dX6_away_89 : decode cX6_away 89 = .ok (.iload_n 2, 1) := by decide +kernel
theorem dX6_away_90 : decode cX6_away 90 = .ok (.ireturn, 1) := by decide +kernel
set_option maxRecDepth 20000 in
theorem ggX6_here_X6_within : GoodIn wsX6_here wsX6_within := goodIn_r _ [5] (by decide +kernel) (by decide +kernel)
set_option maxRecDepth 20000 in
theorem gX6_here_X6_within : GoodIn wsX6_here (va_wsS RX6 64 yX6_within wsX6_within) := goodIn_app (goodIn_of _ (by decide +kernel)) ggX6_here_X6_within
set_option maxRecDepth 20000 in
theorem ggX6_here_X6_there : GoodIn wsX6_here wsX6_there := goodIn_r _ [9, 10, 11, 12, 13, 14, 15, 16, 17, 18, 19, 20, 21, 22, 23, 24, 25, 26, 27, 28, 29, 30, 31] (by decide +kernel) (by decide +kernel)
set_option maxRecDepth 20000 in
theorem gX6_here_X6_there : GoodIn wsX6_here (wsV RX6 92 RX6 yX6_there wsX6_there) := goodIn_app (goodIn_of _ (by decide +kernel)) ggX6_here_X6_there
theorem dX6_here_0 : decode cX6_here 0 = .ok (.iload_n 1, 1) := by decide +kernel
theorem dX6_here_1 : decode cX6_here 1 = .ok (.iconst 0, 1) := by decide +kernel
theorem dX6_here_2 : decode cX6_here 2 = .ok (.sipush 255, 3) := by decide +kernel
theorem dX6_here_5 : decode cX6_here 5 = .ok (.invokestatic 64, 3) := by decide +kernel
theorem dX6_here_8 : decode cX6_here 8 = .ok (.ifCond .eq 14, 3) := by decide +kernel
theorem dX6_here_11 : decode cX6_here 11 = .ok (.iload_n 1, 1) := by decide +kernel
theorem dX6_here_12 : decode cX6_here 12 = .ok (.aload_n 0, 1) := by decide +kernel
theorem dX6_here_13 : decode cX6_here 13 = .ok (.invokevirtual 92, 3) := by decide +kernel
theorem dX6_here_16 : decode cX6_here 16 = .ok (.iconst (-1), 1) := by decide +kernel
theorem dX6_here_17 : decode cX6_here 17 = .ok (.ixor, 1) := by decide +kernel
theorem dX6_here_18 : decode cX6_here 18 = .ok (.iand, 1) := by decide +kernel
theorem dX6_here_19 : decode cX6_here 19 = .ok (.ifCond .eq 6, 3) := by decide +kernel
theorem dX6_here_22 : decode cX6_here 22 = .ok (.bipush (-2), 2) := by decide +kernel
theorem dX6_here_24 : decode cX6_here 24 = .ok (.ireturn, 1) := by decide +kernel
theorem dX6_here_25 : decode cX6_here 25 = .ok (.aload_n 0, 1) := by decide +kernel
theorem dX6_here_26 : decode cX6_here 26 = .ok (.getfield 89, 3) := by decide +kernel
theorem dX6_here_29 : decode cX6_here 29 = .ok (.istore_n 2, 1) := by decide +kernel
theorem dX6_here_30 : decode cX6_here 30 = .ok (.aload_n 0, 1) := by decide +kernel
theorem dX6_here_31 : decode cX6_here 31 = .ok (.iload_n 1, 1) := by decide +kernel
theorem dX6_here_32 : decode cX6_here 32 = .ok (.putfield 89, 3) := by decide +kernel
theorem dX6_here_35 : decode cX6_here 35 = .ok (.iload_n 2, 1) := by decide +kernel
theorem dX6_here_36 : decode cX6_here 36 = .ok (.ireturn, 1) := by decide +kernel
set_option maxRecDepth 20000 in
theorem ggX6_rules_X6_within : GoodIn wsX6_rules wsX6_within := goodIn_r _ [5] (by decide +kernel) (by decide +kernel)
set_option maxRecDepth 20000 in
theorem gX6_rules_X6_within : GoodIn wsX6_rules (va_wsS RX6 64 yX6_within wsX6_within) := goodIn_app (goodIn_of _ (by decide +kernel)) ggX6_rules_X6_within
theorem dX6_rules_0 : decode cX6_rules 0 = .ok (.iload_n 1, 1) := by decide +kernel
theorem dX6_rules_1 : decode cX6_rules 1 = .ok (.iconst 0, 1) := by decide +kernel
theorem dX6_rules_2 : decode cX6_rules 2 = .ok (.bipush 15, 2) := by decide +kernel
theorem dX6_rules_4 : decode cX6_rules 4 = .ok (.invokestatic 64, 3) := by decide +kernel
theorem dX6_rules_7 : decode cX6_rules 7 = .ok (.ifCond .ne 6, 3) := by decide +kernel
theorem dX6_rules_10 : decode cX6_rules 10 = .ok (.bipush (-2), 2) := by decide +kernel
theorem dX6_rules_12 : decode cX6_rules 12 = .ok (.ireturn, 1) := by decide +kernel
theorem dX6_rules_13 : decode cX6_rules 13 = .ok (.aload_n 0, 1) := by decide +kernel
theorem dX6_rules_14 : decode cX6_rules 14 = .ok (.getfield 13, 3) := by decide +kernel
theorem dX6_rules_17 : decode cX6_rules 17 = .ok (.istore_n 2, 1) := by decide +kernel
theorem dX6_rules_18 : decode cX6_rules 18 = .ok (.aload_n 0, 1) := by decide +kernel
theorem dX6_rules_19 : decode cX6_rules 19 = .ok (.iload_n 1, 1) := by decide +kernel
theorem dX6_rules_20 : decode cX6_rules 20 = .ok (.putfield 13, 3) := by decide +kernel
theorem dX6_rules_23 : decode cX6_rules 23 = .ok (.iload_n 2, 1) := by decide +kernel
theorem dX6_rules_24 : decode cX6_rules 24 = .ok (.ireturn, 1) := by decide +kernel
set_option maxRecDepth 20000 in
theorem ggX6_key_X6_within : GoodIn wsX6_key wsX6_within := goodIn_r _ [6] (by decide +kernel) (by decide +kernel)
set_option maxRecDepth 20000 in
theorem gX6_key_X6_within : GoodIn wsX6_key (va_wsS RX6 64 yX6_within wsX6_within) := goodIn_app (goodIn_of _ (by decide +kernel)) ggX6_key_X6_within
theorem dX6_key_0 : decode cX6_key 0 = .ok (.iload_n 1, 1) := by decide +kernel
theorem dX6_key_1 : decode cX6_key 1 = .ok (.iconst 0, 1) := by decide +kernel
theorem dX6_key_2 : decode cX6_key 2 = .ok (.bipush 127, 2) := by decide +kernel
theorem dX6_key_4 : decode cX6_key 4 = .ok (.invokestatic 64, 3) := by decide +kernel
theorem dX6_key_7 : decode cX6_key 7 = .ok (.ifCond .ne 6, 3) := by decide +kernel
theorem dX6_key_10 : decode cX6_key 10 = .ok (.bipush (-2), 2) := by decide +kernel
theorem dX6_key_12 : decode cX6_key 12 = .ok (.ireturn, 1) := by decide +kernel
theorem dX6_key_13 : decode cX6_key 13 = .ok (.aload_n 0, 1) := by decide +kernel
theorem dX6_key_14 : decode cX6_key 14 = .ok (.getfield 96, 3) := by decide +kernel
theorem dX6_key_17 : decode cX6_key 17 = .ok (.bipush 12, 2) := by decide +kernel
theorem dX6_key_19 : decode cX6_key 19 = .ok (.if_icmp .ne 6, 3) := by decide +kernel
theorem dX6_key_22 : decode cX6_key 22 = .ok (.bipush (-4), 2) := by decide +kernel
theorem dX6_key_24 : decode cX6_key 24 = .ok (.ireturn, 1) := by decide +kernel
theorem dX6_key_25 : decode cX6_key 25 = .ok (.aload_n 0, 1) := by decide +kernel
theorem dX6_key_26 : decode cX6_key 26 = .ok (.getfield 17, 3) := by decide +kernel
theorem dX6_key_29 : decode cX6_key 29 = .ok (.aload_n 0, 1) := by decide +kernel
theorem dX6_key_30 : decode cX6_key 30 = .ok (.getfield 96, 3) := by decide +kernel
theorem dX6_key_33 : decode cX6_key 33 = .ok (.iload_n 1, 1) := by decide +kernel
theorem dX6_key_34 : decode cX6_key 34 = .ok (.iastore, 1) := by decide +kernel
theorem dX6_key_35 : decode cX6_key 35 = .ok (.aload_n 0, 1) := by decide +kernel
theorem dX6_key_36 : decode cX6_key 36 = .ok (.dup, 1) := by decide +kernel
theorem dX6_key_37 : decode cX6_key 37 = .ok (.getfield 96, 3) := by decide +kernel
theorem dX6_key_40 : decode cX6_key 40 = .ok (.iconst 1, 1) := by decide +kernel
theorem dX6_key_41 : decode cX6_key 41 = .ok (.iadd, 1) := by decide +kernel
theorem dX6_key_42 : decode cX6_key 42 = .ok (.putfield 96, 3) := by decide +kernel
theorem dX6_key_45 : decode cX6_key 45 = .ok (.aload_n 0, 1) := by decide +kernel
theorem dX6_key_46 : decode cX6_key 46 = .ok (.getfield 96, 3) := by decide +kernel
theorem dX6_key_49 : decode cX6_key 49 = .ok (.ireturn, 1) := by decide +kernel
theorem dX6_wipe_0 : decode cX6_wipe 0 = .ok (.aload_n 0, 1) := by decide +kernel
theorem dX6_wipe_1 : decode cX6_wipe 1 = .ok (.getfield 96, 3) := by decide +kernel
theorem dX6_wipe_4 : decode cX6_wipe 4 = .ok (.istore_n 1, 1) := by decide +kernel
theorem dX6_wipe_5 : decode cX6_wipe 5 = .ok (.aload_n 0, 1) := by decide +kernel
theorem dX6_wipe_6 : decode cX6_wipe 6 = .ok (.iconst 0, 1) := by decide +kernel
theorem dX6_wipe_7 : decode cX6_wipe 7 = .ok (.putfield 96, 3) := by decide +kernel
theorem dX6_wipe_10 : decode cX6_wipe 10 = .ok (.iload_n 1, 1) := by decide +kernel
theorem dX6_wipe_11 : decode cX6_wipe 11 = .ok (.ireturn, 1) := by decide +kernel
set_option maxRecDepth 20000 in
theorem ggX6_isParagraph_X6_within : GoodIn wsX6_isParagraph wsX6_within := goodIn_r _ [5] (by decide +kernel) (by decide +kernel)
set_option maxRecDepth 20000 in
theorem gX6_isParagraph_X6_within : GoodIn wsX6_isParagraph (va_wsS RX6 64 yX6_within wsX6_within) := goodIn_app (goodIn_of _ (by decide +kernel)) ggX6_isParagraph_X6_within
theorem dX6_isParagraph_0 : decode cX6_isParagraph 0 = .ok (.iload_n 1, 1) := by decide +kernel
theorem dX6_isParagraph_1 : decode cX6_isParagraph 1 = .ok (.iconst 0, 1) := by decide +kernel
theorem dX6_isParagraph_2 : decode cX6_isParagraph 2 = .ok (.aload_n 0, 1) := by decide +kernel
theorem dX6_isParagraph_3 : decode cX6_isParagraph 3 = .ok (.getfield 68, 3) := by decide +kernel
theorem dX6_isParagraph_6 : decode cX6_isParagraph 6 = .ok (.iconst 1, 1) := by decide +kernel
theorem dX6_isParagraph_7 : decode cX6_isParagraph 7 = .ok (.isub, 1) := by decide +kernel
theorem dX6_isParagraph_8 : decode cX6_isParagraph 8 = .ok (.invokestatic 64, 3) := by decide +kernel
theorem dX6_isParagraph_11 : decode cX6_isParagraph 11 = .ok (.ireturn, 1) := by decide +kernel
theorem dX6_manyOf_0 : decode cX6_manyOf 0 = .ok (.iconst 0, 1) := by decide +kernel
theorem dX6_manyOf_1 : decode cX6_manyOf 1 = .ok (.istore_n 3, 1) := by decide +kernel
theorem dX6_manyOf_2 : decode cX6_manyOf 2 = .ok (.iconst 0, 1) := by decide +kernel
theorem dX6_manyOf_3 : decode cX6_manyOf 3 = .ok (.istore 4, 2) := by decide +kernel
theorem dX6_manyOf_5 : decode cX6_manyOf 5 = .ok (.iload 4, 2) := by decide +kernel
theorem dX6_manyOf_7 : decode cX6_manyOf 7 = .ok (.aload_n 0, 1) := by decide +kernel
theorem dX6_manyOf_8 : decode cX6_manyOf 8 = .ok (.getfield 20, 3) := by decide +kernel
theorem dX6_manyOf_11 : decode cX6_manyOf 11 = .ok (.iload_n 1, 1) := by decide +kernel
theorem dX6_manyOf_12 : decode cX6_manyOf 12 = .ok (.iaload, 1) := by decide +kernel
theorem dX6_manyOf_13 : decode cX6_manyOf 13 = .ok (.if_icmp .ge 33, 3) := by decide +kernel
theorem dX6_manyOf_16 : decode cX6_manyOf 16 = .ok (.iload_n 3, 1) := by decide +kernel
theorem dX6_manyOf_17 : decode cX6_manyOf 17 = .ok (.aload_n 0, 1) := by decide +kernel
theorem dX6_manyOf_18 : decode cX6_manyOf 18 = .ok (.getfield 23, 3) := by decide +kernel
theorem dX6_manyOf_21 : decode cX6_manyOf 21 = .ok (.bipush 12, 2) := by decide +kernel
theorem dX6_manyOf_23 : decode cX6_manyOf 23 = .ok (.iload_n 1, 1) := by decide +kernel
theorem dX6_manyOf_24 : decode cX6_manyOf 24 = .ok (.imul, 1) := by decide +kernel
theorem dX6_manyOf_25 : decode cX6_manyOf 25 = .ok (.iload 4, 2) := by decide +kernel
theorem dX6_manyOf_27 : decode cX6_manyOf 27 = .ok (.iadd, 1) := by decide +kernel
theorem dX6_manyOf_28 : decode cX6_manyOf 28 = .ok (.iaload, 1) := by decide +kernel
theorem dX6_manyOf_29 : decode cX6_manyOf 29 = .ok (.iload_n 2, 1) := by decide +kernel
theorem dX6_manyOf_30 : decode cX6_manyOf 30 = .ok (.if_icmp .ne 7, 3) := by decide +kernel
theorem dX6_manyOf_33 : decode cX6_manyOf 33 = .ok (.iconst 1, 1) := by decide +kernel
theorem dX6_manyOf_34 : decode cX6_manyOf 34 = .ok (.goto 4, 3) := by decide +kernel
theorem dX6_manyOf_37 : decode cX6_manyOf 37 = .ok (.iconst 0, 1) := by decide +kernel
theorem dX6_manyOf_38 : decode cX6_manyOf 38 = .ok (.iadd, 1) := by decide +kernel
theorem dX6_manyOf_39 : decode cX6_manyOf 39 = .ok (.istore_n 3, 1) := by decide +kernel
theorem dX6_manyOf_40 : decode cX6_manyOf 40 = .ok (.iinc 4 1, 3) := by decide +kernel
theorem dX6_manyOf_43 : decode cX6_manyOf 43 = .ok (.goto (-38), 3) := by decide +kernel
theorem dX6_manyOf_46 : decode cX6_manyOf 46 = .ok (.iload_n 3, 1) := by decide +kernel
theorem dX6_manyOf_47 : decode cX6_manyOf 47 = .ok (.ireturn, 1) := by decide +kernel
set_option maxRecDepth 20000 in
theorem ggX6_speaks_X6_manyOf : GoodIn wsX6_speaks wsX6_manyOf := goodIn_r _ [5, 6, 7, 8, 9, 10, 11, 12, 13, 14, 15, 16, 17, 18, 19, 20, 21, 22, 23, 24, 25, 26, 27, 28] (by decide +kernel) (by decide +kernel)
set_option maxRecDepth 20000 in
theorem gX6_speaks_X6_manyOf : GoodIn wsX6_speaks (wsV RX6 99 RX6 yX6_manyOf wsX6_manyOf) := goodIn_app (goodIn_of _ (by decide +kernel)) ggX6_speaks_X6_manyOf
theorem dX6_speaks_0 : decode cX6_speaks 0 = .ok (.aload_n 0, 1) := by decide +kernel
theorem dX6_speaks_1 : decode cX6_speaks 1 = .ok (.iload_n 1, 1) := by decide +kernel
theorem dX6_speaks_2 : decode cX6_speaks 2 = .ok (.iconst 0, 1) := by decide +kernel
theorem dX6_speaks_3 : decode cX6_speaks 3 = .ok (.invokevirtual 99, 3) := by decide +kernel
theorem dX6_speaks_6 : decode cX6_speaks 6 = .ok (.ifCond .le 7, 3) := by decide +kernel
theorem dX6_speaks_9 : decode cX6_speaks 9 = .ok (.iconst 1, 1) := by decide +kernel
theorem dX6_speaks_10 : decode cX6_speaks 10 = .ok (.goto 4, 3) := by decide +kernel
theorem dX6_speaks_13 : decode cX6_speaks 13 = .ok (.iconst 0, 1) := by decide +kernel
theorem dX6_speaks_14 : decode cX6_speaks 14 = .ok (.ireturn, 1) := by decide +kernel
theorem dX6_sortOfItem_0 : decode cX6_sortOfItem 0 = .ok (.iload_n 0, 1) := by decide +kernel
theorem dX6_sortOfItem_1 : decode cX6_sortOfItem 1 = .ok (.tableswitch 85 104 118 #[81, 85, 85, 85, 85, 85, 85, 79, 85, 75, 85, 83, 85, 85, 77], 75) := by decide +kernel
theorem dX6_sortOfItem_76 : decode cX6_sortOfItem 76 = .ok (.iconst 0, 1) := by decide +kernel
theorem dX6_sortOfItem_77 : decode cX6_sortOfItem 77 = .ok (.ireturn, 1) := by decide +kernel
theorem dX6_sortOfItem_78 : decode cX6_sortOfItem 78 = .ok (.iconst 1, 1) := by decide +kernel
theorem dX6_sortOfItem_79 : decode cX6_sortOfItem 79 = .ok (.ireturn, 1) := by decide +kernel
theorem dX6_sortOfItem_80 : decode cX6_sortOfItem 80 = .ok (.iconst 2, 1) := by decide +kernel
theorem dX6_sortOfItem_81 : decode cX6_sortOfItem 81 = .ok (.ireturn, 1) := by decide +kernel
theorem dX6_sortOfItem_82 : decode cX6_sortOfItem 82 = .ok (.iconst 3, 1) := by decide +kernel
theorem dX6_sortOfItem_83 : decode cX6_sortOfItem 83 = .ok (.ireturn, 1) := by decide +kernel
theorem dX6_sortOfItem_84 : decode cX6_sortOfItem 84 = .ok (.iconst 4, 1) := by decide +kernel
theorem dX6_sortOfItem_85 : decode cX6_sortOfItem 85 = .ok (.ireturn, 1) := by decide +kernel
theorem dX6_sortOfItem_86 : decode cX6_sortOfItem 86 = .ok (.iconst 5, 1) := by decide +kernel
theorem dX6_sortOfItem_87 : decode cX6_sortOfItem 87 = .ok (.ireturn, 1) := by decide +kernel
set_option maxRecDepth 20000 in
theorem ggX6_isNameHere_X6_within : GoodIn wsX6_isNameHere wsX6_within := goodIn_r _ [7] (by decide +kernel) (by decide +kernel)
set_option maxRecDepth 20000 in
theorem gX6_isNameHere_X6_within : GoodIn wsX6_isNameHere (va_wsS RX6 64 yX6_within wsX6_within) := goodIn_app (goodIn_of _ (by decide +kernel)) ggX6_isNameHere_X6_within
set_option maxRecDepth 20000 in
theorem ggX6_isNameHere_X6_isThere : GoodIn wsX6_isNameHere wsX6_isThere := goodIn_r _ [11, 12, 4, 5, 6, 7, 13, 14, 15, 16, 17, 18, 19, 20, 21, 22, 23, 24, 25, 26, 27, 28, 29, 30, 31, 32, 33] (by decide +kernel) (by decide +kernel)
set_option maxRecDepth 20000 in
theorem gX6_isNameHere_X6_isThere : GoodIn wsX6_isNameHere (wsV RX6 71 RX6 yX6_isThere wsX6_isThere) := goodIn_app (goodIn_of _ (by decide +kernel)) ggX6_isNameHere_X6_isThere
theorem dX6_isNameHere_0 : decode cX6_isNameHere 0 = .ok (.aload_n 0, 1) := by decide +kernel
theorem dX6_isNameHere_1 : decode cX6_isNameHere 1 = .ok (.getfield 103, 3) := by decide +kernel
theorem dX6_isNameHere_4 : decode cX6_isNameHere 4 = .ok (.aload_n 0, 1) := by decide +kernel
theorem dX6_isNameHere_5 : decode cX6_isNameHere 5 = .ok (.getfield 96, 3) := by decide +kernel
theorem dX6_isNameHere_8 : decode cX6_isNameHere 8 = .ok (.if_icmp .ge 45, 3) := by decide +kernel
theorem dX6_isNameHere_11 : decode cX6_isNameHere 11 = .ok (.aload_n 0, 1) := by decide +kernel
theorem dX6_isNameHere_12 : decode cX6_isNameHere 12 = .ok (.getfield 17, 3) := by decide +kernel
theorem dX6_isNameHere_15 : decode cX6_isNameHere 15 = .ok (.aload_n 0, 1) := by decide +kernel
theorem dX6_isNameHere_16 : decode cX6_isNameHere 16 = .ok (.getfield 103, 3) := by decide +kernel
theorem dX6_isNameHere_19 : decode cX6_isNameHere 19 = .ok (.iaload, 1) := by decide +kernel
theorem dX6_isNameHere_20 : decode cX6_isNameHere 20 = .ok (.bipush 65, 2) := by decide +kernel
theorem dX6_isNameHere_22 : decode cX6_isNameHere 22 = .ok (.bipush 72, 2) := by decide +kernel
theorem dX6_isNameHere_24 : decode cX6_isNameHere 24 = .ok (.invokestatic 64, 3) := by decide +kernel
theorem dX6_isNameHere_27 : decode cX6_isNameHere 27 = .ok (.ifCond .eq 26, 3) := by decide +kernel
theorem dX6_isNameHere_30 : decode cX6_isNameHere 30 = .ok (.aload_n 0, 1) := by decide +kernel
theorem dX6_isNameHere_31 : decode cX6_isNameHere 31 = .ok (.aload_n 0, 1) := by decide +kernel
theorem dX6_isNameHere_32 : decode cX6_isNameHere 32 = .ok (.getfield 17, 3) := by decide +kernel
theorem dX6_isNameHere_35 : decode cX6_isNameHere 35 = .ok (.aload_n 0, 1) := by decide +kernel
theorem dX6_isNameHere_36 : decode cX6_isNameHere 36 = .ok (.getfield 103, 3) := by decide +kernel
theorem dX6_isNameHere_39 : decode cX6_isNameHere 39 = .ok (.iaload, 1) := by decide +kernel
theorem dX6_isNameHere_40 : decode cX6_isNameHere 40 = .ok (.bipush 65, 2) := by decide +kernel
theorem dX6_isNameHere_42 : decode cX6_isNameHere 42 = .ok (.isub, 1) := by decide +kernel
theorem dX6_isNameHere_43 : decode cX6_isNameHere 43 = .ok (.invokevirtual 71, 3) := by decide +kernel
theorem dX6_isNameHere_46 : decode cX6_isNameHere 46 = .ok (.ifCond .eq 7, 3) := by decide +kernel
theorem dX6_isNameHere_49 : decode cX6_isNameHere 49 = .ok (.iconst 1, 1) := by decide +kernel
theorem dX6_isNameHere_50 : decode cX6_isNameHere 50 = .ok (.goto 4, 3) := by decide +kernel
theorem dX6_isNameHere_53 : decode cX6_isNameHere 53 = .ok (.iconst 0, 1) := by decide +kernel
theorem dX6_isNameHere_54 : decode cX6_isNameHere 54 = .ok (.ireturn, 1) := by decide +kernel
set_option maxRecDepth 20000 in
theorem ggX6_readsItem_X6_sortOfItem : GoodIn wsX6_readsItem wsX6_sortOfItem := goodIn_r _ [10] (by decide +kernel) (by decide +kernel)
set_option maxRecDepth 20000 in
theorem gX6_readsItem_X6_sortOfItem : GoodIn wsX6_readsItem (va_wsS RX6 106 yX6_sortOfItem wsX6_sortOfItem) := goodIn_app (goodIn_of _ (by decide +kernel)) ggX6_readsItem_X6_sortOfItem
set_option maxRecDepth 20000 in
theorem ggX6_readsItem_X6_isNameHere : GoodIn wsX6_readsItem wsX6_isNameHere := goodIn_r _ [14, 3, 6, 2, 15, 16, 9, 17, 18, 19, 20, 21, 22, 23, 24, 25, 26, 27, 28, 29, 30, 31, 32, 33, 34, 35, 36, 37, 38, 39, 40, 41, 42, 43] (by decide +kernel) (by decide +kernel)
set_option maxRecDepth 20000 in
theorem gX6_readsItem_X6_isNameHere : GoodIn wsX6_readsItem (wsV RX6 109 RX6 yX6_isNameHere wsX6_isNameHere) := goodIn_app (goodIn_of _ (by decide +kernel)) ggX6_readsItem_X6_isNameHere
theorem dX6_readsItem_0 : decode cX6_readsItem 0 = .ok (.bipush 12, 2) := by decide +kernel
theorem dX6_readsItem_2 : decode cX6_readsItem 2 = .ok (.iload_n 1, 1) := by decide +kernel
theorem dX6_readsItem_3 : decode cX6_readsItem 3 = .ok (.imul, 1) := by decide +kernel
theorem dX6_readsItem_4 : decode cX6_readsItem 4 = .ok (.aload_n 0, 1) := by decide +kernel
theorem dX6_readsItem_5 : decode cX6_readsItem 5 = .ok (.getfield 20, 3) := by decide +kernel
theorem dX6_readsItem_8 : decode cX6_readsItem 8 = .ok (.iload_n 1, 1) := by decide +kernel
theorem dX6_readsItem_9 : decode cX6_readsItem 9 = .ok (.iaload, 1) := by decide +kernel
theorem dX6_readsItem_10 : decode cX6_readsItem 10 = .ok (.iadd, 1) := by decide +kernel
theorem dX6_readsItem_11 : decode cX6_readsItem 11 = .ok (.istore_n 2, 1) := by decide +kernel
theorem dX6_readsItem_12 : decode cX6_readsItem 12 = .ok (.aload_n 0, 1) := by decide +kernel
theorem dX6_readsItem_13 : decode cX6_readsItem 13 = .ok (.getfield 17, 3) := by decide +kernel
theorem dX6_readsItem_16 : decode cX6_readsItem 16 = .ok (.aload_n 0, 1) := by decide +kernel
theorem dX6_readsItem_17 : decode cX6_readsItem 17 = .ok (.getfield 103, 3) := by decide +kernel
theorem dX6_readsItem_20 : decode cX6_readsItem 20 = .ok (.iaload, 1) := by decide +kernel
theorem dX6_readsItem_21 : decode cX6_readsItem 21 = .ok (.invokestatic 106, 3) := by decide +kernel
theorem dX6_readsItem_24 : decode cX6_readsItem 24 = .ok (.istore_n 3, 1) := by decide +kernel
theorem dX6_readsItem_25 : decode cX6_readsItem 25 = .ok (.iload_n 3, 1) := by decide +kernel
theorem dX6_readsItem_26 : decode cX6_readsItem 26 = .ok (.iconst 5, 1) := by decide +kernel
theorem dX6_readsItem_27 : decode cX6_readsItem 27 = .ok (.if_icmp .ne 12, 3) := by decide +kernel
theorem dX6_readsItem_30 : decode cX6_readsItem 30 = .ok (.aload_n 0, 1) := by decide +kernel
theorem dX6_readsItem_31 : decode cX6_readsItem 31 = .ok (.invokevirtual 109, 3) := by decide +kernel
theorem dX6_readsItem_34 : decode cX6_readsItem 34 = .ok (.ifCond .ne 5, 3) := by decide +kernel
theorem dX6_readsItem_37 : decode cX6_readsItem 37 = .ok (.iconst 0, 1) := by decide +kernel
theorem dX6_readsItem_38 : decode cX6_readsItem 38 = .ok (.ireturn, 1) := by decide +kernel
theorem dX6_readsItem_39 : decode cX6_readsItem 39 = .ok (.aload_n 0, 1) := by decide +kernel
theorem dX6_readsItem_40 : decode cX6_readsItem 40 = .ok (.getfield 23, 3) := by decide +kernel
theorem dX6_readsItem_43 : decode cX6_readsItem 43 = .ok (.iload_n 2, 1) := by decide +kernel
theorem dX6_readsItem_44 : decode cX6_readsItem 44 = .ok (.iload_n 3, 1) := by decide +kernel
theorem dX6_readsItem_45 : decode cX6_readsItem 45 = .ok (.iastore, 1) := by decide +kernel
theorem dX6_readsItem_46 : decode cX6_readsItem 46 = .ok (.aload_n 0, 1) := by decide +kernel
theorem dX6_readsItem_47 : decode cX6_readsItem 47 = .ok (.getfield 26, 3) := by decide +kernel
theorem dX6_readsItem_50 : decode cX6_readsItem 50 = .ok (.iload_n 2, 1) := by decide +kernel
theorem dX6_readsItem_51 : decode cX6_readsItem 51 = .ok (.iload_n 3, 1) := by decide +kernel
theorem dX6_readsItem_52 : decode cX6_readsItem 52 = .ok (.iconst 5, 1) := by decide +kernel
theorem dX6_readsItem_53 : decode cX6_readsItem 53 = .ok (.if_icmp .ne 18, 3) := by decide +kernel
theorem dX6_readsItem_56 : decode cX6_readsItem 56 = .ok (.aload_n 0, 1) := by decide +kernel
theorem dX6_readsItem_57 : decode cX6_readsItem 57 = .ok (.getfield 17, 3) := by decide +kernel
theorem dX6_readsItem_60 : decode cX6_readsItem 60 = .ok (.aload_n 0, 1) := by decide +kernel
theorem dX6_readsItem_61 : decode cX6_readsItem 61 = .ok (.getfield 103, 3) := by decide +kernel
theorem dX6_readsItem_64 : decode cX6_readsItem 64 = .ok (.iaload, 1) := by decide +kernel
theorem dX6_readsItem_65 : decode cX6_readsItem 65 = .ok (.bipush 65, 2) := by decide +kernel
theorem dX6_readsItem_67 : decode cX6_readsItem 67 = .ok (.isub, 1) := by decide +kernel
theorem dX6_readsItem_68 : decode cX6_readsItem 68 = .ok (.goto 5, 3) := by decide +kernel
theorem dX6_readsItem_71 : decode cX6_readsItem 71 = .ok (.bipush (-9), 2) := by decide +kernel
theorem dX6_readsItem_73 : decode cX6_readsItem 73 = .ok (.iastore, 1) := by decide +kernel
theorem dX6_readsItem_74 : decode cX6_readsItem 74 = .ok (.aload_n 0, 1) := by decide +kernel
theorem dX6_readsItem_75 : decode cX6_readsItem 75 = .ok (.dup, 1) := by decide +kernel
theorem dX6_readsItem_76 : decode cX6_readsItem 76 = .ok (.getfield 103, 3) := by decide +kernel
theorem dX6_readsItem_79 : decode cX6_readsItem 79 = .ok (.iconst 1, 1) := by decide +kernel
theorem dX6_readsItem_80 : decode cX6_readsItem 80 = .ok (.iadd, 1) := by decide +kernel
theorem dX6_readsItem_81 : decode cX6_readsItem 81 = .ok (.putfield 103, 3) := by decide +kernel
theorem dX6_readsItem_84 : decode cX6_readsItem 84 = .ok (.iload_n 3, 1) := by decide +kernel
theorem dX6_readsItem_85 : decode cX6_readsItem 85 = .ok (.ifCond .ne 75, 3) := by decide +kernel
theorem dX6_readsItem_88 : decode cX6_readsItem 88 = .ok (.aload_n 0, 1) := by decide +kernel
theorem dX6_readsItem_89 : decode cX6_readsItem 89 = .ok (.getfield 103, 3) := by decide +kernel
theorem dX6_readsItem_92 : decode cX6_readsItem 92 = .ok (.aload_n 0, 1) := by decide +kernel
theorem dX6_readsItem_93 : decode cX6_readsItem 93 = .ok (.getfield 96, 3) := by decide +kernel
theorem dX6_readsItem_96 : decode cX6_readsItem 96 = .ok (.if_icmp .ge 64, 3) := by decide +kernel
theorem dX6_readsItem_99 : decode cX6_readsItem 99 = .ok (.aload_n 0, 1) := by decide +kernel
theorem dX6_readsItem_100 : decode cX6_readsItem 100 = .ok (.getfield 17, 3) := by decide +kernel
theorem dX6_readsItem_103 : decode cX6_readsItem 103 = .ok (.aload_n 0, 1) := by decide +kernel
theorem dX6_readsItem_104 : decode cX6_readsItem 104 = .ok (.getfield 103, 3) := by decide +kernel
theorem dX6_readsItem_107 : decode cX6_readsItem 107 = .ok (.iaload, 1) := by decide +kernel
theorem dX6_readsItem_108 : decode cX6_readsItem 108 = .ok (.bipush 64, 2) := by decide +kernel
theorem dX6_readsItem_110 : decode cX6_readsItem 110 = .ok (.if_icmp .ne 50, 3) := by decide +kernel
theorem dX6_readsItem_113 : decode cX6_readsItem 113 = .ok (.aload_n 0, 1) := by decide +kernel
theorem dX6_readsItem_114 : decode cX6_readsItem 114 = .ok (.dup, 1) := by decide +kernel
theorem dX6_readsItem_115 : decode cX6_readsItem 115 = .ok (.getfield 103, 3) := by decide +kernel
theorem dX6_readsItem_118 : decode cX6_readsItem 118 = .ok (.iconst 1, 1) := by decide +kernel
theorem dX6_readsItem_119 : decode cX6_readsItem 119 = .ok (.iadd, 1) := by decide +kernel
theorem dX6_readsItem_120 : decode cX6_readsItem 120 = .ok (.putfield 103, 3) := by decide +kernel
theorem dX6_readsItem_123 : decode cX6_readsItem 123 = .ok (.aload_n 0, 1) := by decide +kernel
theorem dX6_readsItem_124 : decode cX6_readsItem 124 = .ok (.invokevirtual 109, 3) := by decide +kernel
theorem dX6_readsItem_127 : decode cX6_readsItem 127 = .ok (.ifCond .ne 5, 3) := by decide +kernel
theorem dX6_readsItem_130 : decode cX6_readsItem 130 = .ok (.iconst 0, 1) := by decide +kernel
theorem dX6_readsItem_131 : decode cX6_readsItem 131 = .ok (.ireturn, 1) := by decide +kernel
theorem dX6_readsItem_132 : decode cX6_readsItem 132 = .ok (.aload_n 0, 1) := by decide +kernel
theorem dX6_readsItem_133 : decode cX6_readsItem 133 = .ok (.getfield 26, 3) := by decide +kernel
theorem dX6_readsItem_136 : decode cX6_readsItem 136 = .ok (.iload_n 2, 1) := by decide +kernel
theorem dX6_readsItem_137 : decode cX6_readsItem 137 = .ok (.aload_n 0, 1) := by decide +kernel
theorem dX6_readsItem_138 : decode cX6_readsItem 138 = .ok (.getfield 17, 3) := by decide +kernel
theorem dX6_readsItem_141 : decode cX6_readsItem 141 = .ok (.aload_n 0, 1) := by decide +kernel
theorem dX6_readsItem_142 : decode cX6_readsItem 142 = .ok (.getfield 103, 3) := by decide +kernel
theorem dX6_readsItem_145 : decode cX6_readsItem 145 = .ok (.iaload, 1) := by decide +kernel
theorem dX6_readsItem_146 : decode cX6_readsItem 146 = .ok (.bipush 65, 2) := by decide +kernel
theorem dX6_readsItem_148 : decode cX6_readsItem 148 = .ok (.isub, 1) := by decide +kernel
theorem dX6_readsItem_149 : decode cX6_readsItem 149 = .ok (.iastore, 1) := by decide +kernel
theorem dX6_readsItem_150 : decode cX6_readsItem 150 = .ok (.aload_n 0, 1) := by decide +kernel
theorem dX6_readsItem_151 : decode cX6_readsItem 151 = .ok (.dup, 1) := by decide +kernel
theorem dX6_readsItem_152 : decode cX6_readsItem 152 = .ok (.getfield 103, 3) := by decide +kernel
theorem dX6_readsItem_155 : decode cX6_readsItem 155 = .ok (.iconst 1, 1) := by decide +kernel
theorem dX6_readsItem_156 : decode cX6_readsItem 156 = .ok (.iadd, 1) := by decide +kernel
theorem dX6_readsItem_157 : decode cX6_readsItem 157 = .ok (.putfield 103, 3) := by decide +kernel
theorem dX6_readsItem_160 : decode cX6_readsItem 160 = .ok (.aload_n 0, 1) := by decide +kernel
theorem dX6_readsItem_161 : decode cX6_readsItem 161 = .ok (.getfield 20, 3) := by decide +kernel
theorem dX6_readsItem_164 : decode cX6_readsItem 164 = .ok (.iload_n 1, 1) := by decide +kernel
theorem dX6_readsItem_165 : decode cX6_readsItem 165 = .ok (.dup2, 1) := by decide +kernel
theorem dX6_readsItem_166 : decode cX6_readsItem 166 = .ok (.iaload, 1) := by decide +kernel
theorem dX6_readsItem_167 : decode cX6_readsItem 167 = .ok (.iconst 1, 1) := by decide +kernel
theorem dX6_readsItem_168 : decode cX6_readsItem 168 = .ok (.iadd, 1) := by decide +kernel
theorem dX6_readsItem_169 : decode cX6_readsItem 169 = .ok (.iastore, 1) := by decide +kernel
theorem dX6_readsItem_170 : decode cX6_readsItem 170 = .ok (.iconst 1, 1) := by decide +kernel
theorem dX6_readsItem_171 : decode cX6_readsItem 171 = .ok (.ireturn, 1) := by decide +kernel
set_option maxRecDepth 20000 in
theorem ggX6_readsText_X6_speaks : GoodIn wsX6_readsText wsX6_speaks := goodIn_r _ [10, 11, 12, 13, 9, 14, 2, 15, 36, 37, 38, 39, 40, 41, 42, 43, 44, 45, 46, 47, 48, 49, 50, 51, 52, 53, 54, 55, 56] (by decide +kernel) (by decide +kernel)
set_option maxRecDepth 20000 in
theorem gX6_readsText_X6_speaks : GoodIn wsX6_readsText (wsV RX6 78 RX6 yX6_speaks wsX6_speaks) := goodIn_app (goodIn_of _ (by decide +kernel)) ggX6_readsText_X6_speaks
set_option maxRecDepth 20000 in
theorem ggX6_readsText_X6_readsItem : GoodIn wsX6_readsText wsX6_readsItem := goodIn_r _ [19, 2, 5, 1, 15, 20, 4, 21, 22, 9, 23, 24, 25, 26, 27, 28, 29, 30, 31, 32, 33, 34, 35, 36, 37, 38, 39, 40, 41, 42, 43, 44, 45, 46, 47, 48, 49, 50, 51, 52, 53, 54, 55, 56] (by decide +kernel) (by decide +kernel)
set_option maxRecDepth 20000 in
theorem gX6_readsText_X6_readsItem : GoodIn wsX6_readsText (wsV RX6 113 RX6 yX6_readsItem wsX6_readsItem) := goodIn_app (goodIn_of _ (by decide +kernel)) ggX6_readsText_X6_readsItem
theorem dX6_readsText_0 : decode cX6_readsText 0 = .ok (.aload_n 0, 1) := by decide +kernel
theorem dX6_readsText_1 : decode cX6_readsText 1 = .ok (.iconst 0, 1) := by decide +kernel
theorem dX6_readsText_2 : decode cX6_readsText 2 = .ok (.putfield 103, 3) := by decide +kernel
theorem dX6_readsText_5 : decode cX6_readsText 5 = .ok (.aload_n 0, 1) := by decide +kernel
theorem dX6_readsText_6 : decode cX6_readsText 6 = .ok (.getfield 20, 3) := by decide +kernel
theorem dX6_readsText_9 : decode cX6_readsText 9 = .ok (.iload_n 1, 1) := by decide +kernel
theorem dX6_readsText_10 : decode cX6_readsText 10 = .ok (.iconst 0, 1) := by decide +kernel
theorem dX6_readsText_11 : decode cX6_readsText 11 = .ok (.iastore, 1) := by decide +kernel
theorem dX6_readsText_12 : decode cX6_readsText 12 = .ok (.aload_n 0, 1) := by decide +kernel
theorem dX6_readsText_13 : decode cX6_readsText 13 = .ok (.getfield 29, 3) := by decide +kernel
theorem dX6_readsText_16 : decode cX6_readsText 16 = .ok (.iload_n 1, 1) := by decide +kernel
theorem dX6_readsText_17 : decode cX6_readsText 17 = .ok (.aload_n 0, 1) := by decide +kernel
theorem dX6_readsText_18 : decode cX6_readsText 18 = .ok (.getfield 96, 3) := by decide +kernel
theorem dX6_readsText_21 : decode cX6_readsText 21 = .ok (.ifCond .le 18, 3) := by decide +kernel
theorem dX6_readsText_24 : decode cX6_readsText 24 = .ok (.aload_n 0, 1) := by decide +kernel
theorem dX6_readsText_25 : decode cX6_readsText 25 = .ok (.getfield 17, 3) := by decide +kernel
theorem dX6_readsText_28 : decode cX6_readsText 28 = .ok (.iconst 0, 1) := by decide +kernel
theorem dX6_readsText_29 : decode cX6_readsText 29 = .ok (.iaload, 1) := by decide +kernel
theorem dX6_readsText_30 : decode cX6_readsText 30 = .ok (.bipush 43, 2) := by decide +kernel
theorem dX6_readsText_32 : decode cX6_readsText 32 = .ok (.if_icmp .ne 7, 3) := by decide +kernel
theorem dX6_readsText_35 : decode cX6_readsText 35 = .ok (.iconst 1, 1) := by decide +kernel
theorem dX6_readsText_36 : decode cX6_readsText 36 = .ok (.goto 4, 3) := by decide +kernel
theorem dX6_readsText_39 : decode cX6_readsText 39 = .ok (.iconst 0, 1) := by decide +kernel
theorem dX6_readsText_40 : decode cX6_readsText 40 = .ok (.bastore, 1) := by decide +kernel
theorem dX6_readsText_41 : decode cX6_readsText 41 = .ok (.aload_n 0, 1) := by decide +kernel
theorem dX6_readsText_42 : decode cX6_readsText 42 = .ok (.getfield 29, 3) := by decide +kernel
theorem dX6_readsText_45 : decode cX6_readsText 45 = .ok (.iload_n 1, 1) := by decide +kernel
theorem dX6_readsText_46 : decode cX6_readsText 46 = .ok (.baload, 1) := by decide +kernel
theorem dX6_readsText_47 : decode cX6_readsText 47 = .ok (.ifCond .eq 24, 3) := by decide +kernel
theorem dX6_readsText_50 : decode cX6_readsText 50 = .ok (.iload_n 1, 1) := by decide +kernel
theorem dX6_readsText_51 : decode cX6_readsText 51 = .ok (.ifCond .eq 13, 3) := by decide +kernel
theorem dX6_readsText_54 : decode cX6_readsText 54 = .ok (.aload_n 0, 1) := by decide +kernel
theorem dX6_readsText_55 : decode cX6_readsText 55 = .ok (.iload_n 1, 1) := by decide +kernel
theorem dX6_readsText_56 : decode cX6_readsText 56 = .ok (.iconst 1, 1) := by decide +kernel
theorem dX6_readsText_57 : decode cX6_readsText 57 = .ok (.isub, 1) := by decide +kernel
theorem dX6_readsText_58 : decode cX6_readsText 58 = .ok (.invokevirtual 78, 3) := by decide +kernel
theorem dX6_readsText_61 : decode cX6_readsText 61 = .ok (.ifCond .ne 5, 3) := by decide +kernel
theorem dX6_readsText_64 : decode cX6_readsText 64 = .ok (.iconst 0, 1) := by decide +kernel
theorem dX6_readsText_65 : decode cX6_readsText 65 = .ok (.ireturn, 1) := by decide +kernel
theorem dX6_readsText_66 : decode cX6_readsText 66 = .ok (.aload_n 0, 1) := by decide +kernel
theorem dX6_readsText_67 : decode cX6_readsText 67 = .ok (.iconst 1, 1) := by decide +kernel
theorem dX6_readsText_68 : decode cX6_readsText 68 = .ok (.putfield 103, 3) := by decide +kernel
theorem dX6_readsText_71 : decode cX6_readsText 71 = .ok (.aload_n 0, 1) := by decide +kernel
theorem dX6_readsText_72 : decode cX6_readsText 72 = .ok (.getfield 103, 3) := by decide +kernel
theorem dX6_readsText_75 : decode cX6_readsText 75 = .ok (.aload_n 0, 1) := by decide +kernel
theorem dX6_readsText_76 : decode cX6_readsText 76 = .ok (.getfield 96, 3) := by decide +kernel
theorem dX6_readsText_79 : decode cX6_readsText 79 = .ok (.if_icmp .ge 13, 3) := by decide +kernel
theorem dX6_readsText_82 : decode cX6_readsText 82 = .ok (.aload_n 0, 1) := by decide +kernel
theorem dX6_readsText_83 : decode cX6_readsText 83 = .ok (.iload_n 1, 1) := by decide +kernel
theorem dX6_readsText_84 : decode cX6_readsText 84 = .ok (.invokevirtual 113, 3) := by decide +kernel
theorem dX6_readsText_87 : decode cX6_readsText 87 = .ok (.ifCond .ne (-16), 3) := by decide +kernel
theorem dX6_readsText_90 : decode cX6_readsText 90 = .ok (.iconst 0, 1) := by decide +kernel
theorem dX6_readsText_91 : decode cX6_readsText 91 = .ok (.ireturn, 1) := by decide +kernel
theorem dX6_readsText_92 : decode cX6_readsText 92 = .ok (.aload_n 0, 1) := by decide +kernel
theorem dX6_readsText_93 : decode cX6_readsText 93 = .ok (.getfield 20, 3) := by decide +kernel
theorem dX6_readsText_96 : decode cX6_readsText 96 = .ok (.iload_n 1, 1) := by decide +kernel
theorem dX6_readsText_97 : decode cX6_readsText 97 = .ok (.iaload, 1) := by decide +kernel
theorem dX6_readsText_98 : decode cX6_readsText 98 = .ok (.ifCond .le 24, 3) := by decide +kernel
theorem dX6_readsText_101 : decode cX6_readsText 101 = .ok (.aload_n 0, 1) := by decide +kernel
theorem dX6_readsText_102 : decode cX6_readsText 102 = .ok (.getfield 29, 3) := by decide +kernel
theorem dX6_readsText_105 : decode cX6_readsText 105 = .ok (.iload_n 1, 1) := by decide +kernel
theorem dX6_readsText_106 : decode cX6_readsText 106 = .ok (.baload, 1) := by decide +kernel
theorem dX6_readsText_107 : decode cX6_readsText 107 = .ok (.ifCond .eq 11, 3) := by decide +kernel
theorem dX6_readsText_110 : decode cX6_readsText 110 = .ok (.aload_n 0, 1) := by decide +kernel
theorem dX6_readsText_111 : decode cX6_readsText 111 = .ok (.iload_n 1, 1) := by decide +kernel
theorem dX6_readsText_112 : decode cX6_readsText 112 = .ok (.invokevirtual 78, 3) := by decide +kernel
theorem dX6_readsText_115 : decode cX6_readsText 115 = .ok (.ifCond .eq 7, 3) := by decide +kernel
theorem dX6_readsText_118 : decode cX6_readsText 118 = .ok (.iconst 1, 1) := by decide +kernel
theorem dX6_readsText_119 : decode cX6_readsText 119 = .ok (.goto 4, 3) := by decide +kernel
theorem dX6_readsText_122 : decode cX6_readsText 122 = .ok (.iconst 0, 1) := by decide +kernel
theorem dX6_readsText_123 : decode cX6_readsText 123 = .ok (.ireturn, 1) := by decide +kernel
set_option maxRecDepth 20000 in
theorem ggX6_paragraph_X6_readsText : GoodIn wsX6_paragraph wsX6_readsText := goodIn_r _ [11, 2, 12, 13, 6, 14, 15, 16, 17, 10, 18, 19, 20, 21, 22, 23, 24, 25, 26, 27, 28, 29, 30, 31, 32, 33, 34, 35, 36, 37, 38, 39, 40, 41, 42, 43, 44, 45, 46, 47, 48, 49, 50, 51, 52, 53, 54, 55, 56, 57, 58, 59, 60, 61, 62, 63, 64] (by decide +kernel) (by decide +kernel)
set_option maxRecDepth 20000 in
theorem gX6_paragraph_X6_readsText : GoodIn wsX6_paragraph (wsV RX6 116 RX6 yX6_readsText wsX6_readsText) := goodIn_app (goodIn_of _ (by decide +kernel)) ggX6_paragraph_X6_readsText
theorem dX6_paragraph_0 : decode cX6_paragraph 0 = .ok (.aload_n 0, 1) := by decide +kernel
theorem dX6_paragraph_1 : decode cX6_paragraph 1 = .ok (.getfield 68, 3) := by decide +kernel
theorem dX6_paragraph_4 : decode cX6_paragraph 4 = .ok (.istore_n 1, 1) := by decide +kernel
theorem dX6_paragraph_5 : decode cX6_paragraph 5 = .ok (.iload_n 1, 1) := by decide +kernel
theorem dX6_paragraph_6 : decode cX6_paragraph 6 = .ok (.bipush 16, 2) := by decide +kernel
theorem dX6_paragraph_8 : decode cX6_paragraph 8 = .ok (.if_icmp .ne 6, 3) := by decide +kernel
theorem dX6_paragraph_11 : decode cX6_paragraph 11 = .ok (.bipush (-4), 2) := by decide +kernel
theorem dX6_paragraph_13 : decode cX6_paragraph 13 = .ok (.ireturn, 1) := by decide +kernel
theorem dX6_paragraph_14 : decode cX6_paragraph 14 = .ok (.aload_n 0, 1) := by decide +kernel
theorem dX6_paragraph_15 : decode cX6_paragraph 15 = .ok (.iload_n 1, 1) := by decide +kernel
theorem dX6_paragraph_16 : decode cX6_paragraph 16 = .ok (.invokevirtual 116, 3) := by decide +kernel
theorem dX6_paragraph_19 : decode cX6_paragraph 19 = .ok (.ifCond .ne 11, 3) := by decide +kernel
theorem dX6_paragraph_22 : decode cX6_paragraph 22 = .ok (.bipush (-100), 2) := by decide +kernel
theorem dX6_paragraph_24 : decode cX6_paragraph 24 = .ok (.aload_n 0, 1) := by decide +kernel
theorem dX6_paragraph_25 : decode cX6_paragraph 25 = .ok (.getfield 103, 3) := by decide +kernel
theorem dX6_paragraph_28 : decode cX6_paragraph 28 = .ok (.isub, 1) := by decide +kernel
theorem dX6_paragraph_29 : decode cX6_paragraph 29 = .ok (.ireturn, 1) := by decide +kernel
theorem dX6_paragraph_30 : decode cX6_paragraph 30 = .ok (.aload_n 0, 1) := by decide +kernel
theorem dX6_paragraph_31 : decode cX6_paragraph 31 = .ok (.getfield 33, 3) := by decide +kernel
theorem dX6_paragraph_34 : decode cX6_paragraph 34 = .ok (.iload_n 1, 1) := by decide +kernel
theorem dX6_paragraph_35 : decode cX6_paragraph 35 = .ok (.aload_n 0, 1) := by decide +kernel
theorem dX6_paragraph_36 : decode cX6_paragraph 36 = .ok (.getfield 89, 3) := by decide +kernel
theorem dX6_paragraph_39 : decode cX6_paragraph 39 = .ok (.iastore, 1) := by decide +kernel
theorem dX6_paragraph_40 : decode cX6_paragraph 40 = .ok (.aload_n 0, 1) := by decide +kernel
theorem dX6_paragraph_41 : decode cX6_paragraph 41 = .ok (.getfield 36, 3) := by decide +kernel
theorem dX6_paragraph_44 : decode cX6_paragraph 44 = .ok (.iload_n 1, 1) := by decide +kernel
theorem dX6_paragraph_45 : decode cX6_paragraph 45 = .ok (.bipush (-9), 2) := by decide +kernel
theorem dX6_paragraph_47 : decode cX6_paragraph 47 = .ok (.iastore, 1) := by decide +kernel
theorem dX6_paragraph_48 : decode cX6_paragraph 48 = .ok (.aload_n 0, 1) := by decide +kernel
theorem dX6_paragraph_49 : decode cX6_paragraph 49 = .ok (.iconst 0, 1) := by decide +kernel
theorem dX6_paragraph_50 : decode cX6_paragraph 50 = .ok (.putfield 96, 3) := by decide +kernel
theorem dX6_paragraph_53 : decode cX6_paragraph 53 = .ok (.aload_n 0, 1) := by decide +kernel
theorem dX6_paragraph_54 : decode cX6_paragraph 54 = .ok (.dup, 1) := by decide +kernel
theorem dX6_paragraph_55 : decode cX6_paragraph 55 = .ok (.getfield 68, 3) := by decide +kernel
theorem dX6_paragraph_58 : decode cX6_paragraph 58 = .ok (.iconst 1, 1) := by decide +kernel
theorem dX6_paragraph_59 : decode cX6_paragraph 59 = .ok (.iadd, 1) := by decide +kernel
theorem dX6_paragraph_60 : decode cX6_paragraph 60 = .ok (.putfield 68, 3) := by decide +kernel
theorem dX6_paragraph_63 : decode cX6_paragraph 63 = .ok (.iload_n 1, 1) := by decide +kernel
theorem dX6_paragraph_64 : decode cX6_paragraph 64 = .ok (.ireturn, 1) := by decide +kernel
theorem dX6_cut_0 : decode cX6_cut 0 = .ok (.aload_n 0, 1) := by decide +kernel
theorem dX6_cut_1 : decode cX6_cut 1 = .ok (.getfield 68, 3) := by decide +kernel
theorem dX6_cut_4 : decode cX6_cut 4 = .ok (.ifCond .ne 6, 3) := by decide +kernel
theorem dX6_cut_7 : decode cX6_cut 7 = .ok (.bipush (-3), 2) := by decide +kernel
theorem dX6_cut_9 : decode cX6_cut 9 = .ok (.ireturn, 1) := by decide +kernel
theorem dX6_cut_10 : decode cX6_cut 10 = .ok (.aload_n 0, 1) := by decide +kernel
theorem dX6_cut_11 : decode cX6_cut 11 = .ok (.dup, 1) := by decide +kernel
theorem dX6_cut_12 : decode cX6_cut 12 = .ok (.getfield 68, 3) := by decide +kernel
theorem dX6_cut_15 : decode cX6_cut 15 = .ok (.iconst 1, 1) := by decide +kernel
theorem dX6_cut_16 : decode cX6_cut 16 = .ok (.isub, 1) := by decide +kernel
theorem dX6_cut_17 : decode cX6_cut 17 = .ok (.putfield 68, 3) := by decide +kernel
theorem dX6_cut_20 : decode cX6_cut 20 = .ok (.aload_n 0, 1) := by decide +kernel
theorem dX6_cut_21 : decode cX6_cut 21 = .ok (.getfield 68, 3) := by decide +kernel
theorem dX6_cut_24 : decode cX6_cut 24 = .ok (.ireturn, 1) := by decide +kernel
set_option maxRecDepth 20000 in
theorem ggX6_isItem_X6_within : GoodIn wsX6_isItem wsX6_within := goodIn_r _ [6] (by decide +kernel) (by decide +kernel)
set_option maxRecDepth 20000 in
theorem gX6_isItem_X6_within : GoodIn wsX6_isItem (va_wsS RX6 64 yX6_within wsX6_within) := goodIn_app (goodIn_of _ (by decide +kernel)) ggX6_isItem_X6_within
theorem dX6_isItem_0 : decode cX6_isItem 0 = .ok (.iload_n 2, 1) := by decide +kernel
theorem dX6_isItem_1 : decode cX6_isItem 1 = .ok (.iconst 0, 1) := by decide +kernel
theorem dX6_isItem_2 : decode cX6_isItem 2 = .ok (.aload_n 0, 1) := by decide +kernel
theorem dX6_isItem_3 : decode cX6_isItem 3 = .ok (.getfield 20, 3) := by decide +kernel
theorem dX6_isItem_6 : decode cX6_isItem 6 = .ok (.iload_n 1, 1) := by decide +kernel
theorem dX6_isItem_7 : decode cX6_isItem 7 = .ok (.iaload, 1) := by decide +kernel
theorem dX6_isItem_8 : decode cX6_isItem 8 = .ok (.iconst 1, 1) := by decide +kernel
theorem dX6_isItem_9 : decode cX6_isItem 9 = .ok (.isub, 1) := by decide +kernel
theorem dX6_isItem_10 : decode cX6_isItem 10 = .ok (.invokestatic 64, 3) := by decide +kernel
theorem dX6_isItem_13 : decode cX6_isItem 13 = .ok (.ifCond .eq 22, 3) := by decide +kernel
theorem dX6_isItem_16 : decode cX6_isItem 16 = .ok (.aload_n 0, 1) := by decide +kernel
theorem dX6_isItem_17 : decode cX6_isItem 17 = .ok (.getfield 23, 3) := by decide +kernel
theorem dX6_isItem_20 : decode cX6_isItem 20 = .ok (.bipush 12, 2) := by decide +kernel
theorem dX6_isItem_22 : decode cX6_isItem 22 = .ok (.iload_n 1, 1) := by decide +kernel
theorem dX6_isItem_23 : decode cX6_isItem 23 = .ok (.imul, 1) := by decide +kernel
theorem dX6_isItem_24 : decode cX6_isItem 24 = .ok (.iload_n 2, 1) := by decide +kernel
theorem dX6_isItem_25 : decode cX6_isItem 25 = .ok (.iadd, 1) := by decide +kernel
theorem dX6_isItem_26 : decode cX6_isItem 26 = .ok (.iaload, 1) := by decide +kernel
theorem dX6_isItem_27 : decode cX6_isItem 27 = .ok (.iload_n 3, 1) := by decide +kernel
theorem dX6_isItem_28 : decode cX6_isItem 28 = .ok (.if_icmp .ne 7, 3) := by decide +kernel
theorem dX6_isItem_31 : decode cX6_isItem 31 = .ok (.iconst 1, 1) := by decide +kernel
theorem dX6_isItem_32 : decode cX6_isItem 32 = .ok (.goto 4, 3) := by decide +kernel
theorem dX6_isItem_35 : decode cX6_isItem 35 = .ok (.iconst 0, 1) := by decide +kernel
theorem dX6_isItem_36 : decode cX6_isItem 36 = .ok (.ireturn, 1) := by decide +kernel
set_option maxRecDepth 20000 in
theorem ggX6_isWho_X6_within : GoodIn wsX6_isWho wsX6_within := goodIn_r _ [6] (by decide +kernel) (by decide +kernel)
set_option maxRecDepth 20000 in
theorem gX6_isWho_X6_within : GoodIn wsX6_isWho (va_wsS RX6 64 yX6_within wsX6_within) := goodIn_app (goodIn_of _ (by decide +kernel)) ggX6_isWho_X6_within
theorem dX6_isWho_0 : decode cX6_isWho 0 = .ok (.iload_n 2, 1) := by decide +kernel
theorem dX6_isWho_1 : decode cX6_isWho 1 = .ok (.iconst 0, 1) := by decide +kernel
end
section
theorem dX6_isWho_2 : decode cX6_isWho 2 = .ok (.aload_n 0, 1) := by decide +kernel
theorem dX6_isWho_3 : decode cX6_isWho 3 = .ok (.getfield 20, 3) := by decide +kernel
theorem dX6_isWho_6 : decode cX6_isWho 6 = .ok (.iload_n 1, 1) := by decide +kernel
theorem dX6_isWho_7 : decode cX6_isWho 7 = .ok (.iaload, 1) := by decide +kernel
theorem dX6_isWho_8 : decode cX6_isWho 8 = .ok (.iconst 1, 1) := by decide +kernel
theorem dX6_isWho_9 : decode cX6_isWho 9 = .ok (.isub, 1) := by decide +kernel
theorem dX6_isWho_10 : decode cX6_isWho 10 = .ok (.invokestatic 64, 3) := by decide +kernel
theorem dX6_isWho_13 : decode cX6_isWho 13 = .ok (.ifCond .eq 22, 3) := by decide +kernel
theorem dX6_isWho_16 : decode cX6_isWho 16 = .ok (.aload_n 0, 1) := by decide +kernel
theorem dX6_isWho_17 : decode cX6_isWho 17 = .ok (.getfield 23, 3) := by decide +kernel
theorem dX6_isWho_20 : decode cX6_isWho 20 = .ok (.bipush 12, 2) := by decide +kernel
theorem dX6_isWho_22 : decode cX6_isWho 22 = .ok (.iload_n 1, 1) := by decide +kernel
theorem dX6_isWho_23 : decode cX6_isWho 23 = .ok (.imul, 1) := by decide +kernel
theorem dX6_isWho_24 : decode cX6_isWho 24 = .ok (.iload_n 2, 1) := by decide +kernel
theorem dX6_isWho_25 : decode cX6_isWho 25 = .ok (.iadd, 1) := by decide +kernel
theorem dX6_isWho_26 : decode cX6_isWho 26 = .ok (.iaload, 1) := by decide +kernel
theorem dX6_isWho_27 : decode cX6_isWho 27 = .ok (.iconst 3, 1) := by decide +kernel
theorem dX6_isWho_28 : decode cX6_isWho 28 = .ok (.if_icmp .lt 7, 3) := by decide +kernel
theorem dX6_isWho_31 : decode cX6_isWho 31 = .ok (.iconst 1, 1) := by decide +kernel
theorem dX6_isWho_32 : decode cX6_isWho 32 = .ok (.goto 4, 3) := by decide +kernel
theorem dX6_isWho_35 : decode cX6_isWho 35 = .ok (.iconst 0, 1) := by decide +kernel
theorem dX6_isWho_36 : decode cX6_isWho 36 = .ok (.ireturn, 1) := by decide +kernel
set_option maxRecDepth 20000 in
theorem ggX6_whoOf_X6_isWho : GoodIn wsX6_whoOf wsX6_isWho := goodIn_r _ [5, 6, 7, 8, 9, 4, 10, 11, 12, 13, 14, 15, 16, 17, 18, 19, 20, 21, 22, 23, 24, 25, 26, 27, 28, 29, 30, 31] (by decide +kernel) (by decide +kernel)
set_option maxRecDepth 20000 in
theorem gX6_whoOf_X6_isWho : GoodIn wsX6_whoOf (wsV RX6 119 RX6 yX6_isWho wsX6_isWho) := goodIn_app (goodIn_of _ (by decide +kernel)) ggX6_whoOf_X6_isWho
theorem dX6_whoOf_0 : decode cX6_whoOf 0 = .ok (.aload_n 0, 1) := by decide +kernel
theorem dX6_whoOf_1 : decode cX6_whoOf 1 = .ok (.iload_n 1, 1) := by decide +kernel
theorem dX6_whoOf_2 : decode cX6_whoOf 2 = .ok (.iload_n 2, 1) := by decide +kernel
theorem dX6_whoOf_3 : decode cX6_whoOf 3 = .ok (.iconst 1, 1) := by decide +kernel
theorem dX6_whoOf_4 : decode cX6_whoOf 4 = .ok (.iadd, 1) := by decide +kernel
theorem dX6_whoOf_5 : decode cX6_whoOf 5 = .ok (.invokevirtual 119, 3) := by decide +kernel
theorem dX6_whoOf_8 : decode cX6_whoOf 8 = .ok (.ifCond .eq 9, 3) := by decide +kernel
theorem dX6_whoOf_11 : decode cX6_whoOf 11 = .ok (.iload_n 2, 1) := by decide +kernel
theorem dX6_whoOf_12 : decode cX6_whoOf 12 = .ok (.iconst 1, 1) := by decide +kernel
theorem dX6_whoOf_13 : decode cX6_whoOf 13 = .ok (.iadd, 1) := by decide +kernel
theorem dX6_whoOf_14 : decode cX6_whoOf 14 = .ok (.goto 22, 3) := by decide +kernel
theorem dX6_whoOf_17 : decode cX6_whoOf 17 = .ok (.aload_n 0, 1) := by decide +kernel
theorem dX6_whoOf_18 : decode cX6_whoOf 18 = .ok (.iload_n 1, 1) := by decide +kernel
theorem dX6_whoOf_19 : decode cX6_whoOf 19 = .ok (.iload_n 2, 1) := by decide +kernel
theorem dX6_whoOf_20 : decode cX6_whoOf 20 = .ok (.iconst 1, 1) := by decide +kernel
theorem dX6_whoOf_21 : decode cX6_whoOf 21 = .ok (.isub, 1) := by decide +kernel
theorem dX6_whoOf_22 : decode cX6_whoOf 22 = .ok (.invokevirtual 119, 3) := by decide +kernel
theorem dX6_whoOf_25 : decode cX6_whoOf 25 = .ok (.ifCond .eq 9, 3) := by decide +kernel
theorem dX6_whoOf_28 : decode cX6_whoOf 28 = .ok (.iload_n 2, 1) := by decide +kernel
theorem dX6_whoOf_29 : decode cX6_whoOf 29 = .ok (.iconst 1, 1) := by decide +kernel
theorem dX6_whoOf_30 : decode cX6_whoOf 30 = .ok (.isub, 1) := by decide +kernel
theorem dX6_whoOf_31 : decode cX6_whoOf 31 = .ok (.goto 5, 3) := by decide +kernel
theorem dX6_whoOf_34 : decode cX6_whoOf 34 = .ok (.bipush (-9), 2) := by decide +kernel
theorem dX6_whoOf_36 : decode cX6_whoOf 36 = .ok (.ireturn, 1) := by decide +kernel
set_option maxRecDepth 20000 in
theorem ggX6_counts_X6_isItem : GoodIn wsX6_counts wsX6_isItem := goodIn_r _ [5, 6, 7, 8, 9, 4, 10, 19, 20, 21, 22, 23, 24, 25, 26, 27, 28, 29, 30, 31, 32, 33, 34, 35, 36, 37, 38, 39] (by decide +kernel) (by decide +kernel)
set_option maxRecDepth 20000 in
theorem gX6_counts_X6_isItem : GoodIn wsX6_counts (wsV RX6 122 RX6 yX6_isItem wsX6_isItem) := goodIn_app (goodIn_of _ (by decide +kernel)) ggX6_counts_X6_isItem
set_option maxRecDepth 20000 in
theorem ggX6_counts_X6_whoOf : GoodIn wsX6_counts wsX6_whoOf := goodIn_r _ [14, 15, 16, 17, 4, 18, 6, 7, 8, 9, 10, 19, 20, 21, 22, 23, 24, 25, 26, 27, 28, 29, 30, 31, 32, 33, 34, 35, 36, 37, 38, 39] (by decide +kernel) (by decide +kernel)
set_option maxRecDepth 20000 in
theorem gX6_counts_X6_whoOf : GoodIn wsX6_counts (wsV RX6 125 RX6 yX6_whoOf wsX6_whoOf) := goodIn_app (goodIn_of _ (by decide +kernel)) ggX6_counts_X6_whoOf
theorem dX6_counts_0 : decode cX6_counts 0 = .ok (.aload_n 0, 1) := by decide +kernel
theorem dX6_counts_1 : decode cX6_counts 1 = .ok (.iload_n 1, 1) := by decide +kernel
theorem dX6_counts_2 : decode cX6_counts 2 = .ok (.iload_n 2, 1) := by decide +kernel
theorem dX6_counts_3 : decode cX6_counts 3 = .ok (.iconst 1, 1) := by decide +kernel
theorem dX6_counts_4 : decode cX6_counts 4 = .ok (.invokevirtual 122, 3) := by decide +kernel
theorem dX6_counts_7 : decode cX6_counts 7 = .ok (.ifCond .eq 14, 3) := by decide +kernel
theorem dX6_counts_10 : decode cX6_counts 10 = .ok (.aload_n 0, 1) := by decide +kernel
theorem dX6_counts_11 : decode cX6_counts 11 = .ok (.iload_n 1, 1) := by decide +kernel
theorem dX6_counts_12 : decode cX6_counts 12 = .ok (.iload_n 2, 1) := by decide +kernel
theorem dX6_counts_13 : decode cX6_counts 13 = .ok (.invokevirtual 125, 3) := by decide +kernel
theorem dX6_counts_16 : decode cX6_counts 16 = .ok (.bipush (-9), 2) := by decide +kernel
theorem dX6_counts_18 : decode cX6_counts 18 = .ok (.if_icmp .ne 5, 3) := by decide +kernel
theorem dX6_counts_21 : decode cX6_counts 21 = .ok (.iconst 0, 1) := by decide +kernel
theorem dX6_counts_22 : decode cX6_counts 22 = .ok (.ireturn, 1) := by decide +kernel
theorem dX6_counts_23 : decode cX6_counts 23 = .ok (.aload_n 0, 1) := by decide +kernel
theorem dX6_counts_24 : decode cX6_counts 24 = .ok (.iload_n 1, 1) := by decide +kernel
theorem dX6_counts_25 : decode cX6_counts 25 = .ok (.iload_n 2, 1) := by decide +kernel
theorem dX6_counts_26 : decode cX6_counts 26 = .ok (.invokevirtual 125, 3) := by decide +kernel
theorem dX6_counts_29 : decode cX6_counts 29 = .ok (.iload_n 2, 1) := by decide +kernel
theorem dX6_counts_30 : decode cX6_counts 30 = .ok (.if_icmp .ge 9, 3) := by decide +kernel
theorem dX6_counts_33 : decode cX6_counts 33 = .ok (.iload_n 2, 1) := by decide +kernel
theorem dX6_counts_34 : decode cX6_counts 34 = .ok (.iconst 1, 1) := by decide +kernel
theorem dX6_counts_35 : decode cX6_counts 35 = .ok (.isub, 1) := by decide +kernel
theorem dX6_counts_36 : decode cX6_counts 36 = .ok (.goto 4, 3) := by decide +kernel
theorem dX6_counts_39 : decode cX6_counts 39 = .ok (.iload_n 2, 1) := by decide +kernel
theorem dX6_counts_40 : decode cX6_counts 40 = .ok (.istore_n 3, 1) := by decide +kernel
theorem dX6_counts_41 : decode cX6_counts 41 = .ok (.aload_n 0, 1) := by decide +kernel
theorem dX6_counts_42 : decode cX6_counts 42 = .ok (.iload_n 1, 1) := by decide +kernel
theorem dX6_counts_43 : decode cX6_counts 43 = .ok (.iload_n 3, 1) := by decide +kernel
theorem dX6_counts_44 : decode cX6_counts 44 = .ok (.iconst 1, 1) := by decide +kernel
theorem dX6_counts_45 : decode cX6_counts 45 = .ok (.isub, 1) := by decide +kernel
theorem dX6_counts_46 : decode cX6_counts 46 = .ok (.iconst 0, 1) := by decide +kernel
theorem dX6_counts_47 : decode cX6_counts 47 = .ok (.invokevirtual 122, 3) := by decide +kernel
theorem dX6_counts_50 : decode cX6_counts 50 = .ok (.ifCond .ne 15, 3) := by decide +kernel
theorem dX6_counts_53 : decode cX6_counts 53 = .ok (.aload_n 0, 1) := by decide +kernel
theorem dX6_counts_54 : decode cX6_counts 54 = .ok (.iload_n 1, 1) := by decide +kernel
theorem dX6_counts_55 : decode cX6_counts 55 = .ok (.iload_n 3, 1) := by decide +kernel
theorem dX6_counts_56 : decode cX6_counts 56 = .ok (.iconst 2, 1) := by decide +kernel
theorem dX6_counts_57 : decode cX6_counts 57 = .ok (.iadd, 1) := by decide +kernel
theorem dX6_counts_58 : decode cX6_counts 58 = .ok (.iconst 0, 1) := by decide +kernel
theorem dX6_counts_59 : decode cX6_counts 59 = .ok (.invokevirtual 122, 3) := by decide +kernel
theorem dX6_counts_62 : decode cX6_counts 62 = .ok (.ifCond .eq 7, 3) := by decide +kernel
theorem dX6_counts_65 : decode cX6_counts 65 = .ok (.iconst 1, 1) := by decide +kernel
theorem dX6_counts_66 : decode cX6_counts 66 = .ok (.goto 4, 3) := by decide +kernel
theorem dX6_counts_69 : decode cX6_counts 69 = .ok (.iconst 0, 1) := by decide +kernel
theorem dX6_counts_70 : decode cX6_counts 70 = .ok (.ireturn, 1) := by decide +kernel
set_option maxRecDepth 20000 in
theorem ggX6_manyCounting_X6_counts : GoodIn wsX6_manyCounting wsX6_counts := goodIn_r _ [6, 7, 8, 9, 5, 10, 1, 11, 12, 13, 14, 15, 16, 17, 18, 19, 20, 21, 22, 23, 24, 25, 26, 27, 28, 29, 30, 31, 32, 33, 34, 35, 36, 37, 38, 39, 40, 41, 42, 43] (by decide +kernel) (by decide +kernel)
set_option maxRecDepth 20000 in
theorem gX6_manyCounting_X6_counts : GoodIn wsX6_manyCounting (wsV RX6 128 RX6 yX6_counts wsX6_counts) := goodIn_app (goodIn_of _ (by decide +kernel)) ggX6_manyCounting_X6_counts
theorem dX6_manyCounting_0 : decode cX6_manyCounting 0 = .ok (.iconst 0, 1) := by decide +kernel
theorem dX6_manyCounting_1 : decode cX6_manyCounting 1 = .ok (.istore_n 2, 1) := by decide +kernel
theorem dX6_manyCounting_2 : decode cX6_manyCounting 2 = .ok (.iconst 0, 1) := by decide +kernel
theorem dX6_manyCounting_3 : decode cX6_manyCounting 3 = .ok (.istore_n 3, 1) := by decide +kernel
theorem dX6_manyCounting_4 : decode cX6_manyCounting 4 = .ok (.iload_n 3, 1) := by decide +kernel
theorem dX6_manyCounting_5 : decode cX6_manyCounting 5 = .ok (.aload_n 0, 1) := by decide +kernel
theorem dX6_manyCounting_6 : decode cX6_manyCounting 6 = .ok (.getfield 20, 3) := by decide +kernel
theorem dX6_manyCounting_9 : decode cX6_manyCounting 9 = .ok (.iload_n 1, 1) := by decide +kernel
theorem dX6_manyCounting_10 : decode cX6_manyCounting 10 = .ok (.iaload, 1) := by decide +kernel
theorem dX6_manyCounting_11 : decode cX6_manyCounting 11 = .ok (.if_icmp .ge 26, 3) := by decide +kernel
theorem dX6_manyCounting_14 : decode cX6_manyCounting 14 = .ok (.iload_n 2, 1) := by decide +kernel
theorem dX6_manyCounting_15 : decode cX6_manyCounting 15 = .ok (.aload_n 0, 1) := by decide +kernel
theorem dX6_manyCounting_16 : decode cX6_manyCounting 16 = .ok (.iload_n 1, 1) := by decide +kernel
theorem dX6_manyCounting_17 : decode cX6_manyCounting 17 = .ok (.iload_n 3, 1) := by decide +kernel
theorem dX6_manyCounting_18 : decode cX6_manyCounting 18 = .ok (.invokevirtual 128, 3) := by decide +kernel
theorem dX6_manyCounting_21 : decode cX6_manyCounting 21 = .ok (.ifCond .eq 7, 3) := by decide +kernel
theorem dX6_manyCounting_24 : decode cX6_manyCounting 24 = .ok (.iconst 1, 1) := by decide +kernel
theorem dX6_manyCounting_25 : decode cX6_manyCounting 25 = .ok (.goto 4, 3) := by decide +kernel
theorem dX6_manyCounting_28 : decode cX6_manyCounting 28 = .ok (.iconst 0, 1) := by decide +kernel
theorem dX6_manyCounting_29 : decode cX6_manyCounting 29 = .ok (.iadd, 1) := by decide +kernel
theorem dX6_manyCounting_30 : decode cX6_manyCounting 30 = .ok (.istore_n 2, 1) := by decide +kernel
theorem dX6_manyCounting_31 : decode cX6_manyCounting 31 = .ok (.iinc 3 1, 3) := by decide +kernel
theorem dX6_manyCounting_34 : decode cX6_manyCounting 34 = .ok (.goto (-30), 3) := by decide +kernel
theorem dX6_manyCounting_37 : decode cX6_manyCounting 37 = .ok (.iload_n 2, 1) := by decide +kernel
theorem dX6_manyCounting_38 : decode cX6_manyCounting 38 = .ok (.ireturn, 1) := by decide +kernel
set_option maxRecDepth 20000 in
theorem ggX6_ofParagraph_X6_isParagraph : GoodIn wsX6_ofParagraph wsX6_isParagraph := goodIn_r _ [9, 10, 11, 12, 8, 13, 39, 40, 41, 42, 43, 44, 45, 46, 47, 48, 49, 50, 51, 52, 53, 54, 55, 56, 57, 58, 59] (by decide +kernel) (by decide +kernel)
set_option maxRecDepth 20000 in
theorem gX6_ofParagraph_X6_isParagraph : GoodIn wsX6_ofParagraph (wsV RX6 131 RX6 yX6_isParagraph wsX6_isParagraph) := goodIn_app (goodIn_of _ (by decide +kernel)) ggX6_ofParagraph_X6_isParagraph
set_option maxRecDepth 20000 in
theorem ggX6_ofParagraph_X6_manyOf : GoodIn wsX6_ofParagraph wsX6_manyOf := goodIn_r _ [17, 1, 18, 39, 40, 41, 42, 43, 44, 45, 46, 47, 48, 49, 50, 51, 52, 53, 54, 55, 56, 57, 58, 59] (by decide +kernel) (by decide +kernel)
set_option maxRecDepth 20000 in
theorem gX6_ofParagraph_X6_manyOf : GoodIn wsX6_ofParagraph (wsV RX6 99 RX6 yX6_manyOf wsX6_manyOf) := goodIn_app (goodIn_of _ (by decide +kernel)) ggX6_ofParagraph_X6_manyOf
set_option maxRecDepth 20000 in
theorem ggX6_ofParagraph_X6_manyCounting : GoodIn wsX6_ofParagraph wsX6_manyCounting := goodIn_r _ [22, 1, 23, 24, 25, 8, 26, 27, 28, 29, 30, 18, 11, 12, 13, 31, 32, 33, 34, 35, 36, 37, 38, 39, 40, 41, 42, 43, 44, 45, 46, 47, 48, 49, 50, 51, 52, 53, 54, 55, 56, 57, 58, 59] (by decide +kernel) (by decide +kernel)
set_option maxRecDepth 20000 in
theorem gX6_ofParagraph_X6_manyCounting : GoodIn wsX6_ofParagraph (wsV RX6 134 RX6 yX6_manyCounting wsX6_manyCounting) := goodIn_app (goodIn_of _ (by decide +kernel)) ggX6_ofParagraph_X6_manyCounting
theorem dX6_ofParagraph_0 : decode cX6_ofParagraph 0 = .ok (.aload_n 0, 1) := by decide +kernel
theorem dX6_ofParagraph_1 : decode cX6_ofParagraph 1 = .ok (.iload_n 1, 1) := by decide +kernel
theorem dX6_ofParagraph_2 : decode cX6_ofParagraph 2 = .ok (.invokevirtual 131, 3) := by decide +kernel
theorem dX6_ofParagraph_5 : decode cX6_ofParagraph 5 = .ok (.ifCond .ne 5, 3) := by decide +kernel
theorem dX6_ofParagraph_8 : decode cX6_ofParagraph 8 = .ok (.iconst (-1), 1) := by decide +kernel
theorem dX6_ofParagraph_9 : decode cX6_ofParagraph 9 = .ok (.ireturn, 1) := by decide +kernel
theorem dX6_ofParagraph_10 : decode cX6_ofParagraph 10 = .ok (.iload_n 2, 1) := by decide +kernel
theorem dX6_ofParagraph_11 : decode cX6_ofParagraph 11 = .ok (.tableswitch 86 0 5 #[37, 44, 51, 66, 73, 79], 37) := by decide +kernel
theorem dX6_ofParagraph_48 : decode cX6_ofParagraph 48 = .ok (.aload_n 0, 1) := by decide +kernel
theorem dX6_ofParagraph_49 : decode cX6_ofParagraph 49 = .ok (.getfield 20, 3) := by decide +kernel
theorem dX6_ofParagraph_52 : decode cX6_ofParagraph 52 = .ok (.iload_n 1, 1) := by decide +kernel
theorem dX6_ofParagraph_53 : decode cX6_ofParagraph 53 = .ok (.iaload, 1) := by decide +kernel
theorem dX6_ofParagraph_54 : decode cX6_ofParagraph 54 = .ok (.ireturn, 1) := by decide +kernel
theorem dX6_ofParagraph_55 : decode cX6_ofParagraph 55 = .ok (.aload_n 0, 1) := by decide +kernel
theorem dX6_ofParagraph_56 : decode cX6_ofParagraph 56 = .ok (.iload_n 1, 1) := by decide +kernel
theorem dX6_ofParagraph_57 : decode cX6_ofParagraph 57 = .ok (.iconst 0, 1) := by decide +kernel
theorem dX6_ofParagraph_58 : decode cX6_ofParagraph 58 = .ok (.invokevirtual 99, 3) := by decide +kernel
theorem dX6_ofParagraph_61 : decode cX6_ofParagraph 61 = .ok (.ireturn, 1) := by decide +kernel
theorem dX6_ofParagraph_62 : decode cX6_ofParagraph 62 = .ok (.aload_n 0, 1) := by decide +kernel
theorem dX6_ofParagraph_63 : decode cX6_ofParagraph 63 = .ok (.getfield 29, 3) := by decide +kernel
theorem dX6_ofParagraph_66 : decode cX6_ofParagraph 66 = .ok (.iload_n 1, 1) := by decide +kernel
theorem dX6_ofParagraph_67 : decode cX6_ofParagraph 67 = .ok (.baload, 1) := by decide +kernel
theorem dX6_ofParagraph_68 : decode cX6_ofParagraph 68 = .ok (.ifCond .eq 7, 3) := by decide +kernel
theorem dX6_ofParagraph_71 : decode cX6_ofParagraph 71 = .ok (.iconst 1, 1) := by decide +kernel
theorem dX6_ofParagraph_72 : decode cX6_ofParagraph 72 = .ok (.goto 4, 3) := by decide +kernel
theorem dX6_ofParagraph_75 : decode cX6_ofParagraph 75 = .ok (.iconst 0, 1) := by decide +kernel
theorem dX6_ofParagraph_76 : decode cX6_ofParagraph 76 = .ok (.ireturn, 1) := by decide +kernel
theorem dX6_ofParagraph_77 : decode cX6_ofParagraph 77 = .ok (.aload_n 0, 1) := by decide +kernel
theorem dX6_ofParagraph_78 : decode cX6_ofParagraph 78 = .ok (.getfield 33, 3) := by decide +kernel
theorem dX6_ofParagraph_81 : decode cX6_ofParagraph 81 = .ok (.iload_n 1, 1) := by decide +kernel
theorem dX6_ofParagraph_82 : decode cX6_ofParagraph 82 = .ok (.iaload, 1) := by decide +kernel
theorem dX6_ofParagraph_83 : decode cX6_ofParagraph 83 = .ok (.ireturn, 1) := by decide +kernel
theorem dX6_ofParagraph_84 : decode cX6_ofParagraph 84 = .ok (.aload_n 0, 1) := by decide +kernel
theorem dX6_ofParagraph_85 : decode cX6_ofParagraph 85 = .ok (.iload_n 1, 1) := by decide +kernel
theorem dX6_ofParagraph_86 : decode cX6_ofParagraph 86 = .ok (.invokevirtual 134, 3) := by decide +kernel
theorem dX6_ofParagraph_89 : decode cX6_ofParagraph 89 = .ok (.ireturn, 1) := by decide +kernel
theorem dX6_ofParagraph_90 : decode cX6_ofParagraph 90 = .ok (.aload_n 0, 1) := by decide +kernel
theorem dX6_ofParagraph_91 : decode cX6_ofParagraph 91 = .ok (.getfield 36, 3) := by decide +kernel
theorem dX6_ofParagraph_94 : decode cX6_ofParagraph 94 = .ok (.iload_n 1, 1) := by decide +kernel
theorem dX6_ofParagraph_95 : decode cX6_ofParagraph 95 = .ok (.iaload, 1) := by decide +kernel
theorem dX6_ofParagraph_96 : decode cX6_ofParagraph 96 = .ok (.ireturn, 1) := by decide +kernel
theorem dX6_ofParagraph_97 : decode cX6_ofParagraph 97 = .ok (.bipush (-2), 2) := by decide +kernel
theorem dX6_ofParagraph_99 : decode cX6_ofParagraph 99 = .ok (.ireturn, 1) := by decide +kernel
theorem dX6_ofSort_0 : decode cX6_ofSort 0 = .ok (.iconst 0, 1) := by decide +kernel
theorem dX6_ofSort_1 : decode cX6_ofSort 1 = .ok (.istore_n 2, 1) := by decide +kernel
theorem dX6_ofSort_2 : decode cX6_ofSort 2 = .ok (.iconst 0, 1) := by decide +kernel
theorem dX6_ofSort_3 : decode cX6_ofSort 3 = .ok (.istore_n 3, 1) := by decide +kernel
theorem dX6_ofSort_4 : decode cX6_ofSort 4 = .ok (.iload_n 3, 1) := by decide +kernel
theorem dX6_ofSort_5 : decode cX6_ofSort 5 = .ok (.bipush 8, 2) := by decide +kernel
theorem dX6_ofSort_7 : decode cX6_ofSort 7 = .ok (.if_icmp .ge 29, 3) := by decide +kernel
theorem dX6_ofSort_10 : decode cX6_ofSort 10 = .ok (.iload_n 2, 1) := by decide +kernel
theorem dX6_ofSort_11 : decode cX6_ofSort 11 = .ok (.aload_n 0, 1) := by decide +kernel
theorem dX6_ofSort_12 : decode cX6_ofSort 12 = .ok (.getfield 7, 3) := by decide +kernel
theorem dX6_ofSort_15 : decode cX6_ofSort 15 = .ok (.iload_n 3, 1) := by decide +kernel
theorem dX6_ofSort_16 : decode cX6_ofSort 16 = .ok (.iaload, 1) := by decide +kernel
theorem dX6_ofSort_17 : decode cX6_ofSort 17 = .ok (.iload_n 1, 1) := by decide +kernel
theorem dX6_ofSort_18 : decode cX6_ofSort 18 = .ok (.if_icmp .ne 9, 3) := by decide +kernel
theorem dX6_ofSort_21 : decode cX6_ofSort 21 = .ok (.iconst 1, 1) := by decide +kernel
theorem dX6_ofSort_22 : decode cX6_ofSort 22 = .ok (.iload_n 3, 1) := by decide +kernel
theorem dX6_ofSort_23 : decode cX6_ofSort 23 = .ok (.ishl, 1) := by decide +kernel
theorem dX6_ofSort_24 : decode cX6_ofSort 24 = .ok (.goto 4, 3) := by decide +kernel
theorem dX6_ofSort_27 : decode cX6_ofSort 27 = .ok (.iconst 0, 1) := by decide +kernel
theorem dX6_ofSort_28 : decode cX6_ofSort 28 = .ok (.ior, 1) := by decide +kernel
theorem dX6_ofSort_29 : decode cX6_ofSort 29 = .ok (.istore_n 2, 1) := by decide +kernel
theorem dX6_ofSort_30 : decode cX6_ofSort 30 = .ok (.iinc 3 1, 3) := by decide +kernel
theorem dX6_ofSort_33 : decode cX6_ofSort 33 = .ok (.goto (-29), 3) := by decide +kernel
theorem dX6_ofSort_36 : decode cX6_ofSort 36 = .ok (.iload_n 2, 1) := by decide +kernel
theorem dX6_ofSort_37 : decode cX6_ofSort 37 = .ok (.ireturn, 1) := by decide +kernel
set_option maxRecDepth 20000 in
theorem ggX6_byWho_X6_ofSort : GoodIn wsX6_byWho wsX6_ofSort := goodIn_r _ [7, 8, 9, 10, 11, 12, 13, 14, 15, 16, 17, 18, 19, 20, 21, 22, 23, 24, 25, 26, 27, 28, 29] (by decide +kernel) (by decide +kernel)
set_option maxRecDepth 20000 in
theorem gX6_byWho_X6_ofSort : GoodIn wsX6_byWho (wsV RX6 137 RX6 yX6_ofSort wsX6_ofSort) := goodIn_app (goodIn_of _ (by decide +kernel)) ggX6_byWho_X6_ofSort
theorem dX6_byWho_0 : decode cX6_byWho 0 = .ok (.aload_n 0, 1) := by decide +kernel
theorem dX6_byWho_1 : decode cX6_byWho 1 = .ok (.getfield 23, 3) := by decide +kernel
theorem dX6_byWho_4 : decode cX6_byWho 4 = .ok (.bipush 12, 2) := by decide +kernel
theorem dX6_byWho_6 : decode cX6_byWho 6 = .ok (.iload_n 1, 1) := by decide +kernel
theorem dX6_byWho_7 : decode cX6_byWho 7 = .ok (.imul, 1) := by decide +kernel
theorem dX6_byWho_8 : decode cX6_byWho 8 = .ok (.iload_n 2, 1) := by decide +kernel
theorem dX6_byWho_9 : decode cX6_byWho 9 = .ok (.iadd, 1) := by decide +kernel
theorem dX6_byWho_10 : decode cX6_byWho 10 = .ok (.iaload, 1) := by decide +kernel
theorem dX6_byWho_11 : decode cX6_byWho 11 = .ok (.istore_n 3, 1) := by decide +kernel
theorem dX6_byWho_12 : decode cX6_byWho 12 = .ok (.iload_n 3, 1) := by decide +kernel
theorem dX6_byWho_13 : decode cX6_byWho 13 = .ok (.iconst 3, 1) := by decide +kernel
theorem dX6_byWho_14 : decode cX6_byWho 14 = .ok (.if_icmp .ne 11, 3) := by decide +kernel
theorem dX6_byWho_17 : decode cX6_byWho 17 = .ok (.aload_n 0, 1) := by decide +kernel
theorem dX6_byWho_18 : decode cX6_byWho 18 = .ok (.iconst 0, 1) := by decide +kernel
theorem dX6_byWho_19 : decode cX6_byWho 19 = .ok (.invokevirtual 137, 3) := by decide +kernel
theorem dX6_byWho_22 : decode cX6_byWho 22 = .ok (.goto 29, 3) := by decide +kernel
theorem dX6_byWho_25 : decode cX6_byWho 25 = .ok (.iload_n 3, 1) := by decide +kernel
theorem dX6_byWho_26 : decode cX6_byWho 26 = .ok (.iconst 4, 1) := by decide +kernel
theorem dX6_byWho_27 : decode cX6_byWho 27 = .ok (.if_icmp .ne 11, 3) := by decide +kernel
theorem dX6_byWho_30 : decode cX6_byWho 30 = .ok (.aload_n 0, 1) := by decide +kernel
theorem dX6_byWho_31 : decode cX6_byWho 31 = .ok (.iconst 1, 1) := by decide +kernel
theorem dX6_byWho_32 : decode cX6_byWho 32 = .ok (.invokevirtual 137, 3) := by decide +kernel
theorem dX6_byWho_35 : decode cX6_byWho 35 = .ok (.goto 16, 3) := by decide +kernel
theorem dX6_byWho_38 : decode cX6_byWho 38 = .ok (.iconst 1, 1) := by decide +kernel
theorem dX6_byWho_39 : decode cX6_byWho 39 = .ok (.aload_n 0, 1) := by decide +kernel
theorem dX6_byWho_40 : decode cX6_byWho 40 = .ok (.getfield 26, 3) := by decide +kernel
theorem dX6_byWho_43 : decode cX6_byWho 43 = .ok (.bipush 12, 2) := by decide +kernel
theorem dX6_byWho_45 : decode cX6_byWho 45 = .ok (.iload_n 1, 1) := by decide +kernel
theorem dX6_byWho_46 : decode cX6_byWho 46 = .ok (.imul, 1) := by decide +kernel
theorem dX6_byWho_47 : decode cX6_byWho 47 = .ok (.iload_n 2, 1) := by decide +kernel
theorem dX6_byWho_48 : decode cX6_byWho 48 = .ok (.iadd, 1) := by decide +kernel
theorem dX6_byWho_49 : decode cX6_byWho 49 = .ok (.iaload, 1) := by decide +kernel
theorem dX6_byWho_50 : decode cX6_byWho 50 = .ok (.ishl, 1) := by decide +kernel
theorem dX6_byWho_51 : decode cX6_byWho 51 = .ok (.ireturn, 1) := by decide +kernel
set_option maxRecDepth 20000 in
theorem ggX6_ownOf_X6_there : GoodIn wsX6_ownOf wsX6_there := goodIn_r _ [10, 11, 47, 48, 49, 50, 51, 52, 53, 54, 55, 56, 57, 58, 59, 60, 61, 62, 63, 64, 65, 66, 67] (by decide +kernel) (by decide +kernel)
set_option maxRecDepth 20000 in
theorem gX6_ownOf_X6_there : GoodIn wsX6_ownOf (wsV RX6 92 RX6 yX6_there wsX6_there) := goodIn_app (goodIn_of _ (by decide +kernel)) ggX6_ownOf_X6_there
set_option maxRecDepth 20000 in
theorem ggX6_ownOf_X6_isItem : GoodIn wsX6_ownOf wsX6_isItem := goodIn_r _ [15, 2, 16, 17, 18, 9, 19, 47, 48, 49, 50, 51, 52, 53, 54, 55, 56, 57, 58, 59, 60, 61, 62, 63, 64, 65, 66, 67] (by decide +kernel) (by decide +kernel)
set_option maxRecDepth 20000 in
theorem gX6_ownOf_X6_isItem : GoodIn wsX6_ownOf (wsV RX6 122 RX6 yX6_isItem wsX6_isItem) := goodIn_app (goodIn_of _ (by decide +kernel)) ggX6_ownOf_X6_isItem
set_option maxRecDepth 20000 in
theorem ggX6_ownOf_X6_has : GoodIn wsX6_ownOf wsX6_has := goodIn_r _ [22] (by decide +kernel) (by decide +kernel)
set_option maxRecDepth 20000 in
theorem gX6_ownOf_X6_has : GoodIn wsX6_ownOf (va_wsS RX6 85 yX6_has wsX6_has) := goodIn_app (goodIn_of _ (by decide +kernel)) ggX6_ownOf_X6_has
set_option maxRecDepth 20000 in
theorem ggX6_ownOf_X6_counts : GoodIn wsX6_ownOf wsX6_counts := goodIn_r _ [26, 12, 13, 14, 9, 15, 2, 16, 17, 18, 19, 27, 28, 29, 30, 31, 32, 33, 34, 47, 48, 49, 50, 51, 52, 53, 54, 55, 56, 57, 58, 59, 60, 61, 62, 63, 64, 65, 66, 67] (by decide +kernel) (by decide +kernel)
set_option maxRecDepth 20000 in
theorem gX6_ownOf_X6_counts : GoodIn wsX6_ownOf (wsV RX6 128 RX6 yX6_counts wsX6_counts) := goodIn_app (goodIn_of _ (by decide +kernel)) ggX6_ownOf_X6_counts
set_option maxRecDepth 20000 in
theorem ggX6_ownOf_X6_whoOf : GoodIn wsX6_ownOf wsX6_whoOf := goodIn_r _ [30, 31, 32, 33, 9, 34, 2, 16, 17, 18, 19, 47, 48, 49, 50, 51, 52, 53, 54, 55, 56, 57, 58, 59, 60, 61, 62, 63, 64, 65, 66, 67] (by decide +kernel) (by decide +kernel)
set_option maxRecDepth 20000 in
theorem gX6_ownOf_X6_whoOf : GoodIn wsX6_ownOf (wsV RX6 125 RX6 yX6_whoOf wsX6_whoOf) := goodIn_app (goodIn_of _ (by decide +kernel)) ggX6_ownOf_X6_whoOf
set_option maxRecDepth 20000 in
theorem ggX6_ownOf_X6_byWho : GoodIn wsX6_ownOf wsX6_byWho := goodIn_r _ [38, 16, 3, 39, 40, 41, 9, 42, 11, 47, 48, 49, 50, 51, 52, 53, 54, 55, 56, 57, 58, 59, 60, 61, 62, 63, 64, 65, 66, 67] (by decide +kernel) (by decide +kernel)
set_option maxRecDepth 20000 in
theorem gX6_ownOf_X6_byWho : GoodIn wsX6_ownOf (wsV RX6 140 RX6 yX6_byWho wsX6_byWho) := goodIn_app (goodIn_of _ (by decide +kernel)) ggX6_ownOf_X6_byWho
set_option maxRecDepth 20000 in
theorem ggX6_ownOf_X6_manyCounting : GoodIn wsX6_ownOf wsX6_manyCounting := goodIn_r _ [46, 2, 23, 24, 25, 9, 26, 12, 13, 14, 15, 16, 17, 18, 19, 27, 28, 29, 30, 31, 32, 33, 34, 47, 48, 49, 50, 51, 52, 53, 54, 55, 56, 57, 58, 59, 60, 61, 62, 63, 64, 65, 66, 67] (by decide +kernel) (by decide +kernel)
set_option maxRecDepth 20000 in
theorem gX6_ownOf_X6_manyCounting : GoodIn wsX6_ownOf (wsV RX6 134 RX6 yX6_manyCounting wsX6_manyCounting) := goodIn_app (goodIn_of _ (by decide +kernel)) ggX6_ownOf_X6_manyCounting
theorem dX6_ownOf_0 : decode cX6_ownOf 0 = .ok (.aload_n 0, 1) := by decide +kernel
theorem dX6_ownOf_1 : decode cX6_ownOf 1 = .ok (.getfield 33, 3) := by decide +kernel
theorem dX6_ownOf_4 : decode cX6_ownOf 4 = .ok (.iload_n 1, 1) := by decide +kernel
theorem dX6_ownOf_5 : decode cX6_ownOf 5 = .ok (.iaload, 1) := by decide +kernel
theorem dX6_ownOf_6 : decode cX6_ownOf 6 = .ok (.aload_n 0, 1) := by decide +kernel
theorem dX6_ownOf_7 : decode cX6_ownOf 7 = .ok (.invokevirtual 92, 3) := by decide +kernel
theorem dX6_ownOf_10 : decode cX6_ownOf 10 = .ok (.iand, 1) := by decide +kernel
theorem dX6_ownOf_11 : decode cX6_ownOf 11 = .ok (.istore_n 2, 1) := by decide +kernel
theorem dX6_ownOf_12 : decode cX6_ownOf 12 = .ok (.iconst 0, 1) := by decide +kernel
theorem dX6_ownOf_13 : decode cX6_ownOf 13 = .ok (.istore_n 3, 1) := by decide +kernel
theorem dX6_ownOf_14 : decode cX6_ownOf 14 = .ok (.iload_n 3, 1) := by decide +kernel
theorem dX6_ownOf_15 : decode cX6_ownOf 15 = .ok (.aload_n 0, 1) := by decide +kernel
theorem dX6_ownOf_16 : decode cX6_ownOf 16 = .ok (.getfield 20, 3) := by decide +kernel
theorem dX6_ownOf_19 : decode cX6_ownOf 19 = .ok (.iload_n 1, 1) := by decide +kernel
theorem dX6_ownOf_20 : decode cX6_ownOf 20 = .ok (.iaload, 1) := by decide +kernel
theorem dX6_ownOf_21 : decode cX6_ownOf 21 = .ok (.if_icmp .ge 122, 3) := by decide +kernel
theorem dX6_ownOf_24 : decode cX6_ownOf 24 = .ok (.aload_n 0, 1) := by decide +kernel
theorem dX6_ownOf_25 : decode cX6_ownOf 25 = .ok (.iload_n 1, 1) := by decide +kernel
theorem dX6_ownOf_26 : decode cX6_ownOf 26 = .ok (.iload_n 3, 1) := by decide +kernel
theorem dX6_ownOf_27 : decode cX6_ownOf 27 = .ok (.iconst 0, 1) := by decide +kernel
theorem dX6_ownOf_28 : decode cX6_ownOf 28 = .ok (.invokevirtual 122, 3) := by decide +kernel
theorem dX6_ownOf_31 : decode cX6_ownOf 31 = .ok (.ifCond .eq 23, 3) := by decide +kernel
theorem dX6_ownOf_34 : decode cX6_ownOf 34 = .ok (.aload_n 0, 1) := by decide +kernel
theorem dX6_ownOf_35 : decode cX6_ownOf 35 = .ok (.getfield 26, 3) := by decide +kernel
theorem dX6_ownOf_38 : decode cX6_ownOf 38 = .ok (.bipush 12, 2) := by decide +kernel
theorem dX6_ownOf_40 : decode cX6_ownOf 40 = .ok (.iload_n 1, 1) := by decide +kernel
theorem dX6_ownOf_41 : decode cX6_ownOf 41 = .ok (.imul, 1) := by decide +kernel
theorem dX6_ownOf_42 : decode cX6_ownOf 42 = .ok (.iload_n 3, 1) := by decide +kernel
theorem dX6_ownOf_43 : decode cX6_ownOf 43 = .ok (.iadd, 1) := by decide +kernel
theorem dX6_ownOf_44 : decode cX6_ownOf 44 = .ok (.iaload, 1) := by decide +kernel
theorem dX6_ownOf_45 : decode cX6_ownOf 45 = .ok (.bipush (-9), 2) := by decide +kernel
theorem dX6_ownOf_47 : decode cX6_ownOf 47 = .ok (.if_icmp .eq 7, 3) := by decide +kernel
theorem dX6_ownOf_50 : decode cX6_ownOf 50 = .ok (.iconst 1, 1) := by decide +kernel
theorem dX6_ownOf_51 : decode cX6_ownOf 51 = .ok (.goto 4, 3) := by decide +kernel
theorem dX6_ownOf_54 : decode cX6_ownOf 54 = .ok (.iconst 0, 1) := by decide +kernel
theorem dX6_ownOf_55 : decode cX6_ownOf 55 = .ok (.istore 4, 2) := by decide +kernel
theorem dX6_ownOf_57 : decode cX6_ownOf 57 = .ok (.iload_n 2, 1) := by decide +kernel
theorem dX6_ownOf_58 : decode cX6_ownOf 58 = .ok (.iload 4, 2) := by decide +kernel
theorem dX6_ownOf_60 : decode cX6_ownOf 60 = .ok (.ifCond .eq 32, 3) := by decide +kernel
theorem dX6_ownOf_63 : decode cX6_ownOf 63 = .ok (.aload_n 0, 1) := by decide +kernel
theorem dX6_ownOf_64 : decode cX6_ownOf 64 = .ok (.getfield 13, 3) := by decide +kernel
theorem dX6_ownOf_67 : decode cX6_ownOf 67 = .ok (.iconst 0, 1) := by decide +kernel
theorem dX6_ownOf_68 : decode cX6_ownOf 68 = .ok (.invokestatic 85, 3) := by decide +kernel
theorem dX6_ownOf_71 : decode cX6_ownOf 71 = .ok (.ifCond .eq 21, 3) := by decide +kernel
theorem dX6_ownOf_74 : decode cX6_ownOf 74 = .ok (.iconst 1, 1) := by decide +kernel
theorem dX6_ownOf_75 : decode cX6_ownOf 75 = .ok (.aload_n 0, 1) := by decide +kernel
theorem dX6_ownOf_76 : decode cX6_ownOf 76 = .ok (.getfield 26, 3) := by decide +kernel
theorem dX6_ownOf_79 : decode cX6_ownOf 79 = .ok (.bipush 12, 2) := by decide +kernel
theorem dX6_ownOf_81 : decode cX6_ownOf 81 = .ok (.iload_n 1, 1) := by decide +kernel
theorem dX6_ownOf_82 : decode cX6_ownOf 82 = .ok (.imul, 1) := by decide +kernel
theorem dX6_ownOf_83 : decode cX6_ownOf 83 = .ok (.iload_n 3, 1) := by decide +kernel
theorem dX6_ownOf_84 : decode cX6_ownOf 84 = .ok (.iadd, 1) := by decide +kernel
theorem dX6_ownOf_85 : decode cX6_ownOf 85 = .ok (.iaload, 1) := by decide +kernel
theorem dX6_ownOf_86 : decode cX6_ownOf 86 = .ok (.ishl, 1) := by decide +kernel
theorem dX6_ownOf_87 : decode cX6_ownOf 87 = .ok (.iconst (-1), 1) := by decide +kernel
theorem dX6_ownOf_88 : decode cX6_ownOf 88 = .ok (.ixor, 1) := by decide +kernel
theorem dX6_ownOf_89 : decode cX6_ownOf 89 = .ok (.goto 6, 3) := by decide +kernel
theorem dX6_ownOf_92 : decode cX6_ownOf 92 = .ok (.sipush 255, 3) := by decide +kernel
theorem dX6_ownOf_95 : decode cX6_ownOf 95 = .ok (.iand, 1) := by decide +kernel
theorem dX6_ownOf_96 : decode cX6_ownOf 96 = .ok (.istore_n 2, 1) := by decide +kernel
theorem dX6_ownOf_97 : decode cX6_ownOf 97 = .ok (.iload_n 2, 1) := by decide +kernel
theorem dX6_ownOf_98 : decode cX6_ownOf 98 = .ok (.aload_n 0, 1) := by decide +kernel
theorem dX6_ownOf_99 : decode cX6_ownOf 99 = .ok (.iload_n 1, 1) := by decide +kernel
theorem dX6_ownOf_100 : decode cX6_ownOf 100 = .ok (.iload_n 3, 1) := by decide +kernel
theorem dX6_ownOf_101 : decode cX6_ownOf 101 = .ok (.invokevirtual 128, 3) := by decide +kernel
theorem dX6_ownOf_104 : decode cX6_ownOf 104 = .ok (.ifCond .eq 28, 3) := by decide +kernel
theorem dX6_ownOf_107 : decode cX6_ownOf 107 = .ok (.aload_n 0, 1) := by decide +kernel
theorem dX6_ownOf_108 : decode cX6_ownOf 108 = .ok (.getfield 13, 3) := by decide +kernel
theorem dX6_ownOf_111 : decode cX6_ownOf 111 = .ok (.iconst 1, 1) := by decide +kernel
theorem dX6_ownOf_112 : decode cX6_ownOf 112 = .ok (.invokestatic 85, 3) := by decide +kernel
theorem dX6_ownOf_115 : decode cX6_ownOf 115 = .ok (.ifCond .eq 17, 3) := by decide +kernel
theorem dX6_ownOf_118 : decode cX6_ownOf 118 = .ok (.aload_n 0, 1) := by decide +kernel
theorem dX6_ownOf_119 : decode cX6_ownOf 119 = .ok (.iload_n 1, 1) := by decide +kernel
theorem dX6_ownOf_120 : decode cX6_ownOf 120 = .ok (.aload_n 0, 1) := by decide +kernel
theorem dX6_ownOf_121 : decode cX6_ownOf 121 = .ok (.iload_n 1, 1) := by decide +kernel
theorem dX6_ownOf_122 : decode cX6_ownOf 122 = .ok (.iload_n 3, 1) := by decide +kernel
theorem dX6_ownOf_123 : decode cX6_ownOf 123 = .ok (.invokevirtual 125, 3) := by decide +kernel
theorem dX6_ownOf_126 : decode cX6_ownOf 126 = .ok (.invokevirtual 140, 3) := by decide +kernel
theorem dX6_ownOf_129 : decode cX6_ownOf 129 = .ok (.goto 6, 3) := by decide +kernel
theorem dX6_ownOf_132 : decode cX6_ownOf 132 = .ok (.sipush 255, 3) := by decide +kernel
theorem dX6_ownOf_135 : decode cX6_ownOf 135 = .ok (.iand, 1) := by decide +kernel
theorem dX6_ownOf_136 : decode cX6_ownOf 136 = .ok (.istore_n 2, 1) := by decide +kernel
theorem dX6_ownOf_137 : decode cX6_ownOf 137 = .ok (.iinc 3 1, 3) := by decide +kernel
theorem dX6_ownOf_140 : decode cX6_ownOf 140 = .ok (.goto (-126), 3) := by decide +kernel
theorem dX6_ownOf_143 : decode cX6_ownOf 143 = .ok (.aload_n 0, 1) := by decide +kernel
theorem dX6_ownOf_144 : decode cX6_ownOf 144 = .ok (.getfield 13, 3) := by decide +kernel
theorem dX6_ownOf_147 : decode cX6_ownOf 147 = .ok (.iconst 2, 1) := by decide +kernel
theorem dX6_ownOf_148 : decode cX6_ownOf 148 = .ok (.invokestatic 85, 3) := by decide +kernel
theorem dX6_ownOf_151 : decode cX6_ownOf 151 = .ok (.ifCond .eq 45, 3) := by decide +kernel
theorem dX6_ownOf_154 : decode cX6_ownOf 154 = .ok (.aload_n 0, 1) := by decide +kernel
theorem dX6_ownOf_155 : decode cX6_ownOf 155 = .ok (.iload_n 1, 1) := by decide +kernel
theorem dX6_ownOf_156 : decode cX6_ownOf 156 = .ok (.invokevirtual 134, 3) := by decide +kernel
theorem dX6_ownOf_159 : decode cX6_ownOf 159 = .ok (.ifCond .ne 37, 3) := by decide +kernel
theorem dX6_ownOf_162 : decode cX6_ownOf 162 = .ok (.aload_n 0, 1) := by decide +kernel
theorem dX6_ownOf_163 : decode cX6_ownOf 163 = .ok (.iload_n 1, 1) := by decide +kernel
theorem dX6_ownOf_164 : decode cX6_ownOf 164 = .ok (.iconst 0, 1) := by decide +kernel
theorem dX6_ownOf_165 : decode cX6_ownOf 165 = .ok (.iconst 5, 1) := by decide +kernel
theorem dX6_ownOf_166 : decode cX6_ownOf 166 = .ok (.invokevirtual 122, 3) := by decide +kernel
theorem dX6_ownOf_169 : decode cX6_ownOf 169 = .ok (.ifCond .eq 27, 3) := by decide +kernel
theorem dX6_ownOf_172 : decode cX6_ownOf 172 = .ok (.aload_n 0, 1) := by decide +kernel
theorem dX6_ownOf_173 : decode cX6_ownOf 173 = .ok (.iload_n 1, 1) := by decide +kernel
theorem dX6_ownOf_174 : decode cX6_ownOf 174 = .ok (.iconst 1, 1) := by decide +kernel
theorem dX6_ownOf_175 : decode cX6_ownOf 175 = .ok (.iconst 2, 1) := by decide +kernel
theorem dX6_ownOf_176 : decode cX6_ownOf 176 = .ok (.invokevirtual 122, 3) := by decide +kernel
theorem dX6_ownOf_179 : decode cX6_ownOf 179 = .ok (.ifCond .eq 17, 3) := by decide +kernel
theorem dX6_ownOf_182 : decode cX6_ownOf 182 = .ok (.iload_n 2, 1) := by decide +kernel
theorem dX6_ownOf_183 : decode cX6_ownOf 183 = .ok (.iconst 1, 1) := by decide +kernel
theorem dX6_ownOf_184 : decode cX6_ownOf 184 = .ok (.aload_n 0, 1) := by decide +kernel
theorem dX6_ownOf_185 : decode cX6_ownOf 185 = .ok (.getfield 26, 3) := by decide +kernel
theorem dX6_ownOf_188 : decode cX6_ownOf 188 = .ok (.bipush 12, 2) := by decide +kernel
theorem dX6_ownOf_190 : decode cX6_ownOf 190 = .ok (.iload_n 1, 1) := by decide +kernel
theorem dX6_ownOf_191 : decode cX6_ownOf 191 = .ok (.imul, 1) := by decide +kernel
theorem dX6_ownOf_192 : decode cX6_ownOf 192 = .ok (.iaload, 1) := by decide +kernel
theorem dX6_ownOf_193 : decode cX6_ownOf 193 = .ok (.ishl, 1) := by decide +kernel
theorem dX6_ownOf_194 : decode cX6_ownOf 194 = .ok (.iand, 1) := by decide +kernel
theorem dX6_ownOf_195 : decode cX6_ownOf 195 = .ok (.istore_n 2, 1) := by decide +kernel
theorem dX6_ownOf_196 : decode cX6_ownOf 196 = .ok (.aload_n 0, 1) := by decide +kernel
theorem dX6_ownOf_197 : decode cX6_ownOf 197 = .ok (.getfield 36, 3) := by decide +kernel
theorem dX6_ownOf_200 : decode cX6_ownOf 200 = .ok (.iload_n 1, 1) := by decide +kernel
theorem dX6_ownOf_201 : decode cX6_ownOf 201 = .ok (.iaload, 1) := by decide +kernel
theorem dX6_ownOf_202 : decode cX6_ownOf 202 = .ok (.bipush (-9), 2) := by decide +kernel
theorem dX6_ownOf_204 : decode cX6_ownOf 204 = .ok (.if_icmp .ne 7, 3) := by decide +kernel
theorem dX6_ownOf_207 : decode cX6_ownOf 207 = .ok (.iload_n 2, 1) := by decide +kernel
theorem dX6_ownOf_208 : decode cX6_ownOf 208 = .ok (.goto 11, 3) := by decide +kernel
theorem dX6_ownOf_211 : decode cX6_ownOf 211 = .ok (.iload_n 2, 1) := by decide +kernel
theorem dX6_ownOf_212 : decode cX6_ownOf 212 = .ok (.aload_n 0, 1) := by decide +kernel
theorem dX6_ownOf_213 : decode cX6_ownOf 213 = .ok (.getfield 36, 3) := by decide +kernel
theorem dX6_ownOf_216 : decode cX6_ownOf 216 = .ok (.iload_n 1, 1) := by decide +kernel
theorem dX6_ownOf_217 : decode cX6_ownOf 217 = .ok (.iaload, 1) := by decide +kernel
theorem dX6_ownOf_218 : decode cX6_ownOf 218 = .ok (.iand, 1) := by decide +kernel
theorem dX6_ownOf_219 : decode cX6_ownOf 219 = .ok (.ireturn, 1) := by decide +kernel
set_option maxRecDepth 20000 in
theorem ggX6_linkAt_X6_speaks : GoodIn wsX6_linkAt wsX6_speaks := goodIn_r _ [8, 9, 10, 11, 7, 12, 13, 14, 18, 19, 20, 21, 22, 23, 24, 25, 26, 27, 28, 29, 30, 31, 32, 33, 34, 35, 36, 37, 38] (by decide +kernel) (by decide +kernel)
set_option maxRecDepth 20000 in
theorem gX6_linkAt_X6_speaks : GoodIn wsX6_linkAt (wsV RX6 78 RX6 yX6_speaks wsX6_speaks) := goodIn_app (goodIn_of _ (by decide +kernel)) ggX6_linkAt_X6_speaks
set_option maxRecDepth 20000 in
theorem ggX6_linkAt_X6_has : GoodIn wsX6_linkAt wsX6_has := goodIn_r _ [17] (by decide +kernel) (by decide +kernel)
set_option maxRecDepth 20000 in
theorem gX6_linkAt_X6_has : GoodIn wsX6_linkAt (va_wsS RX6 85 yX6_has wsX6_has) := goodIn_app (goodIn_of _ (by decide +kernel)) ggX6_linkAt_X6_has
theorem dX6_linkAt_0 : decode cX6_linkAt 0 = .ok (.iload_n 1, 1) := by decide +kernel
theorem dX6_linkAt_1 : decode cX6_linkAt 1 = .ok (.iconst 1, 1) := by decide +kernel
theorem dX6_linkAt_2 : decode cX6_linkAt 2 = .ok (.if_icmp .lt 29, 3) := by decide +kernel
theorem dX6_linkAt_5 : decode cX6_linkAt 5 = .ok (.iload_n 1, 1) := by decide +kernel
theorem dX6_linkAt_6 : decode cX6_linkAt 6 = .ok (.aload_n 0, 1) := by decide +kernel
theorem dX6_linkAt_7 : decode cX6_linkAt 7 = .ok (.getfield 68, 3) := by decide +kernel
theorem dX6_linkAt_10 : decode cX6_linkAt 10 = .ok (.if_icmp .ge 21, 3) := by decide +kernel
theorem dX6_linkAt_13 : decode cX6_linkAt 13 = .ok (.aload_n 0, 1) := by decide +kernel
theorem dX6_linkAt_14 : decode cX6_linkAt 14 = .ok (.iload_n 1, 1) := by decide +kernel
theorem dX6_linkAt_15 : decode cX6_linkAt 15 = .ok (.invokevirtual 78, 3) := by decide +kernel
theorem dX6_linkAt_18 : decode cX6_linkAt 18 = .ok (.ifCond .eq 13, 3) := by decide +kernel
theorem dX6_linkAt_21 : decode cX6_linkAt 21 = .ok (.aload_n 0, 1) := by decide +kernel
theorem dX6_linkAt_22 : decode cX6_linkAt 22 = .ok (.iload_n 1, 1) := by decide +kernel
theorem dX6_linkAt_23 : decode cX6_linkAt 23 = .ok (.iconst 1, 1) := by decide +kernel
theorem dX6_linkAt_24 : decode cX6_linkAt 24 = .ok (.isub, 1) := by decide +kernel
theorem dX6_linkAt_25 : decode cX6_linkAt 25 = .ok (.invokevirtual 78, 3) := by decide +kernel
theorem dX6_linkAt_28 : decode cX6_linkAt 28 = .ok (.ifCond .ne 5, 3) := by decide +kernel
theorem dX6_linkAt_31 : decode cX6_linkAt 31 = .ok (.iconst 0, 1) := by decide +kernel
theorem dX6_linkAt_32 : decode cX6_linkAt 32 = .ok (.ireturn, 1) := by decide +kernel
theorem dX6_linkAt_33 : decode cX6_linkAt 33 = .ok (.aload_n 0, 1) := by decide +kernel
theorem dX6_linkAt_34 : decode cX6_linkAt 34 = .ok (.getfield 29, 3) := by decide +kernel
theorem dX6_linkAt_37 : decode cX6_linkAt 37 = .ok (.iload_n 1, 1) := by decide +kernel
theorem dX6_linkAt_38 : decode cX6_linkAt 38 = .ok (.baload, 1) := by decide +kernel
theorem dX6_linkAt_39 : decode cX6_linkAt 39 = .ok (.ifCond .eq 7, 3) := by decide +kernel
theorem dX6_linkAt_42 : decode cX6_linkAt 42 = .ok (.iconst 1, 1) := by decide +kernel
theorem dX6_linkAt_43 : decode cX6_linkAt 43 = .ok (.goto 19, 3) := by decide +kernel
theorem dX6_linkAt_46 : decode cX6_linkAt 46 = .ok (.aload_n 0, 1) := by decide +kernel
theorem dX6_linkAt_47 : decode cX6_linkAt 47 = .ok (.getfield 13, 3) := by decide +kernel
theorem dX6_linkAt_50 : decode cX6_linkAt 50 = .ok (.iconst 3, 1) := by decide +kernel
theorem dX6_linkAt_51 : decode cX6_linkAt 51 = .ok (.invokestatic 85, 3) := by decide +kernel
theorem dX6_linkAt_54 : decode cX6_linkAt 54 = .ok (.ifCond .eq 7, 3) := by decide +kernel
theorem dX6_linkAt_57 : decode cX6_linkAt 57 = .ok (.iconst 2, 1) := by decide +kernel
theorem dX6_linkAt_58 : decode cX6_linkAt 58 = .ok (.goto 4, 3) := by decide +kernel
theorem dX6_linkAt_61 : decode cX6_linkAt 61 = .ok (.iconst 0, 1) := by decide +kernel
theorem dX6_linkAt_62 : decode cX6_linkAt 62 = .ok (.ireturn, 1) := by decide +kernel
set_option maxRecDepth 20000 in
theorem ggX6_link_X6_isParagraph : GoodIn wsX6_link wsX6_isParagraph := goodIn_r _ [5, 6, 7, 8, 4, 9, 29, 30, 31, 32, 33, 34, 35, 36, 37, 38, 39, 40, 41, 42, 43, 44, 45, 46, 47, 48, 49] (by decide +kernel) (by decide +kernel)
set_option maxRecDepth 20000 in
theorem gX6_link_X6_isParagraph : GoodIn wsX6_link (wsV RX6 131 RX6 yX6_isParagraph wsX6_isParagraph) := goodIn_app (goodIn_of _ (by decide +kernel)) ggX6_link_X6_isParagraph
set_option maxRecDepth 20000 in
theorem ggX6_link_X6_linkAt : GoodIn wsX6_link wsX6_linkAt := goodIn_r _ [13, 6, 14, 15, 16, 17, 18, 4, 19, 20, 21, 22, 23, 24, 25, 26, 27, 28, 29, 30, 31, 32, 33, 34, 35, 36, 37, 38, 39, 40, 41, 42, 43, 44, 45, 46, 47, 48, 49] (by decide +kernel) (by decide +kernel)
set_option maxRecDepth 20000 in
theorem gX6_link_X6_linkAt : GoodIn wsX6_link (wsV RX6 143 RX6 yX6_linkAt wsX6_linkAt) := goodIn_app (goodIn_of _ (by decide +kernel)) ggX6_link_X6_linkAt
theorem dX6_link_0 : decode cX6_link 0 = .ok (.aload_n 0, 1) := by decide +kernel
theorem dX6_link_1 : decode cX6_link 1 = .ok (.iload_n 1, 1) := by decide +kernel
theorem dX6_link_2 : decode cX6_link 2 = .ok (.invokevirtual 131, 3) := by decide +kernel
theorem dX6_link_5 : decode cX6_link 5 = .ok (.ifCond .eq 11, 3) := by decide +kernel
theorem dX6_link_8 : decode cX6_link 8 = .ok (.aload_n 0, 1) := by decide +kernel
theorem dX6_link_9 : decode cX6_link 9 = .ok (.iload_n 1, 1) := by decide +kernel
theorem dX6_link_10 : decode cX6_link 10 = .ok (.invokevirtual 143, 3) := by decide +kernel
theorem dX6_link_13 : decode cX6_link 13 = .ok (.goto 4, 3) := by decide +kernel
theorem dX6_link_16 : decode cX6_link 16 = .ok (.iconst (-1), 1) := by decide +kernel
theorem dX6_link_17 : decode cX6_link 17 = .ok (.ireturn, 1) := by decide +kernel
set_option maxRecDepth 20000 in
theorem ggX6_findOwn_X6_speaks : GoodIn wsX6_findOwn wsX6_speaks := goodIn_r _ [7, 8, 9, 10, 6, 11, 12, 13, 61, 62, 63, 64, 65, 66, 67, 68, 69, 70, 71, 72, 73, 74, 75, 76, 77, 78, 79, 80, 81] (by decide +kernel) (by decide +kernel)
set_option maxRecDepth 20000 in
theorem gX6_findOwn_X6_speaks : GoodIn wsX6_findOwn (wsV RX6 78 RX6 yX6_speaks wsX6_speaks) := goodIn_app (goodIn_of _ (by decide +kernel)) ggX6_findOwn_X6_speaks
set_option maxRecDepth 20000 in
theorem ggX6_findOwn_X6_ownOf : GoodIn wsX6_findOwn wsX6_ownOf := goodIn_r _ [17, 18, 12, 19, 20, 21, 22, 23, 24, 6, 25, 26, 27, 28, 29, 30, 13, 31, 32, 33, 34, 35, 36, 37, 38, 39, 40, 41, 42, 43, 44, 45, 46, 47, 48, 49, 50, 51, 52, 53, 54, 55, 56, 57, 58, 59, 60, 61, 62, 63, 64, 65, 66, 67, 68, 69, 70, 71, 72, 73, 74, 75, 76, 77, 78, 79, 80, 81] (by decide +kernel) (by decide +kernel)
set_option maxRecDepth 20000 in
theorem gX6_findOwn_X6_ownOf : GoodIn wsX6_findOwn (wsV RX6 81 RX6 yX6_ownOf wsX6_ownOf) := goodIn_app (goodIn_of _ (by decide +kernel)) ggX6_findOwn_X6_ownOf
theorem dX6_findOwn_0 : decode cX6_findOwn 0 = .ok (.iconst 0, 1) := by decide +kernel
theorem dX6_findOwn_1 : decode cX6_findOwn 1 = .ok (.istore_n 1, 1) := by decide +kernel
theorem dX6_findOwn_2 : decode cX6_findOwn 2 = .ok (.iload_n 1, 1) := by decide +kernel
theorem dX6_findOwn_3 : decode cX6_findOwn 3 = .ok (.aload_n 0, 1) := by decide +kernel
theorem dX6_findOwn_4 : decode cX6_findOwn 4 = .ok (.getfield 68, 3) := by decide +kernel
theorem dX6_findOwn_7 : decode cX6_findOwn 7 = .ok (.if_icmp .ge 32, 3) := by decide +kernel
theorem dX6_findOwn_10 : decode cX6_findOwn 10 = .ok (.aload_n 0, 1) := by decide +kernel
theorem dX6_findOwn_11 : decode cX6_findOwn 11 = .ok (.getfield 39, 3) := by decide +kernel
theorem dX6_findOwn_14 : decode cX6_findOwn 14 = .ok (.iload_n 1, 1) := by decide +kernel
theorem dX6_findOwn_15 : decode cX6_findOwn 15 = .ok (.aload_n 0, 1) := by decide +kernel
theorem dX6_findOwn_16 : decode cX6_findOwn 16 = .ok (.iload_n 1, 1) := by decide +kernel
theorem dX6_findOwn_17 : decode cX6_findOwn 17 = .ok (.invokevirtual 78, 3) := by decide +kernel
theorem dX6_findOwn_20 : decode cX6_findOwn 20 = .ok (.ifCond .eq 11, 3) := by decide +kernel
theorem dX6_findOwn_23 : decode cX6_findOwn 23 = .ok (.aload_n 0, 1) := by decide +kernel
theorem dX6_findOwn_24 : decode cX6_findOwn 24 = .ok (.iload_n 1, 1) := by decide +kernel
theorem dX6_findOwn_25 : decode cX6_findOwn 25 = .ok (.invokevirtual 81, 3) := by decide +kernel
theorem dX6_findOwn_28 : decode cX6_findOwn 28 = .ok (.goto 4, 3) := by decide +kernel
theorem dX6_findOwn_31 : decode cX6_findOwn 31 = .ok (.iconst 0, 1) := by decide +kernel
theorem dX6_findOwn_32 : decode cX6_findOwn 32 = .ok (.iastore, 1) := by decide +kernel
theorem dX6_findOwn_33 : decode cX6_findOwn 33 = .ok (.iinc 1 1, 3) := by decide +kernel
theorem dX6_findOwn_36 : decode cX6_findOwn 36 = .ok (.goto (-34), 3) := by decide +kernel
theorem dX6_findOwn_39 : decode cX6_findOwn 39 = .ok (.return_, 1) := by decide +kernel
set_option maxRecDepth 20000 in
theorem ggX6_by_X6_size : GoodIn wsX6_by wsX6_size := goodIn_r _ [4] (by decide +kernel) (by decide +kernel)
set_option maxRecDepth 20000 in
theorem gX6_by_X6_size : GoodIn wsX6_by (va_wsS RX6 146 yX6_size wsX6_size) := goodIn_app (goodIn_of _ (by decide +kernel)) ggX6_by_X6_size
theorem dX6_by_0 : decode cX6_by 0 = .ok (.iload_n 2, 1) := by decide +kernel
theorem dX6_by_1 : decode cX6_by 1 = .ok (.iconst 1, 1) := by decide +kernel
theorem dX6_by_2 : decode cX6_by 2 = .ok (.if_icmp .ne 7, 3) := by decide +kernel
theorem dX6_by_5 : decode cX6_by 5 = .ok (.iload_n 1, 1) := by decide +kernel
theorem dX6_by_6 : decode cX6_by 6 = .ok (.iload_n 3, 1) := by decide +kernel
theorem dX6_by_7 : decode cX6_by 7 = .ok (.iand, 1) := by decide +kernel
theorem dX6_by_8 : decode cX6_by 8 = .ok (.ireturn, 1) := by decide +kernel
theorem dX6_by_9 : decode cX6_by 9 = .ok (.iload_n 2, 1) := by decide +kernel
theorem dX6_by_10 : decode cX6_by 10 = .ok (.iconst 2, 1) := by decide +kernel
theorem dX6_by_11 : decode cX6_by 11 = .ok (.if_icmp .ne 19, 3) := by decide +kernel
theorem dX6_by_14 : decode cX6_by 14 = .ok (.iload_n 3, 1) := by decide +kernel
theorem dX6_by_15 : decode cX6_by 15 = .ok (.invokestatic 146, 3) := by decide +kernel
theorem dX6_by_18 : decode cX6_by 18 = .ok (.iconst 1, 1) := by decide +kernel
theorem dX6_by_19 : decode cX6_by 19 = .ok (.if_icmp .ne 11, 3) := by decide +kernel
theorem dX6_by_22 : decode cX6_by 22 = .ok (.iload_n 1, 1) := by decide +kernel
theorem dX6_by_23 : decode cX6_by 23 = .ok (.iload_n 3, 1) := by decide +kernel
theorem dX6_by_24 : decode cX6_by 24 = .ok (.iconst (-1), 1) := by decide +kernel
theorem dX6_by_25 : decode cX6_by 25 = .ok (.ixor, 1) := by decide +kernel
theorem dX6_by_26 : decode cX6_by 26 = .ok (.iand, 1) := by decide +kernel
theorem dX6_by_27 : decode cX6_by 27 = .ok (.goto 4, 3) := by decide +kernel
theorem dX6_by_30 : decode cX6_by 30 = .ok (.iload_n 1, 1) := by decide +kernel
theorem dX6_by_31 : decode cX6_by 31 = .ok (.ireturn, 1) := by decide +kernel
set_option maxRecDepth 20000 in
theorem ggX6_narrows_X6_linkAt : GoodIn wsX6_narrows wsX6_linkAt := goodIn_r _ [8, 1, 9, 10, 11, 12, 13, 7, 14, 15, 16, 17, 18, 19, 20, 21, 22, 23, 31, 32, 33, 34, 35, 36, 37, 38, 39, 40, 41, 42, 43, 44, 45, 46, 47, 48, 49, 50, 51] (by decide +kernel) (by decide +kernel)
set_option maxRecDepth 20000 in
theorem gX6_narrows_X6_linkAt : GoodIn wsX6_narrows (wsV RX6 143 RX6 yX6_linkAt wsX6_linkAt) := goodIn_app (goodIn_of _ (by decide +kernel)) ggX6_narrows_X6_linkAt
set_option maxRecDepth 20000 in
theorem ggX6_narrows_X6_by : GoodIn wsX6_narrows wsX6_by := goodIn_r _ [27, 28, 29, 7, 30] (by decide +kernel) (by decide +kernel)
set_option maxRecDepth 20000 in
theorem gX6_narrows_X6_by : GoodIn wsX6_narrows (wsV RX6 149 RX6 yX6_by wsX6_by) := goodIn_app (goodIn_of _ (by decide +kernel)) ggX6_narrows_X6_by
theorem dX6_narrows_0 : decode cX6_narrows 0 = .ok (.iconst 0, 1) := by decide +kernel
theorem dX6_narrows_1 : decode cX6_narrows 1 = .ok (.istore_n 1, 1) := by decide +kernel
theorem dX6_narrows_2 : decode cX6_narrows 2 = .ok (.iconst 0, 1) := by decide +kernel
theorem dX6_narrows_3 : decode cX6_narrows 3 = .ok (.istore_n 2, 1) := by decide +kernel
theorem dX6_narrows_4 : decode cX6_narrows 4 = .ok (.iload_n 2, 1) := by decide +kernel
theorem dX6_narrows_5 : decode cX6_narrows 5 = .ok (.aload_n 0, 1) := by decide +kernel
theorem dX6_narrows_6 : decode cX6_narrows 6 = .ok (.getfield 68, 3) := by decide +kernel
theorem dX6_narrows_9 : decode cX6_narrows 9 = .ok (.if_icmp .ge 116, 3) := by decide +kernel
theorem dX6_narrows_12 : decode cX6_narrows 12 = .ok (.aload_n 0, 1) := by decide +kernel
theorem dX6_narrows_13 : decode cX6_narrows 13 = .ok (.getfield 45, 3) := by decide +kernel
theorem dX6_narrows_16 : decode cX6_narrows 16 = .ok (.iload_n 2, 1) := by decide +kernel
theorem dX6_narrows_17 : decode cX6_narrows 17 = .ok (.aload_n 0, 1) := by decide +kernel
theorem dX6_narrows_18 : decode cX6_narrows 18 = .ok (.aload_n 0, 1) := by decide +kernel
theorem dX6_narrows_19 : decode cX6_narrows 19 = .ok (.getfield 42, 3) := by decide +kernel
theorem dX6_narrows_22 : decode cX6_narrows 22 = .ok (.iload_n 2, 1) := by decide +kernel
theorem dX6_narrows_23 : decode cX6_narrows 23 = .ok (.iaload, 1) := by decide +kernel
theorem dX6_narrows_24 : decode cX6_narrows 24 = .ok (.aload_n 0, 1) := by decide +kernel
theorem dX6_narrows_25 : decode cX6_narrows 25 = .ok (.iload_n 2, 1) := by decide +kernel
theorem dX6_narrows_26 : decode cX6_narrows 26 = .ok (.invokevirtual 143, 3) := by decide +kernel
theorem dX6_narrows_29 : decode cX6_narrows 29 = .ok (.iload_n 2, 1) := by decide +kernel
theorem dX6_narrows_30 : decode cX6_narrows 30 = .ok (.ifCond .le 14, 3) := by decide +kernel
theorem dX6_narrows_33 : decode cX6_narrows 33 = .ok (.aload_n 0, 1) := by decide +kernel
theorem dX6_narrows_34 : decode cX6_narrows 34 = .ok (.getfield 42, 3) := by decide +kernel
theorem dX6_narrows_37 : decode cX6_narrows 37 = .ok (.iload_n 2, 1) := by decide +kernel
theorem dX6_narrows_38 : decode cX6_narrows 38 = .ok (.iconst 1, 1) := by decide +kernel
theorem dX6_narrows_39 : decode cX6_narrows 39 = .ok (.isub, 1) := by decide +kernel
theorem dX6_narrows_40 : decode cX6_narrows 40 = .ok (.iaload, 1) := by decide +kernel
theorem dX6_narrows_41 : decode cX6_narrows 41 = .ok (.goto 4, 3) := by decide +kernel
theorem dX6_narrows_44 : decode cX6_narrows 44 = .ok (.iconst 0, 1) := by decide +kernel
theorem dX6_narrows_45 : decode cX6_narrows 45 = .ok (.invokevirtual 149, 3) := by decide +kernel
theorem dX6_narrows_48 : decode cX6_narrows 48 = .ok (.iastore, 1) := by decide +kernel
theorem dX6_narrows_49 : decode cX6_narrows 49 = .ok (.aload_n 0, 1) := by decide +kernel
theorem dX6_narrows_50 : decode cX6_narrows 50 = .ok (.getfield 45, 3) := by decide +kernel
theorem dX6_narrows_53 : decode cX6_narrows 53 = .ok (.iload_n 2, 1) := by decide +kernel
theorem dX6_narrows_54 : decode cX6_narrows 54 = .ok (.aload_n 0, 1) := by decide +kernel
theorem dX6_narrows_55 : decode cX6_narrows 55 = .ok (.aload_n 0, 1) := by decide +kernel
theorem dX6_narrows_56 : decode cX6_narrows 56 = .ok (.getfield 45, 3) := by decide +kernel
theorem dX6_narrows_59 : decode cX6_narrows 59 = .ok (.iload_n 2, 1) := by decide +kernel
theorem dX6_narrows_60 : decode cX6_narrows 60 = .ok (.iaload, 1) := by decide +kernel
theorem dX6_narrows_61 : decode cX6_narrows 61 = .ok (.aload_n 0, 1) := by decide +kernel
theorem dX6_narrows_62 : decode cX6_narrows 62 = .ok (.iload_n 2, 1) := by decide +kernel
theorem dX6_narrows_63 : decode cX6_narrows 63 = .ok (.iconst 1, 1) := by decide +kernel
theorem dX6_narrows_64 : decode cX6_narrows 64 = .ok (.iadd, 1) := by decide +kernel
theorem dX6_narrows_65 : decode cX6_narrows 65 = .ok (.invokevirtual 143, 3) := by decide +kernel
theorem dX6_narrows_68 : decode cX6_narrows 68 = .ok (.iload_n 2, 1) := by decide +kernel
theorem dX6_narrows_69 : decode cX6_narrows 69 = .ok (.iconst 1, 1) := by decide +kernel
theorem dX6_narrows_70 : decode cX6_narrows 70 = .ok (.iadd, 1) := by decide +kernel
theorem dX6_narrows_71 : decode cX6_narrows 71 = .ok (.aload_n 0, 1) := by decide +kernel
theorem dX6_narrows_72 : decode cX6_narrows 72 = .ok (.getfield 68, 3) := by decide +kernel
theorem dX6_narrows_75 : decode cX6_narrows 75 = .ok (.if_icmp .ge 14, 3) := by decide +kernel
theorem dX6_narrows_78 : decode cX6_narrows 78 = .ok (.aload_n 0, 1) := by decide +kernel
theorem dX6_narrows_79 : decode cX6_narrows 79 = .ok (.getfield 42, 3) := by decide +kernel
theorem dX6_narrows_82 : decode cX6_narrows 82 = .ok (.iload_n 2, 1) := by decide +kernel
theorem dX6_narrows_83 : decode cX6_narrows 83 = .ok (.iconst 1, 1) := by decide +kernel
theorem dX6_narrows_84 : decode cX6_narrows 84 = .ok (.iadd, 1) := by decide +kernel
theorem dX6_narrows_85 : decode cX6_narrows 85 = .ok (.iaload, 1) := by decide +kernel
theorem dX6_narrows_86 : decode cX6_narrows 86 = .ok (.goto 4, 3) := by decide +kernel
theorem dX6_narrows_89 : decode cX6_narrows 89 = .ok (.iconst 0, 1) := by decide +kernel
theorem dX6_narrows_90 : decode cX6_narrows 90 = .ok (.invokevirtual 149, 3) := by decide +kernel
theorem dX6_narrows_93 : decode cX6_narrows 93 = .ok (.iastore, 1) := by decide +kernel
theorem dX6_narrows_94 : decode cX6_narrows 94 = .ok (.iload_n 1, 1) := by decide +kernel
theorem dX6_narrows_95 : decode cX6_narrows 95 = .ok (.ifCond .ne 18, 3) := by decide +kernel
theorem dX6_narrows_98 : decode cX6_narrows 98 = .ok (.aload_n 0, 1) := by decide +kernel
theorem dX6_narrows_99 : decode cX6_narrows 99 = .ok (.getfield 45, 3) := by decide +kernel
theorem dX6_narrows_102 : decode cX6_narrows 102 = .ok (.iload_n 2, 1) := by decide +kernel
theorem dX6_narrows_103 : decode cX6_narrows 103 = .ok (.iaload, 1) := by decide +kernel
theorem dX6_narrows_104 : decode cX6_narrows 104 = .ok (.aload_n 0, 1) := by decide +kernel
theorem dX6_narrows_105 : decode cX6_narrows 105 = .ok (.getfield 42, 3) := by decide +kernel
theorem dX6_narrows_108 : decode cX6_narrows 108 = .ok (.iload_n 2, 1) := by decide +kernel
theorem dX6_narrows_109 : decode cX6_narrows 109 = .ok (.iaload, 1) := by decide +kernel
theorem dX6_narrows_110 : decode cX6_narrows 110 = .ok (.if_icmp .eq 7, 3) := by decide +kernel
theorem dX6_narrows_113 : decode cX6_narrows 113 = .ok (.iconst 1, 1) := by decide +kernel
theorem dX6_narrows_114 : decode cX6_narrows 114 = .ok (.goto 4, 3) := by decide +kernel
theorem dX6_narrows_117 : decode cX6_narrows 117 = .ok (.iconst 0, 1) := by decide +kernel
theorem dX6_narrows_118 : decode cX6_narrows 118 = .ok (.istore_n 1, 1) := by decide +kernel
theorem dX6_narrows_119 : decode cX6_narrows 119 = .ok (.iinc 2 1, 3) := by decide +kernel
theorem dX6_narrows_122 : decode cX6_narrows 122 = .ok (.goto (-118), 3) := by decide +kernel
theorem dX6_narrows_125 : decode cX6_narrows 125 = .ok (.iconst 0, 1) := by decide +kernel
theorem dX6_narrows_126 : decode cX6_narrows 126 = .ok (.istore_n 2, 1) := by decide +kernel
theorem dX6_narrows_127 : decode cX6_narrows 127 = .ok (.iload_n 2, 1) := by decide +kernel
theorem dX6_narrows_128 : decode cX6_narrows 128 = .ok (.aload_n 0, 1) := by decide +kernel
theorem dX6_narrows_129 : decode cX6_narrows 129 = .ok (.getfield 68, 3) := by decide +kernel
theorem dX6_narrows_132 : decode cX6_narrows 132 = .ok (.if_icmp .ge 21, 3) := by decide +kernel
theorem dX6_narrows_135 : decode cX6_narrows 135 = .ok (.aload_n 0, 1) := by decide +kernel
theorem dX6_narrows_136 : decode cX6_narrows 136 = .ok (.getfield 42, 3) := by decide +kernel
theorem dX6_narrows_139 : decode cX6_narrows 139 = .ok (.iload_n 2, 1) := by decide +kernel
theorem dX6_narrows_140 : decode cX6_narrows 140 = .ok (.aload_n 0, 1) := by decide +kernel
theorem dX6_narrows_141 : decode cX6_narrows 141 = .ok (.getfield 45, 3) := by decide +kernel
theorem dX6_narrows_144 : decode cX6_narrows 144 = .ok (.iload_n 2, 1) := by decide +kernel
theorem dX6_narrows_145 : decode cX6_narrows 145 = .ok (.iaload, 1) := by decide +kernel
theorem dX6_narrows_146 : decode cX6_narrows 146 = .ok (.iastore, 1) := by decide +kernel
theorem dX6_narrows_147 : decode cX6_narrows 147 = .ok (.iinc 2 1, 3) := by decide +kernel
theorem dX6_narrows_150 : decode cX6_narrows 150 = .ok (.goto (-23), 3) := by decide +kernel
theorem dX6_narrows_153 : decode cX6_narrows 153 = .ok (.iload_n 1, 1) := by decide +kernel
theorem dX6_narrows_154 : decode cX6_narrows 154 = .ok (.ireturn, 1) := by decide +kernel
set_option maxRecDepth 20000 in
theorem ggX6_findNarrowed_X6_findOwn : GoodIn wsX6_findNarrowed wsX6_findOwn := goodIn_r _ [8, 1, 3, 9, 10, 11, 7, 12, 13, 14, 15, 16, 17, 18, 19, 20, 21, 22, 23, 24, 25, 26, 27, 28, 29, 30, 31, 32, 33, 34, 35, 36, 37, 38, 39, 40, 41, 42, 43, 44, 45, 46, 47, 48, 49, 50, 51, 52, 53, 54, 55, 56, 57, 58, 59, 60, 61, 62, 63, 64, 65, 83, 84, 85, 86, 87, 88, 89, 90, 91, 92, 93, 94, 95, 96, 97, 98, 99, 100, 101, 102, 103] (by decide +kernel) (by decide +kernel)
set_option maxRecDepth 20000 in
theorem gX6_findNarrowed_X6_findOwn : GoodIn wsX6_findNarrowed (wsV RX6 153 RX6 yX6_findOwn wsX6_findOwn) := goodIn_app (goodIn_of _ (by decide +kernel)) ggX6_findNarrowed_X6_findOwn
set_option maxRecDepth 20000 in
theorem ggX6_findNarrowed_X6_narrows : GoodIn wsX6_findNarrowed wsX6_narrows := goodIn_r _ [69, 1, 70, 2, 71, 72, 73, 7, 74, 75, 25, 9, 10, 11, 12, 13, 14, 15, 16, 17, 18, 39, 40, 41, 76, 77, 78, 79, 80, 81, 82, 83, 84, 85, 86, 87, 88, 89, 90, 91, 92, 93, 94, 95, 96, 97, 98, 99, 100, 101, 102, 103] (by decide +kernel) (by decide +kernel)
set_option maxRecDepth 20000 in
theorem gX6_findNarrowed_X6_narrows : GoodIn wsX6_findNarrowed (wsV RX6 156 RX6 yX6_narrows wsX6_narrows) := goodIn_app (goodIn_of _ (by decide +kernel)) ggX6_findNarrowed_X6_narrows
theorem dX6_findNarrowed_0 : decode cX6_findNarrowed 0 = .ok (.aload_n 0, 1) := by decide +kernel
theorem dX6_findNarrowed_1 : decode cX6_findNarrowed 1 = .ok (.invokevirtual 153, 3) := by decide +kernel
theorem dX6_findNarrowed_4 : decode cX6_findNarrowed 4 = .ok (.iconst 0, 1) := by decide +kernel
theorem dX6_findNarrowed_5 : decode cX6_findNarrowed 5 = .ok (.istore_n 1, 1) := by decide +kernel
theorem dX6_findNarrowed_6 : decode cX6_findNarrowed 6 = .ok (.iload_n 1, 1) := by decide +kernel
theorem dX6_findNarrowed_7 : decode cX6_findNarrowed 7 = .ok (.aload_n 0, 1) := by decide +kernel
theorem dX6_findNarrowed_8 : decode cX6_findNarrowed 8 = .ok (.getfield 68, 3) := by decide +kernel
theorem dX6_findNarrowed_11 : decode cX6_findNarrowed 11 = .ok (.if_icmp .ge 21, 3) := by decide +kernel
theorem dX6_findNarrowed_14 : decode cX6_findNarrowed 14 = .ok (.aload_n 0, 1) := by decide +kernel
theorem dX6_findNarrowed_15 : decode cX6_findNarrowed 15 = .ok (.getfield 42, 3) := by decide +kernel
theorem dX6_findNarrowed_18 : decode cX6_findNarrowed 18 = .ok (.iload_n 1, 1) := by decide +kernel
theorem dX6_findNarrowed_19 : decode cX6_findNarrowed 19 = .ok (.aload_n 0, 1) := by decide +kernel
theorem dX6_findNarrowed_20 : decode cX6_findNarrowed 20 = .ok (.getfield 39, 3) := by decide +kernel
theorem dX6_findNarrowed_23 : decode cX6_findNarrowed 23 = .ok (.iload_n 1, 1) := by decide +kernel
theorem dX6_findNarrowed_24 : decode cX6_findNarrowed 24 = .ok (.iaload, 1) := by decide +kernel
theorem dX6_findNarrowed_25 : decode cX6_findNarrowed 25 = .ok (.iastore, 1) := by decide +kernel
theorem dX6_findNarrowed_26 : decode cX6_findNarrowed 26 = .ok (.iinc 1 1, 3) := by decide +kernel
theorem dX6_findNarrowed_29 : decode cX6_findNarrowed 29 = .ok (.goto (-23), 3) := by decide +kernel
theorem dX6_findNarrowed_32 : decode cX6_findNarrowed 32 = .ok (.iconst 1, 1) := by decide +kernel
theorem dX6_findNarrowed_33 : decode cX6_findNarrowed 33 = .ok (.istore_n 1, 1) := by decide +kernel
theorem dX6_findNarrowed_34 : decode cX6_findNarrowed 34 = .ok (.iload_n 1, 1) := by decide +kernel
theorem dX6_findNarrowed_35 : decode cX6_findNarrowed 35 = .ok (.ifCond .eq 11, 3) := by decide +kernel
theorem dX6_findNarrowed_38 : decode cX6_findNarrowed 38 = .ok (.aload_n 0, 1) := by decide +kernel
theorem dX6_findNarrowed_39 : decode cX6_findNarrowed 39 = .ok (.invokevirtual 156, 3) := by decide +kernel
theorem dX6_findNarrowed_42 : decode cX6_findNarrowed 42 = .ok (.istore_n 1, 1) := by decide +kernel
theorem dX6_findNarrowed_43 : decode cX6_findNarrowed 43 = .ok (.goto (-9), 3) := by decide +kernel
theorem dX6_findNarrowed_46 : decode cX6_findNarrowed 46 = .ok (.return_, 1) := by decide +kernel
set_option maxRecDepth 20000 in
theorem ggX6_set_X6_isParagraph : GoodIn wsX6_set wsX6_isParagraph := goodIn_r _ [8, 9, 10, 11, 7, 12, 121, 122, 123, 124, 125, 126, 127, 128, 129, 130, 131, 132, 133, 134, 135, 136, 137, 138, 139, 140, 141] (by decide +kernel) (by decide +kernel)
set_option maxRecDepth 20000 in
theorem gX6_set_X6_isParagraph : GoodIn wsX6_set (wsV RX6 131 RX6 yX6_isParagraph wsX6_isParagraph) := goodIn_app (goodIn_of _ (by decide +kernel)) ggX6_set_X6_isParagraph
set_option maxRecDepth 20000 in
theorem ggX6_set_X6_within : GoodIn wsX6_set wsX6_within := goodIn_r _ [12] (by decide +kernel) (by decide +kernel)
set_option maxRecDepth 20000 in
theorem gX6_set_X6_within : GoodIn wsX6_set (va_wsS RX6 64 yX6_within wsX6_within) := goodIn_app (goodIn_of _ (by decide +kernel)) ggX6_set_X6_within
set_option maxRecDepth 20000 in
theorem ggX6_set_X6_speaks : GoodIn wsX6_set wsX6_speaks := goodIn_r _ [16, 17, 18, 19, 7, 20, 21, 22, 121, 122, 123, 124, 125, 126, 127, 128, 129, 130, 131, 132, 133, 134, 135, 136, 137, 138, 139, 140, 141] (by decide +kernel) (by decide +kernel)
set_option maxRecDepth 20000 in
theorem gX6_set_X6_speaks : GoodIn wsX6_set (wsV RX6 78 RX6 yX6_speaks wsX6_speaks) := goodIn_app (goodIn_of _ (by decide +kernel)) ggX6_set_X6_speaks
set_option maxRecDepth 20000 in
theorem ggX6_set_X6_findNarrowed : GoodIn wsX6_set wsX6_findNarrowed := goodIn_r _ [26, 9, 2, 1, 27, 28, 29, 7, 30, 13, 14, 15, 16, 17, 18, 19, 20, 21, 22, 31, 32, 33, 34, 35, 36, 37, 38, 39, 40, 41, 42, 43, 44, 45, 46, 47, 10, 11, 12, 48, 49, 50, 51, 52, 53, 54, 55, 56, 57, 58, 59, 60, 61, 62, 63, 64, 65, 66, 67, 68, 69, 70, 71, 72, 73, 74, 75, 76, 77, 78, 79, 80, 81, 82, 83, 84, 85, 86, 87, 88, 89, 90, 91, 121, 122, 123, 124, 125, 126, 127, 128, 129, 130, 131, 132, 133, 134, 135, 136, 137, 138, 139, 140, 141] (by decide +kernel) (by decide +kernel)
set_option maxRecDepth 20000 in
theorem gX6_set_X6_findNarrowed : GoodIn wsX6_set (wsV RX6 159 RX6 yX6_findNarrowed wsX6_findNarrowed) := goodIn_app (goodIn_of _ (by decide +kernel)) ggX6_set_X6_findNarrowed
set_option maxRecDepth 20000 in
theorem ggX6_set_X6_findSure : GoodIn wsX6_set wsX6_findSure := goodIn_r _ [95, 9, 3, 96, 97, 98, 7, 99, 27, 28, 29, 30, 1, 13, 14, 15, 16, 17, 18, 19, 20, 21, 22, 31, 32, 33, 34, 35, 36, 37, 38, 39, 40, 41, 42, 43, 44, 45, 46, 47, 10, 11, 12, 48, 49, 50, 51, 52, 53, 54, 55, 56, 57, 58, 59, 60, 61, 62, 63, 64, 65, 66, 67, 68, 69, 70, 71, 72, 73, 74, 100, 101, 102, 103, 104, 80, 81, 82, 83, 84, 105, 106, 107, 108, 109, 110, 111, 112, 113, 114, 115, 116, 117, 118, 119, 120, 121, 122, 123, 124, 125, 126, 127, 128, 129, 130, 131, 132, 133, 134, 135, 136, 137, 138, 139, 140, 141] (by decide +kernel) (by decide +kernel)
set_option maxRecDepth 20000 in
theorem gX6_set_X6_findSure : GoodIn wsX6_set (wsV RX6 162 RX6 yX6_findSure wsX6_findSure) := goodIn_app (goodIn_of _ (by decide +kernel)) ggX6_set_X6_findSure
theorem dX6_set_0 : decode cX6_set 0 = .ok (.aload_n 0, 1) := by decide +kernel
theorem dX6_set_1 : decode cX6_set 1 = .ok (.iload_n 1, 1) := by decide +kernel
theorem dX6_set_2 : decode cX6_set 2 = .ok (.invokevirtual 131, 3) := by decide +kernel
theorem dX6_set_5 : decode cX6_set 5 = .ok (.ifCond .ne 5, 3) := by decide +kernel
theorem dX6_set_8 : decode cX6_set 8 = .ok (.iconst (-1), 1) := by decide +kernel
theorem dX6_set_9 : decode cX6_set 9 = .ok (.ireturn, 1) := by decide +kernel
theorem dX6_set_10 : decode cX6_set 10 = .ok (.iload_n 2, 1) := by decide +kernel
theorem dX6_set_11 : decode cX6_set 11 = .ok (.iconst 0, 1) := by decide +kernel
theorem dX6_set_12 : decode cX6_set 12 = .ok (.iconst 2, 1) := by decide +kernel
theorem dX6_set_13 : decode cX6_set 13 = .ok (.invokestatic 64, 3) := by decide +kernel
theorem dX6_set_16 : decode cX6_set 16 = .ok (.ifCond .ne 6, 3) := by decide +kernel
theorem dX6_set_19 : decode cX6_set 19 = .ok (.bipush (-2), 2) := by decide +kernel
theorem dX6_set_21 : decode cX6_set 21 = .ok (.ireturn, 1) := by decide +kernel
theorem dX6_set_22 : decode cX6_set 22 = .ok (.aload_n 0, 1) := by decide +kernel
theorem dX6_set_23 : decode cX6_set 23 = .ok (.iload_n 1, 1) := by decide +kernel
theorem dX6_set_24 : decode cX6_set 24 = .ok (.invokevirtual 78, 3) := by decide +kernel
theorem dX6_set_27 : decode cX6_set 27 = .ok (.ifCond .ne 6, 3) := by decide +kernel
end
section
theorem dX6_set_30 : decode cX6_set 30 = .ok (.bipush (-9), 2) := by decide +kernel
theorem dX6_set_32 : decode cX6_set 32 = .ok (.ireturn, 1) := by decide +kernel
theorem dX6_set_33 : decode cX6_set 33 = .ok (.aload_n 0, 1) := by decide +kernel
theorem dX6_set_34 : decode cX6_set 34 = .ok (.invokevirtual 159, 3) := by decide +kernel
theorem dX6_set_37 : decode cX6_set 37 = .ok (.aload_n 0, 1) := by decide +kernel
theorem dX6_set_38 : decode cX6_set 38 = .ok (.invokevirtual 162, 3) := by decide +kernel
theorem dX6_set_41 : decode cX6_set 41 = .ok (.iload_n 2, 1) := by decide +kernel
theorem dX6_set_42 : decode cX6_set 42 = .ok (.ifCond .ne 12, 3) := by decide +kernel
theorem dX6_set_45 : decode cX6_set 45 = .ok (.aload_n 0, 1) := by decide +kernel
theorem dX6_set_46 : decode cX6_set 46 = .ok (.getfield 39, 3) := by decide +kernel
theorem dX6_set_49 : decode cX6_set 49 = .ok (.iload_n 1, 1) := by decide +kernel
theorem dX6_set_50 : decode cX6_set 50 = .ok (.iaload, 1) := by decide +kernel
theorem dX6_set_51 : decode cX6_set 51 = .ok (.goto 23, 3) := by decide +kernel
theorem dX6_set_54 : decode cX6_set 54 = .ok (.iload_n 2, 1) := by decide +kernel
theorem dX6_set_55 : decode cX6_set 55 = .ok (.iconst 1, 1) := by decide +kernel
theorem dX6_set_56 : decode cX6_set 56 = .ok (.if_icmp .ne 12, 3) := by decide +kernel
theorem dX6_set_59 : decode cX6_set 59 = .ok (.aload_n 0, 1) := by decide +kernel
theorem dX6_set_60 : decode cX6_set 60 = .ok (.getfield 42, 3) := by decide +kernel
theorem dX6_set_63 : decode cX6_set 63 = .ok (.iload_n 1, 1) := by decide +kernel
theorem dX6_set_64 : decode cX6_set 64 = .ok (.iaload, 1) := by decide +kernel
theorem dX6_set_65 : decode cX6_set 65 = .ok (.goto 9, 3) := by decide +kernel
theorem dX6_set_68 : decode cX6_set 68 = .ok (.aload_n 0, 1) := by decide +kernel
theorem dX6_set_69 : decode cX6_set 69 = .ok (.getfield 58, 3) := by decide +kernel
theorem dX6_set_72 : decode cX6_set 72 = .ok (.iload_n 1, 1) := by decide +kernel
theorem dX6_set_73 : decode cX6_set 73 = .ok (.iaload, 1) := by decide +kernel
theorem dX6_set_74 : decode cX6_set 74 = .ok (.ireturn, 1) := by decide +kernel
set_option maxRecDepth 20000 in
theorem ggX6_hint_X6_isParagraph : GoodIn wsX6_hint wsX6_isParagraph := goodIn_r _ [9, 1, 10, 11, 8, 12, 92, 93, 94, 95, 96, 97, 98, 99, 100, 101, 102, 103, 104, 105, 106, 107, 108, 109, 110, 111, 112] (by decide +kernel) (by decide +kernel)
set_option maxRecDepth 20000 in
theorem gX6_hint_X6_isParagraph : GoodIn wsX6_hint (wsV RX6 131 RX6 yX6_isParagraph wsX6_isParagraph) := goodIn_app (goodIn_of _ (by decide +kernel)) ggX6_hint_X6_isParagraph
set_option maxRecDepth 20000 in
theorem ggX6_hint_X6_within : GoodIn wsX6_hint wsX6_within := goodIn_r _ [12] (by decide +kernel) (by decide +kernel)
set_option maxRecDepth 20000 in
theorem gX6_hint_X6_within : GoodIn wsX6_hint (va_wsS RX6 64 yX6_within wsX6_within) := goodIn_app (goodIn_of _ (by decide +kernel)) ggX6_hint_X6_within
set_option maxRecDepth 20000 in
theorem ggX6_hint_X6_speaks : GoodIn wsX6_hint wsX6_speaks := goodIn_r _ [16, 17, 18, 19, 8, 20, 21, 22, 92, 93, 94, 95, 96, 97, 98, 99, 100, 101, 102, 103, 104, 105, 106, 107, 108, 109, 110, 111, 112] (by decide +kernel) (by decide +kernel)
set_option maxRecDepth 20000 in
theorem gX6_hint_X6_speaks : GoodIn wsX6_hint (wsV RX6 78 RX6 yX6_speaks wsX6_speaks) := goodIn_app (goodIn_of _ (by decide +kernel)) ggX6_hint_X6_speaks
set_option maxRecDepth 20000 in
theorem ggX6_hint_X6_findNarrowed : GoodIn wsX6_hint wsX6_findNarrowed := goodIn_r _ [26, 1, 3, 27, 28, 29, 30, 8, 31, 13, 14, 15, 16, 17, 18, 19, 20, 21, 22, 32, 33, 34, 35, 36, 37, 38, 4, 39, 40, 41, 42, 43, 44, 45, 46, 47, 10, 11, 12, 48, 49, 50, 51, 52, 53, 54, 55, 56, 57, 58, 59, 60, 61, 62, 63, 64, 65, 66, 67, 68, 69, 70, 71, 72, 73, 74, 75, 76, 77, 78, 79, 80, 81, 82, 83, 84, 85, 86, 87, 88, 89, 90, 91, 92, 93, 94, 95, 96, 97, 98, 99, 100, 101, 102, 103, 104, 105, 106, 107, 108, 109, 110, 111, 112] (by decide +kernel) (by decide +kernel)
set_option maxRecDepth 20000 in
theorem gX6_hint_X6_findNarrowed : GoodIn wsX6_hint (wsV RX6 159 RX6 yX6_findNarrowed wsX6_findNarrowed) := goodIn_app (goodIn_of _ (by decide +kernel)) ggX6_hint_X6_findNarrowed
theorem dX6_hint_0 : decode cX6_hint 0 = .ok (.aload_n 0, 1) := by decide +kernel
theorem dX6_hint_1 : decode cX6_hint 1 = .ok (.iload_n 1, 1) := by decide +kernel
theorem dX6_hint_2 : decode cX6_hint 2 = .ok (.invokevirtual 131, 3) := by decide +kernel
theorem dX6_hint_5 : decode cX6_hint 5 = .ok (.ifCond .ne 5, 3) := by decide +kernel
theorem dX6_hint_8 : decode cX6_hint 8 = .ok (.iconst (-1), 1) := by decide +kernel
theorem dX6_hint_9 : decode cX6_hint 9 = .ok (.ireturn, 1) := by decide +kernel
theorem dX6_hint_10 : decode cX6_hint 10 = .ok (.iload_n 2, 1) := by decide +kernel
theorem dX6_hint_11 : decode cX6_hint 11 = .ok (.bipush (-9), 2) := by decide +kernel
theorem dX6_hint_13 : decode cX6_hint 13 = .ok (.if_icmp .eq 17, 3) := by decide +kernel
theorem dX6_hint_16 : decode cX6_hint 16 = .ok (.iload_n 2, 1) := by decide +kernel
theorem dX6_hint_17 : decode cX6_hint 17 = .ok (.iconst 1, 1) := by decide +kernel
theorem dX6_hint_18 : decode cX6_hint 18 = .ok (.sipush 255, 3) := by decide +kernel
theorem dX6_hint_21 : decode cX6_hint 21 = .ok (.invokestatic 64, 3) := by decide +kernel
theorem dX6_hint_24 : decode cX6_hint 24 = .ok (.ifCond .ne 6, 3) := by decide +kernel
theorem dX6_hint_27 : decode cX6_hint 27 = .ok (.bipush (-2), 2) := by decide +kernel
theorem dX6_hint_29 : decode cX6_hint 29 = .ok (.ireturn, 1) := by decide +kernel
theorem dX6_hint_30 : decode cX6_hint 30 = .ok (.aload_n 0, 1) := by decide +kernel
theorem dX6_hint_31 : decode cX6_hint 31 = .ok (.iload_n 1, 1) := by decide +kernel
theorem dX6_hint_32 : decode cX6_hint 32 = .ok (.invokevirtual 78, 3) := by decide +kernel
theorem dX6_hint_35 : decode cX6_hint 35 = .ok (.ifCond .ne 6, 3) := by decide +kernel
theorem dX6_hint_38 : decode cX6_hint 38 = .ok (.bipush (-3), 2) := by decide +kernel
theorem dX6_hint_40 : decode cX6_hint 40 = .ok (.ireturn, 1) := by decide +kernel
theorem dX6_hint_41 : decode cX6_hint 41 = .ok (.aload_n 0, 1) := by decide +kernel
theorem dX6_hint_42 : decode cX6_hint 42 = .ok (.invokevirtual 159, 3) := by decide +kernel
theorem dX6_hint_45 : decode cX6_hint 45 = .ok (.iconst 0, 1) := by decide +kernel
theorem dX6_hint_46 : decode cX6_hint 46 = .ok (.istore_n 3, 1) := by decide +kernel
theorem dX6_hint_47 : decode cX6_hint 47 = .ok (.iload_n 3, 1) := by decide +kernel
theorem dX6_hint_48 : decode cX6_hint 48 = .ok (.aload_n 0, 1) := by decide +kernel
theorem dX6_hint_49 : decode cX6_hint 49 = .ok (.getfield 68, 3) := by decide +kernel
theorem dX6_hint_52 : decode cX6_hint 52 = .ok (.if_icmp .ge 21, 3) := by decide +kernel
theorem dX6_hint_55 : decode cX6_hint 55 = .ok (.aload_n 0, 1) := by decide +kernel
theorem dX6_hint_56 : decode cX6_hint 56 = .ok (.getfield 48, 3) := by decide +kernel
theorem dX6_hint_59 : decode cX6_hint 59 = .ok (.iload_n 3, 1) := by decide +kernel
theorem dX6_hint_60 : decode cX6_hint 60 = .ok (.aload_n 0, 1) := by decide +kernel
theorem dX6_hint_61 : decode cX6_hint 61 = .ok (.getfield 42, 3) := by decide +kernel
theorem dX6_hint_64 : decode cX6_hint 64 = .ok (.iload_n 3, 1) := by decide +kernel
theorem dX6_hint_65 : decode cX6_hint 65 = .ok (.iaload, 1) := by decide +kernel
theorem dX6_hint_66 : decode cX6_hint 66 = .ok (.iastore, 1) := by decide +kernel
theorem dX6_hint_67 : decode cX6_hint 67 = .ok (.iinc 3 1, 3) := by decide +kernel
theorem dX6_hint_70 : decode cX6_hint 70 = .ok (.goto (-23), 3) := by decide +kernel
theorem dX6_hint_73 : decode cX6_hint 73 = .ok (.aload_n 0, 1) := by decide +kernel
theorem dX6_hint_74 : decode cX6_hint 74 = .ok (.getfield 36, 3) := by decide +kernel
theorem dX6_hint_77 : decode cX6_hint 77 = .ok (.iload_n 1, 1) := by decide +kernel
theorem dX6_hint_78 : decode cX6_hint 78 = .ok (.iload_n 2, 1) := by decide +kernel
theorem dX6_hint_79 : decode cX6_hint 79 = .ok (.iastore, 1) := by decide +kernel
theorem dX6_hint_80 : decode cX6_hint 80 = .ok (.aload_n 0, 1) := by decide +kernel
theorem dX6_hint_81 : decode cX6_hint 81 = .ok (.invokevirtual 159, 3) := by decide +kernel
theorem dX6_hint_84 : decode cX6_hint 84 = .ok (.iconst 0, 1) := by decide +kernel
theorem dX6_hint_85 : decode cX6_hint 85 = .ok (.istore_n 3, 1) := by decide +kernel
theorem dX6_hint_86 : decode cX6_hint 86 = .ok (.iconst 0, 1) := by decide +kernel
theorem dX6_hint_87 : decode cX6_hint 87 = .ok (.istore 4, 2) := by decide +kernel
theorem dX6_hint_89 : decode cX6_hint 89 = .ok (.iload 4, 2) := by decide +kernel
theorem dX6_hint_91 : decode cX6_hint 91 = .ok (.aload_n 0, 1) := by decide +kernel
theorem dX6_hint_92 : decode cX6_hint 92 = .ok (.getfield 68, 3) := by decide +kernel
theorem dX6_hint_95 : decode cX6_hint 95 = .ok (.if_icmp .ge 34, 3) := by decide +kernel
theorem dX6_hint_98 : decode cX6_hint 98 = .ok (.iload_n 3, 1) := by decide +kernel
theorem dX6_hint_99 : decode cX6_hint 99 = .ok (.aload_n 0, 1) := by decide +kernel
theorem dX6_hint_100 : decode cX6_hint 100 = .ok (.getfield 42, 3) := by decide +kernel
theorem dX6_hint_103 : decode cX6_hint 103 = .ok (.iload 4, 2) := by decide +kernel
theorem dX6_hint_105 : decode cX6_hint 105 = .ok (.iaload, 1) := by decide +kernel
theorem dX6_hint_106 : decode cX6_hint 106 = .ok (.aload_n 0, 1) := by decide +kernel
theorem dX6_hint_107 : decode cX6_hint 107 = .ok (.getfield 48, 3) := by decide +kernel
theorem dX6_hint_110 : decode cX6_hint 110 = .ok (.iload 4, 2) := by decide +kernel
theorem dX6_hint_112 : decode cX6_hint 112 = .ok (.iaload, 1) := by decide +kernel
theorem dX6_hint_113 : decode cX6_hint 113 = .ok (.if_icmp .eq 7, 3) := by decide +kernel
theorem dX6_hint_116 : decode cX6_hint 116 = .ok (.iconst 1, 1) := by decide +kernel
theorem dX6_hint_117 : decode cX6_hint 117 = .ok (.goto 4, 3) := by decide +kernel
theorem dX6_hint_120 : decode cX6_hint 120 = .ok (.iconst 0, 1) := by decide +kernel
theorem dX6_hint_121 : decode cX6_hint 121 = .ok (.iadd, 1) := by decide +kernel
theorem dX6_hint_122 : decode cX6_hint 122 = .ok (.istore_n 3, 1) := by decide +kernel
theorem dX6_hint_123 : decode cX6_hint 123 = .ok (.iinc 4 1, 3) := by decide +kernel
theorem dX6_hint_126 : decode cX6_hint 126 = .ok (.goto (-37), 3) := by decide +kernel
theorem dX6_hint_129 : decode cX6_hint 129 = .ok (.iload_n 3, 1) := by decide +kernel
theorem dX6_hint_130 : decode cX6_hint 130 = .ok (.ireturn, 1) := by decide +kernel
set_option maxRecDepth 20000 in
theorem ggX6_isAllowed_X6_speaks : GoodIn wsX6_isAllowed wsX6_speaks := goodIn_r _ [6, 7, 8, 9, 5, 10, 11, 12, 16, 17, 18, 19, 20, 21, 22, 23, 24, 25, 26, 27, 28, 29, 30, 31, 32, 33, 34, 35, 36] (by decide +kernel) (by decide +kernel)
set_option maxRecDepth 20000 in
theorem gX6_isAllowed_X6_speaks : GoodIn wsX6_isAllowed (wsV RX6 78 RX6 yX6_speaks wsX6_speaks) := goodIn_app (goodIn_of _ (by decide +kernel)) ggX6_isAllowed_X6_speaks
set_option maxRecDepth 20000 in
theorem ggX6_isAllowed_X6_has : GoodIn wsX6_isAllowed wsX6_has := goodIn_r _ [15] (by decide +kernel) (by decide +kernel)
set_option maxRecDepth 20000 in
theorem gX6_isAllowed_X6_has : GoodIn wsX6_isAllowed (va_wsS RX6 85 yX6_has wsX6_has) := goodIn_app (goodIn_of _ (by decide +kernel)) ggX6_isAllowed_X6_has
theorem dX6_isAllowed_0 : decode cX6_isAllowed 0 = .ok (.aload_n 0, 1) := by decide +kernel
theorem dX6_isAllowed_1 : decode cX6_isAllowed 1 = .ok (.iload_n 2, 1) := by decide +kernel
theorem dX6_isAllowed_2 : decode cX6_isAllowed 2 = .ok (.invokevirtual 78, 3) := by decide +kernel
theorem dX6_isAllowed_5 : decode cX6_isAllowed 5 = .ok (.ifCond .ne 15, 3) := by decide +kernel
theorem dX6_isAllowed_8 : decode cX6_isAllowed 8 = .ok (.iload_n 1, 1) := by decide +kernel
theorem dX6_isAllowed_9 : decode cX6_isAllowed 9 = .ok (.ifCond .ne 7, 3) := by decide +kernel
theorem dX6_isAllowed_12 : decode cX6_isAllowed 12 = .ok (.iconst 1, 1) := by decide +kernel
theorem dX6_isAllowed_13 : decode cX6_isAllowed 13 = .ok (.goto 17, 3) := by decide +kernel
theorem dX6_isAllowed_16 : decode cX6_isAllowed 16 = .ok (.iconst 0, 1) := by decide +kernel
theorem dX6_isAllowed_17 : decode cX6_isAllowed 17 = .ok (.goto 13, 3) := by decide +kernel
theorem dX6_isAllowed_20 : decode cX6_isAllowed 20 = .ok (.aload_n 0, 1) := by decide +kernel
theorem dX6_isAllowed_21 : decode cX6_isAllowed 21 = .ok (.getfield 39, 3) := by decide +kernel
theorem dX6_isAllowed_24 : decode cX6_isAllowed 24 = .ok (.iload_n 2, 1) := by decide +kernel
theorem dX6_isAllowed_25 : decode cX6_isAllowed 25 = .ok (.iaload, 1) := by decide +kernel
theorem dX6_isAllowed_26 : decode cX6_isAllowed 26 = .ok (.iload_n 1, 1) := by decide +kernel
theorem dX6_isAllowed_27 : decode cX6_isAllowed 27 = .ok (.invokestatic 85, 3) := by decide +kernel
theorem dX6_isAllowed_30 : decode cX6_isAllowed 30 = .ok (.ireturn, 1) := by decide +kernel
theorem dX6_may_0 : decode cX6_may 0 = .ok (.iload_n 0, 1) := by decide +kernel
theorem dX6_may_1 : decode cX6_may 1 = .ok (.ifCond .eq 26, 3) := by decide +kernel
theorem dX6_may_4 : decode cX6_may 4 = .ok (.iload_n 0, 1) := by decide +kernel
theorem dX6_may_5 : decode cX6_may 5 = .ok (.iconst 1, 1) := by decide +kernel
theorem dX6_may_6 : decode cX6_may 6 = .ok (.if_icmp .ne 7, 3) := by decide +kernel
theorem dX6_may_9 : decode cX6_may 9 = .ok (.iconst 1, 1) := by decide +kernel
theorem dX6_may_10 : decode cX6_may 10 = .ok (.goto 4, 3) := by decide +kernel
theorem dX6_may_13 : decode cX6_may 13 = .ok (.iconst 0, 1) := by decide +kernel
theorem dX6_may_14 : decode cX6_may 14 = .ok (.iload_n 1, 1) := by decide +kernel
theorem dX6_may_15 : decode cX6_may 15 = .ok (.iload_n 2, 1) := by decide +kernel
theorem dX6_may_16 : decode cX6_may 16 = .ok (.if_icmp .ne 7, 3) := by decide +kernel
theorem dX6_may_19 : decode cX6_may 19 = .ok (.iconst 1, 1) := by decide +kernel
theorem dX6_may_20 : decode cX6_may 20 = .ok (.goto 4, 3) := by decide +kernel
theorem dX6_may_23 : decode cX6_may 23 = .ok (.iconst 0, 1) := by decide +kernel
theorem dX6_may_24 : decode cX6_may 24 = .ok (.if_icmp .ne 7, 3) := by decide +kernel
theorem dX6_may_27 : decode cX6_may 27 = .ok (.iconst 1, 1) := by decide +kernel
theorem dX6_may_28 : decode cX6_may 28 = .ok (.goto 4, 3) := by decide +kernel
theorem dX6_may_31 : decode cX6_may 31 = .ok (.iconst 0, 1) := by decide +kernel
theorem dX6_may_32 : decode cX6_may 32 = .ok (.ireturn, 1) := by decide +kernel
set_option maxRecDepth 20000 in
theorem ggX6_countUp_X6_linkAt : GoodIn wsX6_countUp wsX6_linkAt := goodIn_r _ [6, 7, 8, 9, 10, 11, 12, 5, 13, 14, 15, 16, 17, 18, 19, 20, 21, 22, 31, 32, 33, 34, 35, 36, 37, 38, 39, 40, 41, 42, 43, 44, 45, 46, 47, 48, 49, 50, 51] (by decide +kernel) (by decide +kernel)
set_option maxRecDepth 20000 in
theorem gX6_countUp_X6_linkAt : GoodIn wsX6_countUp (wsV RX6 143 RX6 yX6_linkAt wsX6_linkAt) := goodIn_app (goodIn_of _ (by decide +kernel)) ggX6_countUp_X6_linkAt
set_option maxRecDepth 20000 in
theorem ggX6_countUp_X6_may : GoodIn wsX6_countUp wsX6_may := goodIn_r _ [25] (by decide +kernel) (by decide +kernel)
set_option maxRecDepth 20000 in
theorem gX6_countUp_X6_may : GoodIn wsX6_countUp (va_wsS RX6 165 yX6_may wsX6_may) := goodIn_app (goodIn_of _ (by decide +kernel)) ggX6_countUp_X6_may
set_option maxRecDepth 20000 in
theorem ggX6_countUp_X6_isAllowed : GoodIn wsX6_countUp wsX6_isAllowed := goodIn_r _ [29, 30, 10, 11, 12, 5, 13, 14, 15, 16, 17, 18, 19, 20, 21, 22, 31, 32, 33, 34, 35, 36, 37, 38, 39, 40, 41, 42, 43, 44, 45, 46, 47, 48, 49, 50, 51] (by decide +kernel) (by decide +kernel)
set_option maxRecDepth 20000 in
theorem gX6_countUp_X6_isAllowed : GoodIn wsX6_countUp (wsV RX6 168 RX6 yX6_isAllowed wsX6_isAllowed) := goodIn_app (goodIn_of _ (by decide +kernel)) ggX6_countUp_X6_isAllowed
theorem dX6_countUp_0 : decode cX6_countUp 0 = .ok (.lconst 1, 1) := by decide +kernel
theorem dX6_countUp_1 : decode cX6_countUp 1 = .ok (.lstore_n 3, 1) := by decide +kernel
theorem dX6_countUp_2 : decode cX6_countUp 2 = .ok (.iload_n 1, 1) := by decide +kernel
theorem dX6_countUp_3 : decode cX6_countUp 3 = .ok (.istore 5, 2) := by decide +kernel
theorem dX6_countUp_5 : decode cX6_countUp 5 = .ok (.iload 5, 2) := by decide +kernel
theorem dX6_countUp_7 : decode cX6_countUp 7 = .ok (.iload_n 2, 1) := by decide +kernel
theorem dX6_countUp_8 : decode cX6_countUp 8 = .ok (.if_icmp .gt 148, 3) := by decide +kernel
theorem dX6_countUp_11 : decode cX6_countUp 11 = .ok (.lconst 0, 1) := by decide +kernel
theorem dX6_countUp_12 : decode cX6_countUp 12 = .ok (.lstore_n 3, 1) := by decide +kernel
theorem dX6_countUp_13 : decode cX6_countUp 13 = .ok (.iconst 0, 1) := by decide +kernel
theorem dX6_countUp_14 : decode cX6_countUp 14 = .ok (.istore 6, 2) := by decide +kernel
theorem dX6_countUp_16 : decode cX6_countUp 16 = .ok (.iload 6, 2) := by decide +kernel
theorem dX6_countUp_18 : decode cX6_countUp 18 = .ok (.bipush 8, 2) := by decide +kernel
theorem dX6_countUp_20 : decode cX6_countUp 20 = .ok (.if_icmp .ge 130, 3) := by decide +kernel
theorem dX6_countUp_23 : decode cX6_countUp 23 = .ok (.iload 5, 2) := by decide +kernel
theorem dX6_countUp_25 : decode cX6_countUp 25 = .ok (.iload_n 1, 1) := by decide +kernel
theorem dX6_countUp_26 : decode cX6_countUp 26 = .ok (.if_icmp .ne 7, 3) := by decide +kernel
theorem dX6_countUp_29 : decode cX6_countUp 29 = .ok (.lconst 1, 1) := by decide +kernel
theorem dX6_countUp_30 : decode cX6_countUp 30 = .ok (.goto 4, 3) := by decide +kernel
theorem dX6_countUp_33 : decode cX6_countUp 33 = .ok (.lconst 0, 1) := by decide +kernel
theorem dX6_countUp_34 : decode cX6_countUp 34 = .ok (.lstore 7, 2) := by decide +kernel
theorem dX6_countUp_36 : decode cX6_countUp 36 = .ok (.iconst 0, 1) := by decide +kernel
theorem dX6_countUp_37 : decode cX6_countUp 37 = .ok (.istore 9, 2) := by decide +kernel
theorem dX6_countUp_39 : decode cX6_countUp 39 = .ok (.iload 9, 2) := by decide +kernel
theorem dX6_countUp_41 : decode cX6_countUp 41 = .ok (.bipush 8, 2) := by decide +kernel
theorem dX6_countUp_43 : decode cX6_countUp 43 = .ok (.if_icmp .ge 55, 3) := by decide +kernel
theorem dX6_countUp_46 : decode cX6_countUp 46 = .ok (.iload 5, 2) := by decide +kernel
theorem dX6_countUp_48 : decode cX6_countUp 48 = .ok (.iload_n 1, 1) := by decide +kernel
theorem dX6_countUp_49 : decode cX6_countUp 49 = .ok (.if_icmp .le 49, 3) := by decide +kernel
theorem dX6_countUp_52 : decode cX6_countUp 52 = .ok (.lload 7, 2) := by decide +kernel
theorem dX6_countUp_54 : decode cX6_countUp 54 = .ok (.aload_n 0, 1) := by decide +kernel
theorem dX6_countUp_55 : decode cX6_countUp 55 = .ok (.iload 5, 2) := by decide +kernel
theorem dX6_countUp_57 : decode cX6_countUp 57 = .ok (.invokevirtual 143, 3) := by decide +kernel
theorem dX6_countUp_60 : decode cX6_countUp 60 = .ok (.iload 6, 2) := by decide +kernel
theorem dX6_countUp_62 : decode cX6_countUp 62 = .ok (.iload 9, 2) := by decide +kernel
theorem dX6_countUp_64 : decode cX6_countUp 64 = .ok (.invokestatic 165, 3) := by decide +kernel
theorem dX6_countUp_67 : decode cX6_countUp 67 = .ok (.ifCond .eq 21, 3) := by decide +kernel
theorem dX6_countUp_70 : decode cX6_countUp 70 = .ok (.aload_n 0, 1) := by decide +kernel
theorem dX6_countUp_71 : decode cX6_countUp 71 = .ok (.getfield 51, 3) := by decide +kernel
theorem dX6_countUp_74 : decode cX6_countUp 74 = .ok (.bipush 8, 2) := by decide +kernel
theorem dX6_countUp_76 : decode cX6_countUp 76 = .ok (.iload 5, 2) := by decide +kernel
theorem dX6_countUp_78 : decode cX6_countUp 78 = .ok (.iconst 1, 1) := by decide +kernel
theorem dX6_countUp_79 : decode cX6_countUp 79 = .ok (.isub, 1) := by decide +kernel
theorem dX6_countUp_80 : decode cX6_countUp 80 = .ok (.imul, 1) := by decide +kernel
theorem dX6_countUp_81 : decode cX6_countUp 81 = .ok (.iload 9, 2) := by decide +kernel
theorem dX6_countUp_83 : decode cX6_countUp 83 = .ok (.iadd, 1) := by decide +kernel
theorem dX6_countUp_84 : decode cX6_countUp 84 = .ok (.laload, 1) := by decide +kernel
theorem dX6_countUp_85 : decode cX6_countUp 85 = .ok (.goto 4, 3) := by decide +kernel
theorem dX6_countUp_88 : decode cX6_countUp 88 = .ok (.lconst 0, 1) := by decide +kernel
theorem dX6_countUp_89 : decode cX6_countUp 89 = .ok (.ladd, 1) := by decide +kernel
theorem dX6_countUp_90 : decode cX6_countUp 90 = .ok (.lstore 7, 2) := by decide +kernel
theorem dX6_countUp_92 : decode cX6_countUp 92 = .ok (.iinc 9 1, 3) := by decide +kernel
theorem dX6_countUp_95 : decode cX6_countUp 95 = .ok (.goto (-56), 3) := by decide +kernel
theorem dX6_countUp_98 : decode cX6_countUp 98 = .ok (.aload_n 0, 1) := by decide +kernel
theorem dX6_countUp_99 : decode cX6_countUp 99 = .ok (.getfield 51, 3) := by decide +kernel
theorem dX6_countUp_102 : decode cX6_countUp 102 = .ok (.bipush 8, 2) := by decide +kernel
theorem dX6_countUp_104 : decode cX6_countUp 104 = .ok (.iload 5, 2) := by decide +kernel
theorem dX6_countUp_106 : decode cX6_countUp 106 = .ok (.imul, 1) := by decide +kernel
theorem dX6_countUp_107 : decode cX6_countUp 107 = .ok (.iload 6, 2) := by decide +kernel
theorem dX6_countUp_109 : decode cX6_countUp 109 = .ok (.iadd, 1) := by decide +kernel
theorem dX6_countUp_110 : decode cX6_countUp 110 = .ok (.aload_n 0, 1) := by decide +kernel
theorem dX6_countUp_111 : decode cX6_countUp 111 = .ok (.iload 6, 2) := by decide +kernel
theorem dX6_countUp_113 : decode cX6_countUp 113 = .ok (.iload 5, 2) := by decide +kernel
theorem dX6_countUp_115 : decode cX6_countUp 115 = .ok (.invokevirtual 168, 3) := by decide +kernel
theorem dX6_countUp_118 : decode cX6_countUp 118 = .ok (.ifCond .eq 8, 3) := by decide +kernel
theorem dX6_countUp_121 : decode cX6_countUp 121 = .ok (.lload 7, 2) := by decide +kernel
theorem dX6_countUp_123 : decode cX6_countUp 123 = .ok (.goto 4, 3) := by decide +kernel
theorem dX6_countUp_126 : decode cX6_countUp 126 = .ok (.lconst 0, 1) := by decide +kernel
theorem dX6_countUp_127 : decode cX6_countUp 127 = .ok (.lastore, 1) := by decide +kernel
theorem dX6_countUp_128 : decode cX6_countUp 128 = .ok (.lload_n 3, 1) := by decide +kernel
theorem dX6_countUp_129 : decode cX6_countUp 129 = .ok (.aload_n 0, 1) := by decide +kernel
theorem dX6_countUp_130 : decode cX6_countUp 130 = .ok (.getfield 51, 3) := by decide +kernel
theorem dX6_countUp_133 : decode cX6_countUp 133 = .ok (.bipush 8, 2) := by decide +kernel
theorem dX6_countUp_135 : decode cX6_countUp 135 = .ok (.iload 5, 2) := by decide +kernel
theorem dX6_countUp_137 : decode cX6_countUp 137 = .ok (.imul, 1) := by decide +kernel
theorem dX6_countUp_138 : decode cX6_countUp 138 = .ok (.iload 6, 2) := by decide +kernel
theorem dX6_countUp_140 : decode cX6_countUp 140 = .ok (.iadd, 1) := by decide +kernel
theorem dX6_countUp_141 : decode cX6_countUp 141 = .ok (.laload, 1) := by decide +kernel
theorem dX6_countUp_142 : decode cX6_countUp 142 = .ok (.ladd, 1) := by decide +kernel
theorem dX6_countUp_143 : decode cX6_countUp 143 = .ok (.lstore_n 3, 1) := by decide +kernel
theorem dX6_countUp_144 : decode cX6_countUp 144 = .ok (.iinc 6 1, 3) := by decide +kernel
theorem dX6_countUp_147 : decode cX6_countUp 147 = .ok (.goto (-131), 3) := by decide +kernel
theorem dX6_countUp_150 : decode cX6_countUp 150 = .ok (.iinc 5 1, 3) := by decide +kernel
theorem dX6_countUp_153 : decode cX6_countUp 153 = .ok (.goto (-148), 3) := by decide +kernel
theorem dX6_countUp_156 : decode cX6_countUp 156 = .ok (.lload_n 3, 1) := by decide +kernel
theorem dX6_countUp_157 : decode cX6_countUp 157 = .ok (.lreturn, 1) := by decide +kernel
set_option maxRecDepth 20000 in
theorem ggX6_countDown_X6_linkAt : GoodIn wsX6_countDown wsX6_linkAt := goodIn_r _ [7, 1, 8, 9, 10, 11, 12, 6, 13, 14, 15, 16, 17, 18, 19, 20, 21, 22, 31, 32, 33, 34, 35, 36, 37, 38, 39, 40, 41, 42, 43, 44, 45, 46, 47, 48, 49, 50, 51] (by decide +kernel) (by decide +kernel)
set_option maxRecDepth 20000 in
theorem gX6_countDown_X6_linkAt : GoodIn wsX6_countDown (wsV RX6 143 RX6 yX6_linkAt wsX6_linkAt) := goodIn_app (goodIn_of _ (by decide +kernel)) ggX6_countDown_X6_linkAt
set_option maxRecDepth 20000 in
theorem ggX6_countDown_X6_may : GoodIn wsX6_countDown wsX6_may := goodIn_r _ [25] (by decide +kernel) (by decide +kernel)
set_option maxRecDepth 20000 in
theorem gX6_countDown_X6_may : GoodIn wsX6_countDown (va_wsS RX6 165 yX6_may wsX6_may) := goodIn_app (goodIn_of _ (by decide +kernel)) ggX6_countDown_X6_may
set_option maxRecDepth 20000 in
theorem ggX6_countDown_X6_isAllowed : GoodIn wsX6_countDown wsX6_isAllowed := goodIn_r _ [29, 30, 10, 11, 12, 6, 13, 14, 15, 16, 17, 18, 19, 20, 21, 22, 31, 32, 33, 34, 35, 36, 37, 38, 39, 40, 41, 42, 43, 44, 45, 46, 47, 48, 49, 50, 51] (by decide +kernel) (by decide +kernel)
set_option maxRecDepth 20000 in
theorem gX6_countDown_X6_isAllowed : GoodIn wsX6_countDown (wsV RX6 168 RX6 yX6_isAllowed wsX6_isAllowed) := goodIn_app (goodIn_of _ (by decide +kernel)) ggX6_countDown_X6_isAllowed
theorem dX6_countDown_0 : decode cX6_countDown 0 = .ok (.aload_n 0, 1) := by decide +kernel
theorem dX6_countDown_1 : decode cX6_countDown 1 = .ok (.getfield 68, 3) := by decide +kernel
theorem dX6_countDown_4 : decode cX6_countDown 4 = .ok (.iconst 1, 1) := by decide +kernel
theorem dX6_countDown_5 : decode cX6_countDown 5 = .ok (.isub, 1) := by decide +kernel
theorem dX6_countDown_6 : decode cX6_countDown 6 = .ok (.istore_n 1, 1) := by decide +kernel
theorem dX6_countDown_7 : decode cX6_countDown 7 = .ok (.iload_n 1, 1) := by decide +kernel
theorem dX6_countDown_8 : decode cX6_countDown 8 = .ok (.ifCond .lt 127, 3) := by decide +kernel
theorem dX6_countDown_11 : decode cX6_countDown 11 = .ok (.iconst 0, 1) := by decide +kernel
theorem dX6_countDown_12 : decode cX6_countDown 12 = .ok (.istore_n 2, 1) := by decide +kernel
theorem dX6_countDown_13 : decode cX6_countDown 13 = .ok (.iload_n 2, 1) := by decide +kernel
theorem dX6_countDown_14 : decode cX6_countDown 14 = .ok (.bipush 8, 2) := by decide +kernel
theorem dX6_countDown_16 : decode cX6_countDown 16 = .ok (.if_icmp .ge 113, 3) := by decide +kernel
theorem dX6_countDown_19 : decode cX6_countDown 19 = .ok (.iload_n 1, 1) := by decide +kernel
theorem dX6_countDown_20 : decode cX6_countDown 20 = .ok (.aload_n 0, 1) := by decide +kernel
theorem dX6_countDown_21 : decode cX6_countDown 21 = .ok (.getfield 68, 3) := by decide +kernel
theorem dX6_countDown_24 : decode cX6_countDown 24 = .ok (.iconst 1, 1) := by decide +kernel
theorem dX6_countDown_25 : decode cX6_countDown 25 = .ok (.isub, 1) := by decide +kernel
theorem dX6_countDown_26 : decode cX6_countDown 26 = .ok (.if_icmp .ne 7, 3) := by decide +kernel
theorem dX6_countDown_29 : decode cX6_countDown 29 = .ok (.lconst 1, 1) := by decide +kernel
theorem dX6_countDown_30 : decode cX6_countDown 30 = .ok (.goto 4, 3) := by decide +kernel
theorem dX6_countDown_33 : decode cX6_countDown 33 = .ok (.lconst 0, 1) := by decide +kernel
theorem dX6_countDown_34 : decode cX6_countDown 34 = .ok (.lstore_n 3, 1) := by decide +kernel
theorem dX6_countDown_35 : decode cX6_countDown 35 = .ok (.iconst 0, 1) := by decide +kernel
theorem dX6_countDown_36 : decode cX6_countDown 36 = .ok (.istore 5, 2) := by decide +kernel
theorem dX6_countDown_38 : decode cX6_countDown 38 = .ok (.iload 5, 2) := by decide +kernel
theorem dX6_countDown_40 : decode cX6_countDown 40 = .ok (.bipush 8, 2) := by decide +kernel
theorem dX6_countDown_42 : decode cX6_countDown 42 = .ok (.if_icmp .ge 56, 3) := by decide +kernel
theorem dX6_countDown_45 : decode cX6_countDown 45 = .ok (.iload_n 1, 1) := by decide +kernel
theorem dX6_countDown_46 : decode cX6_countDown 46 = .ok (.aload_n 0, 1) := by decide +kernel
theorem dX6_countDown_47 : decode cX6_countDown 47 = .ok (.getfield 68, 3) := by decide +kernel
theorem dX6_countDown_50 : decode cX6_countDown 50 = .ok (.iconst 1, 1) := by decide +kernel
theorem dX6_countDown_51 : decode cX6_countDown 51 = .ok (.isub, 1) := by decide +kernel
theorem dX6_countDown_52 : decode cX6_countDown 52 = .ok (.if_icmp .ge 46, 3) := by decide +kernel
theorem dX6_countDown_55 : decode cX6_countDown 55 = .ok (.lload_n 3, 1) := by decide +kernel
theorem dX6_countDown_56 : decode cX6_countDown 56 = .ok (.aload_n 0, 1) := by decide +kernel
theorem dX6_countDown_57 : decode cX6_countDown 57 = .ok (.iload_n 1, 1) := by decide +kernel
theorem dX6_countDown_58 : decode cX6_countDown 58 = .ok (.iconst 1, 1) := by decide +kernel
theorem dX6_countDown_59 : decode cX6_countDown 59 = .ok (.iadd, 1) := by decide +kernel
theorem dX6_countDown_60 : decode cX6_countDown 60 = .ok (.invokevirtual 143, 3) := by decide +kernel
theorem dX6_countDown_63 : decode cX6_countDown 63 = .ok (.iload_n 2, 1) := by decide +kernel
theorem dX6_countDown_64 : decode cX6_countDown 64 = .ok (.iload 5, 2) := by decide +kernel
theorem dX6_countDown_66 : decode cX6_countDown 66 = .ok (.invokestatic 165, 3) := by decide +kernel
theorem dX6_countDown_69 : decode cX6_countDown 69 = .ok (.ifCond .eq 20, 3) := by decide +kernel
theorem dX6_countDown_72 : decode cX6_countDown 72 = .ok (.aload_n 0, 1) := by decide +kernel
theorem dX6_countDown_73 : decode cX6_countDown 73 = .ok (.getfield 55, 3) := by decide +kernel
theorem dX6_countDown_76 : decode cX6_countDown 76 = .ok (.bipush 8, 2) := by decide +kernel
theorem dX6_countDown_78 : decode cX6_countDown 78 = .ok (.iload_n 1, 1) := by decide +kernel
theorem dX6_countDown_79 : decode cX6_countDown 79 = .ok (.iconst 1, 1) := by decide +kernel
theorem dX6_countDown_80 : decode cX6_countDown 80 = .ok (.iadd, 1) := by decide +kernel
theorem dX6_countDown_81 : decode cX6_countDown 81 = .ok (.imul, 1) := by decide +kernel
theorem dX6_countDown_82 : decode cX6_countDown 82 = .ok (.iload 5, 2) := by decide +kernel
theorem dX6_countDown_84 : decode cX6_countDown 84 = .ok (.iadd, 1) := by decide +kernel
theorem dX6_countDown_85 : decode cX6_countDown 85 = .ok (.laload, 1) := by decide +kernel
theorem dX6_countDown_86 : decode cX6_countDown 86 = .ok (.goto 4, 3) := by decide +kernel
theorem dX6_countDown_89 : decode cX6_countDown 89 = .ok (.lconst 0, 1) := by decide +kernel
theorem dX6_countDown_90 : decode cX6_countDown 90 = .ok (.ladd, 1) := by decide +kernel
theorem dX6_countDown_91 : decode cX6_countDown 91 = .ok (.lstore_n 3, 1) := by decide +kernel
theorem dX6_countDown_92 : decode cX6_countDown 92 = .ok (.iinc 5 1, 3) := by decide +kernel
theorem dX6_countDown_95 : decode cX6_countDown 95 = .ok (.goto (-57), 3) := by decide +kernel
theorem dX6_countDown_98 : decode cX6_countDown 98 = .ok (.aload_n 0, 1) := by decide +kernel
theorem dX6_countDown_99 : decode cX6_countDown 99 = .ok (.getfield 55, 3) := by decide +kernel
theorem dX6_countDown_102 : decode cX6_countDown 102 = .ok (.bipush 8, 2) := by decide +kernel
theorem dX6_countDown_104 : decode cX6_countDown 104 = .ok (.iload_n 1, 1) := by decide +kernel
theorem dX6_countDown_105 : decode cX6_countDown 105 = .ok (.imul, 1) := by decide +kernel
theorem dX6_countDown_106 : decode cX6_countDown 106 = .ok (.iload_n 2, 1) := by decide +kernel
theorem dX6_countDown_107 : decode cX6_countDown 107 = .ok (.iadd, 1) := by decide +kernel
theorem dX6_countDown_108 : decode cX6_countDown 108 = .ok (.aload_n 0, 1) := by decide +kernel
theorem dX6_countDown_109 : decode cX6_countDown 109 = .ok (.iload_n 2, 1) := by decide +kernel
theorem dX6_countDown_110 : decode cX6_countDown 110 = .ok (.iload_n 1, 1) := by decide +kernel
theorem dX6_countDown_111 : decode cX6_countDown 111 = .ok (.invokevirtual 168, 3) := by decide +kernel
theorem dX6_countDown_114 : decode cX6_countDown 114 = .ok (.ifCond .eq 7, 3) := by decide +kernel
theorem dX6_countDown_117 : decode cX6_countDown 117 = .ok (.lload_n 3, 1) := by decide +kernel
theorem dX6_countDown_118 : decode cX6_countDown 118 = .ok (.goto 4, 3) := by decide +kernel
theorem dX6_countDown_121 : decode cX6_countDown 121 = .ok (.lconst 0, 1) := by decide +kernel
theorem dX6_countDown_122 : decode cX6_countDown 122 = .ok (.lastore, 1) := by decide +kernel
theorem dX6_countDown_123 : decode cX6_countDown 123 = .ok (.iinc 2 1, 3) := by decide +kernel
theorem dX6_countDown_126 : decode cX6_countDown 126 = .ok (.goto (-113), 3) := by decide +kernel
theorem dX6_countDown_129 : decode cX6_countDown 129 = .ok (.iinc 1 (-1), 3) := by decide +kernel
theorem dX6_countDown_132 : decode cX6_countDown 132 = .ok (.goto (-125), 3) := by decide +kernel
theorem dX6_countDown_135 : decode cX6_countDown 135 = .ok (.return_, 1) := by decide +kernel
set_option maxRecDepth 20000 in
theorem ggX6_findWays_X6_findOwn : GoodIn wsX6_findWays wsX6_findOwn := goodIn_r _ [6, 1, 7, 8, 9, 10, 5, 11, 12, 13, 14, 15, 16, 17, 18, 19, 20, 21, 22, 23, 24, 25, 26, 27, 28, 29, 30, 31, 32, 33, 34, 35, 36, 37, 38, 39, 40, 41, 42, 43, 44, 45, 46, 47, 48, 49, 50, 51, 52, 53, 54, 55, 56, 57, 58, 59, 60, 61, 62, 63, 64, 87, 88, 89, 90, 91, 92, 93, 94, 95, 96, 97, 98, 99, 100, 101, 102, 103, 104, 105, 106, 107] (by decide +kernel) (by decide +kernel)
set_option maxRecDepth 20000 in
theorem gX6_findWays_X6_findOwn : GoodIn wsX6_findWays (wsV RX6 153 RX6 yX6_findOwn wsX6_findOwn) := goodIn_app (goodIn_of _ (by decide +kernel)) ggX6_findWays_X6_findOwn
set_option maxRecDepth 20000 in
theorem ggX6_findWays_X6_countDown : GoodIn wsX6_findWays wsX6_countDown := goodIn_r _ [68, 1, 69, 70, 71, 72, 5, 73, 74, 24, 8, 9, 10, 11, 12, 13, 14, 15, 16, 17, 38, 39, 40, 75, 76, 77, 78, 79, 80, 81, 7, 87, 88, 89, 90, 91, 92, 93, 94, 95, 96, 97, 98, 99, 100, 101, 102, 103, 104, 105, 106, 107] (by decide +kernel) (by decide +kernel)
set_option maxRecDepth 20000 in
theorem gX6_findWays_X6_countDown : GoodIn wsX6_findWays (wsV RX6 171 RX6 yX6_countDown wsX6_countDown) := goodIn_app (goodIn_of _ (by decide +kernel)) ggX6_findWays_X6_countDown
set_option maxRecDepth 20000 in
theorem ggX6_findWays_X6_countUp : GoodIn wsX6_findWays wsX6_countUp := goodIn_r _ [85, 86, 70, 71, 72, 5, 73, 1, 74, 24, 8, 9, 10, 11, 12, 13, 14, 15, 16, 17, 38, 39, 40, 75, 76, 77, 78, 79, 80, 81, 7, 87, 88, 89, 90, 91, 92, 93, 94, 95, 96, 97, 98, 99, 100, 101, 102, 103, 104, 105, 106, 107] (by decide +kernel) (by decide +kernel)
set_option maxRecDepth 20000 in
theorem gX6_findWays_X6_countUp : GoodIn wsX6_findWays (wsV RX6 174 RX6 yX6_countUp wsX6_countUp) := goodIn_app (goodIn_of _ (by decide +kernel)) ggX6_findWays_X6_countUp
theorem dX6_findWays_0 : decode cX6_findWays 0 = .ok (.aload_n 0, 1) := by decide +kernel
theorem dX6_findWays_1 : decode cX6_findWays 1 = .ok (.invokevirtual 153, 3) := by decide +kernel
theorem dX6_findWays_4 : decode cX6_findWays 4 = .ok (.aload_n 0, 1) := by decide +kernel
theorem dX6_findWays_5 : decode cX6_findWays 5 = .ok (.invokevirtual 171, 3) := by decide +kernel
theorem dX6_findWays_8 : decode cX6_findWays 8 = .ok (.aload_n 0, 1) := by decide +kernel
theorem dX6_findWays_9 : decode cX6_findWays 9 = .ok (.iconst 0, 1) := by decide +kernel
theorem dX6_findWays_10 : decode cX6_findWays 10 = .ok (.aload_n 0, 1) := by decide +kernel
theorem dX6_findWays_11 : decode cX6_findWays 11 = .ok (.getfield 68, 3) := by decide +kernel
theorem dX6_findWays_14 : decode cX6_findWays 14 = .ok (.iconst 1, 1) := by decide +kernel
theorem dX6_findWays_15 : decode cX6_findWays 15 = .ok (.isub, 1) := by decide +kernel
theorem dX6_findWays_16 : decode cX6_findWays 16 = .ok (.invokevirtual 174, 3) := by decide +kernel
theorem dX6_findWays_19 : decode cX6_findWays 19 = .ok (.lreturn, 1) := by decide +kernel
set_option maxRecDepth 20000 in
theorem ggX6_waysWith_X6_linkAt : GoodIn wsX6_waysWith wsX6_linkAt := goodIn_r _ [8, 1, 9, 10, 11, 12, 13, 7, 14, 15, 16, 17, 18, 19, 20, 21, 22, 23, 27, 28, 29, 30, 31, 32, 33, 34, 35, 36, 37, 38, 39, 40, 41, 42, 43, 44, 45, 46, 47] (by decide +kernel) (by decide +kernel)
set_option maxRecDepth 20000 in
theorem gX6_waysWith_X6_linkAt : GoodIn wsX6_waysWith (wsV RX6 143 RX6 yX6_linkAt wsX6_linkAt) := goodIn_app (goodIn_of _ (by decide +kernel)) ggX6_waysWith_X6_linkAt
set_option maxRecDepth 20000 in
theorem ggX6_waysWith_X6_may : GoodIn wsX6_waysWith wsX6_may := goodIn_r _ [26] (by decide +kernel) (by decide +kernel)
set_option maxRecDepth 20000 in
theorem gX6_waysWith_X6_may : GoodIn wsX6_waysWith (va_wsS RX6 165 yX6_may wsX6_may) := goodIn_app (goodIn_of _ (by decide +kernel)) ggX6_waysWith_X6_may
theorem dX6_waysWith_0 : decode cX6_waysWith 0 = .ok (.lconst 1, 1) := by decide +kernel
theorem dX6_waysWith_1 : decode cX6_waysWith 1 = .ok (.lstore_n 3, 1) := by decide +kernel
theorem dX6_waysWith_2 : decode cX6_waysWith 2 = .ok (.iload_n 1, 1) := by decide +kernel
theorem dX6_waysWith_3 : decode cX6_waysWith 3 = .ok (.iconst 1, 1) := by decide +kernel
theorem dX6_waysWith_4 : decode cX6_waysWith 4 = .ok (.iadd, 1) := by decide +kernel
theorem dX6_waysWith_5 : decode cX6_waysWith 5 = .ok (.aload_n 0, 1) := by decide +kernel
theorem dX6_waysWith_6 : decode cX6_waysWith 6 = .ok (.getfield 68, 3) := by decide +kernel
theorem dX6_waysWith_9 : decode cX6_waysWith 9 = .ok (.if_icmp .ge 58, 3) := by decide +kernel
theorem dX6_waysWith_12 : decode cX6_waysWith 12 = .ok (.lconst 0, 1) := by decide +kernel
theorem dX6_waysWith_13 : decode cX6_waysWith 13 = .ok (.lstore_n 3, 1) := by decide +kernel
theorem dX6_waysWith_14 : decode cX6_waysWith 14 = .ok (.iconst 0, 1) := by decide +kernel
theorem dX6_waysWith_15 : decode cX6_waysWith 15 = .ok (.istore 5, 2) := by decide +kernel
theorem dX6_waysWith_17 : decode cX6_waysWith 17 = .ok (.iload 5, 2) := by decide +kernel
theorem dX6_waysWith_19 : decode cX6_waysWith 19 = .ok (.bipush 8, 2) := by decide +kernel
theorem dX6_waysWith_21 : decode cX6_waysWith 21 = .ok (.if_icmp .ge 46, 3) := by decide +kernel
theorem dX6_waysWith_24 : decode cX6_waysWith 24 = .ok (.lload_n 3, 1) := by decide +kernel
theorem dX6_waysWith_25 : decode cX6_waysWith 25 = .ok (.aload_n 0, 1) := by decide +kernel
theorem dX6_waysWith_26 : decode cX6_waysWith 26 = .ok (.iload_n 1, 1) := by decide +kernel
theorem dX6_waysWith_27 : decode cX6_waysWith 27 = .ok (.iconst 1, 1) := by decide +kernel
theorem dX6_waysWith_28 : decode cX6_waysWith 28 = .ok (.iadd, 1) := by decide +kernel
theorem dX6_waysWith_29 : decode cX6_waysWith 29 = .ok (.invokevirtual 143, 3) := by decide +kernel
theorem dX6_waysWith_32 : decode cX6_waysWith 32 = .ok (.iload_n 2, 1) := by decide +kernel
theorem dX6_waysWith_33 : decode cX6_waysWith 33 = .ok (.iload 5, 2) := by decide +kernel
theorem dX6_waysWith_35 : decode cX6_waysWith 35 = .ok (.invokestatic 165, 3) := by decide +kernel
theorem dX6_waysWith_38 : decode cX6_waysWith 38 = .ok (.ifCond .eq 20, 3) := by decide +kernel
theorem dX6_waysWith_41 : decode cX6_waysWith 41 = .ok (.aload_n 0, 1) := by decide +kernel
theorem dX6_waysWith_42 : decode cX6_waysWith 42 = .ok (.getfield 55, 3) := by decide +kernel
theorem dX6_waysWith_45 : decode cX6_waysWith 45 = .ok (.bipush 8, 2) := by decide +kernel
theorem dX6_waysWith_47 : decode cX6_waysWith 47 = .ok (.iload_n 1, 1) := by decide +kernel
theorem dX6_waysWith_48 : decode cX6_waysWith 48 = .ok (.iconst 1, 1) := by decide +kernel
theorem dX6_waysWith_49 : decode cX6_waysWith 49 = .ok (.iadd, 1) := by decide +kernel
theorem dX6_waysWith_50 : decode cX6_waysWith 50 = .ok (.imul, 1) := by decide +kernel
theorem dX6_waysWith_51 : decode cX6_waysWith 51 = .ok (.iload 5, 2) := by decide +kernel
theorem dX6_waysWith_53 : decode cX6_waysWith 53 = .ok (.iadd, 1) := by decide +kernel
theorem dX6_waysWith_54 : decode cX6_waysWith 54 = .ok (.laload, 1) := by decide +kernel
theorem dX6_waysWith_55 : decode cX6_waysWith 55 = .ok (.goto 4, 3) := by decide +kernel
theorem dX6_waysWith_58 : decode cX6_waysWith 58 = .ok (.lconst 0, 1) := by decide +kernel
theorem dX6_waysWith_59 : decode cX6_waysWith 59 = .ok (.ladd, 1) := by decide +kernel
theorem dX6_waysWith_60 : decode cX6_waysWith 60 = .ok (.lstore_n 3, 1) := by decide +kernel
theorem dX6_waysWith_61 : decode cX6_waysWith 61 = .ok (.iinc 5 1, 3) := by decide +kernel
theorem dX6_waysWith_64 : decode cX6_waysWith 64 = .ok (.goto (-47), 3) := by decide +kernel
theorem dX6_waysWith_67 : decode cX6_waysWith 67 = .ok (.aload_n 0, 1) := by decide +kernel
theorem dX6_waysWith_68 : decode cX6_waysWith 68 = .ok (.getfield 51, 3) := by decide +kernel
theorem dX6_waysWith_71 : decode cX6_waysWith 71 = .ok (.bipush 8, 2) := by decide +kernel
theorem dX6_waysWith_73 : decode cX6_waysWith 73 = .ok (.iload_n 1, 1) := by decide +kernel
theorem dX6_waysWith_74 : decode cX6_waysWith 74 = .ok (.imul, 1) := by decide +kernel
theorem dX6_waysWith_75 : decode cX6_waysWith 75 = .ok (.iload_n 2, 1) := by decide +kernel
theorem dX6_waysWith_76 : decode cX6_waysWith 76 = .ok (.iadd, 1) := by decide +kernel
theorem dX6_waysWith_77 : decode cX6_waysWith 77 = .ok (.laload, 1) := by decide +kernel
theorem dX6_waysWith_78 : decode cX6_waysWith 78 = .ok (.lload_n 3, 1) := by decide +kernel
theorem dX6_waysWith_79 : decode cX6_waysWith 79 = .ok (.lmul, 1) := by decide +kernel
theorem dX6_waysWith_80 : decode cX6_waysWith 80 = .ok (.lreturn, 1) := by decide +kernel
set_option maxRecDepth 20000 in
theorem ggX6_ways_X6_findWays : GoodIn wsX6_ways wsX6_findWays := goodIn_r _ [5, 6, 7, 8, 9, 4, 10, 11, 12, 13, 14, 15, 16, 17, 18, 19, 20, 21, 22, 23, 24, 25, 26, 27, 28, 29, 30, 31, 32, 33, 34, 35, 36, 37, 38, 39, 40, 41, 42, 43, 44, 45, 46, 47, 48, 49, 50, 51, 52, 53, 54, 55, 56, 57, 58, 59, 60, 61, 62, 63, 64, 65, 66, 67, 68, 69, 70, 71, 72, 73, 74, 75, 76, 77, 78, 79, 80, 81, 82, 83, 84, 85, 86, 87, 88, 89, 90, 91, 92, 93, 94, 95, 96, 97, 98, 99, 100, 101, 102, 103, 104, 105, 106, 107, 108, 109, 110, 111] (by decide +kernel) (by decide +kernel)
set_option maxRecDepth 20000 in
theorem gX6_ways_X6_findWays : GoodIn wsX6_ways (wsV RX6 178 RX6 yX6_findWays wsX6_findWays) := goodIn_app (goodIn_of _ (by decide +kernel)) ggX6_ways_X6_findWays
theorem dX6_ways_0 : decode cX6_ways 0 = .ok (.aload_n 0, 1) := by decide +kernel
theorem dX6_ways_1 : decode cX6_ways 1 = .ok (.invokevirtual 178, 3) := by decide +kernel
theorem dX6_ways_4 : decode cX6_ways 4 = .ok (.lreturn, 1) := by decide +kernel
set_option maxRecDepth 20000 in
theorem ggX6_would_X6_isParagraph : GoodIn wsX6_would wsX6_isParagraph := goodIn_r _ [6, 7, 8, 9, 5, 10, 104, 105, 106, 107, 108, 109, 110, 111, 112, 113, 114, 115, 116, 117, 118, 119, 120, 121, 122, 123, 124] (by decide +kernel) (by decide +kernel)
set_option maxRecDepth 20000 in
theorem gX6_would_X6_isParagraph : GoodIn wsX6_would (wsV RX6 131 RX6 yX6_isParagraph wsX6_isParagraph) := goodIn_app (goodIn_of _ (by decide +kernel)) ggX6_would_X6_isParagraph
set_option maxRecDepth 20000 in
theorem ggX6_would_X6_isThere : GoodIn wsX6_would wsX6_isThere := goodIn_r _ [14, 15, 8, 9, 5, 10, 104, 105, 106, 107, 108, 109, 110, 111, 112, 113, 114, 115, 116, 117, 118, 119, 120, 121, 122, 123, 124] (by decide +kernel) (by decide +kernel)
set_option maxRecDepth 20000 in
theorem gX6_would_X6_isThere : GoodIn wsX6_would (wsV RX6 71 RX6 yX6_isThere wsX6_isThere) := goodIn_app (goodIn_of _ (by decide +kernel)) ggX6_would_X6_isThere
set_option maxRecDepth 20000 in
theorem ggX6_would_X6_findWays : GoodIn wsX6_would wsX6_findWays := goodIn_r _ [19, 7, 20, 21, 22, 5, 23, 24, 25, 26, 27, 28, 29, 30, 31, 32, 33, 34, 35, 36, 37, 38, 39, 40, 41, 42, 43, 44, 45, 46, 15, 47, 48, 49, 50, 8, 9, 10, 51, 52, 53, 54, 55, 56, 57, 58, 59, 60, 61, 62, 63, 64, 65, 66, 67, 68, 69, 70, 71, 72, 73, 74, 75, 76, 77, 78, 79, 80, 81, 82, 83, 84, 85, 86, 87, 88, 89, 90, 91, 92, 93, 94, 95, 96, 97, 98, 99, 104, 105, 106, 107, 108, 109, 110, 111, 112, 113, 114, 115, 116, 117, 118, 119, 120, 121, 122, 123, 124] (by decide +kernel) (by decide +kernel)
set_option maxRecDepth 20000 in
theorem gX6_would_X6_findWays : GoodIn wsX6_would (wsV RX6 178 RX6 yX6_findWays wsX6_findWays) := goodIn_app (goodIn_of _ (by decide +kernel)) ggX6_would_X6_findWays
set_option maxRecDepth 20000 in
theorem ggX6_would_X6_speaks : GoodIn wsX6_would wsX6_speaks := goodIn_r _ [28, 29, 30, 31, 5, 32, 33, 34, 104, 105, 106, 107, 108, 109, 110, 111, 112, 113, 114, 115, 116, 117, 118, 119, 120, 121, 122, 123, 124] (by decide +kernel) (by decide +kernel)
set_option maxRecDepth 20000 in
theorem gX6_would_X6_speaks : GoodIn wsX6_would (wsV RX6 78 RX6 yX6_speaks wsX6_speaks) := goodIn_app (goodIn_of _ (by decide +kernel)) ggX6_would_X6_speaks
set_option maxRecDepth 20000 in
theorem ggX6_would_X6_waysWith : GoodIn wsX6_would wsX6_waysWith := goodIn_r _ [103, 7, 82, 99, 83, 84, 85, 5, 86, 87, 41, 25, 26, 27, 28, 29, 30, 31, 32, 33, 34, 51, 52, 53, 88, 89, 90, 104, 105, 106, 107, 108, 109, 110, 111, 112, 113, 114, 115, 116, 117, 118, 119, 120, 121, 122, 123, 124] (by decide +kernel) (by decide +kernel)
set_option maxRecDepth 20000 in
theorem gX6_would_X6_waysWith : GoodIn wsX6_would (wsV RX6 184 RX6 yX6_waysWith wsX6_waysWith) := goodIn_app (goodIn_of _ (by decide +kernel)) ggX6_would_X6_waysWith
theorem dX6_would_0 : decode cX6_would 0 = .ok (.aload_n 0, 1) := by decide +kernel
theorem dX6_would_1 : decode cX6_would 1 = .ok (.iload_n 1, 1) := by decide +kernel
theorem dX6_would_2 : decode cX6_would 2 = .ok (.invokevirtual 131, 3) := by decide +kernel
theorem dX6_would_5 : decode cX6_would 5 = .ok (.ifCond .eq 11, 3) := by decide +kernel
theorem dX6_would_8 : decode cX6_would 8 = .ok (.aload_n 0, 1) := by decide +kernel
theorem dX6_would_9 : decode cX6_would 9 = .ok (.iload_n 2, 1) := by decide +kernel
theorem dX6_would_10 : decode cX6_would 10 = .ok (.invokevirtual 71, 3) := by decide +kernel
theorem dX6_would_13 : decode cX6_would 13 = .ok (.ifCond .ne 7, 3) := by decide +kernel
theorem dX6_would_16 : decode cX6_would 16 = .ok (.ldc2_w 182, 3) := by decide +kernel
theorem dX6_would_19 : decode cX6_would 19 = .ok (.lreturn, 1) := by decide +kernel
theorem dX6_would_20 : decode cX6_would 20 = .ok (.aload_n 0, 1) := by decide +kernel
theorem dX6_would_21 : decode cX6_would 21 = .ok (.invokevirtual 178, 3) := by decide +kernel
theorem dX6_would_24 : decode cX6_would 24 = .ok (.pop2, 1) := by decide +kernel
theorem dX6_would_25 : decode cX6_would 25 = .ok (.aload_n 0, 1) := by decide +kernel
theorem dX6_would_26 : decode cX6_would 26 = .ok (.iload_n 1, 1) := by decide +kernel
theorem dX6_would_27 : decode cX6_would 27 = .ok (.invokevirtual 78, 3) := by decide +kernel
theorem dX6_would_30 : decode cX6_would 30 = .ok (.ifCond .eq 12, 3) := by decide +kernel
theorem dX6_would_33 : decode cX6_would 33 = .ok (.aload_n 0, 1) := by decide +kernel
theorem dX6_would_34 : decode cX6_would 34 = .ok (.iload_n 1, 1) := by decide +kernel
theorem dX6_would_35 : decode cX6_would 35 = .ok (.iload_n 2, 1) := by decide +kernel
theorem dX6_would_36 : decode cX6_would 36 = .ok (.invokevirtual 184, 3) := by decide +kernel
theorem dX6_would_39 : decode cX6_would 39 = .ok (.goto 4, 3) := by decide +kernel
theorem dX6_would_42 : decode cX6_would 42 = .ok (.lconst 0, 1) := by decide +kernel
theorem dX6_would_43 : decode cX6_would 43 = .ok (.lreturn, 1) := by decide +kernel
set_option maxRecDepth 20000 in
theorem ggX6_findSure_X6_findWays : GoodIn wsX6_findSure wsX6_findWays := goodIn_r _ [7, 1, 8, 9, 10, 6, 11, 12, 13, 14, 15, 16, 17, 18, 19, 20, 21, 22, 23, 24, 25, 26, 27, 28, 29, 30, 31, 32, 33, 34, 35, 36, 37, 38, 39, 40, 41, 42, 43, 44, 45, 46, 47, 48, 49, 50, 51, 52, 53, 54, 55, 56, 57, 58, 59, 60, 61, 62, 63, 64, 65, 66, 67, 68, 69, 70, 71, 72, 73, 74, 75, 76, 77, 78, 79, 80, 81, 82, 83, 84, 85, 86, 87, 88, 89, 90, 91, 96, 97, 98, 99, 100, 101, 102, 103, 104, 105, 106, 107, 108, 109, 110, 111, 112, 113, 114, 115, 116] (by decide +kernel) (by decide +kernel)
set_option maxRecDepth 20000 in
theorem gX6_findSure_X6_findWays : GoodIn wsX6_findSure (wsV RX6 178 RX6 yX6_findWays wsX6_findWays) := goodIn_app (goodIn_of _ (by decide +kernel)) ggX6_findSure_X6_findWays
set_option maxRecDepth 20000 in
theorem ggX6_findSure_X6_speaks : GoodIn wsX6_findSure wsX6_speaks := goodIn_r _ [16, 17, 18, 19, 6, 20, 21, 22, 96, 97, 98, 99, 100, 101, 102, 103, 104, 105, 106, 107, 108, 109, 110, 111, 112, 113, 114, 115, 116] (by decide +kernel) (by decide +kernel)
set_option maxRecDepth 20000 in
theorem gX6_findSure_X6_speaks : GoodIn wsX6_findSure (wsV RX6 78 RX6 yX6_speaks wsX6_speaks) := goodIn_app (goodIn_of _ (by decide +kernel)) ggX6_findSure_X6_speaks
set_option maxRecDepth 20000 in
theorem ggX6_findSure_X6_waysWith : GoodIn wsX6_findSure wsX6_waysWith := goodIn_r _ [95, 1, 74, 91, 75, 76, 77, 6, 78, 79, 29, 13, 14, 15, 16, 17, 18, 19, 20, 21, 22, 43, 44, 45, 80, 81, 82, 96, 97, 98, 99, 100, 101, 102, 103, 104, 105, 106, 107, 108, 109, 110, 111, 112, 113, 114, 115, 116] (by decide +kernel) (by decide +kernel)
set_option maxRecDepth 20000 in
theorem gX6_findSure_X6_waysWith : GoodIn wsX6_findSure (wsV RX6 184 RX6 yX6_waysWith wsX6_waysWith) := goodIn_app (goodIn_of _ (by decide +kernel)) ggX6_findSure_X6_waysWith
theorem dX6_findSure_0 : decode cX6_findSure 0 = .ok (.aload_n 0, 1) := by decide +kernel
theorem dX6_findSure_1 : decode cX6_findSure 1 = .ok (.invokevirtual 178, 3) := by decide +kernel
theorem dX6_findSure_4 : decode cX6_findSure 4 = .ok (.pop2, 1) := by decide +kernel
theorem dX6_findSure_5 : decode cX6_findSure 5 = .ok (.iconst 0, 1) := by decide +kernel
theorem dX6_findSure_6 : decode cX6_findSure 6 = .ok (.istore_n 1, 1) := by decide +kernel
theorem dX6_findSure_7 : decode cX6_findSure 7 = .ok (.iload_n 1, 1) := by decide +kernel
theorem dX6_findSure_8 : decode cX6_findSure 8 = .ok (.aload_n 0, 1) := by decide +kernel
theorem dX6_findSure_9 : decode cX6_findSure 9 = .ok (.getfield 68, 3) := by decide +kernel
theorem dX6_findSure_12 : decode cX6_findSure 12 = .ok (.if_icmp .ge 65, 3) := by decide +kernel
theorem dX6_findSure_15 : decode cX6_findSure 15 = .ok (.aload_n 0, 1) := by decide +kernel
theorem dX6_findSure_16 : decode cX6_findSure 16 = .ok (.getfield 58, 3) := by decide +kernel
theorem dX6_findSure_19 : decode cX6_findSure 19 = .ok (.iload_n 1, 1) := by decide +kernel
theorem dX6_findSure_20 : decode cX6_findSure 20 = .ok (.iconst 0, 1) := by decide +kernel
theorem dX6_findSure_21 : decode cX6_findSure 21 = .ok (.iastore, 1) := by decide +kernel
theorem dX6_findSure_22 : decode cX6_findSure 22 = .ok (.iconst 0, 1) := by decide +kernel
theorem dX6_findSure_23 : decode cX6_findSure 23 = .ok (.istore_n 2, 1) := by decide +kernel
theorem dX6_findSure_24 : decode cX6_findSure 24 = .ok (.iload_n 2, 1) := by decide +kernel
theorem dX6_findSure_25 : decode cX6_findSure 25 = .ok (.bipush 8, 2) := by decide +kernel
theorem dX6_findSure_27 : decode cX6_findSure 27 = .ok (.if_icmp .ge 44, 3) := by decide +kernel
theorem dX6_findSure_30 : decode cX6_findSure 30 = .ok (.aload_n 0, 1) := by decide +kernel
theorem dX6_findSure_31 : decode cX6_findSure 31 = .ok (.getfield 58, 3) := by decide +kernel
theorem dX6_findSure_34 : decode cX6_findSure 34 = .ok (.iload_n 1, 1) := by decide +kernel
theorem dX6_findSure_35 : decode cX6_findSure 35 = .ok (.dup2, 1) := by decide +kernel
theorem dX6_findSure_36 : decode cX6_findSure 36 = .ok (.iaload, 1) := by decide +kernel
theorem dX6_findSure_37 : decode cX6_findSure 37 = .ok (.aload_n 0, 1) := by decide +kernel
theorem dX6_findSure_38 : decode cX6_findSure 38 = .ok (.iload_n 1, 1) := by decide +kernel
theorem dX6_findSure_39 : decode cX6_findSure 39 = .ok (.invokevirtual 78, 3) := by decide +kernel
theorem dX6_findSure_42 : decode cX6_findSure 42 = .ok (.ifCond .eq 20, 3) := by decide +kernel
theorem dX6_findSure_45 : decode cX6_findSure 45 = .ok (.aload_n 0, 1) := by decide +kernel
theorem dX6_findSure_46 : decode cX6_findSure 46 = .ok (.iload_n 1, 1) := by decide +kernel
theorem dX6_findSure_47 : decode cX6_findSure 47 = .ok (.iload_n 2, 1) := by decide +kernel
theorem dX6_findSure_48 : decode cX6_findSure 48 = .ok (.invokevirtual 184, 3) := by decide +kernel
theorem dX6_findSure_51 : decode cX6_findSure 51 = .ok (.lconst 0, 1) := by decide +kernel
theorem dX6_findSure_52 : decode cX6_findSure 52 = .ok (.lcmp, 1) := by decide +kernel
theorem dX6_findSure_53 : decode cX6_findSure 53 = .ok (.ifCond .le 9, 3) := by decide +kernel
theorem dX6_findSure_56 : decode cX6_findSure 56 = .ok (.iconst 1, 1) := by decide +kernel
theorem dX6_findSure_57 : decode cX6_findSure 57 = .ok (.iload_n 2, 1) := by decide +kernel
theorem dX6_findSure_58 : decode cX6_findSure 58 = .ok (.ishl, 1) := by decide +kernel
theorem dX6_findSure_59 : decode cX6_findSure 59 = .ok (.goto 4, 3) := by decide +kernel
theorem dX6_findSure_62 : decode cX6_findSure 62 = .ok (.iconst 0, 1) := by decide +kernel
theorem dX6_findSure_63 : decode cX6_findSure 63 = .ok (.ior, 1) := by decide +kernel
theorem dX6_findSure_64 : decode cX6_findSure 64 = .ok (.iastore, 1) := by decide +kernel
theorem dX6_findSure_65 : decode cX6_findSure 65 = .ok (.iinc 2 1, 3) := by decide +kernel
theorem dX6_findSure_68 : decode cX6_findSure 68 = .ok (.goto (-44), 3) := by decide +kernel
theorem dX6_findSure_71 : decode cX6_findSure 71 = .ok (.iinc 1 1, 3) := by decide +kernel
theorem dX6_findSure_74 : decode cX6_findSure 74 = .ok (.goto (-67), 3) := by decide +kernel
theorem dX6_findSure_77 : decode cX6_findSure 77 = .ok (.return_, 1) := by decide +kernel
set_option maxRecDepth 20000 in
theorem ggX6_conflict_X6_within : GoodIn wsX6_conflict wsX6_within := goodIn_r _ [4] (by decide +kernel) (by decide +kernel)
set_option maxRecDepth 20000 in
theorem gX6_conflict_X6_within : GoodIn wsX6_conflict (va_wsS RX6 64 yX6_within wsX6_within) := goodIn_app (goodIn_of _ (by decide +kernel)) ggX6_conflict_X6_within
set_option maxRecDepth 20000 in
theorem ggX6_conflict_X6_findWays : GoodIn wsX6_conflict wsX6_findWays := goodIn_r _ [8, 9, 10, 11, 12, 3, 13, 14, 15, 16, 17, 18, 19, 20, 21, 22, 23, 24, 25, 26, 27, 28, 29, 30, 31, 32, 33, 34, 35, 36, 37, 38, 39, 40, 41, 1, 2, 4, 42, 43, 44, 45, 46, 47, 48, 49, 50, 51, 52, 53, 54, 55, 56, 57, 58, 59, 60, 61, 62, 63, 64, 65, 66, 67, 68, 69, 70, 71, 72, 73, 74, 75, 76, 77, 78, 79, 80, 81, 82, 83, 84, 85, 86, 87, 88, 89, 90, 91, 92, 93, 94, 95, 96, 97, 98, 99, 100, 101, 102, 103, 104, 105, 106, 107, 108, 109, 110, 111] (by decide +kernel) (by decide +kernel)
set_option maxRecDepth 20000 in
theorem gX6_conflict_X6_findWays : GoodIn wsX6_conflict (wsV RX6 178 RX6 yX6_findWays wsX6_findWays) := goodIn_app (goodIn_of _ (by decide +kernel)) ggX6_conflict_X6_findWays
set_option maxRecDepth 20000 in
theorem ggX6_conflict_X6_countUp : GoodIn wsX6_conflict wsX6_countUp := goodIn_r _ [89, 90, 74, 75, 76, 3, 77, 9, 78, 31, 15, 16, 17, 18, 19, 20, 21, 22, 23, 24, 42, 43, 44, 79, 80, 81, 82, 83, 84, 85, 14, 91, 92, 93, 94, 95, 96, 97, 98, 99, 100, 101, 102, 103, 104, 105, 106, 107, 108, 109, 110, 111] (by decide +kernel) (by decide +kernel)
set_option maxRecDepth 20000 in
theorem gX6_conflict_X6_countUp : GoodIn wsX6_conflict (wsV RX6 174 RX6 yX6_countUp wsX6_countUp) := goodIn_app (goodIn_of _ (by decide +kernel)) ggX6_conflict_X6_countUp
theorem dX6_conflict_0 : decode cX6_conflict 0 = .ok (.iload_n 1, 1) := by decide +kernel
theorem dX6_conflict_1 : decode cX6_conflict 1 = .ok (.iconst 0, 1) := by decide +kernel
theorem dX6_conflict_2 : decode cX6_conflict 2 = .ok (.iconst 1, 1) := by decide +kernel
theorem dX6_conflict_3 : decode cX6_conflict 3 = .ok (.invokestatic 64, 3) := by decide +kernel
theorem dX6_conflict_6 : decode cX6_conflict 6 = .ok (.ifCond .ne 6, 3) := by decide +kernel
theorem dX6_conflict_9 : decode cX6_conflict 9 = .ok (.bipush (-2), 2) := by decide +kernel
theorem dX6_conflict_11 : decode cX6_conflict 11 = .ok (.ireturn, 1) := by decide +kernel
theorem dX6_conflict_12 : decode cX6_conflict 12 = .ok (.aload_n 0, 1) := by decide +kernel
theorem dX6_conflict_13 : decode cX6_conflict 13 = .ok (.invokevirtual 178, 3) := by decide +kernel
theorem dX6_conflict_16 : decode cX6_conflict 16 = .ok (.lconst 0, 1) := by decide +kernel
theorem dX6_conflict_17 : decode cX6_conflict 17 = .ok (.lcmp, 1) := by decide +kernel
theorem dX6_conflict_18 : decode cX6_conflict 18 = .ok (.ifCond .le 6, 3) := by decide +kernel
theorem dX6_conflict_21 : decode cX6_conflict 21 = .ok (.bipush (-9), 2) := by decide +kernel
theorem dX6_conflict_23 : decode cX6_conflict 23 = .ok (.ireturn, 1) := by decide +kernel
theorem dX6_conflict_24 : decode cX6_conflict 24 = .ok (.iconst 0, 1) := by decide +kernel
theorem dX6_conflict_25 : decode cX6_conflict 25 = .ok (.istore_n 2, 1) := by decide +kernel
theorem dX6_conflict_26 : decode cX6_conflict 26 = .ok (.aload_n 0, 1) := by decide +kernel
theorem dX6_conflict_27 : decode cX6_conflict 27 = .ok (.iconst 0, 1) := by decide +kernel
theorem dX6_conflict_28 : decode cX6_conflict 28 = .ok (.iload_n 2, 1) := by decide +kernel
theorem dX6_conflict_29 : decode cX6_conflict 29 = .ok (.invokevirtual 174, 3) := by decide +kernel
theorem dX6_conflict_32 : decode cX6_conflict 32 = .ok (.lconst 0, 1) := by decide +kernel
theorem dX6_conflict_33 : decode cX6_conflict 33 = .ok (.lcmp, 1) := by decide +kernel
theorem dX6_conflict_34 : decode cX6_conflict 34 = .ok (.ifCond .le 9, 3) := by decide +kernel
theorem dX6_conflict_37 : decode cX6_conflict 37 = .ok (.iinc 2 1, 3) := by decide +kernel
theorem dX6_conflict_40 : decode cX6_conflict 40 = .ok (.goto (-14), 3) := by decide +kernel
theorem dX6_conflict_43 : decode cX6_conflict 43 = .ok (.iload_n 2, 1) := by decide +kernel
theorem dX6_conflict_44 : decode cX6_conflict 44 = .ok (.istore_n 3, 1) := by decide +kernel
theorem dX6_conflict_45 : decode cX6_conflict 45 = .ok (.aload_n 0, 1) := by decide +kernel
theorem dX6_conflict_46 : decode cX6_conflict 46 = .ok (.iload_n 3, 1) := by decide +kernel
theorem dX6_conflict_47 : decode cX6_conflict 47 = .ok (.iload_n 2, 1) := by decide +kernel
theorem dX6_conflict_48 : decode cX6_conflict 48 = .ok (.invokevirtual 174, 3) := by decide +kernel
theorem dX6_conflict_51 : decode cX6_conflict 51 = .ok (.lconst 0, 1) := by decide +kernel
theorem dX6_conflict_52 : decode cX6_conflict 52 = .ok (.lcmp, 1) := by decide +kernel
theorem dX6_conflict_53 : decode cX6_conflict 53 = .ok (.ifCond .le 9, 3) := by decide +kernel
theorem dX6_conflict_56 : decode cX6_conflict 56 = .ok (.iinc 3 (-1), 3) := by decide +kernel
theorem dX6_conflict_59 : decode cX6_conflict 59 = .ok (.goto (-14), 3) := by decide +kernel
theorem dX6_conflict_62 : decode cX6_conflict 62 = .ok (.iload_n 1, 1) := by decide +kernel
theorem dX6_conflict_63 : decode cX6_conflict 63 = .ok (.ifCond .ne 7, 3) := by decide +kernel
theorem dX6_conflict_66 : decode cX6_conflict 66 = .ok (.iload_n 3, 1) := by decide +kernel
theorem dX6_conflict_67 : decode cX6_conflict 67 = .ok (.goto 4, 3) := by decide +kernel
theorem dX6_conflict_70 : decode cX6_conflict 70 = .ok (.iload_n 2, 1) := by decide +kernel
theorem dX6_conflict_71 : decode cX6_conflict 71 = .ok (.ireturn, 1) := by decide +kernel
set_option maxRecDepth 20000 in
theorem ggX6_asked_X6_findSure : GoodIn wsX6_asked wsX6_findSure := goodIn_r _ [7, 1, 2, 8, 9, 10, 6, 11, 12, 13, 14, 15, 16, 17, 18, 19, 20, 21, 22, 23, 24, 25, 26, 27, 28, 29, 30, 31, 32, 33, 34, 35, 36, 37, 38, 39, 40, 41, 42, 43, 44, 45, 46, 47, 48, 49, 50, 51, 52, 53, 54, 55, 56, 57, 58, 59, 60, 61, 62, 63, 64, 65, 66, 67, 68, 69, 70, 71, 72, 73, 74, 75, 76, 77, 78, 79, 80, 81, 82, 83, 84, 85, 86, 87, 88, 89, 90, 91, 92, 93, 94, 95, 96, 97, 98, 99, 103, 104, 105, 106, 107, 108, 109, 110, 111, 112, 113, 114, 115, 116, 117, 118, 119, 120, 121, 122, 123] (by decide +kernel) (by decide +kernel)
set_option maxRecDepth 20000 in
theorem gX6_asked_X6_findSure : GoodIn wsX6_asked (wsV RX6 162 RX6 yX6_findSure wsX6_findSure) := goodIn_app (goodIn_of _ (by decide +kernel)) ggX6_asked_X6_findSure
set_option maxRecDepth 20000 in
theorem ggX6_asked_X6_has : GoodIn wsX6_asked wsX6_has := goodIn_r _ [49] (by decide +kernel) (by decide +kernel)
set_option maxRecDepth 20000 in
theorem gX6_asked_X6_has : GoodIn wsX6_asked (va_wsS RX6 85 yX6_has wsX6_has) := goodIn_app (goodIn_of _ (by decide +kernel)) ggX6_asked_X6_has
set_option maxRecDepth 20000 in
theorem ggX6_asked_X6_waysWith : GoodIn wsX6_asked wsX6_waysWith := goodIn_r _ [99, 1, 78, 95, 79, 80, 81, 6, 82, 83, 33, 17, 18, 19, 20, 21, 22, 23, 24, 25, 26, 47, 48, 49, 84, 85, 86, 103, 104, 105, 106, 107, 108, 109, 110, 111, 112, 113, 114, 115, 116, 117, 118, 119, 120, 121, 122, 123] (by decide +kernel) (by decide +kernel)
set_option maxRecDepth 20000 in
theorem gX6_asked_X6_waysWith : GoodIn wsX6_asked (wsV RX6 184 RX6 yX6_waysWith wsX6_waysWith) := goodIn_app (goodIn_of _ (by decide +kernel)) ggX6_asked_X6_waysWith
set_option maxRecDepth 20000 in
theorem ggX6_asked_X6_size : GoodIn wsX6_asked wsX6_size := goodIn_r _ [102] (by decide +kernel) (by decide +kernel)
set_option maxRecDepth 20000 in
theorem gX6_asked_X6_size : GoodIn wsX6_asked (va_wsS RX6 146 yX6_size wsX6_size) := goodIn_app (goodIn_of _ (by decide +kernel)) ggX6_asked_X6_size
theorem dX6_asked_0 : decode cX6_asked 0 = .ok (.aload_n 0, 1) := by decide +kernel
theorem dX6_asked_1 : decode cX6_asked 1 = .ok (.invokevirtual 162, 3) := by decide +kernel
theorem dX6_asked_4 : decode cX6_asked 4 = .ok (.bipush (-9), 2) := by decide +kernel
theorem dX6_asked_6 : decode cX6_asked 6 = .ok (.istore_n 1, 1) := by decide +kernel
theorem dX6_asked_7 : decode cX6_asked 7 = .ok (.lconst 0, 1) := by decide +kernel
theorem dX6_asked_8 : decode cX6_asked 8 = .ok (.lstore_n 2, 1) := by decide +kernel
theorem dX6_asked_9 : decode cX6_asked 9 = .ok (.iconst 0, 1) := by decide +kernel
theorem dX6_asked_10 : decode cX6_asked 10 = .ok (.istore 4, 2) := by decide +kernel
theorem dX6_asked_12 : decode cX6_asked 12 = .ok (.iload 4, 2) := by decide +kernel
theorem dX6_asked_14 : decode cX6_asked 14 = .ok (.aload_n 0, 1) := by decide +kernel
theorem dX6_asked_15 : decode cX6_asked 15 = .ok (.getfield 68, 3) := by decide +kernel
theorem dX6_asked_18 : decode cX6_asked 18 = .ok (.if_icmp .ge 117, 3) := by decide +kernel
theorem dX6_asked_21 : decode cX6_asked 21 = .ok (.lconst 0, 1) := by decide +kernel
theorem dX6_asked_22 : decode cX6_asked 22 = .ok (.lstore 5, 2) := by decide +kernel
theorem dX6_asked_24 : decode cX6_asked 24 = .ok (.iconst 0, 1) := by decide +kernel
theorem dX6_asked_25 : decode cX6_asked 25 = .ok (.istore 7, 2) := by decide +kernel
theorem dX6_asked_27 : decode cX6_asked 27 = .ok (.iload 7, 2) := by decide +kernel
theorem dX6_asked_29 : decode cX6_asked 29 = .ok (.bipush 8, 2) := by decide +kernel
theorem dX6_asked_31 : decode cX6_asked 31 = .ok (.if_icmp .ge 65, 3) := by decide +kernel
theorem dX6_asked_34 : decode cX6_asked 34 = .ok (.aload_n 0, 1) := by decide +kernel
theorem dX6_asked_35 : decode cX6_asked 35 = .ok (.getfield 58, 3) := by decide +kernel
theorem dX6_asked_38 : decode cX6_asked 38 = .ok (.iload 4, 2) := by decide +kernel
theorem dX6_asked_40 : decode cX6_asked 40 = .ok (.iaload, 1) := by decide +kernel
theorem dX6_asked_41 : decode cX6_asked 41 = .ok (.iload 7, 2) := by decide +kernel
theorem dX6_asked_43 : decode cX6_asked 43 = .ok (.invokestatic 85, 3) := by decide +kernel
theorem dX6_asked_46 : decode cX6_asked 46 = .ok (.ifCond .eq 21, 3) := by decide +kernel
theorem dX6_asked_49 : decode cX6_asked 49 = .ok (.aload_n 0, 1) := by decide +kernel
theorem dX6_asked_50 : decode cX6_asked 50 = .ok (.iload 4, 2) := by decide +kernel
theorem dX6_asked_52 : decode cX6_asked 52 = .ok (.iload 7, 2) := by decide +kernel
theorem dX6_asked_54 : decode cX6_asked 54 = .ok (.invokevirtual 184, 3) := by decide +kernel
theorem dX6_asked_57 : decode cX6_asked 57 = .ok (.lload 5, 2) := by decide +kernel
theorem dX6_asked_59 : decode cX6_asked 59 = .ok (.lcmp, 1) := by decide +kernel
theorem dX6_asked_60 : decode cX6_asked 60 = .ok (.ifCond .le 7, 3) := by decide +kernel
theorem dX6_asked_63 : decode cX6_asked 63 = .ok (.iconst 1, 1) := by decide +kernel
theorem dX6_asked_64 : decode cX6_asked 64 = .ok (.goto 4, 3) := by decide +kernel
theorem dX6_asked_67 : decode cX6_asked 67 = .ok (.iconst 0, 1) := by decide +kernel
theorem dX6_asked_68 : decode cX6_asked 68 = .ok (.istore 8, 2) := by decide +kernel
theorem dX6_asked_70 : decode cX6_asked 70 = .ok (.iload 8, 2) := by decide +kernel
theorem dX6_asked_72 : decode cX6_asked 72 = .ok (.ifCond .eq 14, 3) := by decide +kernel
theorem dX6_asked_75 : decode cX6_asked 75 = .ok (.aload_n 0, 1) := by decide +kernel
theorem dX6_asked_76 : decode cX6_asked 76 = .ok (.iload 4, 2) := by decide +kernel
theorem dX6_asked_78 : decode cX6_asked 78 = .ok (.iload 7, 2) := by decide +kernel
theorem dX6_asked_80 : decode cX6_asked 80 = .ok (.invokevirtual 184, 3) := by decide +kernel
theorem dX6_asked_83 : decode cX6_asked 83 = .ok (.goto 5, 3) := by decide +kernel
theorem dX6_asked_86 : decode cX6_asked 86 = .ok (.lload 5, 2) := by decide +kernel
theorem dX6_asked_88 : decode cX6_asked 88 = .ok (.lstore 5, 2) := by decide +kernel
theorem dX6_asked_90 : decode cX6_asked 90 = .ok (.iinc 7 1, 3) := by decide +kernel
theorem dX6_asked_93 : decode cX6_asked 93 = .ok (.goto (-66), 3) := by decide +kernel
theorem dX6_asked_96 : decode cX6_asked 96 = .ok (.aload_n 0, 1) := by decide +kernel
theorem dX6_asked_97 : decode cX6_asked 97 = .ok (.getfield 58, 3) := by decide +kernel
theorem dX6_asked_100 : decode cX6_asked 100 = .ok (.iload 4, 2) := by decide +kernel
theorem dX6_asked_102 : decode cX6_asked 102 = .ok (.iaload, 1) := by decide +kernel
theorem dX6_asked_103 : decode cX6_asked 103 = .ok (.invokestatic 146, 3) := by decide +kernel
theorem dX6_asked_106 : decode cX6_asked 106 = .ok (.iconst 1, 1) := by decide +kernel
theorem dX6_asked_107 : decode cX6_asked 107 = .ok (.if_icmp .le 22, 3) := by decide +kernel
theorem dX6_asked_110 : decode cX6_asked 110 = .ok (.iload_n 1, 1) := by decide +kernel
theorem dX6_asked_111 : decode cX6_asked 111 = .ok (.bipush (-9), 2) := by decide +kernel
theorem dX6_asked_113 : decode cX6_asked 113 = .ok (.if_icmp .eq 10, 3) := by decide +kernel
theorem dX6_asked_116 : decode cX6_asked 116 = .ok (.lload 5, 2) := by decide +kernel
theorem dX6_asked_118 : decode cX6_asked 118 = .ok (.lload_n 2, 1) := by decide +kernel
theorem dX6_asked_119 : decode cX6_asked 119 = .ok (.lcmp, 1) := by decide +kernel
theorem dX6_asked_120 : decode cX6_asked 120 = .ok (.ifCond .ge 9, 3) := by decide +kernel
theorem dX6_asked_123 : decode cX6_asked 123 = .ok (.iload 4, 2) := by decide +kernel
theorem dX6_asked_125 : decode cX6_asked 125 = .ok (.istore_n 1, 1) := by decide +kernel
theorem dX6_asked_126 : decode cX6_asked 126 = .ok (.lload 5, 2) := by decide +kernel
theorem dX6_asked_128 : decode cX6_asked 128 = .ok (.lstore_n 2, 1) := by decide +kernel
theorem dX6_asked_129 : decode cX6_asked 129 = .ok (.iinc 4 1, 3) := by decide +kernel
theorem dX6_asked_132 : decode cX6_asked 132 = .ok (.goto (-120), 3) := by decide +kernel
theorem dX6_asked_135 : decode cX6_asked 135 = .ok (.iload_n 1, 1) := by decide +kernel
theorem dX6_asked_136 : decode cX6_asked 136 = .ok (.ireturn, 1) := by decide +kernel
set_option maxRecDepth 20000 in
theorem ggX6_beginsRun_X6_speaks : GoodIn wsX6_beginsRun wsX6_speaks := goodIn_r _ [5, 6, 7, 8, 4, 9, 10, 11, 12, 13, 14, 15, 16, 17, 18, 19, 20, 21, 22, 23, 24, 25, 26, 27, 28, 29, 30, 31, 32] (by decide +kernel) (by decide +kernel)
set_option maxRecDepth 20000 in
theorem gX6_beginsRun_X6_speaks : GoodIn wsX6_beginsRun (wsV RX6 78 RX6 yX6_speaks wsX6_speaks) := goodIn_app (goodIn_of _ (by decide +kernel)) ggX6_beginsRun_X6_speaks
theorem dX6_beginsRun_0 : decode cX6_beginsRun 0 = .ok (.aload_n 0, 1) := by decide +kernel
theorem dX6_beginsRun_1 : decode cX6_beginsRun 1 = .ok (.iload_n 1, 1) := by decide +kernel
theorem dX6_beginsRun_2 : decode cX6_beginsRun 2 = .ok (.invokevirtual 78, 3) := by decide +kernel
theorem dX6_beginsRun_5 : decode cX6_beginsRun 5 = .ok (.ifCond .eq 21, 3) := by decide +kernel
theorem dX6_beginsRun_8 : decode cX6_beginsRun 8 = .ok (.iload_n 1, 1) := by decide +kernel
theorem dX6_beginsRun_9 : decode cX6_beginsRun 9 = .ok (.ifCond .eq 13, 3) := by decide +kernel
theorem dX6_beginsRun_12 : decode cX6_beginsRun 12 = .ok (.aload_n 0, 1) := by decide +kernel
theorem dX6_beginsRun_13 : decode cX6_beginsRun 13 = .ok (.iload_n 1, 1) := by decide +kernel
theorem dX6_beginsRun_14 : decode cX6_beginsRun 14 = .ok (.iconst 1, 1) := by decide +kernel
theorem dX6_beginsRun_15 : decode cX6_beginsRun 15 = .ok (.isub, 1) := by decide +kernel
theorem dX6_beginsRun_16 : decode cX6_beginsRun 16 = .ok (.invokevirtual 78, 3) := by decide +kernel
theorem dX6_beginsRun_19 : decode cX6_beginsRun 19 = .ok (.ifCond .ne 7, 3) := by decide +kernel
theorem dX6_beginsRun_22 : decode cX6_beginsRun 22 = .ok (.iconst 1, 1) := by decide +kernel
theorem dX6_beginsRun_23 : decode cX6_beginsRun 23 = .ok (.goto 4, 3) := by decide +kernel
theorem dX6_beginsRun_26 : decode cX6_beginsRun 26 = .ok (.iconst 0, 1) := by decide +kernel
theorem dX6_beginsRun_27 : decode cX6_beginsRun 27 = .ok (.ireturn, 1) := by decide +kernel
set_option maxRecDepth 20000 in
theorem ggX6_runs_X6_beginsRun : GoodIn wsX6_runs wsX6_beginsRun := goodIn_r _ [6, 7, 8, 9, 5, 10, 11, 12, 13, 14, 15, 16, 17, 18, 19, 20, 21, 22, 23, 24, 25, 26, 27, 28, 29, 30, 31, 32, 33, 34, 35, 36, 37] (by decide +kernel) (by decide +kernel)
set_option maxRecDepth 20000 in
theorem gX6_runs_X6_beginsRun : GoodIn wsX6_runs (wsV RX6 187 RX6 yX6_beginsRun wsX6_beginsRun) := goodIn_app (goodIn_of _ (by decide +kernel)) ggX6_runs_X6_beginsRun
theorem dX6_runs_0 : decode cX6_runs 0 = .ok (.iconst 0, 1) := by decide +kernel
theorem dX6_runs_1 : decode cX6_runs 1 = .ok (.istore_n 1, 1) := by decide +kernel
end
section
theorem dX6_runs_2 : decode cX6_runs 2 = .ok (.iconst 0, 1) := by decide +kernel
theorem dX6_runs_3 : decode cX6_runs 3 = .ok (.istore_n 2, 1) := by decide +kernel
theorem dX6_runs_4 : decode cX6_runs 4 = .ok (.iload_n 2, 1) := by decide +kernel
theorem dX6_runs_5 : decode cX6_runs 5 = .ok (.aload_n 0, 1) := by decide +kernel
theorem dX6_runs_6 : decode cX6_runs 6 = .ok (.getfield 68, 3) := by decide +kernel
theorem dX6_runs_9 : decode cX6_runs 9 = .ok (.if_icmp .ge 25, 3) := by decide +kernel
theorem dX6_runs_12 : decode cX6_runs 12 = .ok (.iload_n 1, 1) := by decide +kernel
theorem dX6_runs_13 : decode cX6_runs 13 = .ok (.aload_n 0, 1) := by decide +kernel
theorem dX6_runs_14 : decode cX6_runs 14 = .ok (.iload_n 2, 1) := by decide +kernel
theorem dX6_runs_15 : decode cX6_runs 15 = .ok (.invokevirtual 187, 3) := by decide +kernel
theorem dX6_runs_18 : decode cX6_runs 18 = .ok (.ifCond .eq 7, 3) := by decide +kernel
theorem dX6_runs_21 : decode cX6_runs 21 = .ok (.iconst 1, 1) := by decide +kernel
theorem dX6_runs_22 : decode cX6_runs 22 = .ok (.goto 4, 3) := by decide +kernel
theorem dX6_runs_25 : decode cX6_runs 25 = .ok (.iconst 0, 1) := by decide +kernel
theorem dX6_runs_26 : decode cX6_runs 26 = .ok (.iadd, 1) := by decide +kernel
theorem dX6_runs_27 : decode cX6_runs 27 = .ok (.istore_n 1, 1) := by decide +kernel
theorem dX6_runs_28 : decode cX6_runs 28 = .ok (.iinc 2 1, 3) := by decide +kernel
theorem dX6_runs_31 : decode cX6_runs 31 = .ok (.goto (-27), 3) := by decide +kernel
theorem dX6_runs_34 : decode cX6_runs 34 = .ok (.iload_n 1, 1) := by decide +kernel
theorem dX6_runs_35 : decode cX6_runs 35 = .ok (.ireturn, 1) := by decide +kernel
set_option maxRecDepth 20000 in
theorem ggX6_run_X6_runs : GoodIn wsX6_run wsX6_runs := goodIn_r _ [6, 1, 7, 8, 9, 5, 10, 11, 12, 13, 14, 15, 16, 17, 18, 19, 20, 71, 72, 73, 74, 75, 76, 77, 78, 79, 80, 81, 82, 83, 84, 85, 86, 87, 88, 89, 90, 91] (by decide +kernel) (by decide +kernel)
set_option maxRecDepth 20000 in
theorem gX6_run_X6_runs : GoodIn wsX6_run (wsV RX6 190 RX6 yX6_runs wsX6_runs) := goodIn_app (goodIn_of _ (by decide +kernel)) ggX6_run_X6_runs
set_option maxRecDepth 20000 in
theorem ggX6_run_X6_within : GoodIn wsX6_run wsX6_within := goodIn_r _ [23] (by decide +kernel) (by decide +kernel)
set_option maxRecDepth 20000 in
theorem gX6_run_X6_within : GoodIn wsX6_run (va_wsS RX6 64 yX6_within wsX6_within) := goodIn_app (goodIn_of _ (by decide +kernel)) ggX6_run_X6_within
set_option maxRecDepth 20000 in
theorem ggX6_run_X6_beginsRun : GoodIn wsX6_run wsX6_beginsRun := goodIn_r _ [10, 11, 12, 13, 5, 14, 15, 16, 17, 18, 19, 20, 71, 72, 73, 74, 75, 76, 77, 78, 79, 80, 81, 82, 83, 84, 85, 86, 87, 88, 89, 90, 91] (by decide +kernel) (by decide +kernel)
set_option maxRecDepth 20000 in
theorem gX6_run_X6_beginsRun : GoodIn wsX6_run (wsV RX6 187 RX6 yX6_beginsRun wsX6_beginsRun) := goodIn_app (goodIn_of _ (by decide +kernel)) ggX6_run_X6_beginsRun
set_option maxRecDepth 20000 in
theorem ggX6_run_X6_speaks : GoodIn wsX6_run wsX6_speaks := goodIn_r _ [14, 15, 16, 17, 5, 18, 19, 20, 71, 72, 73, 74, 75, 76, 77, 78, 79, 80, 81, 82, 83, 84, 85, 86, 87, 88, 89, 90, 91] (by decide +kernel) (by decide +kernel)
set_option maxRecDepth 20000 in
theorem gX6_run_X6_speaks : GoodIn wsX6_run (wsV RX6 78 RX6 yX6_speaks wsX6_speaks) := goodIn_app (goodIn_of _ (by decide +kernel)) ggX6_run_X6_speaks
set_option maxRecDepth 20000 in
theorem ggX6_run_X6_ownOf : GoodIn wsX6_run wsX6_ownOf := goodIn_r _ [27, 28, 19, 29, 30, 31, 32, 33, 34, 5, 35, 36, 37, 38, 39, 40, 20, 21, 22, 23, 41, 42, 43, 44, 45, 46, 47, 48, 49, 50, 51, 52, 53, 54, 55, 56, 57, 58, 59, 60, 61, 62, 63, 64, 65, 66, 67, 71, 72, 73, 74, 75, 76, 77, 78, 79, 80, 81, 82, 83, 84, 85, 86, 87, 88, 89, 90, 91] (by decide +kernel) (by decide +kernel)
set_option maxRecDepth 20000 in
theorem gX6_run_X6_ownOf : GoodIn wsX6_run (wsV RX6 81 RX6 yX6_ownOf wsX6_ownOf) := goodIn_app (goodIn_of _ (by decide +kernel)) ggX6_run_X6_ownOf
set_option maxRecDepth 20000 in
theorem ggX6_run_X6_size : GoodIn wsX6_run wsX6_size := goodIn_r _ [70] (by decide +kernel) (by decide +kernel)
set_option maxRecDepth 20000 in
theorem gX6_run_X6_size : GoodIn wsX6_run (va_wsS RX6 146 yX6_size wsX6_size) := goodIn_app (goodIn_of _ (by decide +kernel)) ggX6_run_X6_size
theorem dX6_run_0 : decode cX6_run 0 = .ok (.iload_n 1, 1) := by decide +kernel
theorem dX6_run_1 : decode cX6_run 1 = .ok (.iconst 0, 1) := by decide +kernel
theorem dX6_run_2 : decode cX6_run 2 = .ok (.aload_n 0, 1) := by decide +kernel
theorem dX6_run_3 : decode cX6_run 3 = .ok (.invokevirtual 190, 3) := by decide +kernel
theorem dX6_run_6 : decode cX6_run 6 = .ok (.iconst 1, 1) := by decide +kernel
theorem dX6_run_7 : decode cX6_run 7 = .ok (.isub, 1) := by decide +kernel
theorem dX6_run_8 : decode cX6_run 8 = .ok (.invokestatic 64, 3) := by decide +kernel
theorem dX6_run_11 : decode cX6_run 11 = .ok (.ifCond .ne 5, 3) := by decide +kernel
theorem dX6_run_14 : decode cX6_run 14 = .ok (.iconst (-1), 1) := by decide +kernel
theorem dX6_run_15 : decode cX6_run 15 = .ok (.ireturn, 1) := by decide +kernel
theorem dX6_run_16 : decode cX6_run 16 = .ok (.iload_n 2, 1) := by decide +kernel
theorem dX6_run_17 : decode cX6_run 17 = .ok (.iconst 0, 1) := by decide +kernel
theorem dX6_run_18 : decode cX6_run 18 = .ok (.iconst 2, 1) := by decide +kernel
theorem dX6_run_19 : decode cX6_run 19 = .ok (.invokestatic 64, 3) := by decide +kernel
theorem dX6_run_22 : decode cX6_run 22 = .ok (.ifCond .ne 6, 3) := by decide +kernel
theorem dX6_run_25 : decode cX6_run 25 = .ok (.bipush (-2), 2) := by decide +kernel
theorem dX6_run_27 : decode cX6_run 27 = .ok (.ireturn, 1) := by decide +kernel
theorem dX6_run_28 : decode cX6_run 28 = .ok (.iconst (-1), 1) := by decide +kernel
theorem dX6_run_29 : decode cX6_run 29 = .ok (.istore_n 3, 1) := by decide +kernel
theorem dX6_run_30 : decode cX6_run 30 = .ok (.iload_n 1, 1) := by decide +kernel
theorem dX6_run_31 : decode cX6_run 31 = .ok (.istore 4, 2) := by decide +kernel
theorem dX6_run_33 : decode cX6_run 33 = .ok (.iload 4, 2) := by decide +kernel
theorem dX6_run_35 : decode cX6_run 35 = .ok (.ifCond .lt 26, 3) := by decide +kernel
theorem dX6_run_38 : decode cX6_run 38 = .ok (.iinc 3 1, 3) := by decide +kernel
theorem dX6_run_41 : decode cX6_run 41 = .ok (.aload_n 0, 1) := by decide +kernel
theorem dX6_run_42 : decode cX6_run 42 = .ok (.iload_n 3, 1) := by decide +kernel
theorem dX6_run_43 : decode cX6_run 43 = .ok (.invokevirtual 187, 3) := by decide +kernel
theorem dX6_run_46 : decode cX6_run 46 = .ok (.ifCond .ne 9, 3) := by decide +kernel
theorem dX6_run_49 : decode cX6_run 49 = .ok (.iinc 3 1, 3) := by decide +kernel
theorem dX6_run_52 : decode cX6_run 52 = .ok (.goto (-11), 3) := by decide +kernel
theorem dX6_run_55 : decode cX6_run 55 = .ok (.iinc 4 (-1), 3) := by decide +kernel
theorem dX6_run_58 : decode cX6_run 58 = .ok (.goto (-25), 3) := by decide +kernel
theorem dX6_run_61 : decode cX6_run 61 = .ok (.iconst 0, 1) := by decide +kernel
theorem dX6_run_62 : decode cX6_run 62 = .ok (.istore 4, 2) := by decide +kernel
theorem dX6_run_64 : decode cX6_run 64 = .ok (.iconst 0, 1) := by decide +kernel
theorem dX6_run_65 : decode cX6_run 65 = .ok (.istore 5, 2) := by decide +kernel
theorem dX6_run_67 : decode cX6_run 67 = .ok (.iload_n 3, 1) := by decide +kernel
theorem dX6_run_68 : decode cX6_run 68 = .ok (.istore 6, 2) := by decide +kernel
theorem dX6_run_70 : decode cX6_run 70 = .ok (.iload 6, 2) := by decide +kernel
theorem dX6_run_72 : decode cX6_run 72 = .ok (.aload_n 0, 1) := by decide +kernel
theorem dX6_run_73 : decode cX6_run 73 = .ok (.getfield 68, 3) := by decide +kernel
theorem dX6_run_76 : decode cX6_run 76 = .ok (.if_icmp .ge 32, 3) := by decide +kernel
theorem dX6_run_79 : decode cX6_run 79 = .ok (.aload_n 0, 1) := by decide +kernel
theorem dX6_run_80 : decode cX6_run 80 = .ok (.iload 6, 2) := by decide +kernel
theorem dX6_run_82 : decode cX6_run 82 = .ok (.invokevirtual 78, 3) := by decide +kernel
theorem dX6_run_85 : decode cX6_run 85 = .ok (.ifCond .eq 23, 3) := by decide +kernel
theorem dX6_run_88 : decode cX6_run 88 = .ok (.iinc 4 1, 3) := by decide +kernel
theorem dX6_run_91 : decode cX6_run 91 = .ok (.iload 5, 2) := by decide +kernel
theorem dX6_run_93 : decode cX6_run 93 = .ok (.aload_n 0, 1) := by decide +kernel
theorem dX6_run_94 : decode cX6_run 94 = .ok (.iload 6, 2) := by decide +kernel
theorem dX6_run_96 : decode cX6_run 96 = .ok (.invokevirtual 81, 3) := by decide +kernel
theorem dX6_run_99 : decode cX6_run 99 = .ok (.ior, 1) := by decide +kernel
theorem dX6_run_100 : decode cX6_run 100 = .ok (.istore 5, 2) := by decide +kernel
theorem dX6_run_102 : decode cX6_run 102 = .ok (.iinc 6 1, 3) := by decide +kernel
theorem dX6_run_105 : decode cX6_run 105 = .ok (.goto (-35), 3) := by decide +kernel
theorem dX6_run_108 : decode cX6_run 108 = .ok (.iload_n 2, 1) := by decide +kernel
theorem dX6_run_109 : decode cX6_run 109 = .ok (.ifCond .ne 7, 3) := by decide +kernel
theorem dX6_run_112 : decode cX6_run 112 = .ok (.iload_n 3, 1) := by decide +kernel
theorem dX6_run_113 : decode cX6_run 113 = .ok (.goto 18, 3) := by decide +kernel
theorem dX6_run_116 : decode cX6_run 116 = .ok (.iload_n 2, 1) := by decide +kernel
theorem dX6_run_117 : decode cX6_run 117 = .ok (.iconst 1, 1) := by decide +kernel
theorem dX6_run_118 : decode cX6_run 118 = .ok (.if_icmp .ne 8, 3) := by decide +kernel
theorem dX6_run_121 : decode cX6_run 121 = .ok (.iload 4, 2) := by decide +kernel
theorem dX6_run_123 : decode cX6_run 123 = .ok (.goto 8, 3) := by decide +kernel
theorem dX6_run_126 : decode cX6_run 126 = .ok (.iload 5, 2) := by decide +kernel
theorem dX6_run_128 : decode cX6_run 128 = .ok (.invokestatic 146, 3) := by decide +kernel
theorem dX6_run_131 : decode cX6_run 131 = .ok (.ireturn, 1) := by decide +kernel
set_option maxRecDepth 20000 in
theorem ggX6_manyHad_X6_has : GoodIn wsX6_manyHad wsX6_has := goodIn_r _ [6] (by decide +kernel) (by decide +kernel)
set_option maxRecDepth 20000 in
theorem gX6_manyHad_X6_has : GoodIn wsX6_manyHad (va_wsS RX6 85 yX6_has wsX6_has) := goodIn_app (goodIn_of _ (by decide +kernel)) ggX6_manyHad_X6_has
set_option maxRecDepth 20000 in
theorem ggX6_manyHad_X6_size : GoodIn wsX6_manyHad wsX6_size := goodIn_r _ [9] (by decide +kernel) (by decide +kernel)
set_option maxRecDepth 20000 in
theorem gX6_manyHad_X6_size : GoodIn wsX6_manyHad (va_wsS RX6 146 yX6_size wsX6_size) := goodIn_app (goodIn_of _ (by decide +kernel)) ggX6_manyHad_X6_size
theorem dX6_manyHad_0 : decode cX6_manyHad 0 = .ok (.iconst 0, 1) := by decide +kernel
theorem dX6_manyHad_1 : decode cX6_manyHad 1 = .ok (.istore_n 3, 1) := by decide +kernel
theorem dX6_manyHad_2 : decode cX6_manyHad 2 = .ok (.iconst 0, 1) := by decide +kernel
theorem dX6_manyHad_3 : decode cX6_manyHad 3 = .ok (.istore 4, 2) := by decide +kernel
theorem dX6_manyHad_5 : decode cX6_manyHad 5 = .ok (.iload 4, 2) := by decide +kernel
theorem dX6_manyHad_7 : decode cX6_manyHad 7 = .ok (.aload_n 0, 1) := by decide +kernel
theorem dX6_manyHad_8 : decode cX6_manyHad 8 = .ok (.getfield 68, 3) := by decide +kernel
theorem dX6_manyHad_11 : decode cX6_manyHad 11 = .ok (.if_icmp .ge 49, 3) := by decide +kernel
theorem dX6_manyHad_14 : decode cX6_manyHad 14 = .ok (.iload_n 3, 1) := by decide +kernel
theorem dX6_manyHad_15 : decode cX6_manyHad 15 = .ok (.aload_n 0, 1) := by decide +kernel
theorem dX6_manyHad_16 : decode cX6_manyHad 16 = .ok (.getfield 58, 3) := by decide +kernel
theorem dX6_manyHad_19 : decode cX6_manyHad 19 = .ok (.iload 4, 2) := by decide +kernel
theorem dX6_manyHad_21 : decode cX6_manyHad 21 = .ok (.iaload, 1) := by decide +kernel
theorem dX6_manyHad_22 : decode cX6_manyHad 22 = .ok (.iload_n 1, 1) := by decide +kernel
theorem dX6_manyHad_23 : decode cX6_manyHad 23 = .ok (.invokestatic 85, 3) := by decide +kernel
theorem dX6_manyHad_26 : decode cX6_manyHad 26 = .ok (.ifCond .eq 25, 3) := by decide +kernel
theorem dX6_manyHad_29 : decode cX6_manyHad 29 = .ok (.iload_n 2, 1) := by decide +kernel
theorem dX6_manyHad_30 : decode cX6_manyHad 30 = .ok (.ifCond .eq 17, 3) := by decide +kernel
theorem dX6_manyHad_33 : decode cX6_manyHad 33 = .ok (.aload_n 0, 1) := by decide +kernel
theorem dX6_manyHad_34 : decode cX6_manyHad 34 = .ok (.getfield 58, 3) := by decide +kernel
theorem dX6_manyHad_37 : decode cX6_manyHad 37 = .ok (.iload 4, 2) := by decide +kernel
theorem dX6_manyHad_39 : decode cX6_manyHad 39 = .ok (.iaload, 1) := by decide +kernel
theorem dX6_manyHad_40 : decode cX6_manyHad 40 = .ok (.invokestatic 146, 3) := by decide +kernel
theorem dX6_manyHad_43 : decode cX6_manyHad 43 = .ok (.iconst 1, 1) := by decide +kernel
theorem dX6_manyHad_44 : decode cX6_manyHad 44 = .ok (.if_icmp .ne 7, 3) := by decide +kernel
theorem dX6_manyHad_47 : decode cX6_manyHad 47 = .ok (.iconst 1, 1) := by decide +kernel
theorem dX6_manyHad_48 : decode cX6_manyHad 48 = .ok (.goto 4, 3) := by decide +kernel
theorem dX6_manyHad_51 : decode cX6_manyHad 51 = .ok (.iconst 0, 1) := by decide +kernel
theorem dX6_manyHad_52 : decode cX6_manyHad 52 = .ok (.iadd, 1) := by decide +kernel
theorem dX6_manyHad_53 : decode cX6_manyHad 53 = .ok (.istore_n 3, 1) := by decide +kernel
theorem dX6_manyHad_54 : decode cX6_manyHad 54 = .ok (.iinc 4 1, 3) := by decide +kernel
theorem dX6_manyHad_57 : decode cX6_manyHad 57 = .ok (.goto (-52), 3) := by decide +kernel
theorem dX6_manyHad_60 : decode cX6_manyHad 60 = .ok (.iload_n 3, 1) := by decide +kernel
theorem dX6_manyHad_61 : decode cX6_manyHad 61 = .ok (.ireturn, 1) := by decide +kernel
theorem dX6_firstHad_0 : decode cX6_firstHad 0 = .ok (.bipush (-9), 2) := by decide +kernel
theorem dX6_firstHad_2 : decode cX6_firstHad 2 = .ok (.istore_n 3, 1) := by decide +kernel
theorem dX6_firstHad_3 : decode cX6_firstHad 3 = .ok (.iconst 0, 1) := by decide +kernel
theorem dX6_firstHad_4 : decode cX6_firstHad 4 = .ok (.istore 4, 2) := by decide +kernel
theorem dX6_firstHad_6 : decode cX6_firstHad 6 = .ok (.iload 4, 2) := by decide +kernel
theorem dX6_firstHad_8 : decode cX6_firstHad 8 = .ok (.aload_n 0, 1) := by decide +kernel
theorem dX6_firstHad_9 : decode cX6_firstHad 9 = .ok (.getfield 68, 3) := by decide +kernel
theorem dX6_firstHad_12 : decode cX6_firstHad 12 = .ok (.if_icmp .ge 39, 3) := by decide +kernel
theorem dX6_firstHad_15 : decode cX6_firstHad 15 = .ok (.aload_n 0, 1) := by decide +kernel
theorem dX6_firstHad_16 : decode cX6_firstHad 16 = .ok (.getfield 58, 3) := by decide +kernel
theorem dX6_firstHad_19 : decode cX6_firstHad 19 = .ok (.iload 4, 2) := by decide +kernel
theorem dX6_firstHad_21 : decode cX6_firstHad 21 = .ok (.iaload, 1) := by decide +kernel
theorem dX6_firstHad_22 : decode cX6_firstHad 22 = .ok (.iconst 1, 1) := by decide +kernel
theorem dX6_firstHad_23 : decode cX6_firstHad 23 = .ok (.iload_n 1, 1) := by decide +kernel
theorem dX6_firstHad_24 : decode cX6_firstHad 24 = .ok (.ishl, 1) := by decide +kernel
theorem dX6_firstHad_25 : decode cX6_firstHad 25 = .ok (.if_icmp .ne 18, 3) := by decide +kernel
theorem dX6_firstHad_28 : decode cX6_firstHad 28 = .ok (.iload_n 3, 1) := by decide +kernel
theorem dX6_firstHad_29 : decode cX6_firstHad 29 = .ok (.bipush (-9), 2) := by decide +kernel
theorem dX6_firstHad_31 : decode cX6_firstHad 31 = .ok (.if_icmp .eq 7, 3) := by decide +kernel
theorem dX6_firstHad_34 : decode cX6_firstHad 34 = .ok (.iload_n 2, 1) := by decide +kernel
theorem dX6_firstHad_35 : decode cX6_firstHad 35 = .ok (.ifCond .eq 8, 3) := by decide +kernel
theorem dX6_firstHad_38 : decode cX6_firstHad 38 = .ok (.iload 4, 2) := by decide +kernel
theorem dX6_firstHad_40 : decode cX6_firstHad 40 = .ok (.goto 4, 3) := by decide +kernel
theorem dX6_firstHad_43 : decode cX6_firstHad 43 = .ok (.iload_n 3, 1) := by decide +kernel
theorem dX6_firstHad_44 : decode cX6_firstHad 44 = .ok (.istore_n 3, 1) := by decide +kernel
theorem dX6_firstHad_45 : decode cX6_firstHad 45 = .ok (.iinc 4 1, 3) := by decide +kernel
theorem dX6_firstHad_48 : decode cX6_firstHad 48 = .ok (.goto (-42), 3) := by decide +kernel
theorem dX6_firstHad_51 : decode cX6_firstHad 51 = .ok (.iload_n 3, 1) := by decide +kernel
theorem dX6_firstHad_52 : decode cX6_firstHad 52 = .ok (.ireturn, 1) := by decide +kernel
set_option maxRecDepth 20000 in
theorem ggX6_ofPerson_X6_isThere : GoodIn wsX6_ofPerson wsX6_isThere := goodIn_r _ [7, 1, 8, 9, 6, 10, 116, 117, 118, 119, 120, 121, 122, 123, 124, 125, 126, 127, 128, 129, 130, 131, 132, 133, 134, 135, 136] (by decide +kernel) (by decide +kernel)
set_option maxRecDepth 20000 in
theorem gX6_ofPerson_X6_isThere : GoodIn wsX6_ofPerson (wsV RX6 71 RX6 yX6_isThere wsX6_isThere) := goodIn_app (goodIn_of _ (by decide +kernel)) ggX6_ofPerson_X6_isThere
set_option maxRecDepth 20000 in
theorem ggX6_ofPerson_X6_findSure : GoodIn wsX6_ofPerson wsX6_findSure := goodIn_r _ [14, 15, 16, 17, 18, 19, 6, 20, 21, 22, 23, 24, 25, 26, 27, 28, 29, 30, 31, 32, 33, 34, 35, 36, 37, 38, 39, 40, 41, 42, 43, 44, 45, 46, 47, 1, 48, 49, 50, 51, 8, 9, 10, 52, 53, 54, 55, 56, 57, 58, 59, 60, 61, 62, 63, 64, 65, 66, 67, 68, 69, 70, 71, 72, 73, 74, 75, 76, 77, 78, 79, 80, 81, 82, 83, 84, 85, 86, 87, 88, 89, 90, 91, 92, 93, 94, 95, 96, 97, 98, 99, 100, 101, 102, 103, 104, 116, 117, 118, 119, 120, 121, 122, 123, 124, 125, 126, 127, 128, 129, 130, 131, 132, 133, 134, 135, 136] (by decide +kernel) (by decide +kernel)
set_option maxRecDepth 20000 in
theorem gX6_ofPerson_X6_findSure : GoodIn wsX6_ofPerson (wsV RX6 162 RX6 yX6_findSure wsX6_findSure) := goodIn_app (goodIn_of _ (by decide +kernel)) ggX6_ofPerson_X6_findSure
set_option maxRecDepth 20000 in
theorem ggX6_ofPerson_X6_manyHad : GoodIn wsX6_ofPerson wsX6_manyHad := goodIn_r _ [108, 15, 16, 52, 53, 6, 54, 109, 110, 111, 116, 117, 118, 119, 120, 121, 122, 123, 124, 125, 126, 127, 128, 129, 130, 131, 132, 133, 134, 135, 136] (by decide +kernel) (by decide +kernel)
set_option maxRecDepth 20000 in
theorem gX6_ofPerson_X6_manyHad : GoodIn wsX6_ofPerson (wsV RX6 193 RX6 yX6_manyHad wsX6_manyHad) := goodIn_app (goodIn_of _ (by decide +kernel)) ggX6_ofPerson_X6_manyHad
set_option maxRecDepth 20000 in
theorem ggX6_ofPerson_X6_firstHad : GoodIn wsX6_ofPerson wsX6_firstHad := goodIn_r _ [115, 15, 16, 116, 117, 118, 119, 120, 121, 122, 123, 124, 125, 126, 127, 128, 129, 130, 131, 132, 133, 134, 135, 136] (by decide +kernel) (by decide +kernel)
set_option maxRecDepth 20000 in
theorem gX6_ofPerson_X6_firstHad : GoodIn wsX6_ofPerson (wsV RX6 197 RX6 yX6_firstHad wsX6_firstHad) := goodIn_app (goodIn_of _ (by decide +kernel)) ggX6_ofPerson_X6_firstHad
set_option maxRecDepth 20000 in
theorem ggX6_ofPerson_X6_has : GoodIn wsX6_ofPerson wsX6_has := goodIn_r _ [54] (by decide +kernel) (by decide +kernel)
set_option maxRecDepth 20000 in
theorem gX6_ofPerson_X6_has : GoodIn wsX6_ofPerson (va_wsS RX6 85 yX6_has wsX6_has) := goodIn_app (goodIn_of _ (by decide +kernel)) ggX6_ofPerson_X6_has
theorem dX6_ofPerson_0 : decode cX6_ofPerson 0 = .ok (.aload_n 0, 1) := by decide +kernel
theorem dX6_ofPerson_1 : decode cX6_ofPerson 1 = .ok (.iload_n 1, 1) := by decide +kernel
theorem dX6_ofPerson_2 : decode cX6_ofPerson 2 = .ok (.invokevirtual 71, 3) := by decide +kernel
theorem dX6_ofPerson_5 : decode cX6_ofPerson 5 = .ok (.ifCond .ne 5, 3) := by decide +kernel
theorem dX6_ofPerson_8 : decode cX6_ofPerson 8 = .ok (.iconst (-1), 1) := by decide +kernel
theorem dX6_ofPerson_9 : decode cX6_ofPerson 9 = .ok (.ireturn, 1) := by decide +kernel
theorem dX6_ofPerson_10 : decode cX6_ofPerson 10 = .ok (.aload_n 0, 1) := by decide +kernel
theorem dX6_ofPerson_11 : decode cX6_ofPerson 11 = .ok (.invokevirtual 162, 3) := by decide +kernel
theorem dX6_ofPerson_14 : decode cX6_ofPerson 14 = .ok (.iload_n 2, 1) := by decide +kernel
theorem dX6_ofPerson_15 : decode cX6_ofPerson 15 = .ok (.tableswitch 89 0 5 #[37, 44, 51, 58, 65, 72], 37) := by decide +kernel
theorem dX6_ofPerson_52 : decode cX6_ofPerson 52 = .ok (.aload_n 0, 1) := by decide +kernel
theorem dX6_ofPerson_53 : decode cX6_ofPerson 53 = .ok (.getfield 7, 3) := by decide +kernel
theorem dX6_ofPerson_56 : decode cX6_ofPerson 56 = .ok (.iload_n 1, 1) := by decide +kernel
theorem dX6_ofPerson_57 : decode cX6_ofPerson 57 = .ok (.iaload, 1) := by decide +kernel
theorem dX6_ofPerson_58 : decode cX6_ofPerson 58 = .ok (.ireturn, 1) := by decide +kernel
theorem dX6_ofPerson_59 : decode cX6_ofPerson 59 = .ok (.aload_n 0, 1) := by decide +kernel
theorem dX6_ofPerson_60 : decode cX6_ofPerson 60 = .ok (.iload_n 1, 1) := by decide +kernel
theorem dX6_ofPerson_61 : decode cX6_ofPerson 61 = .ok (.iconst 1, 1) := by decide +kernel
theorem dX6_ofPerson_62 : decode cX6_ofPerson 62 = .ok (.invokevirtual 193, 3) := by decide +kernel
theorem dX6_ofPerson_65 : decode cX6_ofPerson 65 = .ok (.ireturn, 1) := by decide +kernel
theorem dX6_ofPerson_66 : decode cX6_ofPerson 66 = .ok (.aload_n 0, 1) := by decide +kernel
theorem dX6_ofPerson_67 : decode cX6_ofPerson 67 = .ok (.iload_n 1, 1) := by decide +kernel
theorem dX6_ofPerson_68 : decode cX6_ofPerson 68 = .ok (.iconst 0, 1) := by decide +kernel
theorem dX6_ofPerson_69 : decode cX6_ofPerson 69 = .ok (.invokevirtual 193, 3) := by decide +kernel
theorem dX6_ofPerson_72 : decode cX6_ofPerson 72 = .ok (.ireturn, 1) := by decide +kernel
theorem dX6_ofPerson_73 : decode cX6_ofPerson 73 = .ok (.aload_n 0, 1) := by decide +kernel
theorem dX6_ofPerson_74 : decode cX6_ofPerson 74 = .ok (.iload_n 1, 1) := by decide +kernel
theorem dX6_ofPerson_75 : decode cX6_ofPerson 75 = .ok (.iconst 0, 1) := by decide +kernel
theorem dX6_ofPerson_76 : decode cX6_ofPerson 76 = .ok (.invokevirtual 197, 3) := by decide +kernel
theorem dX6_ofPerson_79 : decode cX6_ofPerson 79 = .ok (.ireturn, 1) := by decide +kernel
theorem dX6_ofPerson_80 : decode cX6_ofPerson 80 = .ok (.aload_n 0, 1) := by decide +kernel
theorem dX6_ofPerson_81 : decode cX6_ofPerson 81 = .ok (.iload_n 1, 1) := by decide +kernel
theorem dX6_ofPerson_82 : decode cX6_ofPerson 82 = .ok (.iconst 1, 1) := by decide +kernel
theorem dX6_ofPerson_83 : decode cX6_ofPerson 83 = .ok (.invokevirtual 197, 3) := by decide +kernel
theorem dX6_ofPerson_86 : decode cX6_ofPerson 86 = .ok (.ireturn, 1) := by decide +kernel
theorem dX6_ofPerson_87 : decode cX6_ofPerson 87 = .ok (.aload_n 0, 1) := by decide +kernel
theorem dX6_ofPerson_88 : decode cX6_ofPerson 88 = .ok (.getfield 89, 3) := by decide +kernel
theorem dX6_ofPerson_91 : decode cX6_ofPerson 91 = .ok (.iload_n 1, 1) := by decide +kernel
theorem dX6_ofPerson_92 : decode cX6_ofPerson 92 = .ok (.invokestatic 85, 3) := by decide +kernel
theorem dX6_ofPerson_95 : decode cX6_ofPerson 95 = .ok (.ifCond .eq 7, 3) := by decide +kernel
theorem dX6_ofPerson_98 : decode cX6_ofPerson 98 = .ok (.iconst 1, 1) := by decide +kernel
theorem dX6_ofPerson_99 : decode cX6_ofPerson 99 = .ok (.goto 4, 3) := by decide +kernel
theorem dX6_ofPerson_102 : decode cX6_ofPerson 102 = .ok (.iconst 0, 1) := by decide +kernel
theorem dX6_ofPerson_103 : decode cX6_ofPerson 103 = .ok (.ireturn, 1) := by decide +kernel
theorem dX6_ofPerson_104 : decode cX6_ofPerson 104 = .ok (.bipush (-2), 2) := by decide +kernel
theorem dX6_ofPerson_106 : decode cX6_ofPerson 106 = .ok (.ireturn, 1) := by decide +kernel
set_option maxRecDepth 20000 in
theorem ggX6_aheadOf_X6_manyHad : GoodIn wsX6_aheadOf wsX6_manyHad := goodIn_r _ [5, 6, 7, 8, 9, 4, 10, 11, 12, 13, 22, 23, 24, 25, 26, 27, 28, 29, 30, 31, 32, 33, 34, 35, 36, 37, 38, 39, 40, 41, 42] (by decide +kernel) (by decide +kernel)
set_option maxRecDepth 20000 in
theorem gX6_aheadOf_X6_manyHad : GoodIn wsX6_aheadOf (wsV RX6 193 RX6 yX6_manyHad wsX6_manyHad) := goodIn_app (goodIn_of _ (by decide +kernel)) ggX6_aheadOf_X6_manyHad
set_option maxRecDepth 20000 in
theorem ggX6_aheadOf_X6_isThere : GoodIn wsX6_aheadOf wsX6_isThere := goodIn_r _ [17, 18, 19, 20, 4, 21, 22, 23, 24, 25, 26, 27, 28, 29, 30, 31, 32, 33, 34, 35, 36, 37, 38, 39, 40, 41, 42] (by decide +kernel) (by decide +kernel)
set_option maxRecDepth 20000 in
theorem gX6_aheadOf_X6_isThere : GoodIn wsX6_aheadOf (wsV RX6 71 RX6 yX6_isThere wsX6_isThere) := goodIn_app (goodIn_of _ (by decide +kernel)) ggX6_aheadOf_X6_isThere
theorem dX6_aheadOf_0 : decode cX6_aheadOf 0 = .ok (.iconst 0, 1) := by decide +kernel
theorem dX6_aheadOf_1 : decode cX6_aheadOf 1 = .ok (.istore_n 2, 1) := by decide +kernel
theorem dX6_aheadOf_2 : decode cX6_aheadOf 2 = .ok (.iconst 0, 1) := by decide +kernel
theorem dX6_aheadOf_3 : decode cX6_aheadOf 3 = .ok (.istore_n 3, 1) := by decide +kernel
theorem dX6_aheadOf_4 : decode cX6_aheadOf 4 = .ok (.iload_n 3, 1) := by decide +kernel
theorem dX6_aheadOf_5 : decode cX6_aheadOf 5 = .ok (.bipush 8, 2) := by decide +kernel
theorem dX6_aheadOf_7 : decode cX6_aheadOf 7 = .ok (.if_icmp .ge 92, 3) := by decide +kernel
theorem dX6_aheadOf_10 : decode cX6_aheadOf 10 = .ok (.aload_n 0, 1) := by decide +kernel
theorem dX6_aheadOf_11 : decode cX6_aheadOf 11 = .ok (.iload_n 3, 1) := by decide +kernel
theorem dX6_aheadOf_12 : decode cX6_aheadOf 12 = .ok (.iconst 1, 1) := by decide +kernel
theorem dX6_aheadOf_13 : decode cX6_aheadOf 13 = .ok (.invokevirtual 193, 3) := by decide +kernel
theorem dX6_aheadOf_16 : decode cX6_aheadOf 16 = .ok (.aload_n 0, 1) := by decide +kernel
theorem dX6_aheadOf_17 : decode cX6_aheadOf 17 = .ok (.iload_n 1, 1) := by decide +kernel
theorem dX6_aheadOf_18 : decode cX6_aheadOf 18 = .ok (.iconst 1, 1) := by decide +kernel
theorem dX6_aheadOf_19 : decode cX6_aheadOf 19 = .ok (.invokevirtual 193, 3) := by decide +kernel
theorem dX6_aheadOf_22 : decode cX6_aheadOf 22 = .ok (.isub, 1) := by decide +kernel
theorem dX6_aheadOf_23 : decode cX6_aheadOf 23 = .ok (.istore 4, 2) := by decide +kernel
theorem dX6_aheadOf_25 : decode cX6_aheadOf 25 = .ok (.aload_n 0, 1) := by decide +kernel
theorem dX6_aheadOf_26 : decode cX6_aheadOf 26 = .ok (.iload_n 3, 1) := by decide +kernel
theorem dX6_aheadOf_27 : decode cX6_aheadOf 27 = .ok (.iconst 0, 1) := by decide +kernel
theorem dX6_aheadOf_28 : decode cX6_aheadOf 28 = .ok (.invokevirtual 193, 3) := by decide +kernel
theorem dX6_aheadOf_31 : decode cX6_aheadOf 31 = .ok (.aload_n 0, 1) := by decide +kernel
theorem dX6_aheadOf_32 : decode cX6_aheadOf 32 = .ok (.iload_n 1, 1) := by decide +kernel
theorem dX6_aheadOf_33 : decode cX6_aheadOf 33 = .ok (.iconst 0, 1) := by decide +kernel
theorem dX6_aheadOf_34 : decode cX6_aheadOf 34 = .ok (.invokevirtual 193, 3) := by decide +kernel
theorem dX6_aheadOf_37 : decode cX6_aheadOf 37 = .ok (.isub, 1) := by decide +kernel
theorem dX6_aheadOf_38 : decode cX6_aheadOf 38 = .ok (.istore 5, 2) := by decide +kernel
theorem dX6_aheadOf_40 : decode cX6_aheadOf 40 = .ok (.iload 4, 2) := by decide +kernel
theorem dX6_aheadOf_42 : decode cX6_aheadOf 42 = .ok (.ifCond .gt 23, 3) := by decide +kernel
theorem dX6_aheadOf_45 : decode cX6_aheadOf 45 = .ok (.iload 4, 2) := by decide +kernel
theorem dX6_aheadOf_47 : decode cX6_aheadOf 47 = .ok (.ifCond .ne 22, 3) := by decide +kernel
theorem dX6_aheadOf_50 : decode cX6_aheadOf 50 = .ok (.iload 5, 2) := by decide +kernel
theorem dX6_aheadOf_52 : decode cX6_aheadOf 52 = .ok (.ifCond .gt 13, 3) := by decide +kernel
theorem dX6_aheadOf_55 : decode cX6_aheadOf 55 = .ok (.iload 5, 2) := by decide +kernel
theorem dX6_aheadOf_57 : decode cX6_aheadOf 57 = .ok (.ifCond .ne 12, 3) := by decide +kernel
theorem dX6_aheadOf_60 : decode cX6_aheadOf 60 = .ok (.iload_n 3, 1) := by decide +kernel
theorem dX6_aheadOf_61 : decode cX6_aheadOf 61 = .ok (.iload_n 1, 1) := by decide +kernel
theorem dX6_aheadOf_62 : decode cX6_aheadOf 62 = .ok (.if_icmp .ge 7, 3) := by decide +kernel
theorem dX6_aheadOf_65 : decode cX6_aheadOf 65 = .ok (.iconst 1, 1) := by decide +kernel
theorem dX6_aheadOf_66 : decode cX6_aheadOf 66 = .ok (.goto 4, 3) := by decide +kernel
theorem dX6_aheadOf_69 : decode cX6_aheadOf 69 = .ok (.iconst 0, 1) := by decide +kernel
theorem dX6_aheadOf_70 : decode cX6_aheadOf 70 = .ok (.istore 6, 2) := by decide +kernel
theorem dX6_aheadOf_72 : decode cX6_aheadOf 72 = .ok (.iload_n 2, 1) := by decide +kernel
theorem dX6_aheadOf_73 : decode cX6_aheadOf 73 = .ok (.aload_n 0, 1) := by decide +kernel
theorem dX6_aheadOf_74 : decode cX6_aheadOf 74 = .ok (.iload_n 3, 1) := by decide +kernel
theorem dX6_aheadOf_75 : decode cX6_aheadOf 75 = .ok (.invokevirtual 71, 3) := by decide +kernel
theorem dX6_aheadOf_78 : decode cX6_aheadOf 78 = .ok (.ifCond .eq 12, 3) := by decide +kernel
theorem dX6_aheadOf_81 : decode cX6_aheadOf 81 = .ok (.iload 6, 2) := by decide +kernel
theorem dX6_aheadOf_83 : decode cX6_aheadOf 83 = .ok (.ifCond .eq 7, 3) := by decide +kernel
theorem dX6_aheadOf_86 : decode cX6_aheadOf 86 = .ok (.iconst 1, 1) := by decide +kernel
theorem dX6_aheadOf_87 : decode cX6_aheadOf 87 = .ok (.goto 4, 3) := by decide +kernel
theorem dX6_aheadOf_90 : decode cX6_aheadOf 90 = .ok (.iconst 0, 1) := by decide +kernel
theorem dX6_aheadOf_91 : decode cX6_aheadOf 91 = .ok (.iadd, 1) := by decide +kernel
theorem dX6_aheadOf_92 : decode cX6_aheadOf 92 = .ok (.istore_n 2, 1) := by decide +kernel
theorem dX6_aheadOf_93 : decode cX6_aheadOf 93 = .ok (.iinc 3 1, 3) := by decide +kernel
theorem dX6_aheadOf_96 : decode cX6_aheadOf 96 = .ok (.goto (-92), 3) := by decide +kernel
theorem dX6_aheadOf_99 : decode cX6_aheadOf 99 = .ok (.iload_n 2, 1) := by decide +kernel
theorem dX6_aheadOf_100 : decode cX6_aheadOf 100 = .ok (.ireturn, 1) := by decide +kernel
set_option maxRecDepth 20000 in
theorem ggX6_rank_X6_within : GoodIn wsX6_rank wsX6_within := goodIn_r _ [4] (by decide +kernel) (by decide +kernel)
set_option maxRecDepth 20000 in
theorem gX6_rank_X6_within : GoodIn wsX6_rank (va_wsS RX6 64 yX6_within wsX6_within) := goodIn_app (goodIn_of _ (by decide +kernel)) ggX6_rank_X6_within
set_option maxRecDepth 20000 in
theorem ggX6_rank_X6_findSure : GoodIn wsX6_rank wsX6_findSure := goodIn_r _ [8, 9, 10, 11, 12, 13, 3, 14, 15, 16, 17, 18, 19, 20, 21, 22, 23, 24, 25, 26, 27, 28, 29, 30, 31, 32, 33, 34, 35, 36, 37, 38, 39, 40, 41, 42, 43, 44, 45, 46, 1, 2, 4, 47, 48, 49, 50, 51, 52, 53, 54, 55, 56, 57, 58, 59, 60, 61, 62, 63, 64, 65, 66, 67, 68, 69, 70, 71, 72, 73, 74, 75, 76, 77, 78, 79, 80, 81, 82, 83, 84, 85, 86, 87, 88, 89, 90, 91, 92, 93, 94, 95, 96, 97, 98, 99, 115, 116, 117, 118, 119, 120, 121, 122, 123, 124, 125, 126, 127, 128, 129, 130, 131, 132, 133, 134, 135] (by decide +kernel) (by decide +kernel)
set_option maxRecDepth 20000 in
theorem gX6_rank_X6_findSure : GoodIn wsX6_rank (wsV RX6 162 RX6 yX6_findSure wsX6_findSure) := goodIn_app (goodIn_of _ (by decide +kernel)) ggX6_rank_X6_findSure
set_option maxRecDepth 20000 in
theorem ggX6_rank_X6_isThere : GoodIn wsX6_rank wsX6_isThere := goodIn_r _ [103, 42, 1, 2, 3, 4, 115, 116, 117, 118, 119, 120, 121, 122, 123, 124, 125, 126, 127, 128, 129, 130, 131, 132, 133, 134, 135] (by decide +kernel) (by decide +kernel)
set_option maxRecDepth 20000 in
theorem gX6_rank_X6_isThere : GoodIn wsX6_rank (wsV RX6 71 RX6 yX6_isThere wsX6_isThere) := goodIn_app (goodIn_of _ (by decide +kernel)) ggX6_rank_X6_isThere
set_option maxRecDepth 20000 in
theorem ggX6_rank_X6_aheadOf : GoodIn wsX6_rank wsX6_aheadOf := goodIn_r _ [107, 108, 109, 110, 3, 111, 9, 10, 47, 48, 49, 112, 113, 114, 100, 101, 102, 103, 42, 1, 2, 4, 115, 116, 117, 118, 119, 120, 121, 122, 123, 124, 125, 126, 127, 128, 129, 130, 131, 132, 133, 134, 135] (by decide +kernel) (by decide +kernel)
set_option maxRecDepth 20000 in
theorem gX6_rank_X6_aheadOf : GoodIn wsX6_rank (wsV RX6 200 RX6 yX6_aheadOf wsX6_aheadOf) := goodIn_app (goodIn_of _ (by decide +kernel)) ggX6_rank_X6_aheadOf
theorem dX6_rank_0 : decode cX6_rank 0 = .ok (.iload_n 1, 1) := by decide +kernel
theorem dX6_rank_1 : decode cX6_rank 1 = .ok (.iconst 0, 1) := by decide +kernel
theorem dX6_rank_2 : decode cX6_rank 2 = .ok (.bipush 7, 2) := by decide +kernel
theorem dX6_rank_4 : decode cX6_rank 4 = .ok (.invokestatic 64, 3) := by decide +kernel
theorem dX6_rank_7 : decode cX6_rank 7 = .ok (.ifCond .ne 6, 3) := by decide +kernel
theorem dX6_rank_10 : decode cX6_rank 10 = .ok (.bipush (-2), 2) := by decide +kernel
theorem dX6_rank_12 : decode cX6_rank 12 = .ok (.ireturn, 1) := by decide +kernel
theorem dX6_rank_13 : decode cX6_rank 13 = .ok (.aload_n 0, 1) := by decide +kernel
theorem dX6_rank_14 : decode cX6_rank 14 = .ok (.invokevirtual 162, 3) := by decide +kernel
theorem dX6_rank_17 : decode cX6_rank 17 = .ok (.iconst 0, 1) := by decide +kernel
theorem dX6_rank_18 : decode cX6_rank 18 = .ok (.istore_n 2, 1) := by decide +kernel
theorem dX6_rank_19 : decode cX6_rank 19 = .ok (.iload_n 2, 1) := by decide +kernel
theorem dX6_rank_20 : decode cX6_rank 20 = .ok (.bipush 8, 2) := by decide +kernel
theorem dX6_rank_22 : decode cX6_rank 22 = .ok (.if_icmp .ge 28, 3) := by decide +kernel
theorem dX6_rank_25 : decode cX6_rank 25 = .ok (.aload_n 0, 1) := by decide +kernel
theorem dX6_rank_26 : decode cX6_rank 26 = .ok (.iload_n 2, 1) := by decide +kernel
theorem dX6_rank_27 : decode cX6_rank 27 = .ok (.invokevirtual 71, 3) := by decide +kernel
theorem dX6_rank_30 : decode cX6_rank 30 = .ok (.ifCond .eq 14, 3) := by decide +kernel
theorem dX6_rank_33 : decode cX6_rank 33 = .ok (.aload_n 0, 1) := by decide +kernel
theorem dX6_rank_34 : decode cX6_rank 34 = .ok (.iload_n 2, 1) := by decide +kernel
theorem dX6_rank_35 : decode cX6_rank 35 = .ok (.invokevirtual 200, 3) := by decide +kernel
theorem dX6_rank_38 : decode cX6_rank 38 = .ok (.iload_n 1, 1) := by decide +kernel
theorem dX6_rank_39 : decode cX6_rank 39 = .ok (.if_icmp .ne 5, 3) := by decide +kernel
theorem dX6_rank_42 : decode cX6_rank 42 = .ok (.iload_n 2, 1) := by decide +kernel
theorem dX6_rank_43 : decode cX6_rank 43 = .ok (.ireturn, 1) := by decide +kernel
theorem dX6_rank_44 : decode cX6_rank 44 = .ok (.iinc 2 1, 3) := by decide +kernel
theorem dX6_rank_47 : decode cX6_rank 47 = .ok (.goto (-28), 3) := by decide +kernel
theorem dX6_rank_50 : decode cX6_rank 50 = .ok (.bipush (-9), 2) := by decide +kernel
theorem dX6_rank_52 : decode cX6_rank 52 = .ok (.ireturn, 1) := by decide +kernel
set_option maxRecDepth 20000 in
theorem ggX6_writes_X6_findNarrowed : GoodIn wsX6_writes wsX6_findNarrowed := goodIn_r _ [7, 8, 1, 9, 10, 11, 12, 6, 13, 14, 15, 16, 17, 18, 19, 20, 21, 22, 23, 24, 25, 26, 27, 28, 29, 30, 31, 32, 33, 34, 35, 36, 37, 38, 39, 40, 41, 42, 43, 44, 45, 46, 47, 48, 49, 50, 51, 52, 53, 54, 55, 56, 57, 58, 59, 60, 61, 62, 63, 64, 65, 66, 67, 68, 69, 70, 71, 72, 73, 74, 75, 76, 77, 78, 79, 80, 81, 82, 83, 84, 85, 86, 87, 88, 89, 90, 91, 92, 93, 94, 95, 96, 97, 98, 99, 100, 101, 102, 103, 104, 105, 106, 107, 108] (by decide +kernel) (by decide +kernel)
set_option maxRecDepth 20000 in
theorem gX6_writes_X6_findNarrowed : GoodIn wsX6_writes (wsV RX6 159 RX6 yX6_findNarrowed wsX6_findNarrowed) := goodIn_app (goodIn_of _ (by decide +kernel)) ggX6_writes_X6_findNarrowed
set_option maxRecDepth 20000 in
theorem ggX6_writes_X6_speaks : GoodIn wsX6_writes wsX6_speaks := goodIn_r _ [17, 18, 19, 20, 6, 21, 22, 23, 88, 89, 90, 91, 92, 93, 94, 95, 96, 97, 98, 99, 100, 101, 102, 103, 104, 105, 106, 107, 108] (by decide +kernel) (by decide +kernel)
set_option maxRecDepth 20000 in
theorem gX6_writes_X6_speaks : GoodIn wsX6_writes (wsV RX6 78 RX6 yX6_speaks wsX6_speaks) := goodIn_app (goodIn_of _ (by decide +kernel)) ggX6_writes_X6_speaks
set_option maxRecDepth 20000 in
theorem ggX6_writes_X6_has : GoodIn wsX6_writes wsX6_has := goodIn_r _ [46] (by decide +kernel) (by decide +kernel)
set_option maxRecDepth 20000 in
theorem gX6_writes_X6_has : GoodIn wsX6_writes (va_wsS RX6 85 yX6_has wsX6_has) := goodIn_app (goodIn_of _ (by decide +kernel)) ggX6_writes_X6_has
theorem dX6_writes_0 : decode cX6_writes 0 = .ok (.aload_n 0, 1) := by decide +kernel
theorem dX6_writes_1 : decode cX6_writes 1 = .ok (.invokevirtual 159, 3) := by decide +kernel
theorem dX6_writes_4 : decode cX6_writes 4 = .ok (.aload_n 0, 1) := by decide +kernel
theorem dX6_writes_5 : decode cX6_writes 5 = .ok (.iload_n 1, 1) := by decide +kernel
theorem dX6_writes_6 : decode cX6_writes 6 = .ok (.invokevirtual 78, 3) := by decide +kernel
theorem dX6_writes_9 : decode cX6_writes 9 = .ok (.ifCond .eq 12, 3) := by decide +kernel
theorem dX6_writes_12 : decode cX6_writes 12 = .ok (.aload_n 0, 1) := by decide +kernel
theorem dX6_writes_13 : decode cX6_writes 13 = .ok (.getfield 42, 3) := by decide +kernel
theorem dX6_writes_16 : decode cX6_writes 16 = .ok (.iload_n 1, 1) := by decide +kernel
theorem dX6_writes_17 : decode cX6_writes 17 = .ok (.iaload, 1) := by decide +kernel
theorem dX6_writes_18 : decode cX6_writes 18 = .ok (.ifCond .ne 26, 3) := by decide +kernel
theorem dX6_writes_21 : decode cX6_writes 21 = .ok (.aload_n 0, 1) := by decide +kernel
theorem dX6_writes_22 : decode cX6_writes 22 = .ok (.getfield 61, 3) := by decide +kernel
theorem dX6_writes_25 : decode cX6_writes 25 = .ok (.iconst 0, 1) := by decide +kernel
theorem dX6_writes_26 : decode cX6_writes 26 = .ok (.aload_n 0, 1) := by decide +kernel
theorem dX6_writes_27 : decode cX6_writes 27 = .ok (.iload_n 1, 1) := by decide +kernel
theorem dX6_writes_28 : decode cX6_writes 28 = .ok (.invokevirtual 78, 3) := by decide +kernel
theorem dX6_writes_31 : decode cX6_writes 31 = .ok (.ifCond .eq 8, 3) := by decide +kernel
theorem dX6_writes_34 : decode cX6_writes 34 = .ok (.bipush 33, 2) := by decide +kernel
theorem dX6_writes_36 : decode cX6_writes 36 = .ok (.goto 5, 3) := by decide +kernel
theorem dX6_writes_39 : decode cX6_writes 39 = .ok (.bipush 46, 2) := by decide +kernel
theorem dX6_writes_41 : decode cX6_writes 41 = .ok (.iastore, 1) := by decide +kernel
theorem dX6_writes_42 : decode cX6_writes 42 = .ok (.iconst 1, 1) := by decide +kernel
theorem dX6_writes_43 : decode cX6_writes 43 = .ok (.ireturn, 1) := by decide +kernel
theorem dX6_writes_44 : decode cX6_writes 44 = .ok (.iconst 0, 1) := by decide +kernel
theorem dX6_writes_45 : decode cX6_writes 45 = .ok (.istore_n 2, 1) := by decide +kernel
theorem dX6_writes_46 : decode cX6_writes 46 = .ok (.iconst 0, 1) := by decide +kernel
theorem dX6_writes_47 : decode cX6_writes 47 = .ok (.istore_n 3, 1) := by decide +kernel
theorem dX6_writes_48 : decode cX6_writes 48 = .ok (.iload_n 3, 1) := by decide +kernel
theorem dX6_writes_49 : decode cX6_writes 49 = .ok (.bipush 8, 2) := by decide +kernel
theorem dX6_writes_51 : decode cX6_writes 51 = .ok (.if_icmp .ge 50, 3) := by decide +kernel
theorem dX6_writes_54 : decode cX6_writes 54 = .ok (.aload_n 0, 1) := by decide +kernel
theorem dX6_writes_55 : decode cX6_writes 55 = .ok (.getfield 42, 3) := by decide +kernel
theorem dX6_writes_58 : decode cX6_writes 58 = .ok (.iload_n 1, 1) := by decide +kernel
theorem dX6_writes_59 : decode cX6_writes 59 = .ok (.iaload, 1) := by decide +kernel
theorem dX6_writes_60 : decode cX6_writes 60 = .ok (.iload_n 3, 1) := by decide +kernel
theorem dX6_writes_61 : decode cX6_writes 61 = .ok (.invokestatic 85, 3) := by decide +kernel
theorem dX6_writes_64 : decode cX6_writes 64 = .ok (.ifCond .eq 31, 3) := by decide +kernel
theorem dX6_writes_67 : decode cX6_writes 67 = .ok (.iload_n 2, 1) := by decide +kernel
theorem dX6_writes_68 : decode cX6_writes 68 = .ok (.ifCond .le 14, 3) := by decide +kernel
theorem dX6_writes_71 : decode cX6_writes 71 = .ok (.aload_n 0, 1) := by decide +kernel
theorem dX6_writes_72 : decode cX6_writes 72 = .ok (.getfield 61, 3) := by decide +kernel
theorem dX6_writes_75 : decode cX6_writes 75 = .ok (.iload_n 2, 1) := by decide +kernel
theorem dX6_writes_76 : decode cX6_writes 76 = .ok (.bipush 47, 2) := by decide +kernel
theorem dX6_writes_78 : decode cX6_writes 78 = .ok (.iastore, 1) := by decide +kernel
theorem dX6_writes_79 : decode cX6_writes 79 = .ok (.iinc 2 1, 3) := by decide +kernel
theorem dX6_writes_82 : decode cX6_writes 82 = .ok (.aload_n 0, 1) := by decide +kernel
theorem dX6_writes_83 : decode cX6_writes 83 = .ok (.getfield 61, 3) := by decide +kernel
theorem dX6_writes_86 : decode cX6_writes 86 = .ok (.iload_n 2, 1) := by decide +kernel
theorem dX6_writes_87 : decode cX6_writes 87 = .ok (.bipush 65, 2) := by decide +kernel
theorem dX6_writes_89 : decode cX6_writes 89 = .ok (.iload_n 3, 1) := by decide +kernel
theorem dX6_writes_90 : decode cX6_writes 90 = .ok (.iadd, 1) := by decide +kernel
theorem dX6_writes_91 : decode cX6_writes 91 = .ok (.iastore, 1) := by decide +kernel
theorem dX6_writes_92 : decode cX6_writes 92 = .ok (.iinc 2 1, 3) := by decide +kernel
theorem dX6_writes_95 : decode cX6_writes 95 = .ok (.iinc 3 1, 3) := by decide +kernel
theorem dX6_writes_98 : decode cX6_writes 98 = .ok (.goto (-50), 3) := by decide +kernel
theorem dX6_writes_101 : decode cX6_writes 101 = .ok (.iload_n 2, 1) := by decide +kernel
theorem dX6_writes_102 : decode cX6_writes 102 = .ok (.ireturn, 1) := by decide +kernel
set_option maxRecDepth 20000 in
theorem ggX6_written_X6_isParagraph : GoodIn wsX6_written wsX6_isParagraph := goodIn_r _ [6, 7, 8, 9, 5, 10, 96, 97, 98, 99, 100, 101, 102, 103, 104, 105, 106, 107, 108, 109, 110, 111, 112, 113, 114, 115, 116] (by decide +kernel) (by decide +kernel)
set_option maxRecDepth 20000 in
theorem gX6_written_X6_isParagraph : GoodIn wsX6_written (wsV RX6 131 RX6 yX6_isParagraph wsX6_isParagraph) := goodIn_app (goodIn_of _ (by decide +kernel)) ggX6_written_X6_isParagraph
set_option maxRecDepth 20000 in
theorem ggX6_written_X6_within : GoodIn wsX6_written wsX6_within := goodIn_r _ [10] (by decide +kernel) (by decide +kernel)
set_option maxRecDepth 20000 in
theorem gX6_written_X6_within : GoodIn wsX6_written (va_wsS RX6 64 yX6_within wsX6_within) := goodIn_app (goodIn_of _ (by decide +kernel)) ggX6_written_X6_within
set_option maxRecDepth 20000 in
theorem ggX6_written_X6_writes : GoodIn wsX6_written wsX6_writes := goodIn_r _ [14, 15, 1, 16, 17, 18, 5, 19, 7, 20, 21, 22, 23, 24, 25, 26, 27, 28, 29, 30, 31, 32, 33, 34, 35, 36, 37, 38, 39, 40, 41, 42, 43, 44, 45, 46, 47, 48, 49, 50, 51, 8, 9, 10, 52, 53, 54, 55, 56, 57, 58, 59, 60, 61, 62, 63, 64, 65, 66, 67, 68, 69, 70, 71, 72, 73, 74, 75, 76, 77, 78, 79, 80, 81, 82, 83, 84, 85, 86, 87, 88, 89, 90, 91, 92, 93, 94, 95, 96, 97, 98, 99, 100, 101, 102, 103, 104, 105, 106, 107, 108, 109, 110, 111, 112, 113, 114, 115, 116] (by decide +kernel) (by decide +kernel)
set_option maxRecDepth 20000 in
theorem gX6_written_X6_writes : GoodIn wsX6_written (wsV RX6 203 RX6 yX6_writes wsX6_writes) := goodIn_app (goodIn_of _ (by decide +kernel)) ggX6_written_X6_writes
theorem dX6_written_0 : decode cX6_written 0 = .ok (.aload_n 0, 1) := by decide +kernel
theorem dX6_written_1 : decode cX6_written 1 = .ok (.iload_n 1, 1) := by decide +kernel
theorem dX6_written_2 : decode cX6_written 2 = .ok (.invokevirtual 131, 3) := by decide +kernel
theorem dX6_written_5 : decode cX6_written 5 = .ok (.ifCond .ne 5, 3) := by decide +kernel
theorem dX6_written_8 : decode cX6_written 8 = .ok (.iconst (-1), 1) := by decide +kernel
theorem dX6_written_9 : decode cX6_written 9 = .ok (.ireturn, 1) := by decide +kernel
theorem dX6_written_10 : decode cX6_written 10 = .ok (.iload_n 2, 1) := by decide +kernel
theorem dX6_written_11 : decode cX6_written 11 = .ok (.iconst (-1), 1) := by decide +kernel
theorem dX6_written_12 : decode cX6_written 12 = .ok (.bipush 14, 2) := by decide +kernel
theorem dX6_written_14 : decode cX6_written 14 = .ok (.invokestatic 64, 3) := by decide +kernel
theorem dX6_written_17 : decode cX6_written 17 = .ok (.ifCond .ne 6, 3) := by decide +kernel
theorem dX6_written_20 : decode cX6_written 20 = .ok (.bipush (-2), 2) := by decide +kernel
theorem dX6_written_22 : decode cX6_written 22 = .ok (.ireturn, 1) := by decide +kernel
theorem dX6_written_23 : decode cX6_written 23 = .ok (.aload_n 0, 1) := by decide +kernel
theorem dX6_written_24 : decode cX6_written 24 = .ok (.iload_n 1, 1) := by decide +kernel
theorem dX6_written_25 : decode cX6_written 25 = .ok (.invokevirtual 203, 3) := by decide +kernel
theorem dX6_written_28 : decode cX6_written 28 = .ok (.istore_n 3, 1) := by decide +kernel
theorem dX6_written_29 : decode cX6_written 29 = .ok (.iload_n 2, 1) := by decide +kernel
theorem dX6_written_30 : decode cX6_written 30 = .ok (.ifCond .ge 7, 3) := by decide +kernel
theorem dX6_written_33 : decode cX6_written 33 = .ok (.iload_n 3, 1) := by decide +kernel
theorem dX6_written_34 : decode cX6_written 34 = .ok (.goto 19, 3) := by decide +kernel
theorem dX6_written_37 : decode cX6_written 37 = .ok (.iload_n 2, 1) := by decide +kernel
theorem dX6_written_38 : decode cX6_written 38 = .ok (.iload_n 3, 1) := by decide +kernel
theorem dX6_written_39 : decode cX6_written 39 = .ok (.if_icmp .ge 12, 3) := by decide +kernel
theorem dX6_written_42 : decode cX6_written 42 = .ok (.aload_n 0, 1) := by decide +kernel
theorem dX6_written_43 : decode cX6_written 43 = .ok (.getfield 61, 3) := by decide +kernel
theorem dX6_written_46 : decode cX6_written 46 = .ok (.iload_n 2, 1) := by decide +kernel
theorem dX6_written_47 : decode cX6_written 47 = .ok (.iaload, 1) := by decide +kernel
theorem dX6_written_48 : decode cX6_written 48 = .ok (.goto 5, 3) := by decide +kernel
theorem dX6_written_51 : decode cX6_written 51 = .ok (.bipush (-9), 2) := by decide +kernel
theorem dX6_written_53 : decode cX6_written 53 = .ok (.ireturn, 1) := by decide +kernel
set_option maxRecDepth 20000 in
theorem ggX6_manySpeak_X6_speaks : GoodIn wsX6_manySpeak wsX6_speaks := goodIn_r _ [6, 7, 8, 9, 5, 10, 11, 12, 13, 14, 15, 16, 17, 18, 19, 20, 21, 22, 23, 24, 25, 26, 27, 28, 29, 30, 31, 32, 33] (by decide +kernel) (by decide +kernel)
set_option maxRecDepth 20000 in
theorem gX6_manySpeak_X6_speaks : GoodIn wsX6_manySpeak (wsV RX6 78 RX6 yX6_speaks wsX6_speaks) := goodIn_app (goodIn_of _ (by decide +kernel)) ggX6_manySpeak_X6_speaks
theorem dX6_manySpeak_0 : decode cX6_manySpeak 0 = .ok (.iconst 0, 1) := by decide +kernel
theorem dX6_manySpeak_1 : decode cX6_manySpeak 1 = .ok (.istore_n 1, 1) := by decide +kernel
theorem dX6_manySpeak_2 : decode cX6_manySpeak 2 = .ok (.iconst 0, 1) := by decide +kernel
theorem dX6_manySpeak_3 : decode cX6_manySpeak 3 = .ok (.istore_n 2, 1) := by decide +kernel
theorem dX6_manySpeak_4 : decode cX6_manySpeak 4 = .ok (.iload_n 2, 1) := by decide +kernel
theorem dX6_manySpeak_5 : decode cX6_manySpeak 5 = .ok (.aload_n 0, 1) := by decide +kernel
theorem dX6_manySpeak_6 : decode cX6_manySpeak 6 = .ok (.getfield 68, 3) := by decide +kernel
theorem dX6_manySpeak_9 : decode cX6_manySpeak 9 = .ok (.if_icmp .ge 25, 3) := by decide +kernel
theorem dX6_manySpeak_12 : decode cX6_manySpeak 12 = .ok (.iload_n 1, 1) := by decide +kernel
theorem dX6_manySpeak_13 : decode cX6_manySpeak 13 = .ok (.aload_n 0, 1) := by decide +kernel
theorem dX6_manySpeak_14 : decode cX6_manySpeak 14 = .ok (.iload_n 2, 1) := by decide +kernel
theorem dX6_manySpeak_15 : decode cX6_manySpeak 15 = .ok (.invokevirtual 78, 3) := by decide +kernel
theorem dX6_manySpeak_18 : decode cX6_manySpeak 18 = .ok (.ifCond .eq 7, 3) := by decide +kernel
theorem dX6_manySpeak_21 : decode cX6_manySpeak 21 = .ok (.iconst 1, 1) := by decide +kernel
theorem dX6_manySpeak_22 : decode cX6_manySpeak 22 = .ok (.goto 4, 3) := by decide +kernel
theorem dX6_manySpeak_25 : decode cX6_manySpeak 25 = .ok (.iconst 0, 1) := by decide +kernel
theorem dX6_manySpeak_26 : decode cX6_manySpeak 26 = .ok (.iadd, 1) := by decide +kernel
theorem dX6_manySpeak_27 : decode cX6_manySpeak 27 = .ok (.istore_n 1, 1) := by decide +kernel
theorem dX6_manySpeak_28 : decode cX6_manySpeak 28 = .ok (.iinc 2 1, 3) := by decide +kernel
theorem dX6_manySpeak_31 : decode cX6_manySpeak 31 = .ok (.goto (-27), 3) := by decide +kernel
theorem dX6_manySpeak_34 : decode cX6_manySpeak 34 = .ok (.iload_n 1, 1) := by decide +kernel
theorem dX6_manySpeak_35 : decode cX6_manySpeak 35 = .ok (.ireturn, 1) := by decide +kernel
set_option maxRecDepth 20000 in
theorem ggX6_manySure_X6_findSure : GoodIn wsX6_manySure wsX6_findSure := goodIn_r _ [7, 1, 2, 8, 9, 10, 6, 11, 12, 13, 14, 15, 16, 17, 18, 19, 20, 21, 22, 23, 24, 25, 26, 27, 28, 29, 30, 31, 32, 33, 34, 35, 36, 37, 38, 39, 40, 41, 42, 43, 44, 45, 46, 47, 48, 49, 50, 51, 52, 53, 54, 55, 56, 57, 58, 59, 60, 61, 62, 63, 64, 65, 66, 67, 68, 69, 70, 71, 72, 73, 74, 75, 76, 77, 78, 79, 80, 81, 82, 83, 84, 85, 86, 87, 88, 89, 90, 91, 92, 93, 94, 95, 96, 97, 98, 99, 103, 104, 105, 106, 107, 108, 109, 110, 111, 112, 113, 114, 115, 116, 117, 118, 119, 120, 121, 122, 123] (by decide +kernel) (by decide +kernel)
set_option maxRecDepth 20000 in
theorem gX6_manySure_X6_findSure : GoodIn wsX6_manySure (wsV RX6 162 RX6 yX6_findSure wsX6_findSure) := goodIn_app (goodIn_of _ (by decide +kernel)) ggX6_manySure_X6_findSure
set_option maxRecDepth 20000 in
theorem ggX6_manySure_X6_size : GoodIn wsX6_manySure wsX6_size := goodIn_r _ [102] (by decide +kernel) (by decide +kernel)
set_option maxRecDepth 20000 in
theorem gX6_manySure_X6_size : GoodIn wsX6_manySure (va_wsS RX6 146 yX6_size wsX6_size) := goodIn_app (goodIn_of _ (by decide +kernel)) ggX6_manySure_X6_size
theorem dX6_manySure_0 : decode cX6_manySure 0 = .ok (.aload_n 0, 1) := by decide +kernel
theorem dX6_manySure_1 : decode cX6_manySure 1 = .ok (.invokevirtual 162, 3) := by decide +kernel
theorem dX6_manySure_4 : decode cX6_manySure 4 = .ok (.iconst 0, 1) := by decide +kernel
theorem dX6_manySure_5 : decode cX6_manySure 5 = .ok (.istore_n 1, 1) := by decide +kernel
theorem dX6_manySure_6 : decode cX6_manySure 6 = .ok (.iconst 0, 1) := by decide +kernel
theorem dX6_manySure_7 : decode cX6_manySure 7 = .ok (.istore_n 2, 1) := by decide +kernel
theorem dX6_manySure_8 : decode cX6_manySure 8 = .ok (.iload_n 2, 1) := by decide +kernel
theorem dX6_manySure_9 : decode cX6_manySure 9 = .ok (.aload_n 0, 1) := by decide +kernel
theorem dX6_manySure_10 : decode cX6_manySure 10 = .ok (.getfield 68, 3) := by decide +kernel
theorem dX6_manySure_13 : decode cX6_manySure 13 = .ok (.if_icmp .ge 30, 3) := by decide +kernel
theorem dX6_manySure_16 : decode cX6_manySure 16 = .ok (.iload_n 1, 1) := by decide +kernel
theorem dX6_manySure_17 : decode cX6_manySure 17 = .ok (.aload_n 0, 1) := by decide +kernel
theorem dX6_manySure_18 : decode cX6_manySure 18 = .ok (.getfield 58, 3) := by decide +kernel
theorem dX6_manySure_21 : decode cX6_manySure 21 = .ok (.iload_n 2, 1) := by decide +kernel
theorem dX6_manySure_22 : decode cX6_manySure 22 = .ok (.iaload, 1) := by decide +kernel
theorem dX6_manySure_23 : decode cX6_manySure 23 = .ok (.invokestatic 146, 3) := by decide +kernel
theorem dX6_manySure_26 : decode cX6_manySure 26 = .ok (.iconst 1, 1) := by decide +kernel
theorem dX6_manySure_27 : decode cX6_manySure 27 = .ok (.if_icmp .ne 7, 3) := by decide +kernel
theorem dX6_manySure_30 : decode cX6_manySure 30 = .ok (.iconst 1, 1) := by decide +kernel
theorem dX6_manySure_31 : decode cX6_manySure 31 = .ok (.goto 4, 3) := by decide +kernel
theorem dX6_manySure_34 : decode cX6_manySure 34 = .ok (.iconst 0, 1) := by decide +kernel
theorem dX6_manySure_35 : decode cX6_manySure 35 = .ok (.iadd, 1) := by decide +kernel
theorem dX6_manySure_36 : decode cX6_manySure 36 = .ok (.istore_n 1, 1) := by decide +kernel
theorem dX6_manySure_37 : decode cX6_manySure 37 = .ok (.iinc 2 1, 3) := by decide +kernel
theorem dX6_manySure_40 : decode cX6_manySure 40 = .ok (.goto (-32), 3) := by decide +kernel
theorem dX6_manySure_43 : decode cX6_manySure 43 = .ok (.iload_n 1, 1) := by decide +kernel
theorem dX6_manySure_44 : decode cX6_manySure 44 = .ok (.ireturn, 1) := by decide +kernel
theorem dX6_manyHints_0 : decode cX6_manyHints 0 = .ok (.iconst 0, 1) := by decide +kernel
theorem dX6_manyHints_1 : decode cX6_manyHints 1 = .ok (.istore_n 1, 1) := by decide +kernel
theorem dX6_manyHints_2 : decode cX6_manyHints 2 = .ok (.iconst 0, 1) := by decide +kernel
theorem dX6_manyHints_3 : decode cX6_manyHints 3 = .ok (.istore_n 2, 1) := by decide +kernel
theorem dX6_manyHints_4 : decode cX6_manyHints 4 = .ok (.iload_n 2, 1) := by decide +kernel
theorem dX6_manyHints_5 : decode cX6_manyHints 5 = .ok (.aload_n 0, 1) := by decide +kernel
theorem dX6_manyHints_6 : decode cX6_manyHints 6 = .ok (.getfield 68, 3) := by decide +kernel
theorem dX6_manyHints_9 : decode cX6_manyHints 9 = .ok (.if_icmp .ge 28, 3) := by decide +kernel
theorem dX6_manyHints_12 : decode cX6_manyHints 12 = .ok (.iload_n 1, 1) := by decide +kernel
theorem dX6_manyHints_13 : decode cX6_manyHints 13 = .ok (.aload_n 0, 1) := by decide +kernel
theorem dX6_manyHints_14 : decode cX6_manyHints 14 = .ok (.getfield 36, 3) := by decide +kernel
theorem dX6_manyHints_17 : decode cX6_manyHints 17 = .ok (.iload_n 2, 1) := by decide +kernel
theorem dX6_manyHints_18 : decode cX6_manyHints 18 = .ok (.iaload, 1) := by decide +kernel
theorem dX6_manyHints_19 : decode cX6_manyHints 19 = .ok (.bipush (-9), 2) := by decide +kernel
theorem dX6_manyHints_21 : decode cX6_manyHints 21 = .ok (.if_icmp .eq 7, 3) := by decide +kernel
theorem dX6_manyHints_24 : decode cX6_manyHints 24 = .ok (.iconst 1, 1) := by decide +kernel
theorem dX6_manyHints_25 : decode cX6_manyHints 25 = .ok (.goto 4, 3) := by decide +kernel
theorem dX6_manyHints_28 : decode cX6_manyHints 28 = .ok (.iconst 0, 1) := by decide +kernel
theorem dX6_manyHints_29 : decode cX6_manyHints 29 = .ok (.iadd, 1) := by decide +kernel
theorem dX6_manyHints_30 : decode cX6_manyHints 30 = .ok (.istore_n 1, 1) := by decide +kernel
theorem dX6_manyHints_31 : decode cX6_manyHints 31 = .ok (.iinc 2 1, 3) := by decide +kernel
theorem dX6_manyHints_34 : decode cX6_manyHints 34 = .ok (.goto (-30), 3) := by decide +kernel
theorem dX6_manyHints_37 : decode cX6_manyHints 37 = .ok (.iload_n 1, 1) := by decide +kernel
theorem dX6_manyHints_38 : decode cX6_manyHints 38 = .ok (.ireturn, 1) := by decide +kernel
set_option maxRecDepth 20000 in
theorem ggX6_many_X6_there : GoodIn wsX6_many wsX6_there := goodIn_r _ [9, 10, 125, 126, 127, 128, 129, 130, 131, 132, 133, 134, 135, 136, 137, 138, 139, 140, 141, 142, 143, 144, 145] (by decide +kernel) (by decide +kernel)
set_option maxRecDepth 20000 in
theorem gX6_many_X6_there : GoodIn wsX6_many (wsV RX6 92 RX6 yX6_there wsX6_there) := goodIn_app (goodIn_of _ (by decide +kernel)) ggX6_many_X6_there
set_option maxRecDepth 20000 in
theorem ggX6_many_X6_size : GoodIn wsX6_many wsX6_size := goodIn_r _ [13] (by decide +kernel) (by decide +kernel)
set_option maxRecDepth 20000 in
theorem gX6_many_X6_size : GoodIn wsX6_many (va_wsS RX6 146 yX6_size wsX6_size) := goodIn_app (goodIn_of _ (by decide +kernel)) ggX6_many_X6_size
set_option maxRecDepth 20000 in
theorem ggX6_many_X6_manySpeak : GoodIn wsX6_many wsX6_manySpeak := goodIn_r _ [17, 1, 18, 19, 20, 8, 21, 22, 23, 24, 25, 26, 27, 125, 126, 127, 128, 129, 130, 131, 132, 133, 134, 135, 136, 137, 138, 139, 140, 141, 142, 143, 144, 145] (by decide +kernel) (by decide +kernel)
set_option maxRecDepth 20000 in
theorem gX6_many_X6_manySpeak : GoodIn wsX6_many (wsV RX6 206 RX6 yX6_manySpeak wsX6_manySpeak) := goodIn_app (goodIn_of _ (by decide +kernel)) ggX6_many_X6_manySpeak
set_option maxRecDepth 20000 in
theorem ggX6_many_X6_runs : GoodIn wsX6_many wsX6_runs := goodIn_r _ [31, 1, 32, 33, 34, 8, 35, 18, 19, 20, 21, 22, 23, 24, 25, 26, 27, 125, 126, 127, 128, 129, 130, 131, 132, 133, 134, 135, 136, 137, 138, 139, 140, 141, 142, 143, 144, 145] (by decide +kernel) (by decide +kernel)
set_option maxRecDepth 20000 in
theorem gX6_many_X6_runs : GoodIn wsX6_many (wsV RX6 190 RX6 yX6_runs wsX6_runs) := goodIn_app (goodIn_of _ (by decide +kernel)) ggX6_many_X6_runs
set_option maxRecDepth 20000 in
theorem ggX6_many_X6_manySure : GoodIn wsX6_many wsX6_manySure := goodIn_r _ [39, 1, 40, 41, 42, 43, 8, 44, 45, 46, 47, 48, 49, 50, 51, 52, 53, 18, 19, 20, 21, 22, 23, 24, 25, 26, 27, 54, 55, 56, 57, 58, 59, 4, 60, 5, 6, 7, 9, 10, 61, 62, 63, 64, 65, 66, 67, 68, 69, 70, 71, 72, 73, 74, 75, 76, 77, 78, 79, 80, 81, 82, 83, 84, 85, 86, 87, 88, 89, 90, 91, 92, 93, 94, 95, 96, 97, 98, 99, 100, 101, 102, 103, 104, 105, 106, 107, 108, 109, 110, 111, 112, 113, 114, 115, 116, 117, 118, 119, 120, 11, 12, 13, 125, 126, 127, 128, 129, 130, 131, 132, 133, 134, 135, 136, 137, 138, 139, 140, 141, 142, 143, 144, 145] (by decide +kernel) (by decide +kernel)
set_option maxRecDepth 20000 in
theorem gX6_many_X6_manySure : GoodIn wsX6_many (wsV RX6 209 RX6 yX6_manySure wsX6_manySure) := goodIn_app (goodIn_of _ (by decide +kernel)) ggX6_many_X6_manySure
set_option maxRecDepth 20000 in
theorem ggX6_many_X6_manyHints : GoodIn wsX6_many wsX6_manyHints := goodIn_r _ [124, 1, 60, 125, 126, 127, 128, 129, 130, 131, 132, 133, 134, 135, 136, 137, 138, 139, 140, 141, 142, 143, 144, 145] (by decide +kernel) (by decide +kernel)
set_option maxRecDepth 20000 in
theorem gX6_many_X6_manyHints : GoodIn wsX6_many (wsV RX6 212 RX6 yX6_manyHints wsX6_manyHints) := goodIn_app (goodIn_of _ (by decide +kernel)) ggX6_many_X6_manyHints
theorem dX6_many_0 : decode cX6_many 0 = .ok (.iload_n 1, 1) := by decide +kernel
theorem dX6_many_1 : decode cX6_many 1 = .ok (.tableswitch 99 0 8 #[51, 59, 64, 69, 74, 79, 84, 89, 94], 51) := by decide +kernel
theorem dX6_many_52 : decode cX6_many 52 = .ok (.aload_n 0, 1) := by decide +kernel
theorem dX6_many_53 : decode cX6_many 53 = .ok (.invokevirtual 92, 3) := by decide +kernel
theorem dX6_many_56 : decode cX6_many 56 = .ok (.invokestatic 146, 3) := by decide +kernel
theorem dX6_many_59 : decode cX6_many 59 = .ok (.ireturn, 1) := by decide +kernel
theorem dX6_many_60 : decode cX6_many 60 = .ok (.aload_n 0, 1) := by decide +kernel
theorem dX6_many_61 : decode cX6_many 61 = .ok (.getfield 68, 3) := by decide +kernel
theorem dX6_many_64 : decode cX6_many 64 = .ok (.ireturn, 1) := by decide +kernel
theorem dX6_many_65 : decode cX6_many 65 = .ok (.aload_n 0, 1) := by decide +kernel
theorem dX6_many_66 : decode cX6_many 66 = .ok (.invokevirtual 206, 3) := by decide +kernel
theorem dX6_many_69 : decode cX6_many 69 = .ok (.ireturn, 1) := by decide +kernel
theorem dX6_many_70 : decode cX6_many 70 = .ok (.aload_n 0, 1) := by decide +kernel
theorem dX6_many_71 : decode cX6_many 71 = .ok (.invokevirtual 190, 3) := by decide +kernel
theorem dX6_many_74 : decode cX6_many 74 = .ok (.ireturn, 1) := by decide +kernel
theorem dX6_many_75 : decode cX6_many 75 = .ok (.aload_n 0, 1) := by decide +kernel
theorem dX6_many_76 : decode cX6_many 76 = .ok (.invokevirtual 209, 3) := by decide +kernel
theorem dX6_many_79 : decode cX6_many 79 = .ok (.ireturn, 1) := by decide +kernel
theorem dX6_many_80 : decode cX6_many 80 = .ok (.aload_n 0, 1) := by decide +kernel
theorem dX6_many_81 : decode cX6_many 81 = .ok (.invokevirtual 212, 3) := by decide +kernel
theorem dX6_many_84 : decode cX6_many 84 = .ok (.ireturn, 1) := by decide +kernel
theorem dX6_many_85 : decode cX6_many 85 = .ok (.aload_n 0, 1) := by decide +kernel
theorem dX6_many_86 : decode cX6_many 86 = .ok (.getfield 96, 3) := by decide +kernel
theorem dX6_many_89 : decode cX6_many 89 = .ok (.ireturn, 1) := by decide +kernel
theorem dX6_many_90 : decode cX6_many 90 = .ok (.aload_n 0, 1) := by decide +kernel
theorem dX6_many_91 : decode cX6_many 91 = .ok (.getfield 89, 3) := by decide +kernel
theorem dX6_many_94 : decode cX6_many 94 = .ok (.ireturn, 1) := by decide +kernel
theorem dX6_many_95 : decode cX6_many 95 = .ok (.aload_n 0, 1) := by decide +kernel
theorem dX6_many_96 : decode cX6_many 96 = .ok (.getfield 13, 3) := by decide +kernel
theorem dX6_many_99 : decode cX6_many 99 = .ok (.ireturn, 1) := by decide +kernel
theorem dX6_many_100 : decode cX6_many 100 = .ok (.bipush (-2), 2) := by decide +kernel
theorem dX6_many_102 : decode cX6_many 102 = .ok (.ireturn, 1) := by decide +kernel
theorem dJ6_bitCount_0f7a4_0 : decode cJ6_bitCount_0f7a4 0 = .ok (.iload_n 0, 1) := by decide +kernel
theorem dJ6_bitCount_0f7a4_1 : decode cJ6_bitCount_0f7a4 1 = .ok (.iload_n 0, 1) := by decide +kernel
theorem dJ6_bitCount_0f7a4_2 : decode cJ6_bitCount_0f7a4 2 = .ok (.iconst 1, 1) := by decide +kernel
theorem dJ6_bitCount_0f7a4_3 : decode cJ6_bitCount_0f7a4 3 = .ok (.iushr, 1) := by decide +kernel
theorem dJ6_bitCount_0f7a4_4 : decode cJ6_bitCount_0f7a4 4 = .ok (.ldc_w 265, 3) := by decide +kernel
theorem dJ6_bitCount_0f7a4_7 : decode cJ6_bitCount_0f7a4 7 = .ok (.iand, 1) := by decide +kernel
theorem dJ6_bitCount_0f7a4_8 : decode cJ6_bitCount_0f7a4 8 = .ok (.isub, 1) := by decide +kernel
theorem dJ6_bitCount_0f7a4_9 : decode cJ6_bitCount_0f7a4 9 = .ok (.istore_n 0, 1) := by decide +kernel
theorem dJ6_bitCount_0f7a4_10 : decode cJ6_bitCount_0f7a4 10 = .ok (.iload_n 0, 1) := by decide +kernel
theorem dJ6_bitCount_0f7a4_11 : decode cJ6_bitCount_0f7a4 11 = .ok (.ldc_w 266, 3) := by decide +kernel
theorem dJ6_bitCount_0f7a4_14 : decode cJ6_bitCount_0f7a4 14 = .ok (.iand, 1) := by decide +kernel
theorem dJ6_bitCount_0f7a4_15 : decode cJ6_bitCount_0f7a4 15 = .ok (.iload_n 0, 1) := by decide +kernel
theorem dJ6_bitCount_0f7a4_16 : decode cJ6_bitCount_0f7a4 16 = .ok (.iconst 2, 1) := by decide +kernel
theorem dJ6_bitCount_0f7a4_17 : decode cJ6_bitCount_0f7a4 17 = .ok (.iushr, 1) := by decide +kernel
theorem dJ6_bitCount_0f7a4_18 : decode cJ6_bitCount_0f7a4 18 = .ok (.ldc_w 266, 3) := by decide +kernel
theorem dJ6_bitCount_0f7a4_21 : decode cJ6_bitCount_0f7a4 21 = .ok (.iand, 1) := by decide +kernel
theorem dJ6_bitCount_0f7a4_22 : decode cJ6_bitCount_0f7a4 22 = .ok (.iadd, 1) := by decide +kernel
theorem dJ6_bitCount_0f7a4_23 : decode cJ6_bitCount_0f7a4 23 = .ok (.istore_n 0, 1) := by decide +kernel
theorem dJ6_bitCount_0f7a4_24 : decode cJ6_bitCount_0f7a4 24 = .ok (.iload_n 0, 1) := by decide +kernel
theorem dJ6_bitCount_0f7a4_25 : decode cJ6_bitCount_0f7a4 25 = .ok (.iload_n 0, 1) := by decide +kernel
theorem dJ6_bitCount_0f7a4_26 : decode cJ6_bitCount_0f7a4 26 = .ok (.iconst 4, 1) := by decide +kernel
theorem dJ6_bitCount_0f7a4_27 : decode cJ6_bitCount_0f7a4 27 = .ok (.iushr, 1) := by decide +kernel
theorem dJ6_bitCount_0f7a4_28 : decode cJ6_bitCount_0f7a4 28 = .ok (.iadd, 1) := by decide +kernel
theorem dJ6_bitCount_0f7a4_29 : decode cJ6_bitCount_0f7a4 29 = .ok (.ldc_w 267, 3) := by decide +kernel
theorem dJ6_bitCount_0f7a4_32 : decode cJ6_bitCount_0f7a4 32 = .ok (.iand, 1) := by decide +kernel
theorem dJ6_bitCount_0f7a4_33 : decode cJ6_bitCount_0f7a4 33 = .ok (.istore_n 0, 1) := by decide +kernel
theorem dJ6_bitCount_0f7a4_34 : decode cJ6_bitCount_0f7a4 34 = .ok (.iload_n 0, 1) := by decide +kernel
theorem dJ6_bitCount_0f7a4_35 : decode cJ6_bitCount_0f7a4 35 = .ok (.iload_n 0, 1) := by decide +kernel
theorem dJ6_bitCount_0f7a4_36 : decode cJ6_bitCount_0f7a4 36 = .ok (.bipush 8, 2) := by decide +kernel
theorem dJ6_bitCount_0f7a4_38 : decode cJ6_bitCount_0f7a4 38 = .ok (.iushr, 1) := by decide +kernel
theorem dJ6_bitCount_0f7a4_39 : decode cJ6_bitCount_0f7a4 39 = .ok (.iadd, 1) := by decide +kernel
theorem dJ6_bitCount_0f7a4_40 : decode cJ6_bitCount_0f7a4 40 = .ok (.istore_n 0, 1) := by decide +kernel
theorem dJ6_bitCount_0f7a4_41 : decode cJ6_bitCount_0f7a4 41 = .ok (.iload_n 0, 1) := by decide +kernel
theorem dJ6_bitCount_0f7a4_42 : decode cJ6_bitCount_0f7a4 42 = .ok (.iload_n 0, 1) := by decide +kernel
theorem dJ6_bitCount_0f7a4_43 : decode cJ6_bitCount_0f7a4 43 = .ok (.bipush 16, 2) := by decide +kernel
theorem dJ6_bitCount_0f7a4_45 : decode cJ6_bitCount_0f7a4 45 = .ok (.iushr, 1) := by decide +kernel
theorem dJ6_bitCount_0f7a4_46 : decode cJ6_bitCount_0f7a4 46 = .ok (.iadd, 1) := by decide +kernel
theorem dJ6_bitCount_0f7a4_47 : decode cJ6_bitCount_0f7a4 47 = .ok (.istore_n 0, 1) := by decide +kernel
theorem dJ6_bitCount_0f7a4_48 : decode cJ6_bitCount_0f7a4 48 = .ok (.iload_n 0, 1) := by decide +kernel
theorem dJ6_bitCount_0f7a4_49 : decode cJ6_bitCount_0f7a4 49 = .ok (.bipush 63, 2) := by decide +kernel
theorem dJ6_bitCount_0f7a4_51 : decode cJ6_bitCount_0f7a4 51 = .ok (.iand, 1) := by decide +kernel
theorem dJ6_bitCount_0f7a4_52 : decode cJ6_bitCount_0f7a4 52 = .ok (.ireturn, 1) := by decide +kernel
theorem dJ9_max_7cf53_0 : decode cJ9_max_7cf53 0 = .ok (.iload_n 0, 1) := by decide +kernel
theorem dJ9_max_7cf53_1 : decode cJ9_max_7cf53 1 = .ok (.iload_n 1, 1) := by decide +kernel
theorem dJ9_max_7cf53_2 : decode cJ9_max_7cf53 2 = .ok (.if_icmp .lt 7, 3) := by decide +kernel
theorem dJ9_max_7cf53_5 : decode cJ9_max_7cf53 5 = .ok (.iload_n 0, 1) := by decide +kernel
theorem dJ9_max_7cf53_6 : decode cJ9_max_7cf53 6 = .ok (.goto 4, 3) := by decide +kernel
theorem dJ9_max_7cf53_9 : decode cJ9_max_7cf53 9 = .ok (.iload_n 1, 1) := by decide +kernel
theorem dJ9_max_7cf53_10 : decode cJ9_max_7cf53 10 = .ok (.ireturn, 1) := by decide +kernel
theorem dJ9_max_f86c9_0 : decode cJ9_max_f86c9 0 = .ok (.lload_n 0, 1) := by decide +kernel
theorem dJ9_max_f86c9_1 : decode cJ9_max_f86c9 1 = .ok (.lload_n 2, 1) := by decide +kernel
theorem dJ9_max_f86c9_2 : decode cJ9_max_f86c9 2 = .ok (.lcmp, 1) := by decide +kernel
theorem dJ9_max_f86c9_3 : decode cJ9_max_f86c9 3 = .ok (.ifCond .lt 7, 3) := by decide +kernel
theorem dJ9_max_f86c9_6 : decode cJ9_max_f86c9 6 = .ok (.lload_n 0, 1) := by decide +kernel
theorem dJ9_max_f86c9_7 : decode cJ9_max_f86c9 7 = .ok (.goto 4, 3) := by decide +kernel
theorem dJ9_max_f86c9_10 : decode cJ9_max_f86c9 10 = .ok (.lload_n 2, 1) := by decide +kernel
theorem dJ9_max_f86c9_11 : decode cJ9_max_f86c9 11 = .ok (.lreturn, 1) := by decide +kernel
theorem dJ9_min_7cf53_0 : decode cJ9_min_7cf53 0 = .ok (.iload_n 0, 1) := by decide +kernel
theorem dJ9_min_7cf53_1 : decode cJ9_min_7cf53 1 = .ok (.iload_n 1, 1) := by decide +kernel
theorem dJ9_min_7cf53_2 : decode cJ9_min_7cf53 2 = .ok (.if_icmp .gt 7, 3) := by decide +kernel
theorem dJ9_min_7cf53_5 : decode cJ9_min_7cf53 5 = .ok (.iload_n 0, 1) := by decide +kernel
theorem dJ9_min_7cf53_6 : decode cJ9_min_7cf53 6 = .ok (.goto 4, 3) := by decide +kernel
theorem dJ9_min_7cf53_9 : decode cJ9_min_7cf53 9 = .ok (.iload_n 1, 1) := by decide +kernel
theorem dJ9_min_7cf53_10 : decode cJ9_min_7cf53 10 = .ok (.ireturn, 1) := by decide +kernel
end
section
theorem zz_end : True := trivial
end
