-- ===== PART A: goes FIRST, ahead of the names: the tables' words, and 'selects' of the private methods out of them =====
/-- a private method of a class that the tables say can be made, by its rows of tables_1 -/
def lw_okq (q : MethodName × Nat) : Prop := (q.1.cls ≠ "java/lang/invoke/MethodHandle" ∧ q.1.cls ≠ "java/lang/invoke/VarHandle") ∧ Cond.instantiable q.1.cls q.2 ∈ tables_1 ∧ Cond.privateMethod q.1 ∈ tables_1 ∧ Cond.instanceMethod q.1 ∈ tables_1
theorem lw_p0 : lw_okq (⟨"LongTable$Tape", "add", "(I)V"⟩, 2) := ⟨⟨by decide +kernel, by decide +kernel⟩, List.mem_of_getElem? (i := 28) (by decide +kernel), List.mem_of_getElem? (i := 506) (by decide +kernel), List.mem_of_getElem? (i := 507) (by decide +kernel)⟩
theorem lw_p1 : lw_okq (⟨"LongTable", "spareMatter", "()LLongTable$Matter;"⟩, 12) := ⟨⟨by decide +kernel, by decide +kernel⟩, List.mem_of_getElem? (i := 20) (by decide +kernel), List.mem_of_getElem? (i := 522) (by decide +kernel), List.mem_of_getElem? (i := 523) (by decide +kernel)⟩
theorem lw_p2 : lw_okq (⟨"LongTable$Reader", "next", "()V"⟩, 14) := ⟨⟨by decide +kernel, by decide +kernel⟩, List.mem_of_getElem? (i := 209) (by decide +kernel), List.mem_of_getElem? (i := 538) (by decide +kernel), List.mem_of_getElem? (i := 539) (by decide +kernel)⟩
theorem lw_p3 : lw_okq (⟨"LongTable$Reader", "nextRun", "()V"⟩, 14) := ⟨⟨by decide +kernel, by decide +kernel⟩, List.mem_of_getElem? (i := 209) (by decide +kernel), List.mem_of_getElem? (i := 548) (by decide +kernel), List.mem_of_getElem? (i := 549) (by decide +kernel)⟩
theorem lw_p4 : lw_okq (⟨"LongTable$Reader", "readLine", "()Z"⟩, 14) := ⟨⟨by decide +kernel, by decide +kernel⟩, List.mem_of_getElem? (i := 209) (by decide +kernel), List.mem_of_getElem? (i := 554) (by decide +kernel), List.mem_of_getElem? (i := 555) (by decide +kernel)⟩
theorem lw_p5 : lw_okq (⟨"LongTable$Reader", "fail", "(I)Z"⟩, 14) := ⟨⟨by decide +kernel, by decide +kernel⟩, List.mem_of_getElem? (i := 209) (by decide +kernel), List.mem_of_getElem? (i := 558) (by decide +kernel), List.mem_of_getElem? (i := 559) (by decide +kernel)⟩
theorem lw_p6 : lw_okq (⟨"LongTable$Reader", "readTruth", "()Z"⟩, 14) := ⟨⟨by decide +kernel, by decide +kernel⟩, List.mem_of_getElem? (i := 209) (by decide +kernel), List.mem_of_getElem? (i := 562) (by decide +kernel), List.mem_of_getElem? (i := 563) (by decide +kernel)⟩
theorem lw_p7 : lw_okq (⟨"LongTable$Reader", "someName", "(I)Z"⟩, 14) := ⟨⟨by decide +kernel, by decide +kernel⟩, List.mem_of_getElem? (i := 209) (by decide +kernel), List.mem_of_getElem? (i := 566) (by decide +kernel), List.mem_of_getElem? (i := 567) (by decide +kernel)⟩
theorem lw_p8 : lw_okq (⟨"LongTable$Reader", "isName", "(I)Z"⟩, 14) := ⟨⟨by decide +kernel, by decide +kernel⟩, List.mem_of_getElem? (i := 209) (by decide +kernel), List.mem_of_getElem? (i := 570) (by decide +kernel), List.mem_of_getElem? (i := 571) (by decide +kernel)⟩
theorem lw_p9 : lw_okq (⟨"LongTable$Reader", "someNumber", "(II)Z"⟩, 14) := ⟨⟨by decide +kernel, by decide +kernel⟩, List.mem_of_getElem? (i := 209) (by decide +kernel), List.mem_of_getElem? (i := 574) (by decide +kernel), List.mem_of_getElem? (i := 575) (by decide +kernel)⟩
theorem lw_p10 : lw_okq (⟨"LongTable$Reader", "stop", "()Z"⟩, 14) := ⟨⟨by decide +kernel, by decide +kernel⟩, List.mem_of_getElem? (i := 209) (by decide +kernel), List.mem_of_getElem? (i := 578) (by decide +kernel), List.mem_of_getElem? (i := 579) (by decide +kernel)⟩
theorem lw_p11 : lw_okq (⟨"LongTable$Reader", "truthsStand", "()Z"⟩, 14) := ⟨⟨by decide +kernel, by decide +kernel⟩, List.mem_of_getElem? (i := 209) (by decide +kernel), List.mem_of_getElem? (i := 582) (by decide +kernel), List.mem_of_getElem? (i := 583) (by decide +kernel)⟩
theorem lw_p12 : lw_okq (⟨"LongTable$Reader", "readVoter", "()Z"⟩, 14) := ⟨⟨by decide +kernel, by decide +kernel⟩, List.mem_of_getElem? (i := 209) (by decide +kernel), List.mem_of_getElem? (i := 586) (by decide +kernel), List.mem_of_getElem? (i := 587) (by decide +kernel)⟩
theorem lw_p13 : lw_okq (⟨"LongTable$Reader", "someKeyword", "(I)Z"⟩, 14) := ⟨⟨by decide +kernel, by decide +kernel⟩, List.mem_of_getElem? (i := 209) (by decide +kernel), List.mem_of_getElem? (i := 590) (by decide +kernel), List.mem_of_getElem? (i := 591) (by decide +kernel)⟩
theorem lw_p14 : lw_okq (⟨"LongTable$Reader", "readLoss", "()Z"⟩, 14) := ⟨⟨by decide +kernel, by decide +kernel⟩, List.mem_of_getElem? (i := 209) (by decide +kernel), List.mem_of_getElem? (i := 598) (by decide +kernel), List.mem_of_getElem? (i := 599) (by decide +kernel)⟩
theorem lw_p15 : lw_okq (⟨"LongTable$Reader", "readWay", "()Z"⟩, 14) := ⟨⟨by decide +kernel, by decide +kernel⟩, List.mem_of_getElem? (i := 209) (by decide +kernel), List.mem_of_getElem? (i := 602) (by decide +kernel), List.mem_of_getElem? (i := 603) (by decide +kernel)⟩
def lw_privs_1 : List (MethodName × Nat) := [(⟨"LongTable$Tape", "add", "(I)V"⟩, 2), (⟨"LongTable", "spareMatter", "()LLongTable$Matter;"⟩, 12), (⟨"LongTable$Reader", "next", "()V"⟩, 14), (⟨"LongTable$Reader", "nextRun", "()V"⟩, 14), (⟨"LongTable$Reader", "readLine", "()Z"⟩, 14), (⟨"LongTable$Reader", "fail", "(I)Z"⟩, 14), (⟨"LongTable$Reader", "readTruth", "()Z"⟩, 14), (⟨"LongTable$Reader", "someName", "(I)Z"⟩, 14), (⟨"LongTable$Reader", "isName", "(I)Z"⟩, 14), (⟨"LongTable$Reader", "someNumber", "(II)Z"⟩, 14), (⟨"LongTable$Reader", "stop", "()Z"⟩, 14), (⟨"LongTable$Reader", "truthsStand", "()Z"⟩, 14), (⟨"LongTable$Reader", "readVoter", "()Z"⟩, 14), (⟨"LongTable$Reader", "someKeyword", "(I)Z"⟩, 14), (⟨"LongTable$Reader", "readLoss", "()Z"⟩, 14), (⟨"LongTable$Reader", "readWay", "()Z"⟩, 14)]
theorem lw_r1 : ∀ q ∈ lw_privs_1, lw_okq q := List.forall_mem_cons.mpr ⟨lw_p0, List.forall_mem_cons.mpr ⟨lw_p1, List.forall_mem_cons.mpr ⟨lw_p2, List.forall_mem_cons.mpr ⟨lw_p3, List.forall_mem_cons.mpr ⟨lw_p4, List.forall_mem_cons.mpr ⟨lw_p5, List.forall_mem_cons.mpr ⟨lw_p6, List.forall_mem_cons.mpr ⟨lw_p7, List.forall_mem_cons.mpr ⟨lw_p8, List.forall_mem_cons.mpr ⟨lw_p9, List.forall_mem_cons.mpr ⟨lw_p10, List.forall_mem_cons.mpr ⟨lw_p11, List.forall_mem_cons.mpr ⟨lw_p12, List.forall_mem_cons.mpr ⟨lw_p13, List.forall_mem_cons.mpr ⟨lw_p14, List.forall_mem_cons.mpr ⟨lw_p15, fun _ h => absurd h List.not_mem_nil⟩⟩⟩⟩⟩⟩⟩⟩⟩⟩⟩⟩⟩⟩⟩⟩
theorem lw_p16 : lw_okq (⟨"LongTable$Reader", "readSet", "(LLongTable$Voter;)Z"⟩, 14) := ⟨⟨by decide +kernel, by decide +kernel⟩, List.mem_of_getElem? (i := 209) (by decide +kernel), List.mem_of_getElem? (i := 606) (by decide +kernel), List.mem_of_getElem? (i := 607) (by decide +kernel)⟩
theorem lw_p17 : lw_okq (⟨"LongTable$Reader", "readWeight", "()Z"⟩, 14) := ⟨⟨by decide +kernel, by decide +kernel⟩, List.mem_of_getElem? (i := 209) (by decide +kernel), List.mem_of_getElem? (i := 610) (by decide +kernel), List.mem_of_getElem? (i := 611) (by decide +kernel)⟩
theorem lw_p18 : lw_okq (⟨"LongTable$Reader", "readNeed", "()Z"⟩, 14) := ⟨⟨by decide +kernel, by decide +kernel⟩, List.mem_of_getElem? (i := 209) (by decide +kernel), List.mem_of_getElem? (i := 614) (by decide +kernel), List.mem_of_getElem? (i := 615) (by decide +kernel)⟩
theorem lw_p19 : lw_okq (⟨"LongTable$Reader", "readMost", "()Z"⟩, 14) := ⟨⟨by decide +kernel, by decide +kernel⟩, List.mem_of_getElem? (i := 209) (by decide +kernel), List.mem_of_getElem? (i := 618) (by decide +kernel), List.mem_of_getElem? (i := 619) (by decide +kernel)⟩
theorem lw_p20 : lw_okq (⟨"LongTable$Matter", "voteOf", "(LLongTable$Voter;I)I"⟩, 12) := ⟨⟨by decide +kernel, by decide +kernel⟩, List.mem_of_getElem? (i := 49) (by decide +kernel), List.mem_of_getElem? (i := 634) (by decide +kernel), List.mem_of_getElem? (i := 635) (by decide +kernel)⟩
theorem lw_p21 : lw_okq (⟨"LongTable$Matter", "shyVote", "(LLongTable$Voter;I)I"⟩, 12) := ⟨⟨by decide +kernel, by decide +kernel⟩, List.mem_of_getElem? (i := 49) (by decide +kernel), List.mem_of_getElem? (i := 642) (by decide +kernel), List.mem_of_getElem? (i := 643) (by decide +kernel)⟩
theorem lw_p22 : lw_okq (⟨"LongTable$Matter", "honestVote", "(LLongTable$Voter;I)I"⟩, 12) := ⟨⟨by decide +kernel, by decide +kernel⟩, List.mem_of_getElem? (i := 49) (by decide +kernel), List.mem_of_getElem? (i := 646) (by decide +kernel), List.mem_of_getElem? (i := 647) (by decide +kernel)⟩
theorem lw_p23 : lw_okq (⟨"LongTable$Matter", "clearTally", "()V"⟩, 12) := ⟨⟨by decide +kernel, by decide +kernel⟩, List.mem_of_getElem? (i := 49) (by decide +kernel), List.mem_of_getElem? (i := 710) (by decide +kernel), List.mem_of_getElem? (i := 711) (by decide +kernel)⟩
theorem lw_p24 : lw_okq (⟨"LongTable$Rows", "addChoice", "(III)V"⟩, 9) := ⟨⟨by decide +kernel, by decide +kernel⟩, List.mem_of_getElem? (i := 259) (by decide +kernel), List.mem_of_getElem? (i := 730) (by decide +kernel), List.mem_of_getElem? (i := 731) (by decide +kernel)⟩
theorem lw_p25 : lw_okq (⟨"LongTable$Rows", "openChoice", "(III)V"⟩, 9) := ⟨⟨by decide +kernel, by decide +kernel⟩, List.mem_of_getElem? (i := 259) (by decide +kernel), List.mem_of_getElem? (i := 734) (by decide +kernel), List.mem_of_getElem? (i := 735) (by decide +kernel)⟩
theorem lw_p26 : lw_okq (⟨"LongTable$Rows", "fillFrom", "(I)V"⟩, 9) := ⟨⟨by decide +kernel, by decide +kernel⟩, List.mem_of_getElem? (i := 259) (by decide +kernel), List.mem_of_getElem? (i := 749) (by decide +kernel), List.mem_of_getElem? (i := 750) (by decide +kernel)⟩
theorem lw_p27 : lw_okq (⟨"LongTable$Rows", "decidesNow", "()I"⟩, 9) := ⟨⟨by decide +kernel, by decide +kernel⟩, List.mem_of_getElem? (i := 259) (by decide +kernel), List.mem_of_getElem? (i := 753) (by decide +kernel), List.mem_of_getElem? (i := 754) (by decide +kernel)⟩
theorem lw_p28 : lw_okq (⟨"LongTable$Rows", "takeTally", "()V"⟩, 9) := ⟨⟨by decide +kernel, by decide +kernel⟩, List.mem_of_getElem? (i := 259) (by decide +kernel), List.mem_of_getElem? (i := 757) (by decide +kernel), List.mem_of_getElem? (i := 758) (by decide +kernel)⟩
theorem lw_p29 : lw_okq (⟨"LongTable$Rows", "addRow", "([JI)V"⟩, 9) := ⟨⟨by decide +kernel, by decide +kernel⟩, List.mem_of_getElem? (i := 259) (by decide +kernel), List.mem_of_getElem? (i := 762) (by decide +kernel), List.mem_of_getElem? (i := 763) (by decide +kernel)⟩
theorem lw_p30 : lw_okq (⟨"LongTable", "lostWithout", "(II)J"⟩, 12) := ⟨⟨by decide +kernel, by decide +kernel⟩, List.mem_of_getElem? (i := 20) (by decide +kernel), List.mem_of_getElem? (i := 781) (by decide +kernel), List.mem_of_getElem? (i := 782) (by decide +kernel)⟩
theorem lw_p31 : lw_okq (⟨"LongTable$Replies", "addLosing", "(II)V"⟩, 14) := ⟨⟨by decide +kernel, by decide +kernel⟩, List.mem_of_getElem? (i := 293) (by decide +kernel), List.mem_of_getElem? (i := 820) (by decide +kernel), List.mem_of_getElem? (i := 821) (by decide +kernel)⟩
def lw_privs_2 : List (MethodName × Nat) := [(⟨"LongTable$Reader", "readSet", "(LLongTable$Voter;)Z"⟩, 14), (⟨"LongTable$Reader", "readWeight", "()Z"⟩, 14), (⟨"LongTable$Reader", "readNeed", "()Z"⟩, 14), (⟨"LongTable$Reader", "readMost", "()Z"⟩, 14), (⟨"LongTable$Matter", "voteOf", "(LLongTable$Voter;I)I"⟩, 12), (⟨"LongTable$Matter", "shyVote", "(LLongTable$Voter;I)I"⟩, 12), (⟨"LongTable$Matter", "honestVote", "(LLongTable$Voter;I)I"⟩, 12), (⟨"LongTable$Matter", "clearTally", "()V"⟩, 12), (⟨"LongTable$Rows", "addChoice", "(III)V"⟩, 9), (⟨"LongTable$Rows", "openChoice", "(III)V"⟩, 9), (⟨"LongTable$Rows", "fillFrom", "(I)V"⟩, 9), (⟨"LongTable$Rows", "decidesNow", "()I"⟩, 9), (⟨"LongTable$Rows", "takeTally", "()V"⟩, 9), (⟨"LongTable$Rows", "addRow", "([JI)V"⟩, 9), (⟨"LongTable", "lostWithout", "(II)J"⟩, 12), (⟨"LongTable$Replies", "addLosing", "(II)V"⟩, 14)]
theorem lw_r2 : ∀ q ∈ lw_privs_2, lw_okq q := List.forall_mem_cons.mpr ⟨lw_p16, List.forall_mem_cons.mpr ⟨lw_p17, List.forall_mem_cons.mpr ⟨lw_p18, List.forall_mem_cons.mpr ⟨lw_p19, List.forall_mem_cons.mpr ⟨lw_p20, List.forall_mem_cons.mpr ⟨lw_p21, List.forall_mem_cons.mpr ⟨lw_p22, List.forall_mem_cons.mpr ⟨lw_p23, List.forall_mem_cons.mpr ⟨lw_p24, List.forall_mem_cons.mpr ⟨lw_p25, List.forall_mem_cons.mpr ⟨lw_p26, List.forall_mem_cons.mpr ⟨lw_p27, List.forall_mem_cons.mpr ⟨lw_p28, List.forall_mem_cons.mpr ⟨lw_p29, List.forall_mem_cons.mpr ⟨lw_p30, List.forall_mem_cons.mpr ⟨lw_p31, fun _ h => absurd h List.not_mem_nil⟩⟩⟩⟩⟩⟩⟩⟩⟩⟩⟩⟩⟩⟩⟩⟩
theorem lw_p32 : lw_okq (⟨"LongTable$Replies", "voteAt", "(I)I"⟩, 14) := ⟨⟨by decide +kernel, by decide +kernel⟩, List.mem_of_getElem? (i := 293) (by decide +kernel), List.mem_of_getElem? (i := 824) (by decide +kernel), List.mem_of_getElem? (i := 825) (by decide +kernel)⟩
theorem lw_p33 : lw_okq (⟨"LongTable$Replies", "lostBy", "(III)J"⟩, 14) := ⟨⟨by decide +kernel, by decide +kernel⟩, List.mem_of_getElem? (i := 293) (by decide +kernel), List.mem_of_getElem? (i := 843) (by decide +kernel), List.mem_of_getElem? (i := 844) (by decide +kernel)⟩
theorem lw_p34 : lw_okq (⟨"LongTable$Replies", "changesInRound", "(LLongTable$Matter;)Z"⟩, 14) := ⟨⟨by decide +kernel, by decide +kernel⟩, List.mem_of_getElem? (i := 293) (by decide +kernel), List.mem_of_getElem? (i := 865) (by decide +kernel), List.mem_of_getElem? (i := 866) (by decide +kernel)⟩
theorem lw_p35 : lw_okq (⟨"LongTable$Replies", "keepVotes", "(LLongTable$Matter;[I)V"⟩, 14) := ⟨⟨by decide +kernel, by decide +kernel⟩, List.mem_of_getElem? (i := 293) (by decide +kernel), List.mem_of_getElem? (i := 869) (by decide +kernel), List.mem_of_getElem? (i := 870) (by decide +kernel)⟩
theorem lw_p36 : lw_okq (⟨"LongTable$Replies", "countTrial", "(LLongTable$Matter;)V"⟩, 14) := ⟨⟨by decide +kernel, by decide +kernel⟩, List.mem_of_getElem? (i := 293) (by decide +kernel), List.mem_of_getElem? (i := 874) (by decide +kernel), List.mem_of_getElem? (i := 875) (by decide +kernel)⟩
theorem lw_p37 : lw_okq (⟨"LongTable$Turns", "speakInOrder", "()V"⟩, 8) := ⟨⟨by decide +kernel, by decide +kernel⟩, List.mem_of_getElem? (i := 348) (by decide +kernel), List.mem_of_getElem? (i := 905) (by decide +kernel), List.mem_of_getElem? (i := 906) (by decide +kernel)⟩
theorem lw_p38 : lw_okq (⟨"LongTable$Turns", "openTalk", "()V"⟩, 8) := ⟨⟨by decide +kernel, by decide +kernel⟩, List.mem_of_getElem? (i := 348) (by decide +kernel), List.mem_of_getElem? (i := 910) (by decide +kernel), List.mem_of_getElem? (i := 911) (by decide +kernel)⟩
theorem lw_p39 : lw_okq (⟨"LongTable$Turns", "speak", "(III)V"⟩, 8) := ⟨⟨by decide +kernel, by decide +kernel⟩, List.mem_of_getElem? (i := 348) (by decide +kernel), List.mem_of_getElem? (i := 914) (by decide +kernel), List.mem_of_getElem? (i := 915) (by decide +kernel)⟩
theorem lw_p40 : lw_okq (⟨"LongTable$Turns", "endTalk", "(II)V"⟩, 8) := ⟨⟨by decide +kernel, by decide +kernel⟩, List.mem_of_getElem? (i := 348) (by decide +kernel), List.mem_of_getElem? (i := 918) (by decide +kernel), List.mem_of_getElem? (i := 919) (by decide +kernel)⟩
theorem lw_p41 : lw_okq (⟨"LongTable$Turns", "ponder", "(I)V"⟩, 8) := ⟨⟨by decide +kernel, by decide +kernel⟩, List.mem_of_getElem? (i := 348) (by decide +kernel), List.mem_of_getElem? (i := 922) (by decide +kernel), List.mem_of_getElem? (i := 923) (by decide +kernel)⟩
theorem lw_p42 : lw_okq (⟨"LongTable$Turns", "cliffAt", "(II)I"⟩, 8) := ⟨⟨by decide +kernel, by decide +kernel⟩, List.mem_of_getElem? (i := 348) (by decide +kernel), List.mem_of_getElem? (i := 927) (by decide +kernel), List.mem_of_getElem? (i := 928) (by decide +kernel)⟩
theorem lw_p43 : lw_okq (⟨"LongTable$Turns", "follows", "(I)Z"⟩, 8) := ⟨⟨by decide +kernel, by decide +kernel⟩, List.mem_of_getElem? (i := 348) (by decide +kernel), List.mem_of_getElem? (i := 931) (by decide +kernel), List.mem_of_getElem? (i := 932) (by decide +kernel)⟩
theorem lw_p44 : lw_okq (⟨"LongTable$Turns", "hasCase", "(ILLongTable$Voter;I)Z"⟩, 8) := ⟨⟨by decide +kernel, by decide +kernel⟩, List.mem_of_getElem? (i := 348) (by decide +kernel), List.mem_of_getElem? (i := 935) (by decide +kernel), List.mem_of_getElem? (i := 936) (by decide +kernel)⟩
theorem lw_p45 : lw_okq (⟨"LongTable$Turns", "hear", "(II)Z"⟩, 8) := ⟨⟨by decide +kernel, by decide +kernel⟩, List.mem_of_getElem? (i := 348) (by decide +kernel), List.mem_of_getElem? (i := 939) (by decide +kernel), List.mem_of_getElem? (i := 940) (by decide +kernel)⟩
theorem lw_p46 : lw_okq (⟨"LongTable$Turns", "sayWith", "(I[I)I"⟩, 8) := ⟨⟨by decide +kernel, by decide +kernel⟩, List.mem_of_getElem? (i := 348) (by decide +kernel), List.mem_of_getElem? (i := 965) (by decide +kernel), List.mem_of_getElem? (i := 966) (by decide +kernel)⟩
theorem lw_p47 : lw_okq (⟨"LongTable$Turns", "orderByTen", "()I"⟩, 8) := ⟨⟨by decide +kernel, by decide +kernel⟩, List.mem_of_getElem? (i := 348) (by decide +kernel), List.mem_of_getElem? (i := 987) (by decide +kernel), List.mem_of_getElem? (i := 988) (by decide +kernel)⟩
def lw_privs_3 : List (MethodName × Nat) := [(⟨"LongTable$Replies", "voteAt", "(I)I"⟩, 14), (⟨"LongTable$Replies", "lostBy", "(III)J"⟩, 14), (⟨"LongTable$Replies", "changesInRound", "(LLongTable$Matter;)Z"⟩, 14), (⟨"LongTable$Replies", "keepVotes", "(LLongTable$Matter;[I)V"⟩, 14), (⟨"LongTable$Replies", "countTrial", "(LLongTable$Matter;)V"⟩, 14), (⟨"LongTable$Turns", "speakInOrder", "()V"⟩, 8), (⟨"LongTable$Turns", "openTalk", "()V"⟩, 8), (⟨"LongTable$Turns", "speak", "(III)V"⟩, 8), (⟨"LongTable$Turns", "endTalk", "(II)V"⟩, 8), (⟨"LongTable$Turns", "ponder", "(I)V"⟩, 8), (⟨"LongTable$Turns", "cliffAt", "(II)I"⟩, 8), (⟨"LongTable$Turns", "follows", "(I)Z"⟩, 8), (⟨"LongTable$Turns", "hasCase", "(ILLongTable$Voter;I)Z"⟩, 8), (⟨"LongTable$Turns", "hear", "(II)Z"⟩, 8), (⟨"LongTable$Turns", "sayWith", "(I[I)I"⟩, 8), (⟨"LongTable$Turns", "orderByTen", "()I"⟩, 8)]
theorem lw_r3 : ∀ q ∈ lw_privs_3, lw_okq q := List.forall_mem_cons.mpr ⟨lw_p32, List.forall_mem_cons.mpr ⟨lw_p33, List.forall_mem_cons.mpr ⟨lw_p34, List.forall_mem_cons.mpr ⟨lw_p35, List.forall_mem_cons.mpr ⟨lw_p36, List.forall_mem_cons.mpr ⟨lw_p37, List.forall_mem_cons.mpr ⟨lw_p38, List.forall_mem_cons.mpr ⟨lw_p39, List.forall_mem_cons.mpr ⟨lw_p40, List.forall_mem_cons.mpr ⟨lw_p41, List.forall_mem_cons.mpr ⟨lw_p42, List.forall_mem_cons.mpr ⟨lw_p43, List.forall_mem_cons.mpr ⟨lw_p44, List.forall_mem_cons.mpr ⟨lw_p45, List.forall_mem_cons.mpr ⟨lw_p46, List.forall_mem_cons.mpr ⟨lw_p47, fun _ h => absurd h List.not_mem_nil⟩⟩⟩⟩⟩⟩⟩⟩⟩⟩⟩⟩⟩⟩⟩⟩
theorem lw_p48 : lw_okq (⟨"LongTable$Turns", "nextOrder", "()Z"⟩, 8) := ⟨⟨by decide +kernel, by decide +kernel⟩, List.mem_of_getElem? (i := 348) (by decide +kernel), List.mem_of_getElem? (i := 991) (by decide +kernel), List.mem_of_getElem? (i := 992) (by decide +kernel)⟩
theorem lw_p49 : lw_okq (⟨"LongTable$Turns", "swap", "(II)V"⟩, 8) := ⟨⟨by decide +kernel, by decide +kernel⟩, List.mem_of_getElem? (i := 348) (by decide +kernel), List.mem_of_getElem? (i := 995) (by decide +kernel), List.mem_of_getElem? (i := 996) (by decide +kernel)⟩
theorem lw_p50 : lw_okq (⟨"LongTable$Rules", "sortByWeights", "(LLongTable$Matter;II)V"⟩, 10) := ⟨⟨by decide +kernel, by decide +kernel⟩, List.mem_of_getElem? (i := 383) (by decide +kernel), List.mem_of_getElem? (i := 1008) (by decide +kernel), List.mem_of_getElem? (i := 1009) (by decide +kernel)⟩
theorem lw_p51 : lw_okq (⟨"LongTable$Words", "hearWord", "(I)V"⟩, 6) := ⟨⟨by decide +kernel, by decide +kernel⟩, List.mem_of_getElem? (i := 423) (by decide +kernel), List.mem_of_getElem? (i := 1054) (by decide +kernel), List.mem_of_getElem? (i := 1055) (by decide +kernel)⟩
theorem lw_p52 : lw_okq (⟨"LongTable$Words", "likelyWord", "(II)I"⟩, 6) := ⟨⟨by decide +kernel, by decide +kernel⟩, List.mem_of_getElem? (i := 423) (by decide +kernel), List.mem_of_getElem? (i := 1058) (by decide +kernel), List.mem_of_getElem? (i := 1059) (by decide +kernel)⟩
theorem lw_p53 : lw_okq (⟨"LongTable$Words", "liesWith", "(II)Z"⟩, 6) := ⟨⟨by decide +kernel, by decide +kernel⟩, List.mem_of_getElem? (i := 423) (by decide +kernel), List.mem_of_getElem? (i := 1063) (by decide +kernel), List.mem_of_getElem? (i := 1064) (by decide +kernel)⟩
theorem lw_p54 : lw_okq (⟨"LongTable$Words", "lostBy", "(II)J"⟩, 6) := ⟨⟨by decide +kernel, by decide +kernel⟩, List.mem_of_getElem? (i := 423) (by decide +kernel), List.mem_of_getElem? (i := 1067) (by decide +kernel), List.mem_of_getElem? (i := 1068) (by decide +kernel)⟩
theorem lw_p55 : lw_okq (⟨"LongTable$Replies", "layPlaces", "()I"⟩, 14) := ⟨⟨by decide +kernel, by decide +kernel⟩, List.mem_of_getElem? (i := 293) (by decide +kernel), List.mem_of_getElem? (i := 1084) (by decide +kernel), List.mem_of_getElem? (i := 1085) (by decide +kernel)⟩
theorem lw_p56 : lw_okq (⟨"LongTable$Replies", "noteReplies", "(I)V"⟩, 14) := ⟨⟨by decide +kernel, by decide +kernel⟩, List.mem_of_getElem? (i := 293) (by decide +kernel), List.mem_of_getElem? (i := 1089) (by decide +kernel), List.mem_of_getElem? (i := 1090) (by decide +kernel)⟩
theorem lw_p57 : lw_okq (⟨"LongTable$Replies", "areNoted", "(I)Z"⟩, 14) := ⟨⟨by decide +kernel, by decide +kernel⟩, List.mem_of_getElem? (i := 293) (by decide +kernel), List.mem_of_getElem? (i := 1093) (by decide +kernel), List.mem_of_getElem? (i := 1094) (by decide +kernel)⟩
theorem lw_p58 : lw_okq (⟨"LongTable$Replies", "nextTable", "()Z"⟩, 14) := ⟨⟨by decide +kernel, by decide +kernel⟩, List.mem_of_getElem? (i := 293) (by decide +kernel), List.mem_of_getElem? (i := 1098) (by decide +kernel), List.mem_of_getElem? (i := 1099) (by decide +kernel)⟩
theorem lw_p59 : lw_okq (⟨"LongTable$Rules", "sortByVoters", "(LLongTable$Matter;)V"⟩, 10) := ⟨⟨by decide +kernel, by decide +kernel⟩, List.mem_of_getElem? (i := 383) (by decide +kernel), List.mem_of_getElem? (i := 1114) (by decide +kernel), List.mem_of_getElem? (i := 1115) (by decide +kernel)⟩
theorem lw_p60 : lw_okq (⟨"LongTable$Rules", "takeWeights", "(II)V"⟩, 10) := ⟨⟨by decide +kernel, by decide +kernel⟩, List.mem_of_getElem? (i := 383) (by decide +kernel), List.mem_of_getElem? (i := 1123) (by decide +kernel), List.mem_of_getElem? (i := 1124) (by decide +kernel)⟩
theorem lw_p61 : lw_okq (⟨"LongTable$Rules", "addWeights", "(LLongTable$Matter;)V"⟩, 10) := ⟨⟨by decide +kernel, by decide +kernel⟩, List.mem_of_getElem? (i := 383) (by decide +kernel), List.mem_of_getElem? (i := 1127) (by decide +kernel), List.mem_of_getElem? (i := 1128) (by decide +kernel)⟩
theorem lw_p62 : lw_okq (⟨"LongTable$Rules", "tryNeeds", "(LLongTable$Matter;)V"⟩, 10) := ⟨⟨by decide +kernel, by decide +kernel⟩, List.mem_of_getElem? (i := 383) (by decide +kernel), List.mem_of_getElem? (i := 1131) (by decide +kernel), List.mem_of_getElem? (i := 1132) (by decide +kernel)⟩
theorem lw_p63 : lw_okq (⟨"LongTable$Rules", "lostByNeed", "(III)J"⟩, 10) := ⟨⟨by decide +kernel, by decide +kernel⟩, List.mem_of_getElem? (i := 383) (by decide +kernel), List.mem_of_getElem? (i := 1135) (by decide +kernel), List.mem_of_getElem? (i := 1136) (by decide +kernel)⟩
def lw_privs_4 : List (MethodName × Nat) := [(⟨"LongTable$Turns", "nextOrder", "()Z"⟩, 8), (⟨"LongTable$Turns", "swap", "(II)V"⟩, 8), (⟨"LongTable$Rules", "sortByWeights", "(LLongTable$Matter;II)V"⟩, 10), (⟨"LongTable$Words", "hearWord", "(I)V"⟩, 6), (⟨"LongTable$Words", "likelyWord", "(II)I"⟩, 6), (⟨"LongTable$Words", "liesWith", "(II)Z"⟩, 6), (⟨"LongTable$Words", "lostBy", "(II)J"⟩, 6), (⟨"LongTable$Replies", "layPlaces", "()I"⟩, 14), (⟨"LongTable$Replies", "noteReplies", "(I)V"⟩, 14), (⟨"LongTable$Replies", "areNoted", "(I)Z"⟩, 14), (⟨"LongTable$Replies", "nextTable", "()Z"⟩, 14), (⟨"LongTable$Rules", "sortByVoters", "(LLongTable$Matter;)V"⟩, 10), (⟨"LongTable$Rules", "takeWeights", "(II)V"⟩, 10), (⟨"LongTable$Rules", "addWeights", "(LLongTable$Matter;)V"⟩, 10), (⟨"LongTable$Rules", "tryNeeds", "(LLongTable$Matter;)V"⟩, 10), (⟨"LongTable$Rules", "lostByNeed", "(III)J"⟩, 10)]
theorem lw_r4 : ∀ q ∈ lw_privs_4, lw_okq q := List.forall_mem_cons.mpr ⟨lw_p48, List.forall_mem_cons.mpr ⟨lw_p49, List.forall_mem_cons.mpr ⟨lw_p50, List.forall_mem_cons.mpr ⟨lw_p51, List.forall_mem_cons.mpr ⟨lw_p52, List.forall_mem_cons.mpr ⟨lw_p53, List.forall_mem_cons.mpr ⟨lw_p54, List.forall_mem_cons.mpr ⟨lw_p55, List.forall_mem_cons.mpr ⟨lw_p56, List.forall_mem_cons.mpr ⟨lw_p57, List.forall_mem_cons.mpr ⟨lw_p58, List.forall_mem_cons.mpr ⟨lw_p59, List.forall_mem_cons.mpr ⟨lw_p60, List.forall_mem_cons.mpr ⟨lw_p61, List.forall_mem_cons.mpr ⟨lw_p62, List.forall_mem_cons.mpr ⟨lw_p63, fun _ h => absurd h List.not_mem_nil⟩⟩⟩⟩⟩⟩⟩⟩⟩⟩⟩⟩⟩⟩⟩⟩
theorem lw_p64 : lw_okq (⟨"LongTable$Rules", "keepNeed", "(IIII)V"⟩, 10) := ⟨⟨by decide +kernel, by decide +kernel⟩, List.mem_of_getElem? (i := 383) (by decide +kernel), List.mem_of_getElem? (i := 1139) (by decide +kernel), List.mem_of_getElem? (i := 1140) (by decide +kernel)⟩
theorem lw_p65 : lw_okq (⟨"LongTable$Run", "draw", "([III)I"⟩, 2) := ⟨⟨by decide +kernel, by decide +kernel⟩, List.mem_of_getElem? (i := 448) (by decide +kernel), List.mem_of_getElem? (i := 1172) (by decide +kernel), List.mem_of_getElem? (i := 1173) (by decide +kernel)⟩
theorem lw_p66 : lw_okq (⟨"java/lang/Throwable", "fillInStackTrace", "(I)Ljava/lang/Throwable;"⟩, 6) := ⟨⟨by decide +kernel, by decide +kernel⟩, List.mem_of_getElem? (i := 1222) (by decide +kernel), List.mem_of_getElem? (i := 1220) (by decide +kernel), List.mem_of_getElem? (i := 1221) (by decide +kernel)⟩
theorem lw_p67 : lw_okq (⟨"LongTable$Replies", "turnsNow", "(I)Z"⟩, 14) := ⟨⟨by decide +kernel, by decide +kernel⟩, List.mem_of_getElem? (i := 293) (by decide +kernel), List.mem_of_getElem? (i := 1286) (by decide +kernel), List.mem_of_getElem? (i := 1287) (by decide +kernel)⟩
theorem lw_p68 : lw_okq (⟨"LongTableModel", "come", "(I)V"⟩, 70) := ⟨⟨by decide +kernel, by decide +kernel⟩, List.mem_of_getElem? (i := 1329) (by decide +kernel), List.mem_of_getElem? (i := 1558) (by decide +kernel), List.mem_of_getElem? (i := 1559) (by decide +kernel)⟩
theorem lw_p69 : lw_okq (⟨"LongTableModel", "take", "()I"⟩, 70) := ⟨⟨by decide +kernel, by decide +kernel⟩, List.mem_of_getElem? (i := 1329) (by decide +kernel), List.mem_of_getElem? (i := 1570) (by decide +kernel), List.mem_of_getElem? (i := 1571) (by decide +kernel)⟩
theorem lw_p70 : lw_okq (⟨"LongTableModel", "go", "()V"⟩, 70) := ⟨⟨by decide +kernel, by decide +kernel⟩, List.mem_of_getElem? (i := 1329) (by decide +kernel), List.mem_of_getElem? (i := 1574) (by decide +kernel), List.mem_of_getElem? (i := 1575) (by decide +kernel)⟩
theorem lw_p71 : lw_okq (⟨"LongTableModel", "byteAt", "(I)I"⟩, 70) := ⟨⟨by decide +kernel, by decide +kernel⟩, List.mem_of_getElem? (i := 1329) (by decide +kernel), List.mem_of_getElem? (i := 1584) (by decide +kernel), List.mem_of_getElem? (i := 1585) (by decide +kernel)⟩
theorem lw_p72 : lw_okq (⟨"LongTableModel", "readLine", "()Z"⟩, 70) := ⟨⟨by decide +kernel, by decide +kernel⟩, List.mem_of_getElem? (i := 1329) (by decide +kernel), List.mem_of_getElem? (i := 1590) (by decide +kernel), List.mem_of_getElem? (i := 1591) (by decide +kernel)⟩
theorem lw_p73 : lw_okq (⟨"LongTableModel", "lineAtHand", "()I"⟩, 70) := ⟨⟨by decide +kernel, by decide +kernel⟩, List.mem_of_getElem? (i := 1329) (by decide +kernel), List.mem_of_getElem? (i := 1594) (by decide +kernel), List.mem_of_getElem? (i := 1595) (by decide +kernel)⟩
theorem lw_p74 : lw_okq (⟨"LongTableModel", "isKey", "(J)Z"⟩, 70) := ⟨⟨by decide +kernel, by decide +kernel⟩, List.mem_of_getElem? (i := 1329) (by decide +kernel), List.mem_of_getElem? (i := 1601) (by decide +kernel), List.mem_of_getElem? (i := 1602) (by decide +kernel)⟩
theorem lw_p75 : lw_okq (⟨"LongTableModel", "bad", "(I)Z"⟩, 70) := ⟨⟨by decide +kernel, by decide +kernel⟩, List.mem_of_getElem? (i := 1329) (by decide +kernel), List.mem_of_getElem? (i := 1608) (by decide +kernel), List.mem_of_getElem? (i := 1609) (by decide +kernel)⟩
theorem lw_p76 : lw_okq (⟨"LongTableModel", "areTruths", "()Z"⟩, 70) := ⟨⟨by decide +kernel, by decide +kernel⟩, List.mem_of_getElem? (i := 1329) (by decide +kernel), List.mem_of_getElem? (i := 1612) (by decide +kernel), List.mem_of_getElem? (i := 1613) (by decide +kernel)⟩
theorem lw_p77 : lw_okq (⟨"LongTableModel", "readTruthLine", "()Z"⟩, 70) := ⟨⟨by decide +kernel, by decide +kernel⟩, List.mem_of_getElem? (i := 1329) (by decide +kernel), List.mem_of_getElem? (i := 1616) (by decide +kernel), List.mem_of_getElem? (i := 1617) (by decide +kernel)⟩
theorem lw_p78 : lw_okq (⟨"LongTableModel", "readNew", "()Z"⟩, 70) := ⟨⟨by decide +kernel, by decide +kernel⟩, List.mem_of_getElem? (i := 1329) (by decide +kernel), List.mem_of_getElem? (i := 1620) (by decide +kernel), List.mem_of_getElem? (i := 1621) (by decide +kernel)⟩
theorem lw_p79 : lw_okq (⟨"LongTableModel", "isName", "()Z"⟩, 70) := ⟨⟨by decide +kernel, by decide +kernel⟩, List.mem_of_getElem? (i := 1329) (by decide +kernel), List.mem_of_getElem? (i := 1624) (by decide +kernel), List.mem_of_getElem? (i := 1625) (by decide +kernel)⟩
def lw_privs_5 : List (MethodName × Nat) := [(⟨"LongTable$Rules", "keepNeed", "(IIII)V"⟩, 10), (⟨"LongTable$Run", "draw", "([III)I"⟩, 2), (⟨"java/lang/Throwable", "fillInStackTrace", "(I)Ljava/lang/Throwable;"⟩, 6), (⟨"LongTable$Replies", "turnsNow", "(I)Z"⟩, 14), (⟨"LongTableModel", "come", "(I)V"⟩, 70), (⟨"LongTableModel", "take", "()I"⟩, 70), (⟨"LongTableModel", "go", "()V"⟩, 70), (⟨"LongTableModel", "byteAt", "(I)I"⟩, 70), (⟨"LongTableModel", "readLine", "()Z"⟩, 70), (⟨"LongTableModel", "lineAtHand", "()I"⟩, 70), (⟨"LongTableModel", "isKey", "(J)Z"⟩, 70), (⟨"LongTableModel", "bad", "(I)Z"⟩, 70), (⟨"LongTableModel", "areTruths", "()Z"⟩, 70), (⟨"LongTableModel", "readTruthLine", "()Z"⟩, 70), (⟨"LongTableModel", "readNew", "()Z"⟩, 70), (⟨"LongTableModel", "isName", "()Z"⟩, 70)]
theorem lw_r5 : ∀ q ∈ lw_privs_5, lw_okq q := List.forall_mem_cons.mpr ⟨lw_p64, List.forall_mem_cons.mpr ⟨lw_p65, List.forall_mem_cons.mpr ⟨lw_p66, List.forall_mem_cons.mpr ⟨lw_p67, List.forall_mem_cons.mpr ⟨lw_p68, List.forall_mem_cons.mpr ⟨lw_p69, List.forall_mem_cons.mpr ⟨lw_p70, List.forall_mem_cons.mpr ⟨lw_p71, List.forall_mem_cons.mpr ⟨lw_p72, List.forall_mem_cons.mpr ⟨lw_p73, List.forall_mem_cons.mpr ⟨lw_p74, List.forall_mem_cons.mpr ⟨lw_p75, List.forall_mem_cons.mpr ⟨lw_p76, List.forall_mem_cons.mpr ⟨lw_p77, List.forall_mem_cons.mpr ⟨lw_p78, List.forall_mem_cons.mpr ⟨lw_p79, fun _ h => absurd h List.not_mem_nil⟩⟩⟩⟩⟩⟩⟩⟩⟩⟩⟩⟩⟩⟩⟩⟩
theorem lw_p80 : lw_okq (⟨"LongTableModel", "wayAtHand", "()I"⟩, 70) := ⟨⟨by decide +kernel, by decide +kernel⟩, List.mem_of_getElem? (i := 1329) (by decide +kernel), List.mem_of_getElem? (i := 1628) (by decide +kernel), List.mem_of_getElem? (i := 1629) (by decide +kernel)⟩
theorem lw_p81 : lw_okq (⟨"LongTableModel", "findTruth", "()I"⟩, 70) := ⟨⟨by decide +kernel, by decide +kernel⟩, List.mem_of_getElem? (i := 1329) (by decide +kernel), List.mem_of_getElem? (i := 1641) (by decide +kernel), List.mem_of_getElem? (i := 1642) (by decide +kernel)⟩
theorem lw_p82 : lw_okq (⟨"LongTableModel", "findVoter", "()I"⟩, 70) := ⟨⟨by decide +kernel, by decide +kernel⟩, List.mem_of_getElem? (i := 1329) (by decide +kernel), List.mem_of_getElem? (i := 1645) (by decide +kernel), List.mem_of_getElem? (i := 1646) (by decide +kernel)⟩
theorem lw_p83 : lw_okq (⟨"LongTableModel", "readNumber", "(II)Z"⟩, 70) := ⟨⟨by decide +kernel, by decide +kernel⟩, List.mem_of_getElem? (i := 1329) (by decide +kernel), List.mem_of_getElem? (i := 1649) (by decide +kernel), List.mem_of_getElem? (i := 1650) (by decide +kernel)⟩
theorem lw_p84 : lw_okq (⟨"LongTableModel", "readVoterLine", "()Z"⟩, 70) := ⟨⟨by decide +kernel, by decide +kernel⟩, List.mem_of_getElem? (i := 1329) (by decide +kernel), List.mem_of_getElem? (i := 1656) (by decide +kernel), List.mem_of_getElem? (i := 1657) (by decide +kernel)⟩
theorem lw_p85 : lw_okq (⟨"LongTableModel", "readKey", "(J)Z"⟩, 70) := ⟨⟨by decide +kernel, by decide +kernel⟩, List.mem_of_getElem? (i := 1329) (by decide +kernel), List.mem_of_getElem? (i := 1660) (by decide +kernel), List.mem_of_getElem? (i := 1661) (by decide +kernel)⟩
theorem lw_p86 : lw_okq (⟨"LongTableModel", "readLoss", "()Z"⟩, 70) := ⟨⟨by decide +kernel, by decide +kernel⟩, List.mem_of_getElem? (i := 1329) (by decide +kernel), List.mem_of_getElem? (i := 1664) (by decide +kernel), List.mem_of_getElem? (i := 1665) (by decide +kernel)⟩
theorem lw_p87 : lw_okq (⟨"LongTableModel", "readTruth", "()Z"⟩, 70) := ⟨⟨by decide +kernel, by decide +kernel⟩, List.mem_of_getElem? (i := 1329) (by decide +kernel), List.mem_of_getElem? (i := 1668) (by decide +kernel), List.mem_of_getElem? (i := 1669) (by decide +kernel)⟩
theorem lw_p88 : lw_okq (⟨"LongTableModel", "readWay", "()Z"⟩, 70) := ⟨⟨by decide +kernel, by decide +kernel⟩, List.mem_of_getElem? (i := 1329) (by decide +kernel), List.mem_of_getElem? (i := 1672) (by decide +kernel), List.mem_of_getElem? (i := 1673) (by decide +kernel)⟩
theorem lw_p89 : lw_okq (⟨"LongTableModel", "readVoter", "()Z"⟩, 70) := ⟨⟨by decide +kernel, by decide +kernel⟩, List.mem_of_getElem? (i := 1329) (by decide +kernel), List.mem_of_getElem? (i := 1676) (by decide +kernel), List.mem_of_getElem? (i := 1677) (by decide +kernel)⟩
theorem lw_p90 : lw_okq (⟨"LongTableModel", "readRule", "()Z"⟩, 70) := ⟨⟨by decide +kernel, by decide +kernel⟩, List.mem_of_getElem? (i := 1329) (by decide +kernel), List.mem_of_getElem? (i := 1680) (by decide +kernel), List.mem_of_getElem? (i := 1681) (by decide +kernel)⟩
theorem lw_p91 : lw_okq (⟨"LongTableModel", "keep", "()V"⟩, 70) := ⟨⟨by decide +kernel, by decide +kernel⟩, List.mem_of_getElem? (i := 1329) (by decide +kernel), List.mem_of_getElem? (i := 1684) (by decide +kernel), List.mem_of_getElem? (i := 1685) (by decide +kernel)⟩
theorem lw_p92 : lw_okq (⟨"LongTableModel", "layRows", "()V"⟩, 70) := ⟨⟨by decide +kernel, by decide +kernel⟩, List.mem_of_getElem? (i := 1329) (by decide +kernel), List.mem_of_getElem? (i := 1688) (by decide +kernel), List.mem_of_getElem? (i := 1689) (by decide +kernel)⟩
theorem lw_p93 : lw_okq (⟨"LongTableModel", "sign", "(II)I"⟩, 70) := ⟨⟨by decide +kernel, by decide +kernel⟩, List.mem_of_getElem? (i := 1329) (by decide +kernel), List.mem_of_getElem? (i := 1692) (by decide +kernel), List.mem_of_getElem? (i := 1693) (by decide +kernel)⟩
theorem lw_p94 : lw_okq (⟨"LongTableModel", "layVotes", "()V"⟩, 70) := ⟨⟨by decide +kernel, by decide +kernel⟩, List.mem_of_getElem? (i := 1329) (by decide +kernel), List.mem_of_getElem? (i := 1696) (by decide +kernel), List.mem_of_getElem? (i := 1697) (by decide +kernel)⟩
theorem lw_p95 : lw_okq (⟨"LongTableModel", "told", "(II)I"⟩, 70) := ⟨⟨by decide +kernel, by decide +kernel⟩, List.mem_of_getElem? (i := 1329) (by decide +kernel), List.mem_of_getElem? (i := 1700) (by decide +kernel), List.mem_of_getElem? (i := 1701) (by decide +kernel)⟩
def lw_privs_6 : List (MethodName × Nat) := [(⟨"LongTableModel", "wayAtHand", "()I"⟩, 70), (⟨"LongTableModel", "findTruth", "()I"⟩, 70), (⟨"LongTableModel", "findVoter", "()I"⟩, 70), (⟨"LongTableModel", "readNumber", "(II)Z"⟩, 70), (⟨"LongTableModel", "readVoterLine", "()Z"⟩, 70), (⟨"LongTableModel", "readKey", "(J)Z"⟩, 70), (⟨"LongTableModel", "readLoss", "()Z"⟩, 70), (⟨"LongTableModel", "readTruth", "()Z"⟩, 70), (⟨"LongTableModel", "readWay", "()Z"⟩, 70), (⟨"LongTableModel", "readVoter", "()Z"⟩, 70), (⟨"LongTableModel", "readRule", "()Z"⟩, 70), (⟨"LongTableModel", "keep", "()V"⟩, 70), (⟨"LongTableModel", "layRows", "()V"⟩, 70), (⟨"LongTableModel", "sign", "(II)I"⟩, 70), (⟨"LongTableModel", "layVotes", "()V"⟩, 70), (⟨"LongTableModel", "told", "(II)I"⟩, 70)]
theorem lw_r6 : ∀ q ∈ lw_privs_6, lw_okq q := List.forall_mem_cons.mpr ⟨lw_p80, List.forall_mem_cons.mpr ⟨lw_p81, List.forall_mem_cons.mpr ⟨lw_p82, List.forall_mem_cons.mpr ⟨lw_p83, List.forall_mem_cons.mpr ⟨lw_p84, List.forall_mem_cons.mpr ⟨lw_p85, List.forall_mem_cons.mpr ⟨lw_p86, List.forall_mem_cons.mpr ⟨lw_p87, List.forall_mem_cons.mpr ⟨lw_p88, List.forall_mem_cons.mpr ⟨lw_p89, List.forall_mem_cons.mpr ⟨lw_p90, List.forall_mem_cons.mpr ⟨lw_p91, List.forall_mem_cons.mpr ⟨lw_p92, List.forall_mem_cons.mpr ⟨lw_p93, List.forall_mem_cons.mpr ⟨lw_p94, List.forall_mem_cons.mpr ⟨lw_p95, fun _ h => absurd h List.not_mem_nil⟩⟩⟩⟩⟩⟩⟩⟩⟩⟩⟩⟩⟩⟩⟩⟩
theorem lw_p96 : lw_okq (⟨"LongTableModel", "honest", "(II)I"⟩, 70) := ⟨⟨by decide +kernel, by decide +kernel⟩, List.mem_of_getElem? (i := 1329) (by decide +kernel), List.mem_of_getElem? (i := 1704) (by decide +kernel), List.mem_of_getElem? (i := 1705) (by decide +kernel)⟩
theorem lw_p97 : lw_okq (⟨"LongTableModel", "losing", "(III)J"⟩, 70) := ⟨⟨by decide +kernel, by decide +kernel⟩, List.mem_of_getElem? (i := 1329) (by decide +kernel), List.mem_of_getElem? (i := 1708) (by decide +kernel), List.mem_of_getElem? (i := 1709) (by decide +kernel)⟩
theorem lw_p98 : lw_okq (⟨"LongTableModel", "weightOf", "(III)J"⟩, 70) := ⟨⟨by decide +kernel, by decide +kernel⟩, List.mem_of_getElem? (i := 1329) (by decide +kernel), List.mem_of_getElem? (i := 1712) (by decide +kernel), List.mem_of_getElem? (i := 1713) (by decide +kernel)⟩
theorem lw_p99 : lw_okq (⟨"LongTableModel", "loss", "(III)I"⟩, 70) := ⟨⟨by decide +kernel, by decide +kernel⟩, List.mem_of_getElem? (i := 1329) (by decide +kernel), List.mem_of_getElem? (i := 1716) (by decide +kernel), List.mem_of_getElem? (i := 1717) (by decide +kernel)⟩
theorem lw_p100 : lw_okq (⟨"LongTableModel", "least", "(JJJ)I"⟩, 70) := ⟨⟨by decide +kernel, by decide +kernel⟩, List.mem_of_getElem? (i := 1329) (by decide +kernel), List.mem_of_getElem? (i := 1720) (by decide +kernel), List.mem_of_getElem? (i := 1721) (by decide +kernel)⟩
theorem lw_p101 : lw_okq (⟨"LongTableModel", "isVoter", "(I)Z"⟩, 70) := ⟨⟨by decide +kernel, by decide +kernel⟩, List.mem_of_getElem? (i := 1329) (by decide +kernel), List.mem_of_getElem? (i := 1737) (by decide +kernel), List.mem_of_getElem? (i := 1738) (by decide +kernel)⟩
theorem lw_p102 : lw_okq (⟨"LongTableModel", "rowTold", "()I"⟩, 70) := ⟨⟨by decide +kernel, by decide +kernel⟩, List.mem_of_getElem? (i := 1329) (by decide +kernel), List.mem_of_getElem? (i := 1745) (by decide +kernel), List.mem_of_getElem? (i := 1746) (by decide +kernel)⟩
theorem lw_p103 : lw_okq (⟨"LongTableModel", "isTruth", "(I)Z"⟩, 70) := ⟨⟨by decide +kernel, by decide +kernel⟩, List.mem_of_getElem? (i := 1329) (by decide +kernel), List.mem_of_getElem? (i := 1749) (by decide +kernel), List.mem_of_getElem? (i := 1750) (by decide +kernel)⟩
theorem lw_p104 : lw_okq (⟨"LongTableModel", "refuse", "()J"⟩, 70) := ⟨⟨by decide +kernel, by decide +kernel⟩, List.mem_of_getElem? (i := 1329) (by decide +kernel), List.mem_of_getElem? (i := 1753) (by decide +kernel), List.mem_of_getElem? (i := 1754) (by decide +kernel)⟩
theorem lw_p105 : lw_okq (⟨"LongTableModel", "isSign", "(II)Z"⟩, 70) := ⟨⟨by decide +kernel, by decide +kernel⟩, List.mem_of_getElem? (i := 1329) (by decide +kernel), List.mem_of_getElem? (i := 1765) (by decide +kernel), List.mem_of_getElem? (i := 1766) (by decide +kernel)⟩
theorem lw_p106 : lw_okq (⟨"LongTableModel", "decideRow", "(II)I"⟩, 70) := ⟨⟨by decide +kernel, by decide +kernel⟩, List.mem_of_getElem? (i := 1329) (by decide +kernel), List.mem_of_getElem? (i := 1773) (by decide +kernel), List.mem_of_getElem? (i := 1774) (by decide +kernel)⟩
theorem lw_p107 : lw_okq (⟨"LongTableModel", "decide", "()I"⟩, 70) := ⟨⟨by decide +kernel, by decide +kernel⟩, List.mem_of_getElem? (i := 1329) (by decide +kernel), List.mem_of_getElem? (i := 1777) (by decide +kernel), List.mem_of_getElem? (i := 1778) (by decide +kernel)⟩
theorem lw_p108 : lw_okq (⟨"LongTableModel", "rightBy", "(I)J"⟩, 70) := ⟨⟨by decide +kernel, by decide +kernel⟩, List.mem_of_getElem? (i := 1329) (by decide +kernel), List.mem_of_getElem? (i := 1785) (by decide +kernel), List.mem_of_getElem? (i := 1786) (by decide +kernel)⟩
theorem lw_p109 : lw_okq (⟨"LongTableModel", "lostBy", "(I)J"⟩, 70) := ⟨⟨by decide +kernel, by decide +kernel⟩, List.mem_of_getElem? (i := 1329) (by decide +kernel), List.mem_of_getElem? (i := 1793) (by decide +kernel), List.mem_of_getElem? (i := 1794) (by decide +kernel)⟩
theorem lw_p110 : lw_okq (⟨"LongTableModel", "knownAt", "(I)I"⟩, 70) := ⟨⟨by decide +kernel, by decide +kernel⟩, List.mem_of_getElem? (i := 1329) (by decide +kernel), List.mem_of_getElem? (i := 1805) (by decide +kernel), List.mem_of_getElem? (i := 1806) (by decide +kernel)⟩
theorem lw_p111 : lw_okq (⟨"LongTableModel", "commonly", "(II)J"⟩, 70) := ⟨⟨by decide +kernel, by decide +kernel⟩, List.mem_of_getElem? (i := 1329) (by decide +kernel), List.mem_of_getElem? (i := 1809) (by decide +kernel), List.mem_of_getElem? (i := 1810) (by decide +kernel)⟩
def lw_privs_7 : List (MethodName × Nat) := [(⟨"LongTableModel", "honest", "(II)I"⟩, 70), (⟨"LongTableModel", "losing", "(III)J"⟩, 70), (⟨"LongTableModel", "weightOf", "(III)J"⟩, 70), (⟨"LongTableModel", "loss", "(III)I"⟩, 70), (⟨"LongTableModel", "least", "(JJJ)I"⟩, 70), (⟨"LongTableModel", "isVoter", "(I)Z"⟩, 70), (⟨"LongTableModel", "rowTold", "()I"⟩, 70), (⟨"LongTableModel", "isTruth", "(I)Z"⟩, 70), (⟨"LongTableModel", "refuse", "()J"⟩, 70), (⟨"LongTableModel", "isSign", "(II)Z"⟩, 70), (⟨"LongTableModel", "decideRow", "(II)I"⟩, 70), (⟨"LongTableModel", "decide", "()I"⟩, 70), (⟨"LongTableModel", "rightBy", "(I)J"⟩, 70), (⟨"LongTableModel", "lostBy", "(I)J"⟩, 70), (⟨"LongTableModel", "knownAt", "(I)I"⟩, 70), (⟨"LongTableModel", "commonly", "(II)J"⟩, 70)]
theorem lw_r7 : ∀ q ∈ lw_privs_7, lw_okq q := List.forall_mem_cons.mpr ⟨lw_p96, List.forall_mem_cons.mpr ⟨lw_p97, List.forall_mem_cons.mpr ⟨lw_p98, List.forall_mem_cons.mpr ⟨lw_p99, List.forall_mem_cons.mpr ⟨lw_p100, List.forall_mem_cons.mpr ⟨lw_p101, List.forall_mem_cons.mpr ⟨lw_p102, List.forall_mem_cons.mpr ⟨lw_p103, List.forall_mem_cons.mpr ⟨lw_p104, List.forall_mem_cons.mpr ⟨lw_p105, List.forall_mem_cons.mpr ⟨lw_p106, List.forall_mem_cons.mpr ⟨lw_p107, List.forall_mem_cons.mpr ⟨lw_p108, List.forall_mem_cons.mpr ⟨lw_p109, List.forall_mem_cons.mpr ⟨lw_p110, List.forall_mem_cons.mpr ⟨lw_p111, fun _ h => absurd h List.not_mem_nil⟩⟩⟩⟩⟩⟩⟩⟩⟩⟩⟩⟩⟩⟩⟩⟩
theorem lw_p112 : lw_okq (⟨"LongTableModel", "turned", "(III)J"⟩, 70) := ⟨⟨by decide +kernel, by decide +kernel⟩, List.mem_of_getElem? (i := 1329) (by decide +kernel), List.mem_of_getElem? (i := 1821) (by decide +kernel), List.mem_of_getElem? (i := 1822) (by decide +kernel)⟩
theorem lw_p113 : lw_okq (⟨"LongTableModel", "isTurned", "(II)Z"⟩, 70) := ⟨⟨by decide +kernel, by decide +kernel⟩, List.mem_of_getElem? (i := 1329) (by decide +kernel), List.mem_of_getElem? (i := 1825) (by decide +kernel), List.mem_of_getElem? (i := 1826) (by decide +kernel)⟩
theorem lw_p114 : lw_okq (⟨"LongTableModel", "decideWith", "(II)I"⟩, 70) := ⟨⟨by decide +kernel, by decide +kernel⟩, List.mem_of_getElem? (i := 1329) (by decide +kernel), List.mem_of_getElem? (i := 1829) (by decide +kernel), List.mem_of_getElem? (i := 1830) (by decide +kernel)⟩
theorem lw_p115 : lw_okq (⟨"LongTableModel", "replyBy", "(III)I"⟩, 70) := ⟨⟨by decide +kernel, by decide +kernel⟩, List.mem_of_getElem? (i := 1329) (by decide +kernel), List.mem_of_getElem? (i := 1841) (by decide +kernel), List.mem_of_getElem? (i := 1842) (by decide +kernel)⟩
theorem lw_p116 : lw_okq (⟨"LongTableModel", "isFitBy", "(I)Z"⟩, 70) := ⟨⟨by decide +kernel, by decide +kernel⟩, List.mem_of_getElem? (i := 1329) (by decide +kernel), List.mem_of_getElem? (i := 1849) (by decide +kernel), List.mem_of_getElem? (i := 1850) (by decide +kernel)⟩
theorem lw_p117 : lw_okq (⟨"LongTableModel", "tryTold", "()V"⟩, 70) := ⟨⟨by decide +kernel, by decide +kernel⟩, List.mem_of_getElem? (i := 1329) (by decide +kernel), List.mem_of_getElem? (i := 1857) (by decide +kernel), List.mem_of_getElem? (i := 1858) (by decide +kernel)⟩
theorem lw_p118 : lw_okq (⟨"LongTableModel", "speak", "()V"⟩, 70) := ⟨⟨by decide +kernel, by decide +kernel⟩, List.mem_of_getElem? (i := 1329) (by decide +kernel), List.mem_of_getElem? (i := 1873) (by decide +kernel), List.mem_of_getElem? (i := 1874) (by decide +kernel)⟩
theorem lw_p119 : lw_okq (⟨"LongTableModel", "speakRow", "(I)I"⟩, 70) := ⟨⟨by decide +kernel, by decide +kernel⟩, List.mem_of_getElem? (i := 1329) (by decide +kernel), List.mem_of_getElem? (i := 1877) (by decide +kernel), List.mem_of_getElem? (i := 1878) (by decide +kernel)⟩
theorem lw_p120 : lw_okq (⟨"LongTableModel", "cliffOfSaid", "(I)I"⟩, 70) := ⟨⟨by decide +kernel, by decide +kernel⟩, List.mem_of_getElem? (i := 1329) (by decide +kernel), List.mem_of_getElem? (i := 1881) (by decide +kernel), List.mem_of_getElem? (i := 1882) (by decide +kernel)⟩
theorem lw_p121 : lw_okq (⟨"LongTableModel", "lostInTurns", "()J"⟩, 70) := ⟨⟨by decide +kernel, by decide +kernel⟩, List.mem_of_getElem? (i := 1329) (by decide +kernel), List.mem_of_getElem? (i := 1885) (by decide +kernel), List.mem_of_getElem? (i := 1886) (by decide +kernel)⟩
theorem lw_p122 : lw_okq (⟨"LongTableModel", "speakTold", "()Z"⟩, 70) := ⟨⟨by decide +kernel, by decide +kernel⟩, List.mem_of_getElem? (i := 1329) (by decide +kernel), List.mem_of_getElem? (i := 1897) (by decide +kernel), List.mem_of_getElem? (i := 1898) (by decide +kernel)⟩
theorem lw_p123 : lw_okq (⟨"LongTableModel", "goOn", "()Z"⟩, 70) := ⟨⟨by decide +kernel, by decide +kernel⟩, List.mem_of_getElem? (i := 1329) (by decide +kernel), List.mem_of_getElem? (i := 1910) (by decide +kernel), List.mem_of_getElem? (i := 1911) (by decide +kernel)⟩
theorem lw_p124 : lw_okq (⟨"LongTableModel", "exchange", "(II)V"⟩, 70) := ⟨⟨by decide +kernel, by decide +kernel⟩, List.mem_of_getElem? (i := 1329) (by decide +kernel), List.mem_of_getElem? (i := 1914) (by decide +kernel), List.mem_of_getElem? (i := 1915) (by decide +kernel)⟩
theorem lw_p125 : lw_okq (⟨"LongTableModel", "layByVotes", "()V"⟩, 70) := ⟨⟨by decide +kernel, by decide +kernel⟩, List.mem_of_getElem? (i := 1329) (by decide +kernel), List.mem_of_getElem? (i := 1922) (by decide +kernel), List.mem_of_getElem? (i := 1923) (by decide +kernel)⟩
theorem lw_p126 : lw_okq (⟨"LongTableModel", "votesOf", "(I)I"⟩, 70) := ⟨⟨by decide +kernel, by decide +kernel⟩, List.mem_of_getElem? (i := 1329) (by decide +kernel), List.mem_of_getElem? (i := 1926) (by decide +kernel), List.mem_of_getElem? (i := 1927) (by decide +kernel)⟩
theorem lw_p127 : lw_okq (⟨"LongTableModel", "layByWeight", "(I[II)V"⟩, 70) := ⟨⟨by decide +kernel, by decide +kernel⟩, List.mem_of_getElem? (i := 1329) (by decide +kernel), List.mem_of_getElem? (i := 1934) (by decide +kernel), List.mem_of_getElem? (i := 1935) (by decide +kernel)⟩
def lw_privs_8 : List (MethodName × Nat) := [(⟨"LongTableModel", "turned", "(III)J"⟩, 70), (⟨"LongTableModel", "isTurned", "(II)Z"⟩, 70), (⟨"LongTableModel", "decideWith", "(II)I"⟩, 70), (⟨"LongTableModel", "replyBy", "(III)I"⟩, 70), (⟨"LongTableModel", "isFitBy", "(I)Z"⟩, 70), (⟨"LongTableModel", "tryTold", "()V"⟩, 70), (⟨"LongTableModel", "speak", "()V"⟩, 70), (⟨"LongTableModel", "speakRow", "(I)I"⟩, 70), (⟨"LongTableModel", "cliffOfSaid", "(I)I"⟩, 70), (⟨"LongTableModel", "lostInTurns", "()J"⟩, 70), (⟨"LongTableModel", "speakTold", "()Z"⟩, 70), (⟨"LongTableModel", "goOn", "()Z"⟩, 70), (⟨"LongTableModel", "exchange", "(II)V"⟩, 70), (⟨"LongTableModel", "layByVotes", "()V"⟩, 70), (⟨"LongTableModel", "votesOf", "(I)I"⟩, 70), (⟨"LongTableModel", "layByWeight", "(I[II)V"⟩, 70)]
theorem lw_r8 : ∀ q ∈ lw_privs_8, lw_okq q := List.forall_mem_cons.mpr ⟨lw_p112, List.forall_mem_cons.mpr ⟨lw_p113, List.forall_mem_cons.mpr ⟨lw_p114, List.forall_mem_cons.mpr ⟨lw_p115, List.forall_mem_cons.mpr ⟨lw_p116, List.forall_mem_cons.mpr ⟨lw_p117, List.forall_mem_cons.mpr ⟨lw_p118, List.forall_mem_cons.mpr ⟨lw_p119, List.forall_mem_cons.mpr ⟨lw_p120, List.forall_mem_cons.mpr ⟨lw_p121, List.forall_mem_cons.mpr ⟨lw_p122, List.forall_mem_cons.mpr ⟨lw_p123, List.forall_mem_cons.mpr ⟨lw_p124, List.forall_mem_cons.mpr ⟨lw_p125, List.forall_mem_cons.mpr ⟨lw_p126, List.forall_mem_cons.mpr ⟨lw_p127, fun _ h => absurd h List.not_mem_nil⟩⟩⟩⟩⟩⟩⟩⟩⟩⟩⟩⟩⟩⟩⟩⟩
theorem lw_p128 : lw_okq (⟨"LongTableModel", "lostByNeed", "(IIII)J"⟩, 70) := ⟨⟨by decide +kernel, by decide +kernel⟩, List.mem_of_getElem? (i := 1329) (by decide +kernel), List.mem_of_getElem? (i := 1938) (by decide +kernel), List.mem_of_getElem? (i := 1939) (by decide +kernel)⟩
theorem lw_p129 : lw_okq (⟨"LongTableModel", "lostWithout", "(II)J"⟩, 70) := ⟨⟨by decide +kernel, by decide +kernel⟩, List.mem_of_getElem? (i := 1329) (by decide +kernel), List.mem_of_getElem? (i := 1958) (by decide +kernel), List.mem_of_getElem? (i := 1959) (by decide +kernel)⟩
theorem lw_p130 : lw_okq (⟨"LongTableModel", "silence", "(I)V"⟩, 70) := ⟨⟨by decide +kernel, by decide +kernel⟩, List.mem_of_getElem? (i := 1329) (by decide +kernel), List.mem_of_getElem? (i := 1962) (by decide +kernel), List.mem_of_getElem? (i := 1963) (by decide +kernel)⟩
theorem lw_p131 : lw_okq (⟨"LongTableModel", "both", "(IIIII)J"⟩, 70) := ⟨⟨by decide +kernel, by decide +kernel⟩, List.mem_of_getElem? (i := 1329) (by decide +kernel), List.mem_of_getElem? (i := 1977) (by decide +kernel), List.mem_of_getElem? (i := 1978) (by decide +kernel)⟩
theorem lw_p132 : lw_okq (⟨"LongTableModel", "lostByWord", "(IIII)J"⟩, 70) := ⟨⟨by decide +kernel, by decide +kernel⟩, List.mem_of_getElem? (i := 1329) (by decide +kernel), List.mem_of_getElem? (i := 1981) (by decide +kernel), List.mem_of_getElem? (i := 1982) (by decide +kernel)⟩
theorem lw_p133 : lw_okq (⟨"LongTableModel", "areVotesTold", "()Z"⟩, 70) := ⟨⟨by decide +kernel, by decide +kernel⟩, List.mem_of_getElem? (i := 1329) (by decide +kernel), List.mem_of_getElem? (i := 1989) (by decide +kernel), List.mem_of_getElem? (i := 1990) (by decide +kernel)⟩
theorem lw_p134 : lw_okq (⟨"LongTableModel", "votesAsTold", "(I)Z"⟩, 70) := ⟨⟨by decide +kernel, by decide +kernel⟩, List.mem_of_getElem? (i := 1329) (by decide +kernel), List.mem_of_getElem? (i := 1993) (by decide +kernel), List.mem_of_getElem? (i := 1994) (by decide +kernel)⟩
theorem lw_p135 : lw_okq (⟨"LongTableModel", "allOf", "(I)J"⟩, 70) := ⟨⟨by decide +kernel, by decide +kernel⟩, List.mem_of_getElem? (i := 1329) (by decide +kernel), List.mem_of_getElem? (i := 1997) (by decide +kernel), List.mem_of_getElem? (i := 1998) (by decide +kernel)⟩
theorem lw_p136 : lw_okq (⟨"LongTableModel", "draw", "()I"⟩, 70) := ⟨⟨by decide +kernel, by decide +kernel⟩, List.mem_of_getElem? (i := 1329) (by decide +kernel), List.mem_of_getElem? (i := 2025) (by decide +kernel), List.mem_of_getElem? (i := 2026) (by decide +kernel)⟩
def lw_privs_9 : List (MethodName × Nat) := [(⟨"LongTableModel", "lostByNeed", "(IIII)J"⟩, 70), (⟨"LongTableModel", "lostWithout", "(II)J"⟩, 70), (⟨"LongTableModel", "silence", "(I)V"⟩, 70), (⟨"LongTableModel", "both", "(IIIII)J"⟩, 70), (⟨"LongTableModel", "lostByWord", "(IIII)J"⟩, 70), (⟨"LongTableModel", "areVotesTold", "()Z"⟩, 70), (⟨"LongTableModel", "votesAsTold", "(I)Z"⟩, 70), (⟨"LongTableModel", "allOf", "(I)J"⟩, 70), (⟨"LongTableModel", "draw", "()I"⟩, 70)]
theorem lw_r9 : ∀ q ∈ lw_privs_9, lw_okq q := List.forall_mem_cons.mpr ⟨lw_p128, List.forall_mem_cons.mpr ⟨lw_p129, List.forall_mem_cons.mpr ⟨lw_p130, List.forall_mem_cons.mpr ⟨lw_p131, List.forall_mem_cons.mpr ⟨lw_p132, List.forall_mem_cons.mpr ⟨lw_p133, List.forall_mem_cons.mpr ⟨lw_p134, List.forall_mem_cons.mpr ⟨lw_p135, List.forall_mem_cons.mpr ⟨lw_p136, fun _ h => absurd h List.not_mem_nil⟩⟩⟩⟩⟩⟩⟩⟩⟩
def lw_privs : List (MethodName × Nat) := lw_privs_1 ++ (lw_privs_2 ++ (lw_privs_3 ++ (lw_privs_4 ++ (lw_privs_5 ++ (lw_privs_6 ++ (lw_privs_7 ++ (lw_privs_8 ++ (lw_privs_9))))))))
def lw_tbl : List Cond := k2_sels lw_privs ++ tables_1
theorem lw_privs_ok : ∀ q ∈ lw_privs, lw_okq q := by
  show ∀ q ∈ lw_privs_1 ++ (lw_privs_2 ++ (lw_privs_3 ++ (lw_privs_4 ++ (lw_privs_5 ++ (lw_privs_6 ++ (lw_privs_7 ++ (lw_privs_8 ++ (lw_privs_9)))))))), lw_okq q
  exact List.forall_mem_append.mpr ⟨lw_r1, List.forall_mem_append.mpr ⟨lw_r2, List.forall_mem_append.mpr ⟨lw_r3, List.forall_mem_append.mpr ⟨lw_r4, List.forall_mem_append.mpr ⟨lw_r5, List.forall_mem_append.mpr ⟨lw_r6, List.forall_mem_append.mpr ⟨lw_r7, List.forall_mem_append.mpr ⟨lw_r8, lw_r9⟩⟩⟩⟩⟩⟩⟩⟩
def RX0 : String := "LongTable$Losses"
def TX0 : u_T := fun k => match k with
  | _ => ("LongTable$Losses", "cost", "[I", true)
def tyX0 : Nat → FieldType := fun k => match k with
  | _ => .array .int
abbrev wsX00 : List Cond := u_ws RX0 TX0 1
theorem nmX0 : ∀ a, a < 1 → ∀ b, b < 1 → a ≠ b → (TX0 a).2.1 ≠ (TX0 b).2.1 := by decide +kernel
theorem tyX0_ok : ∀ k, k < 1 → parseFieldDescriptor (TX0 k).2.2.1 = some (tyX0 k) := by decide +kernel
abbrev cX0_init : ByteArray := prog_2_method_1_code
def yX0_init : MethodName := ⟨RX0, "<init>", "()V"⟩
abbrev cX0_becomePlain : ByteArray := prog_2_method_2_code
def yX0_becomePlain : MethodName := ⟨RX0, "becomePlain", "()V"⟩
abbrev cX0_lostAt : ByteArray := prog_2_method_3_code
def yX0_lostAt : MethodName := ⟨RX0, "lostAt", "(I[JI)J"⟩
abbrev cX0_leastOf : ByteArray := prog_2_method_4_code
def yX0_leastOf : MethodName := ⟨RX0, "leastOf", "(I[JI)I"⟩
abbrev cX0_lostBy : ByteArray := prog_2_method_5_code
def yX0_lostBy : MethodName := ⟨RX0, "lostBy", "([J)J"⟩
def RX1 : String := "LongTable$Matter"
def TX1 : u_T := fun k => match k with
  | 0 => ("LongTable$Matter", "truths", "I", false)
  | 1 => ("LongTable$Matter", "voters", "I", false)
  | 2 => ("LongTable$Matter", "need", "I", false)
  | 3 => ("LongTable$Matter", "wanted", "I", false)
  | 4 => ("LongTable$Matter", "otherwise", "I", false)
  | 5 => ("LongTable$Matter", "chair", "I", false)
  | 6 => ("LongTable$Matter", "chance", "[I", true)
  | 7 => ("LongTable$Matter", "common", "LLongTable$Losses;", true)
  | 8 => ("LongTable$Matter", "voter", "[LLongTable$Voter;", true)
  | 9 => ("LongTable$Matter", "votes", "[I", true)
  | 10 => ("LongTable$Matter", "tally", "[I", true)
  | _ => ("LongTable$Matter", "with", "[J", true)
def tyX1 : Nat → FieldType := fun k => match k with
  | 0 => .int
  | 1 => .int
  | 2 => .int
  | 3 => .int
  | 4 => .int
  | 5 => .int
  | 6 => .array .int
  | 7 => .object "LongTable$Losses"
  | 8 => .array (.object "LongTable$Voter")
  | 9 => .array .int
  | 10 => .array .int
  | _ => .array .long
abbrev wsX10 : List Cond := u_ws RX1 TX1 12
theorem nmX1 : ∀ a, a < 12 → ∀ b, b < 12 → a ≠ b → (TX1 a).2.1 ≠ (TX1 b).2.1 := by decide +kernel
theorem tyX1_ok : ∀ k, k < 12 → parseFieldDescriptor (TX1 k).2.2.1 = some (tyX1 k) := by decide +kernel
abbrev cX1_init : ByteArray := prog_3_method_1_code
def yX1_init : MethodName := ⟨RX1, "<init>", "()V"⟩
abbrev cX1_begin : ByteArray := prog_3_method_2_code
def yX1_begin : MethodName := ⟨RX1, "begin", "()V"⟩
abbrev cX1_finish : ByteArray := prog_3_method_3_code
def yX1_finish : MethodName := ⟨RX1, "finish", "()V"⟩
abbrev cX1_isEmpty : ByteArray := prog_3_method_4_code
def yX1_isEmpty : MethodName := ⟨RX1, "isEmpty", "()Z"⟩
abbrev cX1_hasTruth : ByteArray := prog_3_method_5_code
def yX1_hasTruth : MethodName := ⟨RX1, "hasTruth", "(I)Z"⟩
abbrev cX1_hasVoter : ByteArray := prog_3_method_6_code
def yX1_hasVoter : MethodName := ⟨RX1, "hasVoter", "(I)Z"⟩
abbrev cX1_hasSign : ByteArray := prog_3_method_7_code
def yX1_hasSign : MethodName := ⟨RX1, "hasSign", "(II)Z"⟩
abbrev cX1_hasSigns : ByteArray := prog_3_method_8_code
def yX1_hasSigns : MethodName := ⟨RX1, "hasSigns", "(LLongTable$Tape;)Z"⟩
abbrev cX1_hasVotes : ByteArray := prog_3_method_9_code
def yX1_hasVotes : MethodName := ⟨RX1, "hasVotes", "(LLongTable$Tape;)Z"⟩
abbrev cX1_hasOrder : ByteArray := prog_3_method_10_code
def yX1_hasOrder : MethodName := ⟨RX1, "hasOrder", "(LLongTable$Tape;)Z"⟩
abbrev cX1_signsInAll : ByteArray := prog_3_method_11_code
def yX1_signsInAll : MethodName := ⟨RX1, "signsInAll", "()I"⟩
abbrev cX1_voteOf : ByteArray := prog_3_method_12_code
def yX1_voteOf : MethodName := ⟨RX1, "voteOf", "(LLongTable$Voter;I)I"⟩
abbrev cX1_honestVote : ByteArray := prog_3_method_13_code
def yX1_honestVote : MethodName := ⟨RX1, "honestVote", "(LLongTable$Voter;I)I"⟩
abbrev cX1_shyVote : ByteArray := prog_3_method_14_code
def yX1_shyVote : MethodName := ⟨RX1, "shyVote", "(LLongTable$Voter;I)I"⟩
abbrev cX1_partsOf : ByteArray := prog_3_method_15_code
def yX1_partsOf : MethodName := ⟨RX1, "partsOf", "(I[I)J"⟩
abbrev cX1_knownBy : ByteArray := prog_3_method_16_code
def yX1_knownBy : MethodName := ⟨RX1, "knownBy", "([I)I"⟩
abbrev cX1_decidesWithSigns : ByteArray := prog_3_method_17_code
def yX1_decidesWithSigns : MethodName := ⟨RX1, "decidesWithSigns", "([I)I"⟩
abbrev cX1_clearTally : ByteArray := prog_3_method_18_code
def yX1_clearTally : MethodName := ⟨RX1, "clearTally", "()V"⟩
abbrev cX1_addVote : ByteArray := prog_3_method_19_code
def yX1_addVote : MethodName := ⟨RX1, "addVote", "([III)V"⟩
abbrev cX1_decides : ByteArray := prog_3_method_20_code
def yX1_decides : MethodName := ⟨RX1, "decides", "([II)I"⟩
def RX2 : String := "LongTable$Reader"
def TX2 : u_T := fun k => match k with
  | 0 => ("LongTable$Reader", "fault", "I", false)
  | 1 => ("LongTable$Reader", "tape", "LLongTable$Tape;", true)
  | 2 => ("LongTable$Reader", "matter", "LLongTable$Matter;", false)
  | 3 => ("LongTable$Reader", "behindTruths", "Z", false)
  | 4 => ("LongTable$Reader", "place", "I", false)
  | 5 => ("LongTable$Reader", "behind", "I", false)
  | 6 => ("LongTable$Reader", "kind", "I", false)
  | 7 => ("LongTable$Reader", "word", "J", false)
  | 8 => ("LongTable$Reader", "keyword", "I", false)
  | 9 => ("LongTable$Reader", "number", "I", false)
  | 10 => ("LongTable$Reader", "truth", "I", false)
  | 11 => ("LongTable$Reader", "voter", "I", false)
  | 12 => ("LongTable$Reader", "truthNames", "[J", true)
  | _ => ("LongTable$Reader", "voterNames", "[J", true)
def tyX2 : Nat → FieldType := fun k => match k with
  | 0 => .int
  | 1 => .object "LongTable$Tape"
  | 2 => .object "LongTable$Matter"
  | 3 => .boolean
  | 4 => .int
  | 5 => .int
  | 6 => .int
  | 7 => .long
  | 8 => .int
  | 9 => .int
  | 10 => .int
  | 11 => .int
  | 12 => .array .long
  | _ => .array .long
abbrev wsX20 : List Cond := u_ws RX2 TX2 14
theorem nmX2 : ∀ a, a < 14 → ∀ b, b < 14 → a ≠ b → (TX2 a).2.1 ≠ (TX2 b).2.1 := by decide +kernel
theorem tyX2_ok : ∀ k, k < 14 → parseFieldDescriptor (TX2 k).2.2.1 = some (tyX2 k) := by decide +kernel
abbrev cX2_init : ByteArray := prog_4_method_1_code
def yX2_init : MethodName := ⟨RX2, "<init>", "(LLongTable$Tape;LLongTable$Matter;)V"⟩
abbrev cX2_read : ByteArray := prog_4_method_2_code
def yX2_read : MethodName := ⟨RX2, "read", "(LLongTable$Matter;)I"⟩
abbrev cX2_fail : ByteArray := prog_4_method_3_code
def yX2_fail : MethodName := ⟨RX2, "fail", "(I)Z"⟩
abbrev cX2_next : ByteArray := prog_4_method_4_code
def yX2_next : MethodName := ⟨RX2, "next", "()V"⟩
abbrev cX2_nextRun : ByteArray := prog_4_method_5_code
def yX2_nextRun : MethodName := ⟨RX2, "nextRun", "()V"⟩
abbrev cX2_isBlank : ByteArray := prog_4_method_6_code
def yX2_isBlank : MethodName := ⟨RX2, "isBlank", "(I)Z"⟩
abbrev cX2_readLine : ByteArray := prog_4_method_7_code
def yX2_readLine : MethodName := ⟨RX2, "readLine", "()Z"⟩
abbrev cX2_truthsStand : ByteArray := prog_4_method_8_code
def yX2_truthsStand : MethodName := ⟨RX2, "truthsStand", "()Z"⟩
abbrev cX2_readTruth : ByteArray := prog_4_method_9_code
def yX2_readTruth : MethodName := ⟨RX2, "readTruth", "()Z"⟩
abbrev cX2_readVoter : ByteArray := prog_4_method_10_code
def yX2_readVoter : MethodName := ⟨RX2, "readVoter", "()Z"⟩
abbrev cX2_readLoss : ByteArray := prog_4_method_11_code
def yX2_readLoss : MethodName := ⟨RX2, "readLoss", "()Z"⟩
abbrev cX2_readWay : ByteArray := prog_4_method_12_code
def yX2_readWay : MethodName := ⟨RX2, "readWay", "()Z"⟩
abbrev cX2_readSet : ByteArray := prog_4_method_13_code
def yX2_readSet : MethodName := ⟨RX2, "readSet", "(LLongTable$Voter;)Z"⟩
abbrev cX2_readWeight : ByteArray := prog_4_method_14_code
def yX2_readWeight : MethodName := ⟨RX2, "readWeight", "()Z"⟩
abbrev cX2_readMost : ByteArray := prog_4_method_15_code
def yX2_readMost : MethodName := ⟨RX2, "readMost", "()Z"⟩
abbrev cX2_readNeed : ByteArray := prog_4_method_16_code
def yX2_readNeed : MethodName := ⟨RX2, "readNeed", "()Z"⟩
abbrev cX2_stop : ByteArray := prog_4_method_17_code
def yX2_stop : MethodName := ⟨RX2, "stop", "()Z"⟩
abbrev cX2_someKeyword : ByteArray := prog_4_method_18_code
def yX2_someKeyword : MethodName := ⟨RX2, "someKeyword", "(I)Z"⟩
abbrev cX2_someNumber : ByteArray := prog_4_method_19_code
def yX2_someNumber : MethodName := ⟨RX2, "someNumber", "(II)Z"⟩
abbrev cX2_someName : ByteArray := prog_4_method_20_code
def yX2_someName : MethodName := ⟨RX2, "someName", "(I)Z"⟩
abbrev cX2_isName : ByteArray := prog_4_method_21_code
def yX2_isName : MethodName := ⟨RX2, "isName", "(I)Z"⟩
def RX3 : String := "LongTable$Replies"
def TX3 : u_T := fun k => match k with
  | 0 => ("LongTable$Replies", "rows", "LLongTable$Rows;", true)
  | 1 => ("LongTable$Replies", "matter", "LLongTable$Matter;", false)
  | 2 => ("LongTable$Replies", "losing", "[J", true)
  | 3 => ("LongTable$Replies", "turned", "[J", true)
  | 4 => ("LongTable$Replies", "comes", "[J", true)
  | 5 => ("LongTable$Replies", "trial", "[I", true)
  | 6 => ("LongTable$Replies", "settled", "[I", true)
  | 7 => ("LongTable$Replies", "settledRight", "J", false)
  | 8 => ("LongTable$Replies", "settledLost", "J", false)
  | 9 => ("LongTable$Replies", "bestFit", "[I", true)
  | 10 => ("LongTable$Replies", "place", "[I", true)
  | 11 => ("LongTable$Replies", "digit", "[I", true)
  | 12 => ("LongTable$Replies", "places", "I", false)
  | _ => ("LongTable$Replies", "noted", "[I", true)
def tyX3 : Nat → FieldType := fun k => match k with
  | 0 => .object "LongTable$Rows"
  | 1 => .object "LongTable$Matter"
  | 2 => .array .long
  | 3 => .array .long
  | 4 => .array .long
  | 5 => .array .int
  | 6 => .array .int
  | 7 => .long
  | 8 => .long
  | 9 => .array .int
  | 10 => .array .int
  | 11 => .array .int
  | 12 => .int
  | _ => .array .int
abbrev wsX30 : List Cond := u_ws RX3 TX3 14
theorem nmX3 : ∀ a, a < 14 → ∀ b, b < 14 → a ≠ b → (TX3 a).2.1 ≠ (TX3 b).2.1 := by decide +kernel
theorem tyX3_ok : ∀ k, k < 14 → parseFieldDescriptor (TX3 k).2.2.1 = some (tyX3 k) := by decide +kernel
abbrev cX3_init : ByteArray := prog_5_method_1_code
def yX3_init : MethodName := ⟨RX3, "<init>", "(LLongTable$Rows;LLongTable$Matter;)V"⟩
abbrev cX3_countTurns : ByteArray := prog_5_method_2_code
def yX3_countTurns : MethodName := ⟨RX3, "countTurns", "(LLongTable$Matter;II)V"⟩
abbrev cX3_turnsNow : ByteArray := prog_5_method_3_code
def yX3_turnsNow : MethodName := ⟨RX3, "turnsNow", "(I)Z"⟩
abbrev cX3_hearOthers : ByteArray := prog_5_method_4_code
def yX3_hearOthers : MethodName := ⟨RX3, "hearOthers", "(LLongTable$Matter;[II)V"⟩
abbrev cX3_addLosing : ByteArray := prog_5_method_5_code
def yX3_addLosing : MethodName := ⟨RX3, "addLosing", "(II)V"⟩
abbrev cX3_voteAt : ByteArray := prog_5_method_6_code
def yX3_voteAt : MethodName := ⟨RX3, "voteAt", "(I)I"⟩
abbrev cX3_lostBy : ByteArray := prog_5_method_7_code
def yX3_lostBy : MethodName := ⟨RX3, "lostBy", "(III)J"⟩
abbrev cX3_best : ByteArray := prog_5_method_8_code
def yX3_best : MethodName := ⟨RX3, "best", "(III)I"⟩
abbrev cX3_isFit : ByteArray := prog_5_method_9_code
def yX3_isFit : MethodName := ⟨RX3, "isFit", "(LLongTable$Matter;[I)Z"⟩
abbrev cX3_settleVotes : ByteArray := prog_5_method_10_code
def yX3_settleVotes : MethodName := ⟨RX3, "settleVotes", "(LLongTable$Matter;)I"⟩
abbrev cX3_changesInRound : ByteArray := prog_5_method_11_code
def yX3_changesInRound : MethodName := ⟨RX3, "changesInRound", "(LLongTable$Matter;)Z"⟩
abbrev cX3_keepVotes : ByteArray := prog_5_method_12_code
def yX3_keepVotes : MethodName := ⟨RX3, "keepVotes", "(LLongTable$Matter;[I)V"⟩
abbrev cX3_countTrial : ByteArray := prog_5_method_13_code
def yX3_countTrial : MethodName := ⟨RX3, "countTrial", "(LLongTable$Matter;)V"⟩
abbrev cX3_countFits : ByteArray := prog_5_method_14_code
def yX3_countFits : MethodName := ⟨RX3, "countFits", "(LLongTable$Matter;)I"⟩
abbrev cX3_layPlaces : ByteArray := prog_5_method_15_code
def yX3_layPlaces : MethodName := ⟨RX3, "layPlaces", "()I"⟩
abbrev cX3_nextTable : ByteArray := prog_5_method_16_code
def yX3_nextTable : MethodName := ⟨RX3, "nextTable", "()Z"⟩
abbrev cX3_noteReplies : ByteArray := prog_5_method_17_code
def yX3_noteReplies : MethodName := ⟨RX3, "noteReplies", "(I)V"⟩
abbrev cX3_areNoted : ByteArray := prog_5_method_18_code
def yX3_areNoted : MethodName := ⟨RX3, "areNoted", "(I)Z"⟩
def RX4 : String := "LongTable$Rows"
def TX4 : u_T := fun k => match k with
  | 0 => ("LongTable$Rows", "matter", "LLongTable$Matter;", false)
  | 1 => ("LongTable$Rows", "choices", "[I", true)
  | 2 => ("LongTable$Rows", "taken", "[I", true)
  | 3 => ("LongTable$Rows", "code", "[I", true)
  | 4 => ("LongTable$Rows", "like", "[I", true)
  | 5 => ("LongTable$Rows", "parts", "[J", true)
  | 6 => ("LongTable$Rows", "weights", "[I", true)
  | 7 => ("LongTable$Rows", "row", "[I", true)
  | _ => ("LongTable$Rows", "tally", "[I", true)
def tyX4 : Nat → FieldType := fun k => match k with
  | 0 => .object "LongTable$Matter"
  | 1 => .array .int
  | 2 => .array .int
  | 3 => .array .int
  | 4 => .array .int
  | 5 => .array .long
  | 6 => .array .int
  | 7 => .array .int
  | _ => .array .int
abbrev wsX40 : List Cond := u_ws RX4 TX4 9
theorem nmX4 : ∀ a, a < 9 → ∀ b, b < 9 → a ≠ b → (TX4 a).2.1 ≠ (TX4 b).2.1 := by decide +kernel
theorem tyX4_ok : ∀ k, k < 9 → parseFieldDescriptor (TX4 k).2.2.1 = some (tyX4 k) := by decide +kernel
abbrev cX4_init : ByteArray := prog_6_method_1_code
def yX4_init : MethodName := ⟨RX4, "<init>", "(LLongTable$Matter;)V"⟩
abbrev cX4_voting : ByteArray := prog_6_method_2_code
def yX4_voting : MethodName := ⟨RX4, "voting", "(LLongTable$Matter;[I)V"⟩
abbrev cX4_seeing : ByteArray := prog_6_method_3_code
def yX4_seeing : MethodName := ⟨RX4, "seeing", "(LLongTable$Matter;)V"⟩
abbrev cX4_votingAs : ByteArray := prog_6_method_4_code
def yX4_votingAs : MethodName := ⟨RX4, "votingAs", "(LLongTable$Matter;[I)V"⟩
abbrev cX4_addChoice : ByteArray := prog_6_method_5_code
def yX4_addChoice : MethodName := ⟨RX4, "addChoice", "(III)V"⟩
abbrev cX4_openChoice : ByteArray := prog_6_method_6_code
def yX4_openChoice : MethodName := ⟨RX4, "openChoice", "(III)V"⟩
abbrev cX4_silence : ByteArray := prog_6_method_7_code
def yX4_silence : MethodName := ⟨RX4, "silence", "(I)V"⟩
abbrev cX4_leaveOut : ByteArray := prog_6_method_8_code
def yX4_leaveOut : MethodName := ⟨RX4, "leaveOut", "(I)V"⟩
abbrev cX4_pin : ByteArray := prog_6_method_9_code
def yX4_pin : MethodName := ⟨RX4, "pin", "(III)V"⟩
abbrev cX4_first : ByteArray := prog_6_method_10_code
def yX4_first : MethodName := ⟨RX4, "first", "()I"⟩
abbrev cX4_step : ByteArray := prog_6_method_11_code
def yX4_step : MethodName := ⟨RX4, "step", "()V"⟩
abbrev cX4_fillFrom : ByteArray := prog_6_method_12_code
def yX4_fillFrom : MethodName := ⟨RX4, "fillFrom", "(I)V"⟩
abbrev cX4_partsNow : ByteArray := prog_6_method_13_code
def yX4_partsNow : MethodName := ⟨RX4, "partsNow", "(I)J"⟩
abbrev cX4_weightNow : ByteArray := prog_6_method_14_code
def yX4_weightNow : MethodName := ⟨RX4, "weightNow", "(I)I"⟩
abbrev cX4_lostNow : ByteArray := prog_6_method_15_code
def yX4_lostNow : MethodName := ⟨RX4, "lostNow", "(I)J"⟩
abbrev cX4_votersFor : ByteArray := prog_6_method_16_code
def yX4_votersFor : MethodName := ⟨RX4, "votersFor", "(I)I"⟩
abbrev cX4_decidesNow : ByteArray := prog_6_method_17_code
def yX4_decidesNow : MethodName := ⟨RX4, "decidesNow", "()I"⟩
abbrev cX4_decidesIf : ByteArray := prog_6_method_18_code
def yX4_decidesIf : MethodName := ⟨RX4, "decidesIf", "(II)I"⟩
abbrev cX4_takeTally : ByteArray := prog_6_method_19_code
def yX4_takeTally : MethodName := ⟨RX4, "takeTally", "()V"⟩
abbrev cX4_sumUp : ByteArray := prog_6_method_20_code
def yX4_sumUp : MethodName := ⟨RX4, "sumUp", "([J)V"⟩
abbrev cX4_sumUpBest : ByteArray := prog_6_method_21_code
def yX4_sumUpBest : MethodName := ⟨RX4, "sumUpBest", "([J)V"⟩
abbrev cX4_addRow : ByteArray := prog_6_method_22_code
def yX4_addRow : MethodName := ⟨RX4, "addRow", "([JI)V"⟩
abbrev cX4_likeliest : ByteArray := prog_6_method_23_code
def yX4_likeliest : MethodName := ⟨RX4, "likeliest", "()I"⟩
def RX5 : String := "LongTable$Rules"
def TX5 : u_T := fun k => match k with
  | 0 => ("LongTable$Rules", "rows", "LLongTable$Rows;", true)
  | 1 => ("LongTable$Rules", "taking", "[J", true)
  | 2 => ("LongTable$Rules", "leaving", "[J", true)
  | 3 => ("LongTable$Rules", "barLost", "J", false)
  | 4 => ("LongTable$Rules", "byVoters", "[J", true)
  | 5 => ("LongTable$Rules", "sums", "[I", true)
  | 6 => ("LongTable$Rules", "above", "[J", true)
  | 7 => ("LongTable$Rules", "weights", "[I", true)
  | 8 => ("LongTable$Rules", "least", "J", false)
  | _ => ("LongTable$Rules", "weighed", "[I", true)
def tyX5 : Nat → FieldType := fun k => match k with
  | 0 => .object "LongTable$Rows"
  | 1 => .array .long
  | 2 => .array .long
  | 3 => .long
  | 4 => .array .long
  | 5 => .array .int
  | 6 => .array .long
  | 7 => .array .int
  | 8 => .long
  | _ => .array .int
abbrev wsX50 : List Cond := u_ws RX5 TX5 10
theorem nmX5 : ∀ a, a < 10 → ∀ b, b < 10 → a ≠ b → (TX5 a).2.1 ≠ (TX5 b).2.1 := by decide +kernel
theorem tyX5_ok : ∀ k, k < 10 → parseFieldDescriptor (TX5 k).2.2.1 = some (tyX5 k) := by decide +kernel
abbrev cX5_init : ByteArray := prog_7_method_1_code
def yX5_init : MethodName := ⟨RX5, "<init>", "(LLongTable$Rows;)V"⟩
abbrev cX5_bestBar : ByteArray := prog_7_method_2_code
def yX5_bestBar : MethodName := ⟨RX5, "bestBar", "(LLongTable$Matter;II)I"⟩
abbrev cX5_sortByWeights : ByteArray := prog_7_method_3_code
def yX5_sortByWeights : MethodName := ⟨RX5, "sortByWeights", "(LLongTable$Matter;II)V"⟩
abbrev cX5_weighAll : ByteArray := prog_7_method_4_code
def yX5_weighAll : MethodName := ⟨RX5, "weighAll", "(LLongTable$Matter;)J"⟩
abbrev cX5_sortByVoters : ByteArray := prog_7_method_5_code
def yX5_sortByVoters : MethodName := ⟨RX5, "sortByVoters", "(LLongTable$Matter;)V"⟩
abbrev cX5_takeWeights : ByteArray := prog_7_method_6_code
def yX5_takeWeights : MethodName := ⟨RX5, "takeWeights", "(II)V"⟩
abbrev cX5_addWeights : ByteArray := prog_7_method_7_code
def yX5_addWeights : MethodName := ⟨RX5, "addWeights", "(LLongTable$Matter;)V"⟩
abbrev cX5_tryNeeds : ByteArray := prog_7_method_8_code
def yX5_tryNeeds : MethodName := ⟨RX5, "tryNeeds", "(LLongTable$Matter;)V"⟩
abbrev cX5_lostByNeed : ByteArray := prog_7_method_9_code
def yX5_lostByNeed : MethodName := ⟨RX5, "lostByNeed", "(III)J"⟩
abbrev cX5_keepNeed : ByteArray := prog_7_method_10_code
def yX5_keepNeed : MethodName := ⟨RX5, "keepNeed", "(IIII)V"⟩
def RX6 : String := "LongTable$Run"
def TX6 : u_T := fun k => match k with
  | 0 => ("LongTable$Run", "x", "I", false)
  | _ => ("LongTable$Run", "signs", "[I", true)
def tyX6 : Nat → FieldType := fun k => match k with
  | 0 => .int
  | _ => .array .int
abbrev wsX60 : List Cond := u_ws RX6 TX6 2
theorem nmX6 : ∀ a, a < 2 → ∀ b, b < 2 → a ≠ b → (TX6 a).2.1 ≠ (TX6 b).2.1 := by decide +kernel
theorem tyX6_ok : ∀ k, k < 2 → parseFieldDescriptor (TX6 k).2.2.1 = some (tyX6 k) := by decide +kernel
abbrev cX6_init : ByteArray := prog_8_method_1_code
def yX6_init : MethodName := ⟨RX6, "<init>", "()V"⟩
abbrev cX6_rightOf : ByteArray := prog_8_method_2_code
def yX6_rightOf : MethodName := ⟨RX6, "rightOf", "(LLongTable$Matter;II)I"⟩
abbrev cX6_draw : ByteArray := prog_8_method_3_code
def yX6_draw : MethodName := ⟨RX6, "draw", "([III)I"⟩
def RX7 : String := "LongTable$Tape"
def TX7 : u_T := fun k => match k with
  | 0 => ("LongTable$Tape", "bytes", "[I", true)
  | _ => ("LongTable$Tape", "length", "I", false)
def tyX7 : Nat → FieldType := fun k => match k with
  | 0 => .array .int
  | _ => .int
abbrev wsX70 : List Cond := u_ws RX7 TX7 2
theorem nmX7 : ∀ a, a < 2 → ∀ b, b < 2 → a ≠ b → (TX7 a).2.1 ≠ (TX7 b).2.1 := by decide +kernel
theorem tyX7_ok : ∀ k, k < 2 → parseFieldDescriptor (TX7 k).2.2.1 = some (tyX7 k) := by decide +kernel
abbrev cX7_init : ByteArray := prog_9_method_1_code
def yX7_init : MethodName := ⟨RX7, "<init>", "()V"⟩
abbrev cX7_take : ByteArray := prog_9_method_2_code
def yX7_take : MethodName := ⟨RX7, "take", "(IIIII)I"⟩
abbrev cX7_add : ByteArray := prog_9_method_3_code
def yX7_add : MethodName := ⟨RX7, "add", "(I)V"⟩
abbrev cX7_cut : ByteArray := prog_9_method_4_code
def yX7_cut : MethodName := ⟨RX7, "cut", "(I)Z"⟩
abbrev cX7_clear : ByteArray := prog_9_method_5_code
def yX7_clear : MethodName := ⟨RX7, "clear", "()V"⟩
def RX8 : String := "LongTable$Turns"
def TX8 : u_T := fun k => match k with
  | 0 => ("LongTable$Turns", "matter", "LLongTable$Matter;", false)
  | 1 => ("LongTable$Turns", "order", "[I", true)
  | 2 => ("LongTable$Turns", "say", "[I", true)
  | 3 => ("LongTable$Turns", "left", "[J", true)
  | 4 => ("LongTable$Turns", "with", "[J", true)
  | 5 => ("LongTable$Turns", "comes", "[J", true)
  | 6 => ("LongTable$Turns", "herd", "J", false)
  | _ => ("LongTable$Turns", "astray", "J", false)
def tyX8 : Nat → FieldType := fun k => match k with
  | 0 => .object "LongTable$Matter"
  | 1 => .array .int
  | 2 => .array .int
  | 3 => .array .long
  | 4 => .array .long
  | 5 => .array .long
  | 6 => .long
  | _ => .long
abbrev wsX80 : List Cond := u_ws RX8 TX8 8
theorem nmX8 : ∀ a, a < 8 → ∀ b, b < 8 → a ≠ b → (TX8 a).2.1 ≠ (TX8 b).2.1 := by decide +kernel
theorem tyX8_ok : ∀ k, k < 8 → parseFieldDescriptor (TX8 k).2.2.1 = some (tyX8 k) := by decide +kernel
abbrev cX8_init : ByteArray := prog_10_method_1_code
def yX8_init : MethodName := ⟨RX8, "<init>", "(LLongTable$Matter;)V"⟩
abbrev cX8_isSilent : ByteArray := prog_10_method_2_code
def yX8_isSilent : MethodName := ⟨RX8, "isSilent", "()Z"⟩
abbrev cX8_hasSigns : ByteArray := prog_10_method_3_code
def yX8_hasSigns : MethodName := ⟨RX8, "hasSigns", "(LLongTable$Tape;)Z"⟩
abbrev cX8_speakAll : ByteArray := prog_10_method_4_code
def yX8_speakAll : MethodName := ⟨RX8, "speakAll", "(LLongTable$Matter;[I)V"⟩
abbrev cX8_speakInOrder : ByteArray := prog_10_method_5_code
def yX8_speakInOrder : MethodName := ⟨RX8, "speakInOrder", "()V"⟩
abbrev cX8_openTalk : ByteArray := prog_10_method_6_code
def yX8_openTalk : MethodName := ⟨RX8, "openTalk", "()V"⟩
abbrev cX8_speak : ByteArray := prog_10_method_7_code
def yX8_speak : MethodName := ⟨RX8, "speak", "(III)V"⟩
abbrev cX8_endTalk : ByteArray := prog_10_method_8_code
def yX8_endTalk : MethodName := ⟨RX8, "endTalk", "(II)V"⟩
abbrev cX8_ponder : ByteArray := prog_10_method_9_code
def yX8_ponder : MethodName := ⟨RX8, "ponder", "(I)V"⟩
abbrev cX8_cliffAt : ByteArray := prog_10_method_10_code
def yX8_cliffAt : MethodName := ⟨RX8, "cliffAt", "(II)I"⟩
abbrev cX8_follows : ByteArray := prog_10_method_11_code
def yX8_follows : MethodName := ⟨RX8, "follows", "(I)Z"⟩
abbrev cX8_hasCase : ByteArray := prog_10_method_12_code
def yX8_hasCase : MethodName := ⟨RX8, "hasCase", "(ILLongTable$Voter;I)Z"⟩
abbrev cX8_hear : ByteArray := prog_10_method_13_code
def yX8_hear : MethodName := ⟨RX8, "hear", "(II)Z"⟩
abbrev cX8_said : ByteArray := prog_10_method_14_code
def yX8_said : MethodName := ⟨RX8, "said", "([I)I"⟩
abbrev cX8_cliffWith : ByteArray := prog_10_method_15_code
def yX8_cliffWith : MethodName := ⟨RX8, "cliffWith", "([I)I"⟩
abbrev cX8_sayWith : ByteArray := prog_10_method_16_code
def yX8_sayWith : MethodName := ⟨RX8, "sayWith", "(I[I)I"⟩
abbrev cX8_tryOrders : ByteArray := prog_10_method_17_code
def yX8_tryOrders : MethodName := ⟨RX8, "tryOrders", "(LLongTable$Matter;)I"⟩
abbrev cX8_orderByTen : ByteArray := prog_10_method_18_code
def yX8_orderByTen : MethodName := ⟨RX8, "orderByTen", "()I"⟩
abbrev cX8_nextOrder : ByteArray := prog_10_method_19_code
def yX8_nextOrder : MethodName := ⟨RX8, "nextOrder", "()Z"⟩
abbrev cX8_swap : ByteArray := prog_10_method_20_code
def yX8_swap : MethodName := ⟨RX8, "swap", "(II)V"⟩
def RX9 : String := "LongTable$Voter"
def TX9 : u_T := fun k => match k with
  | 0 => ("LongTable$Voter", "signs", "I", false)
  | 1 => ("LongTable$Voter", "weight", "I", false)
  | 2 => ("LongTable$Voter", "way", "I", false)
  | 3 => ("LongTable$Voter", "shyness", "I", false)
  | 4 => ("LongTable$Voter", "like", "[I", true)
  | 5 => ("LongTable$Voter", "told", "[I", true)
  | 6 => ("LongTable$Voter", "losses", "LLongTable$Losses;", true)
  | _ => ("LongTable$Voter", "set", "[I", true)
def tyX9 : Nat → FieldType := fun k => match k with
  | 0 => .int
  | 1 => .int
  | 2 => .int
  | 3 => .int
  | 4 => .array .int
  | 5 => .array .int
  | 6 => .object "LongTable$Losses"
  | _ => .array .int
abbrev wsX90 : List Cond := u_ws RX9 TX9 8
theorem nmX9 : ∀ a, a < 8 → ∀ b, b < 8 → a ≠ b → (TX9 a).2.1 ≠ (TX9 b).2.1 := by decide +kernel
theorem tyX9_ok : ∀ k, k < 8 → parseFieldDescriptor (TX9 k).2.2.1 = some (tyX9 k) := by decide +kernel
abbrev cX9_init : ByteArray := prog_11_method_1_code
def yX9_init : MethodName := ⟨RX9, "<init>", "()V"⟩
abbrev cX9_begin : ByteArray := prog_11_method_2_code
def yX9_begin : MethodName := ⟨RX9, "begin", "(I)V"⟩
abbrev cX9_fillLosses : ByteArray := prog_11_method_3_code
def yX9_fillLosses : MethodName := ⟨RX9, "fillLosses", "(LLongTable$Losses;)V"⟩
abbrev cX9_likeliest : ByteArray := prog_11_method_4_code
def yX9_likeliest : MethodName := ⟨RX9, "likeliest", "(II)I"⟩
def RX10 : String := "LongTable$Words"
def TX10 : u_T := fun k => match k with
  | 0 => ("LongTable$Words", "matter", "LLongTable$Matter;", false)
  | 1 => ("LongTable$Words", "speaker", "LLongTable$Voter;", false)
  | 2 => ("LongTable$Words", "hearer", "LLongTable$Voter;", false)
  | 3 => ("LongTable$Words", "part", "I", false)
  | 4 => ("LongTable$Words", "with", "[J", true)
  | _ => ("LongTable$Words", "decides", "[I", true)
def tyX10 : Nat → FieldType := fun k => match k with
  | 0 => .object "LongTable$Matter"
  | 1 => .object "LongTable$Voter"
  | 2 => .object "LongTable$Voter"
  | 3 => .int
  | 4 => .array .long
  | _ => .array .int
abbrev wsX100 : List Cond := u_ws RX10 TX10 6
theorem nmX10 : ∀ a, a < 6 → ∀ b, b < 6 → a ≠ b → (TX10 a).2.1 ≠ (TX10 b).2.1 := by decide +kernel
theorem tyX10_ok : ∀ k, k < 6 → parseFieldDescriptor (TX10 k).2.2.1 = some (tyX10 k) := by decide +kernel
abbrev cX10_init : ByteArray := prog_12_method_1_code
def yX10_init : MethodName := ⟨RX10, "<init>", "(LLongTable$Matter;)V"⟩
abbrev cX10_lastPart : ByteArray := prog_12_method_2_code
def yX10_lastPart : MethodName := ⟨RX10, "lastPart", "(I)I"⟩
abbrev cX10_areBelieved : ByteArray := prog_12_method_3_code
def yX10_areBelieved : MethodName := ⟨RX10, "areBelieved", "(LLongTable$Matter;III)Z"⟩
abbrev cX10_hearWord : ByteArray := prog_12_method_4_code
def yX10_hearWord : MethodName := ⟨RX10, "hearWord", "(I)V"⟩
abbrev cX10_likelyWord : ByteArray := prog_12_method_5_code
def yX10_likelyWord : MethodName := ⟨RX10, "likelyWord", "(II)I"⟩
abbrev cX10_liesWith : ByteArray := prog_12_method_6_code
def yX10_liesWith : MethodName := ⟨RX10, "liesWith", "(II)Z"⟩
abbrev cX10_lostBy : ByteArray := prog_12_method_7_code
def yX10_lostBy : MethodName := ⟨RX10, "lostBy", "(II)J"⟩
def RX11 : String := "LongTable"
def TX11 : u_T := fun k => match k with
  | 0 => ("LongTable", "tape", "LLongTable$Tape;", true)
  | 1 => ("LongTable", "pool", "[LLongTable$Matter;", true)
  | 2 => ("LongTable", "reader", "LLongTable$Reader;", true)
  | 3 => ("LongTable", "rows", "LLongTable$Rows;", true)
  | 4 => ("LongTable", "replies", "LLongTable$Replies;", true)
  | 5 => ("LongTable", "turns", "LLongTable$Turns;", true)
  | 6 => ("LongTable", "trial", "LLongTable$Turns;", true)
  | 7 => ("LongTable", "rules", "LLongTable$Rules;", true)
  | 8 => ("LongTable", "words", "LLongTable$Words;", true)
  | 9 => ("LongTable", "run", "LLongTable$Run;", true)
  | 10 => ("LongTable", "comes", "[J", true)
  | _ => ("LongTable", "matter", "LLongTable$Matter;", false)
def tyX11 : Nat → FieldType := fun k => match k with
  | 0 => .object "LongTable$Tape"
  | 1 => .array (.object "LongTable$Matter")
  | 2 => .object "LongTable$Reader"
  | 3 => .object "LongTable$Rows"
  | 4 => .object "LongTable$Replies"
  | 5 => .object "LongTable$Turns"
  | 6 => .object "LongTable$Turns"
  | 7 => .object "LongTable$Rules"
  | 8 => .object "LongTable$Words"
  | 9 => .object "LongTable$Run"
  | 10 => .array .long
  | _ => .object "LongTable$Matter"
abbrev wsX110 : List Cond := u_ws RX11 TX11 12
theorem nmX11 : ∀ a, a < 12 → ∀ b, b < 12 → a ≠ b → (TX11 a).2.1 ≠ (TX11 b).2.1 := by decide +kernel
theorem tyX11_ok : ∀ k, k < 12 → parseFieldDescriptor (TX11 k).2.2.1 = some (tyX11 k) := by decide +kernel
abbrev cX11_init : ByteArray := prog_1_method_1_code
def yX11_init : MethodName := ⟨RX11, "<init>", "()V"⟩
abbrev cX11_feed : ByteArray := prog_1_method_2_code
def yX11_feed : MethodName := ⟨RX11, "feed", "(IIIII)I"⟩
abbrev cX11_end : ByteArray := prog_1_method_3_code
def yX11_end : MethodName := ⟨RX11, "end", "(I)Z"⟩
abbrev cX11_matter : ByteArray := prog_1_method_4_code
def yX11_matter : MethodName := ⟨RX11, "matter", "()I"⟩
abbrev cX11_fault : ByteArray := prog_1_method_5_code
def yX11_fault : MethodName := ⟨RX11, "fault", "()I"⟩
abbrev cX11_count : ByteArray := prog_1_method_6_code
def yX11_count : MethodName := ⟨RX11, "count", "(I)I"⟩
abbrev cX11_signs : ByteArray := prog_1_method_7_code
def yX11_signs : MethodName := ⟨RX11, "signs", "(I)I"⟩
abbrev cX11_parts : ByteArray := prog_1_method_8_code
def yX11_parts : MethodName := ⟨RX11, "parts", "(I)J"⟩
abbrev cX11_all : ByteArray := prog_1_method_9_code
def yX11_all : MethodName := ⟨RX11, "all", "()J"⟩
abbrev cX11_vote : ByteArray := prog_1_method_10_code
def yX11_vote : MethodName := ⟨RX11, "vote", "(II)I"⟩
abbrev cX11_decided : ByteArray := prog_1_method_11_code
def yX11_decided : MethodName := ⟨RX11, "decided", "()I"⟩
abbrev cX11_right : ByteArray := prog_1_method_12_code
def yX11_right : MethodName := ⟨RX11, "right", "()J"⟩
abbrev cX11_comes : ByteArray := prog_1_method_13_code
def yX11_comes : MethodName := ⟨RX11, "comes", "(II)J"⟩
abbrev cX11_lost : ByteArray := prog_1_method_14_code
def yX11_lost : MethodName := ⟨RX11, "lost", "()J"⟩
abbrev cX11_known : ByteArray := prog_1_method_15_code
def yX11_known : MethodName := ⟨RX11, "known", "()I"⟩
abbrev cX11_knows : ByteArray := prog_1_method_16_code
def yX11_knows : MethodName := ⟨RX11, "knows", "(I)J"⟩
abbrev cX11_turns : ByteArray := prog_1_method_17_code
def yX11_turns : MethodName := ⟨RX11, "turns", "(II)J"⟩
abbrev cX11_think : ByteArray := prog_1_method_18_code
def yX11_think : MethodName := ⟨RX11, "think", "(III)J"⟩
abbrev cX11_reply : ByteArray := prog_1_method_19_code
def yX11_reply : MethodName := ⟨RX11, "reply", "(II)I"⟩
abbrev cX11_fit : ByteArray := prog_1_method_20_code
def yX11_fit : MethodName := ⟨RX11, "fit", "()I"⟩
abbrev cX11_settle : ByteArray := prog_1_method_21_code
def yX11_settle : MethodName := ⟨RX11, "settle", "()I"⟩
abbrev cX11_settled : ByteArray := prog_1_method_22_code
def yX11_settled : MethodName := ⟨RX11, "settled", "(II)I"⟩
abbrev cX11_settles : ByteArray := prog_1_method_23_code
def yX11_settles : MethodName := ⟨RX11, "settles", "(I)J"⟩
abbrev cX11_inTurns : ByteArray := prog_1_method_24_code
def yX11_inTurns : MethodName := ⟨RX11, "inTurns", "()J"⟩
abbrev cX11_herd : ByteArray := prog_1_method_25_code
def yX11_herd : MethodName := ⟨RX11, "herd", "(I)J"⟩
abbrev cX11_says : ByteArray := prog_1_method_26_code
def yX11_says : MethodName := ⟨RX11, "says", "()I"⟩
abbrev cX11_cliff : ByteArray := prog_1_method_27_code
def yX11_cliff : MethodName := ⟨RX11, "cliff", "()I"⟩
abbrev cX11_bestOrder : ByteArray := prog_1_method_28_code
def yX11_bestOrder : MethodName := ⟨RX11, "bestOrder", "()I"⟩
abbrev cX11_bestRule : ByteArray := prog_1_method_29_code
def yX11_bestRule : MethodName := ⟨RX11, "bestRule", "()J"⟩
abbrev cX11_bar : ByteArray := prog_1_method_30_code
def yX11_bar : MethodName := ⟨RX11, "bar", "(II)I"⟩
abbrev cX11_barLost : ByteArray := prog_1_method_31_code
def yX11_barLost : MethodName := ⟨RX11, "barLost", "()J"⟩
abbrev cX11_silent : ByteArray := prog_1_method_32_code
def yX11_silent : MethodName := ⟨RX11, "silent", "()I"⟩
abbrev cX11_helps : ByteArray := prog_1_method_33_code
def yX11_helps : MethodName := ⟨RX11, "helps", "(II)I"⟩
abbrev cX11_believed : ByteArray := prog_1_method_34_code
def yX11_believed : MethodName := ⟨RX11, "believed", "(III)I"⟩
abbrev cX11_minutes : ByteArray := prog_1_method_35_code
def yX11_minutes : MethodName := ⟨RX11, "minutes", "(II)J"⟩
abbrev cX11_shut : ByteArray := prog_1_method_36_code
def yX11_shut : MethodName := ⟨RX11, "shut", "(III)J"⟩
abbrev cX11_fits : ByteArray := prog_1_method_37_code
def yX11_fits : MethodName := ⟨RX11, "fits", "()I"⟩
abbrev cX11_fitAt : ByteArray := prog_1_method_38_code
def yX11_fitAt : MethodName := ⟨RX11, "fitAt", "(II)I"⟩
abbrev cX11_weighed : ByteArray := prog_1_method_39_code
def yX11_weighed : MethodName := ⟨RX11, "weighed", "()J"⟩
abbrev cX11_weighedAt : ByteArray := prog_1_method_40_code
def yX11_weighedAt : MethodName := ⟨RX11, "weighedAt", "(I)I"⟩
abbrev cX11_guess : ByteArray := prog_1_method_41_code
def yX11_guess : MethodName := ⟨RX11, "guess", "()I"⟩
abbrev cX11_many : ByteArray := prog_1_method_42_code
def yX11_many : MethodName := ⟨RX11, "many", "(II)J"⟩
abbrev cX11_run : ByteArray := prog_1_method_43_code
def yX11_run : MethodName := ⟨RX11, "run", "(II)I"⟩
abbrev cX11_lostWithout : ByteArray := prog_1_method_44_code
def yX11_lostWithout : MethodName := ⟨RX11, "lostWithout", "(II)J"⟩
abbrev cX11_spareMatter : ByteArray := prog_1_method_45_code
def yX11_spareMatter : MethodName := ⟨RX11, "spareMatter", "()LLongTable$Matter;"⟩
abbrev cX11_inTable : ByteArray := prog_1_method_46_code
def yX11_inTable : MethodName := ⟨RX11, "inTable", "(II)Z"⟩
abbrev cX11_power : ByteArray := prog_1_method_47_code
def yX11_power : MethodName := ⟨RX11, "power", "(II)J"⟩
abbrev cX11_rightOf : ByteArray := prog_1_method_48_code
def yX11_rightOf : MethodName := ⟨RX11, "rightOf", "([J)J"⟩
abbrev cX11_sumOf : ByteArray := prog_1_method_49_code
def yX11_sumOf : MethodName := ⟨RX11, "sumOf", "([J)J"⟩
abbrev cX11_empty : ByteArray := prog_1_method_50_code
def yX11_empty : MethodName := ⟨RX11, "empty", "([J)V"⟩
def RX12 : String := "LongTableModel"
def TX12 : u_T := fun k => match k with
  | 0 => ("LongTableModel", "thrown", "I", false)
  | 1 => ("LongTableModel", "tape", "[I", true)
  | 2 => ("LongTableModel", "taped", "I", false)
  | 3 => ("LongTableModel", "size", "I", false)
  | 4 => ("LongTableModel", "to", "I", false)
  | 5 => ("LongTableModel", "from", "I", false)
  | 6 => ("LongTableModel", "kind", "I", false)
  | 7 => ("LongTableModel", "number", "I", false)
  | 8 => ("LongTableModel", "fault", "I", false)
  | 9 => ("LongTableModel", "place", "I", false)
  | 10 => ("LongTableModel", "word", "J", false)
  | 11 => ("LongTableModel", "truthName", "[J", true)
  | 12 => ("LongTableModel", "voterName", "[J", true)
  | 13 => ("LongTableModel", "truthsOf", "[I", true)
  | 14 => ("LongTableModel", "votersOf", "[I", true)
  | 15 => ("LongTableModel", "chance", "[I", true)
  | 16 => ("LongTableModel", "signsOf", "[I", true)
  | 17 => ("LongTableModel", "likely", "[I", true)
  | 18 => ("LongTableModel", "loss", "[I", true)
  | 19 => ("LongTableModel", "way", "[I", true)
  | 20 => ("LongTableModel", "shy", "[I", true)
  | 21 => ("LongTableModel", "set", "[I", true)
  | 22 => ("LongTableModel", "weight", "[I", true)
  | 23 => ("LongTableModel", "need", "[I", true)
  | 24 => ("LongTableModel", "needFor", "[I", true)
  | 25 => ("LongTableModel", "needElse", "[I", true)
  | 26 => ("LongTableModel", "chairOf", "[I", true)
  | 27 => ("LongTableModel", "lines", "I", false)
  | 28 => ("LongTableModel", "told", "I", false)
  | 29 => ("LongTableModel", "truths", "I", false)
  | 30 => ("LongTableModel", "voters", "I", false)
  | 31 => ("LongTableModel", "rows", "I", false)
  | 32 => ("LongTableModel", "radix", "[I", true)
  | 33 => ("LongTableModel", "part", "[J", true)
  | 34 => ("LongTableModel", "vote", "[I", true)
  | 35 => ("LongTableModel", "ballot", "[I", true)
  | 36 => ("LongTableModel", "tally", "[I", true)
  | 37 => ("LongTableModel", "loses", "[J", true)
  | 38 => ("LongTableModel", "settledVote", "[I", true)
  | 39 => ("LongTableModel", "settledSigns", "[I", true)
  | 40 => ("LongTableModel", "replies", "[I", true)
  | 41 => ("LongTableModel", "settledVoters", "I", false)
  | 42 => ("LongTableModel", "settledRight", "J", false)
  | 43 => ("LongTableModel", "settledLost", "J", false)
  | 44 => ("LongTableModel", "turnOf", "[I", true)
  | 45 => ("LongTableModel", "history", "[I", true)
  | 46 => ("LongTableModel", "said", "[I", true)
  | 47 => ("LongTableModel", "says", "[I", true)
  | 48 => ("LongTableModel", "sums", "[J", true)
  | 49 => ("LongTableModel", "has", "[Z", true)
  | 50 => ("LongTableModel", "turnMany", "I", false)
  | 51 => ("LongTableModel", "toldOrder", "[I", true)
  | 52 => ("LongTableModel", "toldMany", "I", false)
  | 53 => ("LongTableModel", "herds", "J", false)
  | 54 => ("LongTableModel", "astray", "J", false)
  | 55 => ("LongTableModel", "turnsRight", "J", false)
  | 56 => ("LongTableModel", "toldSays", "[I", true)
  | 57 => ("LongTableModel", "toldSigns", "[I", true)
  | 58 => ("LongTableModel", "byVotes", "[J", true)
  | 59 => ("LongTableModel", "isVoted", "[Z", true)
  | 60 => ("LongTableModel", "byWeight", "[J", true)
  | 61 => ("LongTableModel", "barLost", "J", false)
  | 62 => ("LongTableModel", "weighs", "[I", true)
  | 63 => ("LongTableModel", "weighedAt", "[I", true)
  | 64 => ("LongTableModel", "weighedVoters", "I", false)
  | 65 => ("LongTableModel", "heard", "[I", true)
  | 66 => ("LongTableModel", "fitVote", "[I", true)
  | 67 => ("LongTableModel", "fitSigns", "[I", true)
  | 68 => ("LongTableModel", "fitVoters", "I", false)
  | _ => ("LongTableModel", "seed", "I", false)
def tyX12 : Nat → FieldType := fun k => match k with
  | 0 => .int
  | 1 => .array .int
  | 2 => .int
  | 3 => .int
  | 4 => .int
  | 5 => .int
  | 6 => .int
  | 7 => .int
  | 8 => .int
  | 9 => .int
  | 10 => .long
  | 11 => .array .long
  | 12 => .array .long
  | 13 => .array .int
  | 14 => .array .int
  | 15 => .array .int
  | 16 => .array .int
  | 17 => .array .int
  | 18 => .array .int
  | 19 => .array .int
  | 20 => .array .int
  | 21 => .array .int
  | 22 => .array .int
  | 23 => .array .int
  | 24 => .array .int
  | 25 => .array .int
  | 26 => .array .int
  | 27 => .int
  | 28 => .int
  | 29 => .int
  | 30 => .int
  | 31 => .int
  | 32 => .array .int
  | 33 => .array .long
  | 34 => .array .int
  | 35 => .array .int
  | 36 => .array .int
  | 37 => .array .long
  | 38 => .array .int
  | 39 => .array .int
  | 40 => .array .int
  | 41 => .int
  | 42 => .long
  | 43 => .long
  | 44 => .array .int
  | 45 => .array .int
  | 46 => .array .int
  | 47 => .array .int
  | 48 => .array .long
  | 49 => .array .boolean
  | 50 => .int
  | 51 => .array .int
  | 52 => .int
  | 53 => .long
  | 54 => .long
  | 55 => .long
  | 56 => .array .int
  | 57 => .array .int
  | 58 => .array .long
  | 59 => .array .boolean
  | 60 => .array .long
  | 61 => .long
  | 62 => .array .int
  | 63 => .array .int
  | 64 => .int
  | 65 => .array .int
  | 66 => .array .int
  | 67 => .array .int
  | 68 => .int
  | _ => .int
abbrev wsX120 : List Cond := u_ws RX12 TX12 70
theorem nmX12 : ∀ a, a < 70 → ∀ b, b < 70 → a ≠ b → (TX12 a).2.1 ≠ (TX12 b).2.1 := by decide +kernel
theorem tyX12_ok : ∀ k, k < 70 → parseFieldDescriptor (TX12 k).2.2.1 = some (tyX12 k) := by decide +kernel
abbrev cX12_init : ByteArray := prog_14_method_1_code
def yX12_init : MethodName := ⟨RX12, "<init>", "()V"⟩
abbrev cX12_thrown : ByteArray := prog_14_method_2_code
def yX12_thrown : MethodName := ⟨RX12, "thrown", "()I"⟩
abbrev cX12_refuse : ByteArray := prog_14_method_3_code
def yX12_refuse : MethodName := ⟨RX12, "refuse", "()J"⟩
abbrev cX12_come : ByteArray := prog_14_method_4_code
def yX12_come : MethodName := ⟨RX12, "come", "(I)V"⟩
abbrev cX12_feed : ByteArray := prog_14_method_5_code
def yX12_feed : MethodName := ⟨RX12, "feed", "(IIIII)I"⟩
abbrev cX12_end : ByteArray := prog_14_method_6_code
def yX12_end : MethodName := ⟨RX12, "end", "(I)Z"⟩
abbrev cX12_take : ByteArray := prog_14_method_7_code
def yX12_take : MethodName := ⟨RX12, "take", "()I"⟩
abbrev cX12_isIn : ByteArray := prog_14_method_8_code
def yX12_isIn : MethodName := ⟨RX12, "isIn", "(III)Z"⟩
abbrev cX12_byteAt : ByteArray := prog_14_method_9_code
def yX12_byteAt : MethodName := ⟨RX12, "byteAt", "(I)I"⟩
abbrev cX12_isDigit : ByteArray := prog_14_method_10_code
def yX12_isDigit : MethodName := ⟨RX12, "isDigit", "(I)Z"⟩
abbrev cX12_isLetter : ByteArray := prog_14_method_11_code
def yX12_isLetter : MethodName := ⟨RX12, "isLetter", "(I)Z"⟩
abbrev cX12_go : ByteArray := prog_14_method_12_code
def yX12_go : MethodName := ⟨RX12, "go", "()V"⟩
abbrev cX12_spelt : ByteArray := prog_14_method_13_code
def yX12_spelt : MethodName := ⟨RX12, "spelt", "(IIIII)J"⟩
abbrev cX12_six : ByteArray := prog_14_method_14_code
def yX12_six : MethodName := ⟨RX12, "six", "(IIIIII)J"⟩
abbrev cX12_isKey : ByteArray := prog_14_method_15_code
def yX12_isKey : MethodName := ⟨RX12, "isKey", "(J)Z"⟩
abbrev cX12_bad : ByteArray := prog_14_method_16_code
def yX12_bad : MethodName := ⟨RX12, "bad", "(I)Z"⟩
abbrev cX12_readKey : ByteArray := prog_14_method_17_code
def yX12_readKey : MethodName := ⟨RX12, "readKey", "(J)Z"⟩
abbrev cX12_none : ByteArray := prog_14_method_18_code
def yX12_none : MethodName := ⟨RX12, "none", "()J"⟩
abbrev cX12_chair : ByteArray := prog_14_method_19_code
def yX12_chair : MethodName := ⟨RX12, "chair", "()J"⟩
abbrev cX12_other : ByteArray := prog_14_method_20_code
def yX12_other : MethodName := ⟨RX12, "other", "()J"⟩
abbrev cX12_lineAtHand : ByteArray := prog_14_method_21_code
def yX12_lineAtHand : MethodName := ⟨RX12, "lineAtHand", "()I"⟩
abbrev cX12_wayAtHand : ByteArray := prog_14_method_22_code
def yX12_wayAtHand : MethodName := ⟨RX12, "wayAtHand", "()I"⟩
abbrev cX12_isName : ByteArray := prog_14_method_23_code
def yX12_isName : MethodName := ⟨RX12, "isName", "()Z"⟩
abbrev cX12_findTruth : ByteArray := prog_14_method_24_code
def yX12_findTruth : MethodName := ⟨RX12, "findTruth", "()I"⟩
abbrev cX12_findVoter : ByteArray := prog_14_method_25_code
def yX12_findVoter : MethodName := ⟨RX12, "findVoter", "()I"⟩
abbrev cX12_readNumber : ByteArray := prog_14_method_26_code
def yX12_readNumber : MethodName := ⟨RX12, "readNumber", "(II)Z"⟩
abbrev cX12_readNew : ByteArray := prog_14_method_27_code
def yX12_readNew : MethodName := ⟨RX12, "readNew", "()Z"⟩
abbrev cX12_readTruth : ByteArray := prog_14_method_28_code
def yX12_readTruth : MethodName := ⟨RX12, "readTruth", "()Z"⟩
abbrev cX12_readVoter : ByteArray := prog_14_method_29_code
def yX12_readVoter : MethodName := ⟨RX12, "readVoter", "()Z"⟩
abbrev cX12_readTruthLine : ByteArray := prog_14_method_30_code
def yX12_readTruthLine : MethodName := ⟨RX12, "readTruthLine", "()Z"⟩
abbrev cX12_areTruths : ByteArray := prog_14_method_31_code
def yX12_areTruths : MethodName := ⟨RX12, "areTruths", "()Z"⟩
abbrev cX12_readVoterLine : ByteArray := prog_14_method_32_code
def yX12_readVoterLine : MethodName := ⟨RX12, "readVoterLine", "()Z"⟩
abbrev cX12_readLoss : ByteArray := prog_14_method_33_code
def yX12_readLoss : MethodName := ⟨RX12, "readLoss", "()Z"⟩
abbrev cX12_readWay : ByteArray := prog_14_method_34_code
def yX12_readWay : MethodName := ⟨RX12, "readWay", "()Z"⟩
abbrev cX12_readRule : ByteArray := prog_14_method_35_code
def yX12_readRule : MethodName := ⟨RX12, "readRule", "()Z"⟩
abbrev cX12_readLine : ByteArray := prog_14_method_36_code
def yX12_readLine : MethodName := ⟨RX12, "readLine", "()Z"⟩
abbrev cX12_matter : ByteArray := prog_14_method_37_code
def yX12_matter : MethodName := ⟨RX12, "matter", "()I"⟩
abbrev cX12_keep : ByteArray := prog_14_method_38_code
def yX12_keep : MethodName := ⟨RX12, "keep", "()V"⟩
abbrev cX12_fault : ByteArray := prog_14_method_39_code
def yX12_fault : MethodName := ⟨RX12, "fault", "()I"⟩
abbrev cX12_layRows : ByteArray := prog_14_method_40_code
def yX12_layRows : MethodName := ⟨RX12, "layRows", "()V"⟩
abbrev cX12_sign : ByteArray := prog_14_method_41_code
def yX12_sign : MethodName := ⟨RX12, "sign", "(II)I"⟩
abbrev cX12_loss : ByteArray := prog_14_method_42_code
def yX12_loss : MethodName := ⟨RX12, "loss", "(III)I"⟩
abbrev cX12_count : ByteArray := prog_14_method_43_code
def yX12_count : MethodName := ⟨RX12, "count", "(I)I"⟩
abbrev cX12_isVoter : ByteArray := prog_14_method_44_code
def yX12_isVoter : MethodName := ⟨RX12, "isVoter", "(I)Z"⟩
abbrev cX12_isTruth : ByteArray := prog_14_method_45_code
def yX12_isTruth : MethodName := ⟨RX12, "isTruth", "(I)Z"⟩
abbrev cX12_isSign : ByteArray := prog_14_method_46_code
def yX12_isSign : MethodName := ⟨RX12, "isSign", "(II)Z"⟩
abbrev cX12_signs : ByteArray := prog_14_method_47_code
def yX12_signs : MethodName := ⟨RX12, "signs", "(I)I"⟩
abbrev cX12_rowTold : ByteArray := prog_14_method_48_code
def yX12_rowTold : MethodName := ⟨RX12, "rowTold", "()I"⟩
abbrev cX12_parts : ByteArray := prog_14_method_49_code
def yX12_parts : MethodName := ⟨RX12, "parts", "(I)J"⟩
abbrev cX12_all : ByteArray := prog_14_method_50_code
def yX12_all : MethodName := ⟨RX12, "all", "()J"⟩
abbrev cX12_least : ByteArray := prog_14_method_51_code
def yX12_least : MethodName := ⟨RX12, "least", "(JJJ)I"⟩
abbrev cX12_weightOf : ByteArray := prog_14_method_52_code
def yX12_weightOf : MethodName := ⟨RX12, "weightOf", "(III)J"⟩
abbrev cX12_losing : ByteArray := prog_14_method_53_code
def yX12_losing : MethodName := ⟨RX12, "losing", "(III)J"⟩
abbrev cX12_honest : ByteArray := prog_14_method_54_code
def yX12_honest : MethodName := ⟨RX12, "honest", "(II)I"⟩
abbrev cX12_told : ByteArray := prog_14_method_55_code
def yX12_told : MethodName := ⟨RX12, "told", "(II)I"⟩
abbrev cX12_layVotes : ByteArray := prog_14_method_56_code
def yX12_layVotes : MethodName := ⟨RX12, "layVotes", "()V"⟩
abbrev cX12_tryTold : ByteArray := prog_14_method_57_code
def yX12_tryTold : MethodName := ⟨RX12, "tryTold", "()V"⟩
abbrev cX12_vote : ByteArray := prog_14_method_58_code
def yX12_vote : MethodName := ⟨RX12, "vote", "(II)I"⟩
abbrev cX12_decide : ByteArray := prog_14_method_59_code
def yX12_decide : MethodName := ⟨RX12, "decide", "()I"⟩
abbrev cX12_decideRow : ByteArray := prog_14_method_60_code
def yX12_decideRow : MethodName := ⟨RX12, "decideRow", "(II)I"⟩
abbrev cX12_decided : ByteArray := prog_14_method_61_code
def yX12_decided : MethodName := ⟨RX12, "decided", "()I"⟩
abbrev cX12_rightBy : ByteArray := prog_14_method_62_code
def yX12_rightBy : MethodName := ⟨RX12, "rightBy", "(I)J"⟩
abbrev cX12_lostBy : ByteArray := prog_14_method_63_code
def yX12_lostBy : MethodName := ⟨RX12, "lostBy", "(I)J"⟩
abbrev cX12_right : ByteArray := prog_14_method_64_code
def yX12_right : MethodName := ⟨RX12, "right", "()J"⟩
abbrev cX12_lost : ByteArray := prog_14_method_65_code
def yX12_lost : MethodName := ⟨RX12, "lost", "()J"⟩
abbrev cX12_comes : ByteArray := prog_14_method_66_code
def yX12_comes : MethodName := ⟨RX12, "comes", "(II)J"⟩
abbrev cX12_commonly : ByteArray := prog_14_method_67_code
def yX12_commonly : MethodName := ⟨RX12, "commonly", "(II)J"⟩
abbrev cX12_knownAt : ByteArray := prog_14_method_68_code
def yX12_knownAt : MethodName := ⟨RX12, "knownAt", "(I)I"⟩
abbrev cX12_known : ByteArray := prog_14_method_69_code
def yX12_known : MethodName := ⟨RX12, "known", "()I"⟩
abbrev cX12_knows : ByteArray := prog_14_method_70_code
def yX12_knows : MethodName := ⟨RX12, "knows", "(I)J"⟩
abbrev cX12_decideWith : ByteArray := prog_14_method_71_code
def yX12_decideWith : MethodName := ⟨RX12, "decideWith", "(II)I"⟩
abbrev cX12_isTurned : ByteArray := prog_14_method_72_code
def yX12_isTurned : MethodName := ⟨RX12, "isTurned", "(II)Z"⟩
abbrev cX12_turned : ByteArray := prog_14_method_73_code
def yX12_turned : MethodName := ⟨RX12, "turned", "(III)J"⟩
abbrev cX12_turns : ByteArray := prog_14_method_74_code
def yX12_turns : MethodName := ⟨RX12, "turns", "(II)J"⟩
abbrev cX12_think : ByteArray := prog_14_method_75_code
def yX12_think : MethodName := ⟨RX12, "think", "(III)J"⟩
abbrev cX12_replyBy : ByteArray := prog_14_method_76_code
def yX12_replyBy : MethodName := ⟨RX12, "replyBy", "(III)I"⟩
abbrev cX12_reply : ByteArray := prog_14_method_77_code
def yX12_reply : MethodName := ⟨RX12, "reply", "(II)I"⟩
abbrev cX12_isFitBy : ByteArray := prog_14_method_78_code
def yX12_isFitBy : MethodName := ⟨RX12, "isFitBy", "(I)Z"⟩
abbrev cX12_fit : ByteArray := prog_14_method_79_code
def yX12_fit : MethodName := ⟨RX12, "fit", "()I"⟩
abbrev cX12_settle : ByteArray := prog_14_method_80_code
def yX12_settle : MethodName := ⟨RX12, "settle", "()I"⟩
abbrev cX12_settled : ByteArray := prog_14_method_81_code
def yX12_settled : MethodName := ⟨RX12, "settled", "(II)I"⟩
abbrev cX12_settles : ByteArray := prog_14_method_82_code
def yX12_settles : MethodName := ⟨RX12, "settles", "(I)J"⟩
abbrev cX12_speak : ByteArray := prog_14_method_83_code
def yX12_speak : MethodName := ⟨RX12, "speak", "()V"⟩
abbrev cX12_speakRow : ByteArray := prog_14_method_84_code
def yX12_speakRow : MethodName := ⟨RX12, "speakRow", "(I)I"⟩
abbrev cX12_cliffOfSaid : ByteArray := prog_14_method_85_code
def yX12_cliffOfSaid : MethodName := ⟨RX12, "cliffOfSaid", "(I)I"⟩
abbrev cX12_lostInTurns : ByteArray := prog_14_method_86_code
def yX12_lostInTurns : MethodName := ⟨RX12, "lostInTurns", "()J"⟩
abbrev cX12_inTurns : ByteArray := prog_14_method_87_code
def yX12_inTurns : MethodName := ⟨RX12, "inTurns", "()J"⟩
abbrev cX12_speakTold : ByteArray := prog_14_method_88_code
def yX12_speakTold : MethodName := ⟨RX12, "speakTold", "()Z"⟩
abbrev cX12_herd : ByteArray := prog_14_method_89_code
def yX12_herd : MethodName := ⟨RX12, "herd", "(I)J"⟩
abbrev cX12_says : ByteArray := prog_14_method_90_code
def yX12_says : MethodName := ⟨RX12, "says", "()I"⟩
abbrev cX12_cliff : ByteArray := prog_14_method_91_code
def yX12_cliff : MethodName := ⟨RX12, "cliff", "()I"⟩
abbrev cX12_bestOrder : ByteArray := prog_14_method_92_code
def yX12_bestOrder : MethodName := ⟨RX12, "bestOrder", "()I"⟩
abbrev cX12_goOn : ByteArray := prog_14_method_93_code
def yX12_goOn : MethodName := ⟨RX12, "goOn", "()Z"⟩
abbrev cX12_exchange : ByteArray := prog_14_method_94_code
def yX12_exchange : MethodName := ⟨RX12, "exchange", "(II)V"⟩
abbrev cX12_votesOf : ByteArray := prog_14_method_95_code
def yX12_votesOf : MethodName := ⟨RX12, "votesOf", "(I)I"⟩
abbrev cX12_layByVotes : ByteArray := prog_14_method_96_code
def yX12_layByVotes : MethodName := ⟨RX12, "layByVotes", "()V"⟩
abbrev cX12_bestRule : ByteArray := prog_14_method_97_code
def yX12_bestRule : MethodName := ⟨RX12, "bestRule", "()J"⟩
abbrev cX12_layByWeight : ByteArray := prog_14_method_98_code
def yX12_layByWeight : MethodName := ⟨RX12, "layByWeight", "(I[II)V"⟩
abbrev cX12_lostByNeed : ByteArray := prog_14_method_99_code
def yX12_lostByNeed : MethodName := ⟨RX12, "lostByNeed", "(IIII)J"⟩
abbrev cX12_bar : ByteArray := prog_14_method_100_code
def yX12_bar : MethodName := ⟨RX12, "bar", "(II)I"⟩
abbrev cX12_barLost : ByteArray := prog_14_method_101_code
def yX12_barLost : MethodName := ⟨RX12, "barLost", "()J"⟩
abbrev cX12_weighed : ByteArray := prog_14_method_102_code
def yX12_weighed : MethodName := ⟨RX12, "weighed", "()J"⟩
abbrev cX12_weighedAt : ByteArray := prog_14_method_103_code
def yX12_weighedAt : MethodName := ⟨RX12, "weighedAt", "(I)I"⟩
abbrev cX12_silence : ByteArray := prog_14_method_104_code
def yX12_silence : MethodName := ⟨RX12, "silence", "(I)V"⟩
abbrev cX12_lostWithout : ByteArray := prog_14_method_105_code
def yX12_lostWithout : MethodName := ⟨RX12, "lostWithout", "(II)J"⟩
abbrev cX12_silent : ByteArray := prog_14_method_106_code
def yX12_silent : MethodName := ⟨RX12, "silent", "()I"⟩
abbrev cX12_helps : ByteArray := prog_14_method_107_code
def yX12_helps : MethodName := ⟨RX12, "helps", "(II)I"⟩
abbrev cX12_wordOf : ByteArray := prog_14_method_108_code
def yX12_wordOf : MethodName := ⟨RX12, "wordOf", "(III)I"⟩
abbrev cX12_both : ByteArray := prog_14_method_109_code
def yX12_both : MethodName := ⟨RX12, "both", "(IIIII)J"⟩
abbrev cX12_believed : ByteArray := prog_14_method_110_code
def yX12_believed : MethodName := ⟨RX12, "believed", "(III)I"⟩
abbrev cX12_lostByWord : ByteArray := prog_14_method_111_code
def yX12_lostByWord : MethodName := ⟨RX12, "lostByWord", "(IIII)J"⟩
abbrev cX12_areVotesTold : ByteArray := prog_14_method_112_code
def yX12_areVotesTold : MethodName := ⟨RX12, "areVotesTold", "()Z"⟩
abbrev cX12_votesAsTold : ByteArray := prog_14_method_113_code
def yX12_votesAsTold : MethodName := ⟨RX12, "votesAsTold", "(I)Z"⟩
abbrev cX12_allOf : ByteArray := prog_14_method_114_code
def yX12_allOf : MethodName := ⟨RX12, "allOf", "(I)J"⟩
abbrev cX12_minutes : ByteArray := prog_14_method_115_code
def yX12_minutes : MethodName := ⟨RX12, "minutes", "(II)J"⟩
abbrev cX12_shut : ByteArray := prog_14_method_116_code
def yX12_shut : MethodName := ⟨RX12, "shut", "(III)J"⟩
abbrev cX12_guess : ByteArray := prog_14_method_117_code
def yX12_guess : MethodName := ⟨RX12, "guess", "()I"⟩
abbrev cX12_fits : ByteArray := prog_14_method_118_code
def yX12_fits : MethodName := ⟨RX12, "fits", "()I"⟩
abbrev cX12_fitAt : ByteArray := prog_14_method_119_code
def yX12_fitAt : MethodName := ⟨RX12, "fitAt", "(II)I"⟩
abbrev cX12_many : ByteArray := prog_14_method_120_code
def yX12_many : MethodName := ⟨RX12, "many", "(II)J"⟩
abbrev cX12_draw : ByteArray := prog_14_method_121_code
def yX12_draw : MethodName := ⟨RX12, "draw", "()I"⟩
abbrev cX12_run : ByteArray := prog_14_method_122_code
def yX12_run : MethodName := ⟨RX12, "run", "(II)I"⟩
def RJ9 : String := "java/lang/Math"
def TJ9 : u_T := fun k => match k with
  | _ => ("", "", "", false)
def tyJ9 : Nat → FieldType := fun k => match k with
  | _ => .int
abbrev wsJ90 : List Cond := u_ws RJ9 TJ9 0
theorem nmJ9 : ∀ a, a < 0 → ∀ b, b < 0 → a ≠ b → (TJ9 a).2.1 ≠ (TJ9 b).2.1 := by decide +kernel
theorem tyJ9_ok : ∀ k, k < 0 → parseFieldDescriptor (TJ9 k).2.2.1 = some (tyJ9 k) := by decide +kernel
abbrev cJ9_max_7cf53 : ByteArray := prog_17_method_65_code
def yJ9_max_7cf53 : MethodName := ⟨RJ9, "max", "(II)I"⟩
abbrev cJ9_min_7cf53 : ByteArray := prog_17_method_69_code
def yJ9_min_7cf53 : MethodName := ⟨RJ9, "min", "(II)I"⟩
def RL : String := "LongTableLaw"
abbrev cL_parts : ByteArray := method_3_code
def yL_parts : MethodName := ⟨RL, "parts", "(LLongTable;I[J)I"⟩
abbrev cL_comes : ByteArray := method_4_code
def yL_comes : MethodName := ⟨RL, "comes", "(LLongTable;II[J)I"⟩
abbrev cL_knows : ByteArray := method_5_code
def yL_knows : MethodName := ⟨RL, "knows", "(LLongTable;I[J)I"⟩
abbrev cL_turns : ByteArray := method_6_code
def yL_turns : MethodName := ⟨RL, "turns", "(LLongTable;II[J)I"⟩
abbrev cL_think : ByteArray := method_7_code
def yL_think : MethodName := ⟨RL, "think", "(LLongTable;III[J)I"⟩
abbrev cL_bestRule : ByteArray := method_8_code
def yL_bestRule : MethodName := ⟨RL, "bestRule", "(LLongTable;[J)I"⟩
abbrev cL_minutes : ByteArray := method_9_code
def yL_minutes : MethodName := ⟨RL, "minutes", "(LLongTable;II[J)I"⟩
abbrev cL_shut : ByteArray := method_10_code
def yL_shut : MethodName := ⟨RL, "shut", "(LLongTable;III[J)I"⟩
abbrev cL_many : ByteArray := method_11_code
def yL_many : MethodName := ⟨RL, "many", "(LLongTable;II[J)I"⟩
abbrev cL_law : ByteArray := code
def yL_law : MethodName := ⟨RL, "law", "([I)Z"⟩
