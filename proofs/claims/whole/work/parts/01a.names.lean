-- ===== PART A: goes FIRST, ahead of the names: the tables' words, and 'selects' of the private methods out of them =====
/-- a private method of a class that the tables say can be made, by its rows of tables_1 -/
def lw_okq (q : MethodName × Nat) : Prop := (q.1.cls ≠ "java/lang/invoke/MethodHandle" ∧ q.1.cls ≠ "java/lang/invoke/VarHandle") ∧ Cond.instantiable q.1.cls q.2 ∈ tables_1 ∧ Cond.privateMethod q.1 ∈ tables_1 ∧ Cond.instanceMethod q.1 ∈ tables_1
theorem lw_p0 : lw_okq (⟨"SwingWeights", "beginAct", "()V"⟩, 7) := ⟨⟨by decide +kernel, by decide +kernel⟩, List.mem_of_getElem? (i := 13) (by decide +kernel), List.mem_of_getElem? (i := 197) (by decide +kernel), List.mem_of_getElem? (i := 198) (by decide +kernel)⟩
theorem lw_p1 : lw_okq (⟨"SwingWeights$History", "dropOldest", "()V"⟩, 2) := ⟨⟨by decide +kernel, by decide +kernel⟩, List.mem_of_getElem? (i := 88) (by decide +kernel), List.mem_of_getElem? (i := 205) (by decide +kernel), List.mem_of_getElem? (i := 206) (by decide +kernel)⟩
theorem lw_p2 : lw_okq (⟨"SwingWeights$State", "tellSwings", "(IZ)V"⟩, 7) := ⟨⟨by decide +kernel, by decide +kernel⟩, List.mem_of_getElem? (i := 21) (by decide +kernel), List.mem_of_getElem? (i := 328) (by decide +kernel), List.mem_of_getElem? (i := 329) (by decide +kernel)⟩
theorem lw_p3 : lw_okq (⟨"SwingWeights", "currentPower", "()LSwingWeights$Power;"⟩, 7) := ⟨⟨by decide +kernel, by decide +kernel⟩, List.mem_of_getElem? (i := 13) (by decide +kernel), List.mem_of_getElem? (i := 367) (by decide +kernel), List.mem_of_getElem? (i := 368) (by decide +kernel)⟩
theorem lw_p4 : lw_okq (⟨"SwingWeights$Power", "listCoalitions", "()V"⟩, 13) := ⟨⟨by decide +kernel, by decide +kernel⟩, List.mem_of_getElem? (i := 120) (by decide +kernel), List.mem_of_getElem? (i := 382) (by decide +kernel), List.mem_of_getElem? (i := 383) (by decide +kernel)⟩
theorem lw_p5 : lw_okq (⟨"SwingWeights$Power", "repeatCoalitionsWith", "(I)V"⟩, 13) := ⟨⟨by decide +kernel, by decide +kernel⟩, List.mem_of_getElem? (i := 120) (by decide +kernel), List.mem_of_getElem? (i := 387) (by decide +kernel), List.mem_of_getElem? (i := 388) (by decide +kernel)⟩
theorem lw_p6 : lw_okq (⟨"SwingWeights$Power", "countWinning", "()V"⟩, 13) := ⟨⟨by decide +kernel, by decide +kernel⟩, List.mem_of_getElem? (i := 120) (by decide +kernel), List.mem_of_getElem? (i := 391) (by decide +kernel), List.mem_of_getElem? (i := 392) (by decide +kernel)⟩
theorem lw_p7 : lw_okq (⟨"SwingWeights$Power", "hasAllVetoes", "(I)Z"⟩, 13) := ⟨⟨by decide +kernel, by decide +kernel⟩, List.mem_of_getElem? (i := 120) (by decide +kernel), List.mem_of_getElem? (i := 398) (by decide +kernel), List.mem_of_getElem? (i := 399) (by decide +kernel)⟩
theorem lw_p8 : lw_okq (⟨"SwingWeights$Power", "countAtWeight", "(II)V"⟩, 13) := ⟨⟨by decide +kernel, by decide +kernel⟩, List.mem_of_getElem? (i := 120) (by decide +kernel), List.mem_of_getElem? (i := 402) (by decide +kernel), List.mem_of_getElem? (i := 403) (by decide +kernel)⟩
theorem lw_p9 : lw_okq (⟨"SwingWeights$Power", "hasSwing", "(II)Z"⟩, 13) := ⟨⟨by decide +kernel, by decide +kernel⟩, List.mem_of_getElem? (i := 120) (by decide +kernel), List.mem_of_getElem? (i := 414) (by decide +kernel), List.mem_of_getElem? (i := 415) (by decide +kernel)⟩
theorem lw_p10 : lw_okq (⟨"SwingWeights$Power", "isWinning", "(II)Z"⟩, 13) := ⟨⟨by decide +kernel, by decide +kernel⟩, List.mem_of_getElem? (i := 120) (by decide +kernel), List.mem_of_getElem? (i := 418) (by decide +kernel), List.mem_of_getElem? (i := 419) (by decide +kernel)⟩
theorem lw_p11 : lw_okq (⟨"SwingWeights", "rankOf", "(ILSwingWeights$Power;)I"⟩, 7) := ⟨⟨by decide +kernel, by decide +kernel⟩, List.mem_of_getElem? (i := 13) (by decide +kernel), List.mem_of_getElem? (i := 441) (by decide +kernel), List.mem_of_getElem? (i := 442) (by decide +kernel)⟩
theorem lw_p12 : lw_okq (⟨"SwingWeights", "isAhead", "(IILSwingWeights$Power;)Z"⟩, 7) := ⟨⟨by decide +kernel, by decide +kernel⟩, List.mem_of_getElem? (i := 13) (by decide +kernel), List.mem_of_getElem? (i := 445) (by decide +kernel), List.mem_of_getElem? (i := 446) (by decide +kernel)⟩
theorem lw_p13 : lw_okq (⟨"SwingWeights$Power", "listLeast", "()V"⟩, 13) := ⟨⟨by decide +kernel, by decide +kernel⟩, List.mem_of_getElem? (i := 120) (by decide +kernel), List.mem_of_getElem? (i := 497) (by decide +kernel), List.mem_of_getElem? (i := 498) (by decide +kernel)⟩
theorem lw_p14 : lw_okq (⟨"SwingWeights$Power", "isLeast", "(II)Z"⟩, 13) := ⟨⟨by decide +kernel, by decide +kernel⟩, List.mem_of_getElem? (i := 120) (by decide +kernel), List.mem_of_getElem? (i := 501) (by decide +kernel), List.mem_of_getElem? (i := 502) (by decide +kernel)⟩
theorem lw_p15 : lw_okq (⟨"SwingWeights$Power", "insertLeast", "(I)V"⟩, 13) := ⟨⟨by decide +kernel, by decide +kernel⟩, List.mem_of_getElem? (i := 120) (by decide +kernel), List.mem_of_getElem? (i := 508) (by decide +kernel), List.mem_of_getElem? (i := 509) (by decide +kernel)⟩
def lw_privs_1 : List (MethodName × Nat) := [(⟨"SwingWeights", "beginAct", "()V"⟩, 7), (⟨"SwingWeights$History", "dropOldest", "()V"⟩, 2), (⟨"SwingWeights$State", "tellSwings", "(IZ)V"⟩, 7), (⟨"SwingWeights", "currentPower", "()LSwingWeights$Power;"⟩, 7), (⟨"SwingWeights$Power", "listCoalitions", "()V"⟩, 13), (⟨"SwingWeights$Power", "repeatCoalitionsWith", "(I)V"⟩, 13), (⟨"SwingWeights$Power", "countWinning", "()V"⟩, 13), (⟨"SwingWeights$Power", "hasAllVetoes", "(I)Z"⟩, 13), (⟨"SwingWeights$Power", "countAtWeight", "(II)V"⟩, 13), (⟨"SwingWeights$Power", "hasSwing", "(II)Z"⟩, 13), (⟨"SwingWeights$Power", "isWinning", "(II)Z"⟩, 13), (⟨"SwingWeights", "rankOf", "(ILSwingWeights$Power;)I"⟩, 7), (⟨"SwingWeights", "isAhead", "(IILSwingWeights$Power;)Z"⟩, 7), (⟨"SwingWeights$Power", "listLeast", "()V"⟩, 13), (⟨"SwingWeights$Power", "isLeast", "(II)Z"⟩, 13), (⟨"SwingWeights$Power", "insertLeast", "(I)V"⟩, 13)]
theorem lw_r1 : ∀ q ∈ lw_privs_1, lw_okq q := List.forall_mem_cons.mpr ⟨lw_p0, List.forall_mem_cons.mpr ⟨lw_p1, List.forall_mem_cons.mpr ⟨lw_p2, List.forall_mem_cons.mpr ⟨lw_p3, List.forall_mem_cons.mpr ⟨lw_p4, List.forall_mem_cons.mpr ⟨lw_p5, List.forall_mem_cons.mpr ⟨lw_p6, List.forall_mem_cons.mpr ⟨lw_p7, List.forall_mem_cons.mpr ⟨lw_p8, List.forall_mem_cons.mpr ⟨lw_p9, List.forall_mem_cons.mpr ⟨lw_p10, List.forall_mem_cons.mpr ⟨lw_p11, List.forall_mem_cons.mpr ⟨lw_p12, List.forall_mem_cons.mpr ⟨lw_p13, List.forall_mem_cons.mpr ⟨lw_p14, List.forall_mem_cons.mpr ⟨lw_p15, fun _ h => absurd h List.not_mem_nil⟩⟩⟩⟩⟩⟩⟩⟩⟩⟩⟩⟩⟩⟩⟩⟩
theorem lw_p16 : lw_okq (⟨"SwingWeightsModel", "record", "()V"⟩, 18) := ⟨⟨by decide +kernel, by decide +kernel⟩, List.mem_of_getElem? (i := 557) (by decide +kernel), List.mem_of_getElem? (i := 631) (by decide +kernel), List.mem_of_getElem? (i := 632) (by decide +kernel)⟩
theorem lw_p17 : lw_okq (⟨"SwingWeightsModel", "noMember", "(I)Z"⟩, 18) := ⟨⟨by decide +kernel, by decide +kernel⟩, List.mem_of_getElem? (i := 557) (by decide +kernel), List.mem_of_getElem? (i := 646) (by decide +kernel), List.mem_of_getElem? (i := 647) (by decide +kernel)⟩
theorem lw_p18 : lw_okq (⟨"SwingWeightsModel", "part", "(I)V"⟩, 18) := ⟨⟨by decide +kernel, by decide +kernel⟩, List.mem_of_getElem? (i := 557) (by decide +kernel), List.mem_of_getElem? (i := 650) (by decide +kernel), List.mem_of_getElem? (i := 651) (by decide +kernel)⟩
theorem lw_p19 : lw_okq (⟨"SwingWeightsModel", "set", "(II)I"⟩, 18) := ⟨⟨by decide +kernel, by decide +kernel⟩, List.mem_of_getElem? (i := 557) (by decide +kernel), List.mem_of_getElem? (i := 658) (by decide +kernel), List.mem_of_getElem? (i := 659) (by decide +kernel)⟩
theorem lw_p20 : lw_okq (⟨"SwingWeightsModel", "withVeto", "()I"⟩, 18) := ⟨⟨by decide +kernel, by decide +kernel⟩, List.mem_of_getElem? (i := 557) (by decide +kernel), List.mem_of_getElem? (i := 666) (by decide +kernel), List.mem_of_getElem? (i := 667) (by decide +kernel)⟩
theorem lw_p21 : lw_okq (⟨"SwingWeightsModel", "size", "(I)I"⟩, 18) := ⟨⟨by decide +kernel, by decide +kernel⟩, List.mem_of_getElem? (i := 557) (by decide +kernel), List.mem_of_getElem? (i := 678) (by decide +kernel), List.mem_of_getElem? (i := 679) (by decide +kernel)⟩
theorem lw_p22 : lw_okq (⟨"SwingWeightsModel", "ballots", "(Z)I"⟩, 18) := ⟨⟨by decide +kernel, by decide +kernel⟩, List.mem_of_getElem? (i := 557) (by decide +kernel), List.mem_of_getElem? (i := 698) (by decide +kernel), List.mem_of_getElem? (i := 699) (by decide +kernel)⟩
theorem lw_p23 : lw_okq (⟨"SwingWeightsModel", "holdBallot", "(I)Z"⟩, 18) := ⟨⟨by decide +kernel, by decide +kernel⟩, List.mem_of_getElem? (i := 557) (by decide +kernel), List.mem_of_getElem? (i := 702) (by decide +kernel), List.mem_of_getElem? (i := 703) (by decide +kernel)⟩
theorem lw_p24 : lw_okq (⟨"SwingWeightsModel", "layBlocs", "()V"⟩, 18) := ⟨⟨by decide +kernel, by decide +kernel⟩, List.mem_of_getElem? (i := 557) (by decide +kernel), List.mem_of_getElem? (i := 706) (by decide +kernel), List.mem_of_getElem? (i := 707) (by decide +kernel)⟩
theorem lw_p25 : lw_okq (⟨"SwingWeightsModel", "blocOf", "(I)I"⟩, 18) := ⟨⟨by decide +kernel, by decide +kernel⟩, List.mem_of_getElem? (i := 557) (by decide +kernel), List.mem_of_getElem? (i := 710) (by decide +kernel), List.mem_of_getElem? (i := 711) (by decide +kernel)⟩
theorem lw_p26 : lw_okq (⟨"SwingWeightsModel", "leader", "(I)I"⟩, 18) := ⟨⟨by decide +kernel, by decide +kernel⟩, List.mem_of_getElem? (i := 557) (by decide +kernel), List.mem_of_getElem? (i := 714) (by decide +kernel), List.mem_of_getElem? (i := 715) (by decide +kernel)⟩
theorem lw_p27 : lw_okq (⟨"SwingWeightsModel", "winsWith", "(II)Z"⟩, 18) := ⟨⟨by decide +kernel, by decide +kernel⟩, List.mem_of_getElem? (i := 557) (by decide +kernel), List.mem_of_getElem? (i := 718) (by decide +kernel), List.mem_of_getElem? (i := 719) (by decide +kernel)⟩
theorem lw_p28 : lw_okq (⟨"SwingWeightsModel", "weightOf", "(I)I"⟩, 18) := ⟨⟨by decide +kernel, by decide +kernel⟩, List.mem_of_getElem? (i := 557) (by decide +kernel), List.mem_of_getElem? (i := 722) (by decide +kernel), List.mem_of_getElem? (i := 723) (by decide +kernel)⟩
theorem lw_p29 : lw_okq (⟨"SwingWeightsModel", "findNow", "()V"⟩, 18) := ⟨⟨by decide +kernel, by decide +kernel⟩, List.mem_of_getElem? (i := 557) (by decide +kernel), List.mem_of_getElem? (i := 733) (by decide +kernel), List.mem_of_getElem? (i := 734) (by decide +kernel)⟩
theorem lw_p30 : lw_okq (⟨"SwingWeightsModel", "find", "(I)V"⟩, 18) := ⟨⟨by decide +kernel, by decide +kernel⟩, List.mem_of_getElem? (i := 557) (by decide +kernel), List.mem_of_getElem? (i := 737) (by decide +kernel), List.mem_of_getElem? (i := 738) (by decide +kernel)⟩
theorem lw_p31 : lw_okq (⟨"SwingWeightsModel", "orders", "(I)I"⟩, 18) := ⟨⟨by decide +kernel, by decide +kernel⟩, List.mem_of_getElem? (i := 557) (by decide +kernel), List.mem_of_getElem? (i := 741) (by decide +kernel), List.mem_of_getElem? (i := 742) (by decide +kernel)⟩
def lw_privs_2 : List (MethodName × Nat) := [(⟨"SwingWeightsModel", "record", "()V"⟩, 18), (⟨"SwingWeightsModel", "noMember", "(I)Z"⟩, 18), (⟨"SwingWeightsModel", "part", "(I)V"⟩, 18), (⟨"SwingWeightsModel", "set", "(II)I"⟩, 18), (⟨"SwingWeightsModel", "withVeto", "()I"⟩, 18), (⟨"SwingWeightsModel", "size", "(I)I"⟩, 18), (⟨"SwingWeightsModel", "ballots", "(Z)I"⟩, 18), (⟨"SwingWeightsModel", "holdBallot", "(I)Z"⟩, 18), (⟨"SwingWeightsModel", "layBlocs", "()V"⟩, 18), (⟨"SwingWeightsModel", "blocOf", "(I)I"⟩, 18), (⟨"SwingWeightsModel", "leader", "(I)I"⟩, 18), (⟨"SwingWeightsModel", "winsWith", "(II)Z"⟩, 18), (⟨"SwingWeightsModel", "weightOf", "(I)I"⟩, 18), (⟨"SwingWeightsModel", "findNow", "()V"⟩, 18), (⟨"SwingWeightsModel", "find", "(I)V"⟩, 18), (⟨"SwingWeightsModel", "orders", "(I)I"⟩, 18)]
theorem lw_r2 : ∀ q ∈ lw_privs_2, lw_okq q := List.forall_mem_cons.mpr ⟨lw_p16, List.forall_mem_cons.mpr ⟨lw_p17, List.forall_mem_cons.mpr ⟨lw_p18, List.forall_mem_cons.mpr ⟨lw_p19, List.forall_mem_cons.mpr ⟨lw_p20, List.forall_mem_cons.mpr ⟨lw_p21, List.forall_mem_cons.mpr ⟨lw_p22, List.forall_mem_cons.mpr ⟨lw_p23, List.forall_mem_cons.mpr ⟨lw_p24, List.forall_mem_cons.mpr ⟨lw_p25, List.forall_mem_cons.mpr ⟨lw_p26, List.forall_mem_cons.mpr ⟨lw_p27, List.forall_mem_cons.mpr ⟨lw_p28, List.forall_mem_cons.mpr ⟨lw_p29, List.forall_mem_cons.mpr ⟨lw_p30, List.forall_mem_cons.mpr ⟨lw_p31, fun _ h => absurd h List.not_mem_nil⟩⟩⟩⟩⟩⟩⟩⟩⟩⟩⟩⟩⟩⟩⟩⟩
theorem lw_p32 : lw_okq (⟨"SwingWeightsModel", "isBlocker", "(I)Z"⟩, 18) := ⟨⟨by decide +kernel, by decide +kernel⟩, List.mem_of_getElem? (i := 557) (by decide +kernel), List.mem_of_getElem? (i := 751) (by decide +kernel), List.mem_of_getElem? (i := 752) (by decide +kernel)⟩
theorem lw_p33 : lw_okq (⟨"SwingWeightsModel", "isDictator", "(I)Z"⟩, 18) := ⟨⟨by decide +kernel, by decide +kernel⟩, List.mem_of_getElem? (i := 557) (by decide +kernel), List.mem_of_getElem? (i := 755) (by decide +kernel), List.mem_of_getElem? (i := 756) (by decide +kernel)⟩
theorem lw_p34 : lw_okq (⟨"SwingWeightsModel", "rank", "(I)I"⟩, 18) := ⟨⟨by decide +kernel, by decide +kernel⟩, List.mem_of_getElem? (i := 557) (by decide +kernel), List.mem_of_getElem? (i := 759) (by decide +kernel), List.mem_of_getElem? (i := 760) (by decide +kernel)⟩
theorem lw_p35 : lw_okq (⟨"SwingWeightsModel", "winning", "()I"⟩, 18) := ⟨⟨by decide +kernel, by decide +kernel⟩, List.mem_of_getElem? (i := 557) (by decide +kernel), List.mem_of_getElem? (i := 767) (by decide +kernel), List.mem_of_getElem? (i := 768) (by decide +kernel)⟩
theorem lw_p36 : lw_okq (⟨"SwingWeightsModel", "findLeast", "()V"⟩, 18) := ⟨⟨by decide +kernel, by decide +kernel⟩, List.mem_of_getElem? (i := 557) (by decide +kernel), List.mem_of_getElem? (i := 782) (by decide +kernel), List.mem_of_getElem? (i := 783) (by decide +kernel)⟩
theorem lw_p37 : lw_okq (⟨"SwingWeightsModel", "isLeast", "(I)Z"⟩, 18) := ⟨⟨by decide +kernel, by decide +kernel⟩, List.mem_of_getElem? (i := 557) (by decide +kernel), List.mem_of_getElem? (i := 786) (by decide +kernel), List.mem_of_getElem? (i := 787) (by decide +kernel)⟩
theorem lw_p38 : lw_okq (⟨"SwingWeightsModel", "isAhead", "(II)Z"⟩, 18) := ⟨⟨by decide +kernel, by decide +kernel⟩, List.mem_of_getElem? (i := 557) (by decide +kernel), List.mem_of_getElem? (i := 790) (by decide +kernel), List.mem_of_getElem? (i := 791) (by decide +kernel)⟩
theorem lw_p39 : lw_okq (⟨"SwingWeightsModel", "membersOf", "(I)I"⟩, 18) := ⟨⟨by decide +kernel, by decide +kernel⟩, List.mem_of_getElem? (i := 557) (by decide +kernel), List.mem_of_getElem? (i := 794) (by decide +kernel), List.mem_of_getElem? (i := 795) (by decide +kernel)⟩
theorem lw_p40 : lw_okq (⟨"SwingWeightsModel", "dummies", "()I"⟩, 18) := ⟨⟨by decide +kernel, by decide +kernel⟩, List.mem_of_getElem? (i := 557) (by decide +kernel), List.mem_of_getElem? (i := 806) (by decide +kernel), List.mem_of_getElem? (i := 807) (by decide +kernel)⟩
theorem lw_p41 : lw_okq (⟨"SwingWeightsModel", "blockers", "()I"⟩, 18) := ⟨⟨by decide +kernel, by decide +kernel⟩, List.mem_of_getElem? (i := 557) (by decide +kernel), List.mem_of_getElem? (i := 810) (by decide +kernel), List.mem_of_getElem? (i := 811) (by decide +kernel)⟩
theorem lw_p42 : lw_okq (⟨"SwingWeightsModel", "allWeights", "()I"⟩, 18) := ⟨⟨by decide +kernel, by decide +kernel⟩, List.mem_of_getElem? (i := 557) (by decide +kernel), List.mem_of_getElem? (i := 818) (by decide +kernel), List.mem_of_getElem? (i := 819) (by decide +kernel)⟩
theorem lw_p43 : lw_okq (⟨"SwingWeightsModel", "apart", "(I)J"⟩, 18) := ⟨⟨by decide +kernel, by decide +kernel⟩, List.mem_of_getElem? (i := 557) (by decide +kernel), List.mem_of_getElem? (i := 826) (by decide +kernel), List.mem_of_getElem? (i := 827) (by decide +kernel)⟩
def lw_privs_3 : List (MethodName × Nat) := [(⟨"SwingWeightsModel", "isBlocker", "(I)Z"⟩, 18), (⟨"SwingWeightsModel", "isDictator", "(I)Z"⟩, 18), (⟨"SwingWeightsModel", "rank", "(I)I"⟩, 18), (⟨"SwingWeightsModel", "winning", "()I"⟩, 18), (⟨"SwingWeightsModel", "findLeast", "()V"⟩, 18), (⟨"SwingWeightsModel", "isLeast", "(I)Z"⟩, 18), (⟨"SwingWeightsModel", "isAhead", "(II)Z"⟩, 18), (⟨"SwingWeightsModel", "membersOf", "(I)I"⟩, 18), (⟨"SwingWeightsModel", "dummies", "()I"⟩, 18), (⟨"SwingWeightsModel", "blockers", "()I"⟩, 18), (⟨"SwingWeightsModel", "allWeights", "()I"⟩, 18), (⟨"SwingWeightsModel", "apart", "(I)J"⟩, 18)]
theorem lw_r3 : ∀ q ∈ lw_privs_3, lw_okq q := List.forall_mem_cons.mpr ⟨lw_p32, List.forall_mem_cons.mpr ⟨lw_p33, List.forall_mem_cons.mpr ⟨lw_p34, List.forall_mem_cons.mpr ⟨lw_p35, List.forall_mem_cons.mpr ⟨lw_p36, List.forall_mem_cons.mpr ⟨lw_p37, List.forall_mem_cons.mpr ⟨lw_p38, List.forall_mem_cons.mpr ⟨lw_p39, List.forall_mem_cons.mpr ⟨lw_p40, List.forall_mem_cons.mpr ⟨lw_p41, List.forall_mem_cons.mpr ⟨lw_p42, List.forall_mem_cons.mpr ⟨lw_p43, fun _ h => absurd h List.not_mem_nil⟩⟩⟩⟩⟩⟩⟩⟩⟩⟩⟩⟩
def lw_privs : List (MethodName × Nat) := lw_privs_1 ++ (lw_privs_2 ++ (lw_privs_3))
def lw_tbl : List Cond := k2_sels lw_privs ++ tables_1
theorem lw_privs_ok : ∀ q ∈ lw_privs, lw_okq q := by
  show ∀ q ∈ lw_privs_1 ++ (lw_privs_2 ++ (lw_privs_3)), lw_okq q
  exact List.forall_mem_append.mpr ⟨lw_r1, List.forall_mem_append.mpr ⟨lw_r2, lw_r3⟩⟩

/-! ===== BEGIN new T[n][m]: the outer array a place, the inner ones among the pooled ===== -/
/-- f, but v at every address of l -/
def vr_up {α : Type} (f : Nat → α) (l : List Nat) (v : α) : Nat → α := fun a => if a ∈ l then v else f a
theorem vr_up_in {α : Type} {f : Nat → α} {l : List Nat} {v : α} {a : Nat} (h : a ∈ l) : vr_up f l v a = v := if_pos h
theorem vr_up_ne {α : Type} {f : Nat → α} {l : List Nat} {v : α} {a : Nat} (h : a ∉ l) : vr_up f l v a = f a := if_neg h
theorem vr_rows {L l : List Nat} {f : Nat → va_E} {e : va_E} (h : ∀ a, a ∈ l → a ∉ L) : va_pl L f ++ l.map (fun a => (a, e)) = va_pl (L ++ l) (vr_up f l e) := by
  unfold va_pl
  rw [List.map_append]
  congr 1
  · apply List.map_congr_left
    intro a ha
    rw [vr_up_ne (fun q => h a q ha)]
  · apply List.map_congr_left
    intro a ha
    rw [vr_up_in ha]
theorem vr_lay {X rows : va_W} {x : Nat × va_E} {pl : va_W} {D : va_G} {cl : List vw_C} {H : Heap} (hP : va_P D cl (((X ++ pl) ++ [x]) ++ rows) H) : va_P D cl ((X ++ [x]) ++ (pl ++ rows)) H := by
  rw [List.append_assoc (X ++ pl)] at hP
  have h := va_P.swap hP
  rw [← List.append_assoc X] at h
  have h2 := va_P.swap h
  rw [List.append_assoc (X ++ [x])] at h2
  exact h2
theorem vr_layD {X rows : va_W} {x : Nat × va_E} {pl : va_W} {A : Nat → Prop} (hD : va_D A (((X ++ pl) ++ [x]) ++ rows)) : va_D A ((X ++ [x]) ++ (pl ++ rows)) := by
  rw [List.append_assoc (X ++ pl)] at hD
  have h := va_D.swap hD
  rw [← List.append_assoc X] at h
  have h2 := va_D.swap h
  rw [List.append_assoc (X ++ [x])] at h2
  exact h2
theorem vr_outer (c : ClassId) (N h0 : Nat) : ∀ i : Nat, Jvm.Free.Multi.outerC c N h0 i = arrV c N (fun j => va_rf (if j < i then some (h0 + 1 + j) else none))
  | 0 => by
    show ({ cls := c, slots := Array.replicate N .null, vm := .none } : Cell) = _
    rw [arrV_new]
    refine congrArg (arrV c N) (funext fun j => ?_)
    simp [va_rf]
  | i + 1 => by
    show (Jvm.Free.Multi.outerC c N h0 i).setSlot i (.ref (h0 + 1 + i)) = _
    rw [vr_outer c N h0 i, arrV_store]
    refine congrArg (arrV c N) (funext fun j => ?_)
    by_cases e : j = i
    · subst e
      simp [updV, va_rf]
    · by_cases h : j < i
      · simp [updV, e, h, Nat.lt_succ_of_lt h]
      · simp [updV, e, h, show ¬ j < i + 1 by omega]
def va_AOA (ty : FieldType) (U : State) : Prop := (Cond.arrayOver (.array ty)).before #[] U = true
theorem va_AOA.use {ty : FieldType} {A : Array Value} {U : State} (h : va_AOA ty U) : (Cond.arrayOver (.array ty)).before A U = true := h
section VGM
variable {p : Program} {l : Launch} {e : Env} {R : Room} {s : State} {m : MethodId} {args : Array Value} {below : List Frame} {meth : Method} {c : Code} {H : Heap} {locs : List Loc} {cells slots : Nat} {Q : State → Prop}
variable {cc : ByteArray} {pc : Nat} {ls : Array Slot} {rest : List Value} {D : va_G} {cl : List vw_C} {A : Nat → Prop} {a : Nat} {tys : List (ClassId × FieldType)} {ws : va_W} {H0 : Heap}
theorem va_mna {X : va_W} {L : List Nat} {f : Nat → va_E} {cc : ByteArray} (hexec : p.tables.exec = Jvm.exec) (hb : c.code = cc) {own : String} {index : Nat} {ty : FieldType} {cy : ClassId} (hown : s.vm.findClass own = some m.cls) (hclink : (Cond.classLink own index ("[" ++ (FieldType.array ty).toString)).before args s = true) (hover : va_AOA ty s) (harr : (Cond.arrayClass ty).before args s = true) (hcy : s.vm.findClass (FieldType.array ty).toString = some cy)
    (hK : va_K D cl tys s) (hP : va_P D cl (X ++ va_pl L f) H) (hD : va_D A (X ++ va_pl L f)) (hS : va_S A H0 H locs) (hA : ∀ q, H0.size ≤ q → A q) {n k : Int32} {N' K' : Nat} {z : vp_A} (hn : ¬ n < 0) (hk : ¬ k < 0) (hN : n.toNatClampNeg = N') (hM : k.toNatClampNeg = K')
    (hb1 : N' * 4 ≤ 536870912) (hb2 : K' * componentBytes ty ≤ 536870912) (hb3 : K' ≤ 536870912) (hdf : fits ty (defaultValue ty) = true) (hdd : (defaultValue ty).isDefault = true) (hcells : cells + (1 + N') ≤ R.cells) (hslots : slots + (N' + N' * K') ≤ R.slots) (hz : ∀ c : ClassId, Jvm.Free.Multi.innerC c K' (defaultValue ty) = vp_cell c z) (hdg : decode cc pc = .ok (.multianewarray index 2, 4))
    (kk : ∀ (q : Nat) (r : Nat → Nat) (cA : ClassId) (H1 : Heap), (∀ i j : Nat, i < N' → j < N' → r i = r j → i = j) → (∀ i : Nat, i < N' → r i ∉ L) → va_K D cl (tys ++ [(cA, .array ty)]) s →
      va_P D cl ((X ++ [(q, .inl (cA, N', .inr (.inr (.inr (.inr (fun i => if i < N' then some (r i) else none))))))]) ++ va_pl (L ++ (List.range N').map r) (vr_up f ((List.range N').map r) (.inl (cy, z)))) H1 → va_D A ((X ++ [(q, .inl (cA, N', .inr (.inr (.inr (.inr (fun i => if i < N' then some (r i) else none))))))]) ++ va_pl (L ++ (List.range N').map r) (vr_up f ((List.range N').map r) (.inl (cy, z)))) → va_S A H0 H1 locs →
      W p l e R s m args below meth c H1 locs (cells + 1 + N') (slots + N' + N' * K') Q (F0 m (pc + 4) ls (.ref q :: rest))) : W p l e R s m args below meth c H locs cells slots Q (F0 m pc ls (.int k :: .int n :: rest)) := by
  subst hN
  subst hM
  intro T hT Xs
  obtain ⟨vm₁, cA, comp, -, fA, fC, hO, -, X', step⟩ := Xs.multianewarray2F hexec hown hclink (va_AOA.use hover) harr (g := F0 m pc ls (.int k :: .int n :: rest)) rfl (by rw [hb]; exact hdg) rfl hn hk hb1 hb2 hb3 hdf hdd hcells hslots
  have ec : some cy = some comp := hcy.symm.trans fC
  cases ec
  generalize hF : Jvm.Free.Multi.fill (T.setVm vm₁) cA cy n.toNatClampNeg k.toNatClampNeg (defaultValue ty) n.toNatClampNeg = F at X' step
  have hTh : (T.setVm vm₁).heap = H := hT
  obtain ⟨f1, f2, -, -⟩ := Jvm.Free.Multi.fill_facts (T.setVm vm₁) cA cy n.toNatClampNeg k.toNatClampNeg (defaultValue ty) n.toNatClampNeg
  rw [hF, hTh] at f1 f2
  have hold : ∀ x : Nat, x < H.size → F.heap[x]? = H[x]? := fun x hx => by
    have := Jvm.Free.Multi.fill_old (T.setVm vm₁) cA cy n.toNatClampNeg k.toNatClampNeg (defaultValue ty) (a := x) (by rw [hTh]; exact hx) n.toNatClampNeg
    rw [hF, hTh] at this
    exact this
  have hrow : ∀ j : Nat, j < n.toNatClampNeg → F.heap[H.size + 1 + j]? = some (vp_cell cy z) := fun j hj => by
    have := Jvm.Free.Multi.fill_inner (T.setVm vm₁) cA cy n.toNatClampNeg k.toNatClampNeg (defaultValue ty) n.toNatClampNeg j hj
    rw [hF, hTh, hz] at this
    exact this
  have hout : Jvm.Free.Multi.outerC cA n.toNatClampNeg H.size n.toNatClampNeg = vp_cell cA (n.toNatClampNeg, .inr (.inr (.inr (.inr (fun i => if i < n.toNatClampNeg then some (H.size + 1 + i) else none))))) := by
    rw [vp_cell_q]
    exact vr_outer cA n.toNatClampNeg H.size n.toNatClampNeg
  rw [hout] at f2
  have hlt : ∀ a, a ∈ L → a < H.size := fun a ha => by
    obtain ⟨k9, hk9⟩ := va_pl_get (X := X) (f := f) ha
    exact (hP k9 _ hk9).lt
  have hnl : ∀ i : Nat, i < n.toNatClampNeg → H.size + 1 + i ∉ L := fun i _ h => by
    have := hlt _ h
    omega
  have hnm : ∀ a, a ∈ (List.range n.toNatClampNeg).map (fun i => H.size + 1 + i) → a ∉ L := fun a ha h => by
    obtain ⟨i, -, rfl⟩ := List.mem_map.mp ha
    have := hlt _ h
    omega
  have hP0 : va_P D cl (X ++ va_pl L f) F.heap := hP.kept (fun k9 x hx => hold x.1 ((hP k9 x hx).lt))
  have hP1 : va_P D cl ((X ++ va_pl L f) ++ [(H.size, .inl (cA, n.toNatClampNeg, .inr (.inr (.inr (.inr (fun i => if i < n.toNatClampNeg then some (H.size + 1 + i) else none))))))]) F.heap := hP0.app (fun k9 x hx => by
    have h0 : k9 < 1 := (List.getElem?_eq_some_iff.mp hx).1
    rw [show k9 = 0 by omega] at hx
    cases hx
    exact f2)
  have hP2 : va_P D cl (((X ++ va_pl L f) ++ [(H.size, .inl (cA, n.toNatClampNeg, .inr (.inr (.inr (.inr (fun i => if i < n.toNatClampNeg then some (H.size + 1 + i) else none))))))]) ++ ((List.range n.toNatClampNeg).map (fun i => H.size + 1 + i)).map (fun a => (a, .inl (cy, z)))) F.heap := hP1.app (fun k9 x hx => by
    obtain ⟨a, ha, rfl⟩ := List.mem_map.mp (List.mem_of_getElem? hx)
    obtain ⟨i, hi, rfl⟩ := List.mem_map.mp ha
    exact hrow i (List.mem_range.mp hi))
  have hD2 : va_D A (((X ++ va_pl L f) ++ [(H.size, .inl (cA, n.toNatClampNeg, .inr (.inr (.inr (.inr (fun i => if i < n.toNatClampNeg then some (H.size + 1 + i) else none))))))]) ++ ((List.range n.toNatClampNeg).map (fun i => H.size + 1 + i)).map (fun a => (a, .inl (cy, z)))) := by
    have hD1 := hD.push (e := .inl (cA, n.toNatClampNeg, .inr (.inr (.inr (.inr (fun i => if i < n.toNatClampNeg then some (H.size + 1 + i) else none)))))) hP rfl (hA _ hS.1)
    generalize hW1 : (X ++ va_pl L f) ++ [(H.size, .inl (cA, n.toNatClampNeg, .inr (.inr (.inr (.inr (fun i => if i < n.toNatClampNeg then some (H.size + 1 + i) else none))))))] = W1 at hD1 hP1 ⊢
    have hle : ∀ (k9 : Nat) (x : Nat × va_E), W1[k9]? = some x → x.1 ≤ H.size := fun k9 x hx => by
      rw [← hW1] at hx
      by_cases hl : k9 < (X ++ va_pl L f).length
      · rw [List.getElem?_append_left hl] at hx
        exact Nat.le_of_lt ((hP k9 x hx).lt)
      · rw [List.getElem?_append_right (by omega)] at hx
        have h0 : k9 - (X ++ va_pl L f).length < 1 := (List.getElem?_eq_some_iff.mp hx).1
        rw [show k9 - (X ++ va_pl L f).length = 0 by omega] at hx
        cases hx
        exact Nat.le_refl _
    have hr : ∀ (k9 : Nat) (x : Nat × va_E), (((List.range n.toNatClampNeg).map (fun i => H.size + 1 + i)).map (fun a => ((a, .inl (cy, z)) : Nat × va_E)))[k9]? = some x → x.1 = H.size + 1 + k9 := fun k9 x hx => by
      rw [List.getElem?_map, List.getElem?_map] at hx
      by_cases h9 : k9 < n.toNatClampNeg
      · rw [List.getElem?_range h9] at hx
        cases hx
        rfl
      · have hn0 : (List.range n.toNatClampNeg)[k9]? = none := List.getElem?_eq_none (by rw [List.length_range]; omega)
        rw [hn0] at hx
        cases hx
    refine ⟨fun i j x y hi hj hxy => ?_, fun k9 x hx => ?_⟩
    · by_cases h1 : i < W1.length <;> by_cases h2 : j < W1.length
      · rw [List.getElem?_append_left h1] at hi
        rw [List.getElem?_append_left h2] at hj
        exact hD1.1 i j x y hi hj hxy
      · rw [List.getElem?_append_left h1] at hi
        rw [List.getElem?_append_right (by omega)] at hj
        have := hle _ _ hi
        have := hr _ _ hj
        omega
      · rw [List.getElem?_append_right (by omega)] at hi
        rw [List.getElem?_append_left h2] at hj
        have := hle _ _ hj
        have := hr _ _ hi
        omega
      · rw [List.getElem?_append_right (by omega)] at hi hj
        have := hr _ _ hi
        have := hr _ _ hj
        omega
    · by_cases h1 : k9 < W1.length
      · rw [List.getElem?_append_left h1] at hx
        exact hD1.2 k9 x hx
      · rw [List.getElem?_append_right (by omega)] at hx
        have := hr _ _ hx
        exact hA _ (by have := hS.1; omega)
  have hAr : ArrOfT s cA (.array ty) := fun N9 z9 => by
    obtain ⟨-, k9, hk9, cm9, hkk9⟩ := (hO 0 0 0).1
    exact ⟨(fun q hq => by cases hq), k9, hk9, cm9, hkk9⟩
  have hK2 : va_K D cl (tys ++ [(cA, .array ty)]) s := ⟨hK.1, fun k9 x hx => by
    by_cases hl : k9 < tys.length
    · rw [List.getElem?_append_left hl] at hx
      exact hK.2 k9 x hx
    · rw [List.getElem?_append_right (by omega)] at hx
      have h0 : k9 - tys.length < 1 := (List.getElem?_eq_some_iff.mp hx).1
      rw [show k9 - tys.length = 0 by omega] at hx
      cases hx
      exact ⟨hAr, fA⟩⟩
  obtain ⟨t, a1, b1⟩ := kk H.size (fun i => H.size + 1 + i) cA F.heap (fun i j _ _ h => by have h9 : H.size + 1 + i = H.size + 1 + j := h; omega) hnl hK2 (by rw [← vr_rows hnm]; exact vr_lay hP2) (by rw [← vr_rows hnm]; exact vr_layD hD2) ⟨by rw [f1]; have := hS.1; omega, fun x h1 h2 => (hold x (Nat.lt_of_lt_of_le h1 hS.1)).trans (hS.2.1 x h1 h2), hS.2.2⟩ F rfl X'
  refine ⟨t, step t ?_, b1⟩
  have e : T.heap.size = H.size := by rw [hT]
  rw [e]
  exact a1
end VGM
def RX0 : String := "SwingWeights$Ballots"
def TX0 : u_T := fun k => match k with
  | 0 => ("SwingWeights$Ballots", "held", "I", false)
  | 1 => ("SwingWeights$Ballots", "passed", "I", false)
  | 2 => ("SwingWeights$Ballots", "outcomes", "[I", true)
  | 3 => ("SwingWeights$Ballots", "plusWeights", "[I", true)
  | _ => ("SwingWeights$Ballots", "dissenters", "[I", true)
def tyX0 : Nat → FieldType := fun k => match k with
  | 0 => .int
  | 1 => .int
  | 2 => .array .int
  | 3 => .array .int
  | _ => .array .int
abbrev wsX00 : List Cond := u_ws RX0 TX0 5
theorem nmX0 : ∀ a, a < 5 → ∀ b, b < 5 → a ≠ b → (TX0 a).2.1 ≠ (TX0 b).2.1 := by decide +kernel
theorem tyX0_ok : ∀ k, k < 5 → parseFieldDescriptor (TX0 k).2.2.1 = some (tyX0 k) := by decide +kernel
abbrev cX0_init : ByteArray := prog_2_method_1_code
def yX0_init : MethodName := ⟨RX0, "<init>", "()V"⟩
abbrev cX0_copyFrom : ByteArray := prog_2_method_2_code
def yX0_copyFrom : MethodName := ⟨RX0, "copyFrom", "(LSwingWeights$Ballots;)V"⟩
abbrev cX0_add : ByteArray := prog_2_method_3_code
def yX0_add : MethodName := ⟨RX0, "add", "(ZII)V"⟩
abbrev cX0_putFirst : ByteArray := prog_2_method_4_code
def yX0_putFirst : MethodName := ⟨RX0, "putFirst", "([II)V"⟩
def RX1 : String := "SwingWeights$History"
def TX1 : u_T := fun k => match k with
  | 0 => ("SwingWeights$History", "states", "[LSwingWeights$State;", true)
  | _ => ("SwingWeights$History", "size", "I", false)
def tyX1 : Nat → FieldType := fun k => match k with
  | 0 => .array (.object "SwingWeights$State")
  | _ => .int
abbrev wsX10 : List Cond := u_ws RX1 TX1 2
theorem nmX1 : ∀ a, a < 2 → ∀ b, b < 2 → a ≠ b → (TX1 a).2.1 ≠ (TX1 b).2.1 := by decide +kernel
theorem tyX1_ok : ∀ k, k < 2 → parseFieldDescriptor (TX1 k).2.2.1 = some (tyX1 k) := by decide +kernel
abbrev cX1_init : ByteArray := prog_3_method_1_code
def yX1_init : MethodName := ⟨RX1, "<init>", "()V"⟩
abbrev cX1_add : ByteArray := prog_3_method_2_code
def yX1_add : MethodName := ⟨RX1, "add", "(LSwingWeights$State;)V"⟩
abbrev cX1_dropOldest : ByteArray := prog_3_method_3_code
def yX1_dropOldest : MethodName := ⟨RX1, "dropOldest", "()V"⟩
abbrev cX1_takeLatest : ByteArray := prog_3_method_4_code
def yX1_takeLatest : MethodName := ⟨RX1, "takeLatest", "(LSwingWeights$State;)V"⟩
def RX2 : String := "SwingWeights$Power"
def TX2 : u_T := fun k => match k with
  | 0 => ("SwingWeights$Power", "members", "I", false)
  | 1 => ("SwingWeights$Power", "quota", "I", false)
  | 2 => ("SwingWeights$Power", "vetoes", "I", false)
  | 3 => ("SwingWeights$Power", "blocCount", "I", false)
  | 4 => ("SwingWeights$Power", "lowest", "I", false)
  | 5 => ("SwingWeights$Power", "blocs", "[I", true)
  | 6 => ("SwingWeights$Power", "blocWeights", "[I", true)
  | 7 => ("SwingWeights$Power", "coalitions", "[I", true)
  | 8 => ("SwingWeights$Power", "weights", "[I", true)
  | 9 => ("SwingWeights$Power", "coalitionCount", "I", false)
  | 10 => ("SwingWeights$Power", "winning", "[[I", true)
  | 11 => ("SwingWeights$Power", "least", "[I", true)
  | _ => ("SwingWeights$Power", "leastCount", "I", false)
def tyX2 : Nat → FieldType := fun k => match k with
  | 0 => .int
  | 1 => .int
  | 2 => .int
  | 3 => .int
  | 4 => .int
  | 5 => .array .int
  | 6 => .array .int
  | 7 => .array .int
  | 8 => .array .int
  | 9 => .int
  | 10 => .array (.array .int)
  | 11 => .array .int
  | _ => .int
abbrev wsX20 : List Cond := u_ws RX2 TX2 13
theorem nmX2 : ∀ a, a < 13 → ∀ b, b < 13 → a ≠ b → (TX2 a).2.1 ≠ (TX2 b).2.1 := by decide +kernel
theorem tyX2_ok : ∀ k, k < 13 → parseFieldDescriptor (TX2 k).2.2.1 = some (tyX2 k) := by decide +kernel
abbrev cX2_init : ByteArray := prog_4_method_1_code
def yX2_init : MethodName := ⟨RX2, "<init>", "()V"⟩
abbrev cX2_workOut : ByteArray := prog_4_method_2_code
def yX2_workOut : MethodName := ⟨RX2, "workOut", "(LSwingWeights$State;)V"⟩
abbrev cX2_listCoalitions : ByteArray := prog_4_method_3_code
def yX2_listCoalitions : MethodName := ⟨RX2, "listCoalitions", "()V"⟩
abbrev cX2_repeatCoalitionsWith : ByteArray := prog_4_method_4_code
def yX2_repeatCoalitionsWith : MethodName := ⟨RX2, "repeatCoalitionsWith", "(I)V"⟩
abbrev cX2_countWinning : ByteArray := prog_4_method_5_code
def yX2_countWinning : MethodName := ⟨RX2, "countWinning", "()V"⟩
abbrev cX2_countAtWeight : ByteArray := prog_4_method_6_code
def yX2_countAtWeight : MethodName := ⟨RX2, "countAtWeight", "(II)V"⟩
abbrev cX2_hasAllVetoes : ByteArray := prog_4_method_7_code
def yX2_hasAllVetoes : MethodName := ⟨RX2, "hasAllVetoes", "(I)Z"⟩
abbrev cX2_isWinning : ByteArray := prog_4_method_8_code
def yX2_isWinning : MethodName := ⟨RX2, "isWinning", "(II)Z"⟩
abbrev cX2_winningCoalitions : ByteArray := prog_4_method_9_code
def yX2_winningCoalitions : MethodName := ⟨RX2, "winningCoalitions", "(I)I"⟩
abbrev cX2_swings : ByteArray := prog_4_method_10_code
def yX2_swings : MethodName := ⟨RX2, "swings", "(II)I"⟩
abbrev cX2_swingsOfAll : ByteArray := prog_4_method_11_code
def yX2_swingsOfAll : MethodName := ⟨RX2, "swingsOfAll", "(I)I"⟩
abbrev cX2_isDummy : ByteArray := prog_4_method_12_code
def yX2_isDummy : MethodName := ⟨RX2, "isDummy", "(II)Z"⟩
abbrev cX2_isBlocker : ByteArray := prog_4_method_13_code
def yX2_isBlocker : MethodName := ⟨RX2, "isBlocker", "(II)Z"⟩
abbrev cX2_isDictator : ByteArray := prog_4_method_14_code
def yX2_isDictator : MethodName := ⟨RX2, "isDictator", "(I)Z"⟩
abbrev cX2_dummies : ByteArray := prog_4_method_15_code
def yX2_dummies : MethodName := ⟨RX2, "dummies", "(I)I"⟩
abbrev cX2_blockers : ByteArray := prog_4_method_16_code
def yX2_blockers : MethodName := ⟨RX2, "blockers", "(I)I"⟩
abbrev cX2_orders : ByteArray := prog_4_method_17_code
def yX2_orders : MethodName := ⟨RX2, "orders", "(I)I"⟩
abbrev cX2_hasSwing : ByteArray := prog_4_method_18_code
def yX2_hasSwing : MethodName := ⟨RX2, "hasSwing", "(II)Z"⟩
abbrev cX2_distance : ByteArray := prog_4_method_19_code
def yX2_distance : MethodName := ⟨RX2, "distance", "(I)J"⟩
abbrev cX2_leastCoalitions : ByteArray := prog_4_method_20_code
def yX2_leastCoalitions : MethodName := ⟨RX2, "leastCoalitions", "()I"⟩
abbrev cX2_listLeast : ByteArray := prog_4_method_21_code
def yX2_listLeast : MethodName := ⟨RX2, "listLeast", "()V"⟩
abbrev cX2_isLeast : ByteArray := prog_4_method_22_code
def yX2_isLeast : MethodName := ⟨RX2, "isLeast", "(II)Z"⟩
abbrev cX2_sortingKey : ByteArray := prog_4_method_23_code
def yX2_sortingKey : MethodName := ⟨RX2, "sortingKey", "(III)I"⟩
abbrev cX2_insertLeast : ByteArray := prog_4_method_24_code
def yX2_insertLeast : MethodName := ⟨RX2, "insertLeast", "(I)V"⟩
abbrev cX2_ofLeast : ByteArray := prog_4_method_25_code
def yX2_ofLeast : MethodName := ⟨RX2, "ofLeast", "(II)I"⟩
def RX3 : String := "SwingWeights$State"
def TX3 : u_T := fun k => match k with
  | 0 => ("SwingWeights$State", "members", "I", false)
  | 1 => ("SwingWeights$State", "quota", "I", false)
  | 2 => ("SwingWeights$State", "vetoes", "I", false)
  | 3 => ("SwingWeights$State", "weights", "[I", true)
  | 4 => ("SwingWeights$State", "blocs", "[I", true)
  | 5 => ("SwingWeights$State", "swingBallots", "[I", true)
  | _ => ("SwingWeights$State", "ballots", "LSwingWeights$Ballots;", true)
def tyX3 : Nat → FieldType := fun k => match k with
  | 0 => .int
  | 1 => .int
  | 2 => .int
  | 3 => .array .int
  | 4 => .array .int
  | 5 => .array .int
  | _ => .object "SwingWeights$Ballots"
abbrev wsX30 : List Cond := u_ws RX3 TX3 7
theorem nmX3 : ∀ a, a < 7 → ∀ b, b < 7 → a ≠ b → (TX3 a).2.1 ≠ (TX3 b).2.1 := by decide +kernel
theorem tyX3_ok : ∀ k, k < 7 → parseFieldDescriptor (TX3 k).2.2.1 = some (tyX3 k) := by decide +kernel
abbrev cX3_init : ByteArray := prog_5_method_1_code
def yX3_init : MethodName := ⟨RX3, "<init>", "()V"⟩
abbrev cX3_copyFrom : ByteArray := prog_5_method_2_code
def yX3_copyFrom : MethodName := ⟨RX3, "copyFrom", "(LSwingWeights$State;)V"⟩
abbrev cX3_has : ByteArray := prog_5_method_3_code
def yX3_has : MethodName := ⟨RX3, "has", "(I)Z"⟩
abbrev cX3_everyone : ByteArray := prog_5_method_4_code
def yX3_everyone : MethodName := ⟨RX3, "everyone", "()I"⟩
abbrev cX3_append : ByteArray := prog_5_method_5_code
def yX3_append : MethodName := ⟨RX3, "append", "(I)I"⟩
abbrev cX3_drop : ByteArray := prog_5_method_6_code
def yX3_drop : MethodName := ⟨RX3, "drop", "(I)V"⟩
abbrev cX3_closeUp : ByteArray := prog_5_method_7_code
def yX3_closeUp : MethodName := ⟨RX3, "closeUp", "(II)I"⟩
abbrev cX3_makeBloc : ByteArray := prog_5_method_8_code
def yX3_makeBloc : MethodName := ⟨RX3, "makeBloc", "(I)V"⟩
abbrev cX3_isLowest : ByteArray := prog_5_method_9_code
def yX3_isLowest : MethodName := ⟨RX3, "isLowest", "(I)Z"⟩
abbrev cX3_lowestBeside : ByteArray := prog_5_method_10_code
def yX3_lowestBeside : MethodName := ⟨RX3, "lowestBeside", "(I)I"⟩
abbrev cX3_blocCount : ByteArray := prog_5_method_11_code
def yX3_blocCount : MethodName := ⟨RX3, "blocCount", "()I"⟩
abbrev cX3_leaderOf : ByteArray := prog_5_method_12_code
def yX3_leaderOf : MethodName := ⟨RX3, "leaderOf", "(I)I"⟩
abbrev cX3_weightOf : ByteArray := prog_5_method_13_code
def yX3_weightOf : MethodName := ⟨RX3, "weightOf", "(I)I"⟩
abbrev cX3_wholeBlocsIn : ByteArray := prog_5_method_14_code
def yX3_wholeBlocsIn : MethodName := ⟨RX3, "wholeBlocsIn", "(I)I"⟩
abbrev cX3_isWinning : ByteArray := prog_5_method_15_code
def yX3_isWinning : MethodName := ⟨RX3, "isWinning", "(I)Z"⟩
abbrev cX3_hold : ByteArray := prog_5_method_16_code
def yX3_hold : MethodName := ⟨RX3, "hold", "(LSwingWeights$Text;I)V"⟩
abbrev cX3_tellSwings : ByteArray := prog_5_method_17_code
def yX3_tellSwings : MethodName := ⟨RX3, "tellSwings", "(IZ)V"⟩
def RX4 : String := "SwingWeights$Text"
def TX4 : u_T := fun k => match k with
  | 0 => ("SwingWeights$Text", "characters", "[C", true)
  | _ => ("SwingWeights$Text", "length", "I", false)
def tyX4 : Nat → FieldType := fun k => match k with
  | 0 => .array .char
  | _ => .int
abbrev wsX40 : List Cond := u_ws RX4 TX4 2
theorem nmX4 : ∀ a, a < 2 → ∀ b, b < 2 → a ≠ b → (TX4 a).2.1 ≠ (TX4 b).2.1 := by decide +kernel
theorem tyX4_ok : ∀ k, k < 2 → parseFieldDescriptor (TX4 k).2.2.1 = some (tyX4 k) := by decide +kernel
abbrev cX4_init : ByteArray := prog_6_method_1_code
def yX4_init : MethodName := ⟨RX4, "<init>", "()V"⟩
abbrev cX4_append : ByteArray := prog_6_method_2_code
def yX4_append : MethodName := ⟨RX4, "append", "(C)V"⟩
abbrev cX4_at : ByteArray := prog_6_method_3_code
def yX4_at : MethodName := ⟨RX4, "at", "(I)C"⟩
abbrev cX4_fault : ByteArray := prog_6_method_4_code
def yX4_fault : MethodName := ⟨RX4, "fault", "(I)I"⟩
abbrev cX4_isSign : ByteArray := prog_6_method_5_code
def yX4_isSign : MethodName := ⟨RX4, "isSign", "(C)Z"⟩
def RX5 : String := "SwingWeights"
def TX5 : u_T := fun k => match k with
  | 0 => ("SwingWeights", "state", "LSwingWeights$State;", true)
  | 1 => ("SwingWeights", "snapshot", "LSwingWeights$State;", true)
  | 2 => ("SwingWeights", "hasSnapshot", "Z", false)
  | 3 => ("SwingWeights", "history", "LSwingWeights$History;", true)
  | 4 => ("SwingWeights", "text", "LSwingWeights$Text;", true)
  | 5 => ("SwingWeights", "power", "LSwingWeights$Power;", true)
  | _ => ("SwingWeights", "powerIsOfState", "Z", false)
def tyX5 : Nat → FieldType := fun k => match k with
  | 0 => .object "SwingWeights$State"
  | 1 => .object "SwingWeights$State"
  | 2 => .boolean
  | 3 => .object "SwingWeights$History"
  | 4 => .object "SwingWeights$Text"
  | 5 => .object "SwingWeights$Power"
  | _ => .boolean
abbrev wsX50 : List Cond := u_ws RX5 TX5 7
theorem nmX5 : ∀ a, a < 7 → ∀ b, b < 7 → a ≠ b → (TX5 a).2.1 ≠ (TX5 b).2.1 := by decide +kernel
theorem tyX5_ok : ∀ k, k < 7 → parseFieldDescriptor (TX5 k).2.2.1 = some (tyX5 k) := by decide +kernel
abbrev cX5_init : ByteArray := prog_1_method_1_code
def yX5_init : MethodName := ⟨RX5, "<init>", "()V"⟩
abbrev cX5_addMember : ByteArray := prog_1_method_2_code
def yX5_addMember : MethodName := ⟨RX5, "addMember", "(I)I"⟩
abbrev cX5_removeMember : ByteArray := prog_1_method_3_code
def yX5_removeMember : MethodName := ⟨RX5, "removeMember", "(I)I"⟩
abbrev cX5_setWeight : ByteArray := prog_1_method_4_code
def yX5_setWeight : MethodName := ⟨RX5, "setWeight", "(II)I"⟩
abbrev cX5_setVeto : ByteArray := prog_1_method_5_code
def yX5_setVeto : MethodName := ⟨RX5, "setVeto", "(IZ)I"⟩
abbrev cX5_setQuota : ByteArray := prog_1_method_6_code
def yX5_setQuota : MethodName := ⟨RX5, "setQuota", "(I)I"⟩
abbrev cX5_join : ByteArray := prog_1_method_7_code
def yX5_join : MethodName := ⟨RX5, "join", "(II)I"⟩
abbrev cX5_leave : ByteArray := prog_1_method_8_code
def yX5_leave : MethodName := ⟨RX5, "leave", "(I)I"⟩
abbrev cX5_type : ByteArray := prog_1_method_9_code
def yX5_type : MethodName := ⟨RX5, "type", "(C)I"⟩
abbrev cX5_clearText : ByteArray := prog_1_method_10_code
def yX5_clearText : MethodName := ⟨RX5, "clearText", "()I"⟩
abbrev cX5_vote : ByteArray := prog_1_method_11_code
def yX5_vote : MethodName := ⟨RX5, "vote", "()I"⟩
abbrev cX5_undo : ByteArray := prog_1_method_12_code
def yX5_undo : MethodName := ⟨RX5, "undo", "()I"⟩
abbrev cX5_keep : ByteArray := prog_1_method_13_code
def yX5_keep : MethodName := ⟨RX5, "keep", "()I"⟩
abbrev cX5_restore : ByteArray := prog_1_method_14_code
def yX5_restore : MethodName := ⟨RX5, "restore", "()I"⟩
abbrev cX5_member : ByteArray := prog_1_method_15_code
def yX5_member : MethodName := ⟨RX5, "member", "(II)I"⟩
abbrev cX5_share : ByteArray := prog_1_method_16_code
def yX5_share : MethodName := ⟨RX5, "share", "(II)I"⟩
abbrev cX5_wins : ByteArray := prog_1_method_17_code
def yX5_wins : MethodName := ⟨RX5, "wins", "(I)I"⟩
abbrev cX5_leastCoalition : ByteArray := prog_1_method_18_code
def yX5_leastCoalition : MethodName := ⟨RX5, "leastCoalition", "(II)I"⟩
abbrev cX5_ranked : ByteArray := prog_1_method_19_code
def yX5_ranked : MethodName := ⟨RX5, "ranked", "(I)I"⟩
abbrev cX5_withQuota : ByteArray := prog_1_method_20_code
def yX5_withQuota : MethodName := ⟨RX5, "withQuota", "(II)I"⟩
abbrev cX5_leavesOut : ByteArray := prog_1_method_21_code
def yX5_leavesOut : MethodName := ⟨RX5, "leavesOut", "(II)I"⟩
abbrev cX5_fairest : ByteArray := prog_1_method_22_code
def yX5_fairest : MethodName := ⟨RX5, "fairest", "()I"⟩
abbrev cX5_ballot : ByteArray := prog_1_method_23_code
def yX5_ballot : MethodName := ⟨RX5, "ballot", "(II)I"⟩
abbrev cX5_count : ByteArray := prog_1_method_24_code
def yX5_count : MethodName := ⟨RX5, "count", "(I)I"⟩
abbrev cX5_beginAct : ByteArray := prog_1_method_25_code
def yX5_beginAct : MethodName := ⟨RX5, "beginAct", "()V"⟩
abbrev cX5_currentPower : ByteArray := prog_1_method_26_code
def yX5_currentPower : MethodName := ⟨RX5, "currentPower", "()LSwingWeights$Power;"⟩
abbrev cX5_rankOf : ByteArray := prog_1_method_27_code
def yX5_rankOf : MethodName := ⟨RX5, "rankOf", "(ILSwingWeights$Power;)I"⟩
abbrev cX5_isAhead : ByteArray := prog_1_method_28_code
def yX5_isAhead : MethodName := ⟨RX5, "isAhead", "(IILSwingWeights$Power;)Z"⟩
abbrev cX5_isWeight : ByteArray := prog_1_method_29_code
def yX5_isWeight : MethodName := ⟨RX5, "isWeight", "(I)Z"⟩
abbrev cX5_isQuota : ByteArray := prog_1_method_30_code
def yX5_isQuota : MethodName := ⟨RX5, "isQuota", "(I)Z"⟩
abbrev cX5_oneIf : ByteArray := prog_1_method_31_code
def yX5_oneIf : MethodName := ⟨RX5, "oneIf", "(Z)I"⟩
abbrev cX5_bit : ByteArray := prog_1_method_32_code
def yX5_bit : MethodName := ⟨RX5, "bit", "(I)I"⟩
abbrev cX5_holds : ByteArray := prog_1_method_33_code
def yX5_holds : MethodName := ⟨RX5, "holds", "(II)Z"⟩
abbrev cX5_factorial : ByteArray := prog_1_method_34_code
def yX5_factorial : MethodName := ⟨RX5, "factorial", "(I)I"⟩
abbrev cX5_greatestDivisor : ByteArray := prog_1_method_35_code
def yX5_greatestDivisor : MethodName := ⟨RX5, "greatestDivisor", "(II)I"⟩
def RX6 : String := "SwingWeightsModel"
def TX6 : u_T := fun k => match k with
  | 0 => ("SwingWeightsModel", "row", "[I", true)
  | 1 => ("SwingWeightsModel", "past", "[I", true)
  | 2 => ("SwingWeightsModel", "aside", "[I", true)
  | 3 => ("SwingWeightsModel", "states", "I", false)
  | 4 => ("SwingWeightsModel", "isAside", "Z", false)
  | 5 => ("SwingWeightsModel", "text", "[C", true)
  | 6 => ("SwingWeightsModel", "length", "I", false)
  | 7 => ("SwingWeightsModel", "at", "I", false)
  | 8 => ("SwingWeightsModel", "blocs", "I", false)
  | 9 => ("SwingWeightsModel", "lowest", "[I", true)
  | 10 => ("SwingWeightsModel", "weight", "[I", true)
  | 11 => ("SwingWeightsModel", "members", "[I", true)
  | 12 => ("SwingWeightsModel", "vetoes", "I", false)
  | 13 => ("SwingWeightsModel", "wins", "[Z", true)
  | 14 => ("SwingWeightsModel", "swings", "[I", true)
  | 15 => ("SwingWeightsModel", "allSwings", "I", false)
  | 16 => ("SwingWeightsModel", "least", "[I", true)
  | _ => ("SwingWeightsModel", "leastOnes", "I", false)
def tyX6 : Nat → FieldType := fun k => match k with
  | 0 => .array .int
  | 1 => .array .int
  | 2 => .array .int
  | 3 => .int
  | 4 => .boolean
  | 5 => .array .char
  | 6 => .int
  | 7 => .int
  | 8 => .int
  | 9 => .array .int
  | 10 => .array .int
  | 11 => .array .int
  | 12 => .int
  | 13 => .array .boolean
  | 14 => .array .int
  | 15 => .int
  | 16 => .array .int
  | _ => .int
abbrev wsX60 : List Cond := u_ws RX6 TX6 18
theorem nmX6 : ∀ a, a < 18 → ∀ b, b < 18 → a ≠ b → (TX6 a).2.1 ≠ (TX6 b).2.1 := by decide +kernel
theorem tyX6_ok : ∀ k, k < 18 → parseFieldDescriptor (TX6 k).2.2.1 = some (tyX6 k) := by decide +kernel
abbrev cX6_init : ByteArray := prog_8_method_1_code
def yX6_init : MethodName := ⟨RX6, "<init>", "()V"⟩
abbrev cX6_in : ByteArray := prog_8_method_2_code
def yX6_in : MethodName := ⟨RX6, "in", "(III)Z"⟩
abbrev cX6_isIn : ByteArray := prog_8_method_3_code
def yX6_isIn : MethodName := ⟨RX6, "isIn", "(II)Z"⟩
abbrev cX6_many : ByteArray := prog_8_method_4_code
def yX6_many : MethodName := ⟨RX6, "many", "(I)I"⟩
abbrev cX6_record : ByteArray := prog_8_method_5_code
def yX6_record : MethodName := ⟨RX6, "record", "()V"⟩
abbrev cX6_undo : ByteArray := prog_8_method_6_code
def yX6_undo : MethodName := ⟨RX6, "undo", "()I"⟩
abbrev cX6_keep : ByteArray := prog_8_method_7_code
def yX6_keep : MethodName := ⟨RX6, "keep", "()I"⟩
abbrev cX6_restore : ByteArray := prog_8_method_8_code
def yX6_restore : MethodName := ⟨RX6, "restore", "()I"⟩
abbrev cX6_noMember : ByteArray := prog_8_method_9_code
def yX6_noMember : MethodName := ⟨RX6, "noMember", "(I)Z"⟩
abbrev cX6_addMember : ByteArray := prog_8_method_10_code
def yX6_addMember : MethodName := ⟨RX6, "addMember", "(I)I"⟩
abbrev cX6_part : ByteArray := prog_8_method_11_code
def yX6_part : MethodName := ⟨RX6, "part", "(I)V"⟩
abbrev cX6_removeMember : ByteArray := prog_8_method_12_code
def yX6_removeMember : MethodName := ⟨RX6, "removeMember", "(I)I"⟩
abbrev cX6_set : ByteArray := prog_8_method_13_code
def yX6_set : MethodName := ⟨RX6, "set", "(II)I"⟩
abbrev cX6_setWeight : ByteArray := prog_8_method_14_code
def yX6_setWeight : MethodName := ⟨RX6, "setWeight", "(II)I"⟩
abbrev cX6_withVeto : ByteArray := prog_8_method_15_code
def yX6_withVeto : MethodName := ⟨RX6, "withVeto", "()I"⟩
abbrev cX6_setVeto : ByteArray := prog_8_method_16_code
def yX6_setVeto : MethodName := ⟨RX6, "setVeto", "(IZ)I"⟩
abbrev cX6_setQuota : ByteArray := prog_8_method_17_code
def yX6_setQuota : MethodName := ⟨RX6, "setQuota", "(I)I"⟩
abbrev cX6_size : ByteArray := prog_8_method_18_code
def yX6_size : MethodName := ⟨RX6, "size", "(I)I"⟩
abbrev cX6_join : ByteArray := prog_8_method_19_code
def yX6_join : MethodName := ⟨RX6, "join", "(II)I"⟩
abbrev cX6_leave : ByteArray := prog_8_method_20_code
def yX6_leave : MethodName := ⟨RX6, "leave", "(I)I"⟩
abbrev cX6_layBlocs : ByteArray := prog_8_method_21_code
def yX6_layBlocs : MethodName := ⟨RX6, "layBlocs", "()V"⟩
abbrev cX6_blocOf : ByteArray := prog_8_method_22_code
def yX6_blocOf : MethodName := ⟨RX6, "blocOf", "(I)I"⟩
abbrev cX6_weightOf : ByteArray := prog_8_method_23_code
def yX6_weightOf : MethodName := ⟨RX6, "weightOf", "(I)I"⟩
abbrev cX6_winsWith : ByteArray := prog_8_method_24_code
def yX6_winsWith : MethodName := ⟨RX6, "winsWith", "(II)Z"⟩
abbrev cX6_find : ByteArray := prog_8_method_25_code
def yX6_find : MethodName := ⟨RX6, "find", "(I)V"⟩
abbrev cX6_findNow : ByteArray := prog_8_method_26_code
def yX6_findNow : MethodName := ⟨RX6, "findNow", "()V"⟩
abbrev cX6_winning : ByteArray := prog_8_method_27_code
def yX6_winning : MethodName := ⟨RX6, "winning", "()I"⟩
abbrev cX6_factorial : ByteArray := prog_8_method_28_code
def yX6_factorial : MethodName := ⟨RX6, "factorial", "(I)I"⟩
abbrev cX6_orders : ByteArray := prog_8_method_29_code
def yX6_orders : MethodName := ⟨RX6, "orders", "(I)I"⟩
abbrev cX6_isBlocker : ByteArray := prog_8_method_30_code
def yX6_isBlocker : MethodName := ⟨RX6, "isBlocker", "(I)Z"⟩
abbrev cX6_isDictator : ByteArray := prog_8_method_31_code
def yX6_isDictator : MethodName := ⟨RX6, "isDictator", "(I)Z"⟩
abbrev cX6_membersOf : ByteArray := prog_8_method_32_code
def yX6_membersOf : MethodName := ⟨RX6, "membersOf", "(I)I"⟩
abbrev cX6_isLeast : ByteArray := prog_8_method_33_code
def yX6_isLeast : MethodName := ⟨RX6, "isLeast", "(I)Z"⟩
abbrev cX6_isAhead : ByteArray := prog_8_method_34_code
def yX6_isAhead : MethodName := ⟨RX6, "isAhead", "(II)Z"⟩
abbrev cX6_findLeast : ByteArray := prog_8_method_35_code
def yX6_findLeast : MethodName := ⟨RX6, "findLeast", "()V"⟩
abbrev cX6_type : ByteArray := prog_8_method_36_code
def yX6_type : MethodName := ⟨RX6, "type", "(C)I"⟩
abbrev cX6_clearText : ByteArray := prog_8_method_37_code
def yX6_clearText : MethodName := ⟨RX6, "clearText", "()I"⟩
abbrev cX6_ballots : ByteArray := prog_8_method_38_code
def yX6_ballots : MethodName := ⟨RX6, "ballots", "(Z)I"⟩
abbrev cX6_leader : ByteArray := prog_8_method_39_code
def yX6_leader : MethodName := ⟨RX6, "leader", "(I)I"⟩
abbrev cX6_holdBallot : ByteArray := prog_8_method_40_code
def yX6_holdBallot : MethodName := ⟨RX6, "holdBallot", "(I)Z"⟩
abbrev cX6_vote : ByteArray := prog_8_method_41_code
def yX6_vote : MethodName := ⟨RX6, "vote", "()I"⟩
abbrev cX6_rank : ByteArray := prog_8_method_42_code
def yX6_rank : MethodName := ⟨RX6, "rank", "(I)I"⟩
abbrev cX6_member : ByteArray := prog_8_method_43_code
def yX6_member : MethodName := ⟨RX6, "member", "(II)I"⟩
abbrev cX6_common : ByteArray := prog_8_method_44_code
def yX6_common : MethodName := ⟨RX6, "common", "(II)I"⟩
abbrev cX6_share : ByteArray := prog_8_method_45_code
def yX6_share : MethodName := ⟨RX6, "share", "(II)I"⟩
abbrev cX6_wins : ByteArray := prog_8_method_46_code
def yX6_wins : MethodName := ⟨RX6, "wins", "(I)I"⟩
abbrev cX6_leastCoalition : ByteArray := prog_8_method_47_code
def yX6_leastCoalition : MethodName := ⟨RX6, "leastCoalition", "(II)I"⟩
abbrev cX6_ranked : ByteArray := prog_8_method_48_code
def yX6_ranked : MethodName := ⟨RX6, "ranked", "(I)I"⟩
abbrev cX6_dummies : ByteArray := prog_8_method_49_code
def yX6_dummies : MethodName := ⟨RX6, "dummies", "()I"⟩
abbrev cX6_blockers : ByteArray := prog_8_method_50_code
def yX6_blockers : MethodName := ⟨RX6, "blockers", "()I"⟩
abbrev cX6_withQuota : ByteArray := prog_8_method_51_code
def yX6_withQuota : MethodName := ⟨RX6, "withQuota", "(II)I"⟩
abbrev cX6_allWeights : ByteArray := prog_8_method_52_code
def yX6_allWeights : MethodName := ⟨RX6, "allWeights", "()I"⟩
abbrev cX6_leavesOut : ByteArray := prog_8_method_53_code
def yX6_leavesOut : MethodName := ⟨RX6, "leavesOut", "(II)I"⟩
abbrev cX6_apart : ByteArray := prog_8_method_54_code
def yX6_apart : MethodName := ⟨RX6, "apart", "(I)J"⟩
abbrev cX6_fairest : ByteArray := prog_8_method_55_code
def yX6_fairest : MethodName := ⟨RX6, "fairest", "()I"⟩
abbrev cX6_ballot : ByteArray := prog_8_method_56_code
def yX6_ballot : MethodName := ⟨RX6, "ballot", "(II)I"⟩
abbrev cX6_count : ByteArray := prog_8_method_57_code
def yX6_count : MethodName := ⟨RX6, "count", "(I)I"⟩
def RJ6 : String := "java/lang/Integer"
def TJ6 : u_T := fun k => match k with
  | _ => ("", "", "", false)
def tyJ6 : Nat → FieldType := fun k => match k with
  | _ => .int
abbrev wsJ60 : List Cond := u_ws RJ6 TJ6 0
theorem nmJ6 : ∀ a, a < 0 → ∀ b, b < 0 → a ≠ b → (TJ6 a).2.1 ≠ (TJ6 b).2.1 := by decide +kernel
theorem tyJ6_ok : ∀ k, k < 0 → parseFieldDescriptor (TJ6 k).2.2.1 = some (tyJ6 k) := by decide +kernel
abbrev cJ6_compare_7cf53 : ByteArray := prog_9_method_40_code
def yJ6_compare_7cf53 : MethodName := ⟨RJ6, "compare", "(II)I"⟩
abbrev cJ6_bitCount_0f7a4 : ByteArray := prog_9_method_49_code
def yJ6_bitCount_0f7a4 : MethodName := ⟨RJ6, "bitCount", "(I)I"⟩
def RJ9 : String := "java/lang/Math"
def TJ9 : u_T := fun k => match k with
  | _ => ("", "", "", false)
def tyJ9 : Nat → FieldType := fun k => match k with
  | _ => .int
abbrev wsJ90 : List Cond := u_ws RJ9 TJ9 0
theorem nmJ9 : ∀ a, a < 0 → ∀ b, b < 0 → a ≠ b → (TJ9 a).2.1 ≠ (TJ9 b).2.1 := by decide +kernel
theorem tyJ9_ok : ∀ k, k < 0 → parseFieldDescriptor (TJ9 k).2.2.1 = some (tyJ9 k) := by decide +kernel
abbrev cJ9_abs_0f7a4 : ByteArray := prog_10_method_59_code
def yJ9_abs_0f7a4 : MethodName := ⟨RJ9, "abs", "(I)I"⟩
abbrev cJ9_max_7cf53 : ByteArray := prog_10_method_65_code
def yJ9_max_7cf53 : MethodName := ⟨RJ9, "max", "(II)I"⟩
def RJ10 : String := "java/lang/System"
def TJ10 : u_T := fun k => match k with
  | _ => ("", "", "", false)
def tyJ10 : Nat → FieldType := fun k => match k with
  | _ => .int
abbrev wsJ100 : List Cond := u_ws RJ10 TJ10 0
theorem nmJ10 : ∀ a, a < 0 → ∀ b, b < 0 → a ≠ b → (TJ10 a).2.1 ≠ (TJ10 b).2.1 := by decide +kernel
theorem tyJ10_ok : ∀ k, k < 0 → parseFieldDescriptor (TJ10 k).2.2.1 = some (tyJ10 k) := by decide +kernel
def RJ7 : String := "java/util/Arrays"
def TJ7 : u_T := fun k => match k with
  | _ => ("", "", "", false)
def tyJ7 : Nat → FieldType := fun k => match k with
  | _ => .int
abbrev wsJ70 : List Cond := u_ws RJ7 TJ7 0
theorem nmJ7 : ∀ a, a < 0 → ∀ b, b < 0 → a ≠ b → (TJ7 a).2.1 ≠ (TJ7 b).2.1 := by decide +kernel
theorem tyJ7_ok : ∀ k, k < 0 → parseFieldDescriptor (TJ7 k).2.2.1 = some (tyJ7 k) := by decide +kernel
abbrev cJ7_fill_53178 : ByteArray := prog_12_method_103_code
def yJ7_fill_53178 : MethodName := ⟨RJ7, "fill", "([II)V"⟩
def RL : String := "SwingWeightsLaw"
abbrev cL_law : ByteArray := code
def yL_law : MethodName := ⟨RL, "law", "([I)Z"⟩
abbrev vwCl : List vw_C := [(RX0, TX0, 5), (RX1, TX1, 2), (RX2, TX2, 13), (RX3, TX3, 7), (RX4, TX4, 2), (RX5, TX5, 7), (RX6, TX6, 18)]
